/-! cells whose answer is old -/
def okSt (stale cells : Nat → Int32) (n : Nat) (St : Nat → Bool) : Prop :=
  (∀ c, stale c = bI (St c)) ∧ (∀ c, St c = true → onC c = true) ∧ ∃ sc : Nat → Nat, (∀ i, i < n → cells i = nI (sc i) ∧ St (sc i) = true) ∧ (∀ i j, i < j → j < n → sc i ≠ sc j) ∧ ∀ c, St c = true → ∃ i, i < n ∧ sc i = c
def onI (c : Nat) : Nat := (c % 18 - 1) + 16 * (c / 18 - 1)
theorem onI_lt {c : Nat} (h : onC c = true) : onI c < 256 := by
  have := onC_b h
  unfold onI
  omega
theorem onI_inj {a b : Nat} (ha : onC a = true) (hb : onC b = true) (h : onI a = onI b) : a = b := by
  have h1 := onC_b ha
  have h2 := onC_b hb
  unfold onI at h
  omega
theorem okSt_n {stale cells : Nat → Int32} {n : Nat} {St : Nat → Bool} (h : okSt stale cells n St) : n ≤ 256 := by
  obtain ⟨-, h2, sc, h3, h4, -⟩ := h
  exact fb_holes 256 n (fun i => onI (sc i)) (fun i hi => onI_lt (h2 _ (h3 i hi).2)) (fun i j hij hj e => h4 i j hij hj (onI_inj (h2 _ (h3 i (by omega)).2) (h2 _ (h3 j hj).2) e))
theorem okSt_n' {stale cells : Nat → Int32} {n : Nat} {St : Nat → Bool} (h : okSt stale cells n St) {c : Nat} (hc : onC c = true) (hs : St c = false) : n < 256 := by
  obtain ⟨-, h2, sc, h3, h4, -⟩ := h
  have h5 : ∀ i, i < n → sc i ≠ c := by
    intro i hi e
    have := (h3 i hi).2
    rw [e, hs] at this
    exact absurd this (by decide)
  have := fb_holes 256 (n + 1) (fun i => if i = n then onI c else onI (sc i)) (fun i hi => by
    try dsimp only
    split
    · exact onI_lt hc
    · exact onI_lt (h2 _ (h3 i (by omega)).2)) (fun i j hij hj e => by
    try dsimp only at e
    rw [if_neg (show ¬ i = n by omega)] at e
    split at e
    · exact h5 i (by omega) (onI_inj (h2 _ (h3 i (by omega)).2) hc e)
    · exact h4 i j hij (by omega) (onI_inj (h2 _ (h3 i (by omega)).2) (h2 _ (h3 j (by omega)).2) e))
  omega
theorem sp_isOnSheet {c : Nat} (hc : c < 2147483648) (Q : Int32 → Prop) (h : Q (bI (onC c))) : wp_X7_isOnSheet (nI c) Q := by
  unfold wp_X7_isOnSheet
  rw [rm_18 hc]
  rintro _ rfl
  unfold onC at h
  rw [ls_18 hc, le_306 hc, ls_1 (by omega), gt_16 (by omega)]
  refine ⟨fun q => ?_, fun q => ⟨fun q2 => ?_, fun q2 => ⟨fun q3 => ?_, fun q3 => ⟨fun q4 => ?_, fun q4 => ?_⟩⟩⟩⟩
  · rw [show decide (18 ≤ c) = false by simp; omega] at h
    exact h
  · rw [show decide (c < 306) = false by simp; omega] at h
    simpa [bI] using h
  · rw [show decide (1 ≤ c % 18) = false by simp; omega] at h
    simpa [bI] using h
  · rw [show decide (c % 18 ≤ 16) = false by simp; omega] at h
    simpa [bI] using h
  · rw [show decide (18 ≤ c) = true by simp; omega, show decide (c < 306) = true by simp; omega, show decide (1 ≤ c % 18) = true by simp; omega, show decide (c % 18 ≤ 16) = true by simp; omega] at h
    exact h
theorem sp_markStale {stale cells : Nat → Int32} {n c : Nat} {St : Nat → Bool} (h : okSt stale cells n St) (hc : c < 2147483648) (Q : (Nat → Int32) → (Nat → Int32) → Int32 → Prop)
    (hQ : ∀ stale' cells' n' St', okSt stale' cells' n' St' → (∀ k, St k = true → St' k = true) → (onC c = true → St' c = true) → Q stale' cells' (nI n')) : wp_X4_markStale stale cells (nI n) (nI c) Q := by
  unfold wp_X4_markStale
  apply sp_isOnSheet hc
  rw [bI_0]
  refine ⟨fun q => hQ _ _ _ St h (fun _ a => a) (fun a => by rw [q] at a; exact absurd a (by decide)), fun q => ?_⟩
  rw [Bool.not_eq_false] at q
  have hb := onC_b q
  rw [vp_in' hc, nI_clamp' hc, h.1 c]
  refine ⟨by omega, ?_⟩
  rintro _ rfl
  rw [bI_0]
  refine ⟨fun q2 => hQ _ _ _ St h (fun _ a => a) (fun _ => ts_nf q2), fun q2 => ⟨by omega, ?_⟩⟩
  have hn := okSt_n' h q q2
  rintro _ rfl
  rw [vp_in' (by omega), nI_clamp' (by omega)]
  refine ⟨hn, ?_⟩
  rintro _ rfl _ rfl
  rw [ad_1, nar_1]
  obtain ⟨h1, h2, sc, h3, h4, h5⟩ := h
  refine hQ _ _ (n + 1) (fun k => if k = c then true else St k) ⟨?_, ?_, fun i => if i = n then c else sc i, ?_, ?_, ?_⟩ ?_ ?_
  · intro k
    rw [upd_at]
    try dsimp only
    split
    · rfl
    · exact h1 k
  · intro k hk
    try dsimp only at hk
    split at hk
    · rename_i e; rw [e]; exact q
    · exact h2 k hk
  · intro i hi
    try dsimp only
    rw [upd_at]
    split
    · exact ⟨rfl, if_pos rfl⟩
    · have := h3 i (by omega)
      exact ⟨this.1, by split <;> first | rfl | exact this.2⟩
  · intro i j hij hj
    try dsimp only
    rw [if_neg (show ¬ i = n by omega)]
    split
    · intro e
      have := (h3 i (by omega)).2
      rw [e, q2] at this
      exact absurd this (by decide)
    · exact h4 i j hij (by omega)
  · intro k hk
    try dsimp only at hk
    split at hk
    · rename_i e; exact ⟨n, by omega, (if_pos rfl).trans e.symm⟩
    · obtain ⟨i, hi, e⟩ := h5 k hk
      exact ⟨i, by omega, (if_neg (by omega)).trans e⟩
  · intro k hk
    try dsimp only
    split
    · rfl
    · exact hk
  · intro _
    exact if_pos rfl
/-- the cells that a change at c touches -/
def tch (c k : Nat) : Prop := k + 19 = c ∨ k + 18 = c ∨ k + 2 = c ∨ k + 1 = c ∨ k = c ∨ k = c + 1 ∨ k = c + 17 ∨ k = c + 18
def tcN (c i : Nat) : Nat := if i = 0 then c - 19 else if i = 1 then c - 18 else if i = 2 then c - 2 else if i = 3 then c - 1 else if i = 4 then c else if i = 5 then c + 1 else if i = 6 then c + 17 else c + 18
theorem tcN_le (c i : Nat) : tcN c i ≤ c + 18 := by
  unfold tcN
  repeat' split
  all_goals omega
theorem sub_I {c k : Nat} {x : Int32} (h : k ≤ c) (hx : x = -nI k) : nI c + x = nI (c - k) := by
  subst hx
  rw [← nI_sub' h, Int32.sub_eq_add_neg]
theorem tch_I {c i : Nat} (hc : 19 ≤ c) (hi : i < 8) : nI c + st_TOUCH i = nI (tcN c i) := by
  obtain rfl | rfl | rfl | rfl | rfl | rfl | rfl | rfl : i = 0 ∨ i = 1 ∨ i = 2 ∨ i = 3 ∨ i = 4 ∨ i = 5 ∨ i = 6 ∨ i = 7 := by omega
  · exact sub_I (k := 19) (x := -19) hc (by decide)
  · exact sub_I (k := 18) (x := -18) (by omega) (by decide)
  · exact sub_I (k := 2) (x := -2) (by omega) (by decide)
  · exact sub_I (k := 1) (x := -1) (by omega) (by decide)
  · exact nI_add c 0
  · exact nI_add c 1
  · exact nI_add c 17
  · exact nI_add c 18
theorem sp_touch {stale cells : Nat → Int32} {n c : Nat} {St : Nat → Bool} (h : okSt stale cells n St) (hc : 19 ≤ c) (hc2 : c ≤ 1000) (Q : (Nat → Int32) → (Nat → Int32) → Int32 → Prop)
    (hQ : ∀ stale' cells' n' St', okSt stale' cells' n' St' → (∀ k, St k = true → St' k = true) → (∀ k, tch c k → onC k = true → St' k = true) → Q stale' cells' (nI n')) : wp_X4_touch stale cells (nI n) (nI c) Q := by
  unfold wp_X4_touch
  refine pk_loop (σ := (Nat → Int32) × (Nat → Int32) × Int32) (fun n i s => wq_X4_touch_2 Q n s.1 s.2.1 s.2.2 (nI c) (nI i)) (fun i s => ∃ m St', s.2.2 = nI m ∧ okSt s.1 s.2.1 m St' ∧ (∀ k, St k = true → St' k = true) ∧ ∀ j, j < i → onC (tcN c j) = true → St' (tcN c j) = true) 8 0 (stale, cells, nI n) (by decide) ⟨n, St, rfl, h, fun _ a => a, fun j hj => absurd hj (by omega)⟩ ?_ ?_
  · rintro f ⟨a, b, d⟩ ⟨m, St', e, g1, g2, g3⟩
    show wf_X4_touch_2 _ _ _ _ _ _ _
    unfold wf_X4_touch_2
    refine ⟨fun _ => ?_, fun q => absurd (by decide) q⟩
    have e : d = nI m := e
    subst e
    refine hQ _ _ _ St' g1 g2 (fun k hk ho => ?_)
    unfold tch at hk
    have hk' : ∃ j, j < 8 ∧ tcN c j = k := by
      rcases hk with q | q | q | q | q | q | q | q
      · exact ⟨0, by decide, by simp [tcN]; omega⟩
      · exact ⟨1, by decide, by simp [tcN]; omega⟩
      · exact ⟨2, by decide, by simp [tcN]; omega⟩
      · exact ⟨3, by decide, by simp [tcN]; omega⟩
      · exact ⟨4, by decide, by simp [tcN]; omega⟩
      · exact ⟨5, by decide, by simp [tcN]; omega⟩
      · exact ⟨6, by decide, by simp [tcN]; omega⟩
      · exact ⟨7, by decide, by simp [tcN]; omega⟩
    obtain ⟨j, hj, rfl⟩ := hk'
    exact g3 j hj ho
  · rintro f i ⟨a, b, d⟩ hi ⟨m, St', e, g1, g2, g3⟩ ih
    show wf_X4_touch_2 _ _ _ _ _ _ _
    unfold wf_X4_touch_2
    try dsimp only
    have e : d = nI m := e
    subst e
    rw [le_8 (by omega)]
    refine ⟨fun q => absurd q (by omega), fun _ => ?_⟩
    rw [vp_in' (by omega), nI_clamp' (by omega)]
    refine ⟨hi, ?_⟩
    rintro _ rfl
    rw [tch_I hc hi]
    refine sp_markStale g1 (Nat.lt_of_le_of_lt (tcN_le c i) (by omega)) _ ?_
    rintro a' b' m' St'' k1 k2 k3 _ rfl
    rw [ad_1]
    refine ih (a', b', nI m') ⟨m', St'', rfl, k1, fun k hk => k2 k (g2 k hk), fun j hj ho => ?_⟩
    rcases Nat.lt_or_ge j i with q | q
    · exact k2 _ (g3 j q ho)
    · obtain rfl : j = i := by omega
      exact k3 ho
theorem sp_touchAll {stale cells : Nat → Int32} {n : Nat} {St : Nat → Bool} (h : okSt stale cells n St) (Q : (Nat → Int32) → (Nat → Int32) → Int32 → Prop)
    (hQ : ∀ stale' cells' n' St', okSt stale' cells' n' St' → (∀ k, onC k = true → St' k = true) → Q stale' cells' (nI n')) : wp_X4_touchAll stale cells (nI n) Q := by
  unfold wp_X4_touchAll
  refine pk_loop (σ := (Nat → Int32) × (Nat → Int32) × Int32) (fun n i s => wq_X4_touchAll_2 Q n s.1 s.2.1 s.2.2 (nI i)) (fun i s => ∃ m St', s.2.2 = nI m ∧ okSt s.1 s.2.1 m St' ∧ ∀ j, j < i → onC j = true → St' j = true) 324 0 (stale, cells, nI n) (by decide) ⟨n, St, rfl, h, fun j hj => absurd hj (by omega)⟩ ?_ ?_
  · rintro f ⟨a, b, d⟩ ⟨m, St', e, g1, g3⟩
    show wf_X4_touchAll_2 _ _ _ _ _ _
    unfold wf_X4_touchAll_2
    refine ⟨fun _ => ?_, fun q => absurd (by decide) q⟩
    have e : d = nI m := e
    subst e
    refine hQ _ _ _ St' g1 (fun k ho => g3 k ?_ ho)
    have := onC_b ho
    omega
  · rintro f i ⟨a, b, d⟩ hi ⟨m, St', e, g1, g3⟩ ih
    show wf_X4_touchAll_2 _ _ _ _ _ _
    unfold wf_X4_touchAll_2
    try dsimp only
    have e : d = nI m := e
    subst e
    rw [le_324 (by omega)]
    refine ⟨fun q => absurd q (by omega), fun _ => ?_⟩
    refine sp_markStale g1 (by omega) _ ?_
    rintro a' b' m' St'' k1 k2 k3 _ rfl
    rw [ad_1]
    refine ih (a', b', nI m') ⟨m', St'', rfl, k1, fun j hj ho => ?_⟩
    rcases Nat.lt_or_ge j i with q | q
    · exact k2 _ (g3 j q ho)
    · obtain rfl : j = i := by omega
      exact k3 ho
/-! how many fit: cell, line, all -/
def pc (x : Int64) : Nat := fb_ct (tb x) 64
def lnS (fits : Nat → Int64) (y : Nat) : Nat := fb_sm (fun x => pc (fits (celN x y))) 16
def alS (fits : Nat → Int64) : Nat := fb_sm (lnS fits) 16
def okF (fits : Nat → Int64) (line : Nat → Int32) (all : Int32) : Prop := (∀ y, y < 16 → line y = nI (lnS fits y)) ∧ all = nI (alS fits)
theorem pc_le (x : Int64) : pc x ≤ 64 := fb_ct_le _ _
theorem lnS_le (fits : Nat → Int64) (y : Nat) : lnS fits y ≤ 1024 := by
  have := fb_sm_le (f := fun x => pc (fits (celN x y))) (g := fun _ => 64) (n := 16) (fun k _ => pc_le _)
  rw [fb_sm_const] at this
  exact this
theorem alS_le (fits : Nat → Int64) : alS fits ≤ 16384 := by
  have := fb_sm_le (f := lnS fits) (g := fun _ => 1024) (n := 16) (fun k _ => lnS_le _ _)
  rw [fb_sm_const] at this
  exact this
theorem lnS_upd {fits : Nat → Int64} {v : Int64} {x y : Nat} (hx : x < 16) (hy : y < 16) : lnS (vp_updL fits (celN x y) v) y + pc (fits (celN x y)) = lnS fits y + pc v := by
  unfold lnS
  have e : (fun x' => pc (vp_updL fits (celN x y) v (celN x' y))) = (fun x' => if x' = x then pc v else pc (fits (celN x' y))) := by
    funext x'
    rw [updL_at]
    by_cases q : x' = x
    · subst q; rw [if_pos rfl, if_pos rfl]
    · rw [if_neg q, if_neg (by unfold celN; omega)]
  rw [e]
  exact fb_sm_upd (fun x' => pc (fits (celN x' y))) (pc v) hx
theorem lnS_other {fits : Nat → Int64} {v : Int64} {x y y' : Nat} (hx : x < 16) (hy : y ≠ y') : lnS (vp_updL fits (celN x y) v) y' = lnS fits y' := by
  unfold lnS
  apply fb_sm_cong
  intro k hk
  rw [updL_at, if_neg (by unfold celN; omega)]
theorem alS_upd {fits : Nat → Int64} {v : Int64} {x y : Nat} (hx : x < 16) (hy : y < 16) : alS (vp_updL fits (celN x y) v) + pc (fits (celN x y)) = alS fits + pc v := by
  have h1 := lnS_upd (fits := fits) (v := v) hx hy
  have e : lnS (vp_updL fits (celN x y) v) = (fun y' => if y' = y then lnS (vp_updL fits (celN x y) v) y else lnS fits y') := by
    funext y'
    by_cases q : y' = y
    · subst q; rw [if_pos rfl]
    · rw [if_neg q, lnS_other hx (fun e => q e.symm)]
  have h2 := fb_sm_upd (lnS fits) (lnS (vp_updL fits (celN x y) v) y) hy
  rw [← e] at h2
  unfold alS
  omega
theorem chg_I {a b c d : Nat} (h : d + c = a + b) : nI a + (nI b - nI c) = nI d := by
  rw [Int32.sub_eq_add_neg, ← Int32.add_assoc, nI_add, ← h, ← nI_add, Int32.add_assoc, Int32.add_right_neg, Int32.add_zero]
theorem cel_of {c : Nat} (h : onC c = true) : ∃ x y, x < 16 ∧ y < 16 ∧ c = celN x y := by
  have hb := onC_b h
  exact ⟨c % 18 - 1, c / 18 - 1, by omega, by omega, by unfold celN; omega⟩
theorem sp_renewStale {kd mo gl sg B : Nat → Nat} {P w n : Nat} {stale cells line : Nat → Int32} {fits : Nat → Int64} {all : Int32} {St : Nat → Bool} (hT : okT kd mo gl sg) (hP : P ≤ 40) (h1 : 1 ≤ w) (h3 : w ≤ 3) (hB : ∀ c, okQ kd P (B c)) (hSt : okSt stale cells n St) (hF : okF fits line all)
    (hfit : ∀ c, onC c = true → St c = false → fits c = fitF kd mo gl sg w B P c) (a1 a2 a3 : Int64) (Q : (Nat → Int64) → (Nat → Int32) → Int32 → (Nat → Int32) → Int32 → Int64 → Int64 → Int64 → Prop)
    (hQ : ∀ fits' line' all' stale' b1 b2 b3, okF fits' line' all' → (∀ c, onC c = true → fits' c = fitF kd mo gl sg w B P c) → okSt stale' cells 0 (fun _ => false) → Q fits' line' all' stale' (nI 0) b1 b2 b3) :
    wp_X4_renewStale (nI w) (fun k => nI (sg k)) (fun k => nI (fcF kd mo gl P k)) (fun k => nI (baF kd mo P k)) (fun k => shF kd mo gl P k) (fun k => srF kd mo gl P k) (fun k => brF kd mo P k) (seF kd P) (blF kd P) (fun c => nI (cc (B c))) cells fits line all stale (nI n) a1 a2 a3 Q := by
  have hn := okSt_n hSt
  obtain ⟨s1, s2, sc, s3, s4, s5⟩ := hSt
  unfold wp_X4_renewStale
  refine pk_loop (σ := (Nat → Int64) × (Nat → Int32) × Int32 × (Nat → Int32) × Int64 × Int64 × Int64) (fun f i s => wq_X4_renewStale_2 (nI w) (fun k => nI (sg k)) (fun k => nI (fcF kd mo gl P k)) (fun k => nI (baF kd mo P k)) (fun k => shF kd mo gl P k) (fun k => srF kd mo gl P k) (fun k => brF kd mo P k) (seF kd P) (blF kd P) (fun c => nI (cc (B c))) cells Q f s.1 s.2.1 s.2.2.1 s.2.2.2.1 (nI n) s.2.2.2.2.1 s.2.2.2.2.2.1 s.2.2.2.2.2.2 (nI i))
    (fun i s => okF s.1 s.2.1 s.2.2.1 ∧ (∀ c, onC c = true → s.1 c = fitF kd mo gl sg w B P c ∨ ∃ j, i ≤ j ∧ j < n ∧ sc j = c) ∧ (∀ c, s.2.2.2.1 c = 0 ∨ ∃ j, i ≤ j ∧ j < n ∧ sc j = c)) n 0 (fits, line, all, stale, a1, a2, a3) (Nat.zero_le _) ⟨hF, ?_, ?_⟩ ?_ ?_
  · intro c hc
    cases hs : St c
    · exact Or.inl (hfit c hc hs)
    · obtain ⟨i, hi, e⟩ := s5 c hs
      exact Or.inr ⟨i, Nat.zero_le _, hi, e⟩
  · intro c
    cases hs : St c
    · left
      show stale c = 0
      rw [s1 c, hs]
      rfl
    · obtain ⟨i, hi, e⟩ := s5 c hs
      exact Or.inr ⟨i, Nat.zero_le _, hi, e⟩
  · rintro f ⟨ft, ln, al', sl, b1, b2, b3⟩ ⟨g1, g2, g3⟩
    show wf_X4_renewStale_2 _ _ _ _ _ _ _ _ _ _ _ _ _ _ _ _ _ _ _ _ _ _
    unfold wf_X4_renewStale_2
    try dsimp only at *
    refine ⟨fun _ => ?_, fun q => absurd (nI_le (Nat.le_refl n) (by omega)) q⟩
    refine hQ _ _ _ _ _ _ _ g1 (fun c hc => ?_) ⟨fun c => ?_, fun c hc => absurd hc Bool.false_ne_true, sc, fun i hi => absurd hi (by omega), fun i j _ hj => absurd hj (by omega), fun c hc => absurd hc Bool.false_ne_true⟩
    · rcases g2 c hc with q | ⟨j, q1, q2, _⟩
      · exact q
      · omega
    · rcases g3 c with q | ⟨j, q1, q2, _⟩
      · exact q
      · omega
  · rintro f i ⟨ft, ln, al', sl, b1, b2, b3⟩ hi ⟨g1, g2, g3⟩ ih
    show wf_X4_renewStale_2 _ _ _ _ _ _ _ _ _ _ _ _ _ _ _ _ _ _ _ _ _ _
    unfold wf_X4_renewStale_2
    try dsimp only at g1 g2 g3 ⊢
    rw [nI_le' (by omega) (by omega)]
    refine ⟨fun q => absurd q (by omega), fun _ => ?_⟩
    rw [vp_in' (by omega), nI_clamp' (by omega), (s3 i hi).1]
    refine ⟨by omega, ?_⟩
    rintro _ rfl
    have hon := s2 _ (s3 i hi).2
    have hnew : ∀ c, onC c = true → (c = sc i) ∨ (ft c = fitF kd mo gl sg w B P c ∨ ∃ j, i + 1 ≤ j ∧ j < n ∧ sc j = c) := by
      intro c hc
      rcases g2 c hc with q | ⟨j, q1, q2, q3⟩
      · exact Or.inr (Or.inl q)
      · rcases Nat.lt_or_ge i j with q4 | q4
        · exact Or.inr (Or.inr ⟨j, by omega, q2, q3⟩)
        · left
          rw [← q3]
          congr 1
          omega
    have hold : ∀ c, (c = sc i) ∨ (sl c = 0 ∨ ∃ j, i + 1 ≤ j ∧ j < n ∧ sc j = c) := by
      intro c
      rcases g3 c with q | ⟨j, q1, q2, q3⟩
      · exact Or.inr (Or.inl q)
      · rcases Nat.lt_or_ge i j with q4 | q4
        · exact Or.inr (Or.inr ⟨j, by omega, q2, q3⟩)
        · left
          rw [← q3]
          congr 1
          omega
    generalize sc i = c at *
    apply sp_fitsNow hT hP h1 h3 hB hon
    intro d1 d2 d3
    apply sp_bitCount
    obtain ⟨x, y, hx, hy, rfl⟩ := cel_of hon
    have hcb := onC_b hon
    rw [vp_in' (by omega), nI_clamp' (by omega)]
    refine ⟨by omega, ?_⟩
    rintro _ rfl
    apply sp_bitCount
    rintro _ rfl
    refine ⟨by omega, ?_⟩
    rintro _ rfl
    apply sp_lineOf (by omega) (by omega)
    have e18 : celN x y / 18 - 1 = y := by unfold celN; omega
    have l0 := lnS_upd (fits := ft) (v := fitF kd mo gl sg w B P (celN x y)) hx hy
    have l1 := alS_upd (fits := ft) (v := fitF kd mo gl sg w B P (celN x y)) hx hy
    rw [e18, vp_in' (by omega), nI_clamp' (by omega), g1.1 y hy, g1.2]
    refine ⟨hy, ?_⟩
    rintro _ rfl
    refine ⟨hy, ?_⟩
    rintro _ rfl _ rfl
    refine ⟨by omega, ?_⟩
    rintro _ rfl _ rfl
    rw [ad_1, nar_0, chg_I (show lnS (vp_updL ft (celN x y) (fitF kd mo gl sg w B P (celN x y))) y + fb_ct (tb (ft (celN x y))) 64 = lnS ft y + fb_ct (tb (fitF kd mo gl sg w B P (celN x y))) 64 from l0), chg_I (show alS (vp_updL ft (celN x y) (fitF kd mo gl sg w B P (celN x y))) + fb_ct (tb (ft (celN x y))) 64 = alS ft + fb_ct (tb (fitF kd mo gl sg w B P (celN x y))) 64 from l1)]
    generalize hG : vp_updL ft (celN x y) (fitF kd mo gl sg w B P (celN x y)) = G at *
    refine ih (G, upd ln y (nI (lnS G y)), nI (alS G), upd sl (celN x y) 0, d1, d2, d3) ⟨⟨fun y' hy' => ?_, rfl⟩, fun c hc => ?_, fun c => ?_⟩
    · dsimp only
      rw [upd_at]
      by_cases q : y' = y
      · subst q; rw [if_pos rfl]
      · rw [if_neg q, g1.1 y' hy', ← hG, lnS_other hx (fun e => q e.symm)]
    · dsimp only
      rw [← hG, updL_at]
      by_cases q : c = celN x y
      · subst q; rw [if_pos rfl]; exact Or.inl rfl
      · rw [if_neg q]
        rcases hnew c hc with q2 | q2
        · exact absurd q2 q
        · exact q2
    · dsimp only
      rw [upd_at]
      by_cases q : c = celN x y
      · rw [if_pos q]; exact Or.inl rfl
      · rw [if_neg q]
        rcases hold c with q2 | q2
        · exact absurd q2 q
        · exact q2
