/-! the reference's sheet and steps -/
theorem sp_isClear {kd on : Nat → Nat} {P : Nat} (hP : P ≤ 40) (hS : okS kd P on) (Q : Int32 → Prop) (h : Q (bI (decide (cnt on = 0)))) : wp_X8_isClear (fun k => nI (on k)) Q := by
  have hx : ∀ b : Bool, bI b = 0 ∨ bI b = 1 := bI_01
  unfold wp_X8_isClear
  refine pk_loop (σ := Bool) (fun n i b => wq_X8_isClear_4 (fun k => nI (on k)) Q n (bI b) (nI i)) (fun i b => (b = true → ∀ k, k < i → on k = 0) ∧ (b = false → ∃ k, on k ≠ 0)) 256 0 true (by decide) ⟨fun _ k hk => absurd hk (by omega), fun q => absurd q (by decide)⟩ ?_ ?_
  · rintro n b ⟨g1, g2⟩
    show wf_X8_isClear_4 _ _ _ _ _
    unfold wf_X8_isClear_4
    refine ⟨fun _ => ⟨hx b, ?_⟩, fun q => absurd (by decide) q⟩
    have e : decide (cnt on = 0) = b := by
      cases b
      · obtain ⟨k, hk⟩ := g2 rfl
        rw [decide_eq_false_iff_not, cnt_0 hS]
        exact fun q => hk (q k)
      · rw [decide_eq_true_iff, cnt_0 hS]
        intro k
        rcases Nat.lt_or_ge k 256 with q | q
        · exact g1 rfl k q
        · exact hS.2.1 k q
    rw [e] at h
    exact h
  · rintro n i b hi ⟨g1, g2⟩ ih
    show wf_X8_isClear_4 _ _ _ _ _
    unfold wf_X8_isClear_4
    rw [le_256 (by omega)]
    refine ⟨fun q => absurd q (by omega), fun _ => ?_⟩
    refine ⟨fun hb => ⟨hx b, ?_⟩, fun hb => ?_⟩
    · rw [bI_0] at hb
      subst hb
      obtain ⟨k, hk⟩ := g2 rfl
      have e : decide (cnt on = 0) = false := by
        rw [decide_eq_false_iff_not, cnt_0 hS]
        exact fun q => hk (q k)
      rw [e] at h
      exact h
    · rw [bI_0, Bool.not_eq_false] at hb
      subst hb
      have := (hS.1 i).1
      rw [vp_in' (by omega), nI_clamp' (by omega)]
      refine ⟨hi, ?_⟩
      rintro _ rfl
      rw [eq_0 (by omega)]
      refine ⟨fun q => ?_, fun q => ?_⟩
      · rintro _ rfl
        rw [ad_1]
        exact ih false ⟨fun e => absurd e (by decide), fun _ => ⟨i, q⟩⟩
      · rintro _ rfl
        rw [ad_1]
        refine ih true ⟨fun _ k hk => ?_, fun e => absurd e (by decide)⟩
        rcases Nat.lt_or_ge k i with q2 | q2
        · exact g1 rfl k q2
        · obtain rfl : k = i := by omega
          exact q
theorem sp_piecesOn {on : Nat → Nat} {P nA f : Nat} {arr : Nat → Int32} (hA : okA P nA f arr on) (Q : Int32 → Prop) (h : Q (nI (cnt on))) : wp_X8_piecesOn nA arr (nI f) Q := by
  obtain ⟨hA1, hA2, hA3, hA4, hA5⟩ := hA
  unfold wp_X8_piecesOn
  refine lp_up (W := fun n i => wq_X8_piecesOn_5 nA arr Q n (nI f) (nI (fb_ct (fun k => decide (on k % 2 = 1)) i)) (nI i)) (I := fun _ => True) 256 ?_ 0 (Nat.zero_le _) trivial
  intro n i hi _ ih
  show wf_X8_piecesOn_5 _ _ _ _ _ _ _
  unfold wf_X8_piecesOn_5
  rw [le_256 (by omega)]
  refine ⟨fun q => ?_, fun q => ?_⟩
  · obtain rfl : i = 256 := by omega
    exact h
  · have hon := hA4 i
    have ih := ih (by omega) trivial
    rw [nI_add, vp_in' (by omega), nI_clamp' (by omega), hA3 i (by omega)]
    refine ⟨by omega, ?_⟩
    rintro _ rfl _ rfl _ rfl
    rw [rm_2 (by omega), nI_add, ad_1]
    rw [fb_ct_succ] at ih
    have e : (if decide (on i % 2 = 1) = true then 1 else 0) = on i % 2 := by
      by_cases q2 : on i % 2 = 1
      · rw [if_pos (by simp [q2]), q2]
      · rw [if_neg (by simp [q2])]
        omega
    rw [e] at ih
    exact ih
def layI (kd : Nat → Nat) (p k : Nat) (arr : Nat → Int32) : Nat → Int32 := if kd p = 2 then upd (upd arr k (nI (1 + 2 * p))) (k + 1) (nI (2 + 2 * p)) else upd arr k (nI (1 + 2 * p))
theorem sp_lay {kd : Nat → Nat} {nA f p k : Nat} {arr : Nat → Int32} (hk5 : ∀ p, kd p ≤ 5) (hp : p < 40) (h1 : f + k < nA) (h2 : kd p = 2 → f + k + 1 < nA) (hn : nA ≤ 76800) (Q : (Nat → Int32) → Prop) (h : Q (layI kd p (f + k) arr)) :
    wp_X8_lay nA (fun k => nI (kd k)) arr (nI f) (nI p) (nI k) Q := by
  have := hk5 p
  unfold wp_X8_lay
  unfold layI at h
  rw [nI_add, vp_in' (by omega), nI_clamp' (by omega), mu_2, da_1]
  refine ⟨h1, ?_⟩
  rintro _ rfl
  rw [vp_in' (by omega), nI_clamp' (by omega)]
  refine ⟨hp, ?_⟩
  rintro _ rfl
  rw [eq_2 (by omega)]
  refine ⟨fun q => ?_, fun q => ?_⟩
  · rw [if_neg q] at h
    exact h
  · rw [if_pos q] at h
    have := h2 q
    rw [ad_1, vp_in' (by omega), nI_clamp' (by omega), da_2]
    refine ⟨this, ?_⟩
    rintro _ rfl
    exact h
theorem layI_N (kd : Nat → Nat) (p k : Nat) (on : Nat → Nat) : layI kd p k (fun j => nI (on j)) = fun j => nI (layN kd p k on j) := by
  unfold layI layN
  split
  · rw [upd_N, upd_N]
  · rw [upd_N]
def sinI (kd : Nat → Nat) (p k : Nat) (v : Int32) (arr : Nat → Int32) : Nat → Int32 := if kd p = 2 then upd (upd arr k v) (k + 1) v else upd arr k v
theorem sp_setSince {kd : Nat → Nat} {p k : Nat} {v : Int32} {arr : Nat → Int32} (hk5 : ∀ p, kd p ≤ 5) (hp : p < 40) (h1 : k < 256) (h2 : kd p = 2 → k + 1 < 256) (Q : (Nat → Int32) → Prop) (h : Q (sinI kd p k v arr)) :
    wp_X8_setSince (fun k => nI (kd k)) arr (nI p) (nI k) v Q := by
  have := hk5 p
  unfold wp_X8_setSince
  unfold sinI at h
  rw [vp_in' (by omega), nI_clamp' (by omega)]
  refine ⟨h1, ?_⟩
  rintro _ rfl
  rw [vp_in' (by omega), nI_clamp' (by omega)]
  refine ⟨hp, ?_⟩
  rintro _ rfl
  rw [eq_2 (by omega)]
  refine ⟨fun q => ?_, fun q => ?_⟩
  · rw [if_neg q] at h
    exact h
  · rw [if_pos q] at h
    have := h2 q
    rw [ad_1, vp_in' (by omega), nI_clamp' (by omega)]
    refine ⟨this, ?_⟩
    rintro _ rfl
    exact h
theorem sp_away {kd on : Nat → Nat} {p k : Nat} (hk5 : ∀ p, kd p ≤ 5) (hp : p < 40) (h1 : k < 256) (h2 : kd p = 2 → k + 1 < 256) (Q : (Nat → Int32) → Prop) (h : Q (fun j => nI (awyN kd p k on j))) :
    wp_X8_away 256 (fun k => nI (kd k)) (fun j => nI (on j)) (nI p) (nI k) Q := by
  have := hk5 p
  unfold wp_X8_away
  unfold awyN at h
  rw [vp_in' (by omega), nI_clamp' (by omega), l_0, upd_N]
  refine ⟨h1, ?_⟩
  rintro _ rfl
  rw [vp_in' (by omega), nI_clamp' (by omega)]
  refine ⟨hp, ?_⟩
  rintro _ rfl
  rw [eq_2 (by omega)]
  refine ⟨fun q => ?_, fun q => ?_⟩
  · rw [if_neg q] at h
    exact h
  · rw [if_pos q] at h
    have := h2 q
    rw [ad_1, vp_in' (by omega), nI_clamp' (by omega), upd_N]
    refine ⟨this, ?_⟩
    rintro _ rfl
    exact h
def shI (i : Nat) (a : Nat → Int32) : Nat → Int32 := fun j => if j + 1 < i then a (j + 1) else a j
theorem shI_s {i : Nat} (hi : 1 ≤ i) (a : Nat → Int32) : upd (shI i a) (i - 1) (shI i a i) = shI (i + 1) a := by
  funext j
  rw [upd_at]
  unfold shI
  by_cases h : j = i - 1
  · rw [if_pos h, if_neg (by omega), if_pos (by omega)]
    congr 1
    omega
  · rw [if_neg h]
    by_cases h2 : j + 1 < i
    · rw [if_pos h2, if_pos (by omega)]
    · rw [if_neg h2, if_neg (by omega)]
theorem sp_step {W Pc L S : Nat → Int32} {made kept : Nat} {x1 x2 x3 x4 : Int32} (hk : kept ≤ 200) (hm : made < 1000000) (Q : (Nat → Int32) → (Nat → Int32) → (Nat → Int32) → (Nat → Int32) → Int32 → Int32 → Prop)
    (h1 : kept < 200 → Q (upd W kept x1) (upd Pc kept x2) (upd L kept x3) (upd S kept x4) (nI (made + 1)) (nI (kept + 1)))
    (h2 : kept = 200 → Q (upd (shI 200 W) 199 x1) (upd (shI 200 Pc) 199 x2) (upd (shI 200 L) 199 x3) (upd (shI 200 S) 199 x4) (nI (made + 1)) (nI 200)) :
    wp_X8_step W Pc L S (nI made) (nI kept) x1 x2 x3 x4 Q := by
  have fin : ∀ {W Pc L S : Nat → Int32} {k : Nat}, k < 200 → Q (upd W k x1) (upd Pc k x2) (upd L k x3) (upd S k x4) (nI (made + 1)) (nI (k + 1)) → wq_X8_step_101 Q W Pc L S (nI made) (nI k) x1 x2 x3 x4 := by
    intro W Pc L S k hk h
    unfold wq_X8_step_101
    rw [vp_in' (by omega), nI_clamp' (by omega)]
    refine ⟨hk, ?_⟩
    rintro _ rfl
    refine ⟨hk, ?_⟩
    rintro _ rfl
    refine ⟨hk, ?_⟩
    rintro _ rfl
    refine ⟨hk, ?_⟩
    rintro _ rfl _ rfl _ rfl
    rw [ad_1, ad_1]
    exact h
  unfold wp_X8_step
  rw [eq_200 (by omega)]
  refine ⟨fun q => fin (by omega) (h1 (by omega)), fun q => ?_⟩
  subst q
  have key := lp_up (W := fun n i => wq_X8_step_13 Q n (shI i W) (shI i Pc) (shI i L) (shI i S) (nI made) (nI 200) x1 x2 x3 x4 (nI i)) (I := fun i => 1 ≤ i) 200 ?_ 1 (by decide) (Nat.le_refl _)
  · have e : ∀ a : Nat → Int32, shI 1 a = a := by
      intro a
      funext j
      unfold shI
      rw [if_neg (by omega)]
    rw [e, e, e, e] at key
    exact key
  · intro n i hi h1i ih
    show wf_X8_step_13 _ _ _ _ _ _ _ _ _ _ _ _ _
    unfold wf_X8_step_13
    rw [le_200 (by omega)]
    refine ⟨fun q => ?_, fun q => ?_⟩
    · obtain rfl : i = 200 := by omega
      rintro _ rfl
      rw [sb_1 (by decide)]
      exact fin (by decide) (h2 rfl)
    · have ih := ih (by omega) (by omega)
      rw [sb_1 h1i, vp_in' (by omega), vp_in' (by omega), nI_clamp' (by omega), nI_clamp' (by omega)]
      refine ⟨by omega, ?_⟩
      rintro _ rfl
      refine ⟨by omega, ?_⟩
      rintro _ rfl
      refine ⟨by omega, ?_⟩
      rintro _ rfl
      refine ⟨by omega, ?_⟩
      rintro _ rfl
      refine ⟨by omega, ?_⟩
      rintro _ rfl
      refine ⟨by omega, ?_⟩
      rintro _ rfl
      refine ⟨by omega, ?_⟩
      rintro _ rfl
      refine ⟨by omega, ?_⟩
      rintro _ rfl _ rfl
      rw [ad_1, shI_s h1i, shI_s h1i, shI_s h1i, shI_s h1i]
      exact ih
/-- the own place of what is at k -/
def ownN (on : Nat → Nat) (k : Nat) : Nat := if on k % 2 = 1 then k else k - 1
/-- the reference's steps: entries since .. by their number -/
def okM1 (made kept : Nat) (aW aP aL : Nat → Nat) (aB : Nat → Int32) (W Pc L S : Nat → Int32) : Prop :=
  ∀ t, made - kept ≤ t → t < made → W (t - (made - kept)) = nI (aW t) ∧ Pc (t - (made - kept)) = nI (aP t) ∧ L (t - (made - kept)) = nI (aL t) ∧ (aW t = 2 → S (t - (made - kept)) = aB t)
def upS (f : Nat → Int32) (k : Nat) (v : Int32) : Nat → Int32 := fun j => if j = k then v else f j
theorem okM1_step {made kept : Nat} {aW aP aL : Nat → Nat} {aB : Nat → Int32} {W Pc L S : Nat → Int32} (hk : kept ≤ 200) (hkm : kept ≤ made) (hm : made < 1000000) (h : okM1 made kept aW aP aL aB W Pc L S) (w p k : Nat) (b : Int32) (x4 : Int32) (hx : w = 2 → x4 = b)
    (Q : (Nat → Int32) → (Nat → Int32) → (Nat → Int32) → (Nat → Int32) → Int32 → Int32 → Prop)
    (hQ : ∀ W' Pc' L' S' kept', kept' = min (kept + 1) 200 → okM1 (made + 1) kept' (upN aW made w) (upN aP made p) (upN aL made k) (upS aB made b) W' Pc' L' S' → Q W' Pc' L' S' (nI (made + 1)) (nI kept')) :
    wp_X8_step W Pc L S (nI made) (nI kept) (nI w) (nI p) (nI k) x4 Q := by
  refine sp_step hk hm Q (fun hlt => hQ _ _ _ _ (kept + 1) (by omega) ?_) (fun heq => hQ _ _ _ _ 200 (by omega) ?_)
  · intro t h1 h2
    have eb : made + 1 - (kept + 1) = made - kept := by omega
    rw [eb] at h1 ⊢
    by_cases ht : t = made
    · subst ht
      have e : t - (t - kept) = kept := by omega
      rw [e, pk_us, pk_us, pk_us, pk_us, upN_s, upN_s, upN_s]
      refine ⟨rfl, rfl, rfl, fun q => ?_⟩
      unfold upS
      rw [if_pos rfl]
      exact hx q
    · have g := h t h1 (by omega)
      have e : t - (made - kept) ≠ kept := by omega
      rw [pk_un e, pk_un e, pk_un e, pk_un e, upN_n ht, upN_n ht, upN_n ht]
      unfold upS
      rw [if_neg ht]
      exact g
  · subst heq
    intro t h1 h2
    by_cases ht : t = made
    · subst ht
      have e : t - (t + 1 - 200) = 199 := by omega
      rw [e, pk_us, pk_us, pk_us, pk_us, upN_s, upN_s, upN_s]
      refine ⟨rfl, rfl, rfl, fun q => ?_⟩
      unfold upS
      rw [if_pos rfl]
      exact hx q
    · have g := h t (by omega) (by omega)
      have e : t - (made + 1 - 200) ≠ 199 := by omega
      rw [pk_un e, pk_un e, pk_un e, pk_un e, upN_n ht, upN_n ht, upN_n ht]
      unfold upS shI
      rw [if_neg ht, if_pos (by omega), if_pos (by omega), if_pos (by omega), if_pos (by omega)]
      have e2 : t - (made + 1 - 200) + 1 = t - (made - 200) := by omega
      rw [e2]
      exact g
/-- all of the reference that steps change -/
def okM (kd on : Nat → Nat) (made kept : Nat) (aW aP aL : Nat → Nat) (aB si : Nat → Int32) (sheet since W Pc L S : Nat → Int32) (steps undoable : Int32) : Prop :=
  sheet = (fun k => nI (on k)) ∧ (∀ k, on k ≠ 0 → since k = si (ownN on k)) ∧ steps = nI made ∧ undoable = nI kept ∧ okM1 made kept aW aP aL aB W Pc L S
theorem lay_v {kd : Nat → Nat} {p k : Nat} {on : Nat → Nat} (j : Nat) : layN kd p k on j = if kd p = 2 ∧ j = k + 1 then 2 + 2 * p else if j = k then 1 + 2 * p else on j := by
  unfold layN upN
  by_cases hk : kd p = 2
  · rw [if_pos hk]
    by_cases e : j = k + 1
    · rw [if_pos e, if_pos ⟨hk, e⟩]
    · rw [if_neg e, if_neg (show ¬ (kd p = 2 ∧ j = k + 1) from fun q => e q.2)]
  · rw [if_neg hk, if_neg (show ¬ (kd p = 2 ∧ j = k + 1) from fun q => hk q.1)]
theorem sin_v {kd : Nat → Nat} {p k : Nat} {v : Int32} {f : Nat → Int32} (j : Nat) : sinI kd p k v f j = if (kd p = 2 ∧ j = k + 1) ∨ j = k then v else f j := by
  unfold sinI
  by_cases hk : kd p = 2
  · rw [if_pos hk, upd_at, upd_at]
    by_cases e : j = k + 1
    · rw [if_pos e, if_pos (Or.inl ⟨hk, e⟩)]
    · rw [if_neg e]
      by_cases e2 : j = k
      · rw [if_pos e2, if_pos (Or.inr e2)]
      · rw [if_neg e2, if_neg (by rintro (q | q); exact e q.2; exact e2 q)]
  · rw [if_neg hk, upd_at]
    by_cases e2 : j = k
    · rw [if_pos e2, if_pos (Or.inr e2)]
    · rw [if_neg e2, if_neg (by rintro (q | q); exact hk q.1; exact e2 q)]
theorem since_lay {kd : Nat → Nat} {P p k : Nat} {on : Nat → Nat} {si since : Nat → Int32} {v : Int32} (hS : okS kd P on) (hf : freN kd p k on) (h : ∀ j, on j ≠ 0 → since j = si (ownN on j)) :
    ∀ j, layN kd p k on j ≠ 0 → sinI kd p k v since j = upS si k v (ownN (layN kd p k on) j) := by
  obtain ⟨f1, f2, f3⟩ := hf
  intro j hj
  rw [sin_v]
  unfold ownN upS
  rw [lay_v] at hj ⊢
  by_cases e1 : kd p = 2 ∧ j = k + 1
  · rw [if_pos e1, if_pos (Or.inl e1), if_neg (show ¬ (2 + 2 * p) % 2 = 1 by omega), if_pos (show j - 1 = k by omega)]
  · rw [if_neg e1] at hj ⊢
    by_cases e2 : j = k
    · rw [if_pos e2, if_pos (Or.inr e2), if_pos (show (1 + 2 * p) % 2 = 1 by omega), if_pos e2]
    · rw [if_neg e2] at hj ⊢
      rw [if_neg (by rintro (q | q); exact e1 q; exact e2 q), h j hj]
      unfold ownN
      by_cases ho : on j % 2 = 1
      · rw [if_pos ho, if_neg e2]
      · have g := hS.2.2.2 j hj (by omega)
        rw [if_neg ho, if_neg]
        intro q
        rw [q, f2] at g
        omega
theorem okM_puts {kd on : Nat → Nat} {P made kept : Nat} {aW aP aL : Nat → Nat} {aB si : Nat → Int32} {sheet since W Pc L S : Nat → Int32} {steps undoable : Int32} (hk5 : ∀ p, kd p ≤ 5) (hP : P ≤ 40) (hS : okS kd P on) (hk : kept ≤ 200) (hkm : kept ≤ made) (hm : made < 1000000) (h : okM kd on made kept aW aP aL aB si sheet since W Pc L S steps undoable)
    {w p x y : Nat} (hw : w ≠ 2) (hp : p < P) (hx : x < 16) (hf : freN kd p (x + 16 * y) on)
    (Q : (Nat → Int32) → (Nat → Int32) → (Nat → Int32) → (Nat → Int32) → (Nat → Int32) → (Nat → Int32) → Int32 → Int32 → Prop)
    (hQ : ∀ sheet' since' W' Pc' L' S' steps' undoable' kept', kept' = min (kept + 1) 200 → okM kd (layN kd p (x + 16 * y) on) (made + 1) kept' (upN aW made w) (upN aP made p) (upN aL made (x + 16 * y)) aB (upS si (x + 16 * y) (nI made)) sheet' since' W' Pc' L' S' steps' undoable' → Q sheet' since' W' Pc' L' S' steps' undoable') :
    wp_X8_puts (fun k => nI (kd k)) sheet since W Pc L S steps undoable (nI w) (nI p) (nI x) (nI y) Q := by
  obtain ⟨rfl, h2, rfl, rfl, h5⟩ := h
  have f1 := hf.1
  have f3 : kd p = 2 → x + 16 * y + 1 < 256 := fun q => by have := hf.2.2 q; omega
  unfold wp_X8_puts
  rw [mu_16, nI_add]
  rintro _ rfl
  refine sp_lay (f := 0) hk5 (by omega) (by omega) (fun q => by have := f3 q; omega) (by decide) _ ?_
  rw [Nat.zero_add, layI_N]
  refine sp_setSince hk5 (by omega) f1 f3 _ ?_
  refine okM1_step hk hkm hm h5 w p (x + 16 * y) (aB made) (-1) (fun q => absurd q hw) _ ?_
  intro W' Pc' L' S' kept' e g
  have eB : upS aB made (aB made) = aB := by
    funext j
    unfold upS
    split
    · rename_i q; rw [q]
    · rfl
  rw [eB] at g
  exact hQ _ _ _ _ _ _ _ _ kept' e ⟨rfl, since_lay hS hf h2, rfl, rfl, g⟩
theorem sp_clear {kd on : Nat → Nat} {P : Nat} {since : Nat → Int32} {steps undoable brought : Int32} (hP : P ≤ 40) (hS : okS kd P on) (Q : Int32 → (Nat → Int32) → (Nat → Int32) → Int32 → Int32 → Int32 → Prop)
    (h : Q (nI (cnt on)) (fun _ => nI 0) (fun j => if j < 256 then -1 else since j) 0 0 0) : wp_X8_clear (fun k => nI (on k)) since steps undoable brought Q := by
  unfold wp_X8_clear
  refine sp_piecesOn (f := 0) (okA_sheet hP (okS_B hS)) _ ?_
  have key := lp_up (W := fun n i => wq_X8_clear_12 Q n (fun j => if j < i then nI 0 else nI (on j)) (fun j => if j < i then -1 else since j) steps undoable brought (nI (cnt on)) (nI i)) (I := fun _ => True) 256 ?_ 0 (Nat.zero_le _) trivial
  · exact key
  · intro n i hi _ ih
    show wf_X8_clear_12 _ _ _ _ _ _ _ _ _
    unfold wf_X8_clear_12
    rw [le_256 (by omega)]
    refine ⟨fun q => ?_, fun q => ?_⟩
    · obtain rfl : i = 256 := by omega
      unfold wp_X8_noSteps
      have e : (fun j => if j < 256 then nI 0 else nI (on j)) = fun _ => nI 0 := by
        funext j
        split
        · rfl
        · rw [hS.2.1 j (by omega)]
      rw [e]
      exact h
    · have ih := ih (by omega) trivial
      rw [vp_in' (by omega), nI_clamp' (by omega)]
      refine ⟨by omega, ?_⟩
      rintro _ rfl
      refine ⟨by omega, ?_⟩
      rintro _ rfl _ rfl
      rw [ad_1]
      have e1 : upd (fun j => if j < i then nI 0 else nI (on j)) i 0 = fun j => if j < i + 1 then nI 0 else nI (on j) := by
        funext j
        rw [upd_at]
        by_cases q1 : j = i
        · rw [if_pos q1, if_pos (by omega)]; rfl
        · rw [if_neg q1]
          by_cases q2 : j < i
          · rw [if_pos q2, if_pos (by omega)]
          · rw [if_neg q2, if_neg (by omega)]
      have e2 : upd (fun j => if j < i then (-1 : Int32) else since j) i (-1) = fun j => if j < i + 1 then -1 else since j := by
        funext j
        rw [upd_at]
        by_cases q1 : j = i
        · rw [if_pos q1, if_pos (by omega)]
        · rw [if_neg q1]
          by_cases q2 : j < i
          · rw [if_pos q2, if_pos (by omega)]
          · rw [if_neg q2, if_neg (by omega)]
      rw [e1, e2]
      exact ih
