/-! shapes, each come of an earlier one -/
theorem le_600 {a : Nat} (h : a < 2147483648) : ((600 : Int32) ≤ nI a) = (600 ≤ a) := nI_le' (a := 600) (by decide) h
def itf (f : Nat → Nat) : Nat → Nat → Nat
  | 0, k => k
  | i + 1, k => itf f i (f k)
theorem itf_up (f : Nat → Nat) : ∀ i k, itf f (i + 1) k = f (itf f i k)
  | 0, _ => rfl
  | i + 1, k => by
    show itf f (i + 1) (f k) = f (itf f i (f k))
    exact itf_up f i (f k)
def anc (f : Nat → Nat) (c k : Nat) : Prop := ∃ i, itf f i k = c
theorem anc_r (f : Nat → Nat) (k : Nat) : anc f k k := ⟨0, rfl⟩
theorem anc_up {f : Nat → Nat} {c k : Nat} (h : anc f c k) : anc f (f c) k := by
  obtain ⟨i, e⟩ := h
  exact ⟨i + 1, by rw [itf_up, e]⟩
theorem anc_dn {f : Nat → Nat} {c k : Nat} (h : anc f c k) (hne : k ≠ c) : anc f c (f k) := by
  obtain ⟨i, e⟩ := h
  cases i with
  | zero => exact absurd e hne
  | succ i => exact ⟨i, e⟩
/-- what lies in the first lies in the second -/
def sub (a b : Nat → Nat) : Prop := ∀ j, a j ≠ 0 → b j = a j
theorem sub_r (a : Nat → Nat) : sub a a := fun _ _ => rfl
theorem sub_t {a b c : Nat → Nat} (h : sub a b) (h' : sub b c) : sub a c := fun j hj => by
  have e := h j hj
  rw [h' j (by rw [e]; exact hj), e]
theorem sub_lay {kd : Nat → Nat} {p k : Nat} {on : Nat → Nat} (h : freN kd p k on) : sub on (layN kd p k on) := by
  intro j hj
  rw [lay_v]
  rw [if_neg, if_neg]
  · intro e
    rw [e, h.2.1] at hj
    exact hj rfl
  · rintro ⟨k2, e⟩
    rw [e, (h.2.2 k2).2] at hj
    exact hj rfl
theorem lay_at {kd : Nat → Nat} {p k : Nat} {on : Nat → Nat} : layN kd p k on k = 1 + 2 * p := by
  rw [lay_v, if_neg (by omega), if_pos rfl]
/-- a tree of shapes -/
def okN (kd : Nat → Nat) (P n : Nat) (fq fp fk : Nat → Nat) (sh : Nat → Nat → Nat) : Prop :=
  (∀ j, j < n → okS kd P (sh j)) ∧ ∀ j, 0 < j → j < n → fq j < j ∧ fp j < P ∧ freN kd (fp j) (fk j) (sh (fq j)) ∧ sh j = layN kd (fp j) (fk j) (sh (fq j))
def okNA (n : Nat) (fq fp fk : Nat → Nat) (par pla pie : (Nat → Int32)) : Prop := ∀ j, 0 < j → j < n → par j = nI (fq j) ∧ pla j = nI (celK (fk j)) ∧ pie j = nI (fp j)
section
variable {kd mo gl sg : Nat → Nat} {P n w : Nat} {fq fp fk : Nat → Nat} {sh : Nat → Nat → Nat} {par pla pie : (Nat → Int32)}
theorem anc_lt (h : okN kd P n fq fp fk sh) : ∀ i k, k < n → (∀ j, j < i → 0 < itf fq j k) → itf fq i k ≤ k
  | 0, k, _, _ => Nat.le_refl _
  | i + 1, k, hk, hp => by
    have h0 := hp 0 (by omega)
    have := (h.2 k h0 hk).1
    have := anc_lt h i (fq k) (by omega) (fun j hj => hp (j + 1) (by omega))
    show itf fq i (fq k) ≤ k
    omega
/-- the first goes over into the second by steps above the root -/
def anc0 (f : Nat → Nat) (c k : Nat) : Prop := ∃ i, itf f i k = c ∧ ∀ j, j < i → 0 < itf f j k
theorem anc0_r (f : Nat → Nat) (k : Nat) : anc0 f k k := ⟨0, rfl, fun j hj => absurd hj (by omega)⟩
theorem anc0_up {f : Nat → Nat} {c k : Nat} (h : anc0 f c k) (h0 : 0 < c) : anc0 f (f c) k := by
  obtain ⟨i, e, g⟩ := h
  refine ⟨i + 1, by rw [itf_up, e], fun j hj => ?_⟩
  rcases Nat.lt_or_ge j i with x | x
  · exact g j x
  · rw [show j = i by omega, e]; exact h0
theorem anc0_dn {f : Nat → Nat} {c k : Nat} (h : anc0 f c k) (hne : k ≠ c) : 0 < k ∧ anc0 f c (f k) := by
  obtain ⟨i, e, g⟩ := h
  cases i with
  | zero => exact absurd e hne
  | succ i => exact ⟨g 0 (by omega), i, e, fun j hj => g (j + 1) (by omega)⟩
theorem anc0_sub (h : okN kd P n fq fp fk sh) {c k : Nat} (hk : k < n) (ha : anc0 fq c k) : sub (sh c) (sh k) ∧ c ≤ k := by
  obtain ⟨i, e, g⟩ := ha
  induction i generalizing k with
  | zero => obtain rfl : k = c := e; exact ⟨sub_r _, Nat.le_refl _⟩
  | succ i ih =>
    have h0 := g 0 (by omega)
    obtain ⟨g1, g2, g3, g4⟩ := h.2 k h0 hk
    obtain ⟨i1, i2⟩ := ih (k := fq k) (by omega) e (fun j hj => g (j + 1) (by omega))
    refine ⟨sub_t i1 ?_, by omega⟩
    rw [g4]
    exact sub_lay g3
theorem sp_commonStart (h : okN kd P n fq fp fk sh) (hA : okNA n fq fp fk par pla pie) (hn : n ≤ 300) {a b : Nat} (ha : a < n) (hb : b < n) (Q : Int32 → Prop) (hQ : ∀ c, anc0 fq c a → anc0 fq c b → Q (nI c)) : wp_X3_commonStart par (nI a) (nI b) Q := by
  unfold wp_X3_commonStart
  refine pk_loop (σ := Nat × Nat) (fun f i z => wq_X3_commonStart_8 par Q f (nI z.1) (nI z.2) (nI i)) (fun i z => anc0 fq z.1 a ∧ anc0 fq z.2 b ∧ (z.1 + z.2 + i ≤ 598 ∨ (z.1 = 0 ∧ z.2 = 0))) 600 0 (a, b) (by decide) ⟨anc0_r _ _, anc0_r _ _, Or.inl (by dsimp only; omega)⟩ ?_ ?_
  · rintro f ⟨x, y⟩ ⟨g1, g2, g3⟩
    show wf_X3_commonStart_8 _ _ _ _ _ _
    unfold wf_X3_commonStart_8
    dsimp only at g1 g2 g3
    refine ⟨fun _ => ?_, fun q => absurd (by decide) q⟩
    have : x = y := by omega
    subst this
    exact hQ _ g1 g2
  · rintro f i ⟨x, y⟩ hi ⟨g1, g2, g3⟩ ih
    show wf_X3_commonStart_8 _ _ _ _ _ _
    unfold wf_X3_commonStart_8
    dsimp only at g1 g2 g3
    have hx := (anc0_sub h ha g1).2
    have hy := (anc0_sub h hb g2).2
    rw [le_600 (by omega)]
    refine ⟨fun q => absurd q (by omega), fun _ => ?_⟩
    dsimp only
    rw [nI_eq' (by omega) (by omega), nI_le' (by omega) (by omega)]
    refine ⟨fun e => ?_, fun e => ⟨fun le => ?_, fun le => ?_⟩⟩
    · subst e; exact hQ _ g1 g2
    · rw [vp_in' (by omega), nI_clamp' (by omega), (hA y (by omega) (by omega)).1]
      refine ⟨by omega, ?_⟩
      rintro _ rfl _ rfl
      rw [ad_1]
      have := (h.2 y (by omega) (by omega)).1
      exact ih (x, fq y) ⟨g1, anc0_up g2 (by omega), Or.inl (by dsimp only; omega)⟩
    · rw [vp_in' (by omega), nI_clamp' (by omega), (hA x (by omega) (by omega)).1]
      refine ⟨by omega, ?_⟩
      rintro _ rfl _ rfl
      rw [ad_1]
      have := (h.2 x (by omega) (by omega)).1
      exact ih (fq x, y) ⟨anc0_up g1 (by omega), g2, Or.inl (by dsimp only; omega)⟩
/-- on the way to a shape from one below it -/
def btw (a b c : Nat → Nat) : Nat → Nat := fun j => if b j ≠ 0 then a j else c j
theorem sp_bring {stale stc line : (Nat → Int32)} {nst all : Int32} {fits : (Nat → Int64)} (hk5 : ∀ p, kd p ≤ 5) (hP : P ≤ 40) (h : okN kd P n fq fp fk sh) (hA : okNA n fq fp fk par pla pie) (hn : n ≤ 300) {a b : Nat} (ha : a < n) (hb : b < n) (hF : okFI kd mo gl sg w P (pad (sh a)) stale stc nst fits line all) (Q : (Nat → Int32) → Int32 → Int32 → (Nat → Int32) → (Nat → Int32) → Int32 → Int32 → Prop)
    (hQ : ∀ stale' stc' nst', okFI kd mo gl sg w P (pad (sh b)) stale' stc' nst' fits line all → Q (fun c => nI (cc (pad (sh b) c))) (nI (cnt (sh b))) (nI (grn kd (sh b))) stale' stc' nst' (nI b)) :
    wp_X3_bringSheetTo (fun k => nI (kd k)) par pla pie (fun c => nI (cc (pad (sh a) c))) (nI (cnt (sh a))) (nI (grn kd (sh a))) stale stc nst (nI a) (nI b) Q := by
  unfold wp_X3_bringSheetTo
  refine sp_commonStart h hA hn ha hb _ (fun c ca cb => ?_)
  obtain ⟨sca, lca⟩ := anc0_sub h ha ca
  obtain ⟨scb, lcb⟩ := anc0_sub h hb cb
  have second : ∀ stale stc nst, okFI kd mo gl sg w P (pad (sh c)) stale stc nst fits line all → ∃ k : Nat, wq_X3_bringSheetTo_63 (fun k => nI (kd k)) par pla pie Q k (fun j => nI (cc (pad (sh c) j))) (nI (cnt (sh c))) (nI (grn kd (sh c))) stale stc nst (nI a) (nI b) (nI c) (nI b) 0 := by
    intro stale stc nst hF
    have hend : ∀ stale stc nst, okFI kd mo gl sg w P (pad (btw (sh c) (sh c) (sh b))) stale stc nst fits line all → wq_X3_bringSheetTo_113 (fun k => nI (kd k)) par pla pie Q (fun j => nI (cc (pad (btw (sh c) (sh c) (sh b)) j))) (nI (cnt (btw (sh c) (sh c) (sh b)))) (nI (grn kd (btw (sh c) (sh c) (sh b)))) stale stc nst (nI a) (nI b) := by
      intro stale stc nst hF
      have e : btw (sh c) (sh c) (sh b) = sh b := by
        funext j
        unfold btw
        split
        · rename_i x; rw [scb j x]
        · rfl
      rw [e] at hF ⊢
      exact hQ _ _ _ hF
    have e0 : sh c = btw (sh c) (sh b) (sh b) := by
      funext j
      unfold btw
      split
      · rfl
      · rename_i x
        have x : sh b j = 0 := by simpa using x
        rw [x]
        refine Classical.byContradiction fun y => ?_
        have := scb j y
        omega
    refine pk_loop (σ := Nat × (Nat → Int32) × (Nat → Int32) × Int32) (fun f i z => wq_X3_bringSheetTo_63 (fun k => nI (kd k)) par pla pie Q f (fun j => nI (cc (pad (btw (sh c) (sh z.1) (sh b)) j))) (nI (cnt (btw (sh c) (sh z.1) (sh b)))) (nI (grn kd (btw (sh c) (sh z.1) (sh b)))) z.2.1 z.2.2.1 z.2.2.2 (nI a) (nI b) (nI c) (nI z.1) (nI i)) (fun i z => anc0 fq z.1 b ∧ anc0 fq c z.1 ∧ (z.1 + i ≤ 299 ∨ z.1 = c) ∧ okFI kd mo gl sg w P (pad (btw (sh c) (sh z.1) (sh b))) z.2.1 z.2.2.1 z.2.2.2 fits line all) 300 0 (b, stale, stc, nst) (by decide) ⟨anc0_r _ _, cb, Or.inl (by dsimp only; omega), by dsimp only; rw [← e0]; exact hF⟩ ?_ ?_ |> fun key => ?_
    · dsimp only at key
      rw [← e0] at key
      exact key
    · rintro f ⟨x, s1, s2, s3⟩ ⟨g1, g2, g3, g4⟩
      show wf_X3_bringSheetTo_63 _ _ _ _ _ _ _ _ _ _ _ _ _ _ _ _ _
      unfold wf_X3_bringSheetTo_63
      dsimp only at g1 g2 g3 g4
      refine ⟨fun _ => ?_, fun q => absurd (by decide) q⟩
      have : x = c := by omega
      subst this
      exact hend _ _ _ g4
    · rintro f i ⟨x, s1, s2, s3⟩ hi ⟨g1, g2, g3, g4⟩ ih
      show wf_X3_bringSheetTo_63 _ _ _ _ _ _ _ _ _ _ _ _ _ _ _ _ _
      unfold wf_X3_bringSheetTo_63
      dsimp only at g1 g2 g3 g4
      obtain ⟨sxb, lxb⟩ := anc0_sub h hb g1
      rw [le_300 (by omega)]
      refine ⟨fun q => absurd q (by omega), fun _ => ?_⟩
      dsimp only
      rw [nI_eq' (by omega) (by omega)]
      refine ⟨fun e => ?_, fun e => ?_⟩
      · subst e
        exact hend _ _ _ g4
      · obtain ⟨x0, g2'⟩ := anc0_dn g2 e
        obtain ⟨k1, k2, k3, k4⟩ := h.2 x x0 (by omega)
        obtain ⟨a1, a2, a3⟩ := hA x x0 (by omega)
        obtain ⟨scq, lcq⟩ := anc0_sub h (show fq x < n by omega) g2'
        have c0 : ∀ j, sh (fq x) j = 0 → sh c j = 0 := by
          intro j hj
          refine Classical.byContradiction fun y => ?_
          have := scq j y
          omega
        have hfr : freN kd (fp x) (fk x) (btw (sh c) (sh x) (sh b)) := by
          refine ⟨k3.1, ?_, fun k2' => ⟨(k3.2.2 k2').1, ?_⟩⟩
          · unfold btw
            rw [if_pos (by rw [k4, lay_at]; omega)]
            exact c0 _ k3.2.1
          · unfold btw
            rw [if_pos (by rw [k4, lay_v, if_pos ⟨k2', rfl⟩]; omega)]
            exact c0 _ (k3.2.2 k2').2
        have hlay : layN kd (fp x) (fk x) (btw (sh c) (sh x) (sh b)) = btw (sh c) (sh (fq x)) (sh b) := by
          funext j
          rw [lay_v]
          have hx := lay_v (kd := kd) (p := fp x) (k := fk x) (on := sh (fq x)) j
          rw [← k4] at hx
          by_cases c1 : kd (fp x) = 2 ∧ j = fk x + 1
          · rw [if_pos c1] at hx ⊢
            unfold btw
            rw [if_neg (by rw [c1.2, (k3.2.2 c1.1).2]; simp), sxb j (by omega), hx]
          · rw [if_neg c1] at hx ⊢
            by_cases c2 : j = fk x
            · rw [if_pos c2] at hx ⊢
              unfold btw
              rw [if_neg (by rw [c2, k3.2.1]; simp), sxb j (by omega), hx]
            · rw [if_neg c2] at hx ⊢
              unfold btw
              rw [hx]
        rw [vp_in' (by omega), nI_clamp' (by omega), a1, a2, a3]
        refine ⟨by omega, ?_⟩
        rintro _ rfl
        refine ⟨by omega, ?_⟩
        rintro _ rfl
        refine sp_putDown hk5 hP k2 hfr g4 _ (fun s1' s2' s3' hF' => ⟨by omega, ?_⟩)
        rintro _ rfl _ rfl
        rw [ad_1]
        rw [hlay] at hF' ⊢
        exact ih (fq x, s1', s2', s3') ⟨anc0_up g1 x0, g2', Or.inl (by dsimp only; omega), hF'⟩
  refine pk_loop (σ := Nat × (Nat → Int32) × (Nat → Int32) × Int32) (fun f i z => wq_X3_bringSheetTo_18 (fun k => nI (kd k)) par pla pie Q f (fun j => nI (cc (pad (sh z.1) j))) (nI (cnt (sh z.1))) (nI (grn kd (sh z.1))) z.2.1 z.2.2.1 z.2.2.2 (nI a) (nI b) (nI c) (nI z.1) (nI i)) (fun i z => anc0 fq z.1 a ∧ anc0 fq c z.1 ∧ (z.1 + i ≤ 299 ∨ z.1 = c) ∧ okFI kd mo gl sg w P (pad (sh z.1)) z.2.1 z.2.2.1 z.2.2.2 fits line all) 300 0 (a, stale, stc, nst) (by decide) ⟨anc0_r _ _, ca, Or.inl (by dsimp only; omega), hF⟩ ?_ ?_
  · rintro f ⟨x, s1, s2, s3⟩ ⟨g1, g2, g3, g4⟩
    show wf_X3_bringSheetTo_18 _ _ _ _ _ _ _ _ _ _ _ _ _ _ _ _ _
    unfold wf_X3_bringSheetTo_18
    dsimp only at g1 g2 g3 g4
    refine ⟨fun _ => ?_, fun q => absurd (by decide) q⟩
    have : x = c := by omega
    subst this
    exact second _ _ _ g4
  · rintro f i ⟨x, s1, s2, s3⟩ hi ⟨g1, g2, g3, g4⟩ ih
    show wf_X3_bringSheetTo_18 _ _ _ _ _ _ _ _ _ _ _ _ _ _ _ _ _
    unfold wf_X3_bringSheetTo_18
    dsimp only at g1 g2 g3 g4
    obtain ⟨sxa, lxa⟩ := anc0_sub h ha g1
    rw [le_300 (by omega)]
    refine ⟨fun q => absurd q (by omega), fun _ => ?_⟩
    dsimp only
    rw [nI_eq' (by omega) (by omega)]
    refine ⟨fun e => ?_, fun e => ?_⟩
    · subst e
      exact second _ _ _ g4
    · obtain ⟨x0, g2'⟩ := anc0_dn g2 e
      obtain ⟨k1, k2, k3, k4⟩ := h.2 x x0 (by omega)
      obtain ⟨a1, a2, a3⟩ := hA x x0 (by omega)
      rw [vp_in' (by omega), nI_clamp' (by omega), a1, a2]
      refine ⟨by omega, ?_⟩
      rintro _ rfl
      refine sp_lift (p := fp x) hk5 hP (h.1 x (by omega)) k3.1 (by rw [k4, lay_at]) g4 _ (fun s1' s2' s3' hF' => ⟨by omega, ?_⟩)
      have e : awyN kd (fp x) (fk x) (sh x) = sh (fq x) := by
        rw [k4, awy_lay k3]
      rw [e] at hF' ⊢
      rintro _ rfl _ rfl
      rw [ad_1]
      exact ih (fq x, s1', s2', s3') ⟨anc0_up g1 x0, g2', Or.inl (by dsimp only; omega), hF'⟩
end
