/-! row, choice, grow -/
def mk0 (kd mo on : Nat → Nat) (k : Nat) : Nat := if on k = 0 then 0 else mrF kd mo ((on k - 1) / 2)
def rowB (kd mo on : Nat → Nat) (y : Nat) : Nat → Nat
  | 0 => 0
  | i + 1 => 2 * rowB kd mo on y i + mk0 kd mo on (i + 16 * y) - 1
theorem mrF_le {kd mo gl sg : Nat → Nat} (hT : okT kd mo gl sg) (p : Nat) : mrF kd mo p ≤ 3250 := by
  have := hT.2.1 p
  unfold mrF
  split <;> omega
theorem rowB_lt {kd mo on : Nat → Nat} {y : Nat} : ∀ i, (∀ j, j < i → mk0 kd mo on (j + 16 * y) = 1 ∨ mk0 kd mo on (j + 16 * y) = 2) → rowB kd mo on y i < 2 ^ i
  | 0, _ => Nat.one_pos
  | i + 1, h => by
    have ih := rowB_lt (kd := kd) (mo := mo) (on := on) (y := y) i (fun j hj => h j (by omega))
    have := h i (by omega)
    rw [rowB, Nat.pow_succ]
    omega
theorem sp_crow {kd mo gl sg on : Nat → Nat} {P y c : Nat} (hT : okT kd mo gl sg) (hP : P ≤ 40) (hS : okS kd P on) (hy : y < 16) (h1 : 1 ≤ c) (h16 : c ≤ 16) (Q : Int32 → Prop)
    (hQ1 : (∀ j, j < c → mk0 kd mo on (j + 16 * y) = 1 ∨ mk0 kd mo on (j + 16 * y) = 2) → Q (nI (rowB kd mo on y c))) (hQ0 : ¬ (∀ j, j < c → mk0 kd mo on (j + 16 * y) = 1 ∨ mk0 kd mo on (j + 16 * y) = 2) → Q (-1)) :
    wp_X7_row (fun k => nI (mrF kd mo k)) (fun c => nI (cc (pad on c))) (nI y) (nI c) Q := by
  unfold wp_X7_row
  refine ⟨fun q => absurd q (nI_pos (by omega)), fun _ => ⟨fun q => absurd q (nI_ge (a := y) (b := 16) hy (by decide)), fun _ => ⟨fun q => absurd q (nI_nlt (a := c) (b := 1) h1 (by omega)), fun _ => ⟨fun _ => ?_, fun q => absurd (nI_le (a := c) (b := 16) h16 (by decide)) q⟩⟩⟩⟩
  refine lp_up (W := fun n i => wq_X7_row_28 (fun k => nI (mrF kd mo k)) (fun c => nI (cc (pad on c))) Q n (nI y) (nI c) (nI (rowB kd mo on y i)) (nI i)) (I := fun i => ∀ j, j < i → mk0 kd mo on (j + 16 * y) = 1 ∨ mk0 kd mo on (j + 16 * y) = 2) c ?_ 0 (Nat.zero_le _) (fun j hj => absurd hj (by omega))
  intro n i hi hI ih
  show wf_X7_row_28 _ _ _ _ _ _ _ _
  unfold wf_X7_row_28
  rw [nI_le' (by omega) (by omega)]
  refine ⟨fun q => ?_, fun q => ?_⟩
  · obtain rfl : i = c := by omega
    exact hQ1 hI
  · have hx : i < 16 := by omega
    have hc := onC_b (onC_cel hx hy)
    have hq := (hS.1 (i + 16 * y)).1
    have hlt := rowB_lt i hI
    have h2i : 2 ^ i ≤ 2 ^ 16 := Nat.pow_le_pow_right (by decide) (by omega)
    have hmk : mk0 kd mo on (i + 16 * y) ≤ 3250 := by
      unfold mk0
      split
      · omega
      · exact mrF_le hT _
    have fin : wq_X7_row_73 (fun k => nI (mrF kd mo k)) (fun c => nI (cc (pad on c))) (wq_X7_row_28 (fun k => nI (mrF kd mo k)) (fun c => nI (cc (pad on c))) Q n) Q (nI y) (nI c) (nI (rowB kd mo on y i)) (nI i) (nI (mk0 kd mo on (i + 16 * y))) := by
      unfold wq_X7_row_73 wq_X7_row_89
      have go : (mk0 kd mo on (i + 16 * y) = 1 ∨ mk0 kd mo on (i + 16 * y) = 2) → ∀ v97 : Int32, v97 = ((2 : Int32) * nI (rowB kd mo on y i) + nI (mk0 kd mo on (i + 16 * y))) - 1 → ∀ v98 : Int32, v98 = nI i + 1 → wq_X7_row_28 (fun k => nI (mrF kd mo k)) (fun c => nI (cc (pad on c))) Q n (nI y) (nI c) v97 v98 := by
        rintro h _ rfl _ rfl
        rw [mu_2, nI_add, sb_1 (by omega), ad_1]
        refine ih (by omega) (fun j hj => ?_)
        rcases Nat.lt_or_ge j i with a | a
        · exact hI j a
        · obtain rfl : j = i := by omega
          exact h
      rw [eq_1 (by omega), eq_2 (by omega)]
      exact ⟨fun a => go (Or.inl a), fun a => ⟨fun b => go (Or.inr b), fun b => hQ0 (fun all => (all i (by omega)).elim a b)⟩⟩
    apply sp_placeOf_t hx hy
    rw [vp_in' (by omega), nI_clamp' (by omega)]
    refine ⟨by omega, ?_⟩
    rintro _ rfl
    dsimp only
    rw [pad_cel hx hy]
    refine sp_pieceIn (by omega) _ (fun a => ?_) (fun a => ?_)
    · refine ⟨fun b => absurd rfl b, fun _ => ?_⟩
      have e : mk0 kd mo on (i + 16 * y) = 0 := if_pos a
      rw [e] at fin
      exact fin
    · refine ⟨fun _ => ?_, fun b => absurd b (nI_nm1 (by omega))⟩
      rw [vp_in' (by omega), nI_clamp' (by omega)]
      refine ⟨by omega, ?_⟩
      rintro _ rfl
      have e : mk0 kd mo on (i + 16 * y) = mrF kd mo ((on (i + 16 * y) - 1) / 2) := if_neg a
      rw [e] at fin
      exact fin
theorem sp_rrow {kd mo gl sg on : Nat → Nat} {P y c : Nat} {si since : (Nat → Int32)} (hT : okT kd mo gl sg) (hP : P ≤ 40) (hS : okS kd P on) (hsi : ∀ k, on k ≠ 0 → since k = si (ownN on k)) (hy : y < 16) (h1 : 1 ≤ c) (h16 : c ≤ 16) (Q : Int32 → Prop)
    (hQ1 : (∀ j, j < c → mk0 kd mo on (j + 16 * y) = 1 ∨ mk0 kd mo on (j + 16 * y) = 2) → Q (nI (rowB kd mo on y c))) (hQ0 : ¬ (∀ j, j < c → mk0 kd mo on (j + 16 * y) = 1 ∨ mk0 kd mo on (j + 16 * y) = 2) → Q (-1)) :
    wp_X8_row (fun k => nI (sg k)) (fun k => nI (kd k)) (fun k => nI (mo k)) (fun k => nI (gl k)) (fun k => nI (on k)) since (nI y) (nI c) Q := by
  unfold wp_X8_row
  refine ⟨fun q => absurd q (nI_pos (by omega)), fun _ => ⟨fun q => absurd q (nI_ge (a := y) (b := 16) hy (by decide)), fun _ => ⟨fun q => absurd q (nI_nlt (a := c) (b := 1) h1 (by omega)), fun _ => ⟨fun _ => ?_, fun q => absurd (nI_le (a := c) (b := 16) h16 (by decide)) q⟩⟩⟩⟩
  refine lp_up (W := fun n i => wq_X8_row_28 (fun k => nI (sg k)) (fun k => nI (kd k)) (fun k => nI (mo k)) (fun k => nI (gl k)) (fun k => nI (on k)) since Q n (nI y) (nI c) (nI (rowB kd mo on y i)) (nI i)) (I := fun i => ∀ j, j < i → mk0 kd mo on (j + 16 * y) = 1 ∨ mk0 kd mo on (j + 16 * y) = 2) c ?_ 0 (Nat.zero_le _) (fun j hj => absurd hj (by omega))
  intro n i hi hI ih
  show wf_X8_row_28 _ _ _ _ _ _ _ _ _ _ _ _
  unfold wf_X8_row_28
  rw [nI_le' (by omega) (by omega)]
  refine ⟨fun q => ?_, fun q => ?_⟩
  · obtain rfl : i = c := by omega
    exact hQ1 hI
  · have hx : i < 16 := by omega
    have hlt := rowB_lt i hI
    have h2i : 2 ^ i ≤ 2 ^ 16 := Nat.pow_le_pow_right (by decide) (by omega)
    have hmk : mrF kd mo ((on (i + 16 * y) - 1) / 2) ≤ 3250 := mrF_le hT _
    refine sp_rof hT hP hS hsi hx hy _ ?_
    unfold ofV
    unfold wq_X8_row_58
    by_cases h0 : on (i + 16 * y) = 0
    · rw [if_pos h0]
      refine ⟨fun a => absurd a (by decide), fun _ => ⟨fun a => absurd a (by decide), fun _ => hQ0 (fun all => ?_)⟩⟩
      have e : mk0 kd mo on (i + 16 * y) = 0 := if_pos h0
      have := all i (by omega)
      omega
    · rw [if_neg h0, if_neg (by decide), if_pos rfl]
      have e : mk0 kd mo on (i + 16 * y) = mrF kd mo ((on (i + 16 * y) - 1) / 2) := if_neg h0
      have go : (mk0 kd mo on (i + 16 * y) = 1 ∨ mk0 kd mo on (i + 16 * y) = 2) → ∀ v97 : Int32, v97 = ((2 : Int32) * nI (rowB kd mo on y i) + nI (mrF kd mo ((on (i + 16 * y) - 1) / 2))) - 1 → ∀ v98 : Int32, v98 = nI i + 1 → wq_X8_row_28 (fun k => nI (sg k)) (fun k => nI (kd k)) (fun k => nI (mo k)) (fun k => nI (gl k)) (fun k => nI (on k)) since Q n (nI y) (nI c) v97 v98 := by
        rintro h _ rfl _ rfl
        rw [← e, mu_2, nI_add, sb_1 (by omega), ad_1]
        refine ih (by omega) (fun j hj => ?_)
        rcases Nat.lt_or_ge j i with a | a
        · exact hI j a
        · obtain rfl : j = i := by omega
          exact h
      rw [eq_1 (by omega), eq_2 (by omega)]
      exact ⟨fun a => go (Or.inl (e.trans a)), fun a => ⟨fun b => go (Or.inr (e.trans b)), fun b => hQ0 (fun all => (all i (by omega)).elim (fun q => a (e.symm.trans q)) (fun q => b (e.symm.trans q)))⟩⟩
/-! choice -/
def chV (what : Int32) (y x p : Nat) : Int32 := if what = 0 then nI p else if what = 1 then nI x else if what = 2 then nI y else -1
theorem sp_cchoice {kd mo gl sg on : Nat → Nat} {P w : Nat} {k what : Int32} {stale stc line : (Nat → Int32)} {n all : Int32} {fits : (Nat → Int64)} (hT : okT kd mo gl sg) (hP : P ≤ 40) (h1 : 1 ≤ w) (h3 : w ≤ 3) (hS : okS kd P on) (hFI : okFI kd mo gl sg w P (pad on) stale stc n fits line all) (a1 a2 a3 : Int64)
    (Q : Int32 → (Nat → Int64) → (Nat → Int32) → Int32 → (Nat → Int32) → Int32 → Int64 → Int64 → Int64 → Prop)
    (hQ1 : ∀ j y x p fits' line' all' stale' n' b1 b2 b3, k = nI j → CH kd mo gl sg w (pad on) P j y x p → okFI kd mo gl sg w P (pad on) stale' stc n' fits' line' all' → Q (chV what y x p) fits' line' all' stale' n' b1 b2 b3)
    (hQ0 : ((what < 0 ∨ (2 : Int32) < what) ∨ k < 0 ∨ nI (nA kd mo gl sg w (pad on) P) ≤ k) → ∀ fits' line' all' stale' n' b1 b2 b3, okFI kd mo gl sg w P (pad on) stale' stc n' fits' line' all' → Q (-1) fits' line' all' stale' n' b1 b2 b3) :
    wp_X7_choice (nI w) (fun k => nI (sg k)) (fun k => nI (fcF kd mo gl P k)) (fun k => nI (baF kd mo P k)) (fun k => shF kd mo gl P k) (fun k => srF kd mo gl P k) (fun k => brF kd mo P k) (seF kd P) (blF kd P) (fun c => nI (cc (pad on c))) stc fits line all stale n a1 a2 a3 k what Q := by
  have hFI0 := hFI
  obtain ⟨m, St, rfl, g1, g2, g3⟩ := hFI
  have hnA : nA kd mo gl sg w (pad on) P ≤ 10240 := nY_le hP 16
  unfold wp_X7_choice
  refine ⟨fun q => hQ0 (Or.inl (Or.inl q)) _ _ _ _ _ _ _ _ hFI0, fun q0 => ⟨fun q => hQ0 (Or.inl (Or.inr q)) _ _ _ _ _ _ _ _ hFI0, fun q1 => ⟨fun q => hQ0 (Or.inr (Or.inl q)) _ _ _ _ _ _ _ _ hFI0, fun q2 => ?_⟩⟩⟩
  refine sp_countFits hT hP h1 h3 (okS_pad hS) g1 g2 g3 a1 a2 a3 _ ?_
  intro fits' line' all' stale' b1 b2 b3 k1 k2 k3
  obtain ⟨j, hj, rfl⟩ := nI_of q2
  rw [nI_lt' (by omega) (by omega)]
  refine ⟨fun hlt => ?_, fun hge => hQ0 (Or.inr (Or.inr (nI_le (by omega) (by omega)))) _ _ _ _ _ _ _ _ (okFI_fresh k1 k2 k3)⟩
  refine sp_findFit (n := 0) hT hP h1 h3 (okS_pad hS) k3 k1 (fun c hc _ => k2 c hc) hlt b1 b2 b3 _ ?_
  intro y x p fits2 line2 all2 stale2 d1 d2 d3 hCH e1 e2 e3
  have hx := hCH.2.2.2.1
  have hy := hCH.2.2.1
  have hp := hCH.2.2.2.2
  have hcb := onC_b (onC_cel hx hy)
  have hz := fun what' (hw : what = what') => hQ1 j y x p fits2 line2 all2 stale2 (nI 0) d1 d2 d3 rfl hCH (okFI_fresh e1 e2 e3)
  have hz := hz what rfl
  unfold chV at hz
  refine ⟨fun _ => ?_, fun q => absurd q (nI_nm1 (by omega))⟩
  rw [dv_64 (by omega), show (64 * celN x y + p) / 64 = celN x y by omega]
  rintro _ rfl
  refine ⟨fun w0 => ?_, fun w1 => ?_, fun n0 n1 => ?_⟩
  · rw [if_pos w0] at hz
    rw [show nI (64 * celN x y + p) - nI (celN x y) * (64 : Int32) = nI p by rw [um_64, nI_sub' (by omega)]; congr 1; omega]
    exact hz
  · subst w1
    rw [if_neg (by decide), if_pos rfl] at hz
    apply sp_columnOf (by omega) (by omega)
    rw [show celN x y % 18 - 1 = x by unfold celN; omega]
    exact hz
  · have w2 : what = 2 := by
      obtain ⟨j2, hj2, rfl⟩ := nI_of q0
      rw [gt_2 (by omega)] at q1
      have a0 : j2 ≠ 0 := fun e => n0 (by rw [e]; rfl)
      have a1 : j2 ≠ 1 := fun e => n1 (by rw [e]; rfl)
      have : j2 = 2 := by omega
      rw [this]
      rfl
    subst w2
    rw [if_neg (by decide), if_neg (by decide), if_pos rfl] at hz
    apply sp_lineOf (by omega) (by omega)
    rw [show celN x y / 18 - 1 = y by unfold celN; omega]
    exact hz
theorem sp_rchoice {kd mo gl sg on : Nat → Nat} {P w : Nat} {k what : Int32} (hT : okT kd mo gl sg) (hP : P ≤ 40) (h3 : w ≤ 3) (hS : okS kd P on) (Q : Int32 → Prop)
    (hQ1 : ∀ j y x p, k = nI j → CH kd mo gl sg w (pad on) P j y x p → Q (chV what y x p)) (hQ0 : (k < 0 ∨ nI (nA kd mo gl sg w (pad on) P) ≤ k) → Q (-1)) :
    wp_X8_choice (fun k => nI (sg k)) (fun k => nI (kd k)) (fun k => nI (mo k)) (fun k => nI (gl k)) (nI P) (nI w) (fun k => nI (on k)) k what Q := by
  have hnA : nA kd mo gl sg w (pad on) P ≤ 10240 := nY_le hP 16
  unfold wp_X8_choice
  by_cases hk : k < 0
  · refine sp_choiceAt_neg hk _ ?_
    exact ⟨fun q => absurd q (by decide), fun _ => hQ0 (Or.inl hk)⟩
  · obtain ⟨j, hj, rfl⟩ := nI_of hk
    refine sp_choiceAt hT hP h3 (okS_B hS) hj _ ?_ ?_
    · intro y x p hCH
      have hx := hCH.2.2.2.1
      have hy := hCH.2.2.1
      have hp := hCH.2.2.2.2
      have hz := hQ1 j y x p rfl hCH
      unfold chV at hz
      refine ⟨fun _ => ?_, fun q => absurd (nI_pos' (by omega)) q⟩
      rw [dv_64 (by omega), show (p + 64 * (x + 16 * y)) / 64 = x + 16 * y by omega]
      rintro _ rfl
      refine ⟨fun n0 => ⟨fun n1 => ⟨fun n2 => ?_, fun w2 => ?_⟩, fun w1 => ?_⟩, fun w0 => ?_⟩
      · rw [if_neg n0, if_neg n1, if_neg n2] at hz
        exact hz
      · rw [if_neg n0, if_neg n1, if_pos w2] at hz
        rw [dv_16 (by omega), show (x + 16 * y) / 16 = y by omega]
        exact hz
      · rw [if_neg n0, if_pos w1] at hz
        rw [rm_16 (by omega), show (x + 16 * y) % 16 = x by omega]
        exact hz
      · rw [if_pos w0] at hz
        rw [show nI (p + 64 * (x + 16 * y)) - nI (x + 16 * y) * (64 : Int32) = nI p by rw [um_64, nI_sub' (by omega)]; congr 1; omega]
        exact hz
    · intro hge
      exact ⟨fun q => absurd q (by decide), fun _ => hQ0 (Or.inr (nI_le hge (by omega)))⟩
