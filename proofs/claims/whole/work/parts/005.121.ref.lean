def okA (P nA f : Nat) (arr : Nat → Int32) (on : Nat → Nat) : Prop := f + 256 ≤ nA ∧ nA ≤ 76800 ∧ (∀ k, k < 256 → arr (f + k) = nI (on k)) ∧ okB P on ∧ P ≤ 40
theorem plc_ix {f x y : Nat} : (nI f + nI x) + ((16 : Int32) * nI y) = nI (f + (x + 16 * y)) := by
  rw [l_16, nI_mul', nI_add, nI_add]
  congr 1
  omega
theorem sp_holdAt {kd mo gl sg on : Nat → Nat} {P nA f : Nat} {arr : Nat → Int32} (hT : okT kd mo gl sg) (hA : okA P nA f arr on) {p h x y d : Nat} (hp : p < 40) (hh : h < 2) (hx : x < 16) (hy : y < 16) (hd : d < 4) (Q : Int32 → Prop)
    (hQ : Q (nI (hAt kd mo gl sg (pad on) p h (celN x y) d))) :
    wp_X8_holdAt nA arr (fun k => nI (sg k)) (fun k => nI (kd k)) (fun k => nI (mo k)) (fun k => nI (gl k)) (nI f) (nI p) (nI h) (nI x) (nI y) (nI d) Q := by
  obtain ⟨hA1, hA2, hA3, hA4, hA5⟩ := hA
  unfold hAt at hQ
  rw [nb_pad hx hy hd] at hQ
  unfold wp_X8_holdAt
  refine sp_nb hx hy hd _ (fun ho => ?_) (fun ho => ?_)
  · obtain ⟨-, hX, hY⟩ := nb_stp hx hy hd ho
    rw [ho] at hQ
    simp only [if_true] at hQ
    generalize nbX x d = X at *
    generalize nbY y d = Y at *
    refine ⟨fun q => absurd q (by decide), fun _ => ?_⟩
    have hk : X + 16 * Y < 256 := by omega
    have hon := hA4 (X + 16 * Y)
    rw [plc_ix, vp_in' (by omega), nI_clamp' (by omega), hA3 _ hk]
    generalize on (X + 16 * Y) = q at *
    refine ⟨by omega, ?_⟩
    rintro _ rfl
    rw [eq_0 (by omega)]
    refine ⟨fun hq => ⟨by omega, ?_⟩, fun hq => ?_⟩
    · rintro _ rfl _ rfl
      rw [if_neg hq] at hQ
      have e1 : nI q - (1 : Int32) = nI (q - 1) := nI_sub' (b := 1) (by omega)
      have e2 : nI (q - 1) / (2 : Int32) = nI ((q - 1) / 2) := dv_2 (by omega)
      have e3 : nI (q - 1) - nI (q - 1) / (2 : Int32) * (2 : Int32) = nI ((q - 1) % 2) := by
        exact rm_2 (by omega)
      have e4 : (nI d + (2 : Int32)) - (nI d + (2 : Int32)) / (4 : Int32) * (4 : Int32) = nI (opp d) := by
        rw [ad_2, rm_4 (by omega)]
        rfl
      rw [e1, e3, e2, e4]
      apply sp_glueOf hT hp hh hd
      have hg := gOf_le hT p h d
      rw [eq_0 (by omega)]
      refine ⟨fun hg0 => ?_, fun hg0 => ?_⟩
      · rw [if_pos hg0] at hQ
        exact hQ
      · rw [if_neg hg0] at hQ
        have ho4 : opp d < 4 := by unfold opp; omega
        apply sp_glueOf hT (by omega) (by omega) ho4
        have hg' := gOf_le hT ((q - 1) / 2) ((q - 1) % 2) (opp d)
        rw [nI_eq' (by omega) (by omega), vp_in' (by omega), nI_clamp' (by omega)]
        refine ⟨fun he => ?_, fun he => ⟨by omega, ?_⟩⟩
        · rw [if_neg he] at hQ
          exact hQ
        · rintro _ rfl
          rw [if_pos he] at hQ
          exact hQ
    · rw [if_pos hq] at hQ
      exact hQ
  · rw [ho] at hQ
    intro u v
    refine ⟨fun _ => ?_, fun q => absurd rfl q⟩
    exact hQ
theorem sp_holdOf {kd mo gl sg on : Nat → Nat} {P nA f : Nat} {arr : Nat → Int32} (hT : okT kd mo gl sg) (hA : okA P nA f arr on) {p x y : Nat} (hp : p < 40) (hx : x < 16) (hy : y < 16) (hb : kd p = 2 → x < 15) (Q : Int32 → Prop)
    (hQ : Q (nI (hOf kd mo gl sg (pad on) p (celN x y)))) :
    wp_X8_holdOf nA arr (fun k => nI (sg k)) (fun k => nI (kd k)) (fun k => nI (mo k)) (fun k => nI (gl k)) (nI f) (nI p) (nI x) (nI y) Q := by
  unfold wp_X8_holdOf
  have key := lp_up (W := fun n i => wq_X8_holdOf_6 nA arr (fun k => nI (sg k)) (fun k => nI (kd k)) (fun k => nI (mo k)) (fun k => nI (gl k)) Q n (nI f) (nI p) (nI x) (nI y) (nI (hUp kd mo gl sg (pad on) p (celN x y) i)) (nI i)) (I := fun _ => True) 4 ?_ 0 (by omega) trivial
  · exact key
  · intro n i hi _ ih
    show wf_X8_holdOf_6 _ _ _ _ _ _ _ _ _ _ _ _ _ _
    unfold wf_X8_holdOf_6
    rw [le_4 (by omega)]
    refine ⟨fun h4 => ?_, fun h4 => ?_⟩
    · obtain rfl : i = 4 := by omega
      exact hQ
    · apply sp_holdAt hT hA hp (by decide) hx hy (by omega)
      rintro _ rfl
      have h1 := hT.1 p
      rw [vp_in' (by omega), nI_clamp' (by omega)]
      refine ⟨by omega, ?_⟩
      rintro _ rfl
      rw [eq_2 (by omega)]
      have ih := ih (by omega) trivial
      unfold hUp at ih
      refine ⟨fun hk => ?_, fun hk => ?_⟩
      · rintro _ rfl
        rw [if_neg hk] at ih
        rw [nI_add, nI_p1]
        exact ih
      · rw [nI_p1]
        have hc : celN x y + 1 = celN (x + 1) y := by unfold celN; omega
        rw [if_pos hk, hc] at ih
        refine sp_holdAt (h := 1) hT hA hp (by decide) (by have := hb hk; omega) hy (by omega) _ ?_
        rintro _ rfl _ rfl
        rw [nI_add, nI_add, nI_p1]
        exact ih
theorem sp_isFree {kd on : Nat → Nat} {P nA f : Nat} {arr : Nat → Int32} (hk5 : ∀ p, kd p ≤ 5) (hA : okA P nA f arr on) {p x y : Nat} (hp : p < 40) (hx : x < 16) (hy : y < 16) (Q : Int32 → Prop)
    (hQ : Q (bI (fre kd (pad on) p (celN x y)))) : wp_X8_isFree nA arr (fun k => nI (kd k)) (nI f) (nI p) (nI x) (nI y) Q := by
  obtain ⟨hA1, hA2, hA3, hA4, hA5⟩ := hA
  have hk : x + 16 * y < 256 := by omega
  have hon := hA4 (x + 16 * y)
  have h1 := hk5 p
  unfold wp_X8_isFree
  apply sp_isOn_t hx hy
  refine ⟨fun q => absurd q (by decide), fun _ => ?_⟩
  rw [plc_ix, vp_in' (by omega), nI_clamp' (by omega), hA3 _ hk]
  refine ⟨by omega, ?_⟩
  rintro _ rfl
  rw [eq_0 (by omega)]
  unfold fre at hQ
  rw [onC_cel hx hy, pad_cel hx hy] at hQ
  refine ⟨fun h0 => ?_, fun h0 => ?_⟩
  · unfold wq_X8_isFree_29 wq_X8_isFree_30
    refine ⟨fun _ => ?_, fun q => absurd rfl q⟩
    simpa [h0, bI] using hQ
  · unfold wq_X8_isFree_30
    refine ⟨fun q => absurd q (by decide), fun _ => ?_⟩
    rw [vp_in' (by omega), nI_clamp' (by omega)]
    refine ⟨by omega, ?_⟩
    rintro _ rfl
    rw [eq_2 (by omega)]
    refine ⟨fun h2 => ?_, fun h2 => ?_⟩
    · simpa [h0, h2, bI] using hQ
    · have hc : celN x y + 1 = celN (x + 1) y := by unfold celN; omega
      rw [nI_p1]
      rcases Nat.lt_or_ge x 15 with h15 | h15
      · apply sp_isOn_t (by omega) hy
        refine ⟨fun q => absurd q (by decide), fun _ => ?_⟩
        have e : ((nI f + nI x) + (1 : Int32)) + ((16 : Int32) * nI y) = nI (f + ((x + 1) + 16 * y)) := by
          rw [l_1, l_16, nI_mul', nI_add, nI_add, nI_add]
          congr 1
          omega
        have hon2 := hA4 (x + 1 + 16 * y)
        rw [e, vp_in' (by omega), nI_clamp' (by omega), hA3 _ (by omega)]
        refine ⟨by omega, ?_⟩
        rintro _ rfl
        rw [hc, onC_cel (by omega) hy, pad_cel (by omega) hy] at hQ
        rw [eq_0 (by omega)]
        refine ⟨fun q => ?_, fun q => ?_⟩
        · show Q 0
          simpa [h0, h2, q, bI] using hQ
        · show Q 1
          simpa [h0, h2, q, bI] using hQ
      · obtain rfl : x = 15 := by omega
        apply sp_isOn_f (Or.inr (Or.inl (by decide)))
        refine ⟨fun _ => ?_, fun q => absurd rfl q⟩
        have hof : onC (celN 15 y + 1) = false := by
          unfold celN onC
          have : (18 * (y + 1) + 15 + 1 + 1) % 18 = 17 := by omega
          simp [this]
        simpa [h0, h2, hof, bI] using hQ
theorem sp_isFree_off {kd : Nat → Nat} {nA f : Nat} {arr : Nat → Int32} {p : Int32} {x y : Int32} (hxy : x < 0 ∨ (16 : Int32) ≤ x ∨ y < 0 ∨ (16 : Int32) ≤ y) (Q : Int32 → Prop)
    (hQ : Q 0) : wp_X8_isFree nA arr (fun k => nI (kd k)) (nI f) p x y Q := by
  unfold wp_X8_isFree
  apply sp_isOn_f hxy
  refine ⟨fun _ => ?_, fun q => absurd rfl q⟩
  unfold wq_X8_isFree_29 wq_X8_isFree_30
  exact ⟨fun _ => hQ, fun q => absurd rfl q⟩
