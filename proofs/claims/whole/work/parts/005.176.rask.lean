/-! can it be asked, in the model -/
theorem sp_raskable {kd mo gl sg : Nat → Nat} {P made kept : Nat} {aW aP aL : Nat → Nat} {aB : (Nat → Int32)} {hs : Nat → Nat → Nat} {sI : Nat → Nat → Int32} {fc : Bool} {W Pc L S : (Nat → Int32)} {br : Int32} (hT : okT kd mo gl sg) (hP : P ≤ 40) (hk : kept ≤ 200) (hkm : kept ≤ made) (hm : made < 1000000) (h6 : okM1 made kept aW aP aL aB W Pc L S) (hH : okH kd P made kept aW aP aL aB hs sI) (hS : okS kd P (hs made)) (hap : ∀ t, made - kept ≤ t → t < made → aP t < P ∧ aW t ≤ 3) (h0 : fc = true → made = kept → hs 0 = (fun _ => 0)) (hbr : br = 0 ↔ fc = true) (Q : Int32 → Prop)
    (h1 : aOK kd mo made kept aW aP fc → Q 1) (hn : ¬ aOK kd mo made kept aW aP fc → Q 0) : wp_X8_canBeAsked (fun k => nI (kd k)) (fun k => nI (mo k)) (fun k => nI (hs made k)) W (nI made) (nI kept) br Q := by
  unfold wp_X8_canBeAsked
  rw [hbr, nI_le' (by omega) (by omega)]
  refine ⟨fun a => hn (fun z => a z.1), fun a => ⟨fun b => ?_, fun b => hn (fun z => b (by rw [z.2.1]; exact Nat.le_refl _))⟩⟩
  obtain rfl : made = kept := by omega
  have toS : (∀ t, t < made → aW t ≤ 1) → (∀ k, k < 256 → hs made k ≠ 0 → okk kd mo ((hs made k - 1) / 2)) → aOK kd mo made made aW aP fc := by
    intro x1 x2
    have hA := allP_of hH rfl (h0 a rfl) x1
    refine ⟨a, rfl, fun t ht => ⟨x1 t ht, ?_⟩⟩
    have e := aP_a hA made (Nat.le_refl _) t ht
    have := x2 (aL t) (hA.2 t ht).2.1 (by omega)
    rw [e, show (1 + 2 * aP t - 1) / 2 = aP t by omega] at this
    exact this
  have ofS : aOK kd mo made made aW aP fc → ∀ k, hs made k ≠ 0 → okk kd mo ((hs made k - 1) / 2) := by
    intro z k hk0
    have hA := allP_of hH rfl (h0 a rfl) (fun t ht => (z.2.2 t ht).1)
    obtain ⟨t', x1, x2, x3⟩ := aP_b hA made (Nat.le_refl _) k hk0
    rw [x2]
    exact (z.2.2 t' x1).2
  refine lp_up (W := fun f i => wq_X8_canBeAsked_22 (fun k => nI (kd k)) (fun k => nI (mo k)) (fun k => nI (hs made k)) W (nI made) (nI made) br Q f (nI i)) (I := fun i => ∀ k, k < i → hs made k ≠ 0 → okk kd mo ((hs made k - 1) / 2)) 256 ?_ 0 (by decide) (fun t ht => absurd ht (by omega))
  intro f i hi hI ih
  show wf_X8_canBeAsked_22 _ _ _ _ _ _ _ _ _ _
  unfold wf_X8_canBeAsked_22
  rw [le_256 (by omega)]
  refine ⟨fun q => ?_, fun q => ?_⟩
  · obtain rfl : i = 256 := by omega
    refine lp_up (W := fun f j => wq_X8_canBeAsked_103 (fun k => nI (kd k)) (fun k => nI (mo k)) (fun k => nI (hs made k)) W (nI made) (nI made) br Q f (nI j)) (I := fun j => ∀ t, t < j → aW t ≤ 1) made ?_ 0 (Nat.zero_le _) (fun t ht => absurd ht (by omega))
    intro f j hj hJ ih
    show wf_X8_canBeAsked_103 _ _ _ _ _ _ _ _ _ _
    unfold wf_X8_canBeAsked_103
    rw [nI_le' (by omega) (by omega)]
    refine ⟨fun q => ?_, fun q => ?_⟩
    · obtain rfl : j = made := by omega
      exact h1 (toS hJ hI)
    · have hjm : j < made := by omega
      obtain ⟨k1, k2, k3, _⟩ := h6 j (by omega) hjm
      rw [show j - (made - made) = j by omega] at k1
      have hw := (hap j (by omega) hjm).2
      rw [vp_in' (by omega), nI_clamp' (by omega), k1]
      refine ⟨by omega, ?_⟩
      rintro _ rfl
      rw [show ((1 : Int32)) = nI 1 from rfl, nI_le' (by omega) (by omega)]
      refine ⟨fun x => ?_, fun x => hn (fun z => x (z.2.2 j hjm).1)⟩
      rintro _ rfl
      rw [show (nI j + nI 1) = nI (j + 1) from nI_p1 j]
      refine ih hjm (fun t ht => ?_)
      rcases Nat.lt_or_ge t j with y | y
      · exact hJ t y
      · rw [show t = j by omega]; exact x
  · have hi6 : i < 256 := by omega
    have ih := ih hi6
    have hb := (hS.1 i).1
    have go : (hs made i ≠ 0 → okk kd mo ((hs made i - 1) / 2)) → wq_X8_canBeAsked_22 (fun k => nI (kd k)) (fun k => nI (mo k)) (fun k => nI (hs made k)) W (nI made) (nI made) br Q f (nI (i + 1)) := by
      intro hx
      refine ih (fun k hk hk0 => ?_)
      rcases Nat.lt_or_ge k i with y | y
      · exact hI k y hk0
      · obtain rfl : k = i := by omega
        exact hx hk0
    have no : hs made i ≠ 0 → ¬ okk kd mo ((hs made i - 1) / 2) → Q 0 := fun x y => hn (fun z => y (ofS z i x))
    rw [vp_in' (by omega), nI_clamp' (by omega)]
    refine ⟨hi6, ?_⟩
    rintro _ rfl
    rw [eq_0 (by omega)]
    refine ⟨fun x => ⟨hi6, ?_⟩, fun x => ?_⟩
    · rintro _ rfl
      rintro _ rfl
      have hk5 := hT.1 ((hs made i - 1) / 2)
      have hmo := hT.2.1 ((hs made i - 1) / 2)
      have no := no x
      have go := go
      rw [sb_1 (by omega), dv_2 (by omega)]
      generalize hp : (hs made i - 1) / 2 = p at *
      have hp40 : p < 40 := by omega
      rw [vp_in' (by omega), nI_clamp' (by omega)]
      unfold okk at no go
      refine ⟨hp40, ?_⟩
      rintro _ rfl
      rw [eq_0 (by omega)]
      refine ⟨fun y => ?_, fun y => ⟨hp40, ?_⟩⟩
      · rintro _ rfl
        rw [ad_1]
        exact go (fun _ => Or.inl y)
      · rintro _ rfl
        rw [eq_1 (by omega)]
        refine ⟨fun y2 => ?_, fun y2 => ⟨hp40, ?_⟩⟩
        · rintro _ rfl
          rw [ad_1]
          exact go (fun _ => Or.inr (Or.inl y2))
        · rintro _ rfl
          rw [eq_5 (by omega)]
          refine ⟨fun y3 => no (by omega), fun y3 => ⟨hp40, ?_⟩⟩
          rintro _ rfl
          rw [rm_16 (by omega), eq_0 (by omega)]
          refine ⟨fun y4 => ?_, fun y4 => no (by omega)⟩
          rintro _ rfl
          rw [ad_1]
          exact go (fun _ => Or.inr (Or.inr ⟨y3, y4⟩))
    · rintro _ rfl
      rw [ad_1]
      exact go (fun z => absurd x z)
