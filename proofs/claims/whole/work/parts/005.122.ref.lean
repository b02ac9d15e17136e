theorem opn_t {kd mo B : Nat → Nat} {p c : Nat} (h : ∀ d, d < 4 → op1 kd mo B p c d = true) : opn kd mo B p c = true := by
  unfold opn
  rw [h 0 (by decide), h 1 (by decide), h 2 (by decide), h 3 (by decide)]
  rfl
theorem opn_f {kd mo B : Nat → Nat} {p c d : Nat} (hd : d < 4) (h : op1 kd mo B p c d = false) : opn kd mo B p c = false := by
  unfold opn
  obtain rfl | rfl | rfl | rfl : d = 0 ∨ d = 1 ∨ d = 2 ∨ d = 3 := by omega
  all_goals simp [h]
theorem sp_isOpen {kd mo gl sg on : Nat → Nat} {P nA f : Nat} {arr : Nat → Int32} (hT : okT kd mo gl sg) (hA : okA P nA f arr on) {p x y : Nat} (hp : p < 40) (hx : x < 16) (hy : y < 16) (Q : Int32 → Prop)
    (hQ : Q (bI (opn kd mo (pad on) p (celN x y)))) : wp_X8_isOpen nA arr (fun k => nI (kd k)) (fun k => nI (mo k)) (nI f) (nI p) (nI x) (nI y) Q := by
  obtain ⟨hA1, hA2, hA3, hA4, hA5⟩ := hA
  unfold wp_X8_isOpen
  refine lp_up (W := fun n i => wq_X8_isOpen_3 nA arr (fun k => nI (kd k)) (fun k => nI (mo k)) Q n (nI f) (nI p) (nI x) (nI y) (nI i)) (I := fun i => ∀ d, d < i → op1 kd mo (pad on) p (celN x y) d = true) 4 ?_ 0 (by omega) (fun d h => absurd h (by omega))
  intro n i hi hI ih
  show wf_X8_isOpen_3 _ _ _ _ _ _ _ _ _ _ _
  unfold wf_X8_isOpen_3
  rw [le_4 (by omega)]
  refine ⟨fun h4 => ?_, fun h4 => ?_⟩
  · obtain rfl : i = 4 := by omega
    rw [opn_t hI] at hQ
    exact hQ
  · have hi4 : i < 4 := by omega
    have go : op1 kd mo (pad on) p (celN x y) i = true → ∀ v102 : Int32, v102 = nI i + (1 : Int32) → wq_X8_isOpen_3 nA arr (fun k => nI (kd k)) (fun k => nI (mo k)) Q n (nI f) (nI p) (nI x) (nI y) v102 := by
      rintro h1 _ rfl
      rw [nI_p1]
      refine ih hi4 (fun d hd => ?_)
      rcases Nat.lt_or_ge d i with q | q
      · exact hI d q
      · obtain rfl : d = i := by omega
        exact h1
    have ho1 : op1 kd mo (pad on) p (celN x y) i = (pad on (stp (celN x y) i) == 0 || (!brd kd mo ((pad on (stp (celN x y) i) - 1) / 2) (opp i) && !brd kd mo p i)) := rfl
    rw [nb_pad hx hy hi4] at ho1
    refine sp_nb hx hy hi4 _ (fun ho => ?_) (fun ho => ?_)
    · obtain ⟨-, hX, hY⟩ := nb_stp hx hy hi4 ho
      rw [ho] at ho1
      simp only [if_true] at ho1
      generalize nbX x i = X at *
      generalize nbY y i = Y at *
      refine ⟨fun q => absurd q (by decide), fun _ => ?_⟩
      have hk : X + 16 * Y < 256 := by omega
      have hon := hA4 (X + 16 * Y)
      rw [plc_ix, vp_in' (by omega), nI_clamp' (by omega), hA3 _ hk]
      generalize on (X + 16 * Y) = q at *
      refine ⟨by omega, ?_⟩
      rintro _ rfl
      rw [eq_0 (by omega)]
      refine ⟨fun hq => ⟨by omega, ?_⟩, fun hq => go (by rw [ho1]; simp [hq])⟩
      rintro _ rfl _ rfl
      have e1 : (nI q - (1 : Int32)) / (2 : Int32) = nI ((q - 1) / 2) := by
        rw [sb_1 (by omega), dv_2 (by omega)]
      have e4 : (nI i + (2 : Int32)) - (nI i + (2 : Int32)) / (4 : Int32) * (4 : Int32) = nI (opp i) := by
        rw [ad_2, rm_4 (by omega)]
        rfl
      rw [e1, e4]
      have ho4 : opp i < 4 := by unfold opp; omega
      apply sp_isBarred hT (by omega) ho4
      rw [bI_0, Bool.not_eq_false]
      refine ⟨fun hb => ?_, fun hb => ?_⟩
      · rw [opn_f hi4 (by rw [ho1]; simp [hb, hq])] at hQ
        exact hQ
      · apply sp_isBarred hT hp hi4
        rw [bI_0, Bool.not_eq_false]
        refine ⟨fun hb2 => go (by rw [ho1]; simp [hb, hb2]), fun hb2 => ?_⟩
        rw [opn_f hi4 (by rw [ho1]; simp [hb2, hq])] at hQ
        exact hQ
    · rw [ho] at ho1
      intro u v
      exact ⟨fun _ => go (by rw [ho1]; rfl), fun q => absurd rfl q⟩
theorem sp_mayCome {kd mo gl sg on : Nat → Nat} {P nA f w : Nat} {arr : Nat → Int32} (hT : okT kd mo gl sg) (hA : okA P nA f arr on) (hw : w ≤ 3) {p x y : Nat} (hp : p < 40) (hx : x < 16) (hy : y < 16) (Q : Int32 → Prop)
    (hQ : Q (bI (mayC kd mo gl sg w (pad on) p (celN x y)))) : wp_X8_mayCome nA arr (fun k => nI (sg k)) (fun k => nI (kd k)) (fun k => nI (mo k)) (fun k => nI (gl k)) (nI w) (nI f) (nI p) (nI x) (nI y) Q := by
  have h1 := hT.1 p
  unfold wp_X8_mayCome
  unfold mayC at hQ
  rw [vp_in' (by omega), nI_clamp' (by omega)]
  refine ⟨by omega, ?_⟩
  rintro _ rfl
  rw [eq_1 (by omega)]
  refine ⟨fun hs => ?_, fun hs => ?_⟩
  · simpa [hs, bI] using hQ
  apply sp_isFree hT.1 hA hp hx hy
  rw [bI_0, Bool.not_eq_false]
  refine ⟨fun hf => ?_, fun hf => ?_⟩
  · simpa [hf, bI] using hQ
  have hb : kd p = 2 → x < 15 := by
    intro hk
    rcases Nat.lt_or_ge x 15 with q | q
    · exact q
    · exfalso
      obtain rfl : x = 15 := by omega
      have hof : onC (celN 15 y + 1) = false := by
        unfold celN onC
        have : (18 * (y + 1) + 15 + 1 + 1) % 18 = 17 := by omega
        simp [this]
      unfold fre at hf
      simp [hk, hof] at hf
  apply sp_holdOf hT hA hp hx hy hb
  have hle := hUp_le hT (pad on) p (celN x y) 4
  have hle2 : hOf kd mo gl sg (pad on) p (celN x y) ≤ 24 := hle
  rw [nI_le' (by omega) (by omega)]
  refine ⟨fun hw1 => ?_, fun hw1 => ?_⟩
  · apply sp_isOpen hT hA hp hx hy
    rw [bI_0, Bool.not_eq_false]
    refine ⟨fun ho => ?_, fun ho => ⟨by omega, ?_⟩⟩
    · simpa [ho, bI] using hQ
    · rintro _ rfl
      rw [eq_2 (by omega)]
      refine ⟨fun hk => ?_, fun hk => ?_⟩
      · simpa [hs, hf, hw1, ho, hk, bI] using hQ
      · have hx15 := hb hk
        rw [ad_1]
        have hc : celN x y + 1 = celN (x + 1) y := by unfold celN; omega
        rw [hc] at hQ
        apply sp_isOpen hT hA hp (by omega) hy
        rw [bI_0, Bool.not_eq_false]
        refine ⟨fun ho2 => ?_, fun ho2 => ?_⟩
        · simpa [ho2, hk, bI] using hQ
        · simpa [hs, hf, hw1, ho, ho2, hk, bI] using hQ
  · simpa [hw1, bI] using hQ
theorem sp_mayCome_off {kd mo gl sg : Nat → Nat} {nA f : Nat} {arr : Nat → Int32} {w : Int32} (hT : okT kd mo gl sg) {p : Nat} {x y : Int32} (hp : p < 40) (hxy : x < 0 ∨ (16 : Int32) ≤ x ∨ y < 0 ∨ (16 : Int32) ≤ y) (Q : Int32 → Prop)
    (hQ : Q 0) : wp_X8_mayCome nA arr (fun k => nI (sg k)) (fun k => nI (kd k)) (fun k => nI (mo k)) (fun k => nI (gl k)) w (nI f) (nI p) x y Q := by
  have h1 := hT.1 p
  unfold wp_X8_mayCome
  rw [vp_in' (by omega), nI_clamp' (by omega)]
  refine ⟨by omega, ?_⟩
  rintro _ rfl
  refine ⟨fun _ => hQ, fun _ => ?_⟩
  apply sp_isFree_off hxy
  exact ⟨fun _ => hQ, fun q => absurd rfl q⟩
