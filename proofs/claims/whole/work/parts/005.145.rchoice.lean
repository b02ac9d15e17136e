/-! the reference counts and finds choices -/
theorem okA_sheet {P : Nat} {on : Nat → Nat} (hP : P ≤ 40) (hon : okB P on) : okA P 256 0 (fun k => nI (on k)) on := ⟨by decide, by decide, fun k _ => by rw [Nat.zero_add], hon, hP⟩
theorem rk_p (kd mo gl sg : Nat → Nat) (w : Nat) (B : Nat → Nat) (P y x p : Nat) : rk kd mo gl sg w B P y x (p + 1) = rk kd mo gl sg w B P y x p + (if mayC kd mo gl sg w B p (celN x y) then 1 else 0) := by
  unfold rk
  rw [fb_ct_succ]
  omega
theorem rk_x (kd mo gl sg : Nat → Nat) (w : Nat) (B : Nat → Nat) (P y x : Nat) : rk kd mo gl sg w B P y x P = rk kd mo gl sg w B P y (x + 1) 0 := by
  unfold rk
  rw [nX_s]
  show _ + nC kd mo gl sg w B P (celN x y) = _ + 0
  omega
theorem rk_y (kd mo gl sg : Nat → Nat) (w : Nat) (B : Nat → Nat) (P y : Nat) : rk kd mo gl sg w B P y 16 0 = rk kd mo gl sg w B P (y + 1) 0 0 := by
  unfold rk
  rw [nY_s]
  show _ + 0 = _ + 0 + 0
  omega
theorem rk_A (kd mo gl sg : Nat → Nat) (w : Nat) (B : Nat → Nat) (P : Nat) : rk kd mo gl sg w B P 16 0 0 = nA kd mo gl sg w B P := by
  unfold rk nA nX
  rw [fb_sm, fb_ct]
  omega
theorem sp_choices {kd mo gl sg on : Nat → Nat} {P w : Nat} (hT : okT kd mo gl sg) (hP : P ≤ 40) (hw : w ≤ 3) (hon : okB P on) (Q : Int32 → Prop) (h : Q (nI (nA kd mo gl sg w (pad on) P))) :
    wp_X8_choices (fun k => nI (sg k)) (fun k => nI (kd k)) (fun k => nI (mo k)) (fun k => nI (gl k)) (nI P) (nI w) (fun k => nI (on k)) Q := by
  have hA := okA_sheet hP hon
  unfold wp_X8_choices
  refine lp_up (W := fun n i => wq_X8_choices_4 (fun k => nI (sg k)) (fun k => nI (kd k)) (fun k => nI (mo k)) (fun k => nI (gl k)) (nI P) (nI w) (fun k => nI (on k)) Q n (nI (rk kd mo gl sg w (pad on) P i 0 0)) (nI i)) (I := fun _ => True) 16 ?_ 0 (Nat.zero_le _) trivial
  intro n y hy _ ih
  show wf_X8_choices_4 _ _ _ _ _ _ _ _ _ _ _
  unfold wf_X8_choices_4
  rw [le_16 (by omega)]
  refine ⟨fun q => ?_, fun q => ?_⟩
  · obtain rfl : y = 16 := by omega
    rw [rk_A]
    exact h
  · have hy16 : y < 16 := by omega
    have ih := ih hy16 trivial
    have key := lp_up (W := fun m i => wq_X8_choices_12 (fun k => nI (sg k)) (fun k => nI (kd k)) (fun k => nI (mo k)) (fun k => nI (gl k)) (nI P) (nI w) (fun k => nI (on k)) (wq_X8_choices_4 (fun k => nI (sg k)) (fun k => nI (kd k)) (fun k => nI (mo k)) (fun k => nI (gl k)) (nI P) (nI w) (fun k => nI (on k)) Q n) Q m (nI (rk kd mo gl sg w (pad on) P y i 0)) (nI y) (nI i)) (I := fun _ => True) 16 ?_ 0 (Nat.zero_le _) trivial
    · exact key
    · intro m x hx _ ihx
      show wf_X8_choices_12 _ _ _ _ _ _ _ _ _ _ _ _ _
      unfold wf_X8_choices_12
      rw [le_16 (by omega)]
      refine ⟨fun q2 => ?_, fun q2 => ?_⟩
      · obtain rfl : x = 16 := by omega
        rintro _ rfl
        rw [ad_1, rk_y]
        exact ih
      · have hx16 : x < 16 := by omega
        have ihx := ihx hx16 trivial
        have key := lp_up (W := fun m' i => wq_X8_choices_21 (fun k => nI (sg k)) (fun k => nI (kd k)) (fun k => nI (mo k)) (fun k => nI (gl k)) (nI P) (nI w) (fun k => nI (on k)) (wq_X8_choices_4 (fun k => nI (sg k)) (fun k => nI (kd k)) (fun k => nI (mo k)) (fun k => nI (gl k)) (nI P) (nI w) (fun k => nI (on k)) Q n) (wq_X8_choices_12 (fun k => nI (sg k)) (fun k => nI (kd k)) (fun k => nI (mo k)) (fun k => nI (gl k)) (nI P) (nI w) (fun k => nI (on k)) (wq_X8_choices_4 (fun k => nI (sg k)) (fun k => nI (kd k)) (fun k => nI (mo k)) (fun k => nI (gl k)) (nI P) (nI w) (fun k => nI (on k)) Q n) Q m) Q m' (nI (rk kd mo gl sg w (pad on) P y x i)) (nI y) (nI x) (nI i)) (I := fun _ => True) P ?_ 0 (Nat.zero_le _) trivial
        · exact key
        · intro m' p hp _ ihp
          show wf_X8_choices_21 _ _ _ _ _ _ _ _ _ _ _ _ _ _ _
          unfold wf_X8_choices_21
          rw [nI_le' (by omega) (by omega)]
          refine ⟨fun q3 => ?_, fun q3 => ?_⟩
          · obtain rfl : p = P := by omega
            rintro _ rfl
            rw [ad_1, rk_x]
            exact ihx
          · have ihp := ihp (by omega) trivial
            rw [rk_p] at ihp
            refine sp_mayCome (f := 0) hT hA hw (by omega) hx16 hy16 _ ?_
            rw [bI_0]
            refine ⟨fun q4 => ?_, fun q4 => ?_⟩
            · rintro _ rfl _ rfl
              rw [q4, if_neg (by decide)] at ihp
              rw [ad_0, ad_1]
              exact ihp
            · rw [Bool.not_eq_false] at q4
              rintro _ rfl _ rfl
              rw [q4, if_pos rfl] at ihp
              rw [ad_1, ad_1]
              exact ihp
theorem sp_choiceAt {kd mo gl sg on : Nat → Nat} {P w j : Nat} (hT : okT kd mo gl sg) (hP : P ≤ 40) (hw : w ≤ 3) (hon : okB P on) (hj : j < 2147483648) (Q : Int32 → Prop) (h : ∀ y x p, CH kd mo gl sg w (pad on) P j y x p → Q (nI (p + 64 * (x + 16 * y)))) (h2 : nA kd mo gl sg w (pad on) P ≤ j → Q (-1)) :
    wp_X8_choiceAt (fun k => nI (sg k)) (fun k => nI (kd k)) (fun k => nI (mo k)) (fun k => nI (gl k)) (nI P) (nI w) (fun k => nI (on k)) (nI j) Q := by
  have hA := okA_sheet hP hon
  unfold wp_X8_choiceAt
  refine lp_up (W := fun n i => wq_X8_choiceAt_4 (fun k => nI (sg k)) (fun k => nI (kd k)) (fun k => nI (mo k)) (fun k => nI (gl k)) (nI P) (nI w) (fun k => nI (on k)) Q n (nI j) (nI (rk kd mo gl sg w (pad on) P i 0 0)) (nI i)) (I := fun i => rk kd mo gl sg w (pad on) P i 0 0 ≤ j) 16 ?_ 0 (Nat.zero_le _) (Nat.zero_le _)
  intro n y hy hI ih
  show wf_X8_choiceAt_4 _ _ _ _ _ _ _ _ _ _ _ _
  unfold wf_X8_choiceAt_4
  rw [le_16 (by omega)]
  refine ⟨fun q => ?_, fun q => ⟨fun q2 => absurd q2 (nI_pos hj), fun _ => ?_⟩⟩
  · obtain rfl : y = 16 := by omega
    rw [rk_A] at hI
    exact h2 hI
  · have hy16 : y < 16 := by omega
    have ih := ih hy16
    have key := lp_up (W := fun m i => wq_X8_choiceAt_17 (fun k => nI (sg k)) (fun k => nI (kd k)) (fun k => nI (mo k)) (fun k => nI (gl k)) (nI P) (nI w) (fun k => nI (on k)) (wq_X8_choiceAt_4 (fun k => nI (sg k)) (fun k => nI (kd k)) (fun k => nI (mo k)) (fun k => nI (gl k)) (nI P) (nI w) (fun k => nI (on k)) Q n) Q m (nI j) (nI (rk kd mo gl sg w (pad on) P y i 0)) (nI y) (nI i)) (I := fun i => rk kd mo gl sg w (pad on) P y i 0 ≤ j) 16 ?_ 0 (Nat.zero_le _) hI
    · exact key
    · intro m x hx hI2 ihx
      show wf_X8_choiceAt_17 _ _ _ _ _ _ _ _ _ _ _ _ _ _
      unfold wf_X8_choiceAt_17
      rw [le_16 (by omega)]
      refine ⟨fun q2 => ?_, fun q2 => ?_⟩
      · obtain rfl : x = 16 := by omega
        rintro _ rfl
        rw [rk_y] at hI2 ⊢
        rw [ad_1]
        exact ih hI2
      · have hx16 : x < 16 := by omega
        have ihx := ihx hx16
        have key := lp_up (W := fun m' i => wq_X8_choiceAt_27 (fun k => nI (sg k)) (fun k => nI (kd k)) (fun k => nI (mo k)) (fun k => nI (gl k)) (nI P) (nI w) (fun k => nI (on k)) (wq_X8_choiceAt_4 (fun k => nI (sg k)) (fun k => nI (kd k)) (fun k => nI (mo k)) (fun k => nI (gl k)) (nI P) (nI w) (fun k => nI (on k)) Q n) (wq_X8_choiceAt_17 (fun k => nI (sg k)) (fun k => nI (kd k)) (fun k => nI (mo k)) (fun k => nI (gl k)) (nI P) (nI w) (fun k => nI (on k)) (wq_X8_choiceAt_4 (fun k => nI (sg k)) (fun k => nI (kd k)) (fun k => nI (mo k)) (fun k => nI (gl k)) (nI P) (nI w) (fun k => nI (on k)) Q n) Q m) Q m' (nI j) (nI (rk kd mo gl sg w (pad on) P y x i)) (nI y) (nI x) (nI i)) (I := fun i => rk kd mo gl sg w (pad on) P y x i ≤ j) P ?_ 0 (Nat.zero_le _) hI2
        · exact key
        · intro m' p hp hI3 ihp
          show wf_X8_choiceAt_27 _ _ _ _ _ _ _ _ _ _ _ _ _ _ _ _
          unfold wf_X8_choiceAt_27
          rw [nI_le' (by omega) (by omega)]
          refine ⟨fun q3 => ?_, fun q3 => ?_⟩
          · obtain rfl : p = P := by omega
            rintro _ rfl
            rw [rk_x] at hI3 ⊢
            rw [ad_1]
            exact ihx hI3
          · have ihp := ihp (by omega)
            rw [rk_p] at ihp
            refine sp_mayCome (f := 0) hT hA hw (by omega) hx16 hy16 _ ?_
            rw [bI_0]
            refine ⟨fun q4 => ?_, fun q4 => ?_⟩
            · rw [Bool.not_eq_false] at q4
              rw [q4, if_pos rfl] at ihp
              rw [nI_eq' (by omega) hj]
              refine ⟨fun q5 => ?_, fun q5 => ?_⟩
              · rintro _ rfl _ rfl
                rw [ad_1, ad_1]
                exact ihp (by omega)
              · rw [mu_16, nI_add, mu_64, nI_add]
                exact h y x p ⟨q5.symm, q4, hy16, hx16, by omega⟩
            · rintro _ rfl
              rw [q4, if_neg (by decide)] at ihp
              rw [ad_1]
              exact ihp hI3
theorem sp_choiceAt_neg {kd mo gl sg on : Nat → Nat} {P w j : Int32} (hj : j < 0) (Q : Int32 → Prop) (h2 : Q (-1)) :
    wp_X8_choiceAt (fun k => nI (sg k)) (fun k => nI (kd k)) (fun k => nI (mo k)) (fun k => nI (gl k)) P w (fun k => nI (on k)) j Q := by
  unfold wp_X8_choiceAt
  refine ⟨1, ?_⟩
  show wf_X8_choiceAt_4 _ _ _ _ _ _ _ _ _ _ _ _
  unfold wf_X8_choiceAt_4
  exact ⟨fun _ => h2, fun _ => ⟨fun _ => h2, fun q => absurd hj q⟩⟩
