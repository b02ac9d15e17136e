/-! images -/
theorem cpy_eq {α : Type} {f g : Nat → α} {n : Nat} (h : ∀ j, n ≤ j → g j = f j) : va_cpy f g (0 : Int32).toNatClampNeg (0 : Int32).toNatClampNeg n = f := by
  show va_cpy f g 0 0 n = f
  rw [cpy_all]
  funext j
  split
  · rfl
  · exact h j (by omega)
theorem sp_copyFrom {kd mo gl sg kd2 mo2 gl2 sg2 : Nat → Nat} {P w P2 w2 : Nat} (hP : P ≤ 40) (hP2 : P2 ≤ 40) (hz : okZ kd mo gl sg) (hz2 : okZ kd2 mo2 gl2 sg2) (Q : Int32 → Int32 → (Nat → Int32) → (Nat → Int32) → (Nat → Int32) → (Nat → Int32) → (Nat → Int32) → (Nat → Int64) → (Nat → Int64) → (Nat → Int64) → Int64 → Int64 → Int64 → Prop) (h : Q (nI (w)) (nI (P)) (fun j0 => nI (sg j0)) (fun j0 => nI (kd j0)) (fun j0 => nI (mrF (kd) (mo) j0)) (fun j0 => nI (fcF (kd) (mo) (gl) (P) j0)) (fun j0 => nI (baF (kd) (mo) (P) j0)) (fun j0 => shF (kd) (mo) (gl) (P) j0) (fun j0 => srF (kd) (mo) (gl) (P) j0) (fun j0 => brF (kd) (mo) (P) j0) (seF (kd) (P)) (blF (kd) (P)) (rvF (kd) (P))) :
    wp_X1_copyFrom (nI (w)) (nI (P)) (fun j0 => nI (sg j0)) (fun j0 => nI (kd j0)) (fun j0 => nI (mrF (kd) (mo) j0)) (fun j0 => nI (fcF (kd) (mo) (gl) (P) j0)) (fun j0 => nI (baF (kd) (mo) (P) j0)) (fun j0 => shF (kd) (mo) (gl) (P) j0) (fun j0 => srF (kd) (mo) (gl) (P) j0) (fun j0 => brF (kd) (mo) (P) j0) (seF (kd) (P)) (blF (kd) (P)) (rvF (kd) (P)) (nI (w2)) (nI (P2)) (fun j0 => nI (sg2 j0)) (fun j0 => nI (kd2 j0)) (fun j0 => nI (mrF (kd2) (mo2) j0)) (fun j0 => nI (fcF (kd2) (mo2) (gl2) (P2) j0)) (fun j0 => nI (baF (kd2) (mo2) (P2) j0)) (fun j0 => shF (kd2) (mo2) (gl2) (P2) j0) (fun j0 => srF (kd2) (mo2) (gl2) (P2) j0) (fun j0 => brF (kd2) (mo2) (P2) j0) (seF (kd2) (P2)) (blF (kd2) (P2)) (rvF (kd2) (P2)) Q := by
  have e1 : va_cpy (fun j0 => nI (sg j0)) (fun j0 => nI (sg2 j0)) (0 : Int32).toNatClampNeg (0 : Int32).toNatClampNeg (51 : Int32).toNatClampNeg = fun j0 => nI (sg j0) := cpy_eq fun j (hj : 51 ≤ j) => by rw [hz.2.2.2 j hj, hz2.2.2.2 j hj]
  have e2 : va_cpy (fun j0 => nI (kd j0)) (fun j0 => nI (kd2 j0)) (0 : Int32).toNatClampNeg (0 : Int32).toNatClampNeg (40 : Int32).toNatClampNeg = fun j0 => nI (kd j0) := cpy_eq fun j (hj : 40 ≤ j) => by rw [hz.1 j hj, hz2.1 j hj]
  have e3 : va_cpy (fun j0 => nI (mrF kd mo j0)) (fun j0 => nI (mrF kd2 mo2 j0)) (0 : Int32).toNatClampNeg (0 : Int32).toNatClampNeg (40 : Int32).toNatClampNeg = fun j0 => nI (mrF kd mo j0) := cpy_eq fun j (hj : 40 ≤ j) => by unfold mrF; rw [hz.1 j hj, hz2.1 j hj]; rfl
  have e4 : va_cpy (fun j0 => nI (fcF kd mo gl P j0)) (fun j0 => nI (fcF kd2 mo2 gl2 P2 j0)) (0 : Int32).toNatClampNeg (0 : Int32).toNatClampNeg (512 : Int32).toNatClampNeg = fun j0 => nI (fcF kd mo gl P j0) := cpy_eq fun j (hj : 512 ≤ j) => by rw [far_fc hP hj, far_fc hP2 hj]
  have e5 : va_cpy (fun j0 => nI (baF kd mo P j0)) (fun j0 => nI (baF kd2 mo2 P2 j0)) (0 : Int32).toNatClampNeg (0 : Int32).toNatClampNeg (128 : Int32).toNatClampNeg = fun j0 => nI (baF kd mo P j0) := cpy_eq fun j (hj : 128 ≤ j) => by rw [far_ba hP hj, far_ba hP2 hj]
  have e6 : va_cpy (fun j0 => shF kd mo gl P j0) (fun j0 => shF kd2 mo2 gl2 P2 j0) (0 : Int32).toNatClampNeg (0 : Int32).toNatClampNeg (204 : Int32).toNatClampNeg = fun j0 => shF kd mo gl P j0 := cpy_eq fun j (hj : 204 ≤ j) => by rw [far_sh hj, far_sh hj]
  have e7 : va_cpy (fun j0 => srF kd mo gl P j0) (fun j0 => srF kd2 mo2 gl2 P2 j0) (0 : Int32).toNatClampNeg (0 : Int32).toNatClampNeg (204 : Int32).toNatClampNeg = fun j0 => srF kd mo gl P j0 := cpy_eq fun j (hj : 204 ≤ j) => by rw [far_sr hj, far_sr hj]
  have e8 : va_cpy (fun j0 => brF kd mo P j0) (fun j0 => brF kd2 mo2 P2 j0) (0 : Int32).toNatClampNeg (0 : Int32).toNatClampNeg (4 : Int32).toNatClampNeg = fun j0 => brF kd mo P j0 := cpy_eq fun j (hj : 4 ≤ j) => by rw [far_br hj, far_br hj]
  unfold wp_X1_copyFrom
  rw [e1, e2, e3, e4, e5, e6, e7, e8]
  rintro _ rfl _ rfl _ rfl _ rfl _ rfl _ rfl _ rfl _ rfl
  exact h
theorem cpy_cells (on on2 : Nat → Nat) : va_cpy (fun c => nI (cc (pad on c))) (fun c => nI (cc (pad on2 c))) (0 : Int32).toNatClampNeg (0 : Int32).toNatClampNeg (324 : Int32).toNatClampNeg = fun c => nI (cc (pad on c)) :=
  cpy_eq fun j (hj : 324 ≤ j) => by rw [pad_far (by omega), pad_far (by omega)]
theorem sp_take {kd mo gl sg kd2 mo2 gl2 sg2 on on2 : Nat → Nat} {P w P2 w2 : Nat} {s s2 : Int64} (hP : P ≤ 40) (hP2 : P2 ≤ 40) (hz : okZ kd mo gl sg) (hz2 : okZ kd2 mo2 gl2 sg2) (Q : (Nat → Int32) → Int64 → Int32 → Int32 → (Nat → Int32) → (Nat → Int32) → (Nat → Int32) → (Nat → Int32) → (Nat → Int32) → (Nat → Int64) → (Nat → Int64) → (Nat → Int64) → Int64 → Int64 → Int64 → Prop) (h : Q (fun c => nI (cc (pad on c))) s (nI (w)) (nI (P)) (fun j0 => nI (sg j0)) (fun j0 => nI (kd j0)) (fun j0 => nI (mrF (kd) (mo) j0)) (fun j0 => nI (fcF (kd) (mo) (gl) (P) j0)) (fun j0 => nI (baF (kd) (mo) (P) j0)) (fun j0 => shF (kd) (mo) (gl) (P) j0) (fun j0 => srF (kd) (mo) (gl) (P) j0) (fun j0 => brF (kd) (mo) (P) j0) (seF (kd) (P)) (blF (kd) (P)) (rvF (kd) (P))) :
    wp_X0_take (nI (w)) (nI (P)) (fun j0 => nI (sg j0)) (fun j0 => nI (kd j0)) (fun j0 => nI (mrF (kd) (mo) j0)) (fun j0 => nI (fcF (kd) (mo) (gl) (P) j0)) (fun j0 => nI (baF (kd) (mo) (P) j0)) (fun j0 => shF (kd) (mo) (gl) (P) j0) (fun j0 => srF (kd) (mo) (gl) (P) j0) (fun j0 => brF (kd) (mo) (P) j0) (seF (kd) (P)) (blF (kd) (P)) (rvF (kd) (P)) (fun c => nI (cc (pad on c))) (fun c => nI (cc (pad on2 c))) s2 (nI (w2)) (nI (P2)) (fun j0 => nI (sg2 j0)) (fun j0 => nI (kd2 j0)) (fun j0 => nI (mrF (kd2) (mo2) j0)) (fun j0 => nI (fcF (kd2) (mo2) (gl2) (P2) j0)) (fun j0 => nI (baF (kd2) (mo2) (P2) j0)) (fun j0 => shF (kd2) (mo2) (gl2) (P2) j0) (fun j0 => srF (kd2) (mo2) (gl2) (P2) j0) (fun j0 => brF (kd2) (mo2) (P2) j0) (seF (kd2) (P2)) (blF (kd2) (P2)) (rvF (kd2) (P2)) s Q := by
  unfold wp_X0_take
  refine sp_copyFrom hP hP2 hz hz2 _ ?_
  rw [cpy_cells]
  first
    | (rintro _ rfl; exact h)
    | (refine ⟨by decide, ?_⟩; rintro _ rfl; exact h)
/-! counting over the rim -/
theorem ct_rim (f : Nat → Bool) (hf : ∀ c, onC c = false → f c = false) : fb_ct f 324 = fb_ct (fun k => f (celK k)) 256 := by
  have off : ∀ c, (c % 18 = 0 ∨ c % 18 = 17 ∨ c < 18 ∨ 306 ≤ c) → f c = false := by
    intro c h
    apply hf
    unfold onC
    simp
    omega
  have rows : ∀ y, y ≤ 16 → fb_ct f (18 * (y + 1)) = fb_ct (fun k => f (celK k)) (16 * y) := by
    intro y
    induction y with
    | zero =>
      intro _
      show fb_ct f 18 = 0
      rw [fb_ct_zero]
      intro k hk
      exact off k (by omega)
    | succ y ih =>
      intro hy
      rw [show 18 * (y + 1 + 1) = 18 * (y + 1) + 18 by omega, fb_ct_split, ih (by omega), show 16 * (y + 1) = 16 * y + 16 by omega, fb_ct_split]
      congr 1
      rw [show (18 : Nat) = 1 + (16 + 1) from rfl, fb_ct_split, fb_ct_split]
      have z1 : fb_ct (fun k => f ((1 + (16 + 1)) * (y + 1) + k)) 1 = 0 := by
        rw [fb_ct_zero]
        intro k hk
        exact off _ (by omega)
      have z2 : fb_ct (fun k => f ((1 + (16 + 1)) * (y + 1) + (1 + (16 + k)))) 1 = 0 := by
        rw [fb_ct_zero]
        intro k hk
        exact off _ (by omega)
      rw [z1, z2, Nat.zero_add, Nat.add_zero]
      apply fb_ct_cong
      intro x hx
      congr 1
      unfold celK celN
      omega
  have h16 := rows 16 (Nat.le_refl _)
  rw [show (324 : Nat) = 18 * (16 + 1) + 18 from rfl, fb_ct_split, h16]
  have z : fb_ct (fun k => f (18 * (16 + 1) + k)) 18 = 0 := by
    rw [fb_ct_zero]
    intro k hk
    exact off _ (by omega)
  rw [z, Nat.add_zero]
theorem sp_layOut {kd mo gl sg kd' mo' gl' sg' B on on2 : Nat → Nat} {P w P' w' : Nat} {stale stc line : (Nat → Int32)} {n all pcs grw : Int32} {fits : (Nat → Int64)} (hk5 : ∀ p, kd p ≤ 5) (hP : P ≤ 40) (hS : okS kd P on) (hFI : okFI kd' mo' gl' sg' w' P' B stale stc n fits line all)
    (Q : (Nat → Int32) → Int32 → Int32 → (Nat → Int32) → (Nat → Int32) → Int32 → Prop) (hQ : ∀ stale' stc' n', okFI kd mo gl sg w P (pad on) stale' stc' n' fits line all → Q (fun c => nI (cc (pad on c))) (nI (cnt on)) (nI (grn kd on)) stale' stc' n') :
    wp_X4_layOut 324 (fun c => nI (cc (pad on c))) (fun k => nI (kd k)) (fun c => nI (cc (pad on2 c))) pcs grw stale stc n Q := by
  have c1 : fb_ct (fun c => decide (pad on c % 2 = 1)) 324 = cnt on := by
    rw [ct_rim _ (fun c hc => by rw [pad_off hc]; rfl)]
    unfold cnt
    apply fb_ct_cong
    intro k hk
    rw [pad_K hk]
  have c2 : fb_ct (fun c => decide (pad on c % 2 = 1 ∧ kd ((pad on c - 1) / 2) ≠ 1)) 324 = grn kd on := by
    rw [ct_rim _ (fun c hc => by rw [pad_off hc]; simp)]
    unfold grn
    apply fb_ct_cong
    intro k hk
    rw [pad_K hk]
  unfold wp_X4_layOut
  refine ⟨by decide, ?_⟩
  rw [cpy_cells]
  rintro _ rfl
  have key := lp_up (W := fun f i => wq_X4_layOut_25 324 (fun c => nI (cc (pad on c))) (fun k => nI (kd k)) Q f (fun c => nI (cc (pad on c))) (nI (fb_ct (fun c => decide (pad on c % 2 = 1)) i)) (nI (fb_ct (fun c => decide (pad on c % 2 = 1 ∧ kd ((pad on c - 1) / 2) ≠ 1)) i)) stale stc n (nI i)) (I := fun _ => True) 324 ?_ 0 (Nat.zero_le _) trivial
  · exact key
  · intro f i hi _ ih
    show wf_X4_layOut_25 _ _ _ _ _ _ _ _ _ _ _ _
    unfold wf_X4_layOut_25
    rw [le_324 (by omega)]
    refine ⟨fun q => ?_, fun q => ?_⟩
    · obtain rfl : i = 324 := by omega
      rw [c1, c2]
      refine sp_touchAllFI (kd' := kd) (mo' := mo) (gl' := gl) (sg' := sg) (w' := w) (P' := P) (B' := pad on) hFI _ ?_
      exact hQ
    · have ih := ih (by omega) trivial
      rw [fb_ct_succ, fb_ct_succ] at ih
      have hq := (okS_pad hS i).1
      have hcb := cc_le hP hq
      rw [vp_in' (by omega), nI_clamp' (by omega)]
      refine ⟨by omega, ?_⟩
      rintro _ rfl
      rw [eq_0 (by omega), cc_0, gt_64 (by omega)]
      refine ⟨fun q0 => ?_, fun q0 => ⟨fun q1 => ?_, fun q1 => ?_⟩⟩
      · rintro _ rfl
        rw [q0, if_neg (by decide), if_neg (by simp), Nat.add_zero, Nat.add_zero] at ih
        rw [ad_1]
        exact ih
      · have ho : ¬ pad on i % 2 = 1 := by
          intro e
          unfold cc at q1
          rw [if_neg q0, if_pos e] at q1
          omega
        rintro _ rfl
        rw [if_neg (by simp [ho]), if_neg (by simp [ho]), Nat.add_zero, Nat.add_zero] at ih
        rw [ad_1]
        exact ih
      · have ho : pad on i % 2 = 1 := by
          refine Classical.byContradiction fun e => q1 ?_
          unfold cc
          rw [if_neg q0, if_neg e]
          omega
        have ec : cc (pad on i) = 1 + (pad on i - 1) / 2 := by unfold cc; rw [if_neg q0, if_pos ho]
        have hkp := hk5 ((pad on i - 1) / 2)
        unfold wq_X4_layOut_84
        rintro _ rfl
        dsimp only
        rw [ec, sb_1 (by omega), show 1 + (pad on i - 1) / 2 - 1 = (pad on i - 1) / 2 by omega, vp_in' (by omega), nI_clamp' (by omega)]
        refine ⟨by omega, ?_⟩
        rintro _ rfl
        rw [if_pos (by simp [ho])] at ih
        rw [eq_1 (by omega)]
        refine ⟨fun q2 => ?_, fun q2 => ?_⟩
        · rintro _ rfl _ rfl
          rw [if_pos (by simp [ho, q2])] at ih
          rw [ad_1, ad_1, ad_1]
          exact ih
        · rintro _ rfl _ rfl
          rw [if_neg (by simp [q2])] at ih
          rw [ad_1, ad_0, ad_1]
          exact ih
