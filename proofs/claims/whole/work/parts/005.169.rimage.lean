/-! the reference's images -/
def putI (g f : (Nat → Int32)) (B n : Nat) : (Nat → Int32) := fun i => if B ≤ i ∧ i < B + n then f (i - B) else g i
theorem putI_0 (g f : (Nat → Int32)) (B : Nat) : putI g f B 0 = g := by
  funext i
  unfold putI
  rw [if_neg (by omega)]
theorem putI_s (g f : (Nat → Int32)) (B n : Nat) : upd (putI g f B n) (B + n) (f n) = putI g f B (n + 1) := by
  funext i
  rw [upd_at]
  unfold putI
  by_cases e : i = B + n
  · rw [if_pos e, if_pos (by omega), e, Nat.add_sub_cancel_left]
  · rw [if_neg e]
    by_cases e2 : B ≤ i ∧ i < B + n
    · rw [if_pos e2, if_pos (by omega)]
    · rw [if_neg e2, if_neg (by omega)]
theorem sp_rkeep {kd mo gl sg on : Nat → Nat} {P w k : Nat} {s : Int64} {iS iK iM iG iP iW iSh : (Nat → Int32)} {iD : (Nat → Int64)} (hP : P ≤ 40) (hk : k < 3)
    (Q : Int32 → (Nat → Int32) → (Nat → Int32) → (Nat → Int32) → (Nat → Int32) → (Nat → Int32) → (Nat → Int32) → (Nat → Int32) → (Nat → Int64) → Prop)
    (hQ : Q 1 (putI iS (fun k => nI (sg k)) (51 * k) 51) (putI iK (fun k => nI (kd k)) (40 * k) 40) (putI iM (fun k => nI (mo k)) (40 * k) 40) (putI iG (fun k => nI (gl k)) (160 * k) 160) (upd iP k (nI P)) (upd iW k (nI w)) (putI iSh (fun k => nI (on k)) (256 * k) 256) (vp_updL iD k s)) :
    wp_X8_keep (fun k => nI (sg k)) (fun k => nI (kd k)) (fun k => nI (mo k)) (fun k => nI (gl k)) (nI P) (nI w) s (fun k => nI (on k)) iS iK iM iG iP iW iSh iD (nI k) Q := by
  unfold wp_X8_keep
  refine ⟨fun q => absurd q (nI_pos (by omega)), fun _ => ⟨fun _ => ?_, fun q => absurd (nI_le (a := k) (b := 2) (by omega) (by decide)) q⟩⟩
  have l4 : ∀ iS iK iM iG iP iW iD, Q 1 iS iK iM iG iP iW (putI iSh (fun k => nI (on k)) (256 * k) 256) iD → ∃ f, wq_X8_keep_161 (fun k => nI (sg k)) (fun k => nI (kd k)) (fun k => nI (mo k)) (fun k => nI (gl k)) (nI P) (nI w) s (fun k => nI (on k)) Q f iS iK iM iG iP iW iSh iD (nI k) 0 := by
    intro iS iK iM iG iP iW iD hq
    have key := lp_up (W := fun f i => wq_X8_keep_161 (fun k => nI (sg k)) (fun k => nI (kd k)) (fun k => nI (mo k)) (fun k => nI (gl k)) (nI P) (nI w) s (fun k => nI (on k)) Q f iS iK iM iG iP iW (putI iSh (fun k => nI (on k)) (256 * k) i) iD (nI k) (nI i)) (I := fun _ => True) 256 ?_ 0 (Nat.zero_le _) trivial
    · rw [putI_0] at key
      exact key
    · intro f i hi _ ih
      show wf_X8_keep_161 _ _ _ _ _ _ _ _ _ _ _ _ _ _ _ _ _ _ _ _
      unfold wf_X8_keep_161
      rw [le_256 (by omega)]
      refine ⟨fun q => ?_, fun q => ?_⟩
      · obtain rfl : i = 256 := by omega
        exact hq
      · have ih := ih (by omega) trivial
        rw [mu_256, nI_add, vp_in' (by omega), vp_in' (by omega), nI_clamp' (by omega), nI_clamp' (by omega)]
        refine ⟨by omega, ?_⟩
        rintro _ rfl
        refine ⟨by omega, ?_⟩
        rintro _ rfl _ rfl
        rw [ad_1, putI_s iSh (fun k => nI (on k))]
        exact ih
  have l2 : ∀ iS, (Q 1 iS (putI iK (fun k => nI (kd k)) (40 * k) 40) (putI iM (fun k => nI (mo k)) (40 * k) 40) (putI iG (fun k => nI (gl k)) (160 * k) 160) (upd iP k (nI P)) (upd iW k (nI w)) (putI iSh (fun k => nI (on k)) (256 * k) 256) (vp_updL iD k s)) → ∃ f, wq_X8_keep_44 (fun k => nI (sg k)) (fun k => nI (kd k)) (fun k => nI (mo k)) (fun k => nI (gl k)) (nI P) (nI w) s (fun k => nI (on k)) Q f iS iK iM iG iP iW iSh iD (nI k) 0 := by
    intro iS hq
    have key := lp_up (W := fun f i => wq_X8_keep_44 (fun k => nI (sg k)) (fun k => nI (kd k)) (fun k => nI (mo k)) (fun k => nI (gl k)) (nI P) (nI w) s (fun k => nI (on k)) Q f iS (putI iK (fun k => nI (kd k)) (40 * k) i) (putI iM (fun k => nI (mo k)) (40 * k) i) (putI iG (fun k => nI (gl k)) (160 * k) (4 * i)) iP iW iSh iD (nI k) (nI i)) (I := fun _ => True) 40 ?_ 0 (Nat.zero_le _) trivial
    · rw [putI_0, putI_0, show 4 * 0 = 0 from rfl, putI_0] at key
      exact key
    · intro f i hi _ ih
      show wf_X8_keep_44 _ _ _ _ _ _ _ _ _ _ _ _ _ _ _ _ _ _ _ _
      unfold wf_X8_keep_44
      rw [le_40 (by omega)]
      refine ⟨fun q => ?_, fun q => ?_⟩
      · obtain rfl : i = 40 := by omega
        rw [vp_in' (by omega), nI_clamp' (by omega)]
        refine ⟨hk, ?_⟩
        rintro _ rfl
        refine ⟨hk, ?_⟩
        rintro _ rfl
        refine ⟨hk, ?_⟩
        rintro _ rfl
        exact l4 _ _ _ _ _ _ _ hq
      · have ih := ih (by omega) trivial
        rw [mu_40, nI_add, vp_in' (by omega), vp_in' (by omega), nI_clamp' (by omega), nI_clamp' (by omega)]
        refine ⟨by omega, ?_⟩
        rintro _ rfl
        refine ⟨by omega, ?_⟩
        rintro _ rfl
        refine ⟨by omega, ?_⟩
        rintro _ rfl
        refine ⟨by omega, ?_⟩
        rintro _ rfl
        rw [putI_s iK (fun k => nI (kd k)), putI_s iM (fun k => nI (mo k))]
        have key := lp_up (W := fun f' d => wq_X8_keep_86 (fun k => nI (sg k)) (fun k => nI (kd k)) (fun k => nI (mo k)) (fun k => nI (gl k)) (nI P) (nI w) s (fun k => nI (on k)) (wq_X8_keep_44 (fun k => nI (sg k)) (fun k => nI (kd k)) (fun k => nI (mo k)) (fun k => nI (gl k)) (nI P) (nI w) s (fun k => nI (on k)) Q f) Q f' iS (putI iK (fun k => nI (kd k)) (40 * k) (i + 1)) (putI iM (fun k => nI (mo k)) (40 * k) (i + 1)) (putI iG (fun k => nI (gl k)) (160 * k) (4 * i + d)) iP iW iSh iD (nI k) (nI i) (nI d)) (I := fun _ => True) 4 ?_ 0 (Nat.zero_le _) trivial
        · exact key
        · intro f' d hd _ ihd
          show wf_X8_keep_86 _ _ _ _ _ _ _ _ _ _ _ _ _ _ _ _ _ _ _ _ _ _
          unfold wf_X8_keep_86
          rw [le_4 (by omega)]
          refine ⟨fun q2 => ?_, fun q2 => ?_⟩
          · obtain rfl : d = 4 := by omega
            rintro _ rfl
            rw [ad_1]
            exact ih
          · have ihd := ihd (by omega) trivial
            have e160 : (160 : Int32) * nI k + (4 : Int32) * nI i + nI d = nI (160 * k + (4 * i + d)) := by
              rw [show (160 : Int32) = nI 160 from rfl, nI_mul', mu_4, nI_add, nI_add, Nat.add_assoc]
            rw [e160, mu_4, nI_add, vp_in' (by omega), vp_in' (by omega), nI_clamp' (by omega), nI_clamp' (by omega)]
            refine ⟨by omega, ?_⟩
            rintro _ rfl
            refine ⟨by omega, ?_⟩
            rintro _ rfl _ rfl
            rw [ad_1, putI_s iG (fun k => nI (gl k))]
            exact ihd
  have key := lp_up (W := fun f i => wq_X8_keep_13 (fun k => nI (sg k)) (fun k => nI (kd k)) (fun k => nI (mo k)) (fun k => nI (gl k)) (nI P) (nI w) s (fun k => nI (on k)) Q f (putI iS (fun k => nI (sg k)) (51 * k) i) iK iM iG iP iW iSh iD (nI k) (nI i)) (I := fun _ => True) 51 ?_ 0 (Nat.zero_le _) trivial
  · rw [putI_0] at key
    exact key
  · intro f i hi _ ih
    show wf_X8_keep_13 _ _ _ _ _ _ _ _ _ _ _ _ _ _ _ _ _ _ _ _
    unfold wf_X8_keep_13
    rw [gt_50 (by omega)]
    refine ⟨fun q => ?_, fun q => ?_⟩
    · obtain rfl : i = 51 := by omega
      exact l2 _ hQ
    · have ih := ih (by omega) trivial
      rw [mu_51, nI_add, vp_in' (by omega), vp_in' (by omega), nI_clamp' (by omega), nI_clamp' (by omega)]
      refine ⟨by omega, ?_⟩
      rintro _ rfl
      refine ⟨by omega, ?_⟩
      rintro _ rfl _ rfl
      rw [ad_1, putI_s iS (fun k => nI (sg k))]
      exact ih
def frI (f g : (Nat → Int32)) (n : Nat) : (Nat → Int32) := fun j => if j < n then f j else g j
theorem frI_0 (f g : (Nat → Int32)) : frI f g 0 = g := by
  funext j
  unfold frI
  rw [if_neg (by omega)]
theorem frI_s {f g : (Nat → Int32)} {n : Nat} {v : Int32} (h : v = f n) : upd (frI f g n) n v = frI f g (n + 1) := by
  funext j
  rw [upd_at]
  unfold frI
  by_cases e : j = n
  · rw [if_pos e, if_pos (by omega), e, h]
  · rw [if_neg e]
    by_cases e2 : j < n
    · rw [if_pos e2, if_pos (by omega)]
    · rw [if_neg e2, if_neg (by omega)]
theorem frI_all {f g : (Nat → Int32)} {n : Nat} (h : ∀ j, n ≤ j → g j = f j) : frI f g n = f := by
  funext j
  unfold frI
  split
  · rfl
  · exact h j (by omega)
theorem sp_rback {kd mo gl sg on kd2 mo2 gl2 sg2 on2 : Nat → Nat} {P w k : Nat} {s s2 : Int64} {pcs2 wm2 steps undoable br : Int32} {since iS iK iM iG iP iW iSh : (Nat → Int32)} {iD : (Nat → Int64)} (hP : P ≤ 40) (hk : k < 3) (hz : okZ kd mo gl sg) (hz2 : okZ kd2 mo2 gl2 sg2) (hS : okS kd P on) (hfar2 : ∀ j, 256 ≤ j → on2 j = 0)
    (h1 : ∀ j, j < 51 → iS (51 * k + j) = nI (sg j)) (h2 : ∀ j, j < 40 → iK (40 * k + j) = nI (kd j) ∧ iM (40 * k + j) = nI (mo j)) (h3 : ∀ j, j < 160 → iG (160 * k + j) = nI (gl j)) (h4 : iP k = nI P) (h5 : iW k = nI w) (h6 : ∀ j, j < 256 → iSh (256 * k + j) = nI (on j)) (h7 : iD k = s)
    (Q : Int32 → (Nat → Int32) → (Nat → Int32) → (Nat → Int32) → (Nat → Int32) → Int32 → Int32 → Int64 → (Nat → Int32) → (Nat → Int32) → Int32 → Int32 → Int32 → Prop)
    (hQ : Q 1 (fun k => nI (sg k)) (fun k => nI (kd k)) (fun k => nI (mo k)) (fun k => nI (gl k)) (nI P) (nI w) s (fun k => nI (on k)) (frI (fun _ => -1) since 256) 0 0 (bI (decide (¬ cnt on = 0)))) :
    wp_X8_back iS iK iM iG iP iW iSh iD (fun k => nI (sg2 k)) (fun k => nI (kd2 k)) (fun k => nI (mo2 k)) (fun k => nI (gl2 k)) pcs2 wm2 s2 (fun k => nI (on2 k)) since steps undoable br (nI k) Q := by
  unfold wp_X8_back
  refine ⟨fun q => absurd q (nI_pos (by omega)), fun _ => ⟨fun _ => ?_, fun q => absurd (nI_le (a := k) (b := 2) (by omega) (by decide)) q⟩⟩
  have l4 : ∃ f, wq_X8_back_161 iS iK iM iG iP iW iSh iD Q f (fun k => nI (sg k)) (fun k => nI (kd k)) (fun k => nI (mo k)) (fun k => nI (gl k)) (nI P) (nI w) s (fun k => nI (on2 k)) since steps undoable br (nI k) 0 := by
    have key := lp_up (W := fun f i => wq_X8_back_161 iS iK iM iG iP iW iSh iD Q f (fun k => nI (sg k)) (fun k => nI (kd k)) (fun k => nI (mo k)) (fun k => nI (gl k)) (nI P) (nI w) s (frI (fun k => nI (on k)) (fun k => nI (on2 k)) i) (frI (fun _ => -1) since i) steps undoable br (nI k) (nI i)) (I := fun _ => True) 256 ?_ 0 (Nat.zero_le _) trivial
    · rw [frI_0, frI_0] at key
      exact key
    · intro f i hi _ ih
      show wf_X8_back_161 _ _ _ _ _ _ _ _ _ _ _ _ _ _ _ _ _ _ _ _ _ _ _ _
      unfold wf_X8_back_161
      rw [le_256 (by omega)]
      refine ⟨fun q => ?_, fun q => ?_⟩
      · obtain rfl : i = 256 := by omega
        unfold wp_X8_noSteps
        rw [frI_all (f := (fun k => nI (on k))) (fun j hj => by rw [hfar2 j hj, hS.2.1 j hj])]
        apply sp_isClear hP hS
        unfold wq_X8_back_216
        by_cases hc : cnt on = 0
        · rw [show decide (cnt on = 0) = true from decide_eq_true hc]
          rw [show decide (¬ cnt on = 0) = false by simp [hc]] at hQ
          exact ⟨fun _ => ⟨Or.inl rfl, hQ⟩, fun q => absurd q (by decide)⟩
        · rw [show decide (cnt on = 0) = false from decide_eq_false hc]
          rw [show decide (¬ cnt on = 0) = true by simp [hc]] at hQ
          exact ⟨fun q => absurd rfl q, fun _ => ⟨Or.inr rfl, hQ⟩⟩
      · have ih := ih (by omega) trivial
        rw [mu_256, nI_add, vp_in' (by omega), vp_in' (by omega), nI_clamp' (by omega), nI_clamp' (by omega), h6 i (by omega)]
        refine ⟨by omega, ?_⟩
        rintro _ rfl
        refine ⟨by omega, ?_⟩
        rintro _ rfl
        refine ⟨by omega, ?_⟩
        rintro _ rfl _ rfl
        rw [ad_1, frI_s (f := (fun k => nI (on k))) rfl, frI_s (f := fun _ => -1) rfl]
        exact ih
  have l2 : ∃ f, wq_X8_back_44 iS iK iM iG iP iW iSh iD Q f (fun k => nI (sg k)) (fun k => nI (kd2 k)) (fun k => nI (mo2 k)) (fun k => nI (gl2 k)) pcs2 wm2 s2 (fun k => nI (on2 k)) since steps undoable br (nI k) 0 := by
    have key := lp_up (W := fun f i => wq_X8_back_44 iS iK iM iG iP iW iSh iD Q f (fun k => nI (sg k)) (frI (fun k => nI (kd k)) (fun k => nI (kd2 k)) i) (frI (fun k => nI (mo k)) (fun k => nI (mo2 k)) i) (frI (fun k => nI (gl k)) (fun k => nI (gl2 k)) (4 * i)) pcs2 wm2 s2 (fun k => nI (on2 k)) since steps undoable br (nI k) (nI i)) (I := fun _ => True) 40 ?_ 0 (Nat.zero_le _) trivial
    · rw [show 4 * 0 = 0 from rfl, frI_0, frI_0, frI_0] at key
      exact key
    · intro f i hi _ ih
      show wf_X8_back_44 _ _ _ _ _ _ _ _ _ _ _ _ _ _ _ _ _ _ _ _ _ _ _ _
      unfold wf_X8_back_44
      rw [le_40 (by omega)]
      refine ⟨fun q => ?_, fun q => ?_⟩
      · obtain rfl : i = 40 := by omega
        rw [frI_all (f := (fun k => nI (kd k))) (fun j hj => by rw [hz.1 j hj, hz2.1 j hj]), frI_all (f := fun k => nI (mo k)) (fun j hj => by rw [hz.2.1 j hj, hz2.2.1 j hj]), frI_all (f := fun k => nI (gl k)) (fun j hj => by rw [hz.2.2.1 j hj, hz2.2.2.1 j hj])]
        rw [vp_in' (by omega), nI_clamp' (by omega), h4, h5, h7]
        refine ⟨hk, ?_⟩
        rintro _ rfl
        refine ⟨hk, ?_⟩
        rintro _ rfl
        refine ⟨hk, ?_⟩
        rintro _ rfl
        exact l4
      · have ih := ih (by omega) trivial
        rw [mu_40, nI_add, vp_in' (by omega), vp_in' (by omega), nI_clamp' (by omega), nI_clamp' (by omega), (h2 i (by omega)).1, (h2 i (by omega)).2]
        refine ⟨by omega, ?_⟩
        rintro _ rfl
        refine ⟨by omega, ?_⟩
        rintro _ rfl
        refine ⟨by omega, ?_⟩
        rintro _ rfl
        refine ⟨by omega, ?_⟩
        rintro _ rfl
        rw [frI_s (f := (fun k => nI (kd k))) rfl, frI_s (f := fun k => nI (mo k)) rfl]
        have key := lp_up (W := fun f' d => wq_X8_back_86 iS iK iM iG iP iW iSh iD (wq_X8_back_44 iS iK iM iG iP iW iSh iD Q f) Q f' (fun k => nI (sg k)) (frI (fun k => nI (kd k)) (fun k => nI (kd2 k)) (i + 1)) (frI (fun k => nI (mo k)) (fun k => nI (mo2 k)) (i + 1)) (frI (fun k => nI (gl k)) (fun k => nI (gl2 k)) (4 * i + d)) pcs2 wm2 s2 (fun k => nI (on2 k)) since steps undoable br (nI k) (nI i) (nI d)) (I := fun _ => True) 4 ?_ 0 (Nat.zero_le _) trivial
        · exact key
        · intro f' d hd _ ihd
          show wf_X8_back_86 _ _ _ _ _ _ _ _ _ _ _ _ _ _ _ _ _ _ _ _ _ _ _ _ _ _
          unfold wf_X8_back_86
          rw [le_4 (by omega)]
          refine ⟨fun q2 => ?_, fun q2 => ?_⟩
          · obtain rfl : d = 4 := by omega
            rintro _ rfl
            rw [ad_1]
            exact ih
          · have ihd := ihd (by omega) trivial
            have e160 : (160 : Int32) * nI k + (4 : Int32) * nI i + nI d = nI (160 * k + (4 * i + d)) := by
              rw [show (160 : Int32) = nI 160 from rfl, nI_mul', mu_4, nI_add, nI_add, Nat.add_assoc]
            rw [e160, mu_4, nI_add, vp_in' (by omega), vp_in' (by omega), nI_clamp' (by omega), nI_clamp' (by omega), h3 _ (by omega)]
            refine ⟨by omega, ?_⟩
            rintro _ rfl
            refine ⟨by omega, ?_⟩
            rintro _ rfl _ rfl
            rw [ad_1, frI_s (f := fun k => nI (gl k)) rfl]
            exact ihd
  have key := lp_up (W := fun f i => wq_X8_back_13 iS iK iM iG iP iW iSh iD Q f (frI (fun k => nI (sg k)) (fun k => nI (sg2 k)) i) (fun k => nI (kd2 k)) (fun k => nI (mo2 k)) (fun k => nI (gl2 k)) pcs2 wm2 s2 (fun k => nI (on2 k)) since steps undoable br (nI k) (nI i)) (I := fun _ => True) 51 ?_ 0 (Nat.zero_le _) trivial
  · rw [frI_0] at key
    exact key
  · intro f i hi _ ih
    show wf_X8_back_13 _ _ _ _ _ _ _ _ _ _ _ _ _ _ _ _ _ _ _ _ _ _ _ _
    unfold wf_X8_back_13
    rw [gt_50 (by omega)]
    refine ⟨fun q => ?_, fun q => ?_⟩
    · obtain rfl : i = 51 := by omega
      rw [frI_all (f := (fun k => nI (sg k))) (fun j hj => by rw [hz.2.2.2 j hj, hz2.2.2.2 j hj])]
      exact l2
    · have ih := ih (by omega) trivial
      rw [mu_51, nI_add, vp_in' (by omega), vp_in' (by omega), nI_clamp' (by omega), nI_clamp' (by omega), h1 i (by omega)]
      refine ⟨by omega, ?_⟩
      rintro _ rfl
      refine ⟨by omega, ?_⟩
      rintro _ rfl _ rfl
      rw [ad_1, frI_s (f := (fun k => nI (sg k))) rfl]
      exact ih
