/-! is it alone, in the model -/
theorem sar_bit : ∀ m, m < 16 → ∀ d, d < 4 → ((nI m >>> ((nI d) &&& (31 : Int32))) &&& (1 : Int32)) = bI (m.testBit d) := by decide +kernel
theorem opp_M {d : Nat} (hd : d < 4) : ((nI d + (2 : Int32)) - (nI d + (2 : Int32)) / (4 : Int32) * (4 : Int32)) = nI (opp d) := by
  rw [ad_2, rm_4 (by omega)]
  rfl
theorem stp_inj {c d e : Nat} (hc : 19 ≤ c) (hd : d < 4) (he : e < 4) (h : stp c d = stp c e) : d = e := by
  unfold stp at h
  repeat' split at h
  all_goals omega
def rvS (kd mo gl sg : Nat → Nat) (P w : Nat) (on : Nat → Nat) (p c m : Nat) : Prop := ∃ q, q < P ∧ q ≠ p ∧ kd q ≠ 1 ∧ kd q ≠ 2 ∧ kd q ≠ 4 ∧ w ≤ hS (hQ kd mo gl sg (pad on) (1 + 2 * q) c) m 4
theorem sp_isAlone {kd mo gl sg on : Nat → Nat} {P w k p : Nat} {inp : (Nat → Int32)} {f : Nat → Bool} (hT : okT kd mo gl sg) (hP : P ≤ 40) (h1 : 1 ≤ w) (h3 : w ≤ 3) (hSh : okS kd P on) (hk : k < 256) (hp : p < P)
    (hf : ∀ d, d < 4 → ∀ u, u < 256 → stp (celK k) d = celK u → on u ≠ 0 → ∃ m, m < 16 ∧ inp u = nI m ∧ m.testBit (opp d) = f d) (hf2 : ∀ d, d < 4 → f d = true → pad on (stp (celK k) d) ≠ 0) (th : (Nat → Int32)) (Q : Int32 → (Nat → Int32) → Prop)
    (q1 : ¬ rvS kd mo gl sg P w on p (celK k) (mkN f 4) → ∀ t, Q 1 t) (q0 : rvS kd mo gl sg P w on p (celK k) (mkN f 4) → ∀ t, Q 0 t) :
    wp_X8_isAlone (fun k => nI (sg k)) (fun k => nI (kd k)) (fun k => nI (mo k)) (fun k => nI (gl k)) (nI P) (nI w) (fun k => nI (on k)) inp th (nI k) (nI p) Q := by
  have hcb := celK_b hk
  have hx16 : k % 16 < 16 := by omega
  have hy16 : k / 16 < 16 := by omega
  have hqc : celK k = celN (k % 16) (k / 16) := rfl
  unfold wp_X8_isAlone
  rw [rm_16 (by omega), dv_16 (by omega)]
  rintro _ rfl _ rfl
  refine pk_loop (σ := (Nat → Int32)) (fun n i z => wq_X8_isAlone_14 (fun k => nI (sg k)) (fun k => nI (kd k)) (fun k => nI (mo k)) (fun k => nI (gl k)) (nI P) (nI w) (fun k => nI (on k)) inp Q n z (nI k) (nI p) (nI (k % 16)) (nI (k / 16)) (nI i)) (fun i z => ∀ j, j < i → z j = nI (on j)) 256 0 th (by decide) (fun j hj => absurd hj (by omega)) ?_ ?_
  · intro n z hz
    show wf_X8_isAlone_14 _ _ _ _ _ _ _ _ _ _ _ _ _ _ _ _
    unfold wf_X8_isAlone_14
    refine ⟨fun _ => ?_, fun a => absurd (by decide) a⟩
    rw [vp_in' (by omega), nI_clamp' (by omega)]
    refine ⟨hk, ?_⟩
    rintro _ rfl
    refine pk_loop (σ := (Nat → Int32)) (fun n i z => wq_X8_isAlone_52 (fun k => nI (sg k)) (fun k => nI (kd k)) (fun k => nI (mo k)) (fun k => nI (gl k)) (nI P) (nI w) (fun k => nI (on k)) inp Q n z (nI p) (nI (k % 16)) (nI (k / 16)) (nI i)) (fun i z => ∃ o : Nat → Nat, (∀ j, j < 256 → z j = nI (o j)) ∧ (∀ j, o j = on j ∨ o j = 0) ∧ ∀ d, d < 4 → pad o (stp (celK k) d) = if d < i ∧ f d = true then 0 else pad on (stp (celK k) d)) 4 0 (upd z k 0) (by decide) ?_ ?_ ?_
    · refine ⟨upN on k 0, ?_, ?_, ?_⟩
      · intro j hj
        rw [upd_at]
        unfold upN
        split
        · rfl
        · exact hz j hj
      · intro j
        unfold upN
        split
        · exact Or.inr rfl
        · exact Or.inl rfl
      · intro d hd
        rw [if_neg (by omega), pad_up hk, upN_n (stp_ne (by omega))]
    · rintro n z ⟨o, o1, o2, o3⟩
      show wf_X8_isAlone_52 _ _ _ _ _ _ _ _ _ _ _ _ _ _ _
      unfold wf_X8_isAlone_52
      refine ⟨fun _ => ?_, fun a => absurd (by decide) a⟩
      have hoB : okB P o := fun j => by
        rcases o2 j with e | e
        · rw [e]; exact (hSh.1 j).1
        · rw [e]; exact Nat.zero_le _
      have hA : okA P 256 0 z o := ⟨by decide, by decide, fun j hj => by rw [Nat.zero_add]; exact o1 j hj, hoB, hP⟩
      have hold : ∀ q, kd q ≠ 2 → hOf kd mo gl sg (pad o) q (celK k) = hS (hQ kd mo gl sg (pad on) (1 + 2 * q) (celK k)) (mkN f 4) 4 := by
        intro q hq
        rw [hOf_nb hT.2.2.2.2.2 hq]
        refine (hS_cut hT.2.2.2.2.2 (fun d hd => ⟨fun e => ?_, fun e => ?_⟩) 4 (Nat.le_refl _)).symm
        · rw [o3 d hd, if_pos ⟨hd, e⟩]
        · rw [o3 d hd, if_neg (by rw [e]; simp)]
      refine lp_up (W := fun n i => wq_X8_isAlone_152 (fun k => nI (sg k)) (fun k => nI (kd k)) (fun k => nI (mo k)) (fun k => nI (gl k)) (nI P) (nI w) (fun k => nI (on k)) inp Q n z (nI p) (nI (k % 16)) (nI (k / 16)) (nI i)) (I := fun i => ∀ q, q < i → q ≠ p → kd q ≠ 1 → kd q ≠ 2 → kd q ≠ 4 → ¬ w ≤ hS (hQ kd mo gl sg (pad on) (1 + 2 * q) (celK k)) (mkN f 4) 4) P ?_ 0 (Nat.zero_le _) (fun q hq => absurd hq (by omega))
      intro n i hi hI ih
      show wf_X8_isAlone_152 _ _ _ _ _ _ _ _ _ _ _ _ _ _ _
      unfold wf_X8_isAlone_152
      rw [nI_le' (by omega) (by omega)]
      refine ⟨fun a => ?_, fun a => ?_⟩
      · obtain rfl : i = P := by omega
        refine q1 ?_ _
        rintro ⟨q, z1, z2, z3, z4, z5, z6⟩
        exact hI q z1 z2 z3 z4 z5 z6
      · have hiP : i < P := by omega
        have ih := ih hiP
        have hk5 := hT.1 i
        have skip : (i ≠ p → kd i ≠ 1 → kd i ≠ 2 → kd i ≠ 4 → False) → wq_X8_isAlone_203 (fun k => nI (sg k)) (fun k => nI (kd k)) (fun k => nI (mo k)) (fun k => nI (gl k)) (nI P) (nI w) (fun k => nI (on k)) inp (wq_X8_isAlone_152 (fun k => nI (sg k)) (fun k => nI (kd k)) (fun k => nI (mo k)) (fun k => nI (gl k)) (nI P) (nI w) (fun k => nI (on k)) inp Q n) Q z (nI p) (nI (k % 16)) (nI (k / 16)) (nI i) := by
          intro hx
          unfold wq_X8_isAlone_203 wq_X8_isAlone_204
          refine ⟨fun _ => ?_, fun a => absurd rfl a⟩
          rintro _ rfl
          rw [ad_1]
          refine ih (fun q hq b1 b2 b3 b4 => ?_)
          rcases Nat.lt_or_ge q i with y | y
          · exact hI q y b1 b2 b3 b4
          · obtain rfl : q = i := by omega
            exact (hx b1 b2 b3 b4).elim
        have go : i ≠ p → kd i ≠ 1 → kd i ≠ 2 → kd i ≠ 4 → wq_X8_isAlone_199 (fun k => nI (sg k)) (fun k => nI (kd k)) (fun k => nI (mo k)) (fun k => nI (gl k)) (nI P) (nI w) (fun k => nI (on k)) inp (wq_X8_isAlone_152 (fun k => nI (sg k)) (fun k => nI (kd k)) (fun k => nI (mo k)) (fun k => nI (gl k)) (nI P) (nI w) (fun k => nI (on k)) inp Q n) Q z (nI p) (nI (k % 16)) (nI (k / 16)) (nI i) := by
          intro b1 b2 b3 b4
          unfold wq_X8_isAlone_199 wq_X8_isAlone_204
          refine ⟨fun a => absurd a (by decide), fun _ => ?_⟩
          refine sp_holdOf (f := 0) hT hA (by omega) hx16 hy16 (fun e => absurd e b3) _ ?_
          rw [← hqc, hold i b3]
          have hle := hS_le (f := hQ kd mo gl sg (pad on) (1 + 2 * i) (celK k)) (m := mkN f 4) (fun d => hQ_le hT _ _ _ _) 4
          rw [nI_lt' (by omega) (by omega)]
          refine ⟨fun c => ?_, fun c => q0 ⟨i, hiP, b1, b2, b3, b4, by omega⟩ _⟩
          rintro _ rfl
          rw [ad_1]
          refine ih (fun q hq b1 b2 b3 b4 => ?_)
          rcases Nat.lt_or_ge q i with y | y
          · exact hI q y b1 b2 b3 b4
          · obtain rfl : q = i := by omega
            omega
        rw [nI_eq' (by omega) (by omega), vp_in' (by omega), nI_clamp' (by omega)]
        refine ⟨fun b => skip (fun x => absurd b x), fun b => ⟨by omega, ?_⟩⟩
        rintro _ rfl
        rw [eq_0 (by omega)]
        refine ⟨fun c => go b (by omega) (by omega) (by omega), fun c => ⟨by omega, ?_⟩⟩
        rintro _ rfl
        rw [eq_3 (by omega)]
        refine ⟨fun c2 => go b (by omega) (by omega) (by omega), fun c2 => ⟨by omega, ?_⟩⟩
        rintro _ rfl
        rw [eq_5 (by omega)]
        exact ⟨fun c3 => skip (fun _ x1 x2 x3 => by omega), fun c3 => go b (by omega) (by omega) (by omega)⟩
    · rintro n i z hi ⟨o, o1, o2, o3⟩ ih
      show wf_X8_isAlone_52 _ _ _ _ _ _ _ _ _ _ _ _ _ _ _
      unfold wf_X8_isAlone_52
      rw [le_4 (by omega)]
      refine ⟨fun a => absurd a (by omega), fun _ => ?_⟩
      have skip : (f i = false) → wq_X8_isAlone_52 (fun k => nI (sg k)) (fun k => nI (kd k)) (fun k => nI (mo k)) (fun k => nI (gl k)) (nI P) (nI w) (fun k => nI (on k)) inp Q n z (nI p) (nI (k % 16)) (nI (k / 16)) (nI (i + 1)) := by
        intro hx
        refine ih z ⟨o, o1, o2, fun d hd => ?_⟩
        rw [o3 d hd]
        by_cases e : d = i
        · subst e
          rw [hx, if_neg (by simp), if_neg (by simp)]
        · by_cases e2 : f d = true
          · by_cases e3 : d < i
            · rw [if_pos ⟨e3, e2⟩, if_pos ⟨by omega, e2⟩]
            · rw [if_neg (by omega), if_neg (by omega)]
          · rw [if_neg (fun z => e2 z.2), if_neg (fun z => e2 z.2)]
      refine sp_nb' hx16 hy16 hi _ (fun ho => ?_) (fun ho => ?_)
      · obtain ⟨hst, hX, hY⟩ := nb_stp hx16 hy16 hi ho
        rw [← hqc] at hst
        generalize nbX (k % 16) i = X at *
        generalize nbY (k / 16) i = Y at *
        rw [mu_16, nI_add]
        refine sp_isOn_t hX hY _ ?_
        refine ⟨fun a => absurd a (by decide), fun _ => ?_⟩
        have hto : celK (X + 16 * Y) = stp (celK k) i := by rw [celK_xy hX, hst]
        have hto256 : X + 16 * Y < 256 := by omega
        generalize X + 16 * Y = u at *
        have hot := (hSh.1 u).1
        have hpt : pad on (stp (celK k) i) = on u := by rw [← hto, pad_K hto256]
        rw [vp_in' (by omega), nI_clamp' (by omega)]
        refine ⟨hto256, ?_⟩
        rintro _ rfl
        rw [eq_0 (by omega)]
        refine ⟨fun a => ?_, fun a => ⟨hto256, ?_⟩⟩
        · rintro _ rfl
          rw [ad_1]
          refine skip ?_
          cases hfi : f i
          · rfl
          · exact absurd (by rw [hpt, a]) (hf2 i hi hfi)
        · rintro _ rfl
          obtain ⟨m, m1, m2, m3⟩ := hf i hi u hto256 hto.symm a
          rw [opp_M hi, m2, sar_bit m m1 _ (opp_lt i), bI_1, m3]
          refine ⟨fun b => ?_, fun b => ⟨hto256, ?_⟩⟩
          · rintro _ rfl
            rw [ad_1]
            exact skip (by simpa using b)
          · rintro _ rfl
            rintro _ rfl
            rw [ad_1]
            refine ih (upd z u 0) ⟨upN o u 0, ?_, ?_, ?_⟩
            · intro j hj
              rw [upd_at]
              unfold upN
              split
              · rfl
              · exact o1 j hj
            · intro j
              unfold upN
              split
              · exact Or.inr rfl
              · exact o2 j
            · intro d hd
              rw [pad_up hto256, hto]
              by_cases e : d = i
              · subst e
                rw [upN_s, if_pos ⟨by omega, b⟩]
              · rw [upN_n (fun z => e (stp_inj (by omega) hd hi z)), o3 d hd]
                by_cases e2 : f d = true
                · by_cases e3 : d < i
                  · rw [if_pos ⟨e3, e2⟩, if_pos ⟨by omega, e2⟩]
                  · rw [if_neg (by omega), if_neg (by omega)]
                · rw [if_neg (fun z => e2 z.2), if_neg (fun z => e2 z.2)]
      · intro u v huv
        refine sp_isOn_f huv _ ?_
        refine ⟨fun _ => ?_, fun a => absurd rfl a⟩
        rintro _ rfl
        rw [ad_1]
        refine skip ?_
        cases hfi : f i
        · rfl
        · exact absurd (by rw [hqc]; exact pad_off (nb_off hx16 hy16 hi ho)) (hf2 i hi hfi)
  · intro n i z hi hz ih
    show wf_X8_isAlone_14 _ _ _ _ _ _ _ _ _ _ _ _ _ _ _ _
    unfold wf_X8_isAlone_14
    rw [le_256 (by omega)]
    refine ⟨fun a => absurd a (by omega), fun _ => ?_⟩
    rw [vp_in' (by omega), nI_clamp' (by omega)]
    refine ⟨hi, ?_⟩
    rintro _ rfl
    refine ⟨hi, ?_⟩
    rintro _ rfl _ rfl
    rw [ad_1]
    refine ih (upd z i (nI (on i))) (fun j hj => ?_)
    rw [upd_at]
    split
    · rename_i e; rw [e]
    · exact hz j (by omega)
