theorem sp_rrule {kd mo gl sg on : Nat → Nat} {P F G C R : Nat} {row col : Int32} {wm steps undoable br : Int32} {since W Pc L S : (Nat → Int32)} {aW aP aL : Nat → Nat} {aB si : (Nat → Int32)} (hT : okT kd mo gl sg) (hP : P ≤ 40) (hz : okZ kd mo gl sg) (hS : okS kd P on) (hF : F < 16) (hG : G < 16) (hC : 1 ≤ C) (hC2 : C ≤ 15) (hR : 1 ≤ R) (hR2 : R ≤ 15)
    (Q : Int32 → (Nat → Int32) → (Nat → Int32) → (Nat → Int32) → (Nat → Int32) → Int32 → Int32 → (Nat → Int32) → (Nat → Int32) → (Nat → Int32) → (Nat → Int32) → (Nat → Int32) → (Nat → Int32) → Int32 → Int32 → Int32 → Prop)
    (hQ : ∀ sheet' since' W' Pc' L' S' steps' undoable', okM (rt kd mo gl F G 8).1 (rs (rt kd mo gl F G 8).1 row col C (C + R)) (C + R) (min (C + R) 200) (gU aW (fun _ => 0) 0 (C + R)) (gU aP (sP row col C) 0 (C + R)) (gU aL (sL C) 0 (C + R)) aB (gSq si (sL C) 0 (C + R)) sheet' since' W' Pc' L' S' steps' undoable' → Q (nI (C + R)) (fun k => nI (sgR k)) (fun k => nI ((rt kd mo gl F G 8).1 k)) (fun k => nI ((rt kd mo gl F G 8).2.1 k)) (fun k => nI ((rt kd mo gl F G 8).2.2 k)) (nI 8) (nI 2) sheet' since' W' Pc' L' S' steps' undoable' 0) :
    wp_X8_rule (fun k => nI (sg k)) (fun k => nI (kd k)) (fun k => nI (mo k)) (fun k => nI (gl k)) (nI P) wm (fun k => nI (on k)) since W Pc L S steps undoable br (nI F) (nI G) (nI C) (nI R) row col Q := by
  unfold wp_X8_rule
  refine ⟨fun q => absurd q (nI_pos (by omega)), fun _ => ⟨fun q => absurd q (nI_nlt (a := 15) (b := F) (by omega) (by decide)), fun _ => ⟨fun q => absurd q (nI_pos (by omega)), fun _ => ⟨fun q => absurd q (nI_nlt (a := 15) (b := G) (by omega) (by decide)), fun _ => ⟨fun q => absurd q (nI_nlt (a := C) (b := 1) hC (by omega)), fun _ => ⟨fun q => absurd q (nI_nlt (a := 15) (b := C) hC2 (by decide)), fun _ => ⟨fun q => absurd q (nI_nlt (a := R) (b := 1) hR (by omega)), fun _ => ⟨fun _ => ?_, fun q => absurd (nI_le (a := R) (b := 15) hR2 (by decide)) q⟩⟩⟩⟩⟩⟩⟩⟩
  refine sp_clear hP hS _ ?_
  have hk : ∀ p, 4 ≤ p → p < 8 → (rt kd mo gl F G 8).1 p = 1 := by
    intro p h1 h2
    rw [rt_kd F G 8 p h2]
    unfold pk
    rw [if_neg (by omega)]
  have hk5 : ∀ p, (rt kd mo gl F G 8).1 p ≤ 5 := (rt_ok hT F G 8).1
  have inv := rs_inv (row := row) (col := col) (r := R) hk hC hC2 hR2
  have l3 : ∀ s : (Nat → Int32) × (Nat → Int32) × (Nat → Int32) × (Nat → Int32) × (Nat → Int32) × (Nat → Int32) × Int32 × Int32,
      okM (rt kd mo gl F G 8).1 (rs (rt kd mo gl F G 8).1 row col C C) C (min C 200) (gU aW (fun _ => 0) 0 C) (gU aP (sP row col C) 0 C) (gU aL (sL C) 0 C) aB (gSq si (sL C) 0 C) s.1 s.2.1 s.2.2.1 s.2.2.2.1 s.2.2.2.2.1 s.2.2.2.2.2.1 s.2.2.2.2.2.2.1 s.2.2.2.2.2.2.2 →
      ∃ k, wq_X8_rule_245 Q k (fun k => nI (sgR k)) (fun k => nI ((rt kd mo gl F G 8).1 k)) (fun k => nI ((rt kd mo gl F G 8).2.1 k)) (fun k => nI ((rt kd mo gl F G 8).2.2 k)) (nI 8) (nI 2) s.1 s.2.1 s.2.2.1 s.2.2.2.1 s.2.2.2.2.1 s.2.2.2.2.2.1 s.2.2.2.2.2.2.1 s.2.2.2.2.2.2.2 0 (nI C) (nI R) col 0 := by
    intro s0 hs0
    refine pk_loop (σ := (Nat → Int32) × (Nat → Int32) × (Nat → Int32) × (Nat → Int32) × (Nat → Int32) × (Nat → Int32) × Int32 × Int32) (fun f i s => wq_X8_rule_245 Q f (fun k => nI (sgR k)) (fun k => nI ((rt kd mo gl F G 8).1 k)) (fun k => nI ((rt kd mo gl F G 8).2.1 k)) (fun k => nI ((rt kd mo gl F G 8).2.2 k)) (nI 8) (nI 2) s.1 s.2.1 s.2.2.1 s.2.2.2.1 s.2.2.2.2.1 s.2.2.2.2.2.1 s.2.2.2.2.2.2.1 s.2.2.2.2.2.2.2 0 (nI C) (nI R) col (nI i))
      (fun i s => okM (rt kd mo gl F G 8).1 (rs (rt kd mo gl F G 8).1 row col C (C + i)) (C + i) (min (C + i) 200) (gU aW (fun _ => 0) 0 (C + i)) (gU aP (sP row col C) 0 (C + i)) (gU aL (sL C) 0 (C + i)) aB (gSq si (sL C) 0 (C + i)) s.1 s.2.1 s.2.2.1 s.2.2.2.1 s.2.2.2.2.1 s.2.2.2.2.2.1 s.2.2.2.2.2.2.1 s.2.2.2.2.2.2.2) R 0 s0 (Nat.zero_le _) hs0 ?_ ?_
    · rintro f ⟨s1, s2, s3, s4, s5, s6, s7, s8⟩ j1
      show wf_X8_rule_245 _ _ _ _ _ _ _ _ _ _ _ _ _ _ _ _ _ _ _ _ _
      unfold wf_X8_rule_245
      refine ⟨fun _ => ?_, fun q => absurd (nI_le (Nat.le_refl R) (by omega)) q⟩
      rw [nI_add]
      exact hQ _ _ _ _ _ _ _ _ j1
    · rintro f i ⟨s1, s2, s3, s4, s5, s6, s7, s8⟩ hi j1 ih
      show wf_X8_rule_245 _ _ _ _ _ _ _ _ _ _ _ _ _ _ _ _ _ _ _ _ _
      unfold wf_X8_rule_245
      dsimp only at j1 ⊢
      rw [nI_le' (by omega) (by omega)]
      refine ⟨fun q => absurd q (by omega), fun _ => ?_⟩
      rw [sh_1 col (by omega), bI_bN, l_14, nI_sub' (by omega), da_6]
      have eP : sP row col C (C + i) = 6 + bN (bt col i) := by
        unfold sP
        rw [if_neg (by omega), show C + i - C = i by omega]
      have eL : sL C (C + i) = C + 16 * (14 - i) := by
        unfold sL
        rw [if_neg (by omega), show C + i - C = i by omega]
      obtain ⟨v1, v2, v3, v4⟩ := inv (C + i) (by omega)
      have hf := v4 (by omega)
      have hb := sP_b row col C (C + i)
      rw [← eP]
      have ok : sdOK (rt kd mo gl F G 8).1 (rs (rt kd mo gl F G 8).1 row col C (C + i)) (sP row col C (C + i)) C (14 - i) := ⟨hk _ hb.1 hb.2, by rw [← eL]; exact hf.2.1, v2⟩
      refine sp_rseed_t hk5 (by decide) v1 (by omega) (by omega) (by omega) j1 hb.2 (by omega) (by omega) _ (fun q => absurd ok q) (fun _ => ?_)
      intro q1 q2 q3 q4 q5 q6 q7 q8 kept' ek k1
      rintro _ rfl
      rw [ad_1]
      rw [← eL] at k1
      refine ih (q1, q2, q3, q4, q5, q6, q7, q8) ?_
      have ekp : kept' = min (C + (i + 1)) 200 := by omega
      rw [ekp] at k1
      show okM _ (rs (rt kd mo gl F G 8).1 row col C (C + i + 1)) (C + i + 1) _ (upN (gU aW (fun _ => 0) 0 (C + i)) (0 + (C + i)) 0) (upN (gU aP (sP row col C) 0 (C + i)) (0 + (C + i)) (sP row col C (C + i))) (upN (gU aL (sL C) 0 (C + i)) (0 + (C + i)) (sL C (C + i))) aB (upS (gSq si (sL C) 0 (C + i)) (sL C (C + i)) (nI (0 + (C + i)))) _ _ _ _ _ _ _ _
      rw [Nat.zero_add]
      exact k1
  have l2 : ∃ k, wq_X8_rule_208 Q k (fun k => nI (sgR k)) (fun k => nI ((rt kd mo gl F G 8).1 k)) (fun k => nI ((rt kd mo gl F G 8).2.1 k)) (fun k => nI ((rt kd mo gl F G 8).2.2 k)) (nI 8) (nI 2) (fun _ => nI 0) (fun j => if j < 256 then -1 else since j) W Pc L S 0 0 0 (nI C) (nI R) row col 0 := by
    refine pk_loop (σ := (Nat → Int32) × (Nat → Int32) × (Nat → Int32) × (Nat → Int32) × (Nat → Int32) × (Nat → Int32) × Int32 × Int32) (fun f i s => wq_X8_rule_208 Q f (fun k => nI (sgR k)) (fun k => nI ((rt kd mo gl F G 8).1 k)) (fun k => nI ((rt kd mo gl F G 8).2.1 k)) (fun k => nI ((rt kd mo gl F G 8).2.2 k)) (nI 8) (nI 2) s.1 s.2.1 s.2.2.1 s.2.2.2.1 s.2.2.2.2.1 s.2.2.2.2.2.1 s.2.2.2.2.2.2.1 s.2.2.2.2.2.2.2 0 (nI C) (nI R) row col (nI i))
      (fun i s => okM (rt kd mo gl F G 8).1 (rs (rt kd mo gl F G 8).1 row col C i) i (min i 200) (gU aW (fun _ => 0) 0 i) (gU aP (sP row col C) 0 i) (gU aL (sL C) 0 i) aB (gSq si (sL C) 0 i) s.1 s.2.1 s.2.2.1 s.2.2.2.1 s.2.2.2.2.1 s.2.2.2.2.2.1 s.2.2.2.2.2.2.1 s.2.2.2.2.2.2.2) C 0 ((fun _ => nI 0), (fun j => if j < 256 then -1 else since j), W, Pc, L, S, 0, 0) (Nat.zero_le _) ⟨rfl, fun k hk => absurd rfl hk, rfl, rfl, fun t h1 h2 => absurd h2 (by omega)⟩ ?_ ?_
    · rintro f ⟨s1, s2, s3, s4, s5, s6, s7, s8⟩ j1
      show wf_X8_rule_208 _ _ _ _ _ _ _ _ _ _ _ _ _ _ _ _ _ _ _ _ _ _
      unfold wf_X8_rule_208
      exact ⟨fun _ => l3 (s1, s2, s3, s4, s5, s6, s7, s8) j1, fun q => absurd (nI_le (Nat.le_refl C) (by omega)) q⟩
    · rintro f i ⟨s1, s2, s3, s4, s5, s6, s7, s8⟩ hi j1 ih
      show wf_X8_rule_208 _ _ _ _ _ _ _ _ _ _ _ _ _ _ _ _ _ _ _ _ _ _
      unfold wf_X8_rule_208
      dsimp only at j1 ⊢
      rw [nI_le' (by omega) (by omega)]
      refine ⟨fun q => absurd q (by omega), fun _ => ?_⟩
      rw [sb_1 hC, nI_sub' (by omega), sh_1 row (by omega), bI_bN, da_4, l_15]
      have eP : sP row col C i = 4 + bN (bt row (C - 1 - i)) := by
        unfold sP
        rw [if_pos hi]
      have eL : sL C i = i + 16 * 15 := by
        unfold sL
        rw [if_pos hi]
      obtain ⟨v1, v2, v3, v4⟩ := inv i (by omega)
      have hf := v4 (by omega)
      have hb := sP_b row col C i
      rw [← eP]
      have ok : sdOK (rt kd mo gl F G 8).1 (rs (rt kd mo gl F G 8).1 row col C i) (sP row col C i) i 15 := ⟨hk _ hb.1 hb.2, by rw [← eL]; exact hf.2.1, v2⟩
      refine sp_rseed_t hk5 (by decide) v1 (by omega) (by omega) (by omega) j1 hb.2 (by omega) (by omega) _ (fun q => absurd ok q) (fun _ => ?_)
      intro q1 q2 q3 q4 q5 q6 q7 q8 kept' ek k1
      rintro _ rfl
      rw [ad_1]
      rw [← eL] at k1
      refine ih (q1, q2, q3, q4, q5, q6, q7, q8) ?_
      have ekp : kept' = min (i + 1) 200 := by omega
      rw [ekp] at k1
      show okM _ (rs (rt kd mo gl F G 8).1 row col C (i + 1)) (i + 1) _ (upN (gU aW (fun _ => 0) 0 i) (0 + i) 0) (upN (gU aP (sP row col C) 0 i) (0 + i) (sP row col C i)) (upN (gU aL (sL C) 0 i) (0 + i) (sL C i)) aB (upS (gSq si (sL C) 0 i) (sL C i) (nI (0 + i))) _ _ _ _ _ _ _ _
      rw [Nat.zero_add]
      exact k1
  have l1 : ∃ k, wq_X8_rule_104 Q k (fun k => nI (sgR k)) (fun k => nI (kd k)) (fun k => nI (mo k)) (fun k => nI (gl k)) (nI 0) 2 (fun _ => nI 0) (fun j => if j < 256 then -1 else since j) W Pc L S 0 0 0 (nI F) (nI G) (nI C) (nI R) row col 0 := by
    have key := lp_up (W := fun f i => wq_X8_rule_104 Q f (fun k => nI (sgR k)) (fun k => nI ((rt kd mo gl F G i).1 k)) (fun k => nI ((rt kd mo gl F G i).2.1 k)) (fun k => nI ((rt kd mo gl F G i).2.2 k)) (nI i) 2 (fun _ => nI 0) (fun j => if j < 256 then -1 else since j) W Pc L S 0 0 0 (nI F) (nI G) (nI C) (nI R) row col (nI i)) (I := fun _ => True) 4 ?_ 0 (by decide) trivial
    · exact key
    · intro f j hj _ ihj
      show wf_X8_rule_104 _ _ _ _ _ _ _ _ _ _ _ _ _ _ _ _ _ _ _ _ _ _ _ _
      unfold wf_X8_rule_104
      rw [le_4 (by omega)]
      refine ⟨fun q2 => ?_, fun q2 => ?_⟩
      · obtain rfl : j = 4 := by omega
        refine sp_rpiece_g (k := 1) (m := 0) (a := 1) (r := 0) (b := 0) (l := 0) (by decide) (pm_ok F 4) (by decide) (by decide) (by decide) (by decide) _ ?_
        refine sp_rpiece_g (k := 1) (m := 0) (a := 2) (r := 0) (b := 0) (l := 0) (by decide) (pm_ok F 5) (by decide) (by decide) (by decide) (by decide) _ ?_
        refine sp_rpiece_g (k := 1) (m := 0) (a := 0) (r := 0) (b := 0) (l := 3) (by decide) (pm_ok F 6) (by decide) (by decide) (by decide) (by decide) _ ?_
        refine sp_rpiece_g (k := 1) (m := 0) (a := 0) (r := 0) (b := 0) (l := 4) (by decide) (pm_ok F 7) (by decide) (by decide) (by decide) (by decide) _ ?_
        exact l2
      · have hj4 : j < 4 := by omega
        have ihj := ihj hj4 trivial
        have b1 := bN_le (F.testBit j)
        have b2 := bN_le (G.testBit j)
        rw [sh_1 _ (by omega), sh_1 _ (by omega), bt_nI (by omega), bt_nI (by omega), bI_bN, bI_bN]
        rintro _ rfl
        rw [da_1, rm_2 (by omega), da_3, dv_2 (by omega), da_1, da_3, mu_16]
        have hpm := pm_ok F j
        unfold pk pm at hpm
        rw [if_pos hj4, if_pos hj4] at hpm
        refine sp_rpiece_g (k := 5) (by omega) hpm (by omega) (by omega) (by omega) (by omega) _ ?_
        rintro _ rfl
        rw [ad_1]
        have e : rt kd mo gl F G (j + 1) = (upN (rt kd mo gl F G j).1 j 5, upN (rt kd mo gl F G j).2.1 j (16 * (1 + bN (F.testBit j))), gl4 (rt kd mo gl F G j).2.2 j (1 + bN (F.testBit j)) (3 + j % 2) (1 + j / 2) (3 + bN (G.testBit j))) := by
          rw [rt]
          unfold pk pm pa pr pb pl
          simp only [if_pos hj4]
        rw [e] at ihj
        exact ihj
  have key := lp_up (W := fun f i => wq_X8_rule_59 Q f (fun k => nI (if k < i then sgR k else sg k)) (fun k => nI (kd k)) (fun k => nI (mo k)) (fun k => nI (gl k)) 0 wm (fun _ => nI 0) (fun j => if j < 256 then -1 else since j) W Pc L S 0 0 0 (nI F) (nI G) (nI C) (nI R) row col (nI i)) (I := fun _ => True) 51 ?_ 0 (by decide) trivial
  · exact key
  · intro f i hi _ ih
    show wf_X8_rule_59 _ _ _ _ _ _ _ _ _ _ _ _ _ _ _ _ _ _ _ _ _ _ _ _
    unfold wf_X8_rule_59
    rw [gt_50 (by omega)]
    refine ⟨fun q => ?_, fun q => ?_⟩
    · obtain rfl : i = 51 := by omega
      have es : (fun k => nI (if k < 51 then sgR k else sg k)) = fun k => nI (sgR k) := by
        funext k
        split
        · rfl
        · rw [hz.2.2.2 k (by omega)]
          unfold sgR
          rw [if_neg (by omega)]
      rw [es]
      exact l1
    · have ih := ih (by omega) trivial
      have es : ∀ v, v = sgR i → upN (fun k => if k < i then sgR k else sg k) i v = fun k => if k < i + 1 then sgR k else sg k := by
        intro v hv
        funext k
        unfold upN
        dsimp only
        by_cases e : k = i
        · rw [if_pos e, if_pos (by omega), hv, e]
        · rw [if_neg e]
          by_cases e2 : k < i
          · rw [if_pos e2, if_pos (by omega)]
          · rw [if_neg e2, if_neg (by omega)]
      have st : ∀ v, v = sgR i → wq_X8_rule_89 (wq_X8_rule_59 Q f) Q (fun k => nI (if k < i then sgR k else sg k)) (fun k => nI (kd k)) (fun k => nI (mo k)) (fun k => nI (gl k)) 0 wm (fun _ => nI 0) (fun j => if j < 256 then -1 else since j) W Pc L S 0 0 0 (nI F) (nI G) (nI C) (nI R) row col (nI i) (nI i) (nI v) := by
        intro v hv
        unfold wq_X8_rule_89
        rw [vp_in' (by omega), nI_clamp' (by omega), upd_N, es v hv]
        refine ⟨by omega, ?_⟩
        rintro _ rfl _ rfl
        rw [ad_1]
        exact ih
      unfold wq_X8_rule_88
      rw [ls_1 (by omega), gt_4 (by omega)]
      refine ⟨fun q1 => st 0 (by unfold sgR; rw [if_neg (by omega)]), fun q1 => ⟨fun q2 => st 0 (by unfold sgR; rw [if_neg (by omega)]), fun q2 => st 1 (by unfold sgR; rw [if_pos (by omega)])⟩⟩
