theorem fa_15 {g : Int32} : g ≤ (15 : Int32) ↔ ¬ (15 : Int32) < g := by
  rw [fa_le, fa_lt]
  omega
def rlBad (f g c r : Int32) : Prop := f < 0 ∨ (15 : Int32) < f ∨ g < 0 ∨ (15 : Int32) < g ∨ c < 1 ∨ (15 : Int32) < c ∨ r < 1 ∨ (15 : Int32) < r
theorem n1_c (g : Int32) : (g < 1 ∨ (15 : Int32) < g) ∨ ∃ a : Nat, 1 ≤ a ∧ a ≤ 15 ∧ g = nI a := by
  by_cases h1 : g < 1
  · exact Or.inl (Or.inl h1)
  have h0 : ¬ g < 0 := by
    rw [fa_lt] at h1 ⊢
    have e1 : (1 : Int32).toInt = 1 := by decide
    have e2 : (0 : Int32).toInt = 0 := by decide
    omega
  obtain ⟨a, ha, rfl⟩ := nI_of h0
  by_cases h2 : (15 : Int32) < nI a
  · exact Or.inl (Or.inr h2)
  rw [ls_1 ha] at h1
  rw [gt_15 ha] at h2
  exact Or.inr ⟨a, by omega, by omega, rfl⟩
theorem n0_c (g : Int32) : (g < 0 ∨ (15 : Int32) < g) ∨ ∃ a : Nat, a < 16 ∧ g = nI a := by
  by_cases h1 : g < 0
  · exact Or.inl (Or.inl h1)
  obtain ⟨a, ha, rfl⟩ := nI_of h1
  by_cases h2 : (15 : Int32) < nI a
  · exact Or.inl (Or.inr h2)
  rw [gt_15 ha] at h2
  exact Or.inr ⟨a, by omega, rfl⟩
theorem rl_c (f g c r : Int32) : rlBad f g c r ∨ ∃ F G C R : Nat, F < 16 ∧ G < 16 ∧ 1 ≤ C ∧ C ≤ 15 ∧ 1 ≤ R ∧ R ≤ 15 ∧ f = nI F ∧ g = nI G ∧ c = nI C ∧ r = nI R := by
  unfold rlBad
  rcases n0_c f with (h | h) | ⟨F, hF, rfl⟩
  · exact Or.inl (Or.inl h)
  · exact Or.inl (Or.inr (Or.inl h))
  rcases n0_c g with (h | h) | ⟨G, hG, rfl⟩
  · exact Or.inl (Or.inr (Or.inr (Or.inl h)))
  · exact Or.inl (Or.inr (Or.inr (Or.inr (Or.inl h))))
  rcases n1_c c with (h | h) | ⟨C, hC, hC2, rfl⟩
  · exact Or.inl (Or.inr (Or.inr (Or.inr (Or.inr (Or.inl h)))))
  · exact Or.inl (Or.inr (Or.inr (Or.inr (Or.inr (Or.inr (Or.inl h))))))
  rcases n1_c r with (h | h) | ⟨R, hR, hR2, rfl⟩
  · exact Or.inl (Or.inr (Or.inr (Or.inr (Or.inr (Or.inr (Or.inr (Or.inl h)))))))
  · exact Or.inl (Or.inr (Or.inr (Or.inr (Or.inr (Or.inr (Or.inr (Or.inr h)))))))
  exact Or.inr ⟨F, G, C, R, hF, hG, hC, hC2, hR, hR2, rfl, rfl, rfl, rfl⟩
theorem sh_1 (x : Int32) {s : Nat} (hs : s < 32) : ((x >>> (nI s &&& 31)) &&& (1 : Int32)) = bI (bt x s) := by
  rw [← bit_I x hs]
  apply b_ext
  intro i hi
  rw [b_and, b_and, b_sshr s hs x hi, b_ushr s hs]
  have h1 : ∀ i, i < 32 → bt 1 i = decide (i = 0) := by decide +kernel
  rw [h1 i hi]
  by_cases h : i = 0
  · subst h
    rw [if_pos (by omega)]
  · simp [h]
theorem sp_crule {kd mo gl sg B on : Nat → Nat} {P w F G C R : Nat} {row col : Int32} {pcs grw tm tk fc : Int32} {A Pc L Bf since stale stc line : (Nat → Int32)} {n all : Int32} {fits : (Nat → Int64)} {aW aP aL : Nat → Nat} {aB si : (Nat → Int32)} (hT : okT kd mo gl sg) (hP : P ≤ 40) (hz : okZ kd mo gl sg) (hF : F < 16) (hG : G < 16) (hC : 1 ≤ C) (hC2 : C ≤ 15) (hR : 1 ≤ R) (hR2 : R ≤ 15) (hFI : okFI kd mo gl sg w P B stale stc n fits line all)
    (Q : Int32 → Int32 → Int32 → (Nat → Int32) → (Nat → Int32) → (Nat → Int32) → (Nat → Int32) → (Nat → Int32) → (Nat → Int64) → (Nat → Int64) → (Nat → Int64) → Int64 → Int64 → Int64 → (Nat → Int32) → Int32 → Int32 → (Nat → Int32) → (Nat → Int32) → Int32 → Int32 → Int32 → Int32 → (Nat → Int32) → (Nat → Int32) → (Nat → Int32) → (Nat → Int32) → (Nat → Int32) → Prop)
    (hQ : ∀ cells' pieces' grown' stale' stc' n' tmade' tkept' A' Pc' L' Bf' since', okC (rt kd mo gl F G 8).1 (rs (rt kd mo gl F G 8).1 row col C (C + R)) (C + R) (min (C + R) 200) (gU aW (fun _ => 0) 0 (C + R)) (gU aP (sP row col C) 0 (C + R)) (gU aL (sL C) 0 (C + R)) aB (gSq si (sL C) 0 (C + R)) cells' pieces' grown' tmade' tkept' A' Pc' L' Bf' since' → okFI (rt kd mo gl F G 8).1 (rt kd mo gl F G 8).2.1 (rt kd mo gl F G 8).2.2 sgR 2 8 (pad (rs (rt kd mo gl F G 8).1 row col C (C + R))) stale' stc' n' fits line all → Q (nI (C + R)) (nI (2)) (nI (8)) (fun j0 => nI (sgR j0)) (fun j0 => nI ((rt kd mo gl F G 8).1 j0)) (fun j0 => nI (mrF ((rt kd mo gl F G 8).1) ((rt kd mo gl F G 8).2.1) j0)) (fun j0 => nI (fcF ((rt kd mo gl F G 8).1) ((rt kd mo gl F G 8).2.1) ((rt kd mo gl F G 8).2.2) (8) j0)) (fun j0 => nI (baF ((rt kd mo gl F G 8).1) ((rt kd mo gl F G 8).2.1) (8) j0)) (fun j0 => shF ((rt kd mo gl F G 8).1) ((rt kd mo gl F G 8).2.1) ((rt kd mo gl F G 8).2.2) (8) j0) (fun j0 => srF ((rt kd mo gl F G 8).1) ((rt kd mo gl F G 8).2.1) ((rt kd mo gl F G 8).2.2) (8) j0) (fun j0 => brF ((rt kd mo gl F G 8).1) ((rt kd mo gl F G 8).2.1) (8) j0) (seF ((rt kd mo gl F G 8).1) (8)) (blF ((rt kd mo gl F G 8).1) (8)) (rvF ((rt kd mo gl F G 8).1) (8)) cells' pieces' grown' stale' stc' n' tmade' tkept' 1 A' Pc' L' Bf' since') :
    wp_X7_rule (nI (w)) (nI (P)) (fun j0 => nI (sg j0)) (fun j0 => nI (kd j0)) (fun j0 => nI (mrF (kd) (mo) j0)) (fun j0 => nI (fcF (kd) (mo) (gl) (P) j0)) (fun j0 => nI (baF (kd) (mo) (P) j0)) (fun j0 => shF (kd) (mo) (gl) (P) j0) (fun j0 => srF (kd) (mo) (gl) (P) j0) (fun j0 => brF (kd) (mo) (P) j0) (seF (kd) (P)) (blF (kd) (P)) (rvF (kd) (P)) (fun c => nI (cc (pad on c))) pcs grw stale stc n tm tk fc A Pc L Bf since (nI F) (nI G) (nI C) (nI R) row col Q := by
  unfold wp_X7_rule
  refine ⟨fun q => absurd q (nI_pos (by omega)), fun _ => ⟨fun q => absurd q (nI_nlt (a := 15) (b := F) (by omega) (by decide)), fun _ => ⟨fun q => absurd q (nI_pos (by omega)), fun _ => ⟨fun q => absurd q (nI_nlt (a := 15) (b := G) (by omega) (by decide)), fun _ => ⟨fun q => absurd q (nI_nlt (a := C) (b := 1) hC (by omega)), fun _ => ⟨fun q => absurd q (nI_nlt (a := 15) (b := C) hC2 (by decide)), fun _ => ⟨fun q => absurd q (nI_nlt (a := R) (b := 1) hR (by omega)), fun _ => ⟨fun _ => ?_, fun q => absurd (nI_le (a := R) (b := 15) hR2 (by decide)) q⟩⟩⟩⟩⟩⟩⟩⟩
  refine sp_sweep (kd' := (rt kd mo gl F G 8).1) (mo' := (rt kd mo gl F G 8).2.1) (gl' := (rt kd mo gl F G 8).2.2) (sg' := sgR) (w' := 2) (P' := 8) hFI _ ?_
  intro stale0 stc0 n0 f0
  refine sp_restart true _ ?_
  refine sp_becomeRule hP hz hF hG _ ?_
  have hk : ∀ p, 4 ≤ p → p < 8 → (rt kd mo gl F G 8).1 p = 1 := by
    intro p h1 h2
    rw [rt_kd F G 8 p h2]
    unfold pk
    rw [if_neg (by omega)]
  have hk5 : ∀ p, (rt kd mo gl F G 8).1 p ≤ 5 := (rt_ok hT F G 8).1
  have inv := rs_inv (row := row) (col := col) (r := R) hk hC hC2 hR2
  have l2 : ∀ s : (Nat → Int32) × Int32 × Int32 × (Nat → Int32) × (Nat → Int32) × Int32 × Int32 × Int32 × (Nat → Int32) × (Nat → Int32) × (Nat → Int32) × (Nat → Int32) × (Nat → Int32),
      okC (rt kd mo gl F G 8).1 (rs (rt kd mo gl F G 8).1 row col C C) C (min C 200) (gU aW (fun _ => 0) 0 C) (gU aP (sP row col C) 0 C) (gU aL (sL C) 0 C) aB (gSq si (sL C) 0 C) s.1 s.2.1 s.2.2.1 s.2.2.2.2.2.2.1 s.2.2.2.2.2.2.2.1 s.2.2.2.2.2.2.2.2.1 s.2.2.2.2.2.2.2.2.2.1 s.2.2.2.2.2.2.2.2.2.2.1 s.2.2.2.2.2.2.2.2.2.2.2.1 s.2.2.2.2.2.2.2.2.2.2.2.2 → okFI (rt kd mo gl F G 8).1 (rt kd mo gl F G 8).2.1 (rt kd mo gl F G 8).2.2 sgR 2 8 (pad (rs (rt kd mo gl F G 8).1 row col C C)) s.2.2.2.1 s.2.2.2.2.1 s.2.2.2.2.2.1 fits line all →
      ∃ k, wq_X7_rule_113 Q k (nI (2)) (nI (8)) (fun j0 => nI (sgR j0)) (fun j0 => nI ((rt kd mo gl F G 8).1 j0)) (fun j0 => nI (mrF ((rt kd mo gl F G 8).1) ((rt kd mo gl F G 8).2.1) j0)) (fun j0 => nI (fcF ((rt kd mo gl F G 8).1) ((rt kd mo gl F G 8).2.1) ((rt kd mo gl F G 8).2.2) (8) j0)) (fun j0 => nI (baF ((rt kd mo gl F G 8).1) ((rt kd mo gl F G 8).2.1) (8) j0)) (fun j0 => shF ((rt kd mo gl F G 8).1) ((rt kd mo gl F G 8).2.1) ((rt kd mo gl F G 8).2.2) (8) j0) (fun j0 => srF ((rt kd mo gl F G 8).1) ((rt kd mo gl F G 8).2.1) ((rt kd mo gl F G 8).2.2) (8) j0) (fun j0 => brF ((rt kd mo gl F G 8).1) ((rt kd mo gl F G 8).2.1) (8) j0) (seF ((rt kd mo gl F G 8).1) (8)) (blF ((rt kd mo gl F G 8).1) (8)) (rvF ((rt kd mo gl F G 8).1) (8)) s.1 s.2.1 s.2.2.1 s.2.2.2.1 s.2.2.2.2.1 s.2.2.2.2.2.1 s.2.2.2.2.2.2.1 s.2.2.2.2.2.2.2.1 1 s.2.2.2.2.2.2.2.2.1 s.2.2.2.2.2.2.2.2.2.1 s.2.2.2.2.2.2.2.2.2.2.1 s.2.2.2.2.2.2.2.2.2.2.2.1 s.2.2.2.2.2.2.2.2.2.2.2.2 (nI C) (nI R) col 0 := by
    intro s0 hs0 hs1
    refine pk_loop (σ := (Nat → Int32) × Int32 × Int32 × (Nat → Int32) × (Nat → Int32) × Int32 × Int32 × Int32 × (Nat → Int32) × (Nat → Int32) × (Nat → Int32) × (Nat → Int32) × (Nat → Int32)) (fun f i s => wq_X7_rule_113 Q f (nI (2)) (nI (8)) (fun j0 => nI (sgR j0)) (fun j0 => nI ((rt kd mo gl F G 8).1 j0)) (fun j0 => nI (mrF ((rt kd mo gl F G 8).1) ((rt kd mo gl F G 8).2.1) j0)) (fun j0 => nI (fcF ((rt kd mo gl F G 8).1) ((rt kd mo gl F G 8).2.1) ((rt kd mo gl F G 8).2.2) (8) j0)) (fun j0 => nI (baF ((rt kd mo gl F G 8).1) ((rt kd mo gl F G 8).2.1) (8) j0)) (fun j0 => shF ((rt kd mo gl F G 8).1) ((rt kd mo gl F G 8).2.1) ((rt kd mo gl F G 8).2.2) (8) j0) (fun j0 => srF ((rt kd mo gl F G 8).1) ((rt kd mo gl F G 8).2.1) ((rt kd mo gl F G 8).2.2) (8) j0) (fun j0 => brF ((rt kd mo gl F G 8).1) ((rt kd mo gl F G 8).2.1) (8) j0) (seF ((rt kd mo gl F G 8).1) (8)) (blF ((rt kd mo gl F G 8).1) (8)) (rvF ((rt kd mo gl F G 8).1) (8)) s.1 s.2.1 s.2.2.1 s.2.2.2.1 s.2.2.2.2.1 s.2.2.2.2.2.1 s.2.2.2.2.2.2.1 s.2.2.2.2.2.2.2.1 1 s.2.2.2.2.2.2.2.2.1 s.2.2.2.2.2.2.2.2.2.1 s.2.2.2.2.2.2.2.2.2.2.1 s.2.2.2.2.2.2.2.2.2.2.2.1 s.2.2.2.2.2.2.2.2.2.2.2.2 (nI C) (nI R) col (nI i))
      (fun i s => okC (rt kd mo gl F G 8).1 (rs (rt kd mo gl F G 8).1 row col C (C + i)) (C + i) (min (C + i) 200) (gU aW (fun _ => 0) 0 (C + i)) (gU aP (sP row col C) 0 (C + i)) (gU aL (sL C) 0 (C + i)) aB (gSq si (sL C) 0 (C + i)) s.1 s.2.1 s.2.2.1 s.2.2.2.2.2.2.1 s.2.2.2.2.2.2.2.1 s.2.2.2.2.2.2.2.2.1 s.2.2.2.2.2.2.2.2.2.1 s.2.2.2.2.2.2.2.2.2.2.1 s.2.2.2.2.2.2.2.2.2.2.2.1 s.2.2.2.2.2.2.2.2.2.2.2.2 ∧ okFI (rt kd mo gl F G 8).1 (rt kd mo gl F G 8).2.1 (rt kd mo gl F G 8).2.2 sgR 2 8 (pad (rs (rt kd mo gl F G 8).1 row col C (C + i))) s.2.2.2.1 s.2.2.2.2.1 s.2.2.2.2.2.1 fits line all) R 0 s0 (Nat.zero_le _) ⟨hs0, hs1⟩ ?_ ?_
    · rintro f ⟨s1, s2, s3, s4, s5, s6, s7, s8, s9, s10, s11, s12, s13⟩ ⟨j1, j2⟩
      show wf_X7_rule_113 _ _ _ _ _ _ _ _ _ _ _ _ _ _ _ _ _ _ _ _ _ _ _ _ _ _ _ _ _ _ _ _ _
      unfold wf_X7_rule_113
      refine ⟨fun _ => ?_, fun q => absurd (nI_le (Nat.le_refl R) (by omega)) q⟩
      rw [nI_add]
      exact hQ _ _ _ _ _ _ _ _ _ _ _ _ _ j1 j2
    · rintro f i ⟨s1, s2, s3, s4, s5, s6, s7, s8, s9, s10, s11, s12, s13⟩ hi ⟨j1, j2⟩ ih
      show wf_X7_rule_113 _ _ _ _ _ _ _ _ _ _ _ _ _ _ _ _ _ _ _ _ _ _ _ _ _ _ _ _ _ _ _ _ _
      unfold wf_X7_rule_113
      dsimp only at j1 j2 ⊢
      rw [nI_le' (by omega) (by omega)]
      refine ⟨fun q => absurd q (by omega), fun _ => ?_⟩
      apply sp_bitOf _ (by omega)
      rw [bI_bN, l_14, nI_sub' (by omega), da_6]
      refine sp_placeOf_t (by omega) (by omega) _ ?_
      have eP : sP row col C (C + i) = 6 + bN (bt col i) := by
        unfold sP
        rw [if_neg (by omega), show C + i - C = i by omega]
      have eL : sL C (C + i) = C + 16 * (14 - i) := by
        unfold sL
        rw [if_neg (by omega), show C + i - C = i by omega]
      have hf := (inv (C + i) (by omega)).2.2.2 (by omega)
      have hb := sP_b row col C (C + i)
      rw [← eP, ← celK_xy (show C < 16 by omega), ← eL]
      refine okC_stepDown (w := 0) hk5 (by decide) (by omega) (by omega) (by omega) j1 j2 (by decide) hb.2 hf _ ?_
      intro q1 q2 q3 q4 q5 q6 q7 q8 q9 q10 q11 q12 q13 kept' ek k1 k2
      rintro _ rfl
      rw [ad_1]
      refine ih (q1, q2, q3, q4, q5, q6, q7, q8, q9, q10, q11, q12, q13) ⟨?_, k2⟩
      have ekp : kept' = min (C + (i + 1)) 200 := by omega
      rw [ekp] at k1
      show okC _ (rs (rt kd mo gl F G 8).1 row col C (C + i + 1)) (C + i + 1) _ (upN (gU aW (fun _ => 0) 0 (C + i)) (0 + (C + i)) 0) (upN (gU aP (sP row col C) 0 (C + i)) (0 + (C + i)) (sP row col C (C + i))) (upN (gU aL (sL C) 0 (C + i)) (0 + (C + i)) (sL C (C + i))) aB (upS (gSq si (sL C) 0 (C + i)) (sL C (C + i)) (nI (0 + (C + i)))) _ _ _ _ _ _ _ _ _ _
      rw [Nat.zero_add]
      exact k1
  refine pk_loop (σ := (Nat → Int32) × Int32 × Int32 × (Nat → Int32) × (Nat → Int32) × Int32 × Int32 × Int32 × (Nat → Int32) × (Nat → Int32) × (Nat → Int32) × (Nat → Int32) × (Nat → Int32)) (fun f i s => wq_X7_rule_73 Q f (nI (2)) (nI (8)) (fun j0 => nI (sgR j0)) (fun j0 => nI ((rt kd mo gl F G 8).1 j0)) (fun j0 => nI (mrF ((rt kd mo gl F G 8).1) ((rt kd mo gl F G 8).2.1) j0)) (fun j0 => nI (fcF ((rt kd mo gl F G 8).1) ((rt kd mo gl F G 8).2.1) ((rt kd mo gl F G 8).2.2) (8) j0)) (fun j0 => nI (baF ((rt kd mo gl F G 8).1) ((rt kd mo gl F G 8).2.1) (8) j0)) (fun j0 => shF ((rt kd mo gl F G 8).1) ((rt kd mo gl F G 8).2.1) ((rt kd mo gl F G 8).2.2) (8) j0) (fun j0 => srF ((rt kd mo gl F G 8).1) ((rt kd mo gl F G 8).2.1) ((rt kd mo gl F G 8).2.2) (8) j0) (fun j0 => brF ((rt kd mo gl F G 8).1) ((rt kd mo gl F G 8).2.1) (8) j0) (seF ((rt kd mo gl F G 8).1) (8)) (blF ((rt kd mo gl F G 8).1) (8)) (rvF ((rt kd mo gl F G 8).1) (8)) s.1 s.2.1 s.2.2.1 s.2.2.2.1 s.2.2.2.2.1 s.2.2.2.2.2.1 s.2.2.2.2.2.2.1 s.2.2.2.2.2.2.2.1 1 s.2.2.2.2.2.2.2.2.1 s.2.2.2.2.2.2.2.2.2.1 s.2.2.2.2.2.2.2.2.2.2.1 s.2.2.2.2.2.2.2.2.2.2.2.1 s.2.2.2.2.2.2.2.2.2.2.2.2 (nI C) (nI R) row col (nI i))
    (fun i s => okC (rt kd mo gl F G 8).1 (rs (rt kd mo gl F G 8).1 row col C i) i (min i 200) (gU aW (fun _ => 0) 0 i) (gU aP (sP row col C) 0 i) (gU aL (sL C) 0 i) aB (gSq si (sL C) 0 i) s.1 s.2.1 s.2.2.1 s.2.2.2.2.2.2.1 s.2.2.2.2.2.2.2.1 s.2.2.2.2.2.2.2.2.1 s.2.2.2.2.2.2.2.2.2.1 s.2.2.2.2.2.2.2.2.2.2.1 s.2.2.2.2.2.2.2.2.2.2.2.1 s.2.2.2.2.2.2.2.2.2.2.2.2 ∧ okFI (rt kd mo gl F G 8).1 (rt kd mo gl F G 8).2.1 (rt kd mo gl F G 8).2.2 sgR 2 8 (pad (rs (rt kd mo gl F G 8).1 row col C i)) s.2.2.2.1 s.2.2.2.2.1 s.2.2.2.2.2.1 fits line all) C 0 ((fun c => nI (cc (pad (fun _ => 0) c))), nI 0, nI 0, stale0, stc0, n0, 0, 0, A, Pc, L, Bf, (fun k => if k < 324 then -1 else since k)) (Nat.zero_le _) ⟨?_, f0⟩ ?_ ?_
  · refine ⟨rfl, ?_, ?_, rfl, rfl, fun t h1 h2 => absurd h2 (by omega), fun k hk ho => ?_⟩
    · show nI 0 = nI (cnt (fun _ => 0))
      rw [cnt_z]
    · show nI 0 = nI (grn (rt kd mo gl F G 8).1 (fun _ => 0))
      rw [grn_z]
    · have ho : (0 : Nat) % 2 = 1 := ho
      omega
  · rintro f ⟨s1, s2, s3, s4, s5, s6, s7, s8, s9, s10, s11, s12, s13⟩ ⟨j1, j2⟩
    show wf_X7_rule_73 _ _ _ _ _ _ _ _ _ _ _ _ _ _ _ _ _ _ _ _ _ _ _ _ _ _ _ _ _ _ _ _ _ _
    unfold wf_X7_rule_73
    refine ⟨fun _ => ?_, fun q => absurd (nI_le (Nat.le_refl C) (by omega)) q⟩
    exact l2 (s1, s2, s3, s4, s5, s6, s7, s8, s9, s10, s11, s12, s13) j1 j2
  · rintro f i ⟨s1, s2, s3, s4, s5, s6, s7, s8, s9, s10, s11, s12, s13⟩ hi ⟨j1, j2⟩ ih
    show wf_X7_rule_73 _ _ _ _ _ _ _ _ _ _ _ _ _ _ _ _ _ _ _ _ _ _ _ _ _ _ _ _ _ _ _ _ _ _
    unfold wf_X7_rule_73
    dsimp only at j1 j2 ⊢
    rw [nI_le' (by omega) (by omega)]
    refine ⟨fun q => absurd q (by omega), fun _ => ?_⟩
    rw [sb_1 hC, nI_sub' (by omega)]
    apply sp_bitOf _ (by omega)
    rw [bI_bN, da_4, l_15]
    refine sp_placeOf_t (by omega) (by decide) _ ?_
    have eP : sP row col C i = 4 + bN (bt row (C - 1 - i)) := by
      unfold sP
      rw [if_pos hi]
    have eL : sL C i = i + 16 * 15 := by
      unfold sL
      rw [if_pos hi]
    have hf := (inv i (by omega)).2.2.2 (by omega)
    have hb := sP_b row col C i
    rw [← eP, ← celK_xy (show i < 16 by omega), ← eL]
    refine okC_stepDown (w := 0) hk5 (by decide) (by omega) (by omega) (by omega) j1 j2 (by decide) hb.2 hf _ ?_
    intro q1 q2 q3 q4 q5 q6 q7 q8 q9 q10 q11 q12 q13 kept' ek k1 k2
    rintro _ rfl
    rw [ad_1]
    refine ih (q1, q2, q3, q4, q5, q6, q7, q8, q9, q10, q11, q12, q13) ⟨?_, k2⟩
    have ekp : kept' = min (i + 1) 200 := by omega
    rw [ekp] at k1
    show okC _ (rs (rt kd mo gl F G 8).1 row col C (i + 1)) (i + 1) _ (upN (gU aW (fun _ => 0) 0 i) (0 + i) 0) (upN (gU aP (sP row col C) 0 i) (0 + i) (sP row col C i)) (upN (gU aL (sL C) 0 i) (0 + i) (sL C i)) aB (upS (gSq si (sL C) 0 i) (sL C i) (nI (0 + i))) _ _ _ _ _ _ _ _ _ _
    rw [Nat.zero_add]
    exact k1
theorem sp_crule_f {kd mo gl sg : Nat → Nat} {P w : Nat} {f g c r row col : Int32} {cells : (Nat → Int32)} {pcs grw tm tk fc : Int32} {A Pc L Bf since stale stc : (Nat → Int32)} {n : Int32} (h : rlBad f g c r)
    (Q : Int32 → Int32 → Int32 → (Nat → Int32) → (Nat → Int32) → (Nat → Int32) → (Nat → Int32) → (Nat → Int32) → (Nat → Int64) → (Nat → Int64) → (Nat → Int64) → Int64 → Int64 → Int64 → (Nat → Int32) → Int32 → Int32 → (Nat → Int32) → (Nat → Int32) → Int32 → Int32 → Int32 → Int32 → (Nat → Int32) → (Nat → Int32) → (Nat → Int32) → (Nat → Int32) → (Nat → Int32) → Prop)
    (hQ : Q (-1) (nI (w)) (nI (P)) (fun j0 => nI (sg j0)) (fun j0 => nI (kd j0)) (fun j0 => nI (mrF (kd) (mo) j0)) (fun j0 => nI (fcF (kd) (mo) (gl) (P) j0)) (fun j0 => nI (baF (kd) (mo) (P) j0)) (fun j0 => shF (kd) (mo) (gl) (P) j0) (fun j0 => srF (kd) (mo) (gl) (P) j0) (fun j0 => brF (kd) (mo) (P) j0) (seF (kd) (P)) (blF (kd) (P)) (rvF (kd) (P)) cells pcs grw stale stc n tm tk fc A Pc L Bf since) :
    wp_X7_rule (nI (w)) (nI (P)) (fun j0 => nI (sg j0)) (fun j0 => nI (kd j0)) (fun j0 => nI (mrF (kd) (mo) j0)) (fun j0 => nI (fcF (kd) (mo) (gl) (P) j0)) (fun j0 => nI (baF (kd) (mo) (P) j0)) (fun j0 => shF (kd) (mo) (gl) (P) j0) (fun j0 => srF (kd) (mo) (gl) (P) j0) (fun j0 => brF (kd) (mo) (P) j0) (seF (kd) (P)) (blF (kd) (P)) (rvF (kd) (P)) cells pcs grw stale stc n tm tk fc A Pc L Bf since f g c r row col Q := by
  unfold wp_X7_rule
  rw [fa_15]
  refine ⟨fun _ => hQ, fun h1 => ⟨fun _ => hQ, fun h2 => ⟨fun _ => hQ, fun h3 => ⟨fun _ => hQ, fun h4 => ⟨fun _ => hQ, fun h5 => ⟨fun _ => hQ, fun h6 => ⟨fun _ => hQ, fun h7 => ⟨fun h8 => ?_, fun _ => hQ⟩⟩⟩⟩⟩⟩⟩⟩
  rcases h with h | h | h | h | h | h | h | h
  · exact absurd h h1
  · exact absurd h h2
  · exact absurd h h3
  · exact absurd h h4
  · exact absurd h h5
  · exact absurd h h6
  · exact absurd h h7
  · exact absurd h h8
theorem sp_rrule_f {sheet since str kn mr gs W Pc L S : (Nat → Int32)} {pcs wm steps undoable br : Int32} {f g c r row col : Int32} (h : rlBad f g c r)
    (Q : Int32 → (Nat → Int32) → (Nat → Int32) → (Nat → Int32) → (Nat → Int32) → Int32 → Int32 → (Nat → Int32) → (Nat → Int32) → (Nat → Int32) → (Nat → Int32) → (Nat → Int32) → (Nat → Int32) → Int32 → Int32 → Int32 → Prop)
    (hQ : Q (-1) str kn mr gs pcs wm sheet since W Pc L S steps undoable br) : wp_X8_rule str kn mr gs pcs wm sheet since W Pc L S steps undoable br f g c r row col Q := by
  unfold wp_X8_rule
  rw [fa_15]
  refine ⟨fun _ => hQ, fun h1 => ⟨fun _ => hQ, fun h2 => ⟨fun _ => hQ, fun h3 => ⟨fun _ => hQ, fun h4 => ⟨fun _ => hQ, fun h5 => ⟨fun _ => hQ, fun h6 => ⟨fun _ => hQ, fun h7 => ⟨fun h8 => ?_, fun _ => hQ⟩⟩⟩⟩⟩⟩⟩⟩
  rcases h with h | h | h | h | h | h | h | h
  · exact absurd h h1
  · exact absurd h h2
  · exact absurd h h3
  · exact absurd h h4
  · exact absurd h h5
  · exact absurd h h6
  · exact absurd h h7
  · exact absurd h h8
