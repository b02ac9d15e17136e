theorem mrF_add {kd mo : Nat → Nat} {P k m : Nat} : (fun j => nI (upN (mrF kd mo) P (if k = 5 then m / 16 else 0) j)) = fun j => nI (mrF (upN kd P k) (upN mo P m) j) := by
  funext j
  congr 1
  by_cases h : j = P
  · subst h
    rw [upN_s]
    unfold mrF
    rw [upN_s, upN_s]
  · rw [upN_n h]
    unfold mrF
    rw [upN_n h, upN_n h]
theorem okT_add {kd mo gl sg : Nat → Nat} {P k m a r b l : Nat} (h : okT kd mo gl sg) (hm : moreOK k m) (ha : a ≤ 50) (hr : r ≤ 50) (hb : b ≤ 50) (hl : l ≤ 50) : okT (upN kd P k) (upN mo P m) (gl4 gl P a r b l) sg := by
  obtain ⟨h1, h2, h3, h4, h5, h6⟩ := h
  have hk := moreOK_le hm
  refine ⟨fun p => ?_, fun p => ?_, fun p => ?_, fun j => ?_, h5, h6⟩
  · unfold upN
    split
    · exact hk.1
    · exact h1 p
  · unfold upN
    split
    · exact hk.2
    · exact h2 p
  · unfold upN
    split
    · intro e
      unfold moreOK at hm
      omega
    · exact h3 p
  · unfold gl4 upN
    repeat' split
    all_goals first | omega | exact h4 j
theorem sp_addPiece {kd mo gl : Nat → Nat} {P : Nat} {kind a r b l more : Int32} (hP : P ≤ 40) (Q : Int32 → Int32 → (Nat → Int32) → (Nat → Int32) → (Nat → Int32) → (Nat → Int32) → (Nat → Int64) → (Nat → Int64) → (Nat → Int64) → Int64 → Int64 → Int64 → Prop)
    (h0 : (P = 40 ∨ ¬ pOK kind a r b l more) → Q (-1) (nI (P)) (fun j0 => nI (kd j0)) (fun j0 => nI (mrF (kd) (mo) j0)) (fun j0 => nI (fcF (kd) (mo) (gl) (P) j0)) (fun j0 => nI (baF (kd) (mo) (P) j0)) (fun j0 => shF (kd) (mo) (gl) (P) j0) (fun j0 => srF (kd) (mo) (gl) (P) j0) (fun j0 => brF (kd) (mo) (P) j0) (seF (kd) (P)) (blF (kd) (P)) (rvF (kd) (P)))
    (h1 : P < 40 → ∀ k m a' r' b' l', kind = nI k → more = nI m → moreOK k m → a = nI a' → r = nI r' → b = nI b' → l = nI l' → a' ≤ 50 → r' ≤ 50 → b' ≤ 50 → l' ≤ 50 → Q (nI P) (nI (P + 1)) (fun j0 => nI (upN kd P k j0)) (fun j0 => nI (mrF (upN kd P k) (upN mo P m) j0)) (fun j0 => nI (fcF (upN kd P k) (upN mo P m) (gl4 gl P a' r' b' l') (P + 1) j0)) (fun j0 => nI (baF (upN kd P k) (upN mo P m) (P + 1) j0)) (fun j0 => shF (upN kd P k) (upN mo P m) (gl4 gl P a' r' b' l') (P + 1) j0) (fun j0 => srF (upN kd P k) (upN mo P m) (gl4 gl P a' r' b' l') (P + 1) j0) (fun j0 => brF (upN kd P k) (upN mo P m) (P + 1) j0) (seF (upN kd P k) (P + 1)) (blF (upN kd P k) (P + 1)) (rvF (upN kd P k) (P + 1))) :
    wp_X1_addPiece (nI (P)) (fun j0 => nI (kd j0)) (fun j0 => nI (mrF (kd) (mo) j0)) (fun j0 => nI (fcF (kd) (mo) (gl) (P) j0)) (fun j0 => nI (baF (kd) (mo) (P) j0)) (fun j0 => shF (kd) (mo) (gl) (P) j0) (fun j0 => srF (kd) (mo) (gl) (P) j0) (fun j0 => brF (kd) (mo) (P) j0) (seF (kd) (P)) (blF (kd) (P)) (rvF (kd) (P)) kind a r b l more Q := by
  unfold wp_X1_addPiece
  rw [le_40 (by omega)]
  refine ⟨fun q => h0 (Or.inl (by omega)), fun q => ?_⟩
  have hP' : P < 40 := by omega
  refine sp_isMoreOf _ _ _ (fun gm => ⟨fun e => absurd e (by decide), fun _ => ?_⟩) (fun n => ⟨fun _ => h0 (Or.inr (fun z => n z.1)), fun e => absurd rfl e⟩)
  refine sp_isFace _ _ (fun ga => ⟨fun e => absurd e (by decide), fun _ => ?_⟩) (fun n => ⟨fun _ => h0 (Or.inr (fun z => n z.2.1)), fun e => absurd rfl e⟩)
  refine sp_isFace _ _ (fun gr => ⟨fun e => absurd e (by decide), fun _ => ?_⟩) (fun n => ⟨fun _ => h0 (Or.inr (fun z => n z.2.2.1)), fun e => absurd rfl e⟩)
  refine sp_isFace _ _ (fun gb => ⟨fun e => absurd e (by decide), fun _ => ?_⟩) (fun n => ⟨fun _ => h0 (Or.inr (fun z => n z.2.2.2.1)), fun e => absurd rfl e⟩)
  refine sp_isFace _ _ (fun gl' => ⟨fun _ => ?_, fun e => absurd e (by decide)⟩) (fun n => ⟨fun e => absurd rfl e, fun _ => h0 (Or.inr (fun z => n z.2.2.2.2))⟩)
  obtain ⟨k, m, rfl, rfl, hm⟩ := gm
  obtain ⟨a', ha, rfl⟩ := ga
  obtain ⟨r', hr, rfl⟩ := gr
  obtain ⟨b', hb, rfl⟩ := gb
  obtain ⟨l', hl, rfl⟩ := gl'
  have hq := h1 hP' k m a' r' b' l' rfl rfl hm rfl rfl rfl rfl ha hr hb hl
  obtain ⟨hk5, hm3⟩ := moreOK_le hm
  have hm2 : k = 2 → m % 64 ≤ 50 ∧ m / 64 ≤ 50 := by
    intro e
    unfold moreOK at hm
    omega
  have hrr : (if k = 2 then 0 else r') ≤ 50 := by split <;> omega
  have hx0 : (if k = 2 then m % 64 else 0) ≤ 50 := by split <;> omega
  have hx1 : (if k = 2 then r' else 0) ≤ 50 := by split <;> omega
  have hx2 : (if k = 2 then m / 64 else 0) ≤ 50 := by split <;> omega
  rw [ad_1, vp_in' (by omega), nI_clamp' (by omega), upd_N]
  rintro _ rfl
  refine ⟨by omega, ?_⟩
  rintro _ rfl
  rw [← fcF_add hP', ← shF_add hP' ha hr hb hl, ← srF_add hP' hm2 hr, ← baF_add hP', ← brF_add hP', ← mrF_add] at hq
  have s3 : ∀ {F : Nat → Nat}, (Q (nI P) (nI (P + 1)) (fun k_1 => nI (upN kd P k k_1)) (fun j => nI (upN (mrF kd mo) P (if k = 5 then m / 16 else 0) j)) (fun j => nI (upN (upN (upN F (4 * (1 + P + 64) + 0) (if k = 2 then m % 64 else 0)) (4 * (1 + P + 64) + 1) (if k = 2 then r' else 0)) (4 * (1 + P + 64) + 2) (if k = 2 then m / 64 else 0) j)) (fun j => nI (upN (baF kd mo P) (1 + P) (if k = 4 ∨ k = 5 then m % 16 else 0) j)) (fun j => mk (shw (shw (shw (shw (shB kd mo gl P) P 0 a') P 1 (if k = 2 then 0 else r')) P 2 b') P 3 l' j)) (fun j => mk (shw (shw (shw (srB kd mo gl P) P 0 (if k = 2 then m % 64 else 0)) P 1 (if k = 2 then r' else 0)) P 2 (if k = 2 then m / 64 else 0) j)) (fun d => mk (brU (brB kd mo P) P (if k = 4 ∨ k = 5 then m % 16 else 0) 4 d)) (seF (upN kd P k) (P + 1)) (blF (upN kd P k) (P + 1)) (rvF (upN kd P k) (P + 1))) →
      wq_X1_addPiece_243 Q (nI (P + 1)) (fun k_1 => nI (upN kd P k k_1)) (fun j => nI (upN (mrF kd mo) P (if k = 5 then m / 16 else 0) j)) (fun j => nI (F j)) (fun j => nI (upN (baF kd mo P) (1 + P) (if k = 4 ∨ k = 5 then m % 16 else 0) j)) (fun j => mk (shw (shw (shw (shw (shB kd mo gl P) P 0 a') P 1 (if k = 2 then 0 else r')) P 2 b') P 3 l' j)) (fun k => srF kd mo gl P k) (fun d => mk (brU (brB kd mo P) P (if k = 4 ∨ k = 5 then m % 16 else 0) 4 d)) (seF (upN kd P k) (P + 1)) (blF (upN kd P k) (P + 1)) (rvF (upN kd P k) (P + 1)) (nI r') (nI m) (nI P) (bI (decide (k = 2))) (nI P) (nI (1 + P + 64)) (nI 0) (nI (if k = 2 then m % 64 else 0)) := by
    intro F hq
    unfold wq_X1_addPiece_243 wq_X1_addPiece_271 wq_X1_addPiece_303
    refine sp_show (S := srB kd mo gl P) hP' (by omega) (by decide) hx0 _ ?_
    rw [bI_0, dv_64 (by omega), da_1, ad_64]
    have t2 : (decide (k = 2) = false → wp_X1_show 204 (fun k_1 => mk (shw (srB kd mo gl P) P 0 (if k = 2 then m % 64 else 0) k_1)) (fun j => nI (upN F (4 * (1 + P + 64) + 0) (if k = 2 then m % 64 else 0) j)) (nI P) (nI (1 + P + 64)) (nI 1) (nI (if k = 2 then r' else 0)) (fun K_showingRight_271 K_faces_271 => (decide (k = 2) = false → wp_X1_show 204 K_showingRight_271 K_faces_271 (nI P) (nI (1 + P + 64)) 2 0 fun K_showingRight_303 K_faces_303 => Q (nI P) (nI (P + 1)) (fun k_1 => nI (upN kd P k k_1)) (fun j => nI (upN (mrF kd mo) P (if k = 5 then m / 16 else 0) j)) K_faces_303 (fun j => nI (upN (baF kd mo P) (1 + P) (if k = 4 ∨ k = 5 then m % 16 else 0) j)) (fun j => mk (shw (shw (shw (shw (shB kd mo gl P) P 0 a') P 1 (if k = 2 then 0 else r')) P 2 b') P 3 l' j)) K_showingRight_303 (fun d => mk (brU (brB kd mo P) P (if k = 4 ∨ k = 5 then m % 16 else 0) 4 d)) (seF (upN kd P k) (P + 1)) (blF (upN kd P k) (P + 1)) (rvF (upN kd P k) (P + 1))) ∧ (¬ decide (k = 2) = false → wp_X1_show 204 K_showingRight_271 K_faces_271 (nI P) (nI (1 + P + 64)) 2 (nI (m / 64)) fun K_showingRight_303 K_faces_303 => Q (nI P) (nI (P + 1)) (fun k_1 => nI (upN kd P k k_1)) (fun j => nI (upN (mrF kd mo) P (if k = 5 then m / 16 else 0) j)) K_faces_303 (fun j => nI (upN (baF kd mo P) (1 + P) (if k = 4 ∨ k = 5 then m % 16 else 0) j)) (fun j => mk (shw (shw (shw (shw (shB kd mo gl P) P 0 a') P 1 (if k = 2 then 0 else r')) P 2 b') P 3 l' j)) K_showingRight_303 (fun d => mk (brU (brB kd mo P) P (if k = 4 ∨ k = 5 then m % 16 else 0) 4 d)) (seF (upN kd P k) (P + 1)) (blF (upN kd P k) (P + 1)) (rvF (upN kd P k) (P + 1))))) := by
      intro hk
      have hk' : ¬ k = 2 := by simpa using hk
      refine sp_show (S := shw (srB kd mo gl P) P 0 (if k = 2 then m % 64 else 0)) hP' (by omega) (by decide) hx1 _ ?_
      refine ⟨fun _ => ?_, fun e => absurd hk e⟩
      refine sp_show (S := shw (shw (srB kd mo gl P) P 0 (if k = 2 then m % 64 else 0)) P 1 (if k = 2 then r' else 0)) (d := 2) (g := 0) hP' (by omega) (by decide) (by decide) _ ?_
      rw [if_neg hk', if_neg hk', if_neg hk'] at hq
      rw [if_neg hk', if_neg hk']
      exact hq
    have t3 : (¬ decide (k = 2) = false → wp_X1_show 204 (fun k_1 => mk (shw (srB kd mo gl P) P 0 (if k = 2 then m % 64 else 0) k_1)) (fun j => nI (upN F (4 * (1 + P + 64) + 0) (if k = 2 then m % 64 else 0) j)) (nI P) (nI (1 + P + 64)) (nI 1) (nI (if k = 2 then r' else 0)) (fun K_showingRight_271 K_faces_271 => (decide (k = 2) = false → wp_X1_show 204 K_showingRight_271 K_faces_271 (nI P) (nI (1 + P + 64)) 2 0 fun K_showingRight_303 K_faces_303 => Q (nI P) (nI (P + 1)) (fun k_1 => nI (upN kd P k k_1)) (fun j => nI (upN (mrF kd mo) P (if k = 5 then m / 16 else 0) j)) K_faces_303 (fun j => nI (upN (baF kd mo P) (1 + P) (if k = 4 ∨ k = 5 then m % 16 else 0) j)) (fun j => mk (shw (shw (shw (shw (shB kd mo gl P) P 0 a') P 1 (if k = 2 then 0 else r')) P 2 b') P 3 l' j)) K_showingRight_303 (fun d => mk (brU (brB kd mo P) P (if k = 4 ∨ k = 5 then m % 16 else 0) 4 d)) (seF (upN kd P k) (P + 1)) (blF (upN kd P k) (P + 1)) (rvF (upN kd P k) (P + 1))) ∧ (¬ decide (k = 2) = false → wp_X1_show 204 K_showingRight_271 K_faces_271 (nI P) (nI (1 + P + 64)) 2 (nI (m / 64)) fun K_showingRight_303 K_faces_303 => Q (nI P) (nI (P + 1)) (fun k_1 => nI (upN kd P k k_1)) (fun j => nI (upN (mrF kd mo) P (if k = 5 then m / 16 else 0) j)) K_faces_303 (fun j => nI (upN (baF kd mo P) (1 + P) (if k = 4 ∨ k = 5 then m % 16 else 0) j)) (fun j => mk (shw (shw (shw (shw (shB kd mo gl P) P 0 a') P 1 (if k = 2 then 0 else r')) P 2 b') P 3 l' j)) K_showingRight_303 (fun d => mk (brU (brB kd mo P) P (if k = 4 ∨ k = 5 then m % 16 else 0) 4 d)) (seF (upN kd P k) (P + 1)) (blF (upN kd P k) (P + 1)) (rvF (upN kd P k) (P + 1))))) := by
      intro hk
      have hk' : k = 2 := by simpa using hk
      refine sp_show (S := shw (srB kd mo gl P) P 0 (if k = 2 then m % 64 else 0)) hP' (by omega) (by decide) hx1 _ ?_
      refine ⟨fun e => absurd e hk, fun _ => ?_⟩
      refine sp_show (S := shw (shw (srB kd mo gl P) P 0 (if k = 2 then m % 64 else 0)) P 1 (if k = 2 then r' else 0)) (d := 2) (g := m / 64) hP' (by omega) (by decide) (by have := hm2 hk'; omega) _ ?_
      rw [if_pos hk', if_pos hk', if_pos hk'] at hq
      rw [if_pos hk', if_pos hk']
      exact hq
    refine ⟨fun hk => ?_, fun hk => ?_⟩
    · have := t2 hk
      have hk' : ¬ k = 2 := by simpa using hk
      rw [if_neg hk', if_neg hk'] at this
      rw [if_neg hk']
      exact this
    · have := t3 hk
      have hk' : k = 2 := by simpa using hk
      rw [if_pos hk', if_pos hk'] at this
      rw [if_pos hk']
      exact this
  have s2 : wq_X1_addPiece_137 Q (nI (P + 1)) (fun k_1 => nI (upN kd P k k_1)) (fun j => nI (upN (mrF kd mo) P (if k = 5 then m / 16 else 0) j)) (fun k => nI (fcF kd mo gl P k)) (fun j => nI (upN (baF kd mo P) (1 + P) (if k = 4 ∨ k = 5 then m % 16 else 0) j)) (fun k => shF kd mo gl P k) (fun k => srF kd mo gl P k) (fun d => mk (brU (brB kd mo P) P (if k = 4 ∨ k = 5 then m % 16 else 0) 4 d)) (seF (upN kd P k) (P + 1)) (blF (upN kd P k) (P + 1)) (rvF (upN kd P k) (P + 1)) (nI a') (nI r') (nI b') (nI l') (nI m) (nI P) (bI (decide (k = 2))) := by
    unfold wq_X1_addPiece_137
    rw [da_1]
    refine sp_show (S := shB kd mo gl P) (d := 0) hP' (by omega) (by decide) ha _ ?_
    have u : wq_X1_addPiece_177 Q (nI (P + 1)) (fun k_1 => nI (upN kd P k k_1)) (fun j => nI (upN (mrF kd mo) P (if k = 5 then m / 16 else 0) j)) (fun j => nI (upN (fcF kd mo gl P) (4 * (1 + P) + 0) a' j)) (fun j => nI (upN (baF kd mo P) (1 + P) (if k = 4 ∨ k = 5 then m % 16 else 0) j)) (fun k_1 => mk (shw (shB kd mo gl P) P 0 a' k_1)) (fun k => srF kd mo gl P k) (fun d => mk (brU (brB kd mo P) P (if k = 4 ∨ k = 5 then m % 16 else 0) 4 d)) (seF (upN kd P k) (P + 1)) (blF (upN kd P k) (P + 1)) (rvF (upN kd P k) (P + 1)) (nI r') (nI b') (nI l') (nI m) (nI P) (bI (decide (k = 2))) (nI P) (nI (1 + P)) (nI 1) (nI (if k = 2 then 0 else r')) := by
      unfold wq_X1_addPiece_177
      refine sp_show (S := shw (shB kd mo gl P) P 0 a') (d := 1) hP' (by omega) (by decide) hrr _ ?_
      rw [da_1]
      refine sp_show (S := shw (shw (shB kd mo gl P) P 0 a') P 1 (if k = 2 then 0 else r')) (d := 2) hP' (by omega) (by decide) hb _ ?_
      refine sp_show (S := shw (shw (shw (shB kd mo gl P) P 0 a') P 1 (if k = 2 then 0 else r')) P 2 b') (d := 3) hP' (by omega) (by decide) hl _ ?_
      rw [bI_0, ad_64, rm_64 (by omega)]
      have z := s3 hq
      refine ⟨fun hk => ?_, fun hk => ?_⟩
      · have hk' : ¬ k = 2 := by simpa using hk
        rw [show (if k = 2 then m % 64 else 0) = 0 from if_neg hk'] at z
        exact z
      · have hk' : k = 2 := by simpa using hk
        rw [show (if k = 2 then m % 64 else 0) = m % 64 from if_pos hk'] at z
        exact z
    rw [bI_0]
    refine ⟨fun hk => ?_, fun hk => ?_⟩
    · have hk' : ¬ k = 2 := by simpa using hk
      rw [if_neg hk'] at u
      exact u
    · have hk' : k = 2 := by simpa using hk
      rw [if_pos hk'] at u
      exact u
  have s1 : wq_X1_addPiece_124 Q (nI (P + 1)) (fun k_1 => nI (upN kd P k k_1)) (fun j => nI (upN (mrF kd mo) P (if k = 5 then m / 16 else 0) j)) (fun k => nI (fcF kd mo gl P k)) (fun k => nI (baF kd mo P k)) (fun k => shF kd mo gl P k) (fun k => srF kd mo gl P k) (fun k => brF kd mo P k) (seF (upN kd P k) (P + 1)) (blF (upN kd P k) (P + 1)) (rvF (upN kd P k) (P + 1)) (nI k) (nI a') (nI r') (nI b') (nI l') (nI m) (nI P) (nI P) (nI (if k = 4 ∨ k = 5 then m % 16 else 0)) := by
    unfold wq_X1_addPiece_124
    refine sp_barSides (S := brB kd mo P) (F := baF kd mo P) hP' (by split <;> omega) _ ?_
    rw [eq_2 (by omega)]
    refine ⟨fun hk => ?_, fun hk => ?_⟩
    · rw [show decide (k = 2) = false from decide_eq_false hk] at s2
      exact s2
    · rw [show decide (k = 2) = true from decide_eq_true hk] at s2
      exact s2
  have s0 : wq_X1_addPiece_94 Q (nI (P + 1)) (fun k_1 => nI (upN kd P k k_1)) (fun k => nI (mrF kd mo k)) (fun k => nI (fcF kd mo gl P k)) (fun k => nI (baF kd mo P k)) (fun k => shF kd mo gl P k) (fun k => srF kd mo gl P k) (fun k => brF kd mo P k) (seF kd P) (blF kd P) (rvF kd P) (nI k) (nI a') (nI r') (nI b') (nI l') (nI m) (nI P) (nI P) (nI (if k = 5 then m / 16 else 0)) := by
    unfold wq_X1_addPiece_94
    rw [vp_in' (by omega), nI_clamp' (by omega), upd_N]
    refine ⟨by omega, ?_⟩
    rintro _ rfl
    refine sp_enrol hP' hk5 _ ?_
    unfold wq_X1_addPiece_115
    rw [eq_4 (by omega), eq_5 (by omega), rm_16 (by omega)]
    refine ⟨fun hk => ?_, fun hk => ⟨fun hk2 => ?_, fun hk2 => ?_⟩⟩
    · rw [show (if k = 4 ∨ k = 5 then m % 16 else 0) = m % 16 from if_pos (Or.inl hk)] at s1
      exact s1
    · rw [show (if k = 4 ∨ k = 5 then m % 16 else 0) = 0 from if_neg (fun q => q.elim hk hk2)] at s1
      exact s1
    · rw [show (if k = 4 ∨ k = 5 then m % 16 else 0) = m % 16 from if_pos (Or.inr hk2)] at s1
      exact s1
  rw [eq_5 (by omega), dv_16 (by omega)]
  refine ⟨fun hk => ?_, fun hk => ?_⟩
  · rw [if_neg hk] at s0
    exact s0
  · rw [if_pos hk] at s0
    exact s0
