/-! the reference's questions about a sheet, answered in plain numbers -/
theorem sp_xAt (d : Nat) (hd : d < 4) (Q : Int32 → Prop) (h : Q (if d = 1 then 1 else if d = 3 then -1 else 0)) : wp_X8_xAt (nI d) Q := by
  obtain rfl | rfl | rfl | rfl : d = 0 ∨ d = 1 ∨ d = 2 ∨ d = 3 := by omega
  all_goals
    unfold wp_X8_xAt
    first
      | exact ⟨fun _ => ⟨fun _ => h, fun q => absurd q (by decide)⟩, fun q => absurd q (by decide)⟩
      | exact ⟨fun q => absurd rfl q, fun _ => h⟩
      | exact ⟨fun _ => ⟨fun q => absurd rfl q, fun _ => h⟩, fun q => absurd q (by decide)⟩
theorem sp_yAt (d : Nat) (hd : d < 4) (Q : Int32 → Prop) (h : Q (if d = 0 then -1 else if d = 2 then 1 else 0)) : wp_X8_yAt (nI d) Q := by
  obtain rfl | rfl | rfl | rfl : d = 0 ∨ d = 1 ∨ d = 2 ∨ d = 3 := by omega
  all_goals
    unfold wp_X8_yAt
    first
      | exact ⟨fun _ => ⟨fun _ => h, fun q => absurd q (by decide)⟩, fun q => absurd q (by decide)⟩
      | exact ⟨fun q => absurd rfl q, fun _ => h⟩
      | exact ⟨fun _ => ⟨fun q => absurd rfl q, fun _ => h⟩, fun q => absurd q (by decide)⟩
theorem sp_isOn_t {x y : Nat} (hx : x < 16) (hy : y < 16) (Q : Int32 → Prop) (h : Q 1) : wp_X8_isOn (nI x) (nI y) Q := by
  unfold wp_X8_isOn
  exact ⟨fun q => absurd q (nI_pos (by omega)), fun _ => ⟨fun q => absurd q (nI_ge (a := x) (b := 16) hx (by decide)), fun _ => ⟨fun q => absurd q (nI_pos (by omega)), fun _ => ⟨fun q => absurd q (nI_ge (a := y) (b := 16) hy (by decide)), fun _ => h⟩⟩⟩⟩
theorem sp_isOn_f {x y : Int32} (hxy : x < 0 ∨ (16 : Int32) ≤ x ∨ y < 0 ∨ (16 : Int32) ≤ y) (Q : Int32 → Prop) (h : Q 0) : wp_X8_isOn x y Q := by
  unfold wp_X8_isOn
  refine ⟨fun _ => h, fun h1 => ⟨fun _ => h, fun h2 => ⟨fun _ => h, fun h3 => ⟨fun _ => h, fun h4 => ?_⟩⟩⟩⟩
  rcases hxy with q | q | q | q
  · exact absurd q h1
  · exact absurd q h2
  · exact absurd q h3
  · exact absurd q h4
theorem nI_m1 {x : Nat} (h : 0 < x) : nI x + (-1 : Int32) = nI (x - 1) := by
  obtain ⟨k, rfl⟩ : ∃ k, x = k + 1 := ⟨x - 1, by omega⟩
  exact pk_m1 k
theorem nI_p0 (x : Nat) : nI x + (0 : Int32) = nI x := nI_add x 0
theorem nI_p1 (x : Nat) : nI x + (1 : Int32) = nI (x + 1) := nI_1 x
/-- one step to a side: the answer that isOn gives there -/
theorem sp_nb {x y d : Nat} (hx : x < 16) (hy : y < 16) (hd : d < 4) (K : Int32 → Int32 → Int32 → Prop)
    (ht : nbO x y d = true → K (nI (nbX x d)) (nI (nbY y d)) 1) (hf : nbO x y d = false → ∀ u v, K u v 0) :
    wp_X8_xAt (nI d) (fun r4 => ∀ v8 : Int32, v8 = (nI x + r4) → (wp_X8_yAt (nI d) (fun r14 => ∀ v18 : Int32, v18 = (nI y + r14) → (wp_X8_isOn v8 v18 (fun r24 => K v8 v18 r24))))) := by
  apply sp_xAt d hd
  intro v8 e8
  apply sp_yAt d hd
  intro v18 e18
  obtain rfl | rfl | rfl | rfl : d = 0 ∨ d = 1 ∨ d = 2 ∨ d = 3 := by omega
  · have e8 : v8 = nI x := e8.trans (nI_p0 x)
    have e18 : v18 = nI y + (-1) := e18
    rcases Nat.eq_zero_or_pos y with h | h
    · subst h
      exact sp_isOn_f (Or.inr (Or.inr (Or.inl (by rw [e18]; decide)))) _ (hf rfl _ _)
    · rw [nI_m1 h] at e18
      subst e8 e18
      exact sp_isOn_t hx (by omega) _ (ht (by simp [nbO, h]))
  · have e8 : v8 = nI (x + 1) := e8.trans (nI_p1 x)
    have e18 : v18 = nI y := e18.trans (nI_p0 y)
    subst e8 e18
    rcases Nat.lt_or_ge x 15 with h | h
    · exact sp_isOn_t (by omega) hy _ (ht (by simp [nbO, h]))
    · exact sp_isOn_f (Or.inr (Or.inl (nI_le (a := 16) (by omega) (by omega)))) _ (hf (by simp [nbO]; omega) _ _)
  · have e8 : v8 = nI x := e8.trans (nI_p0 x)
    have e18 : v18 = nI (y + 1) := e18.trans (nI_p1 y)
    subst e8 e18
    rcases Nat.lt_or_ge y 15 with h | h
    · exact sp_isOn_t hx (by omega) _ (ht (by simp [nbO, h]))
    · exact sp_isOn_f (Or.inr (Or.inr (Or.inr (nI_le (a := 16) (by omega) (by omega))))) _ (hf (by simp [nbO]; omega) _ _)
  · have e8 : v8 = nI x + (-1) := e8
    have e18 : v18 = nI y := e18.trans (nI_p0 y)
    rcases Nat.eq_zero_or_pos x with h | h
    · subst h
      exact sp_isOn_f (Or.inl (by rw [e8]; decide)) _ (hf rfl _ _)
    · rw [nI_m1 h] at e8
      subst e8 e18
      exact sp_isOn_t (by omega) hy _ (ht (by simp [nbO, h]))
theorem sp_glueOf {kd mo gl sg : Nat → Nat} (hT : okT kd mo gl sg) {p h d : Nat} (hp : p < 40) (hh : h < 2) (hd : d < 4) (Q : Int32 → Prop) (hQ : Q (nI (gOf kd mo gl p h d))) :
    wp_X8_glueOf (fun k => nI (kd k)) (fun k => nI (mo k)) (fun k => nI (gl k)) (nI p) (nI h) (nI d) Q := by
  have h1 := hT.1 p
  have h2 := hT.2.1 p
  unfold wp_X8_glueOf
  unfold gOf at hQ
  have e1 : (4 : Int32) * nI p + nI d = nI (4 * p + d) := by rw [lit_nI, nI_mul', nI_add]
  have e2 : (4 : Int32) * nI p + (1 : Int32) = nI (4 * p + 1) := by rw [lit_nI, nI_mul', nI_p1]
  rw [vp_in' (by omega), nI_clamp' (by omega), e1, e2, vp_in' (by omega), vp_in' (by omega), nI_clamp' (by omega), nI_clamp' (by omega)]
  refine ⟨by omega, ?_⟩
  rintro _ rfl
  simp only [lit_nI, nI_eq' (a := kd p) (b := 2) (by omega) (by decide), nI_eq' (a := h) (b := 0) (by omega) (by decide), nI_eq' (a := d) (b := 0) (by omega) (by decide), nI_eq' (a := d) (b := 1) (by omega) (by decide), nI_eq' (a := d) (b := 2) (by omega) (by decide)]
  by_cases hk : kd p = 2
  · refine ⟨fun _ => ⟨fun hh0 => ⟨fun hd0 => ⟨fun hd1 => ⟨fun hd2 => ?_, fun hd2 => ?_⟩, fun hd1 => ?_⟩, fun hd0 => ?_⟩, fun hh0 => ⟨fun hd1 => ?_, fun hd1 => ?_⟩⟩, fun q => absurd hk q⟩
    · simpa [hk, hh0, hd0, hd1, hd2] using hQ
    · refine ⟨by omega, ?_⟩
      rintro _ rfl
      rw [nI_div' (by omega) (by omega) (by omega)]
      simpa [hk, hh0, hd0, hd1, hd2] using hQ
    · refine ⟨by omega, ?_⟩
      rintro _ rfl
      simpa [hk, hh0, hd0, hd1] using hQ
    · refine ⟨by omega, ?_⟩
      rintro _ rfl
      rw [nI_div' (by omega) (by omega) (by omega), nI_mul', nI_sub' (by omega), nat_rem]
      simpa [hk, hh0, hd0] using hQ
    · refine ⟨by omega, ?_⟩
      rintro _ rfl
      simpa [hk, hh0, hd1] using hQ
    · simpa [hk, hh0, hd1] using hQ
  · refine ⟨fun q => absurd q hk, fun _ => ⟨by omega, ?_⟩⟩
    rintro _ rfl
    simpa [hk] using hQ
theorem sp_isBarred {kd mo gl sg : Nat → Nat} (hT : okT kd mo gl sg) {p d : Nat} (hp : p < 40) (hd : d < 4) (Q : Int32 → Prop) (hQ : Q (bI (brd kd mo p d))) :
    wp_X8_isBarred (fun k => nI (kd k)) (fun k => nI (mo k)) (nI p) (nI d) Q := by
  have h1 := hT.1 p
  have h2 := hT.2.1 p
  have e3 : (nI (mo p) >>> (nI d &&& 31)) &&& (1 : Int32) = nI (mo p / 2 ^ d % 2) := by
    obtain rfl | rfl | rfl | rfl : d = 0 ∨ d = 1 ∨ d = 2 ∨ d = 3 := by omega
    · rw [show nI 0 &&& 31 = (0 : Int32) by decide, pk_shrN (by omega) 0 0 (by decide), pk_andN (by omega) 1 (by decide)]
    · rw [show nI 1 &&& 31 = (1 : Int32) by decide, pk_shrN (by omega) 1 1 (by decide), pk_andN (by omega) 1 (by decide)]
    · rw [show nI 2 &&& 31 = (2 : Int32) by decide, pk_shrN (by omega) 2 2 (by decide), pk_andN (by omega) 1 (by decide)]
    · rw [show nI 3 &&& 31 = (3 : Int32) by decide, pk_shrN (by omega) 3 3 (by decide), pk_andN (by omega) 1 (by decide)]
  have h20 : (kd p = 4 ∨ kd p = 5) → wq_X8_isBarred_20 (fun k => nI (kd k)) (fun k => nI (mo k)) Q (nI p) (nI d) := by
    intro hk
    unfold wq_X8_isBarred_20
    rw [vp_in' (by omega), nI_clamp' (by omega)]
    refine ⟨by omega, ?_⟩
    rintro _ rfl
    rw [e3]
    have hb : brd kd mo p d = decide (mo p / 2 ^ d % 2 = 1) := by
      unfold brd
      rcases hk with q | q <;> simp [q]
    rw [hb] at hQ
    refine ⟨fun q => ?_, fun q => ?_⟩
    · have : ¬ mo p / 2 ^ d % 2 = 1 := fun e => q (by rw [e]; rfl)
      simpa [this, bI] using hQ
    · have : mo p / 2 ^ d % 2 = 1 := by
        rw [lit_nI, nI_eq' (by omega) (by decide)] at q
        exact q
      simpa [this, bI] using hQ
  unfold wp_X8_isBarred
  rw [vp_in' (by omega), nI_clamp' (by omega)]
  refine ⟨by omega, ?_⟩
  rintro _ rfl
  simp only [lit_nI, nI_eq' (a := kd p) (b := 4) (by omega) (by decide)]
  refine ⟨fun q => h20 (Or.inl q), fun q => ⟨by omega, ?_⟩⟩
  rintro _ rfl
  simp only [nI_eq' (a := kd p) (b := 5) (by omega) (by decide)]
  refine ⟨fun q5 => ?_, fun q5 => h20 (Or.inr q5)⟩
  have hb : brd kd mo p d = false := by
    unfold brd
    simp [q, q5]
  rw [hb] at hQ
  exact hQ
