/-! the lowest bit -/
theorem low_nat {n k : Nat} (hk : n.testBit k = true) (hl : ∀ j, j < k → n.testBit j = false) : n = 2 ^ k * (2 * (n / 2 ^ k / 2) + 1) ∧ (n - 1) = 2 ^ k * (2 * (n / 2 ^ k / 2)) + (2 ^ k - 1) := by
  have h0 : n % 2 ^ k = 0 := by
    apply Nat.eq_of_testBit_eq
    intro i
    rw [Nat.testBit_mod_two_pow, Nat.zero_testBit]
    by_cases hi : i < k
    · rw [hl i hi]; simp
    · simp [hi]
  have h1 : n / 2 ^ k % 2 = 1 := by
    rw [Nat.testBit_eq_decide_div_mod_eq] at hk
    simpa using hk
  have h2 := Nat.div_add_mod n (2 ^ k)
  have hp : 0 < 2 ^ k := Nat.two_pow_pos k
  have h3 : n / 2 ^ k = 2 * (n / 2 ^ k / 2) + 1 := by omega
  have h4 : n = 2 ^ k * (2 * (n / 2 ^ k / 2) + 1) := by
    rw [← h3]
    omega
  refine ⟨h4, ?_⟩
  rw [Nat.mul_add, Nat.mul_one] at h4
  omega
theorem low_pred {n k : Nat} (hk : n.testBit k = true) (hl : ∀ j, j < k → n.testBit j = false) (i : Nat) : (n - 1).testBit i = if i < k then true else if i = k then false else n.testBit i := by
  obtain ⟨h1, h2⟩ := low_nat hk hl
  have hp : 0 < 2 ^ k := Nat.two_pow_pos k
  rw [h2, Nat.testBit_two_pow_mul_add _ (by omega)]
  by_cases hi : i < k
  · rw [if_pos hi, if_pos hi, Nat.testBit_two_pow_sub_one]
    simp [hi]
  · rw [if_neg hi, if_neg hi]
    by_cases he : i = k
    · subst he
      rw [if_pos rfl, Nat.sub_self, Nat.testBit_zero]
      simp
    · rw [if_neg he]
      have e : n.testBit i = (2 ^ k * (2 * (n / 2 ^ k / 2) + 1) + 0).testBit i := by rw [Nat.add_zero, ← h1]
      rw [e, Nat.testBit_two_pow_mul_add _ hp, if_neg hi]
      obtain ⟨m, hm⟩ : ∃ m, i - k = m + 1 := ⟨i - k - 1, by omega⟩
      rw [hm, Nat.testBit_succ, Nat.testBit_succ]
      congr 1
      omega
theorem tb_pred {x : Int64} {k : Nat} (hk : tb x k = true) (hl : ∀ j, j < k → tb x j = false) {i : Nat} (hi : i < 64) : tb (x - 1) i = if i < k then true else if i = k then false else tb x i := by
  obtain ⟨n, hn, rfl⟩ := wb_of x
  have h0 : 0 < n := by
    rcases Nat.eq_zero_or_pos n with h | h
    · subst h
      rw [show lN 0 = 0 from rfl, tb_0] at hk
      exact absurd hk (by decide)
    · exact h
  rw [show (1 : Int64) = lN 1 from rfl, lN_sub h0, tb_lN (by omega), tb_lN hn]
  rw [tb_lN hn] at hk
  exact low_pred hk (fun j hj => by rw [← tb_lN hn]; exact hl j hj) i
/-- the lowest bit taken away -/
theorem tb_drop {x : Int64} {k : Nat} (hk : tb x k = true) (hl : ∀ j, j < k → tb x j = false) {i : Nat} (hi : i < 64) : tb (x &&& (x - 1)) i = (tb x i && decide (i ≠ k)) := by
  rw [tb_and, tb_pred hk hl hi]
  by_cases h1 : i < k
  · rw [hl i h1]; simp
  · by_cases h2 : i = k
    · simp [h2]
    · simp [h1, h2]
theorem ntz_k : ∀ k, k < 32 → ∀ Q : Int32 → Prop, Q (nI k) → ((0 : Int32) < nI (2 ^ k - 1) → ((nI (2 ^ k - 1) ≤ (65536 : Int32) → wq_J6_numberOfTrailingZeros_0f7a4_34 Q (nI (2 ^ k - 1)) (1 : Int32)) ∧ (¬ nI (2 ^ k - 1) ≤ (65536 : Int32) → ∀ v26 : Int32, v26 = (1 : Int32) + (16 : Int32) → ∀ v33 : Int32, v33 = ((nI (2 ^ k - 1)).toUInt32 >>> ((16 : Int32).toUInt32 &&& Int32.toUInt32 31)).toInt32 → wq_J6_numberOfTrailingZeros_0f7a4_34 Q v33 v26))) ∧ (¬ (0 : Int32) < nI (2 ^ k - 1) → Q (nI (2 ^ k - 1) &&& (32 : Int32))) := by
  intro k hk Q hQ
  have st : ∀ {c A B : Prop}, (c → A) → (¬ c → B) → (c → A) ∧ (¬ c → B) := fun a b => ⟨a, b⟩
  obtain rfl | rfl | rfl | rfl | rfl | rfl | rfl | rfl | rfl | rfl | rfl | rfl | rfl | rfl | rfl | rfl | rfl | rfl | rfl | rfl | rfl | rfl | rfl | rfl | rfl | rfl | rfl | rfl | rfl | rfl | rfl | rfl : k = 0 ∨ k = 1 ∨ k = 2 ∨ k = 3 ∨ k = 4 ∨ k = 5 ∨ k = 6 ∨ k = 7 ∨ k = 8 ∨ k = 9 ∨ k = 10 ∨ k = 11 ∨ k = 12 ∨ k = 13 ∨ k = 14 ∨ k = 15 ∨ k = 16 ∨ k = 17 ∨ k = 18 ∨ k = 19 ∨ k = 20 ∨ k = 21 ∨ k = 22 ∨ k = 23 ∨ k = 24 ∨ k = 25 ∨ k = 26 ∨ k = 27 ∨ k = 28 ∨ k = 29 ∨ k = 30 ∨ k = 31 := by omega
  all_goals
    unfold wq_J6_numberOfTrailingZeros_0f7a4_34 wq_J6_numberOfTrailingZeros_0f7a4_49 wq_J6_numberOfTrailingZeros_0f7a4_62 wq_J6_numberOfTrailingZeros_0f7a4_74
    repeat' first
      | exact hQ
      | (refine st (fun h => ?_) (fun h => ?_) <;> first | exact absurd h (by decide) | skip)
      | (rintro _ rfl)
theorem bt_n (x : Int32) (i : Nat) : bt x i = x.toBitVec.toNat.testBit i := rfl
theorem ntz32 {x : Int32} {k : Nat} (h32 : k < 32) (hk : bt x k = true) (hl : ∀ j, j < k → bt x j = false) (Q : Int32 → Prop) (h : Q (nI k)) : wp_J6_numberOfTrailingZeros_0f7a4 x Q := by
  unfold wp_J6_numberOfTrailingZeros_0f7a4
  have e : (x ^^^ (-1 : Int32)) &&& (x - (1 : Int32)) = nI (2 ^ k - 1) := by
    apply b_ext
    intro i hi
    obtain ⟨n, hn, rfl⟩ := wb_of32 x
    have hb : ∀ m, m < 2 ^ 32 → ∀ i, bt (nI m) i = m.testBit i := fun m hm i => by rw [bt_n, pk_tn hm]
    have h0 : 0 < n := by
      rcases Nat.eq_zero_or_pos n with q | q
      · subst q
        rw [hb 0 (by decide), Nat.zero_testBit] at hk
        exact absurd hk (by decide)
      · exact q
    rw [hb n hn] at hk
    have hl' : ∀ j, j < k → n.testBit j = false := fun j hj => by rw [← hb n hn]; exact hl j hj
    have a1 : (2 : Nat) ^ k < 2 ^ 32 := Nat.pow_lt_pow_right (by decide) h32
    rw [b_and, b_xor, b_m1 i hi, show (1 : Int32) = nI 1 from rfl, nI_sub' h0, hb n hn, hb (n - 1) (by omega), hb (2 ^ k - 1) (by omega), low_pred hk hl', Nat.testBit_two_pow_sub_one]
    by_cases q1 : i < k
    · rw [hl' i q1]; simp [q1]
    · by_cases q2 : i = k
      · simp [q2]
      · simp [q1, q2]
  rintro _ rfl
  rw [e]
  exact ntz_k k h32 Q h
theorem bt_lo (x : Int64) {i : Nat} (hi : i < 32) : bt x.toInt32 i = tb x i := by
  obtain ⟨n, hn, rfl⟩ := wb_of x
  rw [lN_i, tb_lN hn, bt_n]
  have e4 : (nI n).toBitVec.toNat = n % 2 ^ 32 := by
    show (BitVec.ofNat 32 n).toNat = _
    rw [BitVec.toNat_ofNat]
  rw [e4, Nat.testBit_mod_two_pow]
  simp [hi]
theorem sp_ntz {x : Int64} {k : Nat} (h64 : k < 64) (hk : tb x k = true) (hl : ∀ j, j < k → tb x j = false) (Q : Int32 → Prop) (h : Q (nI k)) : wp_J13_numberOfTrailingZeros_95d88 x Q := by
  unfold wp_J13_numberOfTrailingZeros_95d88
  rintro _ rfl
  by_cases h32 : k < 32
  · have hne : ¬ x.toInt32 = 0 := by
      intro e
      have := bt_lo x h32
      rw [e, b_0, hk] at this
      exact absurd this (by decide)
    refine ⟨fun _ => ?_, fun q => absurd q hne⟩
    exact ntz32 h32 (by rw [bt_lo x h32, hk]) (fun j hj => by rw [bt_lo x (by omega), hl j hj]) _ h
  · have he : x.toInt32 = 0 := by
      apply b_ext
      intro i hi
      rw [bt_lo x hi, hl i (by omega), b_0]
    refine ⟨fun q => absurd he q, fun _ => ?_⟩
    have sh : ∀ i, tb ((x.toUInt64 >>> ((32 : Int32).toInt64.toUInt64 &&& Int64.toUInt64 63)).toInt64) i = tb x (32 + i) := fun i => tb_shr x (k := 32) (by decide) i
    refine ntz32 (k := k - 32) (by omega) ?_ ?_ _ ?_
    · rw [bt_lo _ (by omega), sh, show 32 + (k - 32) = k by omega, hk]
    · intro j hj
      rw [bt_lo _ (by omega), sh, hl _ (by omega)]
    · rw [show (32 : Int32) = nI 32 from rfl, nI_add, show 32 + (k - 32) = k by omega]
      exact h
