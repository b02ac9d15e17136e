/-! how many bits, byte by byte -/
def by1 (b : Nat) : Nat := b - (b / 2 &&& 85)
def by2 (b : Nat) : Nat := (b &&& 51) + (b / 4 &&& 51)
def by3 (b : Nat) : Nat := (b + b / 16) &&& 15
def byP (b : Nat) : Nat := by3 (by2 (by1 b))
theorem by_1 : ∀ b, b < 256 → ∀ r, r < 2 → (128 * r + b / 2 &&& 85) = (b / 2 &&& 85) ∧ (b / 2 &&& 85) ≤ b ∧ by1 b < 256 := by decide +kernel
theorem by_2 : ∀ b, b < 256 → ∀ r, r < 4 → (64 * r + b / 4 &&& 51) = (b / 4 &&& 51) := by decide +kernel
theorem by_2b : ∀ b, b < 256 → by2 (by1 b) ≤ 68 ∧ by2 (by1 b) % 16 ≤ 4 := by decide +kernel
theorem by_3 : ∀ b, b < 256 → ∀ r, r < 5 → ((by2 (by1 b) + 16 * r + by2 (by1 b) / 16) &&& 15) = byP b ∧ by2 (by1 b) + 16 * r + by2 (by1 b) / 16 < 256 := by decide +kernel
theorem by_ct : ∀ b, b < 256 → fb_ct b.testBit 8 = byP b ∧ byP b ≤ 8 := by decide +kernel
theorem and_by {a b c e : Nat} (hb : b < 256) (he : e < 256) : (256 * a + b &&& 256 * c + e) = 256 * (a &&& c) + (b &&& e) := by
  apply Nat.eq_of_testBit_eq
  intro i
  have h1 := Nat.testBit_two_pow_mul_add a (i := 8) (b := b) hb i
  have h2 := Nat.testBit_two_pow_mul_add c (i := 8) (b := e) he i
  have h3 := Nat.testBit_two_pow_mul_add (a &&& c) (i := 8) (b := b &&& e) (Nat.and_lt_two_pow _ he) i
  rw [Nat.testBit_and]
  have e8 : (2 : Nat) ^ 8 = 256 := by decide
  rw [e8] at h1 h2 h3
  rw [h1, h2, h3]
  split
  · rw [Nat.testBit_and]
  · rw [Nat.testBit_and]
def mkB (m : Nat) : Nat → Nat
  | 0 => 0
  | k + 1 => 256 * mkB m k + m
def st1 (k n : Nat) : Nat := n - (n / 2 &&& mkB 85 k)
def st2 (k n : Nat) : Nat := (n &&& mkB 51 k) + (n / 4 &&& mkB 51 k)
def st3 (k n : Nat) : Nat := (n + n / 16) &&& mkB 15 k
theorem st1_s {k n : Nat} : st1 (k + 1) n = 256 * st1 k (n / 256) + by1 (n % 256) ∧ by1 (n % 256) < 256 := by
  obtain ⟨h1, h2, h3⟩ := by_1 (n % 256) (by omega) (n / 256 % 2) (by omega)
  refine ⟨?_, h3⟩
  unfold st1
  have e : n / 2 = 256 * (n / 256 / 2) + (128 * (n / 256 % 2) + n % 256 / 2) := by omega
  rw [e, mkB, and_by (by omega) (by decide), h1]
  have h4 : (n / 256 / 2 &&& mkB 85 k) ≤ n / 256 := Nat.le_trans Nat.and_le_left (Nat.div_le_self _ _)
  unfold by1
  omega
theorem st2_s {k u c : Nat} (hc : c < 256) : st2 (k + 1) (256 * u + c) = 256 * st2 k u + by2 c := by
  have h1 := by_2 c hc (u % 4) (by omega)
  unfold st2
  have e : (256 * u + c) / 4 = 256 * (u / 4) + (64 * (u % 4) + c / 4) := by omega
  rw [e, mkB, and_by hc (by decide), and_by (by omega) (by decide), h1]
  unfold by2
  omega
theorem st3_s {k v b : Nat} (hb : b < 256) (hv : v % 16 ≤ 4) : st3 (k + 1) (256 * v + by2 (by1 b)) = 256 * st3 k v + byP b := by
  obtain ⟨h1, h2⟩ := by_3 b hb (v % 16) (by omega)
  unfold st3
  have e : 256 * v + by2 (by1 b) + (256 * v + by2 (by1 b)) / 16 = 256 * (v + v / 16) + (by2 (by1 b) + 16 * (v % 16) + by2 (by1 b) / 16) := by omega
  rw [e, mkB, and_by h2 (by decide), h1]
/-- the bytes' counts, side by side -/
def stB : Nat → Nat → Nat
  | 0, _ => 0
  | k + 1, n => 256 * stB k (n / 256) + byP (n % 256)
theorem st_low : ∀ k n, n < 256 ^ k → st2 k (st1 k n) % 16 ≤ 4
  | 0, n, h => by
    have : n = 0 := by simpa using h
    subst this
    decide
  | k + 1, n, h => by
    rw [(st1_s).1, st2_s (st1_s (k := k)).2]
    have := (by_2b (n % 256) (by omega)).2
    omega
theorem st_all : ∀ k n, n < 256 ^ k → st3 k (st2 k (st1 k n)) = stB k n
  | 0, n, h => by
    have : n = 0 := by simpa using h
    subst this
    decide
  | k + 1, n, h => by
    have hk : n / 256 < 256 ^ k := by rw [Nat.pow_succ] at h; omega
    rw [(st1_s).1, st2_s (st1_s (k := k)).2, st3_s (by omega) (st_low k _ hk), st_all k _ hk]
    rfl
theorem ct_by {n : Nat} : fb_ct n.testBit 64 = byP (n % 256) + fb_ct (n / 256).testBit 56 := by
  rw [show (64 : Nat) = 8 + 56 from rfl, fb_ct_split]
  congr 1
  · rw [← (by_ct (n % 256) (by omega)).1]
    apply fb_ct_cong
    intro k hk
    have := Nat.testBit_mod_two_pow n 8 k
    rw [show (2 : Nat) ^ 8 = 256 from rfl] at this
    rw [this]
    simp [hk]
  · apply fb_ct_cong
    intro k hk
    have := Nat.testBit_div_two_pow (n := 8) n k
    rw [show (2 : Nat) ^ 8 = 256 from rfl] at this
    rw [this, Nat.add_comm]
theorem ct_bk (m : Nat) {n : Nat} : fb_ct n.testBit (8 + m) = byP (n % 256) + fb_ct (n / 256).testBit m := by
  rw [fb_ct_split]
  congr 1
  · rw [← (by_ct (n % 256) (by omega)).1]
    apply fb_ct_cong
    intro k hk
    have := Nat.testBit_mod_two_pow n 8 k
    rw [show (2 : Nat) ^ 8 = 256 from rfl] at this
    rw [this]
    simp [hk]
  · apply fb_ct_cong
    intro k hk
    have := Nat.testBit_div_two_pow (n := 8) n k
    rw [show (2 : Nat) ^ 8 = 256 from rfl] at this
    rw [this, Nat.add_comm]
theorem dvm {m a b w : Nat} (hb : b < m) (hw : w = m * a + b) : w / m = a := by
  subst hw
  rw [Nat.mul_add_div (by omega), Nat.div_eq_of_lt hb, Nat.add_zero]
theorem mdm {m a b w : Nat} (hb : b < m) (hw : w = m * a + b) : w % m = b := by
  subst hw
  rw [Nat.mul_add_mod, Nat.mod_eq_of_lt hb]
theorem pop_sum {a0 a1 a2 a3 a4 a5 a6 a7 w : Nat} (h0 : a0 ≤ 8) (h1 : a1 ≤ 8) (h2 : a2 ≤ 8) (h3 : a3 ≤ 8) (h4 : a4 ≤ 8) (h5 : a5 ≤ 8) (h6 : a6 ≤ 8) (h7 : a7 ≤ 8)
    (hw : w = 256 * (256 * (256 * (256 * (256 * (256 * (256 * (256 * 0 + a7) + a6) + a5) + a4) + a3) + a2) + a1) + a0) :
    w < 9223372036854775808 ∧ w + w / 256 < 9223372036854775808 ∧ (w + w / 256) + (w + w / 256) / 65536 < 9223372036854775808 ∧ ((w + w / 256) + (w + w / 256) / 65536) + ((w + w / 256) + (w + w / 256) / 65536) / 4294967296 < 9223372036854775808 ∧
    (((w + w / 256) + (w + w / 256) / 65536) + ((w + w / 256) + (w + w / 256) / 65536) / 4294967296) % 128 = a0 + a1 + a2 + a3 + a4 + a5 + a6 + a7 := by
  have e1 : w / 256 = 256 * (256 * (256 * (256 * (256 * (256 * a7 + a6) + a5) + a4) + a3) + a2) + a1 := dvm (b := a0) (by omega) (by rw [hw]; omega)
  rw [e1]
  generalize hu : w + (256 * (256 * (256 * (256 * (256 * (256 * a7 + a6) + a5) + a4) + a3) + a2) + a1) = u
  have e2 : u / 65536 = 256 * (256 * (256 * (256 * (256 * a7 + (a6 + a7)) + (a5 + a6)) + (a4 + a5)) + (a3 + a4)) + (a2 + a3) := dvm (b := 256 * (a1 + a2) + (a0 + a1)) (by omega) (by omega)
  rw [e2]
  generalize hv : u + (256 * (256 * (256 * (256 * (256 * a7 + (a6 + a7)) + (a5 + a6)) + (a4 + a5)) + (a3 + a4)) + (a2 + a3)) = v
  have hv2 : v = 4294967296 * (256 * (256 * (256 * a7 + (a6 + a7)) + (a5 + a6 + a7)) + (a4 + a5 + a6 + a7)) + (16777216 * (a3 + a4 + a5 + a6) + 65536 * (a2 + a3 + a4 + a5) + 256 * (a1 + a2 + a3 + a4) + (a0 + a1 + a2 + a3)) := by omega
  have hb1 : w < 9223372036854775808 ∧ u < 9223372036854775808 := by omega
  clear e1 e2 hu hv hw
  have e3 : v / 4294967296 = 256 * (256 * (256 * a7 + (a6 + a7)) + (a5 + a6 + a7)) + (a4 + a5 + a6 + a7) := dvm (by omega) hv2
  rw [e3]
  clear e3
  generalize hV : 256 * (256 * a7 + (a6 + a7)) + (a5 + a6 + a7) = V at *
  have hV2 : V ≤ 2000000 := by omega
  refine ⟨hb1.1, hb1.2, by omega, by omega, ?_⟩
  clear hV hb1
  generalize hc3 : a3 + a4 + a5 + a6 = c3 at *
  generalize hc2 : a2 + a3 + a4 + a5 = c2 at *
  generalize hc1 : a1 + a2 + a3 + a4 = c1 at *
  refine mdm (a := 33554432 * (256 * V + (a4 + a5 + a6 + a7)) + 131072 * c3 + 512 * c2 + 2 * c1 + 2 * V) (by omega) ?_
  clear hc1 hc2 hc3 hV2 h0 h1 h2 h3 h4 h5 h6 h7
  subst hv2
  omega
theorem pop_lN (n : Nat) (hn : n < 18446744073709551616) : (n / 2 &&& 6148914691236517205) ≤ n ∧ st1 8 n = n - (n / 2 &&& 6148914691236517205) := by
  refine ⟨Nat.le_trans Nat.and_le_left (Nat.div_le_self _ _), ?_⟩
  unfold st1
  rw [show mkB 85 8 = 6148914691236517205 by decide]
theorem sp_bitCount (x : Int64) (Q : Int32 → Prop) (h : Q (nI (fb_ct (tb x) 64))) : wp_J13_bitCount_95d88 x Q := by
  obtain ⟨n, hn, rfl⟩ := wb_of x
  have hn' : n < 18446744073709551616 := hn
  have ht : fb_ct (tb (lN n)) 64 = fb_ct n.testBit 64 := fb_ct_cong fun k _ => tb_lN hn k
  rw [ht] at h
  unfold wp_J13_bitCount_95d88
  have sh : ∀ {k m : Nat}, k < 64 → m < 18446744073709551616 → ((lN m).toUInt64 >>> ((nI k).toInt64.toUInt64 &&& Int64.toUInt64 63)).toInt64 = lN (m / 2 ^ k) := fun hk hm => wb_shr hm hk
  have l1 := (pop_lN n hn').1
  have l2 := (pop_lN n hn').2
  have v9 : lN n - (((lN n).toUInt64 >>> ((1 : Int32).toInt64.toUInt64 &&& Int64.toUInt64 63)).toInt64 &&& (6148914691236517205 : Int64)) = lN (st1 8 n) := by
    have e : ((lN n).toUInt64 >>> ((1 : Int32).toInt64.toUInt64 &&& Int64.toUInt64 63)).toInt64 = lN (n / 2) := sh (k := 1) (by decide) hn'
    rw [e, show (6148914691236517205 : Int64) = lN 6148914691236517205 from rfl, wb_and (by omega) (by decide), lN_sub l1, l2]
  have b1 : st1 8 n ≤ n := by rw [l2]; exact Nat.sub_le _ _
  have v23 : (lN (st1 8 n) &&& (3689348814741910323 : Int64)) + (((lN (st1 8 n)).toUInt64 >>> ((2 : Int32).toInt64.toUInt64 &&& Int64.toUInt64 63)).toInt64 &&& (3689348814741910323 : Int64)) = lN (st2 8 (st1 8 n)) := by
    have e : ((lN (st1 8 n)).toUInt64 >>> ((2 : Int32).toInt64.toUInt64 &&& Int64.toUInt64 63)).toInt64 = lN (st1 8 n / 4) := sh (k := 2) (by decide) (by omega)
    rw [e, show (3689348814741910323 : Int64) = lN 3689348814741910323 from rfl, wb_and (by omega) (by decide), wb_and (by omega) (by decide), lN_add]
    unfold st2
    rw [show mkB 51 8 = 3689348814741910323 by decide]
  have b2 : st2 8 (st1 8 n) ≤ 2 * 3689348814741910323 := by
    unfold st2
    rw [show mkB 51 8 = 3689348814741910323 by decide]
    have a1 : (st1 8 n &&& 3689348814741910323) ≤ 3689348814741910323 := Nat.and_le_right
    have a2 : (st1 8 n / 4 &&& 3689348814741910323) ≤ 3689348814741910323 := Nat.and_le_right
    omega
  have v33 : (lN (st2 8 (st1 8 n)) + ((lN (st2 8 (st1 8 n))).toUInt64 >>> ((4 : Int32).toInt64.toUInt64 &&& Int64.toUInt64 63)).toInt64) &&& (1085102592571150095 : Int64) = lN (st3 8 (st2 8 (st1 8 n))) := by
    have e : ((lN (st2 8 (st1 8 n))).toUInt64 >>> ((4 : Int32).toInt64.toUInt64 &&& Int64.toUInt64 63)).toInt64 = lN (st2 8 (st1 8 n) / 16) := sh (k := 4) (by decide) (by omega)
    rw [e, lN_add, show (1085102592571150095 : Int64) = lN 1085102592571150095 from rfl, wb_and (by omega) (by decide)]
    unfold st3
    rw [show mkB 15 8 = 1085102592571150095 by decide]
  rintro _ rfl
  rw [v9]
  rintro _ rfl
  rw [v23]
  rintro _ rfl
  rw [v33, st_all 8 n (by rw [show (256 : Nat) ^ 8 = 18446744073709551616 by decide]; exact hn')]
  have g : ∀ b, byP (b % 256) ≤ 8 := fun b => (by_ct _ (by omega)).2
  have hs := pop_sum (w := stB 8 n) (g n) (g (n / 256)) (g (n / 256 / 256)) (g (n / 256 / 256 / 256)) (g (n / 256 / 256 / 256 / 256)) (g (n / 256 / 256 / 256 / 256 / 256)) (g (n / 256 / 256 / 256 / 256 / 256 / 256)) (g (n / 256 / 256 / 256 / 256 / 256 / 256 / 256)) rfl
  have hc : fb_ct n.testBit 64 = byP (n % 256) + byP (n / 256 % 256) + byP (n / 256 / 256 % 256) + byP (n / 256 / 256 / 256 % 256) + byP (n / 256 / 256 / 256 / 256 % 256) + byP (n / 256 / 256 / 256 / 256 / 256 % 256) + byP (n / 256 / 256 / 256 / 256 / 256 / 256 % 256) + byP (n / 256 / 256 / 256 / 256 / 256 / 256 / 256 % 256) := by
    rw [show (64 : Nat) = 8 + 56 from rfl, ct_bk, show (56 : Nat) = 8 + 48 from rfl, ct_bk, show (48 : Nat) = 8 + 40 from rfl, ct_bk, show (40 : Nat) = 8 + 32 from rfl, ct_bk, show (32 : Nat) = 8 + 24 from rfl, ct_bk, show (24 : Nat) = 8 + 16 from rfl, ct_bk, show (16 : Nat) = 8 + 8 from rfl, ct_bk, show (8 : Nat) = 8 + 0 from rfl, ct_bk]
    simp only [fb_ct]
    omega
  rw [← hc] at hs
  generalize stB 8 n = w at *
  obtain ⟨q1, q2, q3, q4, q5⟩ := hs
  rintro _ rfl
  have e1 : ((lN w).toUInt64 >>> ((8 : Int32).toInt64.toUInt64 &&& Int64.toUInt64 63)).toInt64 = lN (w / 256) := sh (k := 8) (by decide) (by omega)
  rw [e1, lN_add]
  rintro _ rfl
  have e2 : ((lN (w + w / 256)).toUInt64 >>> ((16 : Int32).toInt64.toUInt64 &&& Int64.toUInt64 63)).toInt64 = lN ((w + w / 256) / 65536) := sh (k := 16) (by decide) (by omega)
  rw [e2, lN_add]
  rintro _ rfl
  have e3 : ((lN ((w + w / 256) + (w + w / 256) / 65536)).toUInt64 >>> ((32 : Int32).toInt64.toUInt64 &&& Int64.toUInt64 63)).toInt64 = lN (((w + w / 256) + (w + w / 256) / 65536) / 4294967296) := sh (k := 32) (by decide) (by omega)
  rw [e3, lN_add, lN_i, pk_and _ 7 (by decide)]
  have e4 : ∀ m : Nat, (nI m).toBitVec.toNat = m % 4294967296 := fun m => by
    show (BitVec.ofNat 32 m).toNat = _
    rw [BitVec.toNat_ofNat]
  rw [e4, Nat.mod_mod_of_dvd _ (by decide), show (2 : Nat) ^ 7 = 128 from rfl, q5]
  exact h
