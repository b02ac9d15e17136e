/-! plain facts of numbers, answers and loops -/
def bI (b : Bool) : Int32 := if b then 1 else 0
theorem bI_t : bI true = 1 := rfl
theorem bI_f : bI false = 0 := rfl
theorem bI_0 (b : Bool) : bI b = 0 ↔ b = false := by cases b <;> decide
theorem bI_n0 (b : Bool) : ¬ bI b = 0 ↔ b = true := by cases b <;> decide
theorem bI_1 (b : Bool) : bI b = 1 ↔ b = true := by cases b <;> decide
theorem bI_01 (b : Bool) : bI b = 0 ∨ bI b = 1 := by cases b <;> decide
theorem bI_inj {a b : Bool} (h : bI a = bI b) : a = b := by cases a <;> cases b <;> first | rfl | exact absurd h (by decide)
theorem lit_nI (n : Nat) : (OfNat.ofNat n : Int32) = nI n := rfl
theorem l_0 : (0 : Int32) = nI 0 := rfl
theorem l_1 : (1 : Int32) = nI 1 := rfl
theorem l_2 : (2 : Int32) = nI 2 := rfl
theorem l_3 : (3 : Int32) = nI 3 := rfl
theorem l_4 : (4 : Int32) = nI 4 := rfl
theorem l_5 : (5 : Int32) = nI 5 := rfl
theorem l_6 : (6 : Int32) = nI 6 := rfl
theorem l_7 : (7 : Int32) = nI 7 := rfl
theorem l_8 : (8 : Int32) = nI 8 := rfl
theorem l_14 : (14 : Int32) = nI 14 := rfl
theorem l_15 : (15 : Int32) = nI 15 := rfl
theorem l_16 : (16 : Int32) = nI 16 := rfl
theorem l_17 : (17 : Int32) = nI 17 := rfl
theorem l_18 : (18 : Int32) = nI 18 := rfl
theorem l_20 : (20 : Int32) = nI 20 := rfl
theorem l_31 : (31 : Int32) = nI 31 := rfl
theorem l_39 : (39 : Int32) = nI 39 := rfl
theorem l_40 : (40 : Int32) = nI 40 := rfl
theorem l_41 : (41 : Int32) = nI 41 := rfl
theorem l_50 : (50 : Int32) = nI 50 := rfl
theorem l_51 : (51 : Int32) = nI 51 := rfl
theorem l_60 : (60 : Int32) = nI 60 := rfl
theorem l_61 : (61 : Int32) = nI 61 := rfl
theorem l_64 : (64 : Int32) = nI 64 := rfl
theorem l_65 : (65 : Int32) = nI 65 := rfl
theorem l_128 : (128 : Int32) = nI 128 := rfl
theorem l_200 : (200 : Int32) = nI 200 := rfl
theorem l_250 : (250 : Int32) = nI 250 := rfl
theorem l_255 : (255 : Int32) = nI 255 := rfl
theorem l_256 : (256 : Int32) = nI 256 := rfl
theorem l_299 : (299 : Int32) = nI 299 := rfl
theorem l_300 : (300 : Int32) = nI 300 := rfl
theorem l_306 : (306 : Int32) = nI 306 := rfl
theorem l_324 : (324 : Int32) = nI 324 := rfl
theorem l_400 : (400 : Int32) = nI 400 := rfl
theorem l_512 : (512 : Int32) = nI 512 := rfl
theorem nI_clamp' {n : Nat} (h : n < 2147483648) : (nI n).toNatClampNeg = n := nI_clamp h
theorem nI_le' {a b : Nat} (ha : a < 2147483648) (hb : b < 2147483648) : (nI a ≤ nI b) = (a ≤ b) := propext (nI_leI ha hb)
theorem nI_lt' {a b : Nat} (ha : a < 2147483648) (hb : b < 2147483648) : (nI a < nI b) = (a < b) := propext (nI_ltI ha hb)
theorem nI_eq' {a b : Nat} (ha : a < 2147483648) (hb : b < 2147483648) : (nI a = nI b) = (a = b) := propext (nI_eq ha hb)
theorem nI_sub' {a b : Nat} (h : b ≤ a) : nI a - nI b = nI (a - b) := pk_sub h
theorem nI_mul' (a b : Nat) : nI a * nI b = nI (a * b) := pk_mul a b
theorem nI_div' {a d : Nat} (ha : a < 2147483648) (h0 : 0 < d) (hd : d < 2147483648) : nI a / nI d = nI (a / d) := pk_div ha h0 hd
theorem nat_rem (a d : Nat) : a - a / d * d = a % d := by
  have h := Nat.div_add_mod a d
  rw [Nat.mul_comm] at h
  omega
theorem le_0 {a : Nat} (h : a < 2147483648) : ((0 : Int32) ≤ nI a) = (0 ≤ a) := nI_le' (a := 0) (by decide) h
theorem gt_0 {a : Nat} (h : a < 2147483648) : ((0 : Int32) < nI a) = (0 < a) := nI_lt' (a := 0) (by decide) h
theorem ge_0 {a : Nat} (h : a < 2147483648) : (nI a ≤ (0 : Int32)) = (a ≤ 0) := nI_le' (b := 0) h (by decide)
theorem ls_0 {a : Nat} (h : a < 2147483648) : (nI a < (0 : Int32)) = (a < 0) := nI_lt' (b := 0) h (by decide)
theorem eq_0 {a : Nat} (h : a < 2147483648) : (nI a = (0 : Int32)) = (a = 0) := nI_eq' (b := 0) h (by decide)
theorem ad_0 (a : Nat) : nI a + (0 : Int32) = nI (a + 0) := nI_add a 0
theorem da_0 (a : Nat) : (0 : Int32) + nI a = nI (0 + a) := nI_add 0 a
theorem mu_0 (a : Nat) : (0 : Int32) * nI a = nI (0 * a) := nI_mul' 0 a
theorem um_0 (a : Nat) : nI a * (0 : Int32) = nI (a * 0) := nI_mul' a 0
theorem sb_0 {a : Nat} (h : 0 ≤ a) : nI a - (0 : Int32) = nI (a - 0) := nI_sub' (b := 0) h
theorem le_1 {a : Nat} (h : a < 2147483648) : ((1 : Int32) ≤ nI a) = (1 ≤ a) := nI_le' (a := 1) (by decide) h
theorem gt_1 {a : Nat} (h : a < 2147483648) : ((1 : Int32) < nI a) = (1 < a) := nI_lt' (a := 1) (by decide) h
theorem ge_1 {a : Nat} (h : a < 2147483648) : (nI a ≤ (1 : Int32)) = (a ≤ 1) := nI_le' (b := 1) h (by decide)
theorem ls_1 {a : Nat} (h : a < 2147483648) : (nI a < (1 : Int32)) = (a < 1) := nI_lt' (b := 1) h (by decide)
theorem eq_1 {a : Nat} (h : a < 2147483648) : (nI a = (1 : Int32)) = (a = 1) := nI_eq' (b := 1) h (by decide)
theorem ad_1 (a : Nat) : nI a + (1 : Int32) = nI (a + 1) := nI_add a 1
theorem da_1 (a : Nat) : (1 : Int32) + nI a = nI (1 + a) := nI_add 1 a
theorem mu_1 (a : Nat) : (1 : Int32) * nI a = nI (1 * a) := nI_mul' 1 a
theorem um_1 (a : Nat) : nI a * (1 : Int32) = nI (a * 1) := nI_mul' a 1
theorem sb_1 {a : Nat} (h : 1 ≤ a) : nI a - (1 : Int32) = nI (a - 1) := nI_sub' (b := 1) h
theorem dv_1 {a : Nat} (h : a < 2147483648) : nI a / (1 : Int32) = nI (a / 1) := nI_div' (d := 1) h (by decide) (by decide)
theorem rm_1 {a : Nat} (h : a < 2147483648) : nI a - nI a / (1 : Int32) * (1 : Int32) = nI (a % 1) := by rw [dv_1 h, um_1, nI_sub' (by omega), nat_rem]
theorem le_2 {a : Nat} (h : a < 2147483648) : ((2 : Int32) ≤ nI a) = (2 ≤ a) := nI_le' (a := 2) (by decide) h
theorem gt_2 {a : Nat} (h : a < 2147483648) : ((2 : Int32) < nI a) = (2 < a) := nI_lt' (a := 2) (by decide) h
theorem ge_2 {a : Nat} (h : a < 2147483648) : (nI a ≤ (2 : Int32)) = (a ≤ 2) := nI_le' (b := 2) h (by decide)
theorem ls_2 {a : Nat} (h : a < 2147483648) : (nI a < (2 : Int32)) = (a < 2) := nI_lt' (b := 2) h (by decide)
theorem eq_2 {a : Nat} (h : a < 2147483648) : (nI a = (2 : Int32)) = (a = 2) := nI_eq' (b := 2) h (by decide)
theorem ad_2 (a : Nat) : nI a + (2 : Int32) = nI (a + 2) := nI_add a 2
theorem da_2 (a : Nat) : (2 : Int32) + nI a = nI (2 + a) := nI_add 2 a
theorem mu_2 (a : Nat) : (2 : Int32) * nI a = nI (2 * a) := nI_mul' 2 a
theorem um_2 (a : Nat) : nI a * (2 : Int32) = nI (a * 2) := nI_mul' a 2
theorem sb_2 {a : Nat} (h : 2 ≤ a) : nI a - (2 : Int32) = nI (a - 2) := nI_sub' (b := 2) h
theorem dv_2 {a : Nat} (h : a < 2147483648) : nI a / (2 : Int32) = nI (a / 2) := nI_div' (d := 2) h (by decide) (by decide)
theorem rm_2 {a : Nat} (h : a < 2147483648) : nI a - nI a / (2 : Int32) * (2 : Int32) = nI (a % 2) := by rw [dv_2 h, um_2, nI_sub' (by omega), nat_rem]
theorem le_3 {a : Nat} (h : a < 2147483648) : ((3 : Int32) ≤ nI a) = (3 ≤ a) := nI_le' (a := 3) (by decide) h
theorem gt_3 {a : Nat} (h : a < 2147483648) : ((3 : Int32) < nI a) = (3 < a) := nI_lt' (a := 3) (by decide) h
theorem ge_3 {a : Nat} (h : a < 2147483648) : (nI a ≤ (3 : Int32)) = (a ≤ 3) := nI_le' (b := 3) h (by decide)
theorem ls_3 {a : Nat} (h : a < 2147483648) : (nI a < (3 : Int32)) = (a < 3) := nI_lt' (b := 3) h (by decide)
theorem eq_3 {a : Nat} (h : a < 2147483648) : (nI a = (3 : Int32)) = (a = 3) := nI_eq' (b := 3) h (by decide)
theorem ad_3 (a : Nat) : nI a + (3 : Int32) = nI (a + 3) := nI_add a 3
theorem da_3 (a : Nat) : (3 : Int32) + nI a = nI (3 + a) := nI_add 3 a
theorem mu_3 (a : Nat) : (3 : Int32) * nI a = nI (3 * a) := nI_mul' 3 a
theorem um_3 (a : Nat) : nI a * (3 : Int32) = nI (a * 3) := nI_mul' a 3
theorem sb_3 {a : Nat} (h : 3 ≤ a) : nI a - (3 : Int32) = nI (a - 3) := nI_sub' (b := 3) h
theorem dv_3 {a : Nat} (h : a < 2147483648) : nI a / (3 : Int32) = nI (a / 3) := nI_div' (d := 3) h (by decide) (by decide)
theorem rm_3 {a : Nat} (h : a < 2147483648) : nI a - nI a / (3 : Int32) * (3 : Int32) = nI (a % 3) := by rw [dv_3 h, um_3, nI_sub' (by omega), nat_rem]
theorem le_4 {a : Nat} (h : a < 2147483648) : ((4 : Int32) ≤ nI a) = (4 ≤ a) := nI_le' (a := 4) (by decide) h
theorem gt_4 {a : Nat} (h : a < 2147483648) : ((4 : Int32) < nI a) = (4 < a) := nI_lt' (a := 4) (by decide) h
theorem ge_4 {a : Nat} (h : a < 2147483648) : (nI a ≤ (4 : Int32)) = (a ≤ 4) := nI_le' (b := 4) h (by decide)
theorem ls_4 {a : Nat} (h : a < 2147483648) : (nI a < (4 : Int32)) = (a < 4) := nI_lt' (b := 4) h (by decide)
theorem eq_4 {a : Nat} (h : a < 2147483648) : (nI a = (4 : Int32)) = (a = 4) := nI_eq' (b := 4) h (by decide)
theorem ad_4 (a : Nat) : nI a + (4 : Int32) = nI (a + 4) := nI_add a 4
theorem da_4 (a : Nat) : (4 : Int32) + nI a = nI (4 + a) := nI_add 4 a
theorem mu_4 (a : Nat) : (4 : Int32) * nI a = nI (4 * a) := nI_mul' 4 a
theorem um_4 (a : Nat) : nI a * (4 : Int32) = nI (a * 4) := nI_mul' a 4
theorem sb_4 {a : Nat} (h : 4 ≤ a) : nI a - (4 : Int32) = nI (a - 4) := nI_sub' (b := 4) h
theorem dv_4 {a : Nat} (h : a < 2147483648) : nI a / (4 : Int32) = nI (a / 4) := nI_div' (d := 4) h (by decide) (by decide)
theorem rm_4 {a : Nat} (h : a < 2147483648) : nI a - nI a / (4 : Int32) * (4 : Int32) = nI (a % 4) := by rw [dv_4 h, um_4, nI_sub' (by omega), nat_rem]
theorem le_5 {a : Nat} (h : a < 2147483648) : ((5 : Int32) ≤ nI a) = (5 ≤ a) := nI_le' (a := 5) (by decide) h
theorem gt_5 {a : Nat} (h : a < 2147483648) : ((5 : Int32) < nI a) = (5 < a) := nI_lt' (a := 5) (by decide) h
theorem ge_5 {a : Nat} (h : a < 2147483648) : (nI a ≤ (5 : Int32)) = (a ≤ 5) := nI_le' (b := 5) h (by decide)
theorem ls_5 {a : Nat} (h : a < 2147483648) : (nI a < (5 : Int32)) = (a < 5) := nI_lt' (b := 5) h (by decide)
theorem eq_5 {a : Nat} (h : a < 2147483648) : (nI a = (5 : Int32)) = (a = 5) := nI_eq' (b := 5) h (by decide)
theorem ad_5 (a : Nat) : nI a + (5 : Int32) = nI (a + 5) := nI_add a 5
theorem da_5 (a : Nat) : (5 : Int32) + nI a = nI (5 + a) := nI_add 5 a
theorem mu_5 (a : Nat) : (5 : Int32) * nI a = nI (5 * a) := nI_mul' 5 a
theorem um_5 (a : Nat) : nI a * (5 : Int32) = nI (a * 5) := nI_mul' a 5
theorem sb_5 {a : Nat} (h : 5 ≤ a) : nI a - (5 : Int32) = nI (a - 5) := nI_sub' (b := 5) h
theorem dv_5 {a : Nat} (h : a < 2147483648) : nI a / (5 : Int32) = nI (a / 5) := nI_div' (d := 5) h (by decide) (by decide)
theorem rm_5 {a : Nat} (h : a < 2147483648) : nI a - nI a / (5 : Int32) * (5 : Int32) = nI (a % 5) := by rw [dv_5 h, um_5, nI_sub' (by omega), nat_rem]
theorem le_6 {a : Nat} (h : a < 2147483648) : ((6 : Int32) ≤ nI a) = (6 ≤ a) := nI_le' (a := 6) (by decide) h
theorem gt_6 {a : Nat} (h : a < 2147483648) : ((6 : Int32) < nI a) = (6 < a) := nI_lt' (a := 6) (by decide) h
theorem ge_6 {a : Nat} (h : a < 2147483648) : (nI a ≤ (6 : Int32)) = (a ≤ 6) := nI_le' (b := 6) h (by decide)
theorem ls_6 {a : Nat} (h : a < 2147483648) : (nI a < (6 : Int32)) = (a < 6) := nI_lt' (b := 6) h (by decide)
theorem eq_6 {a : Nat} (h : a < 2147483648) : (nI a = (6 : Int32)) = (a = 6) := nI_eq' (b := 6) h (by decide)
theorem ad_6 (a : Nat) : nI a + (6 : Int32) = nI (a + 6) := nI_add a 6
theorem da_6 (a : Nat) : (6 : Int32) + nI a = nI (6 + a) := nI_add 6 a
theorem mu_6 (a : Nat) : (6 : Int32) * nI a = nI (6 * a) := nI_mul' 6 a
theorem um_6 (a : Nat) : nI a * (6 : Int32) = nI (a * 6) := nI_mul' a 6
theorem sb_6 {a : Nat} (h : 6 ≤ a) : nI a - (6 : Int32) = nI (a - 6) := nI_sub' (b := 6) h
theorem dv_6 {a : Nat} (h : a < 2147483648) : nI a / (6 : Int32) = nI (a / 6) := nI_div' (d := 6) h (by decide) (by decide)
theorem rm_6 {a : Nat} (h : a < 2147483648) : nI a - nI a / (6 : Int32) * (6 : Int32) = nI (a % 6) := by rw [dv_6 h, um_6, nI_sub' (by omega), nat_rem]
theorem le_7 {a : Nat} (h : a < 2147483648) : ((7 : Int32) ≤ nI a) = (7 ≤ a) := nI_le' (a := 7) (by decide) h
theorem gt_7 {a : Nat} (h : a < 2147483648) : ((7 : Int32) < nI a) = (7 < a) := nI_lt' (a := 7) (by decide) h
theorem ge_7 {a : Nat} (h : a < 2147483648) : (nI a ≤ (7 : Int32)) = (a ≤ 7) := nI_le' (b := 7) h (by decide)
theorem ls_7 {a : Nat} (h : a < 2147483648) : (nI a < (7 : Int32)) = (a < 7) := nI_lt' (b := 7) h (by decide)
theorem eq_7 {a : Nat} (h : a < 2147483648) : (nI a = (7 : Int32)) = (a = 7) := nI_eq' (b := 7) h (by decide)
theorem ad_7 (a : Nat) : nI a + (7 : Int32) = nI (a + 7) := nI_add a 7
theorem da_7 (a : Nat) : (7 : Int32) + nI a = nI (7 + a) := nI_add 7 a
theorem mu_7 (a : Nat) : (7 : Int32) * nI a = nI (7 * a) := nI_mul' 7 a
theorem um_7 (a : Nat) : nI a * (7 : Int32) = nI (a * 7) := nI_mul' a 7
theorem sb_7 {a : Nat} (h : 7 ≤ a) : nI a - (7 : Int32) = nI (a - 7) := nI_sub' (b := 7) h
theorem dv_7 {a : Nat} (h : a < 2147483648) : nI a / (7 : Int32) = nI (a / 7) := nI_div' (d := 7) h (by decide) (by decide)
theorem rm_7 {a : Nat} (h : a < 2147483648) : nI a - nI a / (7 : Int32) * (7 : Int32) = nI (a % 7) := by rw [dv_7 h, um_7, nI_sub' (by omega), nat_rem]
theorem le_8 {a : Nat} (h : a < 2147483648) : ((8 : Int32) ≤ nI a) = (8 ≤ a) := nI_le' (a := 8) (by decide) h
theorem gt_8 {a : Nat} (h : a < 2147483648) : ((8 : Int32) < nI a) = (8 < a) := nI_lt' (a := 8) (by decide) h
theorem ge_8 {a : Nat} (h : a < 2147483648) : (nI a ≤ (8 : Int32)) = (a ≤ 8) := nI_le' (b := 8) h (by decide)
theorem ls_8 {a : Nat} (h : a < 2147483648) : (nI a < (8 : Int32)) = (a < 8) := nI_lt' (b := 8) h (by decide)
theorem eq_8 {a : Nat} (h : a < 2147483648) : (nI a = (8 : Int32)) = (a = 8) := nI_eq' (b := 8) h (by decide)
theorem ad_8 (a : Nat) : nI a + (8 : Int32) = nI (a + 8) := nI_add a 8
theorem da_8 (a : Nat) : (8 : Int32) + nI a = nI (8 + a) := nI_add 8 a
theorem mu_8 (a : Nat) : (8 : Int32) * nI a = nI (8 * a) := nI_mul' 8 a
theorem um_8 (a : Nat) : nI a * (8 : Int32) = nI (a * 8) := nI_mul' a 8
theorem sb_8 {a : Nat} (h : 8 ≤ a) : nI a - (8 : Int32) = nI (a - 8) := nI_sub' (b := 8) h
theorem dv_8 {a : Nat} (h : a < 2147483648) : nI a / (8 : Int32) = nI (a / 8) := nI_div' (d := 8) h (by decide) (by decide)
theorem rm_8 {a : Nat} (h : a < 2147483648) : nI a - nI a / (8 : Int32) * (8 : Int32) = nI (a % 8) := by rw [dv_8 h, um_8, nI_sub' (by omega), nat_rem]
theorem le_14 {a : Nat} (h : a < 2147483648) : ((14 : Int32) ≤ nI a) = (14 ≤ a) := nI_le' (a := 14) (by decide) h
theorem gt_14 {a : Nat} (h : a < 2147483648) : ((14 : Int32) < nI a) = (14 < a) := nI_lt' (a := 14) (by decide) h
theorem ge_14 {a : Nat} (h : a < 2147483648) : (nI a ≤ (14 : Int32)) = (a ≤ 14) := nI_le' (b := 14) h (by decide)
theorem ls_14 {a : Nat} (h : a < 2147483648) : (nI a < (14 : Int32)) = (a < 14) := nI_lt' (b := 14) h (by decide)
theorem eq_14 {a : Nat} (h : a < 2147483648) : (nI a = (14 : Int32)) = (a = 14) := nI_eq' (b := 14) h (by decide)
theorem ad_14 (a : Nat) : nI a + (14 : Int32) = nI (a + 14) := nI_add a 14
theorem da_14 (a : Nat) : (14 : Int32) + nI a = nI (14 + a) := nI_add 14 a
theorem mu_14 (a : Nat) : (14 : Int32) * nI a = nI (14 * a) := nI_mul' 14 a
theorem um_14 (a : Nat) : nI a * (14 : Int32) = nI (a * 14) := nI_mul' a 14
theorem sb_14 {a : Nat} (h : 14 ≤ a) : nI a - (14 : Int32) = nI (a - 14) := nI_sub' (b := 14) h
theorem dv_14 {a : Nat} (h : a < 2147483648) : nI a / (14 : Int32) = nI (a / 14) := nI_div' (d := 14) h (by decide) (by decide)
theorem rm_14 {a : Nat} (h : a < 2147483648) : nI a - nI a / (14 : Int32) * (14 : Int32) = nI (a % 14) := by rw [dv_14 h, um_14, nI_sub' (by omega), nat_rem]
theorem le_15 {a : Nat} (h : a < 2147483648) : ((15 : Int32) ≤ nI a) = (15 ≤ a) := nI_le' (a := 15) (by decide) h
theorem gt_15 {a : Nat} (h : a < 2147483648) : ((15 : Int32) < nI a) = (15 < a) := nI_lt' (a := 15) (by decide) h
theorem ge_15 {a : Nat} (h : a < 2147483648) : (nI a ≤ (15 : Int32)) = (a ≤ 15) := nI_le' (b := 15) h (by decide)
theorem ls_15 {a : Nat} (h : a < 2147483648) : (nI a < (15 : Int32)) = (a < 15) := nI_lt' (b := 15) h (by decide)
theorem eq_15 {a : Nat} (h : a < 2147483648) : (nI a = (15 : Int32)) = (a = 15) := nI_eq' (b := 15) h (by decide)
theorem ad_15 (a : Nat) : nI a + (15 : Int32) = nI (a + 15) := nI_add a 15
theorem da_15 (a : Nat) : (15 : Int32) + nI a = nI (15 + a) := nI_add 15 a
theorem mu_15 (a : Nat) : (15 : Int32) * nI a = nI (15 * a) := nI_mul' 15 a
theorem um_15 (a : Nat) : nI a * (15 : Int32) = nI (a * 15) := nI_mul' a 15
theorem sb_15 {a : Nat} (h : 15 ≤ a) : nI a - (15 : Int32) = nI (a - 15) := nI_sub' (b := 15) h
theorem dv_15 {a : Nat} (h : a < 2147483648) : nI a / (15 : Int32) = nI (a / 15) := nI_div' (d := 15) h (by decide) (by decide)
theorem rm_15 {a : Nat} (h : a < 2147483648) : nI a - nI a / (15 : Int32) * (15 : Int32) = nI (a % 15) := by rw [dv_15 h, um_15, nI_sub' (by omega), nat_rem]
theorem le_16 {a : Nat} (h : a < 2147483648) : ((16 : Int32) ≤ nI a) = (16 ≤ a) := nI_le' (a := 16) (by decide) h
theorem gt_16 {a : Nat} (h : a < 2147483648) : ((16 : Int32) < nI a) = (16 < a) := nI_lt' (a := 16) (by decide) h
theorem ge_16 {a : Nat} (h : a < 2147483648) : (nI a ≤ (16 : Int32)) = (a ≤ 16) := nI_le' (b := 16) h (by decide)
theorem ls_16 {a : Nat} (h : a < 2147483648) : (nI a < (16 : Int32)) = (a < 16) := nI_lt' (b := 16) h (by decide)
theorem eq_16 {a : Nat} (h : a < 2147483648) : (nI a = (16 : Int32)) = (a = 16) := nI_eq' (b := 16) h (by decide)
theorem ad_16 (a : Nat) : nI a + (16 : Int32) = nI (a + 16) := nI_add a 16
theorem da_16 (a : Nat) : (16 : Int32) + nI a = nI (16 + a) := nI_add 16 a
theorem mu_16 (a : Nat) : (16 : Int32) * nI a = nI (16 * a) := nI_mul' 16 a
theorem um_16 (a : Nat) : nI a * (16 : Int32) = nI (a * 16) := nI_mul' a 16
theorem sb_16 {a : Nat} (h : 16 ≤ a) : nI a - (16 : Int32) = nI (a - 16) := nI_sub' (b := 16) h
theorem dv_16 {a : Nat} (h : a < 2147483648) : nI a / (16 : Int32) = nI (a / 16) := nI_div' (d := 16) h (by decide) (by decide)
theorem rm_16 {a : Nat} (h : a < 2147483648) : nI a - nI a / (16 : Int32) * (16 : Int32) = nI (a % 16) := by rw [dv_16 h, um_16, nI_sub' (by omega), nat_rem]
theorem le_17 {a : Nat} (h : a < 2147483648) : ((17 : Int32) ≤ nI a) = (17 ≤ a) := nI_le' (a := 17) (by decide) h
theorem gt_17 {a : Nat} (h : a < 2147483648) : ((17 : Int32) < nI a) = (17 < a) := nI_lt' (a := 17) (by decide) h
theorem ge_17 {a : Nat} (h : a < 2147483648) : (nI a ≤ (17 : Int32)) = (a ≤ 17) := nI_le' (b := 17) h (by decide)
theorem ls_17 {a : Nat} (h : a < 2147483648) : (nI a < (17 : Int32)) = (a < 17) := nI_lt' (b := 17) h (by decide)
theorem eq_17 {a : Nat} (h : a < 2147483648) : (nI a = (17 : Int32)) = (a = 17) := nI_eq' (b := 17) h (by decide)
theorem ad_17 (a : Nat) : nI a + (17 : Int32) = nI (a + 17) := nI_add a 17
theorem da_17 (a : Nat) : (17 : Int32) + nI a = nI (17 + a) := nI_add 17 a
theorem mu_17 (a : Nat) : (17 : Int32) * nI a = nI (17 * a) := nI_mul' 17 a
theorem um_17 (a : Nat) : nI a * (17 : Int32) = nI (a * 17) := nI_mul' a 17
theorem sb_17 {a : Nat} (h : 17 ≤ a) : nI a - (17 : Int32) = nI (a - 17) := nI_sub' (b := 17) h
theorem dv_17 {a : Nat} (h : a < 2147483648) : nI a / (17 : Int32) = nI (a / 17) := nI_div' (d := 17) h (by decide) (by decide)
theorem rm_17 {a : Nat} (h : a < 2147483648) : nI a - nI a / (17 : Int32) * (17 : Int32) = nI (a % 17) := by rw [dv_17 h, um_17, nI_sub' (by omega), nat_rem]
theorem le_18 {a : Nat} (h : a < 2147483648) : ((18 : Int32) ≤ nI a) = (18 ≤ a) := nI_le' (a := 18) (by decide) h
theorem gt_18 {a : Nat} (h : a < 2147483648) : ((18 : Int32) < nI a) = (18 < a) := nI_lt' (a := 18) (by decide) h
theorem ge_18 {a : Nat} (h : a < 2147483648) : (nI a ≤ (18 : Int32)) = (a ≤ 18) := nI_le' (b := 18) h (by decide)
theorem ls_18 {a : Nat} (h : a < 2147483648) : (nI a < (18 : Int32)) = (a < 18) := nI_lt' (b := 18) h (by decide)
theorem eq_18 {a : Nat} (h : a < 2147483648) : (nI a = (18 : Int32)) = (a = 18) := nI_eq' (b := 18) h (by decide)
theorem ad_18 (a : Nat) : nI a + (18 : Int32) = nI (a + 18) := nI_add a 18
theorem da_18 (a : Nat) : (18 : Int32) + nI a = nI (18 + a) := nI_add 18 a
theorem mu_18 (a : Nat) : (18 : Int32) * nI a = nI (18 * a) := nI_mul' 18 a
theorem um_18 (a : Nat) : nI a * (18 : Int32) = nI (a * 18) := nI_mul' a 18
theorem sb_18 {a : Nat} (h : 18 ≤ a) : nI a - (18 : Int32) = nI (a - 18) := nI_sub' (b := 18) h
theorem dv_18 {a : Nat} (h : a < 2147483648) : nI a / (18 : Int32) = nI (a / 18) := nI_div' (d := 18) h (by decide) (by decide)
theorem rm_18 {a : Nat} (h : a < 2147483648) : nI a - nI a / (18 : Int32) * (18 : Int32) = nI (a % 18) := by rw [dv_18 h, um_18, nI_sub' (by omega), nat_rem]
theorem le_20 {a : Nat} (h : a < 2147483648) : ((20 : Int32) ≤ nI a) = (20 ≤ a) := nI_le' (a := 20) (by decide) h
theorem gt_20 {a : Nat} (h : a < 2147483648) : ((20 : Int32) < nI a) = (20 < a) := nI_lt' (a := 20) (by decide) h
theorem ge_20 {a : Nat} (h : a < 2147483648) : (nI a ≤ (20 : Int32)) = (a ≤ 20) := nI_le' (b := 20) h (by decide)
theorem ls_20 {a : Nat} (h : a < 2147483648) : (nI a < (20 : Int32)) = (a < 20) := nI_lt' (b := 20) h (by decide)
theorem eq_20 {a : Nat} (h : a < 2147483648) : (nI a = (20 : Int32)) = (a = 20) := nI_eq' (b := 20) h (by decide)
theorem ad_20 (a : Nat) : nI a + (20 : Int32) = nI (a + 20) := nI_add a 20
theorem da_20 (a : Nat) : (20 : Int32) + nI a = nI (20 + a) := nI_add 20 a
theorem mu_20 (a : Nat) : (20 : Int32) * nI a = nI (20 * a) := nI_mul' 20 a
theorem um_20 (a : Nat) : nI a * (20 : Int32) = nI (a * 20) := nI_mul' a 20
theorem sb_20 {a : Nat} (h : 20 ≤ a) : nI a - (20 : Int32) = nI (a - 20) := nI_sub' (b := 20) h
theorem dv_20 {a : Nat} (h : a < 2147483648) : nI a / (20 : Int32) = nI (a / 20) := nI_div' (d := 20) h (by decide) (by decide)
theorem rm_20 {a : Nat} (h : a < 2147483648) : nI a - nI a / (20 : Int32) * (20 : Int32) = nI (a % 20) := by rw [dv_20 h, um_20, nI_sub' (by omega), nat_rem]
theorem le_31 {a : Nat} (h : a < 2147483648) : ((31 : Int32) ≤ nI a) = (31 ≤ a) := nI_le' (a := 31) (by decide) h
theorem gt_31 {a : Nat} (h : a < 2147483648) : ((31 : Int32) < nI a) = (31 < a) := nI_lt' (a := 31) (by decide) h
theorem ge_31 {a : Nat} (h : a < 2147483648) : (nI a ≤ (31 : Int32)) = (a ≤ 31) := nI_le' (b := 31) h (by decide)
theorem ls_31 {a : Nat} (h : a < 2147483648) : (nI a < (31 : Int32)) = (a < 31) := nI_lt' (b := 31) h (by decide)
theorem eq_31 {a : Nat} (h : a < 2147483648) : (nI a = (31 : Int32)) = (a = 31) := nI_eq' (b := 31) h (by decide)
theorem ad_31 (a : Nat) : nI a + (31 : Int32) = nI (a + 31) := nI_add a 31
theorem da_31 (a : Nat) : (31 : Int32) + nI a = nI (31 + a) := nI_add 31 a
theorem mu_31 (a : Nat) : (31 : Int32) * nI a = nI (31 * a) := nI_mul' 31 a
theorem um_31 (a : Nat) : nI a * (31 : Int32) = nI (a * 31) := nI_mul' a 31
theorem sb_31 {a : Nat} (h : 31 ≤ a) : nI a - (31 : Int32) = nI (a - 31) := nI_sub' (b := 31) h
theorem dv_31 {a : Nat} (h : a < 2147483648) : nI a / (31 : Int32) = nI (a / 31) := nI_div' (d := 31) h (by decide) (by decide)
theorem rm_31 {a : Nat} (h : a < 2147483648) : nI a - nI a / (31 : Int32) * (31 : Int32) = nI (a % 31) := by rw [dv_31 h, um_31, nI_sub' (by omega), nat_rem]
theorem le_39 {a : Nat} (h : a < 2147483648) : ((39 : Int32) ≤ nI a) = (39 ≤ a) := nI_le' (a := 39) (by decide) h
theorem gt_39 {a : Nat} (h : a < 2147483648) : ((39 : Int32) < nI a) = (39 < a) := nI_lt' (a := 39) (by decide) h
theorem ge_39 {a : Nat} (h : a < 2147483648) : (nI a ≤ (39 : Int32)) = (a ≤ 39) := nI_le' (b := 39) h (by decide)
theorem ls_39 {a : Nat} (h : a < 2147483648) : (nI a < (39 : Int32)) = (a < 39) := nI_lt' (b := 39) h (by decide)
theorem eq_39 {a : Nat} (h : a < 2147483648) : (nI a = (39 : Int32)) = (a = 39) := nI_eq' (b := 39) h (by decide)
theorem ad_39 (a : Nat) : nI a + (39 : Int32) = nI (a + 39) := nI_add a 39
theorem da_39 (a : Nat) : (39 : Int32) + nI a = nI (39 + a) := nI_add 39 a
theorem mu_39 (a : Nat) : (39 : Int32) * nI a = nI (39 * a) := nI_mul' 39 a
theorem um_39 (a : Nat) : nI a * (39 : Int32) = nI (a * 39) := nI_mul' a 39
theorem sb_39 {a : Nat} (h : 39 ≤ a) : nI a - (39 : Int32) = nI (a - 39) := nI_sub' (b := 39) h
theorem dv_39 {a : Nat} (h : a < 2147483648) : nI a / (39 : Int32) = nI (a / 39) := nI_div' (d := 39) h (by decide) (by decide)
theorem rm_39 {a : Nat} (h : a < 2147483648) : nI a - nI a / (39 : Int32) * (39 : Int32) = nI (a % 39) := by rw [dv_39 h, um_39, nI_sub' (by omega), nat_rem]
theorem le_40 {a : Nat} (h : a < 2147483648) : ((40 : Int32) ≤ nI a) = (40 ≤ a) := nI_le' (a := 40) (by decide) h
theorem gt_40 {a : Nat} (h : a < 2147483648) : ((40 : Int32) < nI a) = (40 < a) := nI_lt' (a := 40) (by decide) h
theorem ge_40 {a : Nat} (h : a < 2147483648) : (nI a ≤ (40 : Int32)) = (a ≤ 40) := nI_le' (b := 40) h (by decide)
theorem ls_40 {a : Nat} (h : a < 2147483648) : (nI a < (40 : Int32)) = (a < 40) := nI_lt' (b := 40) h (by decide)
theorem eq_40 {a : Nat} (h : a < 2147483648) : (nI a = (40 : Int32)) = (a = 40) := nI_eq' (b := 40) h (by decide)
theorem ad_40 (a : Nat) : nI a + (40 : Int32) = nI (a + 40) := nI_add a 40
theorem da_40 (a : Nat) : (40 : Int32) + nI a = nI (40 + a) := nI_add 40 a
theorem mu_40 (a : Nat) : (40 : Int32) * nI a = nI (40 * a) := nI_mul' 40 a
theorem um_40 (a : Nat) : nI a * (40 : Int32) = nI (a * 40) := nI_mul' a 40
theorem sb_40 {a : Nat} (h : 40 ≤ a) : nI a - (40 : Int32) = nI (a - 40) := nI_sub' (b := 40) h
theorem dv_40 {a : Nat} (h : a < 2147483648) : nI a / (40 : Int32) = nI (a / 40) := nI_div' (d := 40) h (by decide) (by decide)
theorem rm_40 {a : Nat} (h : a < 2147483648) : nI a - nI a / (40 : Int32) * (40 : Int32) = nI (a % 40) := by rw [dv_40 h, um_40, nI_sub' (by omega), nat_rem]
theorem le_41 {a : Nat} (h : a < 2147483648) : ((41 : Int32) ≤ nI a) = (41 ≤ a) := nI_le' (a := 41) (by decide) h
theorem gt_41 {a : Nat} (h : a < 2147483648) : ((41 : Int32) < nI a) = (41 < a) := nI_lt' (a := 41) (by decide) h
theorem ge_41 {a : Nat} (h : a < 2147483648) : (nI a ≤ (41 : Int32)) = (a ≤ 41) := nI_le' (b := 41) h (by decide)
theorem ls_41 {a : Nat} (h : a < 2147483648) : (nI a < (41 : Int32)) = (a < 41) := nI_lt' (b := 41) h (by decide)
theorem eq_41 {a : Nat} (h : a < 2147483648) : (nI a = (41 : Int32)) = (a = 41) := nI_eq' (b := 41) h (by decide)
theorem ad_41 (a : Nat) : nI a + (41 : Int32) = nI (a + 41) := nI_add a 41
theorem da_41 (a : Nat) : (41 : Int32) + nI a = nI (41 + a) := nI_add 41 a
theorem mu_41 (a : Nat) : (41 : Int32) * nI a = nI (41 * a) := nI_mul' 41 a
theorem um_41 (a : Nat) : nI a * (41 : Int32) = nI (a * 41) := nI_mul' a 41
theorem sb_41 {a : Nat} (h : 41 ≤ a) : nI a - (41 : Int32) = nI (a - 41) := nI_sub' (b := 41) h
theorem dv_41 {a : Nat} (h : a < 2147483648) : nI a / (41 : Int32) = nI (a / 41) := nI_div' (d := 41) h (by decide) (by decide)
theorem rm_41 {a : Nat} (h : a < 2147483648) : nI a - nI a / (41 : Int32) * (41 : Int32) = nI (a % 41) := by rw [dv_41 h, um_41, nI_sub' (by omega), nat_rem]
theorem le_50 {a : Nat} (h : a < 2147483648) : ((50 : Int32) ≤ nI a) = (50 ≤ a) := nI_le' (a := 50) (by decide) h
theorem gt_50 {a : Nat} (h : a < 2147483648) : ((50 : Int32) < nI a) = (50 < a) := nI_lt' (a := 50) (by decide) h
theorem ge_50 {a : Nat} (h : a < 2147483648) : (nI a ≤ (50 : Int32)) = (a ≤ 50) := nI_le' (b := 50) h (by decide)
theorem ls_50 {a : Nat} (h : a < 2147483648) : (nI a < (50 : Int32)) = (a < 50) := nI_lt' (b := 50) h (by decide)
theorem eq_50 {a : Nat} (h : a < 2147483648) : (nI a = (50 : Int32)) = (a = 50) := nI_eq' (b := 50) h (by decide)
theorem ad_50 (a : Nat) : nI a + (50 : Int32) = nI (a + 50) := nI_add a 50
theorem da_50 (a : Nat) : (50 : Int32) + nI a = nI (50 + a) := nI_add 50 a
theorem mu_50 (a : Nat) : (50 : Int32) * nI a = nI (50 * a) := nI_mul' 50 a
theorem um_50 (a : Nat) : nI a * (50 : Int32) = nI (a * 50) := nI_mul' a 50
theorem sb_50 {a : Nat} (h : 50 ≤ a) : nI a - (50 : Int32) = nI (a - 50) := nI_sub' (b := 50) h
theorem dv_50 {a : Nat} (h : a < 2147483648) : nI a / (50 : Int32) = nI (a / 50) := nI_div' (d := 50) h (by decide) (by decide)
theorem rm_50 {a : Nat} (h : a < 2147483648) : nI a - nI a / (50 : Int32) * (50 : Int32) = nI (a % 50) := by rw [dv_50 h, um_50, nI_sub' (by omega), nat_rem]
theorem le_51 {a : Nat} (h : a < 2147483648) : ((51 : Int32) ≤ nI a) = (51 ≤ a) := nI_le' (a := 51) (by decide) h
theorem gt_51 {a : Nat} (h : a < 2147483648) : ((51 : Int32) < nI a) = (51 < a) := nI_lt' (a := 51) (by decide) h
theorem ge_51 {a : Nat} (h : a < 2147483648) : (nI a ≤ (51 : Int32)) = (a ≤ 51) := nI_le' (b := 51) h (by decide)
theorem ls_51 {a : Nat} (h : a < 2147483648) : (nI a < (51 : Int32)) = (a < 51) := nI_lt' (b := 51) h (by decide)
theorem eq_51 {a : Nat} (h : a < 2147483648) : (nI a = (51 : Int32)) = (a = 51) := nI_eq' (b := 51) h (by decide)
theorem ad_51 (a : Nat) : nI a + (51 : Int32) = nI (a + 51) := nI_add a 51
theorem da_51 (a : Nat) : (51 : Int32) + nI a = nI (51 + a) := nI_add 51 a
theorem mu_51 (a : Nat) : (51 : Int32) * nI a = nI (51 * a) := nI_mul' 51 a
theorem um_51 (a : Nat) : nI a * (51 : Int32) = nI (a * 51) := nI_mul' a 51
theorem sb_51 {a : Nat} (h : 51 ≤ a) : nI a - (51 : Int32) = nI (a - 51) := nI_sub' (b := 51) h
theorem dv_51 {a : Nat} (h : a < 2147483648) : nI a / (51 : Int32) = nI (a / 51) := nI_div' (d := 51) h (by decide) (by decide)
theorem rm_51 {a : Nat} (h : a < 2147483648) : nI a - nI a / (51 : Int32) * (51 : Int32) = nI (a % 51) := by rw [dv_51 h, um_51, nI_sub' (by omega), nat_rem]
theorem le_60 {a : Nat} (h : a < 2147483648) : ((60 : Int32) ≤ nI a) = (60 ≤ a) := nI_le' (a := 60) (by decide) h
theorem gt_60 {a : Nat} (h : a < 2147483648) : ((60 : Int32) < nI a) = (60 < a) := nI_lt' (a := 60) (by decide) h
theorem ge_60 {a : Nat} (h : a < 2147483648) : (nI a ≤ (60 : Int32)) = (a ≤ 60) := nI_le' (b := 60) h (by decide)
theorem ls_60 {a : Nat} (h : a < 2147483648) : (nI a < (60 : Int32)) = (a < 60) := nI_lt' (b := 60) h (by decide)
theorem eq_60 {a : Nat} (h : a < 2147483648) : (nI a = (60 : Int32)) = (a = 60) := nI_eq' (b := 60) h (by decide)
theorem ad_60 (a : Nat) : nI a + (60 : Int32) = nI (a + 60) := nI_add a 60
theorem da_60 (a : Nat) : (60 : Int32) + nI a = nI (60 + a) := nI_add 60 a
theorem mu_60 (a : Nat) : (60 : Int32) * nI a = nI (60 * a) := nI_mul' 60 a
theorem um_60 (a : Nat) : nI a * (60 : Int32) = nI (a * 60) := nI_mul' a 60
theorem sb_60 {a : Nat} (h : 60 ≤ a) : nI a - (60 : Int32) = nI (a - 60) := nI_sub' (b := 60) h
theorem dv_60 {a : Nat} (h : a < 2147483648) : nI a / (60 : Int32) = nI (a / 60) := nI_div' (d := 60) h (by decide) (by decide)
theorem rm_60 {a : Nat} (h : a < 2147483648) : nI a - nI a / (60 : Int32) * (60 : Int32) = nI (a % 60) := by rw [dv_60 h, um_60, nI_sub' (by omega), nat_rem]
theorem le_63 {a : Nat} (h : a < 2147483648) : ((63 : Int32) ≤ nI a) = (63 ≤ a) := nI_le' (a := 63) (by decide) h
theorem gt_63 {a : Nat} (h : a < 2147483648) : ((63 : Int32) < nI a) = (63 < a) := nI_lt' (a := 63) (by decide) h
theorem ge_63 {a : Nat} (h : a < 2147483648) : (nI a ≤ (63 : Int32)) = (a ≤ 63) := nI_le' (b := 63) h (by decide)
theorem ls_63 {a : Nat} (h : a < 2147483648) : (nI a < (63 : Int32)) = (a < 63) := nI_lt' (b := 63) h (by decide)
theorem eq_63 {a : Nat} (h : a < 2147483648) : (nI a = (63 : Int32)) = (a = 63) := nI_eq' (b := 63) h (by decide)
theorem ad_63 (a : Nat) : nI a + (63 : Int32) = nI (a + 63) := nI_add a 63
theorem da_63 (a : Nat) : (63 : Int32) + nI a = nI (63 + a) := nI_add 63 a
theorem mu_63 (a : Nat) : (63 : Int32) * nI a = nI (63 * a) := nI_mul' 63 a
theorem um_63 (a : Nat) : nI a * (63 : Int32) = nI (a * 63) := nI_mul' a 63
theorem sb_63 {a : Nat} (h : 63 ≤ a) : nI a - (63 : Int32) = nI (a - 63) := nI_sub' (b := 63) h
theorem dv_63 {a : Nat} (h : a < 2147483648) : nI a / (63 : Int32) = nI (a / 63) := nI_div' (d := 63) h (by decide) (by decide)
theorem rm_63 {a : Nat} (h : a < 2147483648) : nI a - nI a / (63 : Int32) * (63 : Int32) = nI (a % 63) := by rw [dv_63 h, um_63, nI_sub' (by omega), nat_rem]
theorem le_64 {a : Nat} (h : a < 2147483648) : ((64 : Int32) ≤ nI a) = (64 ≤ a) := nI_le' (a := 64) (by decide) h
theorem gt_64 {a : Nat} (h : a < 2147483648) : ((64 : Int32) < nI a) = (64 < a) := nI_lt' (a := 64) (by decide) h
theorem ge_64 {a : Nat} (h : a < 2147483648) : (nI a ≤ (64 : Int32)) = (a ≤ 64) := nI_le' (b := 64) h (by decide)
theorem ls_64 {a : Nat} (h : a < 2147483648) : (nI a < (64 : Int32)) = (a < 64) := nI_lt' (b := 64) h (by decide)
theorem eq_64 {a : Nat} (h : a < 2147483648) : (nI a = (64 : Int32)) = (a = 64) := nI_eq' (b := 64) h (by decide)
theorem ad_64 (a : Nat) : nI a + (64 : Int32) = nI (a + 64) := nI_add a 64
theorem da_64 (a : Nat) : (64 : Int32) + nI a = nI (64 + a) := nI_add 64 a
theorem mu_64 (a : Nat) : (64 : Int32) * nI a = nI (64 * a) := nI_mul' 64 a
theorem um_64 (a : Nat) : nI a * (64 : Int32) = nI (a * 64) := nI_mul' a 64
theorem sb_64 {a : Nat} (h : 64 ≤ a) : nI a - (64 : Int32) = nI (a - 64) := nI_sub' (b := 64) h
theorem dv_64 {a : Nat} (h : a < 2147483648) : nI a / (64 : Int32) = nI (a / 64) := nI_div' (d := 64) h (by decide) (by decide)
theorem rm_64 {a : Nat} (h : a < 2147483648) : nI a - nI a / (64 : Int32) * (64 : Int32) = nI (a % 64) := by rw [dv_64 h, um_64, nI_sub' (by omega), nat_rem]
theorem le_65 {a : Nat} (h : a < 2147483648) : ((65 : Int32) ≤ nI a) = (65 ≤ a) := nI_le' (a := 65) (by decide) h
theorem gt_65 {a : Nat} (h : a < 2147483648) : ((65 : Int32) < nI a) = (65 < a) := nI_lt' (a := 65) (by decide) h
theorem ge_65 {a : Nat} (h : a < 2147483648) : (nI a ≤ (65 : Int32)) = (a ≤ 65) := nI_le' (b := 65) h (by decide)
theorem ls_65 {a : Nat} (h : a < 2147483648) : (nI a < (65 : Int32)) = (a < 65) := nI_lt' (b := 65) h (by decide)
theorem eq_65 {a : Nat} (h : a < 2147483648) : (nI a = (65 : Int32)) = (a = 65) := nI_eq' (b := 65) h (by decide)
theorem ad_65 (a : Nat) : nI a + (65 : Int32) = nI (a + 65) := nI_add a 65
theorem da_65 (a : Nat) : (65 : Int32) + nI a = nI (65 + a) := nI_add 65 a
theorem mu_65 (a : Nat) : (65 : Int32) * nI a = nI (65 * a) := nI_mul' 65 a
theorem um_65 (a : Nat) : nI a * (65 : Int32) = nI (a * 65) := nI_mul' a 65
theorem sb_65 {a : Nat} (h : 65 ≤ a) : nI a - (65 : Int32) = nI (a - 65) := nI_sub' (b := 65) h
theorem dv_65 {a : Nat} (h : a < 2147483648) : nI a / (65 : Int32) = nI (a / 65) := nI_div' (d := 65) h (by decide) (by decide)
theorem rm_65 {a : Nat} (h : a < 2147483648) : nI a - nI a / (65 : Int32) * (65 : Int32) = nI (a % 65) := by rw [dv_65 h, um_65, nI_sub' (by omega), nat_rem]
theorem le_128 {a : Nat} (h : a < 2147483648) : ((128 : Int32) ≤ nI a) = (128 ≤ a) := nI_le' (a := 128) (by decide) h
theorem gt_128 {a : Nat} (h : a < 2147483648) : ((128 : Int32) < nI a) = (128 < a) := nI_lt' (a := 128) (by decide) h
theorem ge_128 {a : Nat} (h : a < 2147483648) : (nI a ≤ (128 : Int32)) = (a ≤ 128) := nI_le' (b := 128) h (by decide)
theorem ls_128 {a : Nat} (h : a < 2147483648) : (nI a < (128 : Int32)) = (a < 128) := nI_lt' (b := 128) h (by decide)
theorem eq_128 {a : Nat} (h : a < 2147483648) : (nI a = (128 : Int32)) = (a = 128) := nI_eq' (b := 128) h (by decide)
theorem ad_128 (a : Nat) : nI a + (128 : Int32) = nI (a + 128) := nI_add a 128
theorem da_128 (a : Nat) : (128 : Int32) + nI a = nI (128 + a) := nI_add 128 a
theorem mu_128 (a : Nat) : (128 : Int32) * nI a = nI (128 * a) := nI_mul' 128 a
theorem um_128 (a : Nat) : nI a * (128 : Int32) = nI (a * 128) := nI_mul' a 128
theorem sb_128 {a : Nat} (h : 128 ≤ a) : nI a - (128 : Int32) = nI (a - 128) := nI_sub' (b := 128) h
theorem dv_128 {a : Nat} (h : a < 2147483648) : nI a / (128 : Int32) = nI (a / 128) := nI_div' (d := 128) h (by decide) (by decide)
theorem rm_128 {a : Nat} (h : a < 2147483648) : nI a - nI a / (128 : Int32) * (128 : Int32) = nI (a % 128) := by rw [dv_128 h, um_128, nI_sub' (by omega), nat_rem]
theorem le_199 {a : Nat} (h : a < 2147483648) : ((199 : Int32) ≤ nI a) = (199 ≤ a) := nI_le' (a := 199) (by decide) h
theorem gt_199 {a : Nat} (h : a < 2147483648) : ((199 : Int32) < nI a) = (199 < a) := nI_lt' (a := 199) (by decide) h
theorem ge_199 {a : Nat} (h : a < 2147483648) : (nI a ≤ (199 : Int32)) = (a ≤ 199) := nI_le' (b := 199) h (by decide)
theorem ls_199 {a : Nat} (h : a < 2147483648) : (nI a < (199 : Int32)) = (a < 199) := nI_lt' (b := 199) h (by decide)
theorem eq_199 {a : Nat} (h : a < 2147483648) : (nI a = (199 : Int32)) = (a = 199) := nI_eq' (b := 199) h (by decide)
theorem ad_199 (a : Nat) : nI a + (199 : Int32) = nI (a + 199) := nI_add a 199
theorem da_199 (a : Nat) : (199 : Int32) + nI a = nI (199 + a) := nI_add 199 a
theorem mu_199 (a : Nat) : (199 : Int32) * nI a = nI (199 * a) := nI_mul' 199 a
theorem um_199 (a : Nat) : nI a * (199 : Int32) = nI (a * 199) := nI_mul' a 199
theorem sb_199 {a : Nat} (h : 199 ≤ a) : nI a - (199 : Int32) = nI (a - 199) := nI_sub' (b := 199) h
theorem dv_199 {a : Nat} (h : a < 2147483648) : nI a / (199 : Int32) = nI (a / 199) := nI_div' (d := 199) h (by decide) (by decide)
theorem rm_199 {a : Nat} (h : a < 2147483648) : nI a - nI a / (199 : Int32) * (199 : Int32) = nI (a % 199) := by rw [dv_199 h, um_199, nI_sub' (by omega), nat_rem]
theorem le_200 {a : Nat} (h : a < 2147483648) : ((200 : Int32) ≤ nI a) = (200 ≤ a) := nI_le' (a := 200) (by decide) h
theorem gt_200 {a : Nat} (h : a < 2147483648) : ((200 : Int32) < nI a) = (200 < a) := nI_lt' (a := 200) (by decide) h
theorem ge_200 {a : Nat} (h : a < 2147483648) : (nI a ≤ (200 : Int32)) = (a ≤ 200) := nI_le' (b := 200) h (by decide)
theorem ls_200 {a : Nat} (h : a < 2147483648) : (nI a < (200 : Int32)) = (a < 200) := nI_lt' (b := 200) h (by decide)
theorem eq_200 {a : Nat} (h : a < 2147483648) : (nI a = (200 : Int32)) = (a = 200) := nI_eq' (b := 200) h (by decide)
theorem ad_200 (a : Nat) : nI a + (200 : Int32) = nI (a + 200) := nI_add a 200
theorem da_200 (a : Nat) : (200 : Int32) + nI a = nI (200 + a) := nI_add 200 a
theorem mu_200 (a : Nat) : (200 : Int32) * nI a = nI (200 * a) := nI_mul' 200 a
theorem um_200 (a : Nat) : nI a * (200 : Int32) = nI (a * 200) := nI_mul' a 200
theorem sb_200 {a : Nat} (h : 200 ≤ a) : nI a - (200 : Int32) = nI (a - 200) := nI_sub' (b := 200) h
theorem dv_200 {a : Nat} (h : a < 2147483648) : nI a / (200 : Int32) = nI (a / 200) := nI_div' (d := 200) h (by decide) (by decide)
theorem rm_200 {a : Nat} (h : a < 2147483648) : nI a - nI a / (200 : Int32) * (200 : Int32) = nI (a % 200) := by rw [dv_200 h, um_200, nI_sub' (by omega), nat_rem]
theorem le_250 {a : Nat} (h : a < 2147483648) : ((250 : Int32) ≤ nI a) = (250 ≤ a) := nI_le' (a := 250) (by decide) h
theorem gt_250 {a : Nat} (h : a < 2147483648) : ((250 : Int32) < nI a) = (250 < a) := nI_lt' (a := 250) (by decide) h
theorem ge_250 {a : Nat} (h : a < 2147483648) : (nI a ≤ (250 : Int32)) = (a ≤ 250) := nI_le' (b := 250) h (by decide)
theorem ls_250 {a : Nat} (h : a < 2147483648) : (nI a < (250 : Int32)) = (a < 250) := nI_lt' (b := 250) h (by decide)
theorem eq_250 {a : Nat} (h : a < 2147483648) : (nI a = (250 : Int32)) = (a = 250) := nI_eq' (b := 250) h (by decide)
theorem ad_250 (a : Nat) : nI a + (250 : Int32) = nI (a + 250) := nI_add a 250
theorem da_250 (a : Nat) : (250 : Int32) + nI a = nI (250 + a) := nI_add 250 a
theorem mu_250 (a : Nat) : (250 : Int32) * nI a = nI (250 * a) := nI_mul' 250 a
theorem um_250 (a : Nat) : nI a * (250 : Int32) = nI (a * 250) := nI_mul' a 250
theorem sb_250 {a : Nat} (h : 250 ≤ a) : nI a - (250 : Int32) = nI (a - 250) := nI_sub' (b := 250) h
theorem dv_250 {a : Nat} (h : a < 2147483648) : nI a / (250 : Int32) = nI (a / 250) := nI_div' (d := 250) h (by decide) (by decide)
theorem rm_250 {a : Nat} (h : a < 2147483648) : nI a - nI a / (250 : Int32) * (250 : Int32) = nI (a % 250) := by rw [dv_250 h, um_250, nI_sub' (by omega), nat_rem]
theorem le_255 {a : Nat} (h : a < 2147483648) : ((255 : Int32) ≤ nI a) = (255 ≤ a) := nI_le' (a := 255) (by decide) h
theorem gt_255 {a : Nat} (h : a < 2147483648) : ((255 : Int32) < nI a) = (255 < a) := nI_lt' (a := 255) (by decide) h
theorem ge_255 {a : Nat} (h : a < 2147483648) : (nI a ≤ (255 : Int32)) = (a ≤ 255) := nI_le' (b := 255) h (by decide)
theorem ls_255 {a : Nat} (h : a < 2147483648) : (nI a < (255 : Int32)) = (a < 255) := nI_lt' (b := 255) h (by decide)
theorem eq_255 {a : Nat} (h : a < 2147483648) : (nI a = (255 : Int32)) = (a = 255) := nI_eq' (b := 255) h (by decide)
theorem ad_255 (a : Nat) : nI a + (255 : Int32) = nI (a + 255) := nI_add a 255
theorem da_255 (a : Nat) : (255 : Int32) + nI a = nI (255 + a) := nI_add 255 a
theorem mu_255 (a : Nat) : (255 : Int32) * nI a = nI (255 * a) := nI_mul' 255 a
theorem um_255 (a : Nat) : nI a * (255 : Int32) = nI (a * 255) := nI_mul' a 255
theorem sb_255 {a : Nat} (h : 255 ≤ a) : nI a - (255 : Int32) = nI (a - 255) := nI_sub' (b := 255) h
theorem dv_255 {a : Nat} (h : a < 2147483648) : nI a / (255 : Int32) = nI (a / 255) := nI_div' (d := 255) h (by decide) (by decide)
theorem rm_255 {a : Nat} (h : a < 2147483648) : nI a - nI a / (255 : Int32) * (255 : Int32) = nI (a % 255) := by rw [dv_255 h, um_255, nI_sub' (by omega), nat_rem]
theorem le_256 {a : Nat} (h : a < 2147483648) : ((256 : Int32) ≤ nI a) = (256 ≤ a) := nI_le' (a := 256) (by decide) h
theorem gt_256 {a : Nat} (h : a < 2147483648) : ((256 : Int32) < nI a) = (256 < a) := nI_lt' (a := 256) (by decide) h
theorem ge_256 {a : Nat} (h : a < 2147483648) : (nI a ≤ (256 : Int32)) = (a ≤ 256) := nI_le' (b := 256) h (by decide)
theorem ls_256 {a : Nat} (h : a < 2147483648) : (nI a < (256 : Int32)) = (a < 256) := nI_lt' (b := 256) h (by decide)
theorem eq_256 {a : Nat} (h : a < 2147483648) : (nI a = (256 : Int32)) = (a = 256) := nI_eq' (b := 256) h (by decide)
theorem ad_256 (a : Nat) : nI a + (256 : Int32) = nI (a + 256) := nI_add a 256
theorem da_256 (a : Nat) : (256 : Int32) + nI a = nI (256 + a) := nI_add 256 a
theorem mu_256 (a : Nat) : (256 : Int32) * nI a = nI (256 * a) := nI_mul' 256 a
theorem um_256 (a : Nat) : nI a * (256 : Int32) = nI (a * 256) := nI_mul' a 256
theorem sb_256 {a : Nat} (h : 256 ≤ a) : nI a - (256 : Int32) = nI (a - 256) := nI_sub' (b := 256) h
theorem dv_256 {a : Nat} (h : a < 2147483648) : nI a / (256 : Int32) = nI (a / 256) := nI_div' (d := 256) h (by decide) (by decide)
theorem rm_256 {a : Nat} (h : a < 2147483648) : nI a - nI a / (256 : Int32) * (256 : Int32) = nI (a % 256) := by rw [dv_256 h, um_256, nI_sub' (by omega), nat_rem]
theorem le_299 {a : Nat} (h : a < 2147483648) : ((299 : Int32) ≤ nI a) = (299 ≤ a) := nI_le' (a := 299) (by decide) h
theorem gt_299 {a : Nat} (h : a < 2147483648) : ((299 : Int32) < nI a) = (299 < a) := nI_lt' (a := 299) (by decide) h
theorem ge_299 {a : Nat} (h : a < 2147483648) : (nI a ≤ (299 : Int32)) = (a ≤ 299) := nI_le' (b := 299) h (by decide)
theorem ls_299 {a : Nat} (h : a < 2147483648) : (nI a < (299 : Int32)) = (a < 299) := nI_lt' (b := 299) h (by decide)
theorem eq_299 {a : Nat} (h : a < 2147483648) : (nI a = (299 : Int32)) = (a = 299) := nI_eq' (b := 299) h (by decide)
theorem ad_299 (a : Nat) : nI a + (299 : Int32) = nI (a + 299) := nI_add a 299
theorem da_299 (a : Nat) : (299 : Int32) + nI a = nI (299 + a) := nI_add 299 a
theorem mu_299 (a : Nat) : (299 : Int32) * nI a = nI (299 * a) := nI_mul' 299 a
theorem um_299 (a : Nat) : nI a * (299 : Int32) = nI (a * 299) := nI_mul' a 299
theorem sb_299 {a : Nat} (h : 299 ≤ a) : nI a - (299 : Int32) = nI (a - 299) := nI_sub' (b := 299) h
theorem dv_299 {a : Nat} (h : a < 2147483648) : nI a / (299 : Int32) = nI (a / 299) := nI_div' (d := 299) h (by decide) (by decide)
theorem rm_299 {a : Nat} (h : a < 2147483648) : nI a - nI a / (299 : Int32) * (299 : Int32) = nI (a % 299) := by rw [dv_299 h, um_299, nI_sub' (by omega), nat_rem]
theorem le_300 {a : Nat} (h : a < 2147483648) : ((300 : Int32) ≤ nI a) = (300 ≤ a) := nI_le' (a := 300) (by decide) h
theorem gt_300 {a : Nat} (h : a < 2147483648) : ((300 : Int32) < nI a) = (300 < a) := nI_lt' (a := 300) (by decide) h
theorem ge_300 {a : Nat} (h : a < 2147483648) : (nI a ≤ (300 : Int32)) = (a ≤ 300) := nI_le' (b := 300) h (by decide)
theorem ls_300 {a : Nat} (h : a < 2147483648) : (nI a < (300 : Int32)) = (a < 300) := nI_lt' (b := 300) h (by decide)
theorem eq_300 {a : Nat} (h : a < 2147483648) : (nI a = (300 : Int32)) = (a = 300) := nI_eq' (b := 300) h (by decide)
theorem ad_300 (a : Nat) : nI a + (300 : Int32) = nI (a + 300) := nI_add a 300
theorem da_300 (a : Nat) : (300 : Int32) + nI a = nI (300 + a) := nI_add 300 a
theorem mu_300 (a : Nat) : (300 : Int32) * nI a = nI (300 * a) := nI_mul' 300 a
theorem um_300 (a : Nat) : nI a * (300 : Int32) = nI (a * 300) := nI_mul' a 300
theorem sb_300 {a : Nat} (h : 300 ≤ a) : nI a - (300 : Int32) = nI (a - 300) := nI_sub' (b := 300) h
theorem dv_300 {a : Nat} (h : a < 2147483648) : nI a / (300 : Int32) = nI (a / 300) := nI_div' (d := 300) h (by decide) (by decide)
theorem rm_300 {a : Nat} (h : a < 2147483648) : nI a - nI a / (300 : Int32) * (300 : Int32) = nI (a % 300) := by rw [dv_300 h, um_300, nI_sub' (by omega), nat_rem]
theorem le_306 {a : Nat} (h : a < 2147483648) : ((306 : Int32) ≤ nI a) = (306 ≤ a) := nI_le' (a := 306) (by decide) h
theorem gt_306 {a : Nat} (h : a < 2147483648) : ((306 : Int32) < nI a) = (306 < a) := nI_lt' (a := 306) (by decide) h
theorem ge_306 {a : Nat} (h : a < 2147483648) : (nI a ≤ (306 : Int32)) = (a ≤ 306) := nI_le' (b := 306) h (by decide)
theorem ls_306 {a : Nat} (h : a < 2147483648) : (nI a < (306 : Int32)) = (a < 306) := nI_lt' (b := 306) h (by decide)
theorem eq_306 {a : Nat} (h : a < 2147483648) : (nI a = (306 : Int32)) = (a = 306) := nI_eq' (b := 306) h (by decide)
theorem ad_306 (a : Nat) : nI a + (306 : Int32) = nI (a + 306) := nI_add a 306
theorem da_306 (a : Nat) : (306 : Int32) + nI a = nI (306 + a) := nI_add 306 a
theorem mu_306 (a : Nat) : (306 : Int32) * nI a = nI (306 * a) := nI_mul' 306 a
theorem um_306 (a : Nat) : nI a * (306 : Int32) = nI (a * 306) := nI_mul' a 306
theorem sb_306 {a : Nat} (h : 306 ≤ a) : nI a - (306 : Int32) = nI (a - 306) := nI_sub' (b := 306) h
theorem dv_306 {a : Nat} (h : a < 2147483648) : nI a / (306 : Int32) = nI (a / 306) := nI_div' (d := 306) h (by decide) (by decide)
theorem rm_306 {a : Nat} (h : a < 2147483648) : nI a - nI a / (306 : Int32) * (306 : Int32) = nI (a % 306) := by rw [dv_306 h, um_306, nI_sub' (by omega), nat_rem]
theorem le_324 {a : Nat} (h : a < 2147483648) : ((324 : Int32) ≤ nI a) = (324 ≤ a) := nI_le' (a := 324) (by decide) h
theorem gt_324 {a : Nat} (h : a < 2147483648) : ((324 : Int32) < nI a) = (324 < a) := nI_lt' (a := 324) (by decide) h
theorem ge_324 {a : Nat} (h : a < 2147483648) : (nI a ≤ (324 : Int32)) = (a ≤ 324) := nI_le' (b := 324) h (by decide)
theorem ls_324 {a : Nat} (h : a < 2147483648) : (nI a < (324 : Int32)) = (a < 324) := nI_lt' (b := 324) h (by decide)
theorem eq_324 {a : Nat} (h : a < 2147483648) : (nI a = (324 : Int32)) = (a = 324) := nI_eq' (b := 324) h (by decide)
theorem ad_324 (a : Nat) : nI a + (324 : Int32) = nI (a + 324) := nI_add a 324
theorem da_324 (a : Nat) : (324 : Int32) + nI a = nI (324 + a) := nI_add 324 a
theorem mu_324 (a : Nat) : (324 : Int32) * nI a = nI (324 * a) := nI_mul' 324 a
theorem um_324 (a : Nat) : nI a * (324 : Int32) = nI (a * 324) := nI_mul' a 324
theorem sb_324 {a : Nat} (h : 324 ≤ a) : nI a - (324 : Int32) = nI (a - 324) := nI_sub' (b := 324) h
theorem dv_324 {a : Nat} (h : a < 2147483648) : nI a / (324 : Int32) = nI (a / 324) := nI_div' (d := 324) h (by decide) (by decide)
theorem rm_324 {a : Nat} (h : a < 2147483648) : nI a - nI a / (324 : Int32) * (324 : Int32) = nI (a % 324) := by rw [dv_324 h, um_324, nI_sub' (by omega), nat_rem]
theorem le_400 {a : Nat} (h : a < 2147483648) : ((400 : Int32) ≤ nI a) = (400 ≤ a) := nI_le' (a := 400) (by decide) h
theorem gt_400 {a : Nat} (h : a < 2147483648) : ((400 : Int32) < nI a) = (400 < a) := nI_lt' (a := 400) (by decide) h
theorem ge_400 {a : Nat} (h : a < 2147483648) : (nI a ≤ (400 : Int32)) = (a ≤ 400) := nI_le' (b := 400) h (by decide)
theorem ls_400 {a : Nat} (h : a < 2147483648) : (nI a < (400 : Int32)) = (a < 400) := nI_lt' (b := 400) h (by decide)
theorem eq_400 {a : Nat} (h : a < 2147483648) : (nI a = (400 : Int32)) = (a = 400) := nI_eq' (b := 400) h (by decide)
theorem ad_400 (a : Nat) : nI a + (400 : Int32) = nI (a + 400) := nI_add a 400
theorem da_400 (a : Nat) : (400 : Int32) + nI a = nI (400 + a) := nI_add 400 a
theorem mu_400 (a : Nat) : (400 : Int32) * nI a = nI (400 * a) := nI_mul' 400 a
theorem um_400 (a : Nat) : nI a * (400 : Int32) = nI (a * 400) := nI_mul' a 400
theorem sb_400 {a : Nat} (h : 400 ≤ a) : nI a - (400 : Int32) = nI (a - 400) := nI_sub' (b := 400) h
theorem dv_400 {a : Nat} (h : a < 2147483648) : nI a / (400 : Int32) = nI (a / 400) := nI_div' (d := 400) h (by decide) (by decide)
theorem rm_400 {a : Nat} (h : a < 2147483648) : nI a - nI a / (400 : Int32) * (400 : Int32) = nI (a % 400) := by rw [dv_400 h, um_400, nI_sub' (by omega), nat_rem]
theorem le_512 {a : Nat} (h : a < 2147483648) : ((512 : Int32) ≤ nI a) = (512 ≤ a) := nI_le' (a := 512) (by decide) h
theorem gt_512 {a : Nat} (h : a < 2147483648) : ((512 : Int32) < nI a) = (512 < a) := nI_lt' (a := 512) (by decide) h
theorem ge_512 {a : Nat} (h : a < 2147483648) : (nI a ≤ (512 : Int32)) = (a ≤ 512) := nI_le' (b := 512) h (by decide)
theorem ls_512 {a : Nat} (h : a < 2147483648) : (nI a < (512 : Int32)) = (a < 512) := nI_lt' (b := 512) h (by decide)
theorem eq_512 {a : Nat} (h : a < 2147483648) : (nI a = (512 : Int32)) = (a = 512) := nI_eq' (b := 512) h (by decide)
theorem ad_512 (a : Nat) : nI a + (512 : Int32) = nI (a + 512) := nI_add a 512
theorem da_512 (a : Nat) : (512 : Int32) + nI a = nI (512 + a) := nI_add 512 a
theorem mu_512 (a : Nat) : (512 : Int32) * nI a = nI (512 * a) := nI_mul' 512 a
theorem um_512 (a : Nat) : nI a * (512 : Int32) = nI (a * 512) := nI_mul' a 512
theorem sb_512 {a : Nat} (h : 512 ≤ a) : nI a - (512 : Int32) = nI (a - 512) := nI_sub' (b := 512) h
theorem dv_512 {a : Nat} (h : a < 2147483648) : nI a / (512 : Int32) = nI (a / 512) := nI_div' (d := 512) h (by decide) (by decide)
theorem rm_512 {a : Nat} (h : a < 2147483648) : nI a - nI a / (512 : Int32) * (512 : Int32) = nI (a % 512) := by rw [dv_512 h, um_512, nI_sub' (by omega), nat_rem]
theorem vp_in' {n N : Nat} (h : n < 2147483648) : vp_in (nI n) N = (n < N) := by
  apply propext
  unfold vp_in
  rw [nI_clamp h]
  constructor
  · intro h1
    rcases Nat.lt_or_ge n N with q | q
    · exact q
    · exact absurd (Or.inr q) h1
  · rintro h1 (h2 | h2)
    · exact nI_pos h h2
    · omega
theorem nI_ex {x : Int32} {N : Nat} (h0 : ¬ x < 0) (h1 : ¬ nI N ≤ x) (hN : N < 2147483648) : ∃ j, j < N ∧ x = nI j := by
  obtain ⟨j, hj, e⟩ := nI_of h0
  refine ⟨j, ?_, e⟩
  rcases Nat.lt_or_ge j N with q | q
  · exact q
  · exact absurd (by rw [e]; exact nI_le q hj) h1
theorem upd_nI (f : Nat → Nat) (k x : Nat) : upd (fun j => nI (f j)) k (nI x) = fun j => nI ((fun i => if i = k then x else f i) j) := by
  funext j
  by_cases h : j = k
  · subst h; rw [pk_us]; simp
  · rw [pk_un h]; simp [h]
theorem upd_at {f : Nat → Int32} {k j : Nat} {x : Int32} : upd f k x j = if j = k then x else f j := by
  by_cases h : j = k
  · subst h; rw [pk_us, if_pos rfl]
  · rw [pk_un h, if_neg h]
theorem updL_at {f : Nat → Int64} {k j : Nat} {x : Int64} : vp_updL f k x j = if j = k then x else f j := by
  by_cases h : j = k
  · subst h; rw [pk_uLs, if_pos rfl]
  · rw [pk_uLn h, if_neg h]
theorem cpy_all {α : Type} (f g : Nat → α) (n : Nat) : va_cpy f g 0 0 n = fun j => if j < n then f j else g j := by
  funext j
  by_cases h : j < n
  · rw [pk_cpy_in (Nat.zero_le _) (by omega), if_pos h]; congr 1; omega
  · rw [pk_cpy_out (Or.inr (by omega)), if_neg h]
theorem nar_1 : vp_nar .boolean 1 = 1 := by decide
theorem nar_0 : vp_nar .boolean 0 = 0 := by decide
theorem nar_b (b : Bool) : vp_nar .boolean (bI b) = bI b := by cases b <;> decide
/-- a counting loop: from i on up to N -/
theorem lp_up {W : Nat → Nat → Prop} {I : Nat → Prop} (N : Nat) (hs : ∀ n i, i ≤ N → I i → (i < N → I (i + 1) → W n (i + 1)) → W (n + 1) i) : ∀ i, i ≤ N → I i → ∃ n, W n i := by
  have key : ∀ d i, i ≤ N → N - i ≤ d → I i → W (d + 1) i := by
    intro d
    induction d with
    | zero => intro i h1 h2 hI; exact hs 0 i h1 hI (fun h => absurd h (by omega))
    | succ d ih => intro i h1 h2 hI; exact hs (d + 1) i h1 hI (fun h hI2 => ih (i + 1) (by omega) (by omega) hI2)
  intro i h1 hI
  exact ⟨_, key (N - i) i h1 (Nat.le_refl _) hI⟩
/-- a loop with a state and a measure -/
theorem lp_mu {σ : Type} {W : Nat → σ → Prop} {I : σ → Prop} (μ : σ → Nat) (hs : ∀ n s, I s → (∀ s', I s' → μ s' < μ s → W n s') → W (n + 1) s) : ∀ s, I s → ∃ n, W n s := by
  have key : ∀ d s, I s → μ s ≤ d → W (d + 1) s := by
    intro d
    induction d with
    | zero => intro s hI h; exact hs 0 s hI (fun s' _ h2 => absurd h2 (by omega))
    | succ d ih => intro s hI h; exact hs (d + 1) s hI (fun s' hI' h2 => ih s' hI' (by omega))
  intro s hI
  exact ⟨_, key (μ s) s hI (Nat.le_refl _)⟩
