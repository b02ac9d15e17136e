/-! bits of a long; sets of pieces -/
def tb (x : Int64) (i : Nat) : Bool := x.toBitVec.getLsbD i
theorem tb_ext {x y : Int64} (h : ∀ i, i < 64 → tb x i = tb y i) : x = y := Int64.toBitVec_inj.mp (BitVec.eq_of_getLsbD_eq (fun i hi => h i hi))
theorem tb_or (x y : Int64) (i : Nat) : tb (x ||| y) i = (tb x i || tb y i) := by unfold tb; rw [Int64.toBitVec_or, BitVec.getLsbD_or]
theorem tb_and (x y : Int64) (i : Nat) : tb (x &&& y) i = (tb x i && tb y i) := by unfold tb; rw [Int64.toBitVec_and, BitVec.getLsbD_and]
theorem tb_xor (x y : Int64) (i : Nat) : tb (x ^^^ y) i = (tb x i ^^ tb y i) := by unfold tb; rw [Int64.toBitVec_xor, BitVec.getLsbD_xor]
theorem tb_big {x : Int64} {i : Nat} (h : 64 ≤ i) : tb x i = false := BitVec.getLsbD_of_ge _ _ h
theorem tb_0 (i : Nat) : tb 0 i = false := BitVec.getLsbD_zero
theorem tb_m1 : ∀ i, i < 64 → tb (-1) i = true := by decide +kernel
theorem tb_not (x : Int64) {i : Nat} (h : i < 64) : tb (x ^^^ (-1)) i = !tb x i := by rw [tb_xor, tb_m1 i h, Bool.xor_true]
theorem tb_one : ∀ p, p < 64 → ((1 : Int64) <<< ((nI p).toInt64 &&& 63)).toBitVec = BitVec.twoPow 64 p := by decide +kernel
theorem tb_bit {p : Nat} (hp : p < 64) (i : Nat) : tb ((1 : Int64) <<< ((nI p).toInt64 &&& 63)) i = decide (i = p) := by
  unfold tb
  rw [tb_one p hp, BitVec.getLsbD_twoPow]
  by_cases h : i = p
  · subst h; simp [hp]
  · have h2 : ¬ p = i := fun e => h e.symm
    simp [h, h2]
theorem tb_nat (x : Int64) (i : Nat) : tb x i = (uN x).testBit i := rfl
theorem tb_lN {n : Nat} (h : n < 2 ^ 64) (i : Nat) : tb (lN n) i = n.testBit i := by
  unfold tb
  rw [wb_tb, BitVec.getLsbD_ofNat]
  by_cases hi : i < 64
  · simp [hi]
  · rw [Nat.testBit_lt_two_pow (Nat.lt_of_lt_of_le h (Nat.pow_le_pow_right (by decide) (by omega)))]
    simp
theorem tb_shr (x : Int64) {k : Nat} (hk : k < 64) (i : Nat) : tb ((x.toUInt64 >>> ((nI k).toInt64.toUInt64 &&& Int64.toUInt64 63)).toInt64) i = tb x (k + i) := by
  rw [tb_nat, tb_nat, uN_sk x hk, Nat.testBit_div_two_pow, Nat.add_comm]
theorem tb_low (x : Int64) {k : Nat} (hk : k < 64) : ((x.toUInt64 >>> ((nI k).toInt64.toUInt64 &&& Int64.toUInt64 63)).toInt64 &&& 1) = if tb x k then 1 else 0 := by
  apply tb_ext
  intro i hi
  rw [tb_and, tb_shr x hk]
  have h1 : tb 1 i = decide (i = 0) := tb_bit (p := 0) (by decide) i
  rw [h1]
  by_cases h0 : i = 0
  · subst h0
    cases hx : tb x k
    · simp [hx, tb_0]
    · have h1 : tb 1 0 = true := rfl
      simp [hx, h1]
  · cases hx : tb x k
    · simp [h0, tb_0]
    · simp [h0, h1]
theorem tb_low1 (x : Int64) {k : Nat} (hk : k < 64) : (((x.toUInt64 >>> ((nI k).toInt64.toUInt64 &&& Int64.toUInt64 63)).toInt64 &&& 1) = 1) = (tb x k = true) := by
  rw [tb_low x hk]
  cases tb x k <;> decide
theorem tb_eq0 (x : Int64) : x = 0 ↔ ∀ i, i < 64 → tb x i = false := by
  constructor
  · rintro rfl i _
    exact tb_0 i
  · intro h
    exact tb_ext (fun i hi => by rw [h i hi, tb_0])
theorem tb_ne0 {x : Int64} (h : ¬ x = 0) : ∃ i, i < 64 ∧ tb x i = true := by
  refine Classical.byContradiction fun hx => h ((tb_eq0 x).mpr fun i hi => ?_)
  cases hb : tb x i
  · rfl
  · exact absurd ⟨i, hi, hb⟩ hx
/-- a set as a long -/
def mkN (f : Nat → Bool) : Nat → Nat
  | 0 => 0
  | n + 1 => mkN f n + (if f n then 2 ^ n else 0)
theorem mkN_lt (f : Nat → Bool) : ∀ n, mkN f n < 2 ^ n
  | 0 => Nat.one_pos
  | n + 1 => by
    have h := mkN_lt f n
    rw [mkN, Nat.pow_succ]
    split <;> omega
theorem mkN_bit (f : Nat → Bool) (i : Nat) : ∀ n, (mkN f n).testBit i = (decide (i < n) && f i)
  | 0 => by simp [mkN]
  | n + 1 => by
    have h := mkN_bit f i n
    have hl := mkN_lt f n
    rw [mkN]
    cases hf : f n with
    | false =>
      rw [if_neg (by decide), Nat.add_zero, h]
      by_cases hi : i = n
      · subst hi; simp [hf]
      · have : (i < n) = (i < n + 1) := propext ⟨fun q => by omega, fun q => by omega⟩
        simp [this]
    | true =>
      rw [if_pos rfl, Nat.add_comm]
      rcases Nat.lt_trichotomy i n with q | q | q
      · rw [Nat.testBit_two_pow_add_gt q, h]
        have a1 : i < n + 1 := by omega
        simp [q, a1]
      · subst q
        rw [Nat.testBit_two_pow_add_eq, h]
        simp [hf]
      · have a1 : 2 ^ (n + 1) ≤ 2 ^ i := Nat.pow_le_pow_right (by decide) q
        rw [Nat.pow_succ] at a1
        rw [Nat.testBit_lt_two_pow (show 2 ^ n + mkN f n < 2 ^ i by omega)]
        have a2 : ¬ i < n + 1 := by omega
        simp [a2]
def mk (f : Nat → Bool) : Int64 := lN (mkN f 64)
theorem tb_mk (f : Nat → Bool) {i : Nat} (hi : i < 64) : tb (mk f) i = f i := by
  unfold mk
  rw [tb_lN (mkN_lt f 64), mkN_bit]
  simp [hi]
theorem mk_tb (x : Int64) : mk (tb x) = x := tb_ext fun i hi => tb_mk _ hi
theorem mk_cong {f g : Nat → Bool} (h : ∀ i, i < 64 → f i = g i) : mk f = mk g := tb_ext fun i hi => by rw [tb_mk _ hi, tb_mk _ hi, h i hi]
theorem mk_or (f g : Nat → Bool) : mk f ||| mk g = mk (fun i => f i || g i) := tb_ext fun i hi => by rw [tb_or, tb_mk _ hi, tb_mk _ hi, tb_mk _ hi]
theorem mk_and (f g : Nat → Bool) : mk f &&& mk g = mk (fun i => f i && g i) := tb_ext fun i hi => by rw [tb_and, tb_mk _ hi, tb_mk _ hi, tb_mk _ hi]
theorem mk_not (f : Nat → Bool) : mk f ^^^ (-1) = mk (fun i => !f i) := tb_ext fun i hi => by rw [tb_not _ hi, tb_mk _ hi, tb_mk _ hi]
theorem mk_0 : (0 : Int64) = mk (fun _ => false) := tb_ext fun i hi => by rw [tb_mk _ hi, tb_0]
theorem mk_m1 : (-1 : Int64) = mk (fun _ => true) := tb_ext fun i hi => by rw [tb_mk _ hi, tb_m1 i hi]
theorem mk_one {p : Nat} (hp : p < 64) : (1 : Int64) <<< ((nI p).toInt64 &&& 63) = mk (fun i => decide (i = p)) := tb_ext fun i hi => by rw [tb_mk _ hi, tb_bit hp]
theorem mk_eq0 (f : Nat → Bool) : mk f = 0 ↔ ∀ i, i < 64 → f i = false := by
  rw [tb_eq0]
  exact ⟨fun h i hi => by rw [← tb_mk f hi]; exact h i hi, fun h i hi => by rw [tb_mk f hi]; exact h i hi⟩
theorem fill_I {nA : Nat} {arr : Nat → Int32} {v : Int32} (hn : nA < 2147483648) (Q : (Nat → Int32) → Prop) (h : Q (fun k => if k < nA then v else arr k)) : wp_J7_fill_53178 nA arr v Q := by
  unfold wp_J7_fill_53178
  rintro _ rfl
  refine lp_up (W := fun n i => wq_J7_fill_53178_5 nA Q n (fun k => if k < i then v else arr k) v (nI i) (nI nA)) (I := fun _ => True) nA ?_ 0 (Nat.zero_le _) trivial |>.imp (fun n h => ?_)
  · intro n i hi _ ih
    show wf_J7_fill_53178_5 _ _ _ _ _ _ _
    unfold wf_J7_fill_53178_5
    rw [nI_le' hn (by omega)]
    refine ⟨fun q => ?_, fun q => ?_⟩
    · obtain rfl : i = nA := by omega
      exact h
    · rw [vp_in' (by omega), nI_clamp' (by omega)]
      refine ⟨by omega, ?_⟩
      rintro _ rfl _ rfl
      rw [ad_1]
      have ih := ih (by omega) trivial
      refine Eq.mp ?_ ih
      congr 1
      funext k
      rw [upd_at]
      by_cases e : k = i
      · rw [if_pos e, if_pos (by omega)]
      · rw [if_neg e]
        by_cases e2 : k < i
        · rw [if_pos e2, if_pos (by omega)]
        · rw [if_neg e2, if_neg (by omega)]
  · exact h
theorem fill_L {nA : Nat} {arr : Nat → Int64} {v : Int64} (hn : nA < 2147483648) (Q : (Nat → Int64) → Prop) (h : Q (fun k => if k < nA then v else arr k)) : wp_J7_fill_d0a16 nA arr v Q := by
  unfold wp_J7_fill_d0a16
  rintro _ rfl
  refine lp_up (W := fun n i => wq_J7_fill_d0a16_6 nA Q n (fun k => if k < i then v else arr k) v (nI i) (nI nA)) (I := fun _ => True) nA ?_ 0 (Nat.zero_le _) trivial |>.imp (fun n h => ?_)
  · intro n i hi _ ih
    show wf_J7_fill_d0a16_6 _ _ _ _ _ _ _
    unfold wf_J7_fill_d0a16_6
    rw [nI_le' hn (by omega)]
    refine ⟨fun q => ?_, fun q => ?_⟩
    · obtain rfl : i = nA := by omega
      exact h
    · rw [vp_in' (by omega), nI_clamp' (by omega)]
      refine ⟨by omega, ?_⟩
      rintro _ rfl _ rfl
      rw [ad_1]
      have ih := ih (by omega) trivial
      refine Eq.mp ?_ ih
      congr 1
      funext k
      rw [updL_at]
      by_cases e : k = i
      · rw [if_pos e, if_pos (by omega)]
      · rw [if_neg e]
        by_cases e2 : k < i
        · rw [if_pos e2, if_pos (by omega)]
        · rw [if_neg e2, if_neg (by omega)]
  · exact h
