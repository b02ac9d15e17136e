/-! the class's tables and cells as functions of the pieces, the glues and the sheet -/
def cc (q : Nat) : Nat := if q = 0 then 0 else if q % 2 = 1 then 1 + (q - 1) / 2 else 65 + (q - 1) / 2
def gQ (kd mo gl : Nat → Nat) (q d : Nat) : Nat := if q = 0 then 0 else gOf kd mo gl ((q - 1) / 2) ((q - 1) % 2) d
def okQ (kd : Nat → Nat) (P q : Nat) : Prop := q ≤ 2 * P ∧ (q ≠ 0 → q % 2 = 0 → kd ((q - 1) / 2) = 2)
def fcF (kd mo gl : Nat → Nat) (P k : Nat) : Nat :=
  if 1 ≤ k / 4 ∧ k / 4 ≤ P then gOf kd mo gl (k / 4 - 1) 0 (k % 4) else if 65 ≤ k / 4 ∧ k / 4 < 65 + P ∧ kd (k / 4 - 65) = 2 then gOf kd mo gl (k / 4 - 65) 1 (k % 4) else 0
def baF (kd mo : Nat → Nat) (P c : Nat) : Nat := if 1 ≤ c ∧ c ≤ P ∧ (kd (c - 1) = 4 ∨ kd (c - 1) = 5) then mo (c - 1) % 16 else 0
def shB (kd mo gl : Nat → Nat) (P k p : Nat) : Bool := decide (p < P ∧ k < 204 ∧ k % 51 ≠ 0 ∧ gOf kd mo gl p 0 (k / 51) = k % 51)
def srB (kd mo gl : Nat → Nat) (P k p : Nat) : Bool := decide (p < P ∧ k < 204 ∧ k % 51 ≠ 0 ∧ kd p = 2 ∧ gOf kd mo gl p 1 (k / 51) = k % 51)
def brB (kd mo : Nat → Nat) (P d p : Nat) : Bool := decide (p < P ∧ d < 4) && brd kd mo p d
def shF (kd mo gl : Nat → Nat) (P k : Nat) : Int64 := mk (shB kd mo gl P k)
def srF (kd mo gl : Nat → Nat) (P k : Nat) : Int64 := mk (srB kd mo gl P k)
def brF (kd mo : Nat → Nat) (P d : Nat) : Int64 := mk (brB kd mo P d)
def seF (kd : Nat → Nat) (P : Nat) : Int64 := mk (fun p => decide (p < P ∧ kd p = 1))
def blF (kd : Nat → Nat) (P : Nat) : Int64 := mk (fun p => decide (p < P ∧ kd p = 2))
def rvF (kd : Nat → Nat) (P : Nat) : Int64 := mk (fun p => decide (p < P ∧ kd p ≠ 1 ∧ kd p ≠ 2 ∧ kd p ≠ 4))
def mrF (kd mo : Nat → Nat) (p : Nat) : Nat := if kd p = 5 then mo p / 16 else 0
theorem cc_le {P q : Nat} (hP : P ≤ 40) (h : q ≤ 2 * P) : cc q ≤ 104 := by
  unfold cc
  repeat' split
  all_goals omega
theorem cc_0 (q : Nat) : cc q = 0 ↔ q = 0 := by
  unfold cc
  repeat' split
  all_goals omega
theorem cc_odd (p : Nat) : cc (1 + 2 * p) = 1 + p := by
  unfold cc
  rw [if_neg (by omega), if_pos (by omega)]
  omega
theorem cc_even (p : Nat) : cc (2 + 2 * p) = 65 + p := by
  unfold cc
  rw [if_neg (by omega), if_neg (by omega)]
  omega
theorem gQ_le {kd mo gl sg : Nat → Nat} (h : okT kd mo gl sg) (q d : Nat) : gQ kd mo gl q d ≤ 50 := by
  unfold gQ
  split
  · omega
  · exact gOf_le h _ _ _
theorem fcF_cc {kd mo gl : Nat → Nat} {P q d : Nat} (hP : P ≤ 40) (hq : okQ kd P q) (hd : d < 4) : fcF kd mo gl P (4 * cc q + d) = gQ kd mo gl q d := by
  obtain ⟨h1, h2⟩ := hq
  have e1 : (4 * cc q + d) / 4 = cc q := by omega
  have e2 : (4 * cc q + d) % 4 = d := by omega
  unfold fcF
  rw [e1, e2]
  unfold gQ
  by_cases h0 : q = 0
  · subst h0
    have e : cc 0 = 0 := rfl
    rw [e, if_neg (by omega), if_neg (by omega), if_pos rfl]
  · rw [if_neg h0]
    by_cases ho : q % 2 = 1
    · have e : cc q = 1 + (q - 1) / 2 := by unfold cc; rw [if_neg h0, if_pos ho]
      rw [e, if_pos (by omega), show 1 + (q - 1) / 2 - 1 = (q - 1) / 2 by omega, show (q - 1) % 2 = 0 by omega]
    · have e : cc q = 65 + (q - 1) / 2 := by unfold cc; rw [if_neg h0, if_neg ho]
      have hk := h2 h0 (by omega)
      rw [e, if_neg (by omega), show 65 + (q - 1) / 2 - 65 = (q - 1) / 2 by omega, if_pos ⟨by omega, by omega, hk⟩, show (q - 1) % 2 = 1 by omega]
theorem fcF_le {kd mo gl sg : Nat → Nat} (h : okT kd mo gl sg) (P k : Nat) : fcF kd mo gl P k ≤ 50 := by
  unfold fcF
  repeat' split
  all_goals first | omega | exact gOf_le h _ _ _
/-- what holds a code at a cell, on a side -/
def hQ (kd mo gl sg B : Nat → Nat) (q c d : Nat) : Nat := if gQ kd mo gl (B (stp c d)) (opp d) = gQ kd mo gl q d then sg (gQ kd mo gl q d) else 0
theorem hQ_hAt {kd mo gl sg : Nat → Nat} (h0 : sg 0 = 0) (B : Nat → Nat) (p h c d : Nat) (hh : h < 2) : hQ kd mo gl sg B (1 + 2 * p + h) c d = hAt kd mo gl sg B p h c d := by
  have e : ∀ d, gQ kd mo gl (1 + 2 * p + h) d = gOf kd mo gl p h d := by
    intro d
    unfold gQ
    rw [if_neg (by omega), show (1 + 2 * p + h - 1) / 2 = p by omega, show (1 + 2 * p + h - 1) % 2 = h by omega]
  unfold hQ hAt
  rw [e]
  generalize gOf kd mo gl p h d = g
  by_cases hB : B (stp c d) = 0
  · rw [if_pos hB, hB]
    have e0 : gQ kd mo gl 0 (opp d) = 0 := rfl
    rw [e0]
    split
    · rename_i hg; rw [← hg, h0]
    · rfl
  · rw [if_neg hB]
    have e1 : gQ kd mo gl (B (stp c d)) (opp d) = gOf kd mo gl ((B (stp c d) - 1) / 2) ((B (stp c d) - 1) % 2) (opp d) := by
      unfold gQ
      rw [if_neg hB]
    rw [e1]
    by_cases hg : g = 0
    · subst hg
      rw [if_pos rfl, h0]
      split <;> rfl
    · rw [if_neg hg]
      by_cases he : g = gOf kd mo gl ((B (stp c d) - 1) / 2) ((B (stp c d) - 1) % 2) (opp d)
      · rw [if_pos he, if_pos he.symm]
      · rw [if_neg he, if_neg (fun q => he q.symm)]
theorem hQ_le {kd mo gl sg : Nat → Nat} (h : okT kd mo gl sg) (B : Nat → Nat) (q c d : Nat) : hQ kd mo gl sg B q c d ≤ 3 := by
  unfold hQ
  split
  · exact h.2.2.2.2.1 _
  · omega
/-- a step to a side of a cell -/
theorem stp_I {c d : Nat} (hc : 18 ≤ c) (hd : d < 4) : nI c + st_STEP d = nI (stp c d) := by
  obtain rfl | rfl | rfl | rfl : d = 0 ∨ d = 1 ∨ d = 2 ∨ d = 3 := by omega
  · show nI c + (-18) = nI (c - 18)
    obtain ⟨k, rfl⟩ : ∃ k, c = k + 18 := ⟨c - 18, by omega⟩
    rw [← nI_add, Nat.add_sub_cancel]
    show nI k + 18 + -18 = nI k
    rw [Int32.add_assoc]
    exact Int32.add_zero _
  · exact nI_add c 1
  · exact nI_add c 18
  · show nI c + (-1) = nI (c - 1)
    exact nI_m1 (by omega)
theorem stp_lt {c d : Nat} (hc : c ≤ 305) : stp c d < 324 := by
  unfold stp
  repeat' split
  all_goals omega
theorem opp_I {d : Nat} (hd : d < 4) : nI d ^^^ (2 : Int32) = nI (opp d) := by
  obtain rfl | rfl | rfl | rfl : d = 0 ∨ d = 1 ∨ d = 2 ∨ d = 3 := by omega
  all_goals decide
theorem opp_lt (d : Nat) : opp d < 4 := by unfold opp; omega
theorem bit_I (x : Int32) {d : Nat} (hd : d < 32) : ((x.toUInt32 >>> ((nI d).toUInt32 &&& Int32.toUInt32 31)).toInt32 &&& (1 : Int32)) = bI (bt x d) := by
  apply b_ext
  intro i hi
  rw [b_and, b_ushr d hd]
  have h1 : ∀ i, i < 32 → bt 1 i = decide (i = 0) := by decide +kernel
  rw [h1 i hi]
  by_cases h0 : i = 0
  · subst h0
    cases hx : bt x d
    · simp [hx, bI, b_0]
    · have h2 : bt 1 0 = true := rfl
      simp [hx, bI, h2]
  · cases hx : bt x d
    · simp [h0, bI, b_0]
    · simp [h0, bI, h1 i hi]
theorem sp_bitOf (x : Int32) {d : Nat} (hd : d < 32) (Q : Int32 → Prop) (h : Q (bI (bt x d))) : wp_X7_bitOf x (nI d) Q := by
  unfold wp_X7_bitOf
  rw [bit_I x hd]
  exact h
theorem bt_nI {m : Nat} (hm : m < 4294967296) (d : Nat) : bt (nI m) d = m.testBit d := by rw [bt_n, pk_tn hm]
theorem vp_st {d : Nat} (hd : d < 4) : vp_in (nI d) 4 = True := by rw [vp_in' (by omega)]; simp [hd]
theorem sp_strengthAt {kd mo gl sg B : Nat → Nat} {P q c d : Nat} (hT : okT kd mo gl sg) (hP : P ≤ 40) (hq : okQ kd P q) (hB : ∀ c, okQ kd P (B c)) (hc : 18 ≤ c) (hc2 : c ≤ 305) (hd : d < 4) (Q : Int32 → Prop) (h : Q (nI (hQ kd mo gl sg B q c d))) :
    wp_X4_strengthAt (fun k => nI (sg k)) (fun k => nI (fcF kd mo gl P k)) (fun c => nI (cc (B c))) (nI (cc q)) (nI c) (nI d) Q := by
  have hcq := cc_le hP hq.1
  have hs := stp_lt (d := d) hc2
  have hcb := cc_le hP (hB (stp c d)).1
  have ho := opp_lt d
  have hg := gQ_le hT q d
  have hg2 := gQ_le hT (B (stp c d)) (opp d)
  unfold wp_X4_strengthAt
  dsimp only
  rw [mu_4, nI_add, vp_in' (by omega), nI_clamp' (by omega), fcF_cc hP hq hd]
  refine ⟨by omega, ?_⟩
  rintro _ rfl
  rw [vp_in' (by omega), nI_clamp' (by omega)]
  refine ⟨hd, ?_⟩
  rintro _ rfl
  rw [stp_I hc hd, vp_in' (by omega), nI_clamp' (by omega)]
  refine ⟨hs, ?_⟩
  rintro _ rfl
  rw [opp_I hd, mu_4, nI_add, vp_in' (by omega), nI_clamp' (by omega), fcF_cc hP (hB _) ho]
  refine ⟨by omega, ?_⟩
  rintro _ rfl
  rw [nI_eq' (by omega) (by omega), vp_in' (by omega), nI_clamp' (by omega)]
  unfold hQ at h
  refine ⟨fun hn => ?_, fun he => ⟨by omega, ?_⟩⟩
  · rw [if_neg hn] at h
    exact h
  · rintro _ rfl
    rw [if_pos he] at h
    exact h
/-- the sum over the sides below n that aren't passed over -/
def hS (f : Nat → Nat) (m : Nat) : Nat → Nat
  | 0 => 0
  | n + 1 => hS f m n + (if m.testBit n then 0 else f n)
theorem hS_le {f : Nat → Nat} {m : Nat} (h : ∀ d, f d ≤ 3) : ∀ n, hS f m n ≤ 3 * n
  | 0 => Nat.le_refl _
  | n + 1 => by
    have a := hS_le (f := f) (m := m) h n
    have b := h n
    unfold hS
    split <;> omega
theorem sp_holdOfCode {kd mo gl sg B : Nat → Nat} {P q c m : Nat} (hT : okT kd mo gl sg) (hP : P ≤ 40) (hq : okQ kd P q) (hB : ∀ c, okQ kd P (B c)) (hc : 18 ≤ c) (hc2 : c ≤ 305) (hm : m < 16) (Q : Int32 → Prop) (h : Q (nI (hS (hQ kd mo gl sg B q c) m 4))) :
    wp_X4_holdOfCode (fun k => nI (sg k)) (fun k => nI (fcF kd mo gl P k)) (fun c => nI (cc (B c))) (nI (cc q)) (nI c) (nI m) Q := by
  unfold wp_X4_holdOfCode
  refine lp_up (W := fun n i => wq_X4_holdOfCode_6 (fun k => nI (sg k)) (fun k => nI (fcF kd mo gl P k)) (fun c => nI (cc (B c))) Q n (nI (cc q)) (nI c) (nI m) (nI (hS (hQ kd mo gl sg B q c) m i)) (nI i)) (I := fun _ => True) 4 ?_ 0 (by omega) trivial
  intro n i hi _ ih
  show wf_X4_holdOfCode_6 _ _ _ _ _ _ _ _ _ _
  unfold wf_X4_holdOfCode_6
  rw [le_4 (by omega)]
  refine ⟨fun h4 => ?_, fun h4 => ?_⟩
  · obtain rfl : i = 4 := by omega
    exact h
  · have ih := ih (by omega) trivial
    unfold hS at ih
    apply sp_bitOf _ (by omega)
    rw [bt_nI (by omega), bI_0]
    refine ⟨fun hb => ?_, fun hb => ?_⟩
    · rw [Bool.not_eq_false] at hb
      rintro _ rfl
      rw [hb, if_pos rfl, Nat.add_zero] at ih
      rw [ad_1]
      exact ih
    · apply sp_strengthAt hT hP hq hB hc hc2 (by omega)
      rintro _ rfl _ rfl
      rw [hb, if_neg (by decide)] at ih
      rw [nI_add, ad_1]
      exact ih
theorem hUp_hS {kd mo gl sg : Nat → Nat} (h0 : sg 0 = 0) (B : Nat → Nat) (p c : Nat) : ∀ n, hUp kd mo gl sg B p c n = hS (hQ kd mo gl sg B (1 + 2 * p) c) 0 n + (if kd p = 2 then hS (hQ kd mo gl sg B (2 + 2 * p) (c + 1)) 0 n else 0)
  | 0 => by simp [hUp, hS]
  | n + 1 => by
    have ih := hUp_hS (kd := kd) (mo := mo) (gl := gl) (sg := sg) h0 B p c n
    have a1 := hQ_hAt (kd := kd) (mo := mo) (gl := gl) (sg := sg) h0 B p 0 c n (by decide)
    have a2 := hQ_hAt (kd := kd) (mo := mo) (gl := gl) (sg := sg) h0 B p 1 (c + 1) n (by decide)
    rw [Nat.add_zero] at a1
    rw [show 1 + 2 * p + 1 = 2 + 2 * p by omega] at a2
    unfold hUp hS
    rw [ih, a1, a2, Nat.zero_testBit]
    simp only [Bool.false_eq_true, if_false]
    split <;> omega
theorem okQ_odd {kd : Nat → Nat} {P p : Nat} (hp : p < P) : okQ kd P (1 + 2 * p) := ⟨by omega, fun _ h => absurd h (by omega)⟩
theorem okQ_even {kd : Nat → Nat} {P p : Nat} (hp : p < P) (hk : kd p = 2) : okQ kd P (2 + 2 * p) := ⟨by omega, fun _ _ => by rw [show (2 + 2 * p - 1) / 2 = p by omega]; exact hk⟩
theorem sp_cHoldOf {kd mo gl sg B : Nat → Nat} {P p c : Nat} (hT : okT kd mo gl sg) (hP : P ≤ 40) (hp : p < P) (hB : ∀ c, okQ kd P (B c)) (hc : 18 ≤ c) (hc2 : c ≤ 304) (Q : Int32 → Prop) (h : Q (nI (hOf kd mo gl sg B p c))) :
    wp_X4_holdOf (fun k => nI (sg k)) (fun k => nI (kd k)) (fun k => nI (fcF kd mo gl P k)) (fun c => nI (cc (B c))) (nI p) (nI c) Q := by
  have hk := hT.1 p
  unfold wp_X4_holdOf
  unfold hOf at h
  rw [hUp_hS hT.2.2.2.2.2] at h
  have e1 : (1 : Int32) + nI p = nI (cc (1 + 2 * p)) := by rw [cc_odd, da_1]
  have e2 : ((1 : Int32) + nI p) + (64 : Int32) = nI (cc (2 + 2 * p)) := by rw [cc_even, da_1, ad_64]; congr 1; omega
  rw [e2, e1]
  refine sp_holdOfCode (m := 0) hT hP (okQ_odd hp) hB hc (by omega) (by decide) _ ?_
  rw [vp_in' (by omega), nI_clamp' (by omega)]
  refine ⟨by omega, ?_⟩
  rintro _ rfl
  rw [eq_2 (by omega)]
  refine ⟨fun hk2 => ?_, fun hk2 => ?_⟩
  · rw [if_neg hk2, Nat.add_zero] at h
    exact h
  · rw [if_pos hk2] at h
    rw [ad_1]
    refine sp_holdOfCode (m := 0) hT hP (okQ_even hp hk2) hB (by omega) (by omega) (by decide) _ ?_
    rintro _ rfl
    rw [nI_add]
    exact h
