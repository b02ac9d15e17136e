/-! a growing that can be asked whether it is orderly -/
def okk (kd mo : Nat → Nat) (p : Nat) : Prop := kd p = 0 ∨ kd p = 1 ∨ (kd p = 5 ∧ mo p % 16 = 0)
/-- seeds come first -/
def okH2 (kd : Nat → Nat) (made kept : Nat) (aW aP : Nat → Nat) (hs : Nat → Nat → Nat) : Prop := ∀ t, made - kept ≤ t → t < made → (aW t = 0 → kd (aP t) = 1 ∧ grn kd (hs t) = 0) ∧ (aW t = 1 → kd (aP t) ≠ 1)
/-- all came, from a clear sheet -/
def allP (kd : Nat → Nat) (P made : Nat) (aW aP aL : Nat → Nat) (hs : Nat → Nat → Nat) (sI : Nat → Nat → Int32) : Prop :=
  hs 0 = (fun _ => 0) ∧ ∀ t, t < made → aP t < P ∧ aL t < 256 ∧ aW t ≤ 1 ∧ freN kd (aP t) (aL t) (hs t) ∧ hs (t + 1) = layN kd (aP t) (aL t) (hs t) ∧ sI (t + 1) = upS (sI t) (aL t) (nI t)
section
variable {kd mo gl sg : Nat → Nat} {P made kept : Nat} {aW aP aL : Nat → Nat} {aB : (Nat → Int32)} {hs : Nat → Nat → Nat} {sI : Nat → Nat → Int32}
theorem allP_of (h : okH kd P made kept aW aP aL aB hs sI) (e : made = kept) (h0 : hs 0 = (fun _ => 0)) (hw : ∀ t, t < made → aW t ≤ 1) : allP kd P made aW aP aL hs sI := by
  refine ⟨h0, fun t ht => ?_⟩
  obtain ⟨g1, g2, g3, g4⟩ := h.2 t (by omega) ht
  have := hw t ht
  rcases g4 with ⟨q1, q2, q3, q4⟩ | ⟨q1, _⟩
  · exact ⟨g1, g2, this, q2, q3, q4⟩
  · omega
theorem aP_a (h : allP kd P made aW aP aL hs sI) : ∀ t, t ≤ made → ∀ t', t' < t → hs t (aL t') = 1 + 2 * aP t' := by
  intro t
  induction t with
  | zero => intro _ t' ht'; omega
  | succ t ih =>
    intro ht t' ht'
    obtain ⟨g1, g2, g3, g4, g5, g6⟩ := h.2 t (by omega)
    rw [g5, lay_v]
    rcases Nat.lt_or_ge t' t with a | a
    · have i := ih (by omega) t' a
      rw [if_neg, if_neg]
      · exact i
      · intro e
        rw [e, g4.2.1] at i
        omega
      · rintro ⟨k2, e⟩
        rw [e, (g4.2.2 k2).2] at i
        omega
    · obtain rfl : t' = t := by omega
      rw [if_neg (by omega), if_pos rfl]
theorem aP_b (h : allP kd P made aW aP aL hs sI) : ∀ t, t ≤ made → ∀ k, hs t k ≠ 0 → ∃ t', t' < t ∧ (hs t k - 1) / 2 = aP t' ∧ (kd (aP t') ≠ 2 → k = aL t') := by
  intro t
  induction t with
  | zero => intro _ k hk; rw [h.1] at hk; exact absurd rfl hk
  | succ t ih =>
    intro ht k hk
    obtain ⟨g1, g2, g3, g4, g5, g6⟩ := h.2 t (by omega)
    rw [g5, lay_v] at hk ⊢
    by_cases e1 : kd (aP t) = 2 ∧ k = aL t + 1
    · rw [if_pos e1]
      exact ⟨t, by omega, by omega, fun n => absurd e1.1 n⟩
    · rw [if_neg e1] at hk ⊢
      by_cases e2 : k = aL t
      · rw [if_pos e2]
        exact ⟨t, by omega, by omega, fun _ => e2⟩
      · rw [if_neg e2] at hk ⊢
        obtain ⟨t', a, b, c⟩ := ih (by omega) k hk
        exact ⟨t', by omega, b, c⟩
theorem aP_c (h : allP kd P made aW aP aL hs sI) : ∀ t, t ≤ made → ∀ t', t' < t → sI t (aL t') = nI t' := by
  intro t
  induction t with
  | zero => intro _ t' ht'; omega
  | succ t ih =>
    intro ht t' ht'
    obtain ⟨g1, g2, g3, g4, g5, g6⟩ := h.2 t (by omega)
    rw [g6]
    rcases Nat.lt_or_ge t' t with a | a
    · have i := aP_a h t (by omega) t' a
      rw [upS_n, ih (by omega) t' a]
      intro e
      rw [e, g4.2.1] at i
      omega
    · obtain rfl : t' = t := by omega
      rw [upS_s]
theorem aP_d (h : allP kd P made aW aP aL hs sI) {t t' : Nat} (ht : t < made) (ht' : t' < t) : aL t' ≠ aL t := by
  intro e
  obtain ⟨g1, g2, g3, g4, g5, g6⟩ := h.2 t ht
  have i := aP_a h t (by omega) t' ht'
  rw [e, g4.2.1] at i
  omega
/-- the sheet at a time, from the last one -/
theorem aP_e (h : allP kd P made aW aP aL hs sI) (hk : ∀ t, t < made → okk kd mo (aP t)) {t : Nat} (ht : t ≤ made) (k : Nat) : (∃ t', t' < made ∧ k = aL t' ∧ hs made k = 1 + 2 * aP t' ∧ sI made k = nI t' ∧ hs t k = if t' < t then 1 + 2 * aP t' else 0) ∨ (hs made k = 0 ∧ hs t k = 0 ∧ ∀ t', t' < made → k ≠ aL t') := by
  have nb : ∀ t, t < made → kd (aP t) ≠ 2 := by
    intro t ht
    have := hk t ht
    unfold okk at this
    omega
  by_cases hex : ∃ t', t' < made ∧ k = aL t'
  · left
    obtain ⟨t', h1, h2⟩ := hex
    refine ⟨t', h1, h2, by rw [h2]; exact aP_a h made (Nat.le_refl _) t' h1, by rw [h2]; exact aP_c h made (Nat.le_refl _) t' h1, ?_⟩
    by_cases hlt : t' < t
    · rw [if_pos hlt, h2]
      exact aP_a h t ht t' hlt
    · rw [if_neg hlt]
      refine Classical.byContradiction fun hx => ?_
      obtain ⟨t2, a, b, c⟩ := aP_b h t ht k hx
      have e := c (nb t2 (by omega))
      have : t2 < t' := by omega
      exact aP_d h h1 this (by rw [← e, h2])
  · right
    have z : ∀ t, t ≤ made → hs t k = 0 := by
      intro t ht
      refine Classical.byContradiction fun hx => ?_
      obtain ⟨t2, a, b, c⟩ := aP_b h t ht k hx
      exact hex ⟨t2, by omega, c (nb t2 (by omega))⟩
    exact ⟨z made (Nat.le_refl _), z t ht, fun t' h1 h2 => hex ⟨t', h1, h2⟩⟩
end
theorem hQ_0 {kd mo gl sg B : Nat → Nat} {q c d : Nat} (h0 : sg 0 = 0) (hB : B (stp c d) = 0) : hQ kd mo gl sg B q c d = 0 := by
  unfold hQ
  rw [hB, show gQ kd mo gl 0 (opp d) = 0 from rfl]
  split
  · rename_i e; rw [← e, h0]
  · rfl
theorem hS_cut {kd mo gl sg B B' : Nat → Nat} {q c : Nat} {f : Nat → Bool} (h0 : sg 0 = 0) (h : ∀ d, d < 4 → (f d = true → B' (stp c d) = 0) ∧ (f d = false → B' (stp c d) = B (stp c d))) : ∀ n, n ≤ 4 → hS (hQ kd mo gl sg B q c) (mkN f 4) n = hS (hQ kd mo gl sg B' q c) 0 n
  | 0, _ => rfl
  | n + 1, hn => by
    rw [hS_s, hS_s, hS_cut h0 h n (by omega), mkN_bit, Nat.zero_testBit]
    congr 1
    have hn4 : n < 4 := by omega
    obtain ⟨a, b⟩ := h n hn4
    cases hf : f n
    · simp [hn4]
      unfold hQ
      rw [b hf]
    · simp [hn4]
      rw [hQ_0 h0 (a hf)]
theorem hOf_nb {kd mo gl sg B : Nat → Nat} {p c : Nat} (h0 : sg 0 = 0) (hk : kd p ≠ 2) : hOf kd mo gl sg B p c = hS (hQ kd mo gl sg B (1 + 2 * p) c) 0 4 := by
  unfold hOf
  rw [hUp_hS h0, if_neg hk, Nat.add_zero]
theorem or_bit : ∀ d, d < 4 → ∀ m, m < 8 → m < 2 ^ d → nI m ||| ((1 : Int32) <<< (nI d &&& 31)) = nI (m + 2 ^ d) := by decide +kernel
theorem mkN_s (f : Nat → Bool) (n : Nat) : mkN f (n + 1) = mkN f n + (if f n then 2 ^ n else 0) := rfl
/-- which sides came later -/
def ltr (on : Nat → Nat) (since : (Nat → Int32)) (c d : Nat) : Bool := pad on (stp c d) != 0 && decide (¬ since (stp c d) ≤ since c)
theorem sp_laterAround {kd on : Nat → Nat} {P c : Nat} {since : (Nat → Int32)} (hP : P ≤ 40) (hS : okS kd P on) (hc : onC c = true) (Q : Int32 → Prop) (h : Q (nI (mkN (ltr on since c) 4))) : wp_X2_laterAround (fun c => nI (cc (pad on c))) since (nI c) Q := by
  have hb := onC_b hc
  unfold wp_X2_laterAround
  refine lp_up (W := fun f i => wq_X2_laterAround_4 (fun c => nI (cc (pad on c))) since Q f (nI c) (nI (mkN (ltr on since c) i)) (nI i)) (I := fun _ => True) 4 ?_ 0 (by decide) trivial
  intro f i hi _ ih
  show wf_X2_laterAround_4 _ _ _ _ _ _ _
  unfold wf_X2_laterAround_4
  rw [le_4 (by omega)]
  refine ⟨fun q => ?_, fun q => ?_⟩
  · obtain rfl : i = 4 := by omega
    exact h
  · have hi4 : i < 4 := by omega
    have ih := ih hi4 trivial
    have hst := stp_lt (d := i) (show c ≤ 305 by omega)
    have hlt := mkN_lt (ltr on since c) i
    have h8 : 2 ^ i ≤ 2 ^ 3 := Nat.pow_le_pow_right (by decide) (by omega)
    rw [mkN_s (ltr on since c) i] at ih
    rw [vp_in' (by omega), nI_clamp' (by omega)]
    refine ⟨hi4, ?_⟩
    rintro _ rfl
    rw [stp_I (by omega) hi4]
    rintro _ rfl
    apply sp_cIsFree hP (okS_pad hS) hst
    rw [bI_0, vp_in' (by omega), nI_clamp' (by omega), vp_in' (by omega), nI_clamp' (by omega)]
    refine ⟨fun a => ?_, fun a => ⟨hst, ?_⟩⟩
    · rintro _ rfl
      have : ltr on since c i = false := by
        unfold ltr
        rw [Bool.not_eq_false] at a
        have : pad on (stp c i) = 0 := by simpa using a
        rw [this]
        rfl
      rw [this, if_neg (by decide), Nat.add_zero] at ih
      rw [ad_1]
      exact ih
    · have hne : (pad on (stp c i) != 0) = true := by simpa using a
      rintro _ rfl
      refine ⟨by omega, ?_⟩
      rintro _ rfl
      refine ⟨fun b => ?_, fun b => ?_⟩
      · rintro _ rfl
        have : ltr on since c i = false := by
          unfold ltr
          simp [b]
        rw [this, if_neg (by decide), Nat.add_zero] at ih
        rw [ad_1]
        exact ih
      · rintro _ rfl _ rfl
        have : ltr on since c i = true := by
          unfold ltr
          rw [hne]
          simp [b]
        rw [this, if_pos rfl] at ih
        rw [or_bit i hi4 _ (by omega) hlt, ad_1]
        exact ih
def otp (kd mo gl sg on : Nat → Nat) (since : (Nat → Int32)) (q c d : Nat) : Bool := ltr on since c d && decide (0 < hQ kd mo gl sg (pad on) q c d)
theorem sp_outputsOf {kd mo gl sg on : Nat → Nat} {P q c : Nat} {since : (Nat → Int32)} (hT : okT kd mo gl sg) (hP : P ≤ 40) (hS : okS kd P on) (hq : okQ kd P q) (hc : onC c = true) (Q : Int32 → Prop) (h : Q (nI (mkN (otp kd mo gl sg on since q c) 4))) : wp_X2_outputsOf (fun k => nI (sg k)) (fun k => nI (fcF kd mo gl P k)) (fun c => nI (cc (pad on c))) since (nI (cc q)) (nI c) Q := by
  have hb := onC_b hc
  unfold wp_X2_outputsOf
  apply sp_laterAround hP hS hc
  refine lp_up (W := fun f i => wq_X2_outputsOf_12 (fun k => nI (sg k)) (fun k => nI (fcF kd mo gl P k)) (fun c => nI (cc (pad on c))) since Q f (nI (cc q)) (nI c) (nI (mkN (ltr on since c) 4)) (nI (mkN (otp kd mo gl sg on since q c) i)) (nI i)) (I := fun _ => True) 4 ?_ 0 (by decide) trivial
  intro f i hi _ ih
  show wf_X2_outputsOf_12 _ _ _ _ _ _ _ _ _ _ _
  unfold wf_X2_outputsOf_12
  rw [le_4 (by omega)]
  refine ⟨fun q => ?_, fun q1 => ?_⟩
  · obtain rfl : i = 4 := by omega
    exact h
  · have hi4 : i < 4 := by omega
    have ih := ih hi4 trivial
    have hlt := mkN_lt (otp kd mo gl sg on since q c) i
    have h8 : 2 ^ i ≤ 2 ^ 3 := Nat.pow_le_pow_right (by decide) (by omega)
    have hm := mkN_lt (ltr on since c) 4
    rw [mkN_s (otp kd mo gl sg on since q c) i] at ih
    apply sp_bitOf _ (by omega)
    rw [bt_nI (by omega), mkN_bit, bI_1, show decide (i < 4) = true from decide_eq_true hi4, Bool.true_and]
    refine ⟨fun a => ?_, fun a => ?_⟩
    · rintro _ rfl
      have : otp kd mo gl sg on since q c i = false := by
        unfold otp
        rw [ts_nt a]
        rfl
      rw [this, if_neg (by decide), Nat.add_zero] at ih
      rw [ad_1]
      exact ih
    · apply sp_strengthAt hT hP hq (okS_pad hS) (by omega) (by omega) hi4
      have h3 := hQ_le hT (pad on) q c i
      rw [ge_0 (by omega)]
      refine ⟨fun b => ?_, fun b => ?_⟩
      · rintro _ rfl
        have : otp kd mo gl sg on since q c i = false := by
          unfold otp
          rw [show decide (0 < hQ kd mo gl sg (pad on) q c i) = false by simp; omega, Bool.and_false]
        rw [this, if_neg (by decide), Nat.add_zero] at ih
        rw [ad_1]
        exact ih
      · rintro _ rfl _ rfl
        have : otp kd mo gl sg on since q c i = true := by
          unfold otp
          rw [a, show decide (0 < hQ kd mo gl sg (pad on) q c i) = true by simp; omega]
          rfl
        rw [this, if_pos rfl] at ih
        rw [or_bit i hi4 _ (by omega) hlt, ad_1]
        exact ih
theorem sp_numberOf {k : Nat} (h : k < 256) (Q : Int32 → Prop) (hQ : Q (nI k)) : wp_X2_numberOf (nI (celK k)) Q := by
  have hb := celK_b h
  have hb2 := onC_b (celK_on h)
  unfold wp_X2_numberOf
  apply sp_columnOf (by omega) (by omega)
  apply sp_lineOf (by omega) (by omega)
  rw [mu_16, nI_add, show celK k % 18 - 1 + 16 * (celK k / 18 - 1) = k from onI_celK h]
  exact hQ
theorem sp_okk {kd mo : Nat → Nat} {P p : Nat} (hk5 : ∀ p, kd p ≤ 5) (hP : P ≤ 40) (hp : p < P) (Q : Int32 → Prop) (h1 : okk kd mo p → Q 1) (h0 : ¬ okk kd mo p → Q 0) : wp_X2_isOfOrderlyKind (fun k => nI (kd k)) (fun k => nI (baF kd mo P k)) (nI p) Q := by
  have := hk5 p
  have hbl := baF_le (kd := kd) (mo := mo) P (1 + p)
  unfold wp_X2_isOfOrderlyKind
  rw [vp_in' (by omega), nI_clamp' (by omega)]
  refine ⟨by omega, ?_⟩
  rintro _ rfl
  rw [eq_0 (by omega), eq_1 (by omega), eq_5 (by omega), da_1, vp_in' (by omega), nI_clamp' (by omega)]
  unfold okk at h1 h0
  refine ⟨fun a => h1 (Or.inl a), fun a => ⟨fun b => h1 (Or.inr (Or.inl b)), fun b => ⟨fun c => h0 (by omega), fun c => ⟨by omega, ?_⟩⟩⟩⟩
  rintro _ rfl
  have eb : baF kd mo P (1 + p) = mo p % 16 := by
    unfold baF
    rw [show 1 + p - 1 = p by omega, if_pos ⟨by omega, by omega, Or.inr c⟩]
  dsimp only
  rw [eb, eq_0 (by omega)]
  exact ⟨fun d => h0 (by omega), fun d => h1 (Or.inr (Or.inr ⟨c, d⟩))⟩
/-- can it be asked -/
def aOK (kd mo : Nat → Nat) (made kept : Nat) (aW aP : Nat → Nat) (fc : Bool) : Prop := fc = true ∧ made = kept ∧ ∀ t, t < made → aW t ≤ 1 ∧ okk kd mo (aP t)
theorem sp_canAsk {kd mo : Nat → Nat} {P made kept : Nat} {aW aP aL : Nat → Nat} {aB : (Nat → Int32)} {fc : Bool} {A Pc L Bf : (Nat → Int32)} (hk5 : ∀ p, kd p ≤ 5) (hP : P ≤ 40) (hk : kept ≤ 200) (hkm : kept ≤ made) (hm : made < 1000000) (h6 : okT1 made kept aW aP aL aB A Pc L Bf) (hap : ∀ t, made - kept ≤ t → t < made → aP t < P ∧ aW t ≤ 3) (Q : Int32 → Prop)
    (h1 : aOK kd mo made kept aW aP fc → Q 1) (h0 : ¬ aOK kd mo made kept aW aP fc → Q 0) : wp_X2_canBeAsked (fun k => nI (kd k)) (fun k => nI (baF kd mo P k)) (nI made) (nI kept) (bI fc) A Pc Q := by
  unfold wp_X2_canBeAsked wp_X5_areAllKept
  rw [bI_0, nI_eq' (by omega) (by omega)]
  refine ⟨fun a => h0 (fun z => by rw [z.1] at a; exact absurd a (by decide)), fun a => ⟨fun b => ⟨fun e => absurd rfl e, fun _ => h0 (fun z => b z.2.1)⟩, fun b => ⟨fun _ => ?_, fun e => absurd e (by decide)⟩⟩⟩
  rw [Bool.not_eq_false] at a
  subst b
  refine lp_up (W := fun f i => wq_X2_canBeAsked_24 (fun k => nI (kd k)) (fun k => nI (baF kd mo P k)) (nI made) (nI made) (bI fc) A Pc Q f (nI i)) (I := fun i => ∀ t, t < i → aW t ≤ 1 ∧ okk kd mo (aP t)) made ?_ 0 (Nat.zero_le _) (fun t ht => absurd ht (by omega))
  intro f i hi hI ih
  show wf_X2_canBeAsked_24 _ _ _ _ _ _ _ _ _ _
  unfold wf_X2_canBeAsked_24
  rw [nI_le' (by omega) (by omega)]
  refine ⟨fun q => ?_, fun q => ?_⟩
  · obtain rfl : i = made := by omega
    exact h1 ⟨a, rfl, hI⟩
  · obtain ⟨g1, g2, g3, g4⟩ := h6 i (by omega) (by omega)
    obtain ⟨p1, p2⟩ := hap i (by omega) (by omega)
    have e200 : i % 200 = i := by omega
    rw [e200] at g1 g2
    have hact := actC_le p2
    have fin : aW i ≤ 1 → wq_X2_canBeAsked_60 (fun k => nI (kd k)) (fun k => nI (baF kd mo P k)) (nI made) (nI made) (bI fc) A Pc (wq_X2_canBeAsked_24 (fun k => nI (kd k)) (fun k => nI (baF kd mo P k)) (nI made) (nI made) (bI fc) A Pc Q f) Q (nI i) := by
      intro hw
      unfold wq_X2_canBeAsked_60
      rw [vp_in' (by omega), nI_clamp' (by omega), g2]
      refine ⟨by omega, ?_⟩
      rintro _ rfl
      refine sp_okk hk5 hP p1 _ (fun ok => ⟨fun _ => ?_, fun e => absurd e (by decide)⟩) (fun no => ⟨fun e => absurd rfl e, fun _ => h0 (fun z => no (z.2.2 i (by omega)).2)⟩)
      rintro _ rfl
      rw [ad_1]
      refine ih (by omega) (fun t ht => ?_)
      rcases Nat.lt_or_ge t i with x | x
      · exact hI t x
      · obtain rfl : t = i := by omega
        exact ⟨hw, ok⟩
    rw [vp_in' (by omega), nI_clamp' (by omega), g1]
    refine ⟨by omega, ?_⟩
    rintro _ rfl
    rw [eq_0 (by omega)]
    refine ⟨fun b => fin ?_, fun b => ⟨by omega, ?_⟩⟩
    · unfold actC at b
      repeat' split at b
      all_goals omega
    · rintro _ rfl
      rw [eq_1 (by omega)]
      refine ⟨fun c => h0 (fun z => ?_), fun c => fin ?_⟩
      · have := (z.2.2 i (by omega)).1
        unfold actC at b c
        rw [if_neg (by omega), if_neg (by omega)] at b c
        omega
      · unfold actC at c
        repeat' split at c
        all_goals omega
