/-! the class's answer to orderly -/
theorem stp_ne {c d : Nat} (hc : 18 ≤ c) : stp c d ≠ c := by
  unfold stp
  repeat' split
  all_goals omega
theorem nI_lei {a b : Nat} (ha : a < 2147483648) (hb : b < 2147483648) : (nI a ≤ nI b) ↔ (a ≤ b) := nI_leI ha hb
section
variable {kd mo gl sg : Nat → Nat} {P made w : Nat} {aW aP aL : Nat → Nat} {hs : Nat → Nat → Nat} {sI : Nat → Nat → Int32} {since : (Nat → Int32)}
theorem ltr_t (h : allP kd P made aW aP aL hs sI) (hk : ∀ t, t < made → okk kd mo (aP t)) (hm : made ≤ 200) (hsi : ∀ k, k < 256 → hs made k % 2 = 1 → since (celK k) = sI made k) {t d : Nat} (ht : t < made) :
    (ltr (hs made) since (celK (aL t)) d = true → pad (hs t) (stp (celK (aL t)) d) = 0 ∧ ∃ t', t < t' ∧ t' < made ∧ stp (celK (aL t)) d = celK (aL t') ∧ hs made (aL t') = 1 + 2 * aP t') ∧ (ltr (hs made) since (celK (aL t)) d = false → pad (hs t) (stp (celK (aL t)) d) = pad (hs made) (stp (celK (aL t)) d)) := by
  obtain ⟨g1, g2, g3, g4, g5, g6⟩ := h.2 t ht
  have hb := celK_b g2
  have sc : since (celK (aL t)) = nI t := by
    rw [hsi _ g2 (by rw [aP_a h made (Nat.le_refl _) t ht]; omega)]
    exact aP_c h made (Nat.le_refl _) t ht
  cases ho : onC (stp (celK (aL t)) d) with
  | false =>
    unfold ltr
    rw [pad_off ho, pad_off ho]
    exact ⟨fun e => absurd e (by rw [show ((0 : Nat) != 0) = false from rfl, Bool.false_and]; decide), fun _ => rfl⟩
  | true =>
    obtain ⟨e1, e2⟩ := celK_onI ho
    generalize hk' : onI (stp (celK (aL t)) d) = k at e1 e2
    have hne : k ≠ aL t := by
      intro e
      rw [e] at e1
      exact stp_ne (by omega) e1.symm
    unfold ltr
    rw [← e1, pad_K e2, pad_K e2]
    rcases aP_e h hk (show t ≤ made by omega) k with ⟨t', a1, a2, a3, a4, a5⟩ | ⟨a1, a2, a3⟩
    · have st : since (celK k) = nI t' := by rw [hsi _ e2 (by omega), a4]
      have htt : t' ≠ t := by
        intro e
        rw [e] at a2
        exact hne a2
      rw [st, sc, a3, a5]
      refine ⟨fun e => ?_, fun e => ?_⟩
      · have : ¬ nI t' ≤ nI t := by
          rw [Bool.and_eq_true] at e
          exact of_decide_eq_true e.2
        rw [nI_lei (by omega) (by omega)] at this
        refine ⟨if_neg (by omega), t', by omega, a1, by rw [a2], by rw [← a2]; exact a3⟩
      · have : nI t' ≤ nI t := by
          refine Classical.byContradiction fun z => ?_
          rw [show decide (¬ nI t' ≤ nI t) = true from decide_eq_true z] at e
          revert e
          rw [Bool.and_true, bne_eq_false_iff_eq]
          intro e
          omega
        rw [nI_lei (by omega) (by omega)] at this
        exact if_pos (by omega)
    · rw [a1, a2]
      exact ⟨fun e => absurd e (by simp), fun _ => rfl⟩
/-- it was held just enough when it came -/
def jst (kd mo gl sg : Nat → Nat) (w : Nat) (aP aL : Nat → Nat) (hs : Nat → Nat → Nat) (t : Nat) : Prop := hOf kd mo gl sg (pad (hs t)) (aP t) (celK (aL t)) = w
theorem jst_s (hT : okT kd mo gl sg) (h : allP kd P made aW aP aL hs sI) (hk : ∀ t, t < made → okk kd mo (aP t)) (hm : made ≤ 200) (hsi : ∀ k, k < 256 → hs made k % 2 = 1 → since (celK k) = sI made k) {t : Nat} (ht : t < made) :
    hS (hQ kd mo gl sg (pad (hs made)) (1 + 2 * aP t) (celK (aL t))) (mkN (ltr (hs made) since (celK (aL t))) 4) 4 = hOf kd mo gl sg (pad (hs t)) (aP t) (celK (aL t)) := by
  have nb : kd (aP t) ≠ 2 := by
    have := hk t ht
    unfold okk at this
    omega
  rw [hOf_nb hT.2.2.2.2.2 nb]
  exact hS_cut hT.2.2.2.2.2 (fun d hd => ⟨fun e => ((ltr_t h hk hm hsi ht).1 e).1, fun e => (ltr_t h hk hm hsi ht).2 e⟩) 4 (Nat.le_refl _)
/-- another piece would be held there too -/
def rvl (kd mo gl sg : Nat → Nat) (P w : Nat) (on : Nat → Nat) (since : (Nat → Int32)) (p c : Nat) : Prop := ∃ q, q < P ∧ q ≠ p ∧ kd q ≠ 1 ∧ kd q ≠ 2 ∧ kd q ≠ 4 ∧ w ≤ hS (hQ kd mo gl sg (pad on) (1 + 2 * q) c) (mkN (otp kd mo gl sg on since (1 + 2 * p) c) 4) 4
end
theorem sp_heldAt {kd mo gl sg B : Nat → Nat} {P w c m : Nat} (hT : okT kd mo gl sg) (hP : P ≤ 40) (h1 : 1 ≤ w) (h3 : w ≤ 3) (hB : ∀ c, okQ kd P (B c)) (hc : 18 ≤ c) (hc2 : c ≤ 305) (hm : m < 16) (a1 a2 a3 : Int64) (Q : Int64 → Int64 → Int64 → Int64 → Prop)
    (h : ∀ b1 b2 b3, Q (mk (fun p => decide (p < P) && decide (w ≤ hS (hQ kd mo gl sg B (1 + 2 * p) c) m 4))) b1 b2 b3) : wp_X4_heldAt (nI w) (fun k => nI (sg k)) (fun k => nI (fcF kd mo gl P k)) (fun k => shF kd mo gl P k) (fun c => nI (cc (B c))) a1 a2 a3 (nI c) (nI m) Q := by
  unfold wp_X4_heldAt wp_X4_startSums
  have e2 : al 1 (fun _ => 0) = al 2 (fun _ => 0) := by rw [← al_0 1 (by decide), ← al_0 2 (by decide)]
  have e3 : al 1 (fun _ => 0) = al 3 (fun _ => 0) := by rw [← al_0 1 (by decide), ← al_0 3 (by decide)]
  have key : wp_X4_sumUp 204 (fun k => shF kd mo gl P k) (fun k => nI (sg k)) (fun k => nI (fcF kd mo gl P k)) (fun c => nI (cc (B c))) (al 1 (fun _ => 0)) (al 2 (fun _ => 0)) (al 3 (fun _ => 0)) (nI c) (nI m) (fun s1 s2 s3 => wp_X4_heldEnough (nI w) s1 s2 s3 (fun r => Q r s1 s2 s3)) := by
    refine sp_sumUp (A := shB kd mo gl P) hT hP hB hc hc2 hm (fun _ => 0) _ ?_
    apply sp_heldEnough h1 h3
    have e : al w (fun p => 0 + sUp (shB kd mo gl P) kd mo gl sg B m c p 4) = mk (fun p => decide (p < P) && decide (w ≤ hS (hQ kd mo gl sg B (1 + 2 * p) c) m 4)) := by
      unfold al
      refine mk_cong fun p _ => ?_
      show decide (w ≤ 0 + sUp (shB kd mo gl P) kd mo gl sg B m c p 4) = _
      rw [Nat.zero_add]
      rcases Nat.lt_or_ge p P with x | x
      · rw [sUp_sh hT x 4 (Nat.le_refl _), show decide (p < P) = true from decide_eq_true x, Bool.true_and]
      · rw [sUp_no (shB_no x), show decide (p < P) = false from decide_eq_false (by omega), Bool.false_and]
        exact decide_eq_false (by omega)
    rw [e]
    exact h _ _ _
  rw [← e2, ← e3, ← al_0 1 (by decide)] at key
  exact key
section
variable {kd mo gl sg : Nat → Nat} {P made w : Nat} {aW aP aL : Nat → Nat} {aB : (Nat → Int32)} {hs : Nat → Nat → Nat} {sI : Nat → Nat → Int32} {since A Pc L Bf : (Nat → Int32)}
theorem sp_wasHeld (hT : okT kd mo gl sg) (hP : P ≤ 40) (h3 : w ≤ 3) (h : allP kd P made aW aP aL hs sI) (hk : ∀ t, t < made → okk kd mo (aP t)) (hm : made ≤ 200) (hS : okS kd P (hs made)) (hsi : ∀ k, k < 256 → hs made k % 2 = 1 → since (celK k) = sI made k) (h6 : okT1 made made aW aP aL aB A Pc L Bf) {t : Nat} (ht : t < made) (Q : Int32 → Prop)
    (q1 : jst kd mo gl sg w aP aL hs t → Q 1) (q0 : ¬ jst kd mo gl sg w aP aL hs t → Q 0) : wp_X2_wasJustHeld (nI w) (fun k => nI (sg k)) (fun k => nI (fcF kd mo gl P k)) (fun c => nI (cc (pad (hs made) c))) Pc L since (nI t) Q := by
  obtain ⟨g1, g2, g3, g4, g5, g6⟩ := h.2 t ht
  have hb := celK_b g2
  obtain ⟨k1, k2, k3, _⟩ := h6 t (by omega) ht
  rw [show t % 200 = t by omega] at k1 k2 k3
  unfold wp_X2_wasJustHeld
  rw [vp_in' (by omega), nI_clamp' (by omega)]
  refine ⟨by omega, ?_⟩
  rintro _ rfl
  refine ⟨by omega, ?_⟩
  rintro _ rfl
  rw [k2, k3]
  apply sp_laterAround hP hS (celK_on g2)
  have hl := mkN_lt (ltr (hs made) since (celK (aL t))) 4
  have key := sp_holdOfCode (q := 1 + 2 * aP t) (B := pad (hs made)) hT hP ⟨by omega, fun _ e => absurd e (by omega)⟩ (okS_pad hS) (show 18 ≤ celK (aL t) by omega) (by omega) (show mkN (ltr (hs made) since (celK (aL t))) 4 < 16 by omega) (fun r31 => ((¬ r31 = nI w → (Q (0) )) ∧ (r31 = nI w → ((Q (1) ))))) ?_
  · rw [cc_odd] at key
    rw [da_1]
    exact key
  · rw [jst_s hT h hk hm hsi ht]
    have hb4 : hOf kd mo gl sg (pad (hs t)) (aP t) (celK (aL t)) ≤ 3 * 4 := by
      rw [← jst_s hT h hk hm hsi ht]
      exact hS_le (fun d => hQ_le hT _ _ _ _) 4
    rw [nI_eq' (by omega) (by omega)]
    exact ⟨q0, q1⟩
theorem sp_hasRival (hT : okT kd mo gl sg) (hP : P ≤ 40) (h1 : 1 ≤ w) (h3 : w ≤ 3) (h : allP kd P made aW aP aL hs sI) (hm : made ≤ 200) (hS : okS kd P (hs made)) (h6 : okT1 made made aW aP aL aB A Pc L Bf) {t : Nat} (ht : t < made) (a1 a2 a3 : Int64) (Q : Int32 → Int64 → Int64 → Int64 → Prop)
    (q1 : rvl kd mo gl sg P w (hs made) since (aP t) (celK (aL t)) → ∀ b1 b2 b3, Q 1 b1 b2 b3) (q0 : ¬ rvl kd mo gl sg P w (hs made) since (aP t) (celK (aL t)) → ∀ b1 b2 b3, Q 0 b1 b2 b3) : wp_X2_hasRival (nI w) (fun k => nI (sg k)) (fun k => nI (fcF kd mo gl P k)) (fun k => shF kd mo gl P k) (rvF kd P) (fun c => nI (cc (pad (hs made) c))) Pc L since a1 a2 a3 (nI t) Q := by
  obtain ⟨g1, g2, g3, g4, g5, g6⟩ := h.2 t ht
  have hb := celK_b g2
  obtain ⟨k1, k2, k3, _⟩ := h6 t (by omega) ht
  rw [show t % 200 = t by omega] at k1 k2 k3
  unfold wp_X2_hasRival
  rw [vp_in' (by omega), nI_clamp' (by omega)]
  refine ⟨by omega, ?_⟩
  rintro _ rfl
  refine ⟨by omega, ?_⟩
  rintro _ rfl
  rw [k2, k3]
  rintro _ rfl
  have hl := mkN_lt (otp kd mo gl sg (hs made) since (1 + 2 * aP t) (celK (aL t))) 4
  rw [da_1, ← cc_odd]
  apply sp_outputsOf hT hP hS ⟨by omega, fun _ e => absurd e (by omega)⟩ (celK_on g2)
  apply sp_heldAt (B := pad (hs made)) hT hP h1 h3 (okS_pad hS) (by omega) (by omega) (by omega)
  intro b1 b2 b3
  rw [lgc0]
  unfold rvF
  rw [mk_one (show aP t < 64 by omega), mk_not, mk_and, mk_and, mk_eq0]
  refine ⟨fun z => q0 ?_ _ _ _, fun z => q1 ?_ _ _ _⟩
  · rintro ⟨q, a, b, c, d, e, f⟩
    have := z q (by omega)
    simp [a, b, c, d, e, f] at this
  · refine Classical.byContradiction fun n => z (fun q hq => ?_)
    refine Classical.byContradiction fun n2 => n ?_
    rw [Bool.not_eq_false, Bool.and_eq_true, Bool.and_eq_true, Bool.and_eq_true] at n2
    obtain ⟨⟨x1, x2⟩, x3, x4⟩ := n2
    have x1 := of_decide_eq_true x1
    have x2 := of_decide_eq_true x2
    have x3 := of_decide_eq_true x3
    have x4 : q ≠ aP t := by
      intro e
      rw [e] at x4
      simp at x4
    exact ⟨q, x1, x4, x3.2.1, x3.2.2.1, x3.2.2.2, x2⟩
/-- what orderly answers, when it can be asked -/
def oRs (r1 r2 : Nat → Prop) (made : Nat) (aW aL : Nat → Nat) (nF : Nat) (r : Int32) : Prop :=
  (∃ t, t < made ∧ aW t = 1 ∧ ¬ r1 t ∧ (∀ t', t' < t → aW t' = 1 → r1 t') ∧ r = -2 - 4 * nI (aL t)) ∨ ((∀ t, t < made → aW t = 1 → r1 t) ∧ ((∃ t, t < made ∧ aW t = 1 ∧ r2 t ∧ (∀ t', t' < t → aW t' = 1 → ¬ r2 t') ∧ r = -3 - 4 * nI (aL t)) ∨ ((∀ t, t < made → aW t = 1 → ¬ r2 t) ∧ r = if nF = 0 then 1 else -4)))
theorem sp_judge {fc : Bool} {kept n : Nat} {stale cells line : Nat → Int32} {fits : Nat → Int64} {all nst : Int32} (hT : okT kd mo gl sg) (hP : P ≤ 40) (h1 : 1 ≤ w) (h3 : w ≤ 3) (hkp : kept ≤ 200) (hkm : kept ≤ made) (hm : made < 1000000) (hS : okS kd P (hs made)) (hsi : ∀ k, k < 256 → hs made k % 2 = 1 → since (celK k) = sI made k) (h6 : okT1 made kept aW aP aL aB A Pc L Bf) (hH : okH kd P made kept aW aP aL aB hs sI) (h0 : fc = true → made = kept → hs 0 = (fun _ => 0)) (hap : ∀ t, made - kept ≤ t → t < made → aP t < P ∧ aW t ≤ 3)
    (hFI : okFI kd mo gl sg w P (pad (hs made)) stale cells nst fits line all) (a1 a2 a3 : Int64) (Q : Int32 → (Nat → Int64) → (Nat → Int32) → Int32 → (Nat → Int32) → Int32 → Int64 → Int64 → Int64 → Prop)
    (hQ : ∀ r stale' nst' fits' line' all' b1 b2 b3, okFI kd mo gl sg w P (pad (hs made)) stale' cells nst' fits' line' all' → (aOK kd mo made kept aW aP fc → oRs (jst kd mo gl sg w aP aL hs) (fun t => rvl kd mo gl sg P w (hs made) since (aP t) (celK (aL t))) made aW aL (nA kd mo gl sg w (pad (hs made)) P) r) → (¬ aOK kd mo made kept aW aP fc → r = -1) → Q r fits' line' all' stale' nst' b1 b2 b3) :
    wp_X7_orderly (nI w) (fun k => nI (sg k)) (fun k => nI (kd k)) (fun k => nI (fcF kd mo gl P k)) (fun k => nI (baF kd mo P k)) (fun k => shF kd mo gl P k) (fun k => srF kd mo gl P k) (fun k => brF kd mo P k) (seF kd P) (blF kd P) (rvF kd P) (fun c => nI (cc (pad (hs made) c))) cells (nI made) (nI kept) (bI fc) A Pc L since fits line all stale nst a1 a2 a3 Q := by
  unfold wp_X7_orderly wp_X2_judge
  refine sp_canAsk (P := P) hT.1 hP hkp hkm hm h6 hap _ (fun ok => ⟨fun _ => ?_, fun e => absurd e (by decide)⟩) (fun no => ⟨fun e => absurd rfl e, fun _ => hQ _ _ _ _ _ _ _ _ _ hFI (fun ok => absurd ok no) (fun _ => rfl)⟩)
  obtain ⟨o1, o2, o3⟩ := ok
  subst o2
  have hA := allP_of hH rfl (h0 o1 rfl) (fun t ht => (o3 t ht).1)
  have hk : ∀ t, t < made → okk kd mo (aP t) := fun t ht => (o3 t ht).2
  have hQ' : ∀ r stale' nst' fits' line' all' b1 b2 b3, okFI kd mo gl sg w P (pad (hs made)) stale' cells nst' fits' line' all' → oRs (jst kd mo gl sg w aP aL hs) (fun t => rvl kd mo gl sg P w (hs made) since (aP t) (celK (aL t))) made aW aL (nA kd mo gl sg w (pad (hs made)) P) r → Q r fits' line' all' stale' nst' b1 b2 b3 :=
    fun r stale' nst' fits' line' all' b1 b2 b3 f g => hQ r stale' nst' fits' line' all' b1 b2 b3 f (fun _ => g) (fun no => absurd ⟨o1, rfl, o3⟩ no)
  have hact : ∀ t, t < made → A t = nI (aW t) := by
    intro t ht
    obtain ⟨k1, _⟩ := h6 t (by omega) ht
    rw [show t % 200 = t by omega] at k1
    rw [k1]
    have := (o3 t ht).1
    unfold actC
    rw [if_neg (by omega), if_neg (by omega)]
  refine lp_up (W := fun f i => wq_X2_judge_11 (nI w) (fun k => nI (sg k)) (fun k => nI (kd k)) (fun k => nI (fcF kd mo gl P k)) (fun k => nI (baF kd mo P k)) (fun k => shF kd mo gl P k) (fun k => srF kd mo gl P k) (fun k => brF kd mo P k) (seF kd P) (blF kd P) (rvF kd P) (fun c => nI (cc (pad (hs made) c))) cells (nI made) (nI made) (bI fc) A Pc L since Q f fits line all stale nst a1 a2 a3 (nI i)) (I := fun i => ∀ t, t < i → aW t = 1 → jst kd mo gl sg w aP aL hs t) made ?_ 0 (Nat.zero_le _) (fun t ht => absurd ht (by omega))
  intro f i hi hI ih
  show wf_X2_judge_11 _ _ _ _ _ _ _ _ _ _ _ _ _ _ _ _ _ _ _ _ _ _ _ _ _ _ _ _ _ _ _
  unfold wf_X2_judge_11
  rw [nI_le' (by omega) (by omega)]
  refine ⟨fun q => ?_, fun q => ?_⟩
  · obtain rfl : i = made := by omega
    clear ih
    have key := lp_up (W := fun f j => ∀ b1 b2 b3, wq_X2_judge_69 (nI w) (fun k => nI (sg k)) (fun k => nI (kd k)) (fun k => nI (fcF kd mo gl P k)) (fun k => nI (baF kd mo P k)) (fun k => shF kd mo gl P k) (fun k => srF kd mo gl P k) (fun k => brF kd mo P k) (seF kd P) (blF kd P) (rvF kd P) (fun c => nI (cc (pad (hs i) c))) cells (nI i) (nI i) (bI fc) A Pc L since Q f fits line all stale nst b1 b2 b3 (nI j)) (I := fun j => ∀ t, t < j → aW t = 1 → ¬ rvl kd mo gl sg P w (hs i) since (aP t) (celK (aL t))) i ?_ 0 (Nat.zero_le _) (fun t ht => absurd ht (by omega))
    · obtain ⟨k, hk⟩ := key
      exact ⟨k, hk _ _ _⟩
    · intro f j hj hJ ih b1 b2 b3
      show wf_X2_judge_69 _ _ _ _ _ _ _ _ _ _ _ _ _ _ _ _ _ _ _ _ _ _ _ _ _ _ _ _ _ _ _
      unfold wf_X2_judge_69
      rw [nI_le' (by omega) (by omega)]
      refine ⟨fun q => ?_, fun q => ?_⟩
      · obtain rfl : j = i := by omega
        obtain ⟨m, St, rfl, f1, f2, f3⟩ := hFI
        refine sp_countFits hT hP h1 h3 (okS_pad hS) f1 f2 f3 _ _ _ _ (fun fits' line' all' stale' c1 c2 c3 z1 z2 z3 => ?_)
        have hn : nA kd mo gl sg w (pad (hs j)) P ≤ 10240 := nY_le hP 16
        have fin : okFI kd mo gl sg w P (pad (hs j)) stale' cells (nI 0) fits' line' all' := ⟨0, _, rfl, z3, z1, fun c hc _ => z2 c hc⟩
        rw [eq_0 (by omega)]
        refine ⟨fun x => hQ' _ _ _ _ _ _ _ _ _ fin (Or.inr ⟨hI, Or.inr ⟨hJ, by rw [if_neg x]⟩⟩), fun x => hQ' _ _ _ _ _ _ _ _ _ fin (Or.inr ⟨hI, Or.inr ⟨hJ, by rw [if_pos x]⟩⟩)⟩
      · have hji : j < i := by omega
        obtain ⟨g1, g2, g3, g4, g5, g6⟩ := hA.2 j hji
        obtain ⟨k1, k2, k3, _⟩ := h6 j (by omega) hji
        rw [show j % 200 = j by omega] at k1 k2 k3
        have ih := ih hji
        rw [vp_in' (by omega), nI_clamp' (by omega), hact j hji]
        refine ⟨by omega, ?_⟩
        rintro _ rfl
        rw [eq_1 (by omega)]
        refine ⟨fun x => ?_, fun x => ?_⟩
        · rintro _ rfl
          rw [ad_1]
          refine ih (fun t ht hw => ?_) _ _ _
          rcases Nat.lt_or_ge t j with y | y
          · exact hJ t y hw
          · exact absurd hw (by rw [show t = j by omega]; exact x)
        · refine sp_hasRival hT hP h1 h3 hA (by omega) hS h6 hji _ _ _ _ (fun yes c1 c2 c3 => ⟨fun e => absurd e (by decide), fun _ => ⟨by omega, ?_⟩⟩) (fun no c1 c2 c3 => ⟨fun _ => ?_, fun e => absurd rfl e⟩)
          · rintro _ rfl
            rw [k3]
            apply sp_numberOf g2
            exact hQ' _ _ _ _ _ _ _ _ _ hFI (Or.inr ⟨hI, Or.inl ⟨j, hji, x, yes, hJ, rfl⟩⟩)
          · rintro _ rfl
            rw [ad_1]
            refine ih (fun t ht hw => ?_) _ _ _
            rcases Nat.lt_or_ge t j with y | y
            · exact hJ t y hw
            · rw [show t = j by omega]; exact no
  · have him : i < made := by omega
    obtain ⟨g1, g2, g3, g4, g5, g6⟩ := hA.2 i him
    obtain ⟨k1, k2, k3, _⟩ := h6 i (by omega) him
    rw [show i % 200 = i by omega] at k1 k2 k3
    have ih := ih him
    rw [vp_in' (by omega), nI_clamp' (by omega), hact i him]
    refine ⟨by omega, ?_⟩
    rintro _ rfl
    rw [eq_1 (by omega)]
    refine ⟨fun x => ?_, fun x => ?_⟩
    · rintro _ rfl
      rw [ad_1]
      refine ih (fun t ht hw => ?_)
      rcases Nat.lt_or_ge t i with y | y
      · exact hI t y hw
      · exact absurd hw (by rw [show t = i by omega]; exact x)
    · refine sp_wasHeld hT hP h3 hA hk (by omega) hS hsi h6 him _ (fun yes => ⟨fun _ => ?_, fun e => absurd e (by decide)⟩) (fun no => ⟨fun e => absurd rfl e, fun _ => ⟨by omega, ?_⟩⟩)
      · rintro _ rfl
        rw [ad_1]
        refine ih (fun t ht hw => ?_)
        rcases Nat.lt_or_ge t i with y | y
        · exact hI t y hw
        · rw [show t = i by omega]; exact yes
      · rintro _ rfl
        rw [k3]
        apply sp_numberOf g2
        exact hQ' _ _ _ _ _ _ _ _ _ hFI (Or.inl ⟨i, him, x, no, hI, rfl⟩)
end
