/-! the sums of all pieces at once; what is barred; what fits now -/
def al (j : Nat) (hs : Nat → Nat) : Int64 := mk (fun p => decide (j ≤ hs p))
theorem al_cong {j : Nat} {f g : Nat → Nat} (h : ∀ p, p < 64 → f p = g p) : al j f = al j g := mk_cong fun p hp => by rw [h p hp]
theorem al_up {j : Nat} (hs : Nat → Nat) (S : Nat → Bool) (hj : 1 ≤ j) : al (j + 1) hs ||| (al j hs &&& mk S) = al (j + 1) (fun p => hs p + (if S p then 1 else 0)) := by
  unfold al
  rw [mk_and, mk_or]
  apply mk_cong
  intro p _
  cases hS : S p
  · simp [hS]
  · rw [Bool.eq_iff_iff]
    simp [hS]
    omega
theorem al_1 (hs : Nat → Nat) (S : Nat → Bool) : al 1 hs ||| mk S = al 1 (fun p => hs p + (if S p then 1 else 0)) := by
  unfold al
  rw [mk_or]
  apply mk_cong
  intro p _
  cases hS : S p
  · simp [hS]
  · rw [Bool.eq_iff_iff]
    simp [hS]
theorem al_0 (j : Nat) (hj : 1 ≤ j) : (0 : Int64) = al j (fun _ => 0) := by
  unfold al
  rw [mk_0]
  apply mk_cong
  intro p _
  have : ¬ j ≤ 0 := by omega
  simp [this]
theorem hS_s (f : Nat → Nat) (m n : Nat) : hS f m (n + 1) = hS f m n + (if m.testBit n then 0 else f n) := rfl
def sUp (A : Nat → Nat → Bool) (kd mo gl sg B : Nat → Nat) (m c p : Nat) : Nat → Nat
  | 0 => 0
  | d + 1 => sUp A kd mo gl sg B m c p d + (if B (stp c d) = 0 ∨ m.testBit d = true then 0 else if A (51 * d + gQ kd mo gl (B (stp c d)) (opp d)) p then sg (gQ kd mo gl (B (stp c d)) (opp d)) else 0)
theorem sum_in {sg : Nat → Nat} {F C : Nat → Int32} {arr : Nat → Int64} {nA g : Nat} {S : Nat → Bool} (hg : g ≤ 50) (hs3 : ∀ g, sg g ≤ 3) (K3 : Int64 → Int64 → Int64 → Int32 → Int32 → Int32 → Prop) (Q : Int64 → Int64 → Int64 → Prop) (x2 x3 : Int32) (d : Nat) (hs : Nat → Nat)
    (h : K3 (al 1 (fun p => hs p + (if S p then sg g else 0))) (al 2 (fun p => hs p + (if S p then sg g else 0))) (al 3 (fun p => hs p + (if S p then sg g else 0))) x2 x3 (nI (d + 1))) :
    ∃ k, wq_X4_sumUp_76 nA arr (fun k => nI (sg k)) F C K3 Q k (al 1 hs) (al 2 hs) (al 3 hs) x2 x3 (nI d) (nI g) (mk S) 0 := by
  have hg3 := hs3 g
  have key := lp_up (W := fun n i => wq_X4_sumUp_76 nA arr (fun k => nI (sg k)) F C K3 Q n (al 1 (fun p => hs p + (if S p then i else 0))) (al 2 (fun p => hs p + (if S p then i else 0))) (al 3 (fun p => hs p + (if S p then i else 0))) x2 x3 (nI d) (nI g) (mk S) (nI i)) (I := fun _ => True) (sg g) ?_ 0 (Nat.zero_le _) trivial
  · have e : (fun p => hs p + (if S p = true then 0 else 0)) = hs := by
      funext p
      split <;> rfl
    rw [e] at key
    exact key
  · intro n i hi _ ih
    show wf_X4_sumUp_76 _ _ _ _ _ _ _ _ _ _ _ _ _ _ _ _ _
    unfold wf_X4_sumUp_76
    rw [vp_in' (by omega), nI_clamp' (by omega)]
    refine ⟨by omega, ?_⟩
    rintro _ rfl
    rw [nI_le' (by omega) (by omega)]
    refine ⟨fun q => ?_, fun q => ?_⟩
    · rintro _ rfl
      obtain rfl : i = sg g := by omega
      rw [ad_1]
      exact h
    · rintro _ rfl _ rfl _ rfl _ rfl
      have ih := ih (by omega) trivial
      rw [al_up _ _ (by decide), al_up _ _ (by decide), al_1, ad_1]
      have e : (fun p => hs p + (if S p = true then i else 0) + (if S p = true then 1 else 0)) = (fun p => hs p + (if S p = true then i + 1 else 0)) := by
        funext p
        split <;> omega
      rw [e]
      exact ih
theorem sp_sumUp {A : Nat → Nat → Bool} {kd mo gl sg B : Nat → Nat} {P c m : Nat} (hT : okT kd mo gl sg) (hP : P ≤ 40) (hB : ∀ c, okQ kd P (B c)) (hc : 18 ≤ c) (hc2 : c ≤ 305) (hm : m < 16) (hs : Nat → Nat) (Q : Int64 → Int64 → Int64 → Prop)
    (h : Q (al 1 (fun p => hs p + sUp A kd mo gl sg B m c p 4)) (al 2 (fun p => hs p + sUp A kd mo gl sg B m c p 4)) (al 3 (fun p => hs p + sUp A kd mo gl sg B m c p 4))) :
    wp_X4_sumUp 204 (fun k => mk (A k)) (fun k => nI (sg k)) (fun k => nI (fcF kd mo gl P k)) (fun c => nI (cc (B c))) (al 1 hs) (al 2 hs) (al 3 hs) (nI c) (nI m) Q := by
  unfold wp_X4_sumUp
  have key := lp_up (W := fun n i => wq_X4_sumUp_3 204 (fun k => mk (A k)) (fun k => nI (sg k)) (fun k => nI (fcF kd mo gl P k)) (fun c => nI (cc (B c))) Q n (al 1 (fun p => hs p + sUp A kd mo gl sg B m c p i)) (al 2 (fun p => hs p + sUp A kd mo gl sg B m c p i)) (al 3 (fun p => hs p + sUp A kd mo gl sg B m c p i)) (nI c) (nI m) (nI i)) (I := fun _ => True) 4 ?_ 0 (Nat.zero_le _) trivial
  · exact key
  · intro n i hi _ ih
    show wf_X4_sumUp_3 _ _ _ _ _ _ _ _ _ _ _ _ _
    unfold wf_X4_sumUp_3
    dsimp only
    rw [le_4 (by omega)]
    refine ⟨fun q => ?_, fun q => ?_⟩
    · obtain rfl : i = 4 := by omega
      exact h
    · have ih := ih (by omega) trivial
      have hi4 : i < 4 := by omega
      have hst := stp_lt (d := i) hc2
      have hcb := cc_le hP (hB (stp c i)).1
      have hg2 := gQ_le hT (B (stp c i)) (opp i)
      have ho := opp_lt i
      rw [vp_in' (by omega), nI_clamp' (by omega)]
      refine ⟨hi4, ?_⟩
      rintro _ rfl
      rw [stp_I hc hi4, vp_in' (by omega), nI_clamp' (by omega)]
      refine ⟨hst, ?_⟩
      rintro _ rfl
      rw [eq_0 (by omega), cc_0]
      unfold sUp at ih
      refine ⟨fun h0 => ?_, fun h0 => ?_⟩
      · rintro _ rfl
        simp only [if_pos (show B (stp c i) = 0 ∨ m.testBit i = true from Or.inl h0), Nat.add_zero] at ih
        rw [ad_1]
        exact ih
      · apply sp_bitOf _ (by omega)
        rw [bt_nI (by omega), bI_1]
        refine ⟨fun hb => ?_, fun hb => ?_⟩
        · simp only [if_neg (show ¬ (B (stp c i) = 0 ∨ m.testBit i = true) from fun q => q.elim h0 hb)] at ih
          rw [opp_I hi4, mu_4, nI_add, vp_in' (by omega), nI_clamp' (by omega), fcF_cc hP (hB _) ho]
          refine ⟨by omega, ?_⟩
          rintro _ rfl
          rw [mu_51, nI_add, vp_in' (by omega), nI_clamp' (by omega)]
          refine ⟨by omega, ?_⟩
          rintro _ rfl
          refine sum_in hg2 hT.2.2.2.2.1 _ _ _ _ i (fun p => hs p + sUp A kd mo gl sg B m c p i) ?_
          have e : (fun p => hs p + sUp A kd mo gl sg B m c p i + (if A (51 * i + gQ kd mo gl (B (stp c i)) (opp i)) p = true then sg (gQ kd mo gl (B (stp c i)) (opp i)) else 0)) = (fun p => hs p + (sUp A kd mo gl sg B m c p i + (if A (51 * i + gQ kd mo gl (B (stp c i)) (opp i)) p = true then sg (gQ kd mo gl (B (stp c i)) (opp i)) else 0))) := by
            funext p
            omega
          rw [e]
          exact ih
        · rintro _ rfl
          simp only [if_pos (show B (stp c i) = 0 ∨ m.testBit i = true from Or.inr hb), Nat.add_zero] at ih
          rw [ad_1]
          exact ih
theorem sUp_sh {kd mo gl sg B : Nat → Nat} {P m c p : Nat} (hT : okT kd mo gl sg) (hp : p < P) : ∀ n, n ≤ 4 → sUp (shB kd mo gl P) kd mo gl sg B m c p n = hS (hQ kd mo gl sg B (1 + 2 * p) c) m n
  | 0, _ => rfl
  | n + 1, hn => by
    have ih := sUp_sh (B := B) (m := m) (c := c) hT hp n (by omega)
    have hg2 := gQ_le hT (B (stp c n)) (opp n)
    have e0 : gQ kd mo gl (1 + 2 * p) n = gOf kd mo gl p 0 n := by
      unfold gQ
      rw [if_neg (by omega), show (1 + 2 * p - 1) / 2 = p by omega, show (1 + 2 * p - 1) % 2 = 0 by omega]
    unfold sUp hS
    rw [ih]
    congr 1
    cases hm : m.testBit n
    · rw [if_neg (show ¬ (false = true) by decide)]
      unfold hQ
      by_cases hB : B (stp c n) = 0
      · rw [if_pos (Or.inl hB), hB, show gQ kd mo gl 0 (opp n) = 0 from rfl]
        split
        · rename_i q; rw [← q, hT.2.2.2.2.2]
        · rfl
      · rw [if_neg (by rintro (q | q); exact hB q; exact absurd q (by decide)), e0]
        generalize gQ kd mo gl (B (stp c n)) (opp n) = g at *
        unfold shB
        rw [show (51 * n + g) % 51 = g by omega, show (51 * n + g) / 51 = n by omega]
        by_cases hg : g = 0
        · subst hg
          rw [if_neg (by simp)]
          split
          · rename_i q; rw [← q, hT.2.2.2.2.2]
          · rfl
        · by_cases he : gOf kd mo gl p 0 n = g
          · rw [if_pos (by simp [hp, hg, he]; omega), if_pos he.symm, he]
          · rw [if_neg (by simp [he]), if_neg (fun q => he q.symm)]
    · rw [if_pos (Or.inr rfl), if_pos rfl]
theorem sUp_sr {kd mo gl sg B : Nat → Nat} {P m c p : Nat} (hT : okT kd mo gl sg) (hp : p < P) : ∀ n, n ≤ 4 → sUp (srB kd mo gl P) kd mo gl sg B m c p n = if kd p = 2 then hS (hQ kd mo gl sg B (2 + 2 * p) c) m n else 0
  | 0, _ => by split <;> rfl
  | n + 1, hn => by
    have ih := sUp_sr (B := B) (m := m) (c := c) hT hp n (by omega)
    have hg2 := gQ_le hT (B (stp c n)) (opp n)
    have e0 : gQ kd mo gl (2 + 2 * p) n = gOf kd mo gl p 1 n := by
      unfold gQ
      rw [if_neg (by omega), show (2 + 2 * p - 1) / 2 = p by omega, show (2 + 2 * p - 1) % 2 = 1 by omega]
    unfold sUp
    rw [ih]
    by_cases hk : kd p = 2
    · rw [if_pos hk, if_pos hk, hS_s]
      congr 1
      cases hm : m.testBit n
      · rw [if_neg (show ¬ (false = true) by decide)]
        unfold hQ
        by_cases hB : B (stp c n) = 0
        · rw [if_pos (Or.inl hB), hB, show gQ kd mo gl 0 (opp n) = 0 from rfl]
          split
          · rename_i q; rw [← q, hT.2.2.2.2.2]
          · rfl
        · rw [if_neg (by rintro (q | q); exact hB q; exact absurd q (by decide)), e0]
          generalize gQ kd mo gl (B (stp c n)) (opp n) = g at *
          unfold srB
          rw [show (51 * n + g) % 51 = g by omega, show (51 * n + g) / 51 = n by omega]
          by_cases hg : g = 0
          · subst hg
            rw [if_neg (by simp)]
            split
            · rename_i q; rw [← q, hT.2.2.2.2.2]
            · rfl
          · by_cases he : gOf kd mo gl p 1 n = g
            · rw [if_pos (by simp [hp, hg, he, hk]; omega), if_pos he.symm, he]
            · rw [if_neg (by simp [he]), if_neg (fun q => he q.symm)]
      · rw [if_pos (Or.inr rfl), if_pos rfl]
    · rw [if_neg hk, if_neg hk]
      split
      · rfl
      · rw [if_neg (by simp [srB, hk])]
theorem sUp_no {A : Nat → Nat → Bool} {kd mo gl sg B : Nat → Nat} {m c p : Nat} (h : ∀ k, A k p = false) : ∀ n, sUp A kd mo gl sg B m c p n = 0
  | 0 => rfl
  | n + 1 => by
    unfold sUp
    rw [sUp_no h n, h]
    simp
theorem shB_no {kd mo gl : Nat → Nat} {P p : Nat} (h : P ≤ p) (k : Nat) : shB kd mo gl P k p = false := by
  unfold shB
  simp
  omega
theorem srB_no {kd mo gl : Nat → Nat} {P p : Nat} (h : P ≤ p) (k : Nat) : srB kd mo gl P k p = false := by
  unfold srB
  simp
  omega
theorem sp_heldEnough {w : Nat} (h1 : 1 ≤ w) (h3 : w ≤ 3) (hs : Nat → Nat) (Q : Int64 → Prop) (h : Q (al w hs)) : wp_X4_heldEnough (nI w) (al 1 hs) (al 2 hs) (al 3 hs) Q := by
  unfold wp_X4_heldEnough
  rw [eq_1 (by omega), eq_2 (by omega)]
  obtain rfl | rfl | rfl : w = 1 ∨ w = 2 ∨ w = 3 := by omega
  · exact ⟨fun q => absurd rfl q, fun _ => h⟩
  · exact ⟨fun _ => ⟨fun q => absurd rfl q, fun _ => h⟩, fun q => absurd q (by decide)⟩
  · exact ⟨fun _ => ⟨fun _ => h, fun q => absurd q (by decide)⟩, fun q => absurd q (by decide)⟩
/-! bars -/
def br1 (kd mo B : Nat → Nat) (c d : Nat) : Bool := B (stp c d) != 0 && brd kd mo ((B (stp c d) - 1) / 2) (opp d)
def barC (kd mo B : Nat → Nat) (c : Nat) : Bool := br1 kd mo B c 0 || br1 kd mo B c 1 || br1 kd mo B c 2 || br1 kd mo B c 3
theorem barC_f {kd mo B : Nat → Nat} {c : Nat} (h : ∀ d, d < 4 → br1 kd mo B c d = false) : barC kd mo B c = false := by
  unfold barC
  rw [h 0 (by decide), h 1 (by decide), h 2 (by decide), h 3 (by decide)]
  rfl
theorem barC_t {kd mo B : Nat → Nat} {c d : Nat} (hd : d < 4) (h : br1 kd mo B c d = true) : barC kd mo B c = true := by
  unfold barC
  obtain rfl | rfl | rfl | rfl : d = 0 ∨ d = 1 ∨ d = 2 ∨ d = 3 := by omega
  all_goals simp [h]
theorem barC_n {kd mo B : Nat → Nat} {c : Nat} (h : barC kd mo B c = false) {d : Nat} (hd : d < 4) : br1 kd mo B c d = false := by
  cases hb : br1 kd mo B c d
  · rfl
  · rw [barC_t hd hb] at h
    exact absurd h (by decide)
theorem baF_cc {kd mo : Nat → Nat} {P q d : Nat} (hP : P ≤ 40) (hq : okQ kd P q) (hd : d < 4) : (baF kd mo P (cc q)).testBit d = (q != 0 && brd kd mo ((q - 1) / 2) d) := by
  obtain ⟨h1, h2⟩ := hq
  by_cases h0 : q = 0
  · subst h0
    have e : baF kd mo P (cc 0) = 0 := by
      unfold baF
      rw [if_neg (by rw [show cc 0 = 0 from rfl]; omega)]
    rw [e, Nat.zero_testBit]
    rfl
  · have hb : (q != 0) = true := by simp [h0]
    rw [hb, Bool.true_and]
    unfold brd
    by_cases ho : q % 2 = 1
    · have e : cc q = 1 + (q - 1) / 2 := by unfold cc; rw [if_neg h0, if_pos ho]
      unfold baF
      rw [e, show 1 + (q - 1) / 2 - 1 = (q - 1) / 2 by omega]
      by_cases hk : kd ((q - 1) / 2) = 4 ∨ kd ((q - 1) / 2) = 5
      · rw [if_pos ⟨by omega, by omega, hk⟩, show 16 = 2 ^ 4 from rfl, Nat.testBit_mod_two_pow, Nat.testBit_eq_decide_div_mod_eq]
        simp [hd, hk]
      · rw [if_neg (fun q => hk q.2.2), Nat.zero_testBit]
        simp [hk]
    · have e : cc q = 65 + (q - 1) / 2 := by unfold cc; rw [if_neg h0, if_neg ho]
      have hk := h2 h0 (by omega)
      unfold baF
      rw [e, if_neg (by omega), Nat.zero_testBit, hk]
      simp
theorem baF_le {kd mo : Nat → Nat} (P c : Nat) : baF kd mo P c ≤ 15 := by
  unfold baF
  split <;> omega
theorem sp_isBarredBeside {kd mo B : Nat → Nat} {P c : Nat} (hP : P ≤ 40) (hB : ∀ c, okQ kd P (B c)) (hc : 18 ≤ c) (hc2 : c ≤ 305) (Q : Int32 → Prop) (h : Q (bI (barC kd mo B c))) :
    wp_X4_isBarredFromBeside (fun k => nI (baF kd mo P k)) (fun c => nI (cc (B c))) (nI c) Q := by
  unfold wp_X4_isBarredFromBeside
  refine lp_up (W := fun n i => wq_X4_isBarredFromBeside_2 (fun k => nI (baF kd mo P k)) (fun c => nI (cc (B c))) Q n (nI c) (nI i)) (I := fun i => ∀ d, d < i → br1 kd mo B c d = false) 4 ?_ 0 (Nat.zero_le _) (fun d q => absurd q (by omega))
  intro n i hi hI ih
  show wf_X4_isBarredFromBeside_2 _ _ _ _ _ _
  unfold wf_X4_isBarredFromBeside_2
  dsimp only
  rw [le_4 (by omega)]
  refine ⟨fun q => ?_, fun q => ?_⟩
  · obtain rfl : i = 4 := by omega
    rw [barC_f hI] at h
    exact h
  · have hi4 : i < 4 := by omega
    have hst := stp_lt (d := i) hc2
    have hcb := cc_le hP (hB (stp c i)).1
    have ho := opp_lt i
    have hb := baF_le (kd := kd) (mo := mo) P (cc (B (stp c i)))
    rw [vp_in' (by omega), nI_clamp' (by omega)]
    refine ⟨hi4, ?_⟩
    rintro _ rfl
    rw [stp_I hc hi4, vp_in' (by omega), nI_clamp' (by omega)]
    refine ⟨hst, ?_⟩
    rintro _ rfl
    rw [vp_in' (by omega), nI_clamp' (by omega)]
    refine ⟨by omega, ?_⟩
    rintro _ rfl
    rw [opp_I hi4, bit_I _ (by omega), bt_nI (by omega), baF_cc hP (hB _) ho, bI_1]
    refine ⟨fun hn => ?_, fun hy => ?_⟩
    · rintro _ rfl
      rw [ad_1]
      refine ih hi4 (fun d hd => ?_)
      rcases Nat.lt_or_ge d i with q2 | q2
      · exact hI d q2
      · obtain rfl : d = i := by omega
        exact ts_nt hn
    · rw [barC_t hi4 hy] at h
      exact h
/-- what the pieces' own bars forbid at a cell -/
def ob1 (kd mo B : Nat → Nat) (c p d : Nat) : Bool := B (stp c d) != 0 && brd kd mo p d
def obU (kd mo B : Nat → Nat) (P c p : Nat) : Nat → Bool
  | 0 => false
  | d + 1 => obU kd mo B P c p d || (decide (p < P) && ob1 kd mo B c p d)
theorem obU_s (kd mo B : Nat → Nat) (P c p d : Nat) : obU kd mo B P c p (d + 1) = (obU kd mo B P c p d || (decide (p < P) && ob1 kd mo B c p d)) := rfl
def bdF (kd mo B : Nat → Nat) (P c : Nat) : Int64 := if barC kd mo B c then mk (fun _ => true) else mk (fun p => obU kd mo B P c p 4)
theorem sp_barredAt {kd mo B : Nat → Nat} {P c : Nat} (hP : P ≤ 40) (hB : ∀ c, okQ kd P (B c)) (hc : 18 ≤ c) (hc2 : c ≤ 305) (Q : Int64 → Prop) (h : Q (bdF kd mo B P c)) :
    wp_X4_barredAt (fun k => nI (baF kd mo P k)) (fun k => brF kd mo P k) (fun c => nI (cc (B c))) (nI c) Q := by
  unfold wp_X4_barredAt
  apply sp_isBarredBeside hP hB hc hc2
  unfold bdF at h
  rw [bI_0]
  refine ⟨fun hb => ?_, fun hb => ?_⟩
  · rw [hb, if_neg (by decide)] at h
    have key := lp_up (W := fun n i => wq_X4_barredAt_17 (fun k => nI (baF kd mo P k)) (fun k => brF kd mo P k) (fun c => nI (cc (B c))) Q n (nI c) (mk (fun p => obU kd mo B P c p i)) (nI i)) (I := fun _ => True) 4 ?_ 0 (Nat.zero_le _) trivial
    · rw [mk_0]
      exact key
    · intro n i hi _ ih
      show wf_X4_barredAt_17 _ _ _ _ _ _ _ _
      unfold wf_X4_barredAt_17
      dsimp only
      rw [le_4 (by omega)]
      refine ⟨fun q => ?_, fun q => ?_⟩
      · obtain rfl : i = 4 := by omega
        exact h
      · have ih := ih (by omega) trivial
        have hi4 : i < 4 := by omega
        have hst := stp_lt (d := i) hc2
        have hcb := cc_le hP (hB (stp c i)).1
        rw [vp_in' (by omega), nI_clamp' (by omega)]
        refine ⟨hi4, ?_⟩
        rintro _ rfl
        rw [stp_I hc hi4, vp_in' (by omega), nI_clamp' (by omega)]
        refine ⟨hst, ?_⟩
        rintro _ rfl
        rw [eq_0 (by omega), cc_0]
        refine ⟨fun h0 => ?_, fun h0 => ⟨hi4, ?_⟩⟩
        · rintro _ rfl
          have e : (fun p => obU kd mo B P c p (i + 1)) = (fun p => obU kd mo B P c p i) := by
            funext p
            rw [obU_s]
            unfold ob1
            rw [h0]
            simp
          rw [e] at ih
          rw [ad_1]
          exact ih
        · rintro _ rfl _ rfl _ rfl
          have e : (fun p => obU kd mo B P c p (i + 1)) = (fun p => obU kd mo B P c p i || brB kd mo P i p) := by
            funext p
            unfold brB
            rw [obU_s]
            unfold ob1
            have hb1 : (B (stp c i) != 0) = true := by simp [h0]
            rw [hb1]
            simp [hi4]
          rw [e] at ih
          unfold brF
          rw [mk_or, ad_1]
          exact ih
  · rw [Bool.not_eq_false] at hb
    rw [hb, if_pos rfl] at h
    rw [mk_m1]
    exact h
theorem opn_bar {kd mo B : Nat → Nat} {P p c : Nat} (hp : p < P) : opn kd mo B p c = (!barC kd mo B c && !obU kd mo B P c p 4) := by
  simp only [opn, op1, barC, br1, obU, ob1, hp, decide_true, Bool.true_and, Bool.false_or]
  have e : ∀ n : Nat, (n == 0) = !(n != 0) := fun n => by simp [bne]
  simp only [e]
  generalize (B (stp c 0) != 0) = b0
  generalize (B (stp c 1) != 0) = b1
  generalize (B (stp c 2) != 0) = b2
  generalize (B (stp c 3) != 0) = b3
  generalize brd kd mo ((B (stp c 0) - 1) / 2) (opp 0) = d0
  generalize brd kd mo ((B (stp c 1) - 1) / 2) (opp 1) = d1
  generalize brd kd mo ((B (stp c 2) - 1) / 2) (opp 2) = d2
  generalize brd kd mo ((B (stp c 3) - 1) / 2) (opp 3) = d3
  generalize brd kd mo p 0 = e0
  generalize brd kd mo p 1 = e1
  generalize brd kd mo p 2 = e2
  generalize brd kd mo p 3 = e3
  rw [Bool.eq_iff_iff]
  simp
  constructor
  · rintro ⟨⟨⟨h0, h1⟩, h2⟩, h3⟩
    cases b0 <;> cases b1 <;> cases b2 <;> cases b3 <;> simp_all
  · rintro ⟨⟨⟨⟨h0, h1⟩, h2⟩, h3⟩, ⟨⟨k0, k1⟩, k2⟩, k3⟩
    cases b0 <;> cases b1 <;> cases b2 <;> cases b3 <;> simp_all
