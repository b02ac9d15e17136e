/-! the class adds a piece -/
theorem mkL_up (S : Nat → Nat → Bool) (i : Nat) (T : Nat → Bool) : vp_updL (fun k => mk (S k)) i (mk (S i) ||| mk T) = fun k => mk (fun p => S k p || (decide (k = i) && T p)) := by
  funext k
  rw [updL_at]
  by_cases h : k = i
  · subst h
    rw [if_pos rfl, mk_or]
    apply mk_cong
    intro p _
    simp
  · rw [if_neg h]
    apply mk_cong
    intro p _
    simp [h]
def shw (S : Nat → Nat → Bool) (P d g : Nat) : Nat → Nat → Bool := fun k p => S k p || (decide (k = 51 * d + g) && decide (p = P) && decide (g ≠ 0))
theorem sp_show {S : Nat → Nat → Bool} {F : Nat → Nat} {P code d g : Nat} (hP : P < 40) (hc : code < 128) (hd : d < 4) (hg : g ≤ 50) (Q : (Nat → Int64) → (Nat → Int32) → Prop) (h : Q (fun k => mk (shw S P d g k)) (fun j => nI (upN F (4 * code + d) g j))) :
    wp_X1_show 204 (fun k => mk (S k)) (fun j => nI (F j)) (nI P) (nI code) (nI d) (nI g) Q := by
  unfold wp_X1_show
  rw [mu_4, nI_add, vp_in' (by omega), nI_clamp' (by omega), upd_N]
  refine ⟨by omega, ?_⟩
  rintro _ rfl
  rw [eq_0 (by omega)]
  refine ⟨fun q => ?_, fun q => ?_⟩
  · have e : (fun k => mk (shw S P d g k)) = (fun k => mk (S k)) := by
      funext k
      apply mk_cong
      intro p _
      unfold shw
      simp [q]
    rw [e] at h
    exact h
  · rw [mu_51, nI_add, vp_in' (by omega), nI_clamp' (by omega)]
    refine ⟨by omega, ?_⟩
    rintro _ rfl
    refine ⟨by omega, ?_⟩
    rintro _ rfl
    rw [mk_one (by omega), mkL_up]
    have e : (fun k => mk (shw S P d g k)) = (fun k => mk (fun p => S k p || (decide (k = 51 * d + g) && decide (p = P)))) := by
      funext k
      apply mk_cong
      intro p _
      unfold shw
      simp [q]
    rw [e] at h
    exact h
section
variable {kd mo gl : Nat → Nat} {P k m a r b l : Nat}
theorem g4_0 : gl4 gl P a r b l (4 * P) = a := by
  unfold gl4 upN
  rw [if_neg (by omega), if_neg (by omega), if_neg (by omega), if_pos rfl]
theorem g4_1 : gl4 gl P a r b l (4 * P + 1) = r := by
  unfold gl4 upN
  rw [if_neg (by omega), if_neg (by omega), if_pos rfl]
theorem g4_2 : gl4 gl P a r b l (4 * P + 2) = b := by
  unfold gl4 upN
  rw [if_neg (by omega), if_pos rfl]
theorem g4_3 : gl4 gl P a r b l (4 * P + 3) = l := by
  unfold gl4 upN
  rw [if_pos rfl]
theorem g4_n {j : Nat} (h : j < 4 * P) : gl4 gl P a r b l j = gl j := by
  unfold gl4 upN
  rw [if_neg (by omega), if_neg (by omega), if_neg (by omega), if_neg (by omega)]
theorem gOf_old {p h d : Nat} (hp : p < P) (hd : d < 4) : gOf (upN kd P k) (upN mo P m) (gl4 gl P a r b l) p h d = gOf kd mo gl p h d := by
  unfold gOf
  rw [upN_n (by omega), upN_n (by omega), g4_n (by omega), g4_n (by omega)]
theorem gN_0 {d : Nat} (hd : d < 4) : gOf (upN kd P k) (upN mo P m) (gl4 gl P a r b l) P 0 d = if d = 0 then a else if d = 1 then (if k = 2 then 0 else r) else if d = 2 then b else l := by
  unfold gOf
  rw [upN_s]
  obtain rfl | rfl | rfl | rfl : d = 0 ∨ d = 1 ∨ d = 2 ∨ d = 3 := by omega
  · simp [g4_0]
  · simp [g4_1]
  · simp [g4_2]
  · simp [g4_3]
theorem gN_1 {d : Nat} (hd : d < 4) (hk : k = 2) : gOf (upN kd P k) (upN mo P m) (gl4 gl P a r b l) P 1 d = if d = 0 then m % 64 else if d = 1 then r else if d = 2 then m / 64 else 0 := by
  unfold gOf
  rw [upN_s, upN_s, if_pos hk]
  obtain rfl | rfl | rfl | rfl : d = 0 ∨ d = 1 ∨ d = 2 ∨ d = 3 := by omega
  · simp
  · simp [g4_1]
  · simp
  · simp
theorem fcF_add (hP : P < 40) : upN (upN (upN (upN (upN (upN (upN (fcF kd mo gl P) (4 * (1 + P) + 0) a) (4 * (1 + P) + 1) (if k = 2 then 0 else r)) (4 * (1 + P) + 2) b) (4 * (1 + P) + 3) l) (4 * (1 + P + 64) + 0) (if k = 2 then m % 64 else 0)) (4 * (1 + P + 64) + 1) (if k = 2 then r else 0)) (4 * (1 + P + 64) + 2) (if k = 2 then m / 64 else 0) = fcF (upN kd P k) (upN mo P m) (gl4 gl P a r b l) (P + 1) := by
  funext j
  by_cases h1 : j / 4 = 1 + P
  · have e : fcF (upN kd P k) (upN mo P m) (gl4 gl P a r b l) (P + 1) j = gOf (upN kd P k) (upN mo P m) (gl4 gl P a r b l) P 0 (j % 4) := by
      unfold fcF
      rw [if_pos (by omega), show j / 4 - 1 = P by omega]
    rw [e, gN_0 (by omega)]
    obtain h | h | h | h : j % 4 = 0 ∨ j % 4 = 1 ∨ j % 4 = 2 ∨ j % 4 = 3 := by omega
    · rw [show j = 4 * (1 + P) + 0 by omega, upN_n (by omega), upN_n (by omega), upN_n (by omega), upN_n (by omega), upN_n (by omega), upN_n (by omega), upN_s, if_pos (by omega)]
    · rw [show j = 4 * (1 + P) + 1 by omega, upN_n (by omega), upN_n (by omega), upN_n (by omega), upN_n (by omega), upN_n (by omega), upN_s, if_neg (show ¬ (4 * (1 + P) + 1) % 4 = 0 by omega), if_pos (show (4 * (1 + P) + 1) % 4 = 1 by omega)]
    · rw [show j = 4 * (1 + P) + 2 by omega, upN_n (by omega), upN_n (by omega), upN_n (by omega), upN_n (by omega), upN_s, if_neg (by omega), if_neg (by omega), if_pos (by omega)]
    · rw [show j = 4 * (1 + P) + 3 by omega, upN_n (by omega), upN_n (by omega), upN_n (by omega), upN_s, if_neg (by omega), if_neg (by omega), if_neg (by omega)]
  · by_cases h2 : j / 4 = 65 + P
    · have e : fcF (upN kd P k) (upN mo P m) (gl4 gl P a r b l) (P + 1) j = if k = 2 then gOf (upN kd P k) (upN mo P m) (gl4 gl P a r b l) P 1 (j % 4) else 0 := by
        unfold fcF
        rw [if_neg (by omega), show j / 4 - 65 = P by omega, upN_s]
        by_cases hk : k = 2
        · rw [if_pos ⟨by omega, by omega, hk⟩, if_pos hk]
        · rw [if_neg (fun q => hk q.2.2), if_neg hk]
      rw [e]
      by_cases hk : k = 2
      · rw [if_pos hk, gN_1 (by omega) hk, if_pos hk, if_pos hk, if_pos hk, if_pos hk]
        obtain h | h | h | h : j % 4 = 0 ∨ j % 4 = 1 ∨ j % 4 = 2 ∨ j % 4 = 3 := by omega
        · rw [show j = 4 * (1 + P + 64) + 0 by omega, upN_n (by omega), upN_n (by omega), upN_s, if_pos (by omega)]
        · rw [show j = 4 * (1 + P + 64) + 1 by omega, upN_n (by omega), upN_s, if_neg (by omega), if_pos (by omega)]
        · rw [show j = 4 * (1 + P + 64) + 2 by omega, upN_s, if_neg (by omega), if_neg (by omega), if_pos (by omega)]
        · rw [upN_n (by omega), upN_n (by omega), upN_n (by omega), upN_n (by omega), upN_n (by omega), upN_n (by omega), upN_n (by omega), if_neg (by omega), if_neg (by omega), if_neg (by omega)]
          unfold fcF
          rw [if_neg (by omega), if_neg (by omega)]
      · rw [if_neg hk, if_neg hk, if_neg hk, if_neg hk, if_neg hk]
        have e0 : fcF kd mo gl P j = 0 := by
          unfold fcF
          rw [if_neg (by omega), if_neg (by omega)]
        unfold upN
        rw [if_neg (show ¬ j = 4 * (1 + P) + 3 by omega), if_neg (show ¬ j = 4 * (1 + P) + 2 by omega), if_neg (show ¬ j = 4 * (1 + P) + 1 by omega), if_neg (show ¬ j = 4 * (1 + P) + 0 by omega), e0]
        repeat' split
        all_goals rfl
    · rw [upN_n (by omega), upN_n (by omega), upN_n (by omega), upN_n (by omega), upN_n (by omega), upN_n (by omega), upN_n (by omega)]
      unfold fcF
      by_cases h3 : 1 ≤ j / 4 ∧ j / 4 ≤ P
      · rw [if_pos h3, if_pos (by omega), gOf_old (by omega) (by omega)]
      · rw [if_neg h3, if_neg (show ¬ (1 ≤ j / 4 ∧ j / 4 ≤ P + 1) by omega)]
        by_cases h4 : 65 ≤ j / 4 ∧ j / 4 < 65 + P ∧ kd (j / 4 - 65) = 2
        · rw [if_pos h4, if_pos ⟨h4.1, by omega, by rw [upN_n (by omega)]; exact h4.2.2⟩, gOf_old (by omega) (by omega)]
        · rw [if_neg h4, if_neg]
          rintro ⟨q1, q2, q3⟩
          rw [upN_n (by omega)] at q3
          exact h4 ⟨q1, by omega, q3⟩
theorem shF_add (hP : P < 40) (ha : a ≤ 50) (hr : r ≤ 50) (hb : b ≤ 50) (hl : l ≤ 50) : (fun j => mk (shw (shw (shw (shw (shB kd mo gl P) P 0 a) P 1 (if k = 2 then 0 else r)) P 2 b) P 3 l j)) = fun j => shF (upN kd P k) (upN mo P m) (gl4 gl P a r b l) (P + 1) j := by
  funext j
  unfold shF
  apply mk_cong
  intro p hp
  unfold shw
  rcases Nat.lt_trichotomy p P with q | q | q
  · have e : shB (upN kd P k) (upN mo P m) (gl4 gl P a r b l) (P + 1) j p = shB kd mo gl P j p := by
      unfold shB
      rw [Bool.eq_iff_iff]
      simp only [decide_eq_true_eq]
      constructor
      · rintro ⟨q1, q2, q3, q4⟩
        rw [gOf_old q (by omega)] at q4
        exact ⟨q, q2, q3, q4⟩
      · rintro ⟨q1, q2, q3, q4⟩
        rw [gOf_old q (by omega)]
        exact ⟨by omega, q2, q3, q4⟩
    rw [e]
    have : ¬ p = P := by omega
    simp [this]
  · subst q
    rw [shB_no (Nat.le_refl _)]
    have e : shB (upN kd p k) (upN mo p m) (gl4 gl p a r b l) (p + 1) j p = decide (j < 204 ∧ j % 51 ≠ 0 ∧ (if j / 51 = 0 then a else if j / 51 = 1 then (if k = 2 then 0 else r) else if j / 51 = 2 then b else l) = j % 51) := by
      unfold shB
      rw [Bool.eq_iff_iff]
      simp only [decide_eq_true_eq]
      constructor
      · rintro ⟨q1, q2, q3, q4⟩
        rw [gN_0 (by omega)] at q4
        exact ⟨q2, q3, q4⟩
      · rintro ⟨q2, q3, q4⟩
        rw [gN_0 (by omega)]
        exact ⟨by omega, q2, q3, q4⟩
    rw [e, Bool.eq_iff_iff]
    have hr' : (if k = 2 then 0 else r) ≤ 50 := by split <;> omega
    generalize (if k = 2 then 0 else r) = r' at *
    simp only [decide_true, Bool.and_true, Bool.false_or, Bool.or_eq_true, Bool.and_eq_true, decide_eq_true_eq]
    constructor
    · rintro (((⟨h1, h2⟩ | ⟨h1, h2⟩) | ⟨h1, h2⟩) | ⟨h1, h2⟩)
      · exact ⟨by omega, by omega, by rw [if_pos (by omega)]; omega⟩
      · exact ⟨by omega, by omega, by rw [if_neg (by omega), if_pos (by omega)]; omega⟩
      · exact ⟨by omega, by omega, by rw [if_neg (by omega), if_neg (by omega), if_pos (by omega)]; omega⟩
      · exact ⟨by omega, by omega, by rw [if_neg (by omega), if_neg (by omega), if_neg (by omega)]; omega⟩
    · rintro ⟨h1, h2, h3⟩
      obtain h | h | h | h : j / 51 = 0 ∨ j / 51 = 1 ∨ j / 51 = 2 ∨ j / 51 = 3 := by omega
      · rw [if_pos h] at h3
        left; left; left; omega
      · rw [if_neg (by omega), if_pos h] at h3
        left; left; right; omega
      · rw [if_neg (by omega), if_neg (by omega), if_pos h] at h3
        left; right; omega
      · rw [if_neg (by omega), if_neg (by omega), if_neg (by omega)] at h3
        right; omega
  · rw [shB_no (by omega), shB_no (by omega)]
    have : ¬ p = P := by omega
    simp [this]
theorem srF_add (hP : P < 40) (hm : k = 2 → m % 64 ≤ 50 ∧ m / 64 ≤ 50) (hr : r ≤ 50) : (fun j => mk (shw (shw (shw (srB kd mo gl P) P 0 (if k = 2 then m % 64 else 0)) P 1 (if k = 2 then r else 0)) P 2 (if k = 2 then m / 64 else 0) j)) = fun j => srF (upN kd P k) (upN mo P m) (gl4 gl P a r b l) (P + 1) j := by
  funext j
  unfold srF
  apply mk_cong
  intro p hp
  unfold shw
  rcases Nat.lt_trichotomy p P with q | q | q
  · have e : srB (upN kd P k) (upN mo P m) (gl4 gl P a r b l) (P + 1) j p = srB kd mo gl P j p := by
      unfold srB
      rw [Bool.eq_iff_iff]
      simp only [decide_eq_true_eq]
      constructor
      · rintro ⟨q1, q2, q3, q5, q4⟩
        rw [gOf_old q (by omega)] at q4
        rw [upN_n (by omega)] at q5
        exact ⟨q, q2, q3, q5, q4⟩
      · rintro ⟨q1, q2, q3, q5, q4⟩
        rw [gOf_old q (by omega), upN_n (by omega)]
        exact ⟨by omega, q2, q3, q5, q4⟩
    rw [e]
    have : ¬ p = P := by omega
    simp [this]
  · subst q
    rw [srB_no (Nat.le_refl _)]
    by_cases hk : k = 2
    · have e : srB (upN kd p k) (upN mo p m) (gl4 gl p a r b l) (p + 1) j p = decide (j < 204 ∧ j % 51 ≠ 0 ∧ (if j / 51 = 0 then m % 64 else if j / 51 = 1 then r else if j / 51 = 2 then m / 64 else 0) = j % 51) := by
        unfold srB
        rw [Bool.eq_iff_iff]
        simp only [decide_eq_true_eq]
        constructor
        · rintro ⟨q1, q2, q3, q5, q4⟩
          rw [gN_1 (by omega) hk] at q4
          exact ⟨q2, q3, q4⟩
        · rintro ⟨q2, q3, q4⟩
          rw [gN_1 (by omega) hk, upN_s]
          exact ⟨by omega, q2, q3, hk, q4⟩
      have hm2 := hm hk
      rw [e, if_pos hk, if_pos hk, if_pos hk, Bool.eq_iff_iff]
      generalize m % 64 = m1 at *
      generalize m / 64 = m2 at *
      simp only [decide_true, Bool.and_true, Bool.false_or, Bool.or_eq_true, Bool.and_eq_true, decide_eq_true_eq]
      constructor
      · rintro ((⟨h1, h2⟩ | ⟨h1, h2⟩) | ⟨h1, h2⟩)
        · exact ⟨by omega, by omega, by rw [if_pos (by omega)]; omega⟩
        · exact ⟨by omega, by omega, by rw [if_neg (by omega), if_pos (by omega)]; omega⟩
        · exact ⟨by omega, by omega, by rw [if_neg (by omega), if_neg (by omega), if_pos (by omega)]; omega⟩
      · rintro ⟨h1, h2, h3⟩
        obtain h | h | h | h : j / 51 = 0 ∨ j / 51 = 1 ∨ j / 51 = 2 ∨ j / 51 = 3 := by omega
        · rw [if_pos h] at h3
          left; left; omega
        · rw [if_neg (by omega), if_pos h] at h3
          left; right; omega
        · rw [if_neg (by omega), if_neg (by omega), if_pos h] at h3
          right; omega
        · rw [if_neg (by omega), if_neg (by omega), if_neg (by omega)] at h3
          omega
    · have e : srB (upN kd p k) (upN mo p m) (gl4 gl p a r b l) (p + 1) j p = false := by
        unfold srB
        rw [upN_s]
        simp [hk]
      rw [e, if_neg hk, if_neg hk, if_neg hk]
      simp
  · rw [srB_no (by omega), srB_no (by omega)]
    have : ¬ p = P := by omega
    simp [this]
theorem brd_old {p d : Nat} (hp : p < P) : brd (upN kd P k) (upN mo P m) p d = brd kd mo p d := by
  unfold brd
  rw [upN_n (by omega), upN_n (by omega)]
theorem baF_add (hP : P < 40) : upN (baF kd mo P) (1 + P) (if k = 4 ∨ k = 5 then m % 16 else 0) = baF (upN kd P k) (upN mo P m) (P + 1) := by
  funext c
  by_cases h1 : c = 1 + P
  · subst h1
    rw [upN_s]
    unfold baF
    rw [show 1 + P - 1 = P by omega, upN_s, upN_s]
    by_cases hk : k = 4 ∨ k = 5
    · rw [if_pos hk, if_pos ⟨by omega, by omega, hk⟩]
    · rw [if_neg hk, if_neg (fun q => hk q.2.2)]
  · rw [upN_n h1]
    unfold baF
    by_cases h2 : 1 ≤ c ∧ c ≤ P
    · rw [upN_n (show c - 1 ≠ P by omega), upN_n (show c - 1 ≠ P by omega)]
      by_cases hk : kd (c - 1) = 4 ∨ kd (c - 1) = 5
      · rw [if_pos ⟨h2.1, h2.2, hk⟩, if_pos ⟨h2.1, by omega, hk⟩]
      · rw [if_neg (fun q => hk q.2.2), if_neg (fun q => hk q.2.2)]
    · rw [if_neg (by omega), if_neg (by omega)]
end
def brU (S : Nat → Nat → Bool) (P s : Nat) (i : Nat) : Nat → Nat → Bool := fun k p => S k p || (decide (k < i) && decide (p = P) && s.testBit k)
theorem sp_barSides {S : Nat → Nat → Bool} {F : Nat → Nat} {P s : Nat} (hP : P < 40) (hs : s < 16) (Q : (Nat → Int32) → (Nat → Int64) → Prop) (h : Q (fun j => nI (upN F (1 + P) s j)) (fun k => mk (brU S P s 4 k))) :
    wp_X1_barSides (fun j => nI (F j)) (fun k => mk (S k)) (nI P) (nI s) Q := by
  unfold wp_X1_barSides
  rw [da_1, vp_in' (by omega), nI_clamp' (by omega), upd_N]
  refine ⟨by omega, ?_⟩
  rintro _ rfl
  have key := lp_up (W := fun n i => wq_X1_barSides_11 Q n (fun j => nI (upN F (1 + P) s j)) (fun k => mk (brU S P s i k)) (nI P) (nI s) (nI i)) (I := fun _ => True) 4 ?_ 0 (Nat.zero_le _) trivial
  · have e : (fun k => mk (brU S P s 0 k)) = fun k => mk (S k) := by
      funext k
      apply mk_cong
      intro p _
      unfold brU
      simp
    rw [e] at key
    exact key
  · intro n i hi _ ih
    show wf_X1_barSides_11 _ _ _ _ _ _ _
    unfold wf_X1_barSides_11
    rw [le_4 (by omega)]
    refine ⟨fun q => ?_, fun q => ?_⟩
    · obtain rfl : i = 4 := by omega
      exact h
    · have ih := ih (by omega) trivial
      apply sp_bitOf _ (by omega)
      rw [bt_nI (by omega), bI_1]
      refine ⟨fun hb => ?_, fun hb => ?_⟩
      · rintro _ rfl
        have e : (fun k => mk (brU S P s (i + 1) k)) = fun k => mk (brU S P s i k) := by
          funext k
          apply mk_cong
          intro p _
          unfold brU
          by_cases e : k = i
          · subst e
            simp [ts_nt hb]
          · have : (k < i + 1) = (k < i) := propext ⟨fun _ => by omega, fun _ => by omega⟩
            simp [this]
        rw [e] at ih
        rw [ad_1]
        exact ih
      · rw [vp_in' (by omega), nI_clamp' (by omega)]
        refine ⟨by omega, ?_⟩
        rintro _ rfl
        refine ⟨by omega, ?_⟩
        rintro _ rfl _ rfl
        rw [mk_one (by omega), mkL_up (brU S P s i), ad_1]
        have e : (fun k => mk (brU S P s (i + 1) k)) = fun k => mk (fun p => brU S P s i k p || (decide (k = i) && decide (p = P))) := by
          funext k
          apply mk_cong
          intro p _
          unfold brU
          by_cases e : k = i
          · subst e
            simp [hb]
          · have : (k < i + 1) = (k < i) := propext ⟨fun _ => by omega, fun _ => by omega⟩
            simp [this, e]
        rw [e] at ih
        exact ih
theorem brF_add {kd mo : Nat → Nat} {P k m : Nat} (hP : P < 40) : (fun d => mk (brU (brB kd mo P) P (if k = 4 ∨ k = 5 then m % 16 else 0) 4 d)) = fun d => brF (upN kd P k) (upN mo P m) (P + 1) d := by
  funext d
  unfold brF
  apply mk_cong
  intro p hp
  unfold brU brB
  rcases Nat.lt_trichotomy p P with q | q | q
  · rw [brd_old q]
    have h1 : ¬ p = P := by omega
    have h2 : p < P + 1 := by omega
    simp [h1, q, h2]
  · subst q
    unfold brd
    rw [upN_s, upN_s]
    by_cases hk : k = 4 ∨ k = 5
    · rw [if_pos hk, show (16 : Nat) = 2 ^ 4 from rfl, Nat.testBit_mod_two_pow, Nat.testBit_eq_decide_div_mod_eq]
      simp [hk]
    · rw [if_neg hk]
      simp [hk]
  · have h1 : ¬ p = P := by omega
    have h2 : ¬ p < P := by omega
    have h3 : ¬ p < P + 1 := by omega
    simp [h1, h2, h3]
theorem sp_enrol {kd : Nat → Nat} {P k : Nat} (hP : P < 40) (hk : k ≤ 5) (Q : Int64 → Int64 → Int64 → Prop) (h : Q (seF (upN kd P k) (P + 1)) (blF (upN kd P k) (P + 1)) (rvF (upN kd P k) (P + 1))) :
    wp_X1_enrol (seF kd P) (blF kd P) (rvF kd P) (nI P) (nI k) Q := by
  have gen : ∀ (c : Nat → Bool), (∀ v, c v = c v) → mk (fun p => decide (p < P + 1) && c (upN kd P k p)) = if c k then mk (fun p => decide (p < P) && c (kd p)) ||| mk (fun i => decide (i = P)) else mk (fun p => decide (p < P) && c (kd p)) := by
    intro c _
    apply tb_ext
    intro p hp
    rw [tb_mk _ hp]
    have hx : tb (if c k = true then mk (fun p => decide (p < P) && c (kd p)) ||| mk (fun i => decide (i = P)) else mk (fun p => decide (p < P) && c (kd p))) p = ((decide (p < P) && c (kd p)) || (c k && decide (p = P))) := by
      cases hc : c k
      · rw [if_neg (by decide), tb_mk _ hp]
        simp
      · rw [if_pos rfl, tb_or, tb_mk _ hp, tb_mk _ hp]
        simp
    rw [hx]
    rcases Nat.lt_trichotomy p P with q | q | q
    · have h1 : ¬ p = P := by omega
      have h2 : p < P + 1 := by omega
      rw [upN_n h1]
      simp [h1, q, h2]
    · subst q
      rw [upN_s]
      simp
    · have h1 : ¬ p = P := by omega
      have h2 : ¬ p < P := by omega
      have h3 : ¬ p < P + 1 := by omega
      simp [h1, h2, h3]
  have e1 : seF (upN kd P k) (P + 1) = if k = 1 then seF kd P ||| mk (fun i => decide (i = P)) else seF kd P := by
    have := gen (fun v => decide (v = 1)) (fun _ => rfl)
    unfold seF
    simp only [Bool.decide_and]
    rw [this]
    simp
  have e2 : blF (upN kd P k) (P + 1) = if k = 2 then blF kd P ||| mk (fun i => decide (i = P)) else blF kd P := by
    have := gen (fun v => decide (v = 2)) (fun _ => rfl)
    unfold blF
    simp only [Bool.decide_and]
    rw [this]
    simp
  have e3 : rvF (upN kd P k) (P + 1) = if k ≠ 1 ∧ k ≠ 2 ∧ k ≠ 4 then rvF kd P ||| mk (fun i => decide (i = P)) else rvF kd P := by
    have := gen (fun v => decide (v ≠ 1 ∧ v ≠ 2 ∧ v ≠ 4)) (fun _ => rfl)
    unfold rvF
    have ed : ∀ (n : Nat) (f : Nat → Nat), mk (fun p => decide (p < n ∧ f p ≠ 1 ∧ f p ≠ 2 ∧ f p ≠ 4)) = mk (fun p => decide (p < n) && decide (f p ≠ 1 ∧ f p ≠ 2 ∧ f p ≠ 4)) := fun n f => mk_cong fun p _ => by rw [Bool.decide_and]
    rw [ed, ed, this]
    simp only [decide_eq_true_eq]
  rw [e1, e2, e3] at h
  unfold wp_X1_enrol
  rw [mk_one (by omega)]
  rintro _ rfl
  rw [eq_1 (by omega), eq_2 (by omega), eq_4 (by omega)]
  refine ⟨fun n1 => ⟨fun n2 => ⟨fun w4 => ?_, fun n4 => ?_⟩, fun w2 => ?_⟩, fun w1 => ?_⟩
  · rw [if_neg n1, if_neg n2, if_neg (fun q => q.2.2 w4)] at h
    exact h
  · rw [if_neg n1, if_neg n2, if_pos ⟨n1, n2, n4⟩] at h
    rintro _ rfl
    exact h
  · rw [if_neg n1, if_pos w2, if_neg (fun q => q.2.1 w2)] at h
    rintro _ rfl
    exact h
  · rw [if_pos w1, if_neg (by omega), if_neg (fun q => q.1 w1)] at h
    rintro _ rfl
    exact h
