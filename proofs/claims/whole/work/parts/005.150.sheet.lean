/-! the sheet: putting and taking away, in plain numbers -/
def upN (f : Nat → Nat) (k v : Nat) : Nat → Nat := fun j => if j = k then v else f j
theorem upN_s (f : Nat → Nat) (k v : Nat) : upN f k v k = v := if_pos rfl
theorem upN_n {f : Nat → Nat} {k v j : Nat} (h : j ≠ k) : upN f k v j = f j := if_neg h
theorem upd_N (f : Nat → Nat) (k v : Nat) : upd (fun j => nI (f j)) k (nI v) = fun j => nI (upN f k v j) := by
  funext j
  rw [upd_at]
  unfold upN
  split <;> rfl
def celK (k : Nat) : Nat := celN (k % 16) (k / 16)
theorem celK_on {k : Nat} (h : k < 256) : onC (celK k) = true := onC_cel (by omega) (by omega)
theorem celK_b {k : Nat} (h : k < 256) : 19 ≤ celK k ∧ celK k ≤ 304 := by
  unfold celK celN
  omega
theorem celK_inj {a b : Nat} (h : celK a = celK b) : a = b := by
  unfold celK celN at h
  omega
theorem celK_onI {c : Nat} (h : onC c = true) : celK (onI c) = c ∧ onI c < 256 := by
  have hb := onC_b h
  unfold celK celN onI
  omega
theorem onI_celK {k : Nat} (h : k < 256) : onI (celK k) = k := by
  unfold celK celN onI
  omega
theorem celK_xy {x y : Nat} (hx : x < 16) : celK (x + 16 * y) = celN x y := by
  unfold celK
  rw [show (x + 16 * y) % 16 = x by omega, show (x + 16 * y) / 16 = y by omega]
theorem celK_r {k : Nat} (h : k % 16 < 15) : celK (k + 1) = celK k + 1 := by
  unfold celK celN
  omega
theorem pad_K {on : Nat → Nat} {k : Nat} (h : k < 256) : pad on (celK k) = on k := by
  unfold celK
  rw [pad_cel (by omega) (by omega)]
  congr 1
  omega
theorem pad_onI {on : Nat → Nat} {c : Nat} (h : onC c = true) : pad on c = on (onI c) := by
  unfold pad onI
  rw [if_pos h]
theorem pad_up {on : Nat → Nat} {k v : Nat} (h : k < 256) : pad (upN on k v) = upN (pad on) (celK k) v := by
  funext c
  by_cases hc : c = celK k
  · subst hc
    rw [pad_K h, upN_s, upN_s]
  · rw [upN_n hc]
    cases ho : onC c
    · rw [pad_off ho, pad_off ho]
    · rw [pad_onI ho, pad_onI ho, upN_n]
      intro e
      apply hc
      rw [← e, (celK_onI ho).1]
def okS (kd : Nat → Nat) (P : Nat) (on : Nat → Nat) : Prop :=
  (∀ k, okQ kd P (on k)) ∧ (∀ k, 256 ≤ k → on k = 0) ∧ (∀ k, on k % 2 = 1 → kd ((on k - 1) / 2) = 2 → k % 16 < 15 ∧ on (k + 1) = on k + 1) ∧ (∀ k, on k ≠ 0 → on k % 2 = 0 → 1 ≤ k % 16 ∧ on (k - 1) + 1 = on k)
theorem okQ_0 (kd : Nat → Nat) (P : Nat) : okQ kd P 0 := ⟨Nat.zero_le _, fun h => absurd rfl h⟩
theorem okS_0 (kd : Nat → Nat) (P : Nat) : okS kd P (fun _ => 0) := ⟨fun _ => okQ_0 kd P, fun _ _ => rfl, fun _ h => absurd h (show ¬ (0 : Nat) % 2 = 1 by decide), fun _ h => absurd rfl h⟩
theorem okS_pad {kd : Nat → Nat} {P : Nat} {on : Nat → Nat} (h : okS kd P on) (c : Nat) : okQ kd P (pad on c) := by
  cases ho : onC c
  · rw [pad_off ho]
    exact okQ_0 kd P
  · rw [pad_onI ho]
    exact h.1 _
theorem okS_B {kd : Nat → Nat} {P : Nat} {on : Nat → Nat} (h : okS kd P on) : okB P on := fun k => (h.1 k).1
def layN (kd : Nat → Nat) (p k : Nat) (on : Nat → Nat) : Nat → Nat := if kd p = 2 then upN (upN on k (1 + 2 * p)) (k + 1) (2 + 2 * p) else upN on k (1 + 2 * p)
def awyN (kd : Nat → Nat) (p k : Nat) (on : Nat → Nat) : Nat → Nat := if kd p = 2 then upN (upN on k 0) (k + 1) 0 else upN on k 0
/-- room for p at place k -/
def freN (kd : Nat → Nat) (p k : Nat) (on : Nat → Nat) : Prop := k < 256 ∧ on k = 0 ∧ (kd p = 2 → k % 16 < 15 ∧ on (k + 1) = 0)
theorem awy_lay {kd : Nat → Nat} {p k : Nat} {on : Nat → Nat} (h : freN kd p k on) : awyN kd p k (layN kd p k on) = on := by
  obtain ⟨h1, h2, h3⟩ := h
  funext j
  unfold awyN layN upN
  by_cases hk : kd p = 2
  · have := h3 hk
    simp only [if_pos hk]
    by_cases e1 : j = k + 1
    · subst e1; rw [if_pos rfl, this.2]
    · rw [if_neg e1]
      by_cases e2 : j = k
      · subst e2; rw [if_pos rfl, h2]
      · rw [if_neg e2, if_neg e1, if_neg e2]
  · simp only [if_neg hk]
    by_cases e2 : j = k
    · subst e2; rw [if_pos rfl, h2]
    · rw [if_neg e2, if_neg e2]
theorem okS_lay {kd : Nat → Nat} {P p k : Nat} {on : Nat → Nat} (h : okS kd P on) (hp : p < P) (hf : freN kd p k on) : okS kd P (layN kd p k on) := by
  obtain ⟨h1, h2, h3, h4⟩ := h
  obtain ⟨f1, f2, f3⟩ := hf
  have no3 : ∀ j, on j % 2 = 1 → kd ((on j - 1) / 2) = 2 → j + 1 ≠ k := by
    intro j a b e
    have := (h3 j a b).2
    rw [e, f2] at this
    omega
  have no4 : ∀ j, on j ≠ 0 → on j % 2 = 0 → j - 1 ≠ k := by
    intro j a b e
    have := (h4 j a b).2
    rw [e, f2] at this
    omega
  unfold layN
  by_cases hk : kd p = 2
  · have g := f3 hk
    rw [if_pos hk]
    have no4b : ∀ j, on j ≠ 0 → on j % 2 = 0 → j - 1 ≠ k + 1 := by
      intro j a b e
      have := (h4 j a b).2
      rw [e, g.2] at this
      omega
    have no3b : ∀ j, on j % 2 = 1 → kd ((on j - 1) / 2) = 2 → j + 1 ≠ k + 1 := by
      intro j a b e
      have e : j = k := by omega
      rw [e, f2] at a
      omega
    have hv : ∀ j, upN (upN on k (1 + 2 * p)) (k + 1) (2 + 2 * p) j = if j = k + 1 then 2 + 2 * p else if j = k then 1 + 2 * p else on j := fun j => rfl
    refine ⟨fun j => ?_, fun j hj => ?_, fun j => ?_, fun j => ?_⟩
    · rw [hv]
      split
      · exact okQ_even hp hk
      · split
        · exact okQ_odd hp
        · exact h1 j
    · rw [hv, if_neg (by omega), if_neg (by omega), h2 j hj]
    · rw [hv j]
      by_cases e1 : j = k + 1
      · rw [if_pos e1]
        intro a
        omega
      · rw [if_neg e1]
        by_cases e2 : j = k
        · subst e2
          rw [if_pos rfl, hv, if_pos rfl]
          intro _ _
          exact ⟨g.1, by omega⟩
        · rw [if_neg e2]
          intro a b
          have c1 := no3 j a b
          have c2 := no3b j a b
          rw [hv, if_neg c2, if_neg c1]
          exact h3 j a b
    · rw [hv j]
      by_cases e1 : j = k + 1
      · subst e1
        rw [if_pos rfl, hv, show k + 1 - 1 = k by omega, if_neg (by omega), if_pos rfl]
        intro _ _
        omega
      · rw [if_neg e1]
        by_cases e2 : j = k
        · rw [if_pos e2]
          intro _ a
          omega
        · rw [if_neg e2]
          intro a b
          have c1 := no4 j a b
          have c2 := no4b j a b
          rw [hv, if_neg c2, if_neg c1]
          exact h4 j a b
  · rw [if_neg hk]
    have hv : ∀ j, upN on k (1 + 2 * p) j = if j = k then 1 + 2 * p else on j := fun j => rfl
    refine ⟨fun j => ?_, fun j hj => ?_, fun j => ?_, fun j => ?_⟩
    · rw [hv]
      split
      · exact okQ_odd hp
      · exact h1 j
    · rw [hv, if_neg (by omega), h2 j hj]
    · rw [hv j]
      by_cases e2 : j = k
      · rw [if_pos e2, show (1 + 2 * p - 1) / 2 = p by omega]
        intro _ a
        exact absurd a hk
      · rw [if_neg e2]
        intro a b
        have c1 := no3 j a b
        rw [hv, if_neg c1]
        exact h3 j a b
    · rw [hv j]
      by_cases e2 : j = k
      · rw [if_pos e2]
        intro _ a
        omega
      · rw [if_neg e2]
        intro a b
        have c1 := no4 j a b
        rw [hv, if_neg c1]
        exact h4 j a b
theorem okS_awy {kd : Nat → Nat} {P p k : Nat} {on : Nat → Nat} (h : okS kd P on) (hk0 : on k = 1 + 2 * p) : okS kd P (awyN kd p k on) := by
  obtain ⟨h1, h2, h3, h4⟩ := h
  have hkp : (on k - 1) / 2 = p := by rw [hk0]; omega
  have no3 : ∀ j, on j % 2 = 1 → kd ((on j - 1) / 2) = 2 → j + 1 ≠ k := by
    intro j a b e
    have := (h3 j a b).2
    rw [e, hk0] at this
    omega
  have no4 : ∀ j, on j ≠ 0 → on j % 2 = 0 → j - 1 = k → kd p = 2 ∧ j = k + 1 := by
    intro j a b e
    have g := h4 j a b
    rw [e, hk0] at g
    have := (h1 j).2 a b
    rw [show (on j - 1) / 2 = p by omega] at this
    exact ⟨this, by omega⟩
  unfold awyN
  by_cases hk : kd p = 2
  · have g := h3 k (by omega) (by rw [hkp]; exact hk)
    rw [if_pos hk]
    have hv : ∀ j, upN (upN on k 0) (k + 1) 0 j = if j = k + 1 then 0 else if j = k then 0 else on j := fun j => rfl
    refine ⟨fun j => ?_, fun j hj => ?_, fun j => ?_, fun j => ?_⟩
    · rw [hv]
      split
      · exact okQ_0 _ _
      · split
        · exact okQ_0 _ _
        · exact h1 j
    · rw [hv]
      split
      · rfl
      · split
        · rfl
        · exact h2 j hj
    · rw [hv j]
      by_cases e1 : j = k + 1
      · rw [if_pos e1]
        intro a
        omega
      · rw [if_neg e1]
        by_cases e2 : j = k
        · rw [if_pos e2]
          intro a
          omega
        · rw [if_neg e2]
          intro a b
          have c1 := no3 j a b
          rw [hv, if_neg (by omega), if_neg c1]
          exact h3 j a b
    · rw [hv j]
      by_cases e1 : j = k + 1
      · rw [if_pos e1]
        intro a
        exact absurd rfl a
      · rw [if_neg e1]
        by_cases e2 : j = k
        · rw [if_pos e2]
          intro a
          exact absurd rfl a
        · rw [if_neg e2]
          intro a b
          have c0 := h4 j a b
          have c1 : j - 1 ≠ k := fun e => e1 (no4 j a b e).2
          have c2 : j - 1 ≠ k + 1 := by
            intro e
            rw [e, g.2, hk0] at c0
            omega
          rw [hv, if_neg c2, if_neg c1]
          exact c0
  · rw [if_neg hk]
    have hv : ∀ j, upN on k 0 j = if j = k then 0 else on j := fun j => rfl
    refine ⟨fun j => ?_, fun j hj => ?_, fun j => ?_, fun j => ?_⟩
    · rw [hv]
      split
      · exact okQ_0 _ _
      · exact h1 j
    · rw [hv]
      split
      · rfl
      · exact h2 j hj
    · rw [hv j]
      by_cases e2 : j = k
      · rw [if_pos e2]
        intro a
        omega
      · rw [if_neg e2]
        intro a b
        have c1 := no3 j a b
        rw [hv, if_neg c1]
        exact h3 j a b
    · rw [hv j]
      by_cases e2 : j = k
      · rw [if_pos e2]
        intro a
        exact absurd rfl a
      · rw [if_neg e2]
        intro a b
        have c1 : j - 1 ≠ k := fun e => hk (no4 j a b e).1
        rw [hv, if_neg c1]
        exact h4 j a b
/-! how many pieces, and how many that are no seeds -/
def cnt (on : Nat → Nat) : Nat := fb_ct (fun k => decide (on k % 2 = 1)) 256
def grn (kd on : Nat → Nat) : Nat := fb_ct (fun k => decide (on k % 2 = 1 ∧ kd ((on k - 1) / 2) ≠ 1)) 256
theorem cnt_up (on : Nat → Nat) {k v : Nat} (h : k < 256) : cnt (upN on k v) + (if on k % 2 = 1 then 1 else 0) = cnt on + (if v % 2 = 1 then 1 else 0) := by
  have e : (fun j => decide (upN on k v j % 2 = 1)) = (fun j => if j = k then decide (v % 2 = 1) else decide (on j % 2 = 1)) := by
    funext j
    unfold upN
    split <;> rfl
  have := fb_ct_upd (fun j => decide (on j % 2 = 1)) (decide (v % 2 = 1)) h
  unfold cnt
  rw [e]
  simpa using this
theorem grn_up (kd on : Nat → Nat) {k v : Nat} (h : k < 256) : grn kd (upN on k v) + (if on k % 2 = 1 ∧ kd ((on k - 1) / 2) ≠ 1 then 1 else 0) = grn kd on + (if v % 2 = 1 ∧ kd ((v - 1) / 2) ≠ 1 then 1 else 0) := by
  have e : (fun j => decide (upN on k v j % 2 = 1 ∧ kd ((upN on k v j - 1) / 2) ≠ 1)) = (fun j => if j = k then decide (v % 2 = 1 ∧ kd ((v - 1) / 2) ≠ 1) else decide (on j % 2 = 1 ∧ kd ((on j - 1) / 2) ≠ 1)) := by
    funext j
    unfold upN
    split <;> rfl
  have := fb_ct_upd (fun j => decide (on j % 2 = 1 ∧ kd ((on j - 1) / 2) ≠ 1)) (decide (v % 2 = 1 ∧ kd ((v - 1) / 2) ≠ 1)) h
  unfold grn
  rw [e]
  simpa using this
theorem cnt_le (on : Nat → Nat) : cnt on ≤ 256 := fb_ct_le _ _
theorem grn_le (kd on : Nat → Nat) : grn kd on ≤ cnt on := fb_ct_sub fun k _ h => by
  simp at h ⊢
  exact h.1
theorem cnt_lay {kd : Nat → Nat} {p k : Nat} {on : Nat → Nat} (hf : freN kd p k on) : cnt (layN kd p k on) = cnt on + 1 ∧ grn kd (layN kd p k on) = grn kd on + (if kd p = 1 then 0 else 1) := by
  obtain ⟨f1, f2, f3⟩ := hf
  have a1 := cnt_up on (k := k) (v := 1 + 2 * p) f1
  have b1 := grn_up kd on (k := k) (v := 1 + 2 * p) f1
  rw [f2, show (1 + 2 * p - 1) / 2 = p by omega] at b1
  rw [f2] at a1
  rw [if_neg (by decide), if_pos (by omega)] at a1
  have e : (if (0 : Nat) % 2 = 1 ∧ kd ((0 - 1) / 2) ≠ 1 then 1 else 0) = 0 := if_neg (fun q => absurd q.1 (by decide))
  rw [e] at b1
  have e2 : (if (1 + 2 * p) % 2 = 1 ∧ kd p ≠ 1 then 1 else 0) = (if kd p = 1 then 0 else 1) := by
    by_cases q : kd p = 1
    · rw [if_pos q, if_neg (fun r => r.2 q)]
    · rw [if_neg q, if_pos ⟨by omega, q⟩]
  rw [e2] at b1
  unfold layN
  by_cases hk : kd p = 2
  · have g := f3 hk
    rw [if_pos hk]
    have a2 := cnt_up (upN on k (1 + 2 * p)) (k := k + 1) (v := 2 + 2 * p) (by omega)
    have b2 := grn_up kd (upN on k (1 + 2 * p)) (k := k + 1) (v := 2 + 2 * p) (by omega)
    rw [upN_n (by omega), g.2] at a2 b2
    rw [if_neg (by decide), if_neg (by omega)] at a2
    rw [e, if_neg (by omega)] at b2
    omega
  · rw [if_neg hk]
    omega
theorem cnt_awy {kd : Nat → Nat} {P p k : Nat} {on : Nat → Nat} (h : okS kd P on) (hk256 : k < 256) (hk0 : on k = 1 + 2 * p) : cnt (awyN kd p k on) + 1 = cnt on ∧ grn kd (awyN kd p k on) + (if kd p = 1 then 0 else 1) = grn kd on := by
  have hkp : (on k - 1) / 2 = p := by rw [hk0]; omega
  have a1 := cnt_up on (k := k) (v := 0) hk256
  have b1 := grn_up kd on (k := k) (v := 0) hk256
  rw [hkp, hk0] at b1
  rw [hk0] at a1
  rw [if_pos (by omega), if_neg (by decide)] at a1
  have e2 : (if (1 + 2 * p) % 2 = 1 ∧ kd p ≠ 1 then 1 else 0) = (if kd p = 1 then 0 else 1) := by
    by_cases q : kd p = 1
    · rw [if_pos q, if_neg (fun r => r.2 q)]
    · rw [if_neg q, if_pos ⟨by omega, q⟩]
  have e : (if (0 : Nat) % 2 = 1 ∧ kd ((0 - 1) / 2) ≠ 1 then 1 else 0) = 0 := if_neg (fun q => absurd q.1 (by decide))
  rw [e2, e] at b1
  unfold awyN
  by_cases hk : kd p = 2
  · have g := h.2.2.1 k (by omega) (by rw [hkp]; exact hk)
    rw [if_pos hk]
    have a2 := cnt_up (upN on k 0) (k := k + 1) (v := 0) (by omega)
    have b2 := grn_up kd (upN on k 0) (k := k + 1) (v := 0) (by omega)
    rw [upN_n (by omega), g.2, hk0] at a2 b2
    rw [if_neg (by omega), if_neg (by decide)] at a2
    rw [if_neg (by omega), e] at b2
    omega
  · rw [if_neg hk]
    omega
theorem cnt_0 {kd : Nat → Nat} {P : Nat} {on : Nat → Nat} (h : okS kd P on) : cnt on = 0 ↔ ∀ k, on k = 0 := by
  constructor
  · intro h0 k
    have hz : ∀ k, on k % 2 = 1 → False := by
      intro k hk
      have hlt : k < 256 := by
        rcases Nat.lt_or_ge k 256 with q | q
        · exact q
        · rw [h.2.1 k q] at hk
          omega
      have := (fb_ct_zero.mp h0) k hlt
      simp at this
      omega
    rcases Nat.eq_zero_or_pos (on k) with q | q
    · exact q
    · exfalso
      by_cases ho : on k % 2 = 1
      · exact hz k ho
      · have := h.2.2.2 k (by omega) (by omega)
        exact hz (k - 1) (by omega)
  · intro h0
    unfold cnt
    rw [fb_ct_zero]
    intro k _
    rw [h0 k]
    rfl
theorem grn_0 {kd : Nat → Nat} {P : Nat} {on : Nat → Nat} (h : okS kd P on) : grn kd on = 0 ↔ ∀ k, k < 256 → on k = 0 ∨ kd ((on k - 1) / 2) = 1 := by
  unfold grn
  rw [fb_ct_zero]
  constructor
  · intro h0 k hk
    rcases Nat.eq_zero_or_pos (on k) with q | q
    · exact Or.inl q
    · right
      by_cases ho : on k % 2 = 1
      · have := h0 k hk
        simp at this
        exact this ho
      · exfalso
        have g := h.2.2.2 k (by omega) (by omega)
        have g2 := (h.1 k).2 (by omega) (by omega)
        have := h0 (k - 1) (by omega)
        simp at this
        have := this (by omega)
        rw [show (on (k - 1) - 1) / 2 = (on k - 1) / 2 by omega, g2] at this
        exact absurd this (by decide)
  · intro h0 k hk
    rcases h0 k hk with q | q
    · rw [q]
      simp
    · simp [q]
/-! what may come to a cell is decided near it -/
theorem hAt_cong {kd mo gl sg B B' : Nat → Nat} {p h c d : Nat} (e : B (stp c d) = B' (stp c d)) : hAt kd mo gl sg B p h c d = hAt kd mo gl sg B' p h c d := by
  unfold hAt
  rw [e]
theorem op1_cong {kd mo B B' : Nat → Nat} {p c d : Nat} (e : B (stp c d) = B' (stp c d)) : op1 kd mo B p c d = op1 kd mo B' p c d := by
  unfold op1
  rw [e]
theorem hUp_cong {kd mo gl sg B B' : Nat → Nat} {p c : Nat} (e : ∀ d, d < 4 → B (stp c d) = B' (stp c d)) (e2 : ∀ d, d < 4 → B (stp (c + 1) d) = B' (stp (c + 1) d)) : ∀ n, n ≤ 4 → hUp kd mo gl sg B p c n = hUp kd mo gl sg B' p c n
  | 0, _ => rfl
  | n + 1, hn => by
    unfold hUp
    rw [hUp_cong e e2 n (by omega), hAt_cong (e n (by omega)), hAt_cong (e2 n (by omega))]
theorem opn_cong {kd mo B B' : Nat → Nat} {p c : Nat} (e : ∀ d, d < 4 → B (stp c d) = B' (stp c d)) : opn kd mo B p c = opn kd mo B' p c := by
  unfold opn
  rw [op1_cong (e 0 (by decide)), op1_cong (e 1 (by decide)), op1_cong (e 2 (by decide)), op1_cong (e 3 (by decide))]
theorem mayC_cong {kd mo gl sg B B' : Nat → Nat} {w p c : Nat} (e0 : B c = B' c) (e1 : B (c + 1) = B' (c + 1)) (e : ∀ d, d < 4 → B (stp c d) = B' (stp c d)) (e2 : ∀ d, d < 4 → B (stp (c + 1) d) = B' (stp (c + 1) d)) : mayC kd mo gl sg w B p c = mayC kd mo gl sg w B' p c := by
  unfold mayC fre hOf
  rw [e0, e1, hUp_cong e e2 4 (Nat.le_refl 4), opn_cong e, opn_cong e2]
theorem fitF_up {kd mo gl sg B : Nat → Nat} {w P z v c : Nat} (hc : onC c = true) (h : ¬ tch z c) : fitF kd mo gl sg w (upN B z v) P c = fitF kd mo gl sg w B P c := by
  have hb := onC_b hc
  unfold tch at h
  unfold fitF
  apply mk_cong
  intro p _
  rw [mayC_cong (B := upN B z v) (B' := B)]
  · exact upN_n (by omega)
  · exact upN_n (by omega)
  · intro d hd
    apply upN_n
    obtain rfl | rfl | rfl | rfl : d = 0 ∨ d = 1 ∨ d = 2 ∨ d = 3 := by omega
    all_goals
      simp [stp]
      omega
  · intro d hd
    apply upN_n
    obtain rfl | rfl | rfl | rfl : d = 0 ∨ d = 1 ∨ d = 2 ∨ d = 3 := by omega
    all_goals
      simp [stp]
      omega
/-- all that the sheet's helpers know -/
def okFI (kd mo gl sg : Nat → Nat) (w P : Nat) (B : Nat → Nat) (stale cells : Nat → Int32) (n : Int32) (fits : Nat → Int64) (line : Nat → Int32) (all : Int32) : Prop :=
  ∃ m St, n = nI m ∧ okSt stale cells m St ∧ okF fits line all ∧ ∀ c, onC c = true → St c = false → fits c = fitF kd mo gl sg w B P c
