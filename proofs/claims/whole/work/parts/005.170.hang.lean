/-! what hangs together -/
def oh (kd B : Nat → Nat) (c d : Nat) : Bool := decide (kd ((B c - 1) / 2) = 2 ∧ ((d = 1 ∧ B c % 2 = 1) ∨ (d = 3 ∧ B c % 2 = 0)))
def lnk (kd mo gl sg B : Nat → Nat) (c d : Nat) : Bool := B (stp c d) != 0 && (oh kd B c d || decide (0 < hQ kd mo gl sg B (B c) c d))
def occ (B : Nat → Nat) (g c : Nat) : Prop := onC c = true ∧ B c ≠ 0 ∧ c ≠ g
def clo (kd mo gl sg B : Nat → Nat) (g : Nat) (Y : Nat → Prop) : Prop := ∀ c d, d < 4 → occ B g c → Y c → lnk kd mo gl sg B c d = true → stp c d ≠ g → Y (stp c d)
def HT (kd mo gl sg B : Nat → Nat) (g : Nat) : Prop := ∀ Y : Nat → Prop, clo kd mo gl sg B g Y → (∃ s, occ B g s ∧ Y s) → ∀ c, occ B g c → Y c
theorem pad_blk {kd on : Nat → Nat} {P : Nat} (hS : okS kd P on) {c : Nat} (h1 : pad on c % 2 = 1) (h2 : kd ((pad on c - 1) / 2) = 2) : pad on (c + 1) = pad on c + 1 := by
  cases ho : onC c
  · rw [pad_off ho] at h1
    omega
  · obtain ⟨e1, e2⟩ := celK_onI ho
    rw [pad_onI ho] at h1 h2
    have g := hS.2.2.1 (onI c) h1 h2
    have e3 := celK_r g.1
    rw [e1] at e3
    rw [← e3, pad_K (by omega), pad_onI ho]
    exact g.2
theorem pad_half {kd on : Nat → Nat} {P : Nat} (hS : okS kd P on) {c : Nat} (h0 : pad on c ≠ 0) (h1 : pad on c % 2 = 0) : pad on (c - 1) + 1 = pad on c := by
  cases ho : onC c
  · exact absurd (pad_off ho) h0
  · obtain ⟨e1, e2⟩ := celK_onI ho
    rw [pad_onI ho] at h1 h0
    have g := hS.2.2.2 (onI c) h0 h1
    have e3 := celK_r (k := onI c - 1) (by omega)
    have e4 : onI c - 1 + 1 = onI c := by omega
    rw [e4, e1] at e3
    rw [pad_onI ho, show c - 1 = celK (onI c - 1) by omega, pad_K (by omega)]
    exact g.2
theorem stp_stp {c d : Nat} (hc : 19 ≤ c) (hd : d < 4) : stp (stp c d) (opp d) = c := by
  obtain rfl | rfl | rfl | rfl : d = 0 ∨ d = 1 ∨ d = 2 ∨ d = 3 := by omega
  all_goals
    simp [stp, opp]
    try omega
theorem opp_opp {d : Nat} (hd : d < 4) : opp (opp d) = d := by
  unfold opp
  omega
theorem lnk_sym {kd mo gl sg on : Nat → Nat} {P c d : Nat} (hS : okS kd P on) (hc : onC c = true) (h0 : pad on c ≠ 0) (hd : d < 4) (h : lnk kd mo gl sg (pad on) c d = true) : lnk kd mo gl sg (pad on) (stp c d) (opp d) = true := by
  have hb := onC_b hc
  have e := stp_stp (c := c) hb.1 hd
  unfold lnk at h ⊢
  rw [e]
  simp only [Bool.and_eq_true, Bool.or_eq_true, decide_eq_true_eq, bne_iff_ne] at h ⊢
  obtain ⟨h1, h2⟩ := h
  refine ⟨h0, ?_⟩
  rcases h2 with h2 | h2
  · left
    unfold oh at h2 ⊢
    simp only [decide_eq_true_eq] at h2 ⊢
    obtain ⟨k1, ⟨k2, k3⟩ | ⟨k2, k3⟩⟩ := h2
    · subst k2
      have g := pad_blk hS k3 k1
      have e1 : stp c 1 = c + 1 := rfl
      rw [e1, g]
      refine ⟨?_, Or.inr ⟨rfl, by omega⟩⟩
      rw [show (pad on c + 1 - 1) / 2 = (pad on c - 1) / 2 by omega]
      exact k1
    · subst k2
      have g := pad_half hS h0 k3
      have e1 : stp c 3 = c - 1 := rfl
      rw [e1]
      refine ⟨?_, Or.inl ⟨rfl, by omega⟩⟩
      rw [show (pad on (c - 1) - 1) / 2 = (pad on c - 1) / 2 by omega]
      exact k1
  · right
    unfold hQ at h2 ⊢
    rw [e, opp_opp hd]
    split at h2
    · rename_i q
      rw [if_pos q.symm, q]
      exact h2
    · omega
theorem sp_leadsOn {kd mo gl sg on : Nat → Nat} {P c d : Nat} (hT : okT kd mo gl sg) (hP : P ≤ 40) (hS : okS kd P on) (hc : onC c = true) (h0 : pad on c ≠ 0) (hd : d < 4) (Q : Int32 → Prop) (h : Q (bI (lnk kd mo gl sg (pad on) c d))) : wp_X4_leadsOn (fun k => nI (sg k)) (fun k => nI (fcF kd mo gl P k)) (fun c => nI (cc (pad on c))) (nI c) (nI d) Q := by
  have hb := onC_b hc
  have hst := stp_lt (d := d) (show c ≤ 305 by omega)
  have hB := okS_pad hS
  have hcq := cc_le hP (hB c).1
  have hcn := cc_le hP (hB (stp c d)).1
  have fin : ∀ b : Bool, b = oh kd (pad on) c d → wq_X4_leadsOn_54 (fun k => nI (sg k)) (fun k => nI (fcF kd mo gl P k)) (fun c => nI (cc (pad on c))) Q (nI c) (nI d) (nI (cc (pad on c))) (nI (cc (pad on (stp c d)))) (bI b) := by
    intro b hb2
    unfold wq_X4_leadsOn_54
    rw [eq_0 (by omega), cc_0, bI_0]
    unfold lnk at h
    rw [← hb2] at h
    refine ⟨fun q => ?_, fun q => ⟨fun q2 => ?_, fun q2 => ?_⟩⟩
    · rw [q] at h
      exact h
    · rw [Bool.not_eq_false] at q2
      rw [q2] at h
      have hz : (pad on (stp c d) != 0) = true := by simp [q]
      rw [hz] at h
      exact h
    · rw [q2] at h
      have hz : (pad on (stp c d) != 0) = true := by simp [q]
      rw [hz, Bool.true_and, Bool.false_or] at h
      apply sp_strengthAt hT hP (hB c) hB (by omega) (by omega) hd
      have hq3 := hQ_le hT (pad on) (pad on c) c d
      rw [ge_0 (by omega)]
      refine ⟨fun q3 => ?_, fun q3 => ?_⟩
      · rw [show decide (0 < hQ kd mo gl sg (pad on) (pad on c) c d) = false by simp; omega] at h
        exact h
      · rw [show decide (0 < hQ kd mo gl sg (pad on) (pad on c) c d) = true by simp; omega] at h
        exact h
  have f0 := fin false
  have f1 := fin true
  unfold wp_X4_leadsOn
  rw [vp_in' (by omega), nI_clamp' (by omega)]
  refine ⟨by omega, ?_⟩
  rintro _ rfl
  rw [vp_in' (by omega), nI_clamp' (by omega)]
  refine ⟨hd, ?_⟩
  rintro _ rfl
  rw [stp_I (by omega) hd, vp_in' (by omega), nI_clamp' (by omega)]
  refine ⟨hst, ?_⟩
  rintro _ rfl
  unfold wq_X4_leadsOn_35 wq_X4_leadsOn_49 wq_X4_leadsOn_53
  dsimp only
  rw [ad_64, ad_64, nI_eq' (by omega) (by omega), nI_eq' (by omega) (by omega), eq_1 (by omega), eq_3 (by omega)]
  have q1 := hB c
  have q2 := hB (stp c d)
  have q1l := q1.1
  have q2l := q2.1
  have ccv : ∀ q, q ≤ 2 * P → q ≠ 0 → (q % 2 = 1 ∧ cc q = 1 + (q - 1) / 2) ∨ (q % 2 = 0 ∧ cc q = 65 + (q - 1) / 2) := by
    intro q _ hq0
    unfold cc
    rw [if_neg hq0]
    by_cases ho : q % 2 = 1
    · left
      exact ⟨ho, if_pos ho⟩
    · right
      exact ⟨by omega, if_neg ho⟩
  have c1 := ccv _ q1.1 h0
  have key1 : d = 1 → (cc (pad on (stp c d)) = cc (pad on c) + 64 ↔ oh kd (pad on) c d = true) := by
    intro e
    subst e
    have e1 : stp c 1 = c + 1 := rfl
    unfold oh
    simp only [decide_eq_true_eq]
    constructor
    · intro a
      have hn0 : pad on (stp c 1) ≠ 0 := by
        intro z
        rw [z] at a
        have : cc 0 = 0 := rfl
        omega
      rcases ccv _ q2.1 hn0 with ⟨z1, z2⟩ | ⟨z1, z2⟩
      · omega
      · have g := pad_half hS hn0 z1
        rw [e1, Nat.add_sub_cancel] at g
        have hk := q2.2 hn0 z1
        rw [e1] at hk
        refine ⟨?_, Or.inl ⟨trivial, by omega⟩⟩
        rw [show (pad on c - 1) / 2 = (pad on (c + 1) - 1) / 2 by omega]
        exact hk
    · rintro ⟨k1, ⟨-, k3⟩ | ⟨k2, _⟩⟩
      · have g := pad_blk hS k3 k1
        rw [e1, g]
        unfold cc
        rw [if_neg (by omega), if_neg (by omega), if_neg h0, if_pos k3]
        omega
      · omega
  have key3 : d = 3 → (cc (pad on c) = cc (pad on (stp c d)) + 64 ↔ oh kd (pad on) c d = true) := by
    intro e
    subst e
    have e1 : stp c 3 = c - 1 := rfl
    unfold oh
    simp only [decide_eq_true_eq]
    constructor
    · intro a
      rcases c1 with ⟨z1, z2⟩ | ⟨z1, z2⟩
      · have := q1.1
        omega
      · exact ⟨q1.2 h0 z1, Or.inr ⟨trivial, z1⟩⟩
    · rintro ⟨k1, ⟨k2, _⟩ | ⟨-, k3⟩⟩
      · omega
      · have g := pad_half hS h0 k3
        rw [e1]
        unfold cc
        rw [if_neg h0, if_neg (by omega), if_neg (by omega), if_pos (by omega)]
        omega
  have keyn : d ≠ 1 → d ≠ 3 → oh kd (pad on) c d = false := by
    intro a b
    unfold oh
    simp [a, b]
  refine ⟨fun n1 => ⟨fun n3 => f0 (keyn n1 n3).symm, fun e3 => ⟨fun n => f0 (ts_nt (fun z => n ((key3 e3).mpr z))).symm, fun y => f1 ((key3 e3).mp y).symm⟩⟩, fun e1 => ⟨fun y => f1 ((key1 e1).mp y).symm, fun n => ⟨fun _ => f0 (ts_nt (fun z => n ((key1 e1).mpr z))).symm, fun e3 => absurd e3 (by omega)⟩⟩⟩
/-! searching from a start -/
def inQ (q : Nat → Nat) : Nat → Nat → Bool
  | 0, _ => false
  | n + 1, c => if c = q n then true else inQ q n c
theorem inQ_iff {q : Nat → Nat} {c : Nat} : ∀ n, inQ q n c = true ↔ ∃ j, j < n ∧ q j = c
  | 0 => ⟨fun h => absurd h (by simp [inQ]), fun ⟨j, hj, _⟩ => absurd hj (by omega)⟩
  | n + 1 => by
    have ih := inQ_iff (q := q) (c := c) n
    rw [inQ]
    by_cases e : c = q n
    · rw [if_pos e]
      exact ⟨fun _ => ⟨n, by omega, e.symm⟩, fun _ => rfl⟩
    · rw [if_neg e, ih]
      constructor
      · rintro ⟨j, hj, z⟩
        exact ⟨j, by omega, z⟩
      · rintro ⟨j, hj, z⟩
        refine ⟨j, ?_, z⟩
        rcases Nat.lt_or_ge j n with a | a
        · exact a
        · exfalso
          have : j = n := by omega
          rw [this] at z
          exact e z.symm
theorem inQ_ct {q : Nat → Nat} {N : Nat} : ∀ n, (∀ j, j < n → q j < N) → (∀ i j, i < j → j < n → q i ≠ q j) → fb_ct (inQ q n) N = n
  | 0, _, _ => by
    rw [fb_ct_zero]
    intro k _
    rfl
  | n + 1, h1, h2 => by
    have ih := inQ_ct (q := q) (N := N) n (fun j hj => h1 j (by omega)) (fun i j a b => h2 i j a (by omega))
    have e : inQ q (n + 1) = fun c => if c = q n then true else inQ q n c := by
      funext c
      rw [inQ]
    have hf : inQ q n (q n) = false := by
      cases z : inQ q n (q n)
      · rfl
      · obtain ⟨j, hj, z2⟩ := (inQ_iff n).mp z
        exact absurd z2 (h2 j n hj (by omega))
    have := fb_ct_upd (inQ q n) true (i := q n) (n := N) (h1 n (by omega))
    rw [hf] at this
    rw [if_neg (by decide), if_pos rfl] at this
    rw [e]
    omega
/-- what a search has found so far -/
def BFS (kd mo gl sg B : Nat → Nat) (g s n i d : Nat) (q : Nat → Nat) : Prop :=
  1 ≤ n ∧ q 0 = s ∧ (∀ j, j < n → occ B g (q j)) ∧ (∀ a b, a < b → b < n → q a ≠ q b) ∧
  (∀ j d', d' < 4 → (j < i ∨ (j = i ∧ d' < d)) → j < n → lnk kd mo gl sg B (q j) d' = true → stp (q j) d' ≠ g → ∃ j', j' < n ∧ q j' = stp (q j) d') ∧
  (∀ Y : Nat → Prop, clo kd mo gl sg B g Y → Y s → ∀ j, j < n → Y (q j))
theorem BFS_n {kd mo gl sg B : Nat → Nat} {g s n i d : Nat} {q : Nat → Nat} (h : BFS kd mo gl sg B g s n i d q) : n ≤ 256 :=
  fb_holes 256 n (fun j => onI (q j)) (fun j hj => onI_lt (h.2.2.1 j hj).1) (fun a b hab hb e => h.2.2.2.1 a b hab hb (onI_inj (h.2.2.1 a (by omega)).1 (h.2.2.1 b hb).1 e))
theorem BFS_push {kd mo gl sg B : Nat → Nat} {g s n i d : Nat} {q : Nat → Nat} (hoff : ∀ c, onC c = false → B c = 0) (h : BFS kd mo gl sg B g s n i d q) (hi : i < n) (hd : d < 4) (hl : lnk kd mo gl sg B (q i) d = true) (hg : stp (q i) d ≠ g) (hnew : ∀ j, j < n → q j ≠ stp (q i) d) : BFS kd mo gl sg B g s (n + 1) i (d + 1) (upN q n (stp (q i) d)) ∧ n < 256 := by
  obtain ⟨h1, h2, h3, h4, h5, h6⟩ := h
  have hB : B (stp (q i) d) ≠ 0 := by
    unfold lnk at hl
    simp at hl
    exact hl.1
  have hon : onC (stp (q i) d) = true := by
    cases z : onC (stp (q i) d)
    · exact absurd (hoff _ z) hB
    · rfl
  have hv : ∀ j, upN q n (stp (q i) d) j = if j = n then stp (q i) d else q j := fun j => rfl
  have r : BFS kd mo gl sg B g s (n + 1) i (d + 1) (upN q n (stp (q i) d)) := by
    refine ⟨by omega, ?_, fun j hj => ?_, fun a b hab hb => ?_, fun j d' hd' hj hjn hl' hg' => ?_, fun Y hY hs j hj => ?_⟩
    · rw [hv, if_neg (by omega), h2]
    · rw [hv]
      split
      · exact ⟨hon, hB, hg⟩
      · exact h3 j (by omega)
    · rw [hv, hv, if_neg (by omega)]
      split
      · exact hnew a (by omega)
      · exact h4 a b hab (by omega)
    · have hjn' : j < n := by
        rcases hj with hj | ⟨hj, _⟩
        · omega
        · omega
      rw [hv, if_neg (by omega)] at hl' hg' ⊢
      have old : (j < i ∨ (j = i ∧ d' < d)) → ∃ j', j' < n + 1 ∧ upN q n (stp (q i) d) j' = stp (q j) d' := by
        intro hj2
        obtain ⟨j', a, b⟩ := h5 j d' hd' hj2 hjn' hl' hg'
        exact ⟨j', by omega, by rw [hv, if_neg (by omega)]; exact b⟩
      rcases hj with hj | ⟨hj, hj2⟩
      · exact old (Or.inl hj)
      · rcases Nat.lt_or_ge d' d with z | z
        · exact old (Or.inr ⟨hj, z⟩)
        · have e : d' = d := by omega
          subst e
          subst hj
          exact ⟨n, by omega, by rw [hv, if_pos rfl]⟩
    · rw [hv]
      split
      · exact hY (q i) d hd (h3 i hi) (h6 Y hY hs i hi) hl hg
      · exact h6 Y hY hs j (by omega)
  exact ⟨r, by have := BFS_n r; omega⟩
theorem BFS_skip {kd mo gl sg B : Nat → Nat} {g s n i d : Nat} {q : Nat → Nat} (h : BFS kd mo gl sg B g s n i d q) (hs : lnk kd mo gl sg B (q i) d = true → stp (q i) d ≠ g → ∃ j', j' < n ∧ q j' = stp (q i) d) : BFS kd mo gl sg B g s n i (d + 1) q := by
  obtain ⟨h1, h2, h3, h4, h5, h6⟩ := h
  refine ⟨h1, h2, h3, h4, fun j d' hd' hj hjn hl' hg' => ?_, h6⟩
  rcases hj with hj | ⟨hj, hj2⟩
  · exact h5 j d' hd' (Or.inl hj) hjn hl' hg'
  · rcases Nat.lt_or_ge d' d with z | z
    · exact h5 j d' hd' (Or.inr ⟨hj, z⟩) hjn hl' hg'
    · have e : d' = d := by omega
      subst e
      subst hj
      exact hs hl' hg'
theorem BFS_next {kd mo gl sg B : Nat → Nat} {g s n i : Nat} {q : Nat → Nat} (h : BFS kd mo gl sg B g s n i 4 q) : BFS kd mo gl sg B g s n (i + 1) 0 q := by
  obtain ⟨h1, h2, h3, h4, h5, h6⟩ := h
  refine ⟨h1, h2, h3, h4, fun j d' hd' hj hjn hl' hg' => ?_, h6⟩
  refine h5 j d' hd' ?_ hjn hl' hg'
  rcases hj with hj | ⟨hj, hj2⟩
  · rcases Nat.lt_or_ge j i with z | z
    · exact Or.inl z
    · exact Or.inr ⟨by omega, hd'⟩
  · omega
/-- at its end: all found, if and only if all hangs together -/
theorem BFS_end {kd mo gl sg on : Nat → Nat} {P g s n i : Nat} {q : Nat → Nat} (hS : okS kd P on) (h : BFS kd mo gl sg (pad on) g s n i 0 q) (hi : n ≤ i) : HT kd mo gl sg (pad on) g ↔ ∀ c, occ (pad on) g c → ∃ j, j < n ∧ q j = c := by
  obtain ⟨h1, h2, h3, h4, h5, h6⟩ := h
  have hclo : clo kd mo gl sg (pad on) g (fun c => ∃ j, j < n ∧ q j = c) := by
    rintro c d hd hc ⟨j, hj, rfl⟩ hl hg
    exact h5 j d hd (Or.inl (by omega)) hj hl hg
  constructor
  · intro hHT c hc
    exact hHT _ hclo ⟨s, by rw [← h2]; exact h3 0 (by omega), 0, by omega, h2⟩ c hc
  · intro hall Y hY hne c hc
    refine Classical.byContradiction fun hnc => ?_
    by_cases hs : Y s
    · obtain ⟨j, hj, rfl⟩ := hall c hc
      exact hnc (h6 Y hY hs j hj)
    · obtain ⟨t, ht, hYt⟩ := hne
      have hco : clo kd mo gl sg (pad on) g (fun c => ¬ (occ (pad on) g c ∧ Y c)) := by
        intro c d hd hc hnY hl hg hbad
        apply hnY
        refine ⟨hc, ?_⟩
        have hsym := lnk_sym hS hc.1 hc.2.1 hd hl
        have e := stp_stp (c := c) (onC_b hc.1).1 hd
        have := hY (stp c d) (opp d) (opp_lt d) hbad.1 hbad.2 hsym (by rw [e]; exact hc.2.2)
        rw [e] at this
        exact this
      obtain ⟨j, hj, rfl⟩ := hall t ht
      exact h6 _ hco (fun z => hs z.2) j hj ⟨ht, hYt⟩
