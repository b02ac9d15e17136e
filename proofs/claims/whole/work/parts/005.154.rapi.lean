/-! the reference's calls -/
theorem xy_c (x y : Int32) : (x < 0 ∨ (16 : Int32) ≤ x ∨ y < 0 ∨ (16 : Int32) ≤ y) ∨ ∃ a b : Nat, a < 16 ∧ b < 16 ∧ x = nI a ∧ y = nI b := by
  rcases pk_ix x (n := 16) (by decide) with h | h | ⟨a, ha, rfl⟩
  · exact Or.inl (Or.inl h)
  · exact Or.inl (Or.inr (Or.inl h))
  · rcases pk_ix y (n := 16) (by decide) with h | h | ⟨b, hb, rfl⟩
    · exact Or.inl (Or.inr (Or.inr (Or.inl h)))
    · exact Or.inl (Or.inr (Or.inr (Or.inr h)))
    · exact Or.inr ⟨a, b, ha, hb, rfl, rfl⟩
theorem pp_c (p : Int32) {P : Nat} (hP : P ≤ 40) : (p < 0 ∨ nI P ≤ p) ∨ ∃ j : Nat, j < P ∧ p = nI j := by
  rcases pk_ix p (n := P) (by omega) with h | h | h
  · exact Or.inl (Or.inl h)
  · exact Or.inl (Or.inr h)
  · exact Or.inr h
theorem sp_isPiece_t {P p : Nat} (hP : P ≤ 40) (hp : p < P) (Q : Int32 → Prop) (h : Q 1) : wp_X8_isPiece (nI P) (nI p) Q := by
  unfold wp_X8_isPiece
  exact ⟨fun q => absurd q (nI_pos (by omega)), fun _ => ⟨fun q => absurd q (nI_ge hp (by omega)), fun _ => h⟩⟩
theorem sp_isPiece_f {P : Nat} {p : Int32} (hp : p < 0 ∨ nI P ≤ p) (Q : Int32 → Prop) (h : Q 0) : wp_X8_isPiece (nI P) p Q := by
  unfold wp_X8_isPiece
  refine ⟨fun _ => h, fun q => ⟨fun _ => h, fun q2 => ?_⟩⟩
  rcases hp with a | a
  · exact absurd a q
  · exact absurd a q2
theorem sp_has_t {P p : Nat} (hP : P ≤ 40) (hp : p < P) (Q : Int32 → Prop) (h : Q 1) : wp_X1_has (nI P) (nI p) Q := by
  unfold wp_X1_has
  exact ⟨fun q => absurd q (nI_pos (by omega)), fun _ => ⟨fun q => absurd q (nI_ge hp (by omega)), fun _ => h⟩⟩
theorem sp_has_f {P : Nat} {p : Int32} (hp : p < 0 ∨ nI P ≤ p) (Q : Int32 → Prop) (h : Q 0) : wp_X1_has (nI P) p Q := by
  unfold wp_X1_has
  refine ⟨fun _ => h, fun q => ⟨fun _ => h, fun q2 => ?_⟩⟩
  rcases hp with a | a
  · exact absurd a q
  · exact absurd a q2
theorem okM_undo {kd : Nat → Nat} {P made kept m : Nat} {aW aP aL : Nat → Nat} {aB : Nat → Int32} {hs : Nat → Nat → Nat} {sI : Nat → Nat → Int32} {sheet since W Pc L S : Nat → Int32} {steps undoable : Int32} (hk5 : ∀ p, kd p ≤ 5) (hP : P ≤ 40) (hk : kept ≤ 200) (hkm : kept ≤ made) (hm : made < 1000000) (hmk : m ≤ kept)
    (hH : okH kd P made kept aW aP aL aB hs sI) (h : okM kd (hs made) made kept aW aP aL aB (sI made) sheet since W Pc L S steps undoable)
    (Q : Int32 → (Nat → Int32) → (Nat → Int32) → Int32 → Int32 → Prop)
    (hQ : ∀ sheet' since' steps' undoable', okM kd (hs (made - m)) (made - m) (kept - m) aW aP aL aB (sI (made - m)) sheet' since' W Pc L S steps' undoable' → Q (nI m) sheet' since' steps' undoable') :
    wp_X8_undo (fun k => nI (kd k)) W Pc L S sheet since steps undoable (nI m) Q := by
  unfold wp_X8_undo
  have e5 := h.2.2.2.1
  rw [e5, nI_le' (by omega) (by omega)]
  refine ⟨fun q => absurd q (nI_pos (by omega)), fun _ => ⟨fun _ => ?_, fun q => absurd hmk q⟩⟩
  rw [← e5]
  refine pk_loop (σ := (Nat → Int32) × (Nat → Int32) × Int32 × Int32) (fun f i s => wq_X8_undo_16 (fun k => nI (kd k)) W Pc L S Q f s.1 s.2.1 s.2.2.1 s.2.2.2 (nI m) (nI i))
    (fun i s => okM kd (hs (made - i)) (made - i) (kept - i) aW aP aL aB (sI (made - i)) s.1 s.2.1 W Pc L S s.2.2.1 s.2.2.2 ∧ okH kd P (made - i) (kept - i) aW aP aL aB hs sI) m 0 (sheet, since, steps, undoable) (Nat.zero_le _) ⟨h, hH⟩ ?_ ?_
  · rintro f ⟨c1, c2, c3, c4⟩ ⟨k1, k3⟩
    show wf_X8_undo_16 _ _ _ _ _ _ _ _ _ _ _ _ _
    unfold wf_X8_undo_16
    exact ⟨fun _ => hQ _ _ _ _ k1, fun q => absurd (nI_le (Nat.le_refl m) (by omega)) q⟩
  · rintro f i ⟨c1, c2, c3, c4⟩ hi ⟨k1, k3⟩ ih
    show wf_X8_undo_16 _ _ _ _ _ _ _ _ _ _ _ _ _
    unfold wf_X8_undo_16
    dsimp only at k1 k3 ⊢
    rw [nI_le' (by omega) (by omega)]
    refine ⟨fun q => absurd q (by omega), fun _ => ?_⟩
    obtain ⟨rfl, m2, rfl, rfl, m5⟩ := k1
    have k4 := okH_undo k3 (show 0 < kept - i by omega) (show kept - i ≤ made - i by omega)
    have em : made - i - 1 = made - (i + 1) := by omega
    have ek : kept - i - 1 = kept - (i + 1) := by omega
    rw [em, ek] at k4
    have m5' : okM1 (made - (i + 1)) (kept - (i + 1)) aW aP aL aB W Pc L S := by
      intro t a b
      have g := m5 t (by omega) (by omega)
      rw [show made - (i + 1) - (kept - (i + 1)) = made - i - (kept - i) by omega]
      exact g
    have hS := k3.1 (made - i) (by omega) (Nat.le_refl _)
    have ih := fun s' => ih s'
    generalize hT : made - (i + 1) = t at *
    have hT1 : made - i = t + 1 := by omega
    rw [hT1] at m2 m5 hS k3 ⊢
    obtain ⟨g1, g2, g3, g4⟩ := k3.2 t (by omega) (by omega)
    obtain ⟨a1, a2, a3, a4⟩ := m5 t (by omega) (by omega)
    have ix : t - (t + 1 - (kept - i)) = kept - i - 1 := by omega
    rw [ix] at a1 a2 a3 a4
    rintro _ rfl _ rfl
    rw [sb_1 (by omega), sb_1 (by omega), Nat.add_sub_cancel, vp_in' (by omega), nI_clamp' (by omega), a1, a2, a3]
    refine ⟨by omega, ?_⟩
    rintro _ rfl
    refine ⟨by omega, ?_⟩
    rintro _ rfl
    refine ⟨by omega, ?_⟩
    rintro _ rfl
    rw [eq_2 (by omega)]
    refine ⟨fun q => ?_, fun q => ?_⟩
    · rcases g4 with ⟨q1, q2, q3, q4⟩ | ⟨q1, _⟩
      · have hb : kd (aP t) = 2 → aL t + 1 < 256 := fun b => by have := q2.2.2 b; omega
        refine sp_away hk5 (by omega) g2 hb _ ?_
        have eA : awyN kd (aP t) (aL t) (hs (t + 1)) = hs t := by rw [q3]; exact awy_lay q2
        rw [eA]
        refine sp_setSince hk5 (by omega) g2 hb _ ?_
        rintro _ rfl
        rw [ad_1, ek]
        refine ih (fun k => nI (hs t k), sinI kd (aP t) (aL t) (-1) c2, nI t, nI (kept - (i + 1))) ⟨⟨rfl, fun k hk => ?_, rfl, rfl, m5'⟩, k4⟩
        dsimp only
        have n1 : k ≠ aL t := fun e => hk (by rw [e]; exact q2.2.1)
        have n2 : ¬ (kd (aP t) = 2 ∧ k = aL t + 1) := fun e => hk (by rw [e.2]; exact (q2.2.2 e.1).2)
        have ev : hs (t + 1) k = hs t k := by rw [q3, lay_v, if_neg n2, if_neg n1]
        rw [sin_v, if_neg (by rintro (e | e); exact n2 e; exact n1 e), m2 k (by rw [ev]; exact hk), q4]
        unfold ownN
        rw [ev]
        by_cases ho : hs t k % 2 = 1
        · rw [if_pos ho, upS_n n1]
        · rw [if_neg ho, upS_n]
          intro e
          have := ((k4.1 t (by omega) (Nat.le_refl _)).2.2.2 k hk (by omega)).2
          rw [e, q2.2.1] at this
          omega
      · exact absurd q1 q
    · rcases g4 with ⟨q1, _⟩ | ⟨q1, q2, q3, q4, q5, q6⟩
      · exact absurd q q1
      · refine sp_lay (f := 0) hk5 (by omega) (by omega) (fun b => by omega) (by decide) _ ?_
        have eA : layN kd (aP t) (aL t) (hs (t + 1)) = hs t := by
          rw [q4]
          funext j
          rw [lay_v, if_neg (fun b => by omega)]
          by_cases e : j = aL t
          · rw [if_pos e, e, q2]
          · rw [if_neg e, upN_n e]
        rw [Nat.zero_add, layI_N, eA, a4 q1]
        refine ⟨by omega, ?_⟩
        rintro _ rfl
        refine sp_setSince hk5 (by omega) g2 (fun b => by omega) _ ?_
        rintro _ rfl
        rw [ad_1, ek]
        refine ih (fun k => nI (hs t k), sinI kd (aP t) (aL t) (aB t) c2, nI t, nI (kept - (i + 1))) ⟨⟨rfl, fun k hk => ?_, rfl, rfl, m5'⟩, k4⟩
        dsimp only
        rw [sin_v]
        by_cases e : k = aL t
        · rw [if_pos (Or.inr e), q6]
          unfold ownN
          rw [e, q2, if_pos (by omega)]
        · rw [if_neg (by rintro (b | b); omega; exact e b)]
          have ev : hs (t + 1) k = hs t k := by rw [q4, upN_n e]
          rw [m2 k (by rw [ev]; exact hk), q5]
          unfold ownN
          rw [ev]
theorem fre_N {kd on : Nat → Nat} {p x y : Nat} (hx : x < 16) (hy : y < 16) (h : fre kd (pad on) p (celN x y) = true) : freN kd p (x + 16 * y) on := by
  unfold fre at h
  rw [pad_cel hx hy] at h
  simp at h
  refine ⟨by omega, h.1.2, fun hk => ?_⟩
  have h2 := h.2
  simp [hk] at h2
  have h15 : x < 15 := by
    have := onC_r (onC_cel hx hy)
    rw [this] at h2
    simp at h2
    have e : celN x y % 18 = x + 1 := by unfold celN; omega
    omega
  have hc : celN x y + 1 = celN (x + 1) y := by unfold celN; omega
  rw [hc, pad_cel (by omega) hy] at h2
  refine ⟨by omega, ?_⟩
  rw [show x + 16 * y + 1 = x + 1 + 16 * y by omega]
  exact h2.2
theorem mayC_fre {kd mo gl sg B : Nat → Nat} {w p c : Nat} (h : mayC kd mo gl sg w B p c = true) : fre kd B p c = true ∧ kd p ≠ 1 := by
  unfold mayC at h
  simp at h
  exact ⟨h.1.1.1.2, h.1.1.1.1⟩
theorem sp_may_t {kd mo gl sg on : Nat → Nat} {P w p x y : Nat} (hT : okT kd mo gl sg) (hP : P ≤ 40) (hw : w ≤ 3) (hon : okB P on) (hp : p < P) (hx : x < 16) (hy : y < 16) (Q : Int32 → Prop) (h : Q (bI (mayC kd mo gl sg w (pad on) p (celN x y)))) :
    wp_X8_may (fun k => nI (sg k)) (fun k => nI (kd k)) (fun k => nI (mo k)) (fun k => nI (gl k)) (nI P) (nI w) (fun k => nI (on k)) (nI p) (nI x) (nI y) Q := by
  unfold wp_X8_may
  apply sp_isPiece_t hP hp
  refine ⟨fun q => absurd q (by decide), fun _ => ?_⟩
  refine sp_mayCome (f := 0) hT (okA_sheet hP hon) hw (by omega) hx hy _ ?_
  rw [bI_0]
  refine ⟨fun q => ?_, fun q => ?_⟩
  · rw [q] at h
    exact h
  · rw [Bool.not_eq_false] at q
    rw [q] at h
    exact h
theorem sp_may_f {kd mo gl sg on : Nat → Nat} {P w : Nat} {p x y : Int32} (hT : okT kd mo gl sg) (hP : P ≤ 40) (h0 : (p < 0 ∨ nI P ≤ p) ∨ (x < 0 ∨ (16 : Int32) ≤ x ∨ y < 0 ∨ (16 : Int32) ≤ y)) (Q : Int32 → Prop) (h : Q 0) :
    wp_X8_may (fun k => nI (sg k)) (fun k => nI (kd k)) (fun k => nI (mo k)) (fun k => nI (gl k)) (nI P) (nI w) (fun k => nI (on k)) p x y Q := by
  unfold wp_X8_may
  rcases pp_c p hP with hp | ⟨j, hj, rfl⟩
  · apply sp_isPiece_f hp
    exact ⟨fun _ => h, fun q => absurd rfl q⟩
  · apply sp_isPiece_t hP hj
    refine ⟨fun q => absurd q (by decide), fun _ => ?_⟩
    rcases h0 with (q | q) | h0
    · exact absurd q (nI_pos (by omega))
    · exact absurd q (nI_ge hj (by omega))
    · refine sp_mayCome_off (f := 0) hT (by omega) h0 _ ?_
      exact ⟨fun _ => h, fun q => absurd rfl q⟩
theorem sp_hold_t {kd mo gl sg on : Nat → Nat} {P p x y : Nat} (hT : okT kd mo gl sg) (hP : P ≤ 40) (hon : okB P on) (hp : p < P) (hx : x < 16) (hy : y < 16) (Q : Int32 → Prop) (h : Q (if fre kd (pad on) p (celN x y) then nI (hOf kd mo gl sg (pad on) p (celN x y)) else -1)) :
    wp_X8_hold (fun k => nI (sg k)) (fun k => nI (kd k)) (fun k => nI (mo k)) (fun k => nI (gl k)) (nI P) (fun k => nI (on k)) (nI p) (nI x) (nI y) Q := by
  unfold wp_X8_hold
  apply sp_isPiece_t hP hp
  refine ⟨fun q => absurd q (by decide), fun _ => ?_⟩
  refine sp_isFree (f := 0) hT.1 (okA_sheet hP hon) (by omega) hx hy _ ?_
  rw [bI_0]
  refine ⟨fun q => ?_, fun q => ?_⟩
  · rw [q, if_neg (by decide)] at h
    exact h
  · rw [Bool.not_eq_false] at q
    rw [q, if_pos rfl] at h
    refine sp_holdOf (f := 0) hT (okA_sheet hP hon) (by omega) hx hy (fun hk => ?_) _ h
    have := (fre_N hx hy q).2.2 hk
    omega
theorem sp_hold_f {kd mo gl sg on : Nat → Nat} {P : Nat} {p x y : Int32} (hT : okT kd mo gl sg) (hP : P ≤ 40) (h0 : (p < 0 ∨ nI P ≤ p) ∨ (x < 0 ∨ (16 : Int32) ≤ x ∨ y < 0 ∨ (16 : Int32) ≤ y)) (Q : Int32 → Prop) (h : Q (-1)) :
    wp_X8_hold (fun k => nI (sg k)) (fun k => nI (kd k)) (fun k => nI (mo k)) (fun k => nI (gl k)) (nI P) (fun k => nI (on k)) p x y Q := by
  unfold wp_X8_hold
  rcases pp_c p hP with hp | ⟨j, hj, rfl⟩
  · apply sp_isPiece_f hp
    exact ⟨fun _ => h, fun q => absurd rfl q⟩
  · apply sp_isPiece_t hP hj
    refine ⟨fun q => absurd q (by decide), fun _ => ?_⟩
    rcases h0 with (q | q) | h0
    · exact absurd q (nI_pos (by omega))
    · exact absurd q (nI_ge hj (by omega))
    · refine sp_isFree_off (f := 0) h0 _ ?_
      exact ⟨fun _ => h, fun q => absurd rfl q⟩
