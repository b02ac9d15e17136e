/-! what the last cases need -/
theorem sp_crow_f {K_marks : Nat → Int32} {S_cells : Nat → Int32} {p1 : Int32} {p2 : Int32} (h : p1 < 0 ∨ (16 : Int32) ≤ p1 ∨ p2 < 1 ∨ ¬ p2 ≤ (16 : Int32)) (Q : Int32 → Prop) (hQ : Q (-1 : Int32) ) : wp_X7_row K_marks S_cells p1 p2 Q := by
  unfold wp_X7_row
  exact ⟨fun _ => hQ, fun a => ⟨fun _ => hQ, fun b => ⟨fun _ => hQ, fun c => ⟨fun d => absurd h (fun e => e.elim a (fun e => e.elim b (fun e => e.elim c (fun e => e d)))), fun _ => hQ⟩⟩⟩⟩
theorem sp_rrow_f {M_strength : Nat → Int32} {M_kind : Nat → Int32} {M_more : Nat → Int32} {M_glues : Nat → Int32} {M_sheet : Nat → Int32} {M_since : Nat → Int32} {p1 : Int32} {p2 : Int32} (h : p1 < 0 ∨ (16 : Int32) ≤ p1 ∨ p2 < 1 ∨ ¬ p2 ≤ (16 : Int32)) (Q : Int32 → Prop) (hQ : Q (-1 : Int32) ) : wp_X8_row M_strength M_kind M_more M_glues M_sheet M_since p1 p2 Q := by
  unfold wp_X8_row
  exact ⟨fun _ => hQ, fun a => ⟨fun _ => hQ, fun b => ⟨fun _ => hQ, fun c => ⟨fun d => absurd h (fun e => e.elim a (fun e => e.elim b (fun e => e.elim c (fun e => e d)))), fun _ => hQ⟩⟩⟩⟩
theorem sp_cset_f {P_bytes : Nat → Int32} {K_count : Int32} {K_kinds : Nat → Int32} {K_marks : Nat → Int32} {K_faces : Nat → Int32} {K_bars : Nat → Int32} {K_showing : Nat → Int64} {K_showingRight : Nat → Int64} {K_barring : Nat → Int64} {K_seeds : Int64} {K_blocks : Int64} {K_rivals : Int64} {S_stale : Nat → Int32} {S_staleCells : Nat → Int32} {S_staleCount : Int32} {P_length : Int32} {p1 : Int32} (h : p1 < 0 ∨ ¬ p1 ≤ P_length) (Q : Int32 → (Int32) → (Nat → Int32) → (Nat → Int32) → (Nat → Int32) → (Nat → Int32) → (Nat → Int64) → (Nat → Int64) → (Nat → Int64) → (Int64) → (Int64) → (Int64) → (Nat → Int32) → (Nat → Int32) → (Int32) → (Int32) → Prop) (hQ : Q (-1 : Int32) K_count K_kinds K_marks K_faces K_bars K_showing K_showingRight K_barring K_seeds K_blocks K_rivals S_stale S_staleCells S_staleCount P_length) : wp_X7_set P_bytes K_count K_kinds K_marks K_faces K_bars K_showing K_showingRight K_barring K_seeds K_blocks K_rivals S_stale S_staleCells S_staleCount P_length p1 Q := by
  unfold wp_X7_set
  exact ⟨fun _ => hQ, fun a => ⟨fun b => absurd h (fun c => c.elim a (fun d => d b)), fun _ => hQ⟩⟩
theorem sp_rset_f {M_tape : Nat → Int32} {M_kind : Nat → Int32} {M_more : Nat → Int32} {M_glues : Nat → Int32} {M_pieces : Int32} {M_taped : Int32} {p1 : Int32} (h : p1 < 0 ∨ ¬ p1 ≤ M_taped) (Q : Int32 → (Nat → Int32) → (Nat → Int32) → (Nat → Int32) → (Int32) → (Int32) → Prop) (hQ : Q (-1 : Int32) M_kind M_more M_glues M_pieces M_taped) : wp_X8_set M_tape M_kind M_more M_glues M_pieces M_taped p1 Q := by
  unfold wp_X8_set
  exact ⟨fun _ => hQ, fun a => ⟨fun b => absurd h (fun c => c.elim a (fun d => d b)), fun _ => hQ⟩⟩
theorem sp_cgrow_f {K_warm : Int32} {K_strengths : Nat → Int32} {K_kinds : Nat → Int32} {K_faces : Nat → Int32} {K_bars : Nat → Int32} {K_showing : Nat → Int64} {K_showingRight : Nat → Int64} {K_barring : Nat → Int64} {K_seeds : Int64} {K_blocks : Int64} {G_s : Int64} {S_cells : Nat → Int32} {S_pieces : Int32} {S_grown : Int32} {S_fits : Nat → Int64} {S_fitsInLine : Nat → Int32} {S_fitsInAll : Int32} {S_stale : Nat → Int32} {S_staleCells : Nat → Int32} {S_staleCount : Int32} {S_atLeast1 : Int64} {S_atLeast2 : Int64} {S_atLeast3 : Int64} {T_made : Int32} {T_kept : Int32} {T_acts : Nat → Int32} {T_pieces : Nat → Int32} {T_places : Nat → Int32} {T_before : Nat → Int32} {T_since : Nat → Int32} {p1 : Int32} (h : p1 < 0 ∨ ¬ p1 ≤ (250 : Int32)) (Q : Int32 → (Int64) → (Nat → Int32) → (Int32) → (Int32) → (Nat → Int64) → (Nat → Int32) → (Int32) → (Nat → Int32) → (Nat → Int32) → (Int32) → (Int64) → (Int64) → (Int64) → (Int32) → (Int32) → (Nat → Int32) → (Nat → Int32) → (Nat → Int32) → (Nat → Int32) → (Nat → Int32) → Prop) (hQ : Q (-1 : Int32) G_s S_cells S_pieces S_grown S_fits S_fitsInLine S_fitsInAll S_stale S_staleCells S_staleCount S_atLeast1 S_atLeast2 S_atLeast3 T_made T_kept T_acts T_pieces T_places T_before T_since) : wp_X7_grow K_warm K_strengths K_kinds K_faces K_bars K_showing K_showingRight K_barring K_seeds K_blocks G_s S_cells S_pieces S_grown S_fits S_fitsInLine S_fitsInAll S_stale S_staleCells S_staleCount S_atLeast1 S_atLeast2 S_atLeast3 T_made T_kept T_acts T_pieces T_places T_before T_since p1 Q := by
  unfold wp_X7_grow
  exact ⟨fun _ => hQ, fun a => ⟨fun b => absurd h (fun c => c.elim a (fun d => d b)), fun _ => hQ⟩⟩
theorem sp_rgrow_f {M_strength : Nat → Int32} {M_kind : Nat → Int32} {M_more : Nat → Int32} {M_glues : Nat → Int32} {M_pieces : Int32} {M_warmth : Int32} {M_draw : Int64} {M_sheet : Nat → Int32} {M_since : Nat → Int32} {M_stepWhat : Nat → Int32} {M_stepPiece : Nat → Int32} {M_stepPlace : Nat → Int32} {M_stepSince : Nat → Int32} {M_steps : Int32} {M_undoable : Int32} {p1 : Int32} (h : p1 < 0 ∨ ¬ p1 ≤ (250 : Int32)) (Q : Int32 → (Int64) → (Nat → Int32) → (Nat → Int32) → (Nat → Int32) → (Nat → Int32) → (Nat → Int32) → (Nat → Int32) → (Int32) → (Int32) → Prop) (hQ : Q (-1 : Int32) M_draw M_sheet M_since M_stepWhat M_stepPiece M_stepPlace M_stepSince M_steps M_undoable) : wp_X8_grow M_strength M_kind M_more M_glues M_pieces M_warmth M_draw M_sheet M_since M_stepWhat M_stepPiece M_stepPlace M_stepSince M_steps M_undoable p1 Q := by
  unfold wp_X8_grow
  exact ⟨fun _ => hQ, fun a => ⟨fun b => absurd h (fun c => c.elim a (fun d => d b)), fun _ => hQ⟩⟩
theorem sp_cundo_f {K_kinds : Nat → Int32} {T_acts : Nat → Int32} {T_pieces : Nat → Int32} {T_places : Nat → Int32} {T_before : Nat → Int32} {S_cells : Nat → Int32} {S_pieces : Int32} {S_grown : Int32} {S_stale : Nat → Int32} {S_staleCells : Nat → Int32} {S_staleCount : Int32} {T_made : Int32} {T_kept : Int32} {T_since : Nat → Int32} {p1 : Int32} (h : p1 < 0 ∨ ¬ p1 ≤ T_kept) (Q : Int32 → (Nat → Int32) → (Int32) → (Int32) → (Nat → Int32) → (Nat → Int32) → (Int32) → (Int32) → (Int32) → (Nat → Int32) → Prop) (hQ : Q (-1 : Int32) S_cells S_pieces S_grown S_stale S_staleCells S_staleCount T_made T_kept T_since) : wp_X7_undo K_kinds T_acts T_pieces T_places T_before S_cells S_pieces S_grown S_stale S_staleCells S_staleCount T_made T_kept T_since p1 Q := by
  unfold wp_X7_undo
  exact ⟨fun _ => hQ, fun a => ⟨fun b => absurd h (fun c => c.elim a (fun d => d b)), fun _ => hQ⟩⟩
theorem sp_rundo_f {M_kind : Nat → Int32} {M_stepWhat : Nat → Int32} {M_stepPiece : Nat → Int32} {M_stepPlace : Nat → Int32} {M_stepSince : Nat → Int32} {M_sheet : Nat → Int32} {M_since : Nat → Int32} {M_steps : Int32} {M_undoable : Int32} {p1 : Int32} (h : p1 < 0 ∨ ¬ p1 ≤ M_undoable) (Q : Int32 → (Nat → Int32) → (Nat → Int32) → (Int32) → (Int32) → Prop) (hQ : Q (-1 : Int32) M_sheet M_since M_steps M_undoable) : wp_X8_undo M_kind M_stepWhat M_stepPiece M_stepPlace M_stepSince M_sheet M_since M_steps M_undoable p1 Q := by
  unfold wp_X8_undo
  exact ⟨fun _ => hQ, fun a => ⟨fun b => absurd h (fun c => c.elim a (fun d => d b)), fun _ => hQ⟩⟩
theorem sp_rkeep_f {M_strength : Nat → Int32} {M_kind : Nat → Int32} {M_more : Nat → Int32} {M_glues : Nat → Int32} {M_pieces : Int32} {M_warmth : Int32} {M_draw : Int64} {M_sheet : Nat → Int32} {M_imageStrength : Nat → Int32} {M_imageKind : Nat → Int32} {M_imageMore : Nat → Int32} {M_imageGlues : Nat → Int32} {M_imagePieces : Nat → Int32} {M_imageWarmth : Nat → Int32} {M_imageSheet : Nat → Int32} {M_imageDraw : Nat → Int64} {p1 : Int32} (h : p1 < 0 ∨ ¬ p1 ≤ (2 : Int32)) (Q : Int32 → (Nat → Int32) → (Nat → Int32) → (Nat → Int32) → (Nat → Int32) → (Nat → Int32) → (Nat → Int32) → (Nat → Int32) → (Nat → Int64) → Prop) (hQ : Q (0 : Int32) M_imageStrength M_imageKind M_imageMore M_imageGlues M_imagePieces M_imageWarmth M_imageSheet M_imageDraw) : wp_X8_keep M_strength M_kind M_more M_glues M_pieces M_warmth M_draw M_sheet M_imageStrength M_imageKind M_imageMore M_imageGlues M_imagePieces M_imageWarmth M_imageSheet M_imageDraw p1 Q := by
  unfold wp_X8_keep
  exact ⟨fun _ => hQ, fun a => ⟨fun b => absurd h (fun c => c.elim a (fun d => d b)), fun _ => hQ⟩⟩
theorem sp_rback_f {M_imageStrength : Nat → Int32} {M_imageKind : Nat → Int32} {M_imageMore : Nat → Int32} {M_imageGlues : Nat → Int32} {M_imagePieces : Nat → Int32} {M_imageWarmth : Nat → Int32} {M_imageSheet : Nat → Int32} {M_imageDraw : Nat → Int64} {M_strength : Nat → Int32} {M_kind : Nat → Int32} {M_more : Nat → Int32} {M_glues : Nat → Int32} {M_pieces : Int32} {M_warmth : Int32} {M_draw : Int64} {M_sheet : Nat → Int32} {M_since : Nat → Int32} {M_steps : Int32} {M_undoable : Int32} {M_brought : Int32} {p1 : Int32} (h : p1 < 0 ∨ ¬ p1 ≤ (2 : Int32)) (Q : Int32 → (Nat → Int32) → (Nat → Int32) → (Nat → Int32) → (Nat → Int32) → (Int32) → (Int32) → (Int64) → (Nat → Int32) → (Nat → Int32) → (Int32) → (Int32) → (Int32) → Prop) (hQ : Q (0 : Int32) M_strength M_kind M_more M_glues M_pieces M_warmth M_draw M_sheet M_since M_steps M_undoable M_brought) : wp_X8_back M_imageStrength M_imageKind M_imageMore M_imageGlues M_imagePieces M_imageWarmth M_imageSheet M_imageDraw M_strength M_kind M_more M_glues M_pieces M_warmth M_draw M_sheet M_since M_steps M_undoable M_brought p1 Q := by
  unfold wp_X8_back
  exact ⟨fun _ => hQ, fun a => ⟨fun b => absurd h (fun c => c.elim a (fun d => d b)), fun _ => hQ⟩⟩
theorem hi_c (g : Int32) {N : Nat} (hN : N < 2147483648) : (g < 0 ∨ ¬ g ≤ nI N) ∨ ∃ a : Nat, a ≤ N ∧ g = nI a := by
  by_cases h1 : g < 0
  · exact Or.inl (Or.inl h1)
  obtain ⟨a, ha, rfl⟩ := nI_of h1
  by_cases h2 : nI a ≤ nI N
  · rw [nI_le' ha hN] at h2
    exact Or.inr ⟨a, h2, rfl⟩
  · exact Or.inl (Or.inr h2)
theorem rw_c (y c : Int32) : (y < 0 ∨ (16 : Int32) ≤ y ∨ c < 1 ∨ ¬ c ≤ (16 : Int32)) ∨ ∃ a b : Nat, a < 16 ∧ 1 ≤ b ∧ b ≤ 16 ∧ y = nI a ∧ c = nI b := by
  rcases xy_c y y with (h | h | h | h) | ⟨a, _, ha, _, rfl, _⟩
  · exact Or.inl (Or.inl h)
  · exact Or.inl (Or.inr (Or.inl h))
  · exact Or.inl (Or.inl h)
  · exact Or.inl (Or.inr (Or.inl h))
  by_cases h1 : c < 1
  · exact Or.inl (Or.inr (Or.inr (Or.inl h1)))
  have h0 : ¬ c < 0 := by
    rw [fa_lt] at h1 ⊢
    have e1 : (1 : Int32).toInt = 1 := by decide
    have e2 : (0 : Int32).toInt = 0 := by decide
    omega
  obtain ⟨b, hb, rfl⟩ := nI_of h0
  by_cases h2 : nI b ≤ (16 : Int32)
  · rw [ls_1 hb] at h1
    rw [ge_16 hb] at h2
    exact Or.inr ⟨a, b, ha, by omega, h2, rfl, rfl⟩
  · exact Or.inl (Or.inr (Or.inr (Or.inr h2)))
theorem th_f {p : Int32} (h : p < 0 ∨ (3 : Int32) ≤ p) : p < 0 ∨ ¬ p ≤ (2 : Int32) := by
  rcases h with h | h
  · exact Or.inl h
  · right
    rw [fa_le] at h ⊢
    have e1 : (3 : Int32).toInt = 3 := by decide
    have e2 : (2 : Int32).toInt = 2 := by decide
    omega
theorem okH2_put {kd : Nat → Nat} {made kept : Nat} {aW aP : Nat → Nat} {hs : Nat → Nat → Nat} (h : okH2 kd made kept aW aP hs) (hk : kept ≤ 200) (hkm : kept ≤ made) {w p kept' : Nat} {X : Nat → Nat} (hk' : kept' = min (kept + 1) 200) (h0 : w = 0 → kd p = 1 ∧ grn kd (hs made) = 0) (h1 : w = 1 → kd p ≠ 1) :
    okH2 kd (made + 1) kept' (upN aW made w) (upN aP made p) (upH hs (made + 1) X) := by
  intro t a b
  by_cases e : t = made
  · subst e
    rw [upN_s, upN_s, upH_n (by omega)]
    exact ⟨h0, h1⟩
  · rw [upN_n e, upN_n e, upH_n (by omega)]
    exact h t (by omega) (by omega)
theorem okH2_seq {kd : Nat → Nat} {made kept : Nat} {aW aP : Nat → Nat} {hs : Nat → Nat → Nat} {v : Nat → Nat} {og : Nat → Nat → Nat} {w : Nat} (hk : kept ≤ 200) (hkm : kept ≤ made) (h : okH2 kd made kept aW aP hs) (e0 : hs made = og 0) :
    ∀ m, (∀ t, t < m → (w = 0 → kd (v t) = 1 ∧ grn kd (og t) = 0) ∧ (w = 1 → kd (v t) ≠ 1)) → okH2 kd (made + m) (min (kept + m) 200) (gU aW (fun _ => w) made m) (gU aP v made m) (gHs hs og made m) ∧ gHs hs og made m (made + m) = og m
  | 0, _ => by
    have e : min (kept + 0) 200 = kept := by omega
    rw [e]
    exact ⟨h, e0⟩
  | m + 1, g => by
    obtain ⟨i1, i2⟩ := okH2_seq hk hkm h e0 m (fun t ht => g t (by omega))
    obtain ⟨g1, g2⟩ := g m (by omega)
    refine ⟨?_, upH_s _ _ _⟩
    exact okH2_put i1 (by omega) (by omega) (kept' := min (kept + (m + 1)) 200) (by omega) (by rw [i2]; exact g1) g2
theorem grn_kd {kd kd' on : Nat → Nat} {P : Nat} (hS : okS kd P on) (e : ∀ p, p < P → kd' p = kd p) : grn kd' on = grn kd on := by
  unfold grn
  refine fb_ct_cong (fun k _ => ?_)
  by_cases h : on k % 2 = 1
  · have hp : (on k - 1) / 2 < P := by
      have := (hS.1 k).1
      omega
    rw [e _ hp]
  · simp [h]
theorem okC_kd {kd kd' on : Nat → Nat} {P made kept : Nat} {aW aP aL : Nat → Nat} {aB si : (Nat → Int32)} {cells A Pc L Bf since : (Nat → Int32)} {pieces grown tmade tkept : Int32} (hS : okS kd P on) (e : ∀ p, p < P → kd' p = kd p) (h : okC kd on made kept aW aP aL aB si cells pieces grown tmade tkept A Pc L Bf since) : okC kd' on made kept aW aP aL aB si cells pieces grown tmade tkept A Pc L Bf since := by
  obtain ⟨h1, h2, h3, h4⟩ := h
  exact ⟨h1, h2, by rw [grn_kd hS e]; exact h3, h4⟩
theorem okH2_kd {kd kd' : Nat → Nat} {P made kept : Nat} {aW aP aL : Nat → Nat} {aB : (Nat → Int32)} {hs : Nat → Nat → Nat} {sI : Nat → Nat → Int32} (hH : okH kd P made kept aW aP aL aB hs sI) (e : ∀ p, p < P → kd' p = kd p) (h : okH2 kd made kept aW aP hs) : okH2 kd' made kept aW aP hs := by
  intro t a b
  have e1 := e _ (hH.2 t a b).1
  rw [e1, grn_kd (hH.1 t a (by omega)) e]
  exact h t a b
theorem sm_kth {f : Nat → Nat} {j : Nat} : ∀ {n : Nat}, j < fb_sm f n → ∃ i, i < n ∧ fb_sm f i ≤ j ∧ j < fb_sm f i + f i
  | 0, h => absurd h (Nat.not_lt_zero j)
  | n + 1, h => by
    rw [fb_sm_succ] at h
    by_cases c : j < fb_sm f n
    · obtain ⟨i, h1, h2⟩ := sm_kth c
      exact ⟨i, by omega, h2⟩
    · exact ⟨n, by omega, by omega, h⟩
theorem CH_ex {kd mo gl sg B : Nat → Nat} {w P j : Nat} (h : j < nA kd mo gl sg w B P) : ∃ y x p, CH kd mo gl sg w B P j y x p := by
  obtain ⟨y, hy, y1, y2⟩ := sm_kth (f := fun y => nX kd mo gl sg w B P y 16) h
  have y2' : j < fb_sm (fun y => nX kd mo gl sg w B P y 16) y + nX kd mo gl sg w B P y 16 := y2
  have y3 : j - fb_sm (fun y => nX kd mo gl sg w B P y 16) y < fb_sm (fun x => nC kd mo gl sg w B P (celN x y)) 16 := by
    have e : nX kd mo gl sg w B P y 16 = fb_sm (fun x => nC kd mo gl sg w B P (celN x y)) 16 := rfl
    omega
  obtain ⟨x, hx, x1, x2⟩ := sm_kth y3
  have x3 : j - fb_sm (fun y => nX kd mo gl sg w B P y 16) y - fb_sm (fun x => nC kd mo gl sg w B P (celN x y)) x < fb_ct (fun p => mayC kd mo gl sg w B p (celN x y)) P := by
    have e : nC kd mo gl sg w B P (celN x y) = fb_ct (fun p => mayC kd mo gl sg w B p (celN x y)) P := rfl
    omega
  obtain ⟨p, hp, p1, p2⟩ := fb_ct_kth x3
  refine ⟨y, x, p, ?_, p1, hy, hx, hp⟩
  show j = fb_sm (fun y => nX kd mo gl sg w B P y 16) y + fb_sm (fun x => nC kd mo gl sg w B P (celN x y)) x + fb_ct (fun p => mayC kd mo gl sg w B p (celN x y)) p
  omega
theorem gZ_ok {kd mo gl sg on : Nat → Nat} {w P i : Nat} {s : Int64} (h : 0 < nA kd mo gl sg w (pad (gr kd mo gl sg w P on s i).1) P) : (gZ kd mo gl sg w P on s i).2.2 < P ∧ freN kd (gZ kd mo gl sg w P on s i).2.2 ((gZ kd mo gl sg w P on s i).2.1 + 16 * (gZ kd mo gl sg w P on s i).1) (gr kd mo gl sg w P on s i).1 ∧ kd (gZ kd mo gl sg w P on s i).2.2 ≠ 1 := by
  obtain ⟨y, x, p, hc⟩ := CH_ex (j := drN (nxS (gr kd mo gl sg w P on s i).2) (nA kd mo gl sg w (pad (gr kd mo gl sg w P on s i).1) P)) (Nat.mod_lt _ h)
  have e : gZ kd mo gl sg w P on s i = (y, x, p) := pick_eq hc
  rw [e]
  obtain ⟨_, h2, h3, h4, h5⟩ := hc
  exact ⟨h5, fre_N h4 h3 (mayC_fre h2).1, (mayC_fre h2).2⟩
theorem rS_put {mx : Nat} {kd mo gl sg : Nat → Nat} {P w : Nat} {made kept : Nat} {aW aP aL : Nat → Nat} {aB : (Nat → Int32)} {hs : Nat → Nat → Nat} {sI : Nat → Nat → Int32} {fc : Bool} {v p k kept' : Nat} {S_cells : Nat → Int32} {S_pieces : Int32} {S_grown : Int32} {S_fits : Nat → Int64} {S_fitsInLine : Nat → Int32} {S_fitsInAll : Int32} {S_stale : Nat → Int32} {S_staleCells : Nat → Int32} {S_staleCount : Int32} {T_made : Int32} {T_kept : Int32} {T_fromClear : Int32} {T_acts : Nat → Int32} {T_pieces : Nat → Int32} {T_places : Nat → Int32} {T_before : Nat → Int32} {T_since : Nat → Int32} {M_sheet : Nat → Int32} {M_since : Nat → Int32} {M_stepWhat : Nat → Int32} {M_stepPiece : Nat → Int32} {M_stepPlace : Nat → Int32} {M_stepSince : Nat → Int32} {M_steps : Int32} {M_undoable : Int32} {M_brought : Int32} (hv : v ≠ 2) (hv3 : v ≤ 3) (hp : p < P) (hf : freN kd p k (hs made)) (v0 : v = 0 → kd p = 1 ∧ grn kd (hs made) = 0) (v1 : v = 1 → kd p ≠ 1) (s2 : kept ≤ 200) (s3 : kept ≤ made) (s4 : made ≤ mx) (s8 : okH kd P made kept aW aP aL aB hs sI) (s9 : okH2 kd made kept aW aP hs) (s11 : T_fromClear = bI fc) (s12 : M_brought = 0 ↔ fc = true) (s13 : fc = true → made = kept → hs 0 = (fun _ => 0)) (hk' : kept' = min (kept + 1) 200)
    (hC : okC kd (layN kd p k (hs made)) (made + 1) kept' (upN aW made v) (upN aP made p) (upN aL made k) aB (upS (sI made) k (nI made)) S_cells S_pieces S_grown T_made T_kept T_acts T_pieces T_places T_before T_since)
    (hM : okM kd (layN kd p k (hs made)) (made + 1) kept' (upN aW made v) (upN aP made p) (upN aL made k) aB (upS (sI made) k (nI made)) M_sheet M_since M_stepWhat M_stepPiece M_stepPlace M_stepSince M_steps M_undoable)
    (hF : okFI kd mo gl sg w P (pad (layN kd p k (hs made))) S_stale S_staleCells S_staleCount S_fits S_fitsInLine S_fitsInAll) :
    rS (mx + 256) kd mo gl sg P w (layN kd p k (hs made)) (made + 1) kept' (upN aW made v) (upN aP made p) (upN aL made k) aB (upH hs (made + 1) (layN kd p k (hs made))) (upH sI (made + 1) (upS (sI made) k (nI made))) fc S_cells S_pieces S_grown S_fits S_fitsInLine S_fitsInAll S_stale S_staleCells S_staleCount T_made T_kept T_fromClear T_acts T_pieces T_places T_before T_since M_sheet M_since M_stepWhat M_stepPiece M_stepPlace M_stepSince M_steps M_undoable M_brought := by
  have hH := okH_put s8 s2 s3 hv hv3 hp hf hk'
  refine ⟨okS_lay (s8.1 made (by omega) (Nat.le_refl _)) hp hf, by omega, by omega, by omega, ?_, ?_, hF, hH, okH2_put s9 s2 s3 hk' v0 v1, upH_s _ _ _, s11, s12, fun a b => ?_⟩
  · rw [upH_s]
    exact hC
  · rw [upH_s]
    exact hM
  · rw [upH_n (by omega)]
    exact s13 a (by omega)
theorem rS_went {mx : Nat} {kd mo gl sg : Nat → Nat} {P w : Nat} {made kept : Nat} {aW aP aL : Nat → Nat} {aB : (Nat → Int32)} {hs : Nat → Nat → Nat} {sI : Nat → Nat → Int32} {fc : Bool} {p k kept' : Nat} {S_cells : Nat → Int32} {S_pieces : Int32} {S_grown : Int32} {S_fits : Nat → Int64} {S_fitsInLine : Nat → Int32} {S_fitsInAll : Int32} {S_stale : Nat → Int32} {S_staleCells : Nat → Int32} {S_staleCount : Int32} {T_made : Int32} {T_kept : Int32} {T_fromClear : Int32} {T_acts : Nat → Int32} {T_pieces : Nat → Int32} {T_places : Nat → Int32} {T_before : Nat → Int32} {T_since : Nat → Int32} {M_sheet : Nat → Int32} {M_since : Nat → Int32} {M_stepWhat : Nat → Int32} {M_stepPiece : Nat → Int32} {M_stepPlace : Nat → Int32} {M_stepSince : Nat → Int32} {M_steps : Int32} {M_undoable : Int32} {M_brought : Int32} (hk : k < 256) (h0 : hs made k = 1 + 2 * p) (h3 : kd p = 3) (s2 : kept ≤ 200) (s3 : kept ≤ made) (s4 : made ≤ mx) (s8 : okH kd P made kept aW aP aL aB hs sI) (s9 : okH2 kd made kept aW aP hs) (s11 : T_fromClear = bI fc) (s12 : M_brought = 0 ↔ fc = true) (s13 : fc = true → made = kept → hs 0 = (fun _ => 0)) (hk' : kept' = min (kept + 1) 200)
    (hC : okC kd (upN (hs made) k 0) (made + 1) kept' (upN aW made 2) (upN aP made p) (upN aL made k) (upS aB made (sI made k)) (sI made) S_cells S_pieces S_grown T_made T_kept T_acts T_pieces T_places T_before T_since)
    (hM : okM kd (upN (hs made) k 0) (made + 1) kept' (upN aW made 2) (upN aP made p) (upN aL made k) (upS aB made (sI made k)) (sI made) M_sheet M_since M_stepWhat M_stepPiece M_stepPlace M_stepSince M_steps M_undoable)
    (hF : okFI kd mo gl sg w P (pad (upN (hs made) k 0)) S_stale S_staleCells S_staleCount S_fits S_fitsInLine S_fitsInAll) :
    rS (mx + 256) kd mo gl sg P w (upN (hs made) k 0) (made + 1) kept' (upN aW made 2) (upN aP made p) (upN aL made k) (upS aB made (sI made k)) (upH hs (made + 1) (upN (hs made) k 0)) (upH sI (made + 1) (sI made)) fc S_cells S_pieces S_grown S_fits S_fitsInLine S_fitsInAll S_stale S_staleCells S_staleCount T_made T_kept T_fromClear T_acts T_pieces T_places T_before T_since M_sheet M_since M_stepWhat M_stepPiece M_stepPlace M_stepSince M_steps M_undoable M_brought := by
  have hH := okH_went s8 s2 s3 hk h0 h3 hk'
  have hS := hH.1 (made + 1) (by omega) (Nat.le_refl _)
  rw [upH_s] at hS
  refine ⟨hS, by omega, by omega, by omega, ?_, ?_, hF, hH, okH2_put s9 s2 s3 hk' (fun x => absurd x (by decide)) (fun x => absurd x (by decide)), upH_s _ _ _, s11, s12, fun a b => ?_⟩
  · rw [upH_s]
    exact hC
  · rw [upH_s]
    exact hM
  · rw [upH_n (by omega)]
    exact s13 a (by omega)
theorem rS_seq {mx : Nat} {kd mo gl sg : Nat → Nat} {P w : Nat} {made kept : Nat} {aW aP aL : Nat → Nat} {aB : (Nat → Int32)} {hs : Nat → Nat → Nat} {sI : Nat → Nat → Int32} {fc : Bool} {v m : Nat} {pv lv : Nat → Nat} {og : Nat → Nat → Nat} {sq : Nat → Nat → Int32} {S_cells : Nat → Int32} {S_pieces : Int32} {S_grown : Int32} {S_fits : Nat → Int64} {S_fitsInLine : Nat → Int32} {S_fitsInAll : Int32} {S_stale : Nat → Int32} {S_staleCells : Nat → Int32} {S_staleCount : Int32} {T_made : Int32} {T_kept : Int32} {T_fromClear : Int32} {T_acts : Nat → Int32} {T_pieces : Nat → Int32} {T_places : Nat → Int32} {T_before : Nat → Int32} {T_since : Nat → Int32} {M_sheet : Nat → Int32} {M_since : Nat → Int32} {M_stepWhat : Nat → Int32} {M_stepPiece : Nat → Int32} {M_stepPlace : Nat → Int32} {M_stepSince : Nat → Int32} {M_steps : Int32} {M_undoable : Int32} {M_brought : Int32} (hv : v ≠ 2) (hv3 : v ≤ 3) (hm : m ≤ 256) (h0 : hs made = og 0) (s0 : sI made = sq 0) (hg : ∀ t, t < m → pv t < P ∧ freN kd (pv t) (lv t) (og t) ∧ og (t + 1) = layN kd (pv t) (lv t) (og t) ∧ sq (t + 1) = upS (sq t) (lv t) (nI (made + t))) (hg2 : ∀ t, t < m → (v = 0 → kd (pv t) = 1 ∧ grn kd (og t) = 0) ∧ (v = 1 → kd (pv t) ≠ 1))
    (s2 : kept ≤ 200) (s3 : kept ≤ made) (s4 : made ≤ mx) (s8 : okH kd P made kept aW aP aL aB hs sI) (s9 : okH2 kd made kept aW aP hs) (s11 : T_fromClear = bI fc) (s12 : M_brought = 0 ↔ fc = true) (s13 : fc = true → made = kept → hs 0 = (fun _ => 0))
    (hC : okC kd (og m) (made + m) (min (kept + m) 200) (gU aW (fun _ => v) made m) (gU aP pv made m) (gU aL lv made m) aB (sq m) S_cells S_pieces S_grown T_made T_kept T_acts T_pieces T_places T_before T_since)
    (hM : okM kd (og m) (made + m) (min (kept + m) 200) (gU aW (fun _ => v) made m) (gU aP pv made m) (gU aL lv made m) aB (sq m) M_sheet M_since M_stepWhat M_stepPiece M_stepPlace M_stepSince M_steps M_undoable)
    (hF : okFI kd mo gl sg w P (pad (og m)) S_stale S_staleCells S_staleCount S_fits S_fitsInLine S_fitsInAll) :
    rS (mx + 256) kd mo gl sg P w (og m) (made + m) (min (kept + m) 200) (gU aW (fun _ => v) made m) (gU aP pv made m) (gU aL lv made m) aB (gHs hs og made m) (gSI sI sq made m) fc S_cells S_pieces S_grown S_fits S_fitsInLine S_fitsInAll S_stale S_staleCells S_staleCount T_made T_kept T_fromClear T_acts T_pieces T_places T_before T_since M_sheet M_since M_stepWhat M_stepPiece M_stepPlace M_stepSince M_steps M_undoable M_brought := by
  obtain ⟨hH, e1, e2, e3⟩ := okH_seq s2 s3 s8 h0 s0 hv hv3 m hg
  have hS := hH.1 (made + m) (by omega) (Nat.le_refl _)
  rw [e1] at hS
  refine ⟨hS, by omega, by omega, by omega, ?_, ?_, hF, hH, (okH2_seq s2 s3 s9 h0 m hg2).1, e1, s11, s12, fun a b => ?_⟩
  · rw [e2]
    exact hC
  · rw [e2]
    exact hM
  · rw [e3 0 (by omega)]
    exact s13 a (by omega)
theorem rS_kit {mx : Nat} {kd mo gl sg : Nat → Nat} {P w : Nat} {made kept : Nat} {aW aP aL : Nat → Nat} {aB : (Nat → Int32)} {hs : Nat → Nat → Nat} {sI : Nat → Nat → Int32} {fc : Bool} {kd' mo' gl' sg' : Nat → Nat} {P' w' : Nat} {stale' stc' : (Nat → Int32)} {n' : Int32} {S_cells : Nat → Int32} {S_pieces : Int32} {S_grown : Int32} {S_fits : Nat → Int64} {S_fitsInLine : Nat → Int32} {S_fitsInAll : Int32} {S_stale : Nat → Int32} {S_staleCells : Nat → Int32} {S_staleCount : Int32} {T_made : Int32} {T_kept : Int32} {T_fromClear : Int32} {T_acts : Nat → Int32} {T_pieces : Nat → Int32} {T_places : Nat → Int32} {T_before : Nat → Int32} {T_since : Nat → Int32} {M_sheet : Nat → Int32} {M_since : Nat → Int32} {M_stepWhat : Nat → Int32} {M_stepPiece : Nat → Int32} {M_stepPlace : Nat → Int32} {M_stepSince : Nat → Int32} {M_steps : Int32} {M_undoable : Int32} {M_brought : Int32} (hP : P ≤ P') (e : ∀ p, p < P → kd' p = kd p) (hF : okFI kd' mo' gl' sg' w' P' (pad (hs made)) stale' stc' n' S_fits S_fitsInLine S_fitsInAll) (h : rS mx kd mo gl sg P w (hs made) made kept aW aP aL aB hs sI fc S_cells S_pieces S_grown S_fits S_fitsInLine S_fitsInAll S_stale S_staleCells S_staleCount T_made T_kept T_fromClear T_acts T_pieces T_places T_before T_since M_sheet M_since M_stepWhat M_stepPiece M_stepPlace M_stepSince M_steps M_undoable M_brought) :
    rS (mx + 256) kd' mo' gl' sg' P' w' (hs made) made kept aW aP aL aB hs sI fc S_cells S_pieces S_grown S_fits S_fitsInLine S_fitsInAll stale' stc' n' T_made T_kept T_fromClear T_acts T_pieces T_places T_before T_since M_sheet M_since M_stepWhat M_stepPiece M_stepPlace M_stepSince M_steps M_undoable M_brought := by
  obtain ⟨s1, s2, s3, s4, s5, s6, s7, s8, s9, s10, s11, s12, s13⟩ := h
  exact ⟨okS_grow s1 hP e, s2, s3, by omega, okC_kd s1 e s5, s6, hF, okH_grow s8 hP e, okH2_kd s8 e s9, rfl, s11, s12, s13⟩
