/-! what the sheet was like, step by step -/
def okH (kd : Nat → Nat) (P made kept : Nat) (aW aP aL : Nat → Nat) (aB : Nat → Int32) (hs : Nat → Nat → Nat) (sI : Nat → Nat → Int32) : Prop :=
  (∀ t, made - kept ≤ t → t ≤ made → okS kd P (hs t)) ∧ ∀ t, made - kept ≤ t → t < made → aP t < P ∧ aL t < 256 ∧ aW t ≤ 3 ∧
    ((aW t ≠ 2 ∧ freN kd (aP t) (aL t) (hs t) ∧ hs (t + 1) = layN kd (aP t) (aL t) (hs t) ∧ sI (t + 1) = upS (sI t) (aL t) (nI t)) ∨
     (aW t = 2 ∧ hs t (aL t) = 1 + 2 * aP t ∧ kd (aP t) = 3 ∧ hs (t + 1) = upN (hs t) (aL t) 0 ∧ sI (t + 1) = sI t ∧ aB t = sI t (aL t)))
def upH {α : Type} (f : Nat → α) (k : Nat) (v : α) : Nat → α := fun j => if j = k then v else f j
theorem upH_s {α : Type} (f : Nat → α) (k : Nat) (v : α) : upH f k v k = v := if_pos rfl
theorem upH_n {α : Type} {f : Nat → α} {k j : Nat} {v : α} (h : j ≠ k) : upH f k v j = f j := if_neg h
theorem upS_s (f : Nat → Int32) (k : Nat) (v : Int32) : upS f k v k = v := if_pos rfl
theorem upS_n {f : Nat → Int32} {k j : Nat} {v : Int32} (h : j ≠ k) : upS f k v j = f j := if_neg h
section
variable {kd : Nat → Nat} {P made kept : Nat} {aW aP aL : Nat → Nat} {aB : Nat → Int32} {hs : Nat → Nat → Nat} {sI : Nat → Nat → Int32}
theorem okH_put (h : okH kd P made kept aW aP aL aB hs sI) (hk : kept ≤ 200) (hkm : kept ≤ made) {w p k kept' : Nat} (hw : w ≠ 2) (hw3 : w ≤ 3) (hp : p < P) (hf : freN kd p k (hs made)) (hk' : kept' = min (kept + 1) 200) :
    okH kd P (made + 1) kept' (upN aW made w) (upN aP made p) (upN aL made k) aB (upH hs (made + 1) (layN kd p k (hs made))) (upH sI (made + 1) (upS (sI made) k (nI made))) := by
  obtain ⟨h1, h2⟩ := h
  refine ⟨fun t a b => ?_, fun t a b => ?_⟩
  · by_cases e : t = made + 1
    · rw [e, upH_s]
      exact okS_lay (h1 made (by omega) (Nat.le_refl _)) hp hf
    · rw [upH_n e]
      exact h1 t (by omega) (by omega)
  · by_cases e : t = made
    · subst e
      rw [upN_s, upN_s, upN_s, upH_s, upH_s, upH_n (by omega), upH_n (by omega)]
      exact ⟨hp, hf.1, hw3, Or.inl ⟨hw, hf, rfl, rfl⟩⟩
    · rw [upN_n e, upN_n e, upN_n e, upH_n (by omega), upH_n (by omega), upH_n (by omega), upH_n (by omega)]
      exact h2 t (by omega) (by omega)
theorem okH_went (h : okH kd P made kept aW aP aL aB hs sI) (hk : kept ≤ 200) (hkm : kept ≤ made) {p k kept' : Nat} (hk256 : k < 256) (h0 : hs made k = 1 + 2 * p) (h3 : kd p = 3) (hk' : kept' = min (kept + 1) 200) :
    okH kd P (made + 1) kept' (upN aW made 2) (upN aP made p) (upN aL made k) (upS aB made (sI made k)) (upH hs (made + 1) (upN (hs made) k 0)) (upH sI (made + 1) (sI made)) := by
  obtain ⟨h1, h2⟩ := h
  have hS := h1 made (by omega) (Nat.le_refl _)
  have hp : p < P := by
    have := (hS.1 k).1
    omega
  refine ⟨fun t a b => ?_, fun t a b => ?_⟩
  · by_cases e : t = made + 1
    · rw [e, upH_s]
      have := okS_awy hS h0
      unfold awyN at this
      rw [if_neg (by omega)] at this
      exact this
    · rw [upH_n e]
      exact h1 t (by omega) (by omega)
  · by_cases e : t = made
    · subst e
      rw [upN_s, upN_s, upN_s, upH_s, upH_s, upS_s, upH_n (by omega), upH_n (by omega)]
      exact ⟨hp, hk256, by decide, Or.inr ⟨rfl, h0, h3, rfl, rfl, rfl⟩⟩
    · rw [upN_n e, upN_n e, upN_n e, upS_n e, upH_n (by omega), upH_n (by omega), upH_n (by omega), upH_n (by omega)]
      exact h2 t (by omega) (by omega)
theorem okH_undo (h : okH kd P made kept aW aP aL aB hs sI) (hk0 : 0 < kept) (hkm : kept ≤ made) : okH kd P (made - 1) (kept - 1) aW aP aL aB hs sI :=
  ⟨fun t a b => h.1 t (by omega) (by omega), fun t a b => h.2 t (by omega) (by omega)⟩
theorem lay_kd {kd' : Nat → Nat} {p k : Nat} {on : Nat → Nat} (e : kd' p = kd p) : layN kd' p k on = layN kd p k on := by
  unfold layN
  rw [e]
theorem okS_grow {kd' : Nat → Nat} {P' : Nat} {on : Nat → Nat} (h : okS kd P on) (hP : P ≤ P') (e : ∀ p, p < P → kd' p = kd p) : okS kd' P' on := by
  obtain ⟨h1, h2, h3, h4⟩ := h
  have hp : ∀ k, on k ≠ 0 → (on k - 1) / 2 < P := fun k q => by have := (h1 k).1; omega
  refine ⟨fun k => ⟨by have := (h1 k).1; omega, fun a b => ?_⟩, h2, fun k a b => ?_, h4⟩
  · rw [e _ (hp k a)]
    exact (h1 k).2 a b
  · rw [e _ (hp k (by omega))] at b
    exact h3 k a b
theorem okH_grow {kd' : Nat → Nat} {P' : Nat} (h : okH kd P made kept aW aP aL aB hs sI) (hP : P ≤ P') (e : ∀ p, p < P → kd' p = kd p) : okH kd' P' made kept aW aP aL aB hs sI := by
  refine ⟨fun t a b => okS_grow (h.1 t a b) hP e, fun t a b => ?_⟩
  obtain ⟨g1, g2, g3, g4⟩ := h.2 t a b
  have ek := e _ g1
  refine ⟨by omega, g2, g3, ?_⟩
  rcases g4 with ⟨q1, q2, q3, q4⟩ | ⟨q1, q2, q3, q4⟩
  · left
    refine ⟨q1, ?_, ?_, q4⟩
    · unfold freN
      rw [ek]
      exact q2
    · rw [lay_kd ek]
      exact q3
  · right
    rw [ek]
    exact ⟨q1, q2, q3, q4⟩
end
theorem okC_back {kd mo gl sg : Nat → Nat} {wm P made kept : Nat} {aW aP aL : Nat → Nat} {aB : Nat → Int32} {hs : Nat → Nat → Nat} {sI : Nat → Nat → Int32} {cells A Pc L Bf since stale stc line : Nat → Int32} {pieces grown tmade tkept n all : Int32} {fits : Nat → Int64} (hk5 : ∀ p, kd p ≤ 5) (hP : P ≤ 40) (hk : kept ≤ 200) (hkm : kept ≤ made) (hm : made < 1000000) (hk0 : 0 < kept)
    (hH : okH kd P made kept aW aP aL aB hs sI) (h : okC kd (hs made) made kept aW aP aL aB (sI made) cells pieces grown tmade tkept A Pc L Bf since) (hFI : okFI kd mo gl sg wm P (pad (hs made)) stale stc n fits line all)
    (Q : (Nat → Int32) → Int32 → Int32 → (Nat → Int32) → (Nat → Int32) → Int32 → Int32 → Int32 → (Nat → Int32) → Prop)
    (hQ : ∀ cells' pieces' grown' stale' stc' n' tmade' tkept' since', okC kd (hs (made - 1)) (made - 1) (kept - 1) aW aP aL aB (sI (made - 1)) cells' pieces' grown' tmade' tkept' A Pc L Bf since' → okFI kd mo gl sg wm P (pad (hs (made - 1))) stale' stc' n' fits line all → Q cells' pieces' grown' stale' stc' n' tmade' tkept' since') :
    wp_X7_takeBackLatest (fun k => nI (kd k)) A Pc L Bf cells pieces grown stale stc n tmade tkept since Q := by
  obtain ⟨rfl, rfl, rfl, rfl, rfl, h6, h7⟩ := h
  have hS1 := hH.1 made (by omega) (Nat.le_refl _)
  obtain ⟨t, rfl⟩ : ∃ t, made = t + 1 := ⟨made - 1, by omega⟩
  obtain ⟨g1, g2, g3, g4⟩ := hH.2 t (by omega) (by omega)
  obtain ⟨a1, a2, a3, a4⟩ := h6 t (by omega) (by omega)
  have h6' : okT1 (t + 1 - 1) (kept - 1) aW aP aL aB A Pc L Bf := fun t' a b => h6 t' (by omega) (by omega)
  have hact := actC_le g3
  have hcb := celK_b g2
  rw [Nat.add_sub_cancel] at hQ h6'
  unfold wp_X7_takeBackLatest wp_X5_dropLatest wq_X5_dropLatest_27
  rw [ge_0 (by omega)]
  refine ⟨fun q => absurd q (by omega), fun _ => ?_⟩
  rintro _ rfl _ rfl
  rw [sb_1 (by omega), sb_1 (by omega), Nat.add_sub_cancel, rm_200 (by omega), vp_in' (by omega), nI_clamp' (by omega), a3, a1, a2]
  refine ⟨by omega, ?_⟩
  rintro _ rfl
  refine ⟨by omega, ?_⟩
  rintro _ rfl
  rw [eq_3 (by omega)]
  refine ⟨fun q => ?_, fun q => ⟨by omega, ?_⟩⟩
  · rcases g4 with ⟨q1, q2, q3, q4⟩ | ⟨q1, _⟩
    · have hon : hs (t + 1) (aL t) = 1 + 2 * aP t := by
        rw [q3, lay_v, if_neg (by omega), if_pos rfl]
      refine sp_lift hk5 hP hS1 g2 hon hFI _ ?_
      intro stale' stc' n' f
      have eA : awyN kd (aP t) (aL t) (hs (t + 1)) = hs t := by rw [q3]; exact awy_lay q2
      rw [eA] at f ⊢
      refine hQ _ _ _ _ _ _ _ _ _ ⟨rfl, rfl, rfl, rfl, rfl, h6', fun k hk hodd => ?_⟩ f
      have hne : k ≠ aL t := by
        intro e
        rw [e, q2.2.1] at hodd
        omega
      rw [h7 k hk ?_, q4, upS_n hne]
      rw [q3, lay_v, if_neg, if_neg hne]
      · exact hodd
      · rintro ⟨b1, b2⟩
        rw [b2, (q2.2.2 b1).2] at hodd
        omega
    · rw [q1] at q
      exact absurd rfl q
  · rcases g4 with ⟨q1, _⟩ | ⟨q1, q2, q3, q4, q5, q6⟩
    · exfalso
      unfold actC at q
      rw [if_neg q1] at q
      split at q <;> omega
    · rintro _ rfl
      have hf : freN kd (aP t) (aL t) (hs (t + 1)) := ⟨g2, by rw [q4, upN_s], fun b => by omega⟩
      refine sp_putDown hk5 hP g1 hf hFI _ ?_
      intro stale' stc' n' f
      have eA : layN kd (aP t) (aL t) (hs (t + 1)) = hs t := by
        rw [q4]
        funext j
        rw [lay_v, if_neg (fun b => by omega)]
        by_cases e : j = aL t
        · rw [if_pos e, e, q2]
        · rw [if_neg e, upN_n e]
      rw [eA] at f ⊢
      rw [a4 q1]
      refine ⟨by omega, ?_⟩
      rintro _ rfl
      rw [vp_in' (by omega), nI_clamp' (by omega)]
      refine ⟨by omega, ?_⟩
      rintro _ rfl
      refine hQ _ _ _ _ _ _ _ _ _ ⟨rfl, rfl, rfl, rfl, rfl, h6', fun k hk hodd => ?_⟩ f
      rw [upd_at]
      by_cases e : k = aL t
      · rw [if_pos (by rw [e]), e, q6]
      · rw [if_neg (fun b => e (celK_inj b)), h7 k hk (by rw [q4, upN_n e]; exact hodd), q5]
theorem sp_undo {kd mo gl sg : Nat → Nat} {wm P made kept m : Nat} {aW aP aL : Nat → Nat} {aB : Nat → Int32} {hs : Nat → Nat → Nat} {sI : Nat → Nat → Int32} {cells A Pc L Bf since stale stc line : Nat → Int32} {pieces grown tmade tkept n all : Int32} {fits : Nat → Int64} (hk5 : ∀ p, kd p ≤ 5) (hP : P ≤ 40) (hk : kept ≤ 200) (hkm : kept ≤ made) (hm : made < 1000000) (hmk : m ≤ kept)
    (hH : okH kd P made kept aW aP aL aB hs sI) (h : okC kd (hs made) made kept aW aP aL aB (sI made) cells pieces grown tmade tkept A Pc L Bf since) (hFI : okFI kd mo gl sg wm P (pad (hs made)) stale stc n fits line all)
    (Q : Int32 → (Nat → Int32) → Int32 → Int32 → (Nat → Int32) → (Nat → Int32) → Int32 → Int32 → Int32 → (Nat → Int32) → Prop)
    (hQ : ∀ cells' pieces' grown' stale' stc' n' tmade' tkept' since', okC kd (hs (made - m)) (made - m) (kept - m) aW aP aL aB (sI (made - m)) cells' pieces' grown' tmade' tkept' A Pc L Bf since' → okFI kd mo gl sg wm P (pad (hs (made - m))) stale' stc' n' fits line all → Q (nI m) cells' pieces' grown' stale' stc' n' tmade' tkept' since') :
    wp_X7_undo (fun k => nI (kd k)) A Pc L Bf cells pieces grown stale stc n tmade tkept since (nI m) Q := by
  unfold wp_X7_undo
  have e5 := h.2.2.2.2.1
  rw [e5, nI_le' (by omega) (by omega)]
  refine ⟨fun q => absurd q (nI_pos (by omega)), fun _ => ⟨fun _ => ?_, fun q => absurd hmk q⟩⟩
  rw [← e5]
  refine pk_loop (σ := (Nat → Int32) × Int32 × Int32 × (Nat → Int32) × (Nat → Int32) × Int32 × Int32 × Int32 × (Nat → Int32)) (fun f i s => wq_X7_undo_19 (fun k => nI (kd k)) A Pc L Bf Q f s.1 s.2.1 s.2.2.1 s.2.2.2.1 s.2.2.2.2.1 s.2.2.2.2.2.1 s.2.2.2.2.2.2.1 s.2.2.2.2.2.2.2.1 s.2.2.2.2.2.2.2.2 (nI m) (nI i))
    (fun i s => okC kd (hs (made - i)) (made - i) (kept - i) aW aP aL aB (sI (made - i)) s.1 s.2.1 s.2.2.1 s.2.2.2.2.2.2.1 s.2.2.2.2.2.2.2.1 A Pc L Bf s.2.2.2.2.2.2.2.2 ∧ okFI kd mo gl sg wm P (pad (hs (made - i))) s.2.2.2.1 s.2.2.2.2.1 s.2.2.2.2.2.1 fits line all ∧ okH kd P (made - i) (kept - i) aW aP aL aB hs sI) m 0 (cells, pieces, grown, stale, stc, n, tmade, tkept, since) (Nat.zero_le _) ⟨h, hFI, hH⟩ ?_ ?_
  · rintro f ⟨c1, c2, c3, c4, c5, c6, c7, c8, c9⟩ ⟨k1, k2, k3⟩
    show wf_X7_undo_19 _ _ _ _ _ _ _ _ _ _ _ _ _ _ _ _ _ _
    unfold wf_X7_undo_19
    exact ⟨fun _ => hQ _ _ _ _ _ _ _ _ _ k1 k2, fun q => absurd (nI_le (Nat.le_refl m) (by omega)) q⟩
  · rintro f i ⟨c1, c2, c3, c4, c5, c6, c7, c8, c9⟩ hi ⟨k1, k2, k3⟩ ih
    show wf_X7_undo_19 _ _ _ _ _ _ _ _ _ _ _ _ _ _ _ _ _ _
    unfold wf_X7_undo_19
    dsimp only at k1 k2 k3 ⊢
    rw [nI_le' (by omega) (by omega)]
    refine ⟨fun q => absurd q (by omega), fun _ => ?_⟩
    refine okC_back hk5 hP (by omega) (by omega) (by omega) (by omega) k3 k1 k2 _ ?_
    intro d1 d2 d3 d4 d5 d6 d7 d8 d9 j1 j2
    rintro _ rfl
    rw [ad_1]
    exact ih (d1, d2, d3, d4, d5, d6, d7, d8, d9) ⟨j1, j2, okH_undo k3 (show 0 < kept - i by omega) (show kept - i ≤ made - i by omega)⟩
