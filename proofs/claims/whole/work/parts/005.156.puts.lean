/-! seed, come, force -/
theorem isOfKind_t {kd : Nat → Nat} {P p v : Nat} (hk5 : ∀ p, kd p ≤ 5) (hP : P ≤ 40) (hp : p < P) (hv : v ≤ 5) (Q : Int32 → Prop) (h : Q (bI (decide (kd p = v)))) : wp_X1_isOfKind (nI P) (fun k => nI (kd k)) (nI p) (nI v) Q := by
  have hk := hk5 p
  unfold wp_X1_isOfKind
  apply sp_has_t hP hp
  refine ⟨fun q => absurd q (by decide), fun _ => ?_⟩
  rw [vp_in' (by omega), nI_clamp' (by omega)]
  refine ⟨by omega, ?_⟩
  rintro _ rfl
  rw [nI_eq' (by omega) (by omega)]
  refine ⟨fun q => ?_, fun q => ?_⟩
  · rw [decide_eq_false q] at h
    exact h
  · rw [decide_eq_true q] at h
    exact h
theorem isOfKind_f {kd : Nat → Nat} {P : Nat} {p v : Int32} (hp : p < 0 ∨ nI P ≤ p) (Q : Int32 → Prop) (h : Q 0) : wp_X1_isOfKind (nI P) (fun k => nI (kd k)) p v Q := by
  unfold wp_X1_isOfKind
  apply sp_has_f hp
  exact ⟨fun _ => h, fun q => absurd rfl q⟩
theorem seed_fre {kd on : Nat → Nat} {p x y : Nat} (hk : kd p ≠ 2) (hx : x < 16) (hy : y < 16) : fre kd (pad on) p (celN x y) = decide (on (x + 16 * y) = 0) := by
  unfold fre
  rw [onC_cel hx hy, pad_cel hx hy]
  have h2 : (kd p != 2) = true := by simp [hk]
  rw [h2]
  rw [Bool.eq_iff_iff]
  simp
/-- may a seed be put -/
def sdOK (kd on : Nat → Nat) (p x y : Nat) : Prop := kd p = 1 ∧ on (x + 16 * y) = 0 ∧ grn kd on = 0
theorem sp_cseed_t {kd mo gl sg on : Nat → Nat} {wm P made kept p x y : Nat} {aW aP aL : Nat → Nat} {aB si : (Nat → Int32)} {cells A Pc L Bf since stale stc line : (Nat → Int32)} {pieces grown tmade tkept n all : Int32} {fits : (Nat → Int64)} (hk5 : ∀ p, kd p ≤ 5) (hP : P ≤ 40) (hS : okS kd P on) (hk : kept ≤ 200) (hkm : kept ≤ made) (hm : made < 1000000)
    (h : okC kd on made kept aW aP aL aB si cells pieces grown tmade tkept A Pc L Bf since) (hFI : okFI kd mo gl sg wm P (pad on) stale stc n fits line all) (hp : p < P) (hx : x < 16) (hy : y < 16)
    (Q : Int32 → (Nat → Int32) → Int32 → Int32 → (Nat → Int32) → (Nat → Int32) → Int32 → Int32 → Int32 → (Nat → Int32) → (Nat → Int32) → (Nat → Int32) → (Nat → Int32) → (Nat → Int32) → Prop)
    (hQ0 : ¬ sdOK kd on p x y → Q 0 cells pieces grown stale stc n tmade tkept A Pc L Bf since)
    (hQ1 : sdOK kd on p x y → ∀ cells' pieces' grown' stale' stc' n' tmade' tkept' A' Pc' L' Bf' since' kept', kept' = min (kept + 1) 200 → okC kd (layN kd p (x + 16 * y) on) (made + 1) kept' (upN aW made 0) (upN aP made p) (upN aL made (x + 16 * y)) aB (upS si (x + 16 * y) (nI made)) cells' pieces' grown' tmade' tkept' A' Pc' L' Bf' since' → okFI kd mo gl sg wm P (pad (layN kd p (x + 16 * y) on)) stale' stc' n' fits line all → Q 1 cells' pieces' grown' stale' stc' n' tmade' tkept' A' Pc' L' Bf' since') :
    wp_X7_seed (nI P) (fun k => nI (kd k)) cells pieces grown stale stc n tmade tkept A Pc L Bf since (nI p) (nI x) (nI y) Q := by
  have hc := onC_b (onC_cel hx hy)
  have hg := Nat.le_trans (grn_le kd on) (cnt_le on)
  have h1 := h.1
  have h3 := h.2.2.1
  unfold wp_X7_seed
  apply sp_placeOf_t hx hy
  refine ⟨fun q => absurd q (nI_nm1 (by omega)), fun _ => ?_⟩
  refine isOfKind_t (v := 1) hk5 hP hp (by decide) _ ?_
  rw [bI_0]
  refine ⟨fun q => hQ0 (fun s => by rw [decide_eq_true s.1] at q; exact absurd q (by decide)), fun q => ?_⟩
  have k1 : kd p = 1 := by simpa using q
  rw [h1]
  apply sp_cIsFree hP (okS_pad hS) (by omega)
  rw [bI_0, pad_cel hx hy, ← h1]
  refine ⟨fun q2 => hQ0 (fun s => by rw [s.2.1] at q2; exact absurd q2 (by decide)), fun q2 => ?_⟩
  have k2 : on (x + 16 * y) = 0 := by simpa using q2
  rw [h3, eq_0 (by omega), ← h3]
  refine ⟨fun k3 => ?_, fun q3 => hQ0 (fun s => q3 s.2.2)⟩
  have ok : sdOK kd on p x y := ⟨k1, k2, k3⟩
  have hf : freN kd p (x + 16 * y) on := ⟨by omega, k2, fun e => by omega⟩
  rw [← celK_xy hx]
  exact okC_stepDown (w := 0) hk5 hP hk hkm hm h hFI (by decide) hp hf _ (hQ1 ok)
theorem seed_no {kd : Nat → Nat} {P : Nat} {sheet since W Pc L S : (Nat → Int32)} {steps undoable p x y : Int32} (Q : Int32 → (Nat → Int32) → (Nat → Int32) → (Nat → Int32) → (Nat → Int32) → (Nat → Int32) → (Nat → Int32) → Int32 → Int32 → Prop) (h : Q 0 sheet since W Pc L S steps undoable) :
    ∃ k, wq_X8_seed_43 (fun k => nI (kd k)) (nI P) Q k sheet since W Pc L S steps undoable p x y 0 0 := by
  refine ⟨1, ?_⟩
  show wf_X8_seed_43 _ _ _ _ _ _ _ _ _ _ _ _ _ _ _ _ _
  unfold wf_X8_seed_43 wq_X8_seed_99
  refine ⟨fun _ => ⟨fun _ => ⟨Or.inl rfl, h⟩, fun q => absurd rfl q⟩, fun _ => ⟨fun _ => ⟨fun _ => ⟨Or.inl rfl, h⟩, fun q => absurd rfl q⟩, fun q => absurd rfl q⟩⟩
theorem sp_rseed_t {kd on : Nat → Nat} {P made kept p x y : Nat} {aW aP aL : Nat → Nat} {aB si : (Nat → Int32)} {sheet since W Pc L S : (Nat → Int32)} {steps undoable : Int32} (hk5 : ∀ p, kd p ≤ 5) (hP : P ≤ 40) (hS : okS kd P on) (hk : kept ≤ 200) (hkm : kept ≤ made) (hm : made < 1000000) (h : okM kd on made kept aW aP aL aB si sheet since W Pc L S steps undoable) (hp : p < P) (hx : x < 16) (hy : y < 16)
    (Q : Int32 → (Nat → Int32) → (Nat → Int32) → (Nat → Int32) → (Nat → Int32) → (Nat → Int32) → (Nat → Int32) → Int32 → Int32 → Prop)
    (hQ0 : ¬ sdOK kd on p x y → Q 0 sheet since W Pc L S steps undoable)
    (hQ1 : sdOK kd on p x y → ∀ sheet' since' W' Pc' L' S' steps' undoable' kept', kept' = min (kept + 1) 200 → okM kd (layN kd p (x + 16 * y) on) (made + 1) kept' (upN aW made 0) (upN aP made p) (upN aL made (x + 16 * y)) aB (upS si (x + 16 * y) (nI made)) sheet' since' W' Pc' L' S' steps' undoable' → Q 1 sheet' since' W' Pc' L' S' steps' undoable') :
    wp_X8_seed (fun k => nI (kd k)) (nI P) sheet since W Pc L S steps undoable (nI p) (nI x) (nI y) Q := by
  have hkp := hk5 p
  have h1 := h.1
  unfold wp_X8_seed
  apply sp_isPiece_t hP hp
  refine ⟨fun q => absurd q (by decide), fun _ => ?_⟩
  rw [vp_in' (by omega), nI_clamp' (by omega)]
  refine ⟨by omega, ?_⟩
  rintro _ rfl
  rw [eq_1 (by omega)]
  refine ⟨fun q => seed_no Q (hQ0 (fun s => q s.1)), fun k1 => ?_⟩
  rw [h1]
  refine sp_isFree (f := 0) hk5 (okA_sheet hP (okS_B hS)) (by omega) hx hy _ ?_
  rw [bI_0, seed_fre (by omega) hx hy, ← h1]
  refine ⟨fun q => seed_no Q (hQ0 (fun s => by rw [decide_eq_true s.2.1] at q; exact absurd q (by decide))), fun q => ?_⟩
  have k2 : on (x + 16 * y) = 0 := by simpa using q
  have fin : grn kd on = 0 → wq_X8_seed_99 (fun k => nI (kd k)) (nI P) Q sheet since W Pc L S steps undoable (nI p) (nI x) (nI y) 1 := by
    intro k3
    unfold wq_X8_seed_99
    refine ⟨fun q => absurd q (by decide), fun _ => ?_⟩
    have hf : freN kd p (x + 16 * y) on := ⟨by omega, k2, fun e => by omega⟩
    refine okM_puts (w := 0) hk5 hP hS hk hkm hm h (by decide) hp hx hf _ ?_
    intro sheet' since' W' Pc' L' S' steps' undoable' kept' e g
    exact ⟨Or.inr rfl, hQ1 ⟨k1, k2, k3⟩ _ _ _ _ _ _ _ _ kept' e g⟩
  have nofin : ¬ grn kd on = 0 → wq_X8_seed_99 (fun k => nI (kd k)) (nI P) Q sheet since W Pc L S steps undoable (nI p) (nI x) (nI y) 0 := by
    intro k3
    unfold wq_X8_seed_99
    exact ⟨fun _ => ⟨Or.inl rfl, hQ0 (fun s => k3 s.2.2)⟩, fun q => absurd rfl q⟩
  rw [h1] at fin nofin ⊢
  refine pk_loop (σ := Bool) (fun f i b => wq_X8_seed_43 (fun k => nI (kd k)) (nI P) Q f (fun k => nI (on k)) since W Pc L S steps undoable (nI p) (nI x) (nI y) (bI b) (nI i)) (fun i b => (b = true → ∀ k, k < i → on k = 0 ∨ kd ((on k - 1) / 2) = 1) ∧ (b = false → ¬ grn kd on = 0)) 256 0 true (by decide) ⟨fun _ k hk => absurd hk (by omega), fun q => absurd q (by decide)⟩ ?_ ?_
  · rintro f b ⟨g1, g2⟩
    show wf_X8_seed_43 _ _ _ _ _ _ _ _ _ _ _ _ _ _ _ _ _
    unfold wf_X8_seed_43
    refine ⟨fun _ => ?_, fun q => absurd (by decide) q⟩
    cases b
    · exact nofin (g2 rfl)
    · exact fin ((grn_0 hS).mpr (g1 rfl))
  · rintro f i b hi ⟨g1, g2⟩ ih
    show wf_X8_seed_43 _ _ _ _ _ _ _ _ _ _ _ _ _ _ _ _ _
    unfold wf_X8_seed_43
    rw [le_256 (by omega)]
    refine ⟨fun q => absurd q (by omega), fun _ => ?_⟩
    cases b
    · exact ⟨fun _ => nofin (g2 rfl), fun q => absurd rfl q⟩
    · refine ⟨fun q => absurd q (by decide), fun _ => ?_⟩
      have hoi := (hS.1 i).1
      rw [vp_in' (by omega), nI_clamp' (by omega)]
      refine ⟨hi, ?_⟩
      rintro _ rfl
      rw [eq_0 (by omega)]
      refine ⟨fun q0 => ?_, fun q0 => ⟨hi, ?_⟩⟩
      · rintro _ rfl
        rw [ad_1]
        refine ih true ⟨fun _ k hk => ?_, fun e => absurd e (by decide)⟩
        rcases Nat.lt_or_ge k i with q2 | q2
        · exact g1 rfl k q2
        · obtain rfl : k = i := by omega
          exact Or.inl q0
      · rintro _ rfl
        have hki := hk5 ((on i - 1) / 2)
        rw [sb_1 (by omega), dv_2 (by omega), vp_in' (by omega), nI_clamp' (by omega)]
        refine ⟨by omega, ?_⟩
        rintro _ rfl
        rw [eq_1 (by omega)]
        refine ⟨fun q3 => ?_, fun q3 => ?_⟩
        · rintro _ rfl
          rw [ad_1]
          refine ih false ⟨fun e => absurd e (by decide), fun _ e => ?_⟩
          rcases (grn_0 hS).mp e i hi with a | a
          · exact q0 a
          · exact q3 a
        · rintro _ rfl
          rw [ad_1]
          refine ih true ⟨fun _ k hk => ?_, fun e => absurd e (by decide)⟩
          rcases Nat.lt_or_ge k i with q2 | q2
          · exact g1 rfl k q2
          · obtain rfl : k = i := by omega
            exact Or.inr q3
theorem sp_cseed_f {kd : Nat → Nat} {P : Nat} {cells A Pc L Bf since stale stc : (Nat → Int32)} {pieces grown tmade tkept n p x y : Int32} (h0 : (p < 0 ∨ nI P ≤ p) ∨ (x < 0 ∨ (16 : Int32) ≤ x ∨ y < 0 ∨ (16 : Int32) ≤ y))
    (Q : Int32 → (Nat → Int32) → Int32 → Int32 → (Nat → Int32) → (Nat → Int32) → Int32 → Int32 → Int32 → (Nat → Int32) → (Nat → Int32) → (Nat → Int32) → (Nat → Int32) → (Nat → Int32) → Prop)
    (hQ0 : Q 0 cells pieces grown stale stc n tmade tkept A Pc L Bf since) :
    wp_X7_seed (nI P) (fun k => nI (kd k)) cells pieces grown stale stc n tmade tkept A Pc L Bf since p x y Q := by
  unfold wp_X7_seed
  rcases xy_c x y with hxy | ⟨a, b, ha, hb, rfl, rfl⟩
  · apply sp_placeOf_f hxy
    exact ⟨fun _ => hQ0, fun q => absurd rfl q⟩
  · have hc := onC_b (onC_cel ha hb)
    apply sp_placeOf_t ha hb
    refine ⟨fun q => absurd q (nI_nm1 (by omega)), fun _ => ?_⟩
    rcases h0 with h0 | h0
    · apply isOfKind_f h0
      exact ⟨fun _ => hQ0, fun q => absurd rfl q⟩
    · exfalso
      rcases h0 with q | q | q | q
      · exact absurd q (nI_pos (by omega))
      · exact absurd q (nI_ge (a := a) (b := 16) ha (by decide))
      · exact absurd q (nI_pos (by omega))
      · exact absurd q (nI_ge (a := b) (b := 16) hb (by decide))
theorem sp_rseed_f {kd on : Nat → Nat} {P : Nat} {since W Pc L S : (Nat → Int32)} {steps undoable p x y : Int32} (hk5 : ∀ p, kd p ≤ 5) (hP : P ≤ 40) (h0 : (p < 0 ∨ nI P ≤ p) ∨ (x < 0 ∨ (16 : Int32) ≤ x ∨ y < 0 ∨ (16 : Int32) ≤ y))
    (Q : Int32 → (Nat → Int32) → (Nat → Int32) → (Nat → Int32) → (Nat → Int32) → (Nat → Int32) → (Nat → Int32) → Int32 → Int32 → Prop) (hQ0 : Q 0 (fun k => nI (on k)) since W Pc L S steps undoable) :
    wp_X8_seed (fun k => nI (kd k)) (nI P) (fun k => nI (on k)) since W Pc L S steps undoable p x y Q := by
  unfold wp_X8_seed
  rcases pp_c p hP with hp | ⟨j, hj, rfl⟩
  · apply sp_isPiece_f hp
    exact ⟨fun _ => seed_no Q hQ0, fun q => absurd rfl q⟩
  · have hkp := hk5 j
    apply sp_isPiece_t hP hj
    refine ⟨fun q => absurd q (by decide), fun _ => ?_⟩
    rw [vp_in' (by omega), nI_clamp' (by omega)]
    refine ⟨by omega, ?_⟩
    rintro _ rfl
    refine ⟨fun _ => seed_no Q hQ0, fun _ => ?_⟩
    rcases h0 with (q | q) | h0
    · exact absurd q (nI_pos (by omega))
    · exact absurd q (nI_ge hj (by omega))
    · refine sp_isFree_off (f := 0) h0 _ ?_
      exact ⟨fun _ => seed_no Q hQ0, fun q => absurd rfl q⟩
/-! force -/
def fcOK (kd on : Nat → Nat) (p x y : Nat) : Prop := kd p ≠ 1 ∧ fre kd (pad on) p (celN x y) = true
theorem sp_cforce_t {kd mo gl sg on : Nat → Nat} {wm P made kept p x y : Nat} {aW aP aL : Nat → Nat} {aB si : (Nat → Int32)} {cells A Pc L Bf since stale stc line : (Nat → Int32)} {pieces grown tmade tkept n all : Int32} {fits : (Nat → Int64)} (hk5 : ∀ p, kd p ≤ 5) (hP : P ≤ 40) (hS : okS kd P on) (hk : kept ≤ 200) (hkm : kept ≤ made) (hm : made < 1000000)
    (h : okC kd on made kept aW aP aL aB si cells pieces grown tmade tkept A Pc L Bf since) (hFI : okFI kd mo gl sg wm P (pad on) stale stc n fits line all) (hp : p < P) (hx : x < 16) (hy : y < 16)
    (Q : Int32 → (Nat → Int32) → Int32 → Int32 → (Nat → Int32) → (Nat → Int32) → Int32 → Int32 → Int32 → (Nat → Int32) → (Nat → Int32) → (Nat → Int32) → (Nat → Int32) → (Nat → Int32) → Prop)
    (hQ0 : ¬ fcOK kd on p x y → Q 0 cells pieces grown stale stc n tmade tkept A Pc L Bf since)
    (hQ1 : fcOK kd on p x y → ∀ cells' pieces' grown' stale' stc' n' tmade' tkept' A' Pc' L' Bf' since' kept', kept' = min (kept + 1) 200 → okC kd (layN kd p (x + 16 * y) on) (made + 1) kept' (upN aW made 3) (upN aP made p) (upN aL made (x + 16 * y)) aB (upS si (x + 16 * y) (nI made)) cells' pieces' grown' tmade' tkept' A' Pc' L' Bf' since' → okFI kd mo gl sg wm P (pad (layN kd p (x + 16 * y) on)) stale' stc' n' fits line all → Q 1 cells' pieces' grown' stale' stc' n' tmade' tkept' A' Pc' L' Bf' since') :
    wp_X7_force (nI P) (fun k => nI (kd k)) cells pieces grown stale stc n tmade tkept A Pc L Bf since (nI p) (nI x) (nI y) Q := by
  have hc := onC_b (onC_cel hx hy)
  have hkp := hk5 p
  have h1 := h.1
  unfold wp_X7_force
  apply sp_placeOf_t hx hy
  refine ⟨fun q => absurd q (nI_nm1 (by omega)), fun _ => ?_⟩
  apply sp_has_t hP hp
  refine ⟨fun q => absurd q (by decide), fun _ => ?_⟩
  rw [vp_in' (by omega), nI_clamp' (by omega)]
  refine ⟨by omega, ?_⟩
  rintro _ rfl
  rw [eq_1 (by omega)]
  refine ⟨fun q => hQ0 (fun s => s.1 q), fun k1 => ?_⟩
  rw [h1]
  apply sp_hasRoomFor hk5 hP hp (okS_pad hS) (onC_cel hx hy)
  rw [bI_0, ← h1]
  refine ⟨fun q => ?_, fun q => hQ0 (fun s => by rw [s.2] at q; exact absurd q (by decide))⟩
  rw [Bool.not_eq_false] at q
  rw [← celK_xy hx]
  exact okC_stepDown (w := 3) hk5 hP hk hkm hm h hFI (by decide) hp (fre_N hx hy q) _ (hQ1 ⟨k1, q⟩)
theorem sp_rforce_t {kd on : Nat → Nat} {P made kept p x y : Nat} {aW aP aL : Nat → Nat} {aB si : (Nat → Int32)} {sheet since W Pc L S : (Nat → Int32)} {steps undoable : Int32} (hk5 : ∀ p, kd p ≤ 5) (hP : P ≤ 40) (hS : okS kd P on) (hk : kept ≤ 200) (hkm : kept ≤ made) (hm : made < 1000000) (h : okM kd on made kept aW aP aL aB si sheet since W Pc L S steps undoable) (hp : p < P) (hx : x < 16) (hy : y < 16)
    (Q : Int32 → (Nat → Int32) → (Nat → Int32) → (Nat → Int32) → (Nat → Int32) → (Nat → Int32) → (Nat → Int32) → Int32 → Int32 → Prop)
    (hQ0 : ¬ fcOK kd on p x y → Q 0 sheet since W Pc L S steps undoable)
    (hQ1 : fcOK kd on p x y → ∀ sheet' since' W' Pc' L' S' steps' undoable' kept', kept' = min (kept + 1) 200 → okM kd (layN kd p (x + 16 * y) on) (made + 1) kept' (upN aW made 3) (upN aP made p) (upN aL made (x + 16 * y)) aB (upS si (x + 16 * y) (nI made)) sheet' since' W' Pc' L' S' steps' undoable' → Q 1 sheet' since' W' Pc' L' S' steps' undoable') :
    wp_X8_force (fun k => nI (kd k)) (nI P) sheet since W Pc L S steps undoable (nI p) (nI x) (nI y) Q := by
  have hkp := hk5 p
  have h1 := h.1
  unfold wp_X8_force
  apply sp_isPiece_t hP hp
  refine ⟨fun q => absurd q (by decide), fun _ => ?_⟩
  rw [vp_in' (by omega), nI_clamp' (by omega)]
  refine ⟨by omega, ?_⟩
  rintro _ rfl
  rw [eq_1 (by omega)]
  refine ⟨fun q => hQ0 (fun s => s.1 q), fun k1 => ?_⟩
  rw [h1]
  refine sp_isFree (f := 0) hk5 (okA_sheet hP (okS_B hS)) (by omega) hx hy _ ?_
  rw [bI_0, ← h1]
  refine ⟨fun q => ?_, fun q => hQ0 (fun s => by rw [s.2] at q; exact absurd q (by decide))⟩
  rw [Bool.not_eq_false] at q
  exact okM_puts (w := 3) hk5 hP hS hk hkm hm h (by decide) hp hx (fre_N hx hy q) _ (hQ1 ⟨k1, q⟩)
theorem sp_cforce_f {kd : Nat → Nat} {P : Nat} {cells A Pc L Bf since stale stc : (Nat → Int32)} {pieces grown tmade tkept n p x y : Int32} (h0 : (p < 0 ∨ nI P ≤ p) ∨ (x < 0 ∨ (16 : Int32) ≤ x ∨ y < 0 ∨ (16 : Int32) ≤ y))
    (Q : Int32 → (Nat → Int32) → Int32 → Int32 → (Nat → Int32) → (Nat → Int32) → Int32 → Int32 → Int32 → (Nat → Int32) → (Nat → Int32) → (Nat → Int32) → (Nat → Int32) → (Nat → Int32) → Prop)
    (hQ0 : Q 0 cells pieces grown stale stc n tmade tkept A Pc L Bf since) :
    wp_X7_force (nI P) (fun k => nI (kd k)) cells pieces grown stale stc n tmade tkept A Pc L Bf since p x y Q := by
  unfold wp_X7_force
  rcases xy_c x y with hxy | ⟨a, b, ha, hb, rfl, rfl⟩
  · apply sp_placeOf_f hxy
    exact ⟨fun _ => hQ0, fun q => absurd rfl q⟩
  · have hc := onC_b (onC_cel ha hb)
    apply sp_placeOf_t ha hb
    refine ⟨fun q => absurd q (nI_nm1 (by omega)), fun _ => ?_⟩
    rcases h0 with h0 | h0
    · apply sp_has_f h0
      exact ⟨fun _ => hQ0, fun q => absurd rfl q⟩
    · exfalso
      rcases h0 with q | q | q | q
      · exact absurd q (nI_pos (by omega))
      · exact absurd q (nI_ge (a := a) (b := 16) ha (by decide))
      · exact absurd q (nI_pos (by omega))
      · exact absurd q (nI_ge (a := b) (b := 16) hb (by decide))
theorem sp_rforce_f {kd on : Nat → Nat} {P : Nat} {since W Pc L S : (Nat → Int32)} {steps undoable p x y : Int32} (hk5 : ∀ p, kd p ≤ 5) (hP : P ≤ 40) (h0 : (p < 0 ∨ nI P ≤ p) ∨ (x < 0 ∨ (16 : Int32) ≤ x ∨ y < 0 ∨ (16 : Int32) ≤ y))
    (Q : Int32 → (Nat → Int32) → (Nat → Int32) → (Nat → Int32) → (Nat → Int32) → (Nat → Int32) → (Nat → Int32) → Int32 → Int32 → Prop) (hQ0 : Q 0 (fun k => nI (on k)) since W Pc L S steps undoable) :
    wp_X8_force (fun k => nI (kd k)) (nI P) (fun k => nI (on k)) since W Pc L S steps undoable p x y Q := by
  unfold wp_X8_force
  rcases pp_c p hP with hp | ⟨j, hj, rfl⟩
  · apply sp_isPiece_f hp
    exact ⟨fun _ => hQ0, fun q => absurd rfl q⟩
  · have hkp := hk5 j
    apply sp_isPiece_t hP hj
    refine ⟨fun q => absurd q (by decide), fun _ => ?_⟩
    rw [vp_in' (by omega), nI_clamp' (by omega)]
    refine ⟨by omega, ?_⟩
    rintro _ rfl
    refine ⟨fun _ => hQ0, fun _ => ?_⟩
    rcases h0 with (q | q) | h0
    · exact absurd q (nI_pos (by omega))
    · exact absurd q (nI_ge hj (by omega))
    · refine sp_isFree_off (f := 0) h0 _ ?_
      exact ⟨fun q => absurd rfl q, fun _ => hQ0⟩
/-! come -/
theorem sp_ccome_t {kd mo gl sg on : Nat → Nat} {w P made kept p x y : Nat} {aW aP aL : Nat → Nat} {aB si : (Nat → Int32)} {cells A Pc L Bf since stale stc line : (Nat → Int32)} {pieces grown tmade tkept n all : Int32} {fits : (Nat → Int64)} (hT : okT kd mo gl sg) (hP : P ≤ 40) (hw1 : 1 ≤ w) (hw3 : w ≤ 3) (hS : okS kd P on) (hk : kept ≤ 200) (hkm : kept ≤ made) (hm : made < 1000000)
    (h : okC kd on made kept aW aP aL aB si cells pieces grown tmade tkept A Pc L Bf since) (hFI : okFI kd mo gl sg w P (pad on) stale stc n fits line all) (hp : p < P) (hx : x < 16) (hy : y < 16) (a1 a2 a3 : Int64)
    (Q : Int32 → (Nat → Int32) → Int32 → Int32 → (Nat → Int64) → (Nat → Int32) → Int32 → (Nat → Int32) → (Nat → Int32) → Int32 → Int64 → Int64 → Int64 → Int32 → Int32 → (Nat → Int32) → (Nat → Int32) → (Nat → Int32) → (Nat → Int32) → (Nat → Int32) → Prop)
    (hQ0 : mayC kd mo gl sg w (pad on) p (celN x y) = false → ∀ fits' line' all' stale' n' b1 b2 b3, okFI kd mo gl sg w P (pad on) stale' stc n' fits' line' all' → Q 0 cells pieces grown fits' line' all' stale' stc n' b1 b2 b3 tmade tkept A Pc L Bf since)
    (hQ1 : mayC kd mo gl sg w (pad on) p (celN x y) = true → ∀ cells' pieces' grown' fits' line' all' stale' stc' n' b1 b2 b3 tmade' tkept' A' Pc' L' Bf' since' kept', kept' = min (kept + 1) 200 → okC kd (layN kd p (x + 16 * y) on) (made + 1) kept' (upN aW made 1) (upN aP made p) (upN aL made (x + 16 * y)) aB (upS si (x + 16 * y) (nI made)) cells' pieces' grown' tmade' tkept' A' Pc' L' Bf' since' → okFI kd mo gl sg w P (pad (layN kd p (x + 16 * y) on)) stale' stc' n' fits' line' all' → Q 1 cells' pieces' grown' fits' line' all' stale' stc' n' b1 b2 b3 tmade' tkept' A' Pc' L' Bf' since') :
    wp_X7_come (nI w) (nI P) (fun k => nI (sg k)) (fun k => nI (kd k)) (fun k => nI (fcF kd mo gl P k)) (fun k => nI (baF kd mo P k)) (fun k => shF kd mo gl P k) (fun k => srF kd mo gl P k) (fun k => brF kd mo P k) (seF kd P) (blF kd P) cells pieces grown fits line all stale stc n a1 a2 a3 tmade tkept A Pc L Bf since (nI p) (nI x) (nI y) Q := by
  have hc := onC_b (onC_cel hx hy)
  have h1 := h.1
  obtain ⟨m, St, rfl, g1, g2, g3⟩ := hFI
  unfold wp_X7_come
  apply sp_placeOf_t hx hy
  refine ⟨fun q => absurd q (nI_nm1 (by omega)), fun _ => ?_⟩
  apply sp_has_t hP hp
  refine ⟨fun q => absurd q (by decide), fun _ => ?_⟩
  rw [h1]
  refine sp_fitsAt hT hP hw1 hw3 (okS_pad hS) g1 g2 g3 (onC_cel hx hy) hp a1 a2 a3 _ ?_
  intro fits' line' all' stale' b1 b2 b3 k1 k2 k3
  rw [bI_0, ← h1]
  have hFI' := okFI_fresh k1 k2 k3
  refine ⟨fun q => ?_, fun q => hQ0 q _ _ _ _ _ _ _ _ hFI'⟩
  rw [Bool.not_eq_false] at q
  rw [← celK_xy hx]
  refine okC_stepDown (w := 1) hT.1 hP hk hkm hm h hFI' (by decide) hp (fre_N hx hy (mayC_fre q).1) _ ?_
  intro c1 c2 c3 c4 c5 c6 c7 c8 c9 c10 c11 c12 c13 kept' e j1 j2
  exact hQ1 q _ _ _ _ _ _ _ _ _ _ _ _ _ _ _ _ _ _ _ kept' e j1 j2
theorem sp_ccome_f {kd mo gl sg : Nat → Nat} {w P : Nat} {cells A Pc L Bf since stale stc line : (Nat → Int32)} {pieces grown tmade tkept n all p x y : Int32} {fits : (Nat → Int64)} (h0 : (p < 0 ∨ nI P ≤ p) ∨ (x < 0 ∨ (16 : Int32) ≤ x ∨ y < 0 ∨ (16 : Int32) ≤ y)) (a1 a2 a3 : Int64)
    (Q : Int32 → (Nat → Int32) → Int32 → Int32 → (Nat → Int64) → (Nat → Int32) → Int32 → (Nat → Int32) → (Nat → Int32) → Int32 → Int64 → Int64 → Int64 → Int32 → Int32 → (Nat → Int32) → (Nat → Int32) → (Nat → Int32) → (Nat → Int32) → (Nat → Int32) → Prop)
    (hQ0 : Q 0 cells pieces grown fits line all stale stc n a1 a2 a3 tmade tkept A Pc L Bf since) :
    wp_X7_come (nI w) (nI P) (fun k => nI (sg k)) (fun k => nI (kd k)) (fun k => nI (fcF kd mo gl P k)) (fun k => nI (baF kd mo P k)) (fun k => shF kd mo gl P k) (fun k => srF kd mo gl P k) (fun k => brF kd mo P k) (seF kd P) (blF kd P) cells pieces grown fits line all stale stc n a1 a2 a3 tmade tkept A Pc L Bf since p x y Q := by
  unfold wp_X7_come
  rcases xy_c x y with hxy | ⟨a, b, ha, hb, rfl, rfl⟩
  · apply sp_placeOf_f hxy
    exact ⟨fun _ => hQ0, fun q => absurd rfl q⟩
  · have hc := onC_b (onC_cel ha hb)
    apply sp_placeOf_t ha hb
    refine ⟨fun q => absurd q (nI_nm1 (by omega)), fun _ => ?_⟩
    rcases h0 with h0 | h0
    · apply sp_has_f h0
      exact ⟨fun _ => hQ0, fun q => absurd rfl q⟩
    · exfalso
      rcases h0 with q | q | q | q
      · exact absurd q (nI_pos (by omega))
      · exact absurd q (nI_ge (a := a) (b := 16) ha (by decide))
      · exact absurd q (nI_pos (by omega))
      · exact absurd q (nI_ge (a := b) (b := 16) hb (by decide))
theorem sp_rcome_t {kd mo gl sg on : Nat → Nat} {w P made kept p x y : Nat} {aW aP aL : Nat → Nat} {aB si : (Nat → Int32)} {sheet since W Pc L S : (Nat → Int32)} {steps undoable : Int32} (hT : okT kd mo gl sg) (hP : P ≤ 40) (hw3 : w ≤ 3) (hS : okS kd P on) (hk : kept ≤ 200) (hkm : kept ≤ made) (hm : made < 1000000) (h : okM kd on made kept aW aP aL aB si sheet since W Pc L S steps undoable) (hp : p < P) (hx : x < 16) (hy : y < 16)
    (Q : Int32 → (Nat → Int32) → (Nat → Int32) → (Nat → Int32) → (Nat → Int32) → (Nat → Int32) → (Nat → Int32) → Int32 → Int32 → Prop)
    (hQ0 : mayC kd mo gl sg w (pad on) p (celN x y) = false → Q 0 sheet since W Pc L S steps undoable)
    (hQ1 : mayC kd mo gl sg w (pad on) p (celN x y) = true → ∀ sheet' since' W' Pc' L' S' steps' undoable' kept', kept' = min (kept + 1) 200 → okM kd (layN kd p (x + 16 * y) on) (made + 1) kept' (upN aW made 1) (upN aP made p) (upN aL made (x + 16 * y)) aB (upS si (x + 16 * y) (nI made)) sheet' since' W' Pc' L' S' steps' undoable' → Q 1 sheet' since' W' Pc' L' S' steps' undoable') :
    wp_X8_come (fun k => nI (sg k)) (fun k => nI (kd k)) (fun k => nI (mo k)) (fun k => nI (gl k)) (nI P) (nI w) sheet since W Pc L S steps undoable (nI p) (nI x) (nI y) Q := by
  have h1 := h.1
  unfold wp_X8_come
  rw [h1]
  refine sp_may_t hT hP hw3 (okS_B hS) hp hx hy _ ?_
  rw [bI_0, ← h1]
  refine ⟨fun q => ?_, hQ0⟩
  rw [Bool.not_eq_false] at q
  exact okM_puts (w := 1) hT.1 hP hS hk hkm hm h (by decide) hp hx (fre_N hx hy (mayC_fre q).1) _ (hQ1 q)
theorem sp_rcome_f {kd mo gl sg on : Nat → Nat} {w P : Nat} {since W Pc L S : (Nat → Int32)} {steps undoable p x y : Int32} (hT : okT kd mo gl sg) (hP : P ≤ 40) (h0 : (p < 0 ∨ nI P ≤ p) ∨ (x < 0 ∨ (16 : Int32) ≤ x ∨ y < 0 ∨ (16 : Int32) ≤ y))
    (Q : Int32 → (Nat → Int32) → (Nat → Int32) → (Nat → Int32) → (Nat → Int32) → (Nat → Int32) → (Nat → Int32) → Int32 → Int32 → Prop) (hQ0 : Q 0 (fun k => nI (on k)) since W Pc L S steps undoable) :
    wp_X8_come (fun k => nI (sg k)) (fun k => nI (kd k)) (fun k => nI (mo k)) (fun k => nI (gl k)) (nI P) (nI w) (fun k => nI (on k)) since W Pc L S steps undoable p x y Q := by
  unfold wp_X8_come
  refine sp_may_f hT hP h0 _ ?_
  exact ⟨fun q => absurd rfl q, fun _ => hQ0⟩
