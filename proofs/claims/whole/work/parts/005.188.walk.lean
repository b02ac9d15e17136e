/-! walk, ways and way, as they are called -/
theorem mo_c (p : Int32) : (p < 1 ∨ (40 : Int32) < p) ∨ ∃ m, p = nI m ∧ 1 ≤ m ∧ m ≤ 40 := by
  by_cases h1 : p < 1
  · exact Or.inl (Or.inl h1)
  have h0 : ¬ p < 0 := by
    rw [fa_lt] at h1 ⊢
    have e1 : (1 : Int32).toInt = 1 := by decide
    have e2 : (0 : Int32).toInt = 0 := by decide
    omega
  obtain ⟨a, ha, rfl⟩ := nI_of h0
  by_cases h2 : (40 : Int32) < nI a
  · exact Or.inl (Or.inr h2)
  rw [ls_1 ha] at h1
  rw [gt_40 ha] at h2
  exact Or.inr ⟨a, rfl, by omega, by omega⟩
/-- refused: too few, too many, too small for what lies there, or asked too often -/
def wRef (on0 : Nat → Nat) (wk : Nat) (p : Int32) : Prop := p < 1 ∨ (40 : Int32) < p ∨ p < nI (cnt on0) ∨ wk = 60
section
variable {kd mo gl sg : Nat → Nat} {w P : Nat} {on0 : Nat → Nat}
theorem sp_refused {wk : Nat} {p : Int32} (hwk : wk ≤ 60) (Q : Int32 → Prop) (h1 : wRef on0 wk p → Q 1) (h0 : ∀ m, p = nI m → 1 ≤ m → m ≤ 40 → cnt on0 ≤ m → wk < 60 → Q 0) : wp_X3_isRefused (nI (cnt on0)) (nI wk) p Q := by
  have hcb : cnt on0 ≤ 256 := fb_ct_le _ _
  unfold wp_X3_isRefused
  refine ⟨fun a => h1 (Or.inl a), fun a => ⟨fun b => h1 (Or.inr (Or.inl b)), fun b => ⟨fun c => h1 (Or.inr (Or.inr (Or.inl c))), fun c => ?_⟩⟩⟩
  rcases mo_c p with x | ⟨m, rfl, m1, m2⟩
  · rcases x with x | x
    · exact absurd x a
    · exact absurd x b
  · rw [ls_60 (by omega)]
    refine ⟨fun d => h0 m rfl m1 m2 ?_ d, fun d => h1 (Or.inr (Or.inr (Or.inr (by omega))))⟩
    rw [nI_lt' (by omega) (by omega)] at c
    omega
theorem sp_rwalk_f {wk : Nat} {p : Int32} {shapes next : (Nat → Int32)} {many en cu mp wd : Int32} (hP : P ≤ 40) (hS : okS kd P on0) (hwk : wk ≤ 60) (hr : wRef on0 wk p) (Q : Int32 → (Nat → Int32) → Int32 → Int32 → Int32 → Int32 → Int32 → Int32 → (Nat → Int32) → Prop) (h : Q (-1) shapes many en cu mp (nI wk) wd next) :
    wp_X8_walk (fun k => nI (sg k)) (fun k => nI (kd k)) (fun k => nI (mo k)) (fun k => nI (gl k)) (nI P) (nI w) (fun j => nI (on0 j)) shapes many en cu mp (nI wk) wd next p Q := by
  have hA0 : okA P 256 0 (fun j => nI (on0 j)) on0 := ⟨by decide, by decide, fun j _ => by rw [Nat.zero_add], okS_B hS, hP⟩
  unfold wp_X8_walk
  refine ⟨fun _ => h, fun a => ⟨fun _ => h, fun b => ?_⟩⟩
  refine sp_piecesOn (f := 0) hA0 _ ?_
  rw [eq_60 (by omega)]
  refine ⟨fun _ => h, fun c => ⟨fun d => ?_, fun _ => h⟩⟩
  rcases hr with x | x | x | x
  · exact absurd x a
  · exact absurd x b
  · exact absurd x c
  · exact absurd x d
theorem sp_cwalk {wk : Nat} {p : Int32} {stale stc line start par pla pie wid siz first next : (Nat → Int32)} {nst all found en cu la he : Int32} {fits sums : (Nat → Int64)} {a1 a2 a3 : Int64} (hT : okT kd mo gl sg) (hP : P ≤ 40) (h1 : 1 ≤ w) (h3 : w ≤ 3) (hwk : wk ≤ 60) (hS0 : okS kd P on0) (hF : okFI kd mo gl sg w P (pad on0) stale stc nst fits line all) (Q : Int32 → (Nat → Int32) → Int32 → Int32 → (Nat → Int64) → (Nat → Int32) → Int32 → (Nat → Int32) → (Nat → Int32) → Int32 → Int64 → Int64 → Int64 → Int32 → Int32 → Int32 → Int32 → Int32 → (Nat → Int32) → (Nat → Int32) → (Nat → Int32) → (Nat → Int32) → (Nat → Int32) → (Nat → Int32) → (Nat → Int64) → (Nat → Int32) → (Nat → Int32) → Int32 → Prop)
    (q0 : wRef on0 wk p → Q (-1) (fun j => nI (cc (pad on0 j))) (nI (cnt on0)) (nI (grn kd on0)) fits line all stale stc nst a1 a2 a3 (nI wk) found en cu la start par pla pie wid siz sums first next he)
    (hQ : ∀ most, p = nI most → 1 ≤ most → most ≤ 40 → cnt on0 ≤ most → wk < 60 → ∀ fits' line' all' stale' stc' nst' b1 b2 b3 found' en' cu' start' par' pla' pie' wid' siz' sums' first' next', okFI kd mo gl sg w P (pad on0) stale' stc' nst' fits' line' all' → okU kd P (wR kd mo gl sg w P most on0 300) found' en' cu' par' pla' pie' wid' siz' sums' first' next' → (∀ j, j < 324 → start' j = nI (cc (pad on0 j))) → Q (if (wR kd mo gl sg w P most on0 300).1.2.2 = true then -2 else nI (wR kd mo gl sg w P most on0 300).1.1) (fun j => nI (cc (pad on0 j))) (nI (cnt on0)) (nI (grn kd on0)) fits' line' all' stale' stc' nst' b1 b2 b3 (nI (wk + 1)) found' en' cu' (nI (cnt ((wR kd mo gl sg w P most on0 300).1.2.1 ((wR kd mo gl sg w P most on0 300).1.1 - 1)))) start' par' pla' pie' wid' siz' sums' first' next' (nI 0)) :
    wp_X7_walk (nI w) (fun k => nI (sg k)) (fun k => nI (kd k)) (fun k => nI (fcF kd mo gl P k)) (fun k => nI (baF kd mo P k)) (fun k => shF kd mo gl P k) (fun k => srF kd mo gl P k) (fun k => brF kd mo P k) (seF kd P) (blF kd P) (fun j => nI (cc (pad on0 j))) (nI (cnt on0)) (nI (grn kd on0)) fits line all stale stc nst a1 a2 a3 (nI wk) found en cu la start par pla pie wid siz sums first next he p Q := by
  unfold wp_X7_walk
  refine sp_refused hwk _ (fun r => ⟨fun e => absurd e (by decide), fun _ => q0 r⟩) (fun m e m1 m2 m3 m4 => ⟨fun _ => ?_, fun e => absurd rfl e⟩)
  subst e
  refine sp_run hT hP h1 h3 m2 hS0 hF _ (fun fits' line' all' stale' stc' nst' b1 b2 b3 found' en' cu' start' par' pla' pie' wid' siz' sums' first' next' g1 g2 g3 => ?_)
  rw [ad_1]
  exact hQ m rfl m1 m2 m3 m4 _ _ _ _ _ _ _ _ _ _ _ _ _ _ _ _ _ _ _ _ _ g1 g2 g3
end
/-- ways: the same five answers on both sides -/
theorem sp_ways_t {told found en cu la p : Int32} (ht : ¬ told = 0) (Q : Int32 → Prop) (h : Q (if p = 0 then found else if p = 1 then en else if p = 2 then cu else if p = 3 then la else -1)) : wp_X7_ways told found en cu la p Q := by
  unfold wp_X7_ways
  refine ⟨fun _ => ⟨fun a => ?_, fun a => ?_, fun a => ?_, fun a => ?_, fun a b c d => ?_⟩, fun a => absurd a ht⟩
  · subst a; exact h
  · subst a; exact h
  · subst a; exact h
  · subst a; exact h
  · rw [if_neg a, if_neg b, if_neg c, if_neg d] at h; exact h
theorem sp_rways_t {told found en cu la p : Int32} (ht : ¬ told = 0) (Q : Int32 → Prop) (h : Q (if p = 0 then found else if p = 1 then en else if p = 2 then cu else if p = 3 then la else -1)) : wp_X8_ways found en cu la told p Q := by
  unfold wp_X8_ways
  refine ⟨fun _ => ⟨fun a => ?_, fun a => ?_, fun a => ?_, fun a => ?_, fun a b c d => ?_⟩, fun a => absurd a ht⟩
  · subst a; exact h
  · subst a; exact h
  · subst a; exact h
  · subst a; exact h
  · rw [if_neg a, if_neg b, if_neg c, if_neg d] at h; exact h
theorem sp_ways_f {found en cu la p : Int32} (Q : Int32 → Prop) (h : Q (-1)) : wp_X7_ways 0 found en cu la p Q := by
  unfold wp_X7_ways
  exact ⟨fun a => absurd rfl a, fun _ => h⟩
theorem sp_rways_f {found en cu la p : Int32} (Q : Int32 → Prop) (h : Q (-1)) : wp_X8_ways found en cu la 0 p Q := by
  unfold wp_X8_ways
  exact ⟨fun a => absurd rfl a, fun _ => h⟩
/-- way: what lies in a place of a shape, or none -/
def wyV (n : Nat) (sh : Nat → Nat → Nat) (p x y : Int32) (r : Int32) : Prop :=
  (∃ j a b, p = nI j ∧ j < n ∧ x = nI a ∧ a < 16 ∧ y = nI b ∧ b < 16 ∧ r = if sh j (a + 16 * b) = 0 then -1 else nI ((sh j (a + 16 * b) - 1) / 2)) ∨ ((p < 0 ∨ nI n ≤ p ∨ x < 0 ∨ (16 : Int32) ≤ x ∨ y < 0 ∨ (16 : Int32) ≤ y) ∧ r = -1)
theorem sp_cway {kd : Nat → Nat} {P n : Nat} {fq fp fk : Nat → Nat} {sh : Nat → Nat → Nat} {hf hn : Nat → Nat} {sta par pla pie wid siz first next : (Nat → Int32)} {sums : (Nat → Int64)} (hP : P ≤ 40) (hR : okR kd P n fq fp fk sh hf hn par pla pie wid siz sums first next) (hst : ∀ j, j < 324 → sta j = nI (cc (pad (sh 0) j))) {p x y : Int32} (Q : Int32 → Prop) (hQ : ∀ r, wyV n sh p x y r → Q r) : wp_X7_way (nI n) sta par pla pie wid p x y Q := by
  obtain ⟨r1, r2, r3, r4, r5, r6⟩ := hR
  unfold wp_X7_way
  rcases xy_c x y with hxy | ⟨a, b, ha, hb, rfl, rfl⟩
  · apply sp_placeOf_f hxy
    exact ⟨fun _ => hQ _ (Or.inr ⟨Or.inr (Or.inr hxy), rfl⟩), fun q => absurd rfl q⟩
  · apply sp_placeOf_t ha hb
    have hc := onC_b (onC_cel ha hb)
    refine ⟨fun q => absurd q (nI_nm1 (by omega)), fun _ => ⟨fun q => hQ _ (Or.inr ⟨Or.inl q, rfl⟩), fun q => ⟨fun u => ?_, fun u => ?_⟩⟩⟩
    · obtain ⟨j, hj, rfl⟩ := nI_ex (N := n) q (fun z => by
        rw [fa_lt] at u
        rw [fa_le] at z
        omega) (by omega)
      rw [← celK_xy ha]
      exact sp_heldIn hst hP r3 r4 r2 r5 hj (by omega) _ (hQ _ (Or.inl ⟨j, a, b, rfl, hj, rfl, ha, rfl, hb, rfl⟩))
    · refine hQ _ (Or.inr ⟨Or.inr (Or.inl ?_), rfl⟩)
      rw [fa_lt] at u
      rw [fa_le]
      omega
theorem sp_rway {kd : Nat → Nat} {P n : Nat} {sh : Nat → Nat → Nat} {shapes : (Nat → Int32)} {wd : Int32} (hP : P ≤ 40) (hn : n ≤ 300) (hS : ∀ j, j < n → okS kd P (sh j)) (hp : okP n sh shapes) (hwd : ¬ wd = 0) {p x y : Int32} (Q : Int32 → Prop) (hQ : ∀ r, wyV n sh p x y r → Q r) : wp_X8_way shapes (nI n) wd p x y Q := by
  unfold wp_X8_way
  refine ⟨fun e => absurd e hwd, fun _ => ⟨fun q => hQ _ (Or.inr ⟨Or.inl q, rfl⟩), fun q => ⟨fun u => hQ _ (Or.inr ⟨Or.inr (Or.inl u), rfl⟩), fun u => ?_⟩⟩⟩
  obtain ⟨j, hj, rfl⟩ := nI_ex (N := n) q u (by omega)
  rcases xy_c x y with hxy | ⟨a, b, ha, hb, rfl, rfl⟩
  · refine sp_isOn_f hxy _ ?_
    exact ⟨fun e => absurd rfl e, fun _ => hQ _ (Or.inr ⟨Or.inr (Or.inr hxy), rfl⟩)⟩
  · refine sp_isOn_t ha hb _ ?_
    refine ⟨fun _ => ?_, fun e => absurd e (by decide)⟩
    have hb2 := ((hS j hj).1 (a + 16 * b)).1
    rw [mu_256, mu_16, nI_add, nI_add, vp_in' (by omega), nI_clamp' (by omega), show 256 * j + a + 16 * b = 256 * j + (a + 16 * b) by omega, hp j hj _ (by omega)]
    refine ⟨by omega, ?_⟩
    rintro _ rfl
    rw [eq_0 (by omega)]
    have := hQ _ (Or.inl ⟨j, a, b, rfl, hj, rfl, ha, rfl, hb, rfl⟩)
    refine ⟨fun v => ?_, fun v => ?_⟩
    · rw [sb_1 (by omega), dv_2 (by omega)]
      rw [if_neg v] at this
      exact this
    · rw [if_pos v] at this
      exact this
theorem wyV_one {n : Nat} {sh : Nat → Nat → Nat} (hn : n ≤ 300) {p x y r r' : Int32} (h : wyV n sh p x y r) (h' : wyV n sh p x y r') : r = r' := by
  have no : ∀ j a b, j < n → a < 16 → b < 16 → ¬ (nI j < 0 ∨ nI n ≤ nI j ∨ nI a < 0 ∨ (16 : Int32) ≤ nI a ∨ nI b < 0 ∨ (16 : Int32) ≤ nI b) := by
    intro j a b h1 h2 h3 h
    rcases h with u | u | u | u | u | u
    · exact nI_pos (by omega) u
    · rw [nI_le' (by omega) (by omega)] at u; omega
    · exact nI_pos (by omega) u
    · rw [le_16 (by omega)] at u; omega
    · exact nI_pos (by omega) u
    · rw [le_16 (by omega)] at u; omega
  rcases h with ⟨j, a, b, rfl, h1, rfl, h2, rfl, h3, rfl⟩ | ⟨h1, rfl⟩
  · rcases h' with ⟨j', a', b', e1, g1, e2, g2, e3, g3, rfl⟩ | ⟨g1, rfl⟩
    · rw [nI_eq' (by omega) (by omega)] at e1 e2 e3
      subst e1 e2 e3
      rfl
    · exact absurd g1 (no j a b h1 h2 h3)
  · rcases h' with ⟨j', a', b', rfl, g1, rfl, g2, rfl, g3, rfl⟩ | ⟨g1, rfl⟩
    · exact absurd h1 (no j' a' b' g1 g2 g3)
    · rfl
