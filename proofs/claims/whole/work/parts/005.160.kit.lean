/-! pieces are added -/
def moreOK (k m : Nat) : Prop := ((k = 0 ∨ k = 1 ∨ k = 3) ∧ m = 0) ∨ (k = 2 ∧ m % 64 ≤ 50 ∧ m / 64 ≤ 50) ∨ (k = 4 ∧ m ≤ 15) ∨ (k = 5 ∧ 16 ≤ m ∧ m ≤ 255)
theorem moreOK_le {k m : Nat} (h : moreOK k m) : k ≤ 5 ∧ m ≤ 3250 := by
  unfold moreOK at h
  omega
def mOK (kind more : Int32) : Prop := ∃ k m, kind = nI k ∧ more = nI m ∧ moreOK k m
def gOK (g : Int32) : Prop := ∃ a, a ≤ 50 ∧ g = nI a
theorem gOK_c (g : Int32) : (g < 0 ∨ (51 : Int32) ≤ g) ∨ ∃ a, a ≤ 50 ∧ g = nI a := by
  rcases pk_ix g (n := 51) (by decide) with h | h | ⟨a, ha, rfl⟩
  · exact Or.inl (Or.inl h)
  · exact Or.inl (Or.inr h)
  · exact Or.inr ⟨a, by omega, rfl⟩
theorem gOK_n {g : Int32} (h : g < 0 ∨ (51 : Int32) ≤ g) : ¬ gOK g := by
  rintro ⟨a, ha, rfl⟩
  rcases h with h | h
  · exact absurd h (nI_pos (by omega))
  · exact absurd h (nI_ge (a := a) (b := 51) (by omega) (by decide))
theorem sp_isFace (g : Int32) (Q : Int32 → Prop) (h1 : gOK g → Q 1) (h0 : ¬ gOK g → Q 0) : wp_X1_isFace g Q := by
  unfold wp_X1_isFace
  rcases gOK_c g with h | ⟨a, ha, rfl⟩
  · have hn := h0 (gOK_n h)
    refine ⟨fun _ => hn, fun q => ⟨fun _ => hn, fun q2 => ?_⟩⟩
    rcases h with h | h
    · exact absurd h q
    · exact absurd h q2
  · exact ⟨fun q => absurd q (nI_pos (by omega)), fun _ => ⟨fun q => absurd q (nI_ge (a := a) (b := 51) (by omega) (by decide)), fun _ => h1 ⟨a, ha, rfl⟩⟩⟩
theorem sp_isGlue (g : Int32) (Q : Int32 → Prop) (h1 : gOK g → Q 1) (h0 : ¬ gOK g → Q 0) : wp_X8_isGlue g Q := by
  unfold wp_X8_isGlue
  rcases gOK_c g with h | ⟨a, ha, rfl⟩
  · have hn := h0 (gOK_n h)
    refine ⟨fun _ => hn, fun q => ⟨fun _ => hn, fun q2 => ?_⟩⟩
    rcases h with h | h
    · exact absurd h q
    · exfalso
      apply q2
      rw [fa_lt]
      rw [fa_le] at h
      have e1 : (51 : Int32).toInt = 51 := by decide
      have e2 : (50 : Int32).toInt = 50 := by decide
      omega
  · exact ⟨fun q => absurd q (nI_pos (by omega)), fun _ => ⟨fun q => absurd q (nI_nlt (a := 50) (b := a) (by omega) (by decide)), fun _ => h1 ⟨a, ha, rfl⟩⟩⟩
theorem kd_c (kind : Int32) : kind = 0 ∨ kind = 1 ∨ kind = 2 ∨ kind = 3 ∨ kind = 4 ∨ kind = 5 ∨ (kind ≠ 0 ∧ kind ≠ 1 ∧ kind ≠ 2 ∧ kind ≠ 3 ∧ kind ≠ 4 ∧ kind ≠ 5) := by
  by_cases h0 : kind = 0
  · exact Or.inl h0
  by_cases h1 : kind = 1
  · exact Or.inr (Or.inl h1)
  by_cases h2 : kind = 2
  · exact Or.inr (Or.inr (Or.inl h2))
  by_cases h3 : kind = 3
  · exact Or.inr (Or.inr (Or.inr (Or.inl h3)))
  by_cases h4 : kind = 4
  · exact Or.inr (Or.inr (Or.inr (Or.inr (Or.inl h4))))
  by_cases h5 : kind = 5
  · exact Or.inr (Or.inr (Or.inr (Or.inr (Or.inr (Or.inl h5)))))
  exact Or.inr (Or.inr (Or.inr (Or.inr (Or.inr (Or.inr ⟨h0, h1, h2, h3, h4, h5⟩)))))
theorem mOK_k {k : Nat} {more : Int32} (hk : k ≤ 5) : mOK (nI k) more ↔ ∃ m, more = nI m ∧ moreOK k m := by
  constructor
  · rintro ⟨k', m, e, e2, h⟩
    have hk' := moreOK_le h
    rw [nI_eq' (by omega) (by omega)] at e
    subst e
    exact ⟨m, e2, h⟩
  · rintro ⟨m, e, h⟩
    exact ⟨k, m, rfl, e, h⟩
theorem mOK_n {kind more : Int32} (h : kind ≠ 0 ∧ kind ≠ 1 ∧ kind ≠ 2 ∧ kind ≠ 3 ∧ kind ≠ 4 ∧ kind ≠ 5) : ¬ mOK kind more := by
  rintro ⟨k, m, rfl, rfl, hm⟩
  obtain ⟨h0, h1, h2, h3, h4, h5⟩ := h
  have := (moreOK_le hm).1
  obtain rfl | rfl | rfl | rfl | rfl | rfl : k = 0 ∨ k = 1 ∨ k = 2 ∨ k = 3 ∨ k = 4 ∨ k = 5 := by omega
  · exact h0 rfl
  · exact h1 rfl
  · exact h2 rfl
  · exact h3 rfl
  · exact h4 rfl
  · exact h5 rfl
/-- the three kinds without more, and the rest, as both sides ask them -/
theorem more_0 {k : Nat} {more : Int32} (hk : k = 0 ∨ k = 1 ∨ k = 3) : mOK (nI k) more ↔ more = 0 := by
  rw [mOK_k (by omega)]
  constructor
  · rintro ⟨m, rfl, h⟩
    have : m = 0 := by
      unfold moreOK at h
      omega
    rw [this]
    rfl
  · rintro rfl
    exact ⟨0, rfl, Or.inl ⟨hk, rfl⟩⟩
theorem more_4 {more : Int32} : mOK 4 more ↔ ¬ more < 0 ∧ ¬ (15 : Int32) < more := by
  rw [show (4 : Int32) = nI 4 from rfl, mOK_k (by decide)]
  constructor
  · rintro ⟨m, rfl, h⟩
    have : m ≤ 15 := by
      unfold moreOK at h
      omega
    exact ⟨nI_pos (by omega), nI_nlt (a := 15) (b := m) this (by decide)⟩
  · rintro ⟨h1, h2⟩
    obtain ⟨m, hm, rfl⟩ := nI_of h1
    rw [gt_15 (by omega)] at h2
    exact ⟨m, rfl, Or.inr (Or.inr (Or.inl ⟨rfl, by omega⟩))⟩
theorem more_5 {more : Int32} : mOK 5 more ↔ ¬ more < 16 ∧ ¬ (255 : Int32) < more := by
  rw [show (5 : Int32) = nI 5 from rfl, mOK_k (by decide)]
  constructor
  · rintro ⟨m, rfl, h⟩
    have : 16 ≤ m ∧ m ≤ 255 := by
      unfold moreOK at h
      omega
    exact ⟨nI_nlt (a := m) (b := 16) this.1 (by omega), nI_nlt (a := 255) (b := m) this.2 (by decide)⟩
  · rintro ⟨h1, h2⟩
    have h0 : ¬ more < 0 := by
      rw [fa_lt] at h1 ⊢
      have e1 : (16 : Int32).toInt = 16 := by decide
      have e2 : (0 : Int32).toInt = 0 := by decide
      omega
    obtain ⟨m, hm, rfl⟩ := nI_of h0
    rw [gt_255 (by omega)] at h2
    rw [ls_16 (by omega)] at h1
    exact ⟨m, rfl, Or.inr (Or.inr (Or.inr ⟨rfl, by omega, by omega⟩))⟩
theorem more_2 {m : Nat} (hm : m < 2147483648) : mOK 2 (nI m) ↔ m % 64 ≤ 50 ∧ m / 64 ≤ 50 := by
  rw [show (2 : Int32) = nI 2 from rfl, mOK_k (by decide)]
  constructor
  · rintro ⟨m', e, h⟩
    have := (moreOK_le h).2
    rw [nI_eq' hm (by omega)] at e
    subst e
    unfold moreOK at h
    omega
  · intro h
    exact ⟨m, rfl, Or.inr (Or.inl ⟨rfl, h⟩)⟩
theorem more_2n {more : Int32} (h : more < 0) : ¬ mOK 2 more := by
  rw [show (2 : Int32) = nI 2 from rfl, mOK_k (by decide)]
  rintro ⟨m, rfl, hm⟩
  have := (moreOK_le hm).2
  exact absurd h (nI_pos (by omega))
theorem gOK_nI {m : Nat} (hm : m < 2147483648) : gOK (nI m) ↔ m ≤ 50 := by
  constructor
  · rintro ⟨a, ha, e⟩
    rw [nI_eq' hm (by omega)] at e
    omega
  · intro h
    exact ⟨m, h, rfl⟩
theorem sp_isMoreOf (kind more : Int32) (Q : Int32 → Prop) (h1 : mOK kind more → Q 1) (h0 : ¬ mOK kind more → Q 0) : wp_X1_isMoreOf kind more Q := by
  unfold wp_X1_isMoreOf
  rcases kd_c kind with rfl | rfl | rfl | rfl | rfl | rfl | hn
  · have e := more_0 (k := 0) (more := more) (Or.inl rfl)
    exact ⟨fun _ => ⟨fun q => h0 (fun a => q (e.mp a)), fun q => h1 (e.mpr q)⟩, fun a => absurd a (by decide), fun a => absurd a (by decide), fun a => absurd a (by decide), fun a => absurd a (by decide), fun a => absurd a (by decide), fun a => absurd rfl a⟩
  · have e := more_0 (k := 1) (more := more) (Or.inr (Or.inl rfl))
    exact ⟨fun a => absurd a (by decide), fun _ => ⟨fun q => h0 (fun a => q (e.mp a)), fun q => h1 (e.mpr q)⟩, fun a => absurd a (by decide), fun a => absurd a (by decide), fun a => absurd a (by decide), fun a => absurd a (by decide), fun _ a => absurd rfl a⟩
  · refine ⟨fun a => absurd a (by decide), fun a => absurd a (by decide), fun _ => ⟨fun q => h0 (more_2n q), fun q => ?_⟩, fun a => absurd a (by decide), fun a => absurd a (by decide), fun a => absurd a (by decide), fun _ _ a => absurd rfl a⟩
    obtain ⟨m, hm, rfl⟩ := nI_of q
    have e := more_2 hm
    rw [rm_64 hm, dv_64 hm]
    refine sp_isFace _ _ (fun g1 => ?_) (fun g1 => ⟨fun _ => h0 (fun a => g1 ((gOK_nI (by omega)).mpr (e.mp a).1)), fun a => absurd rfl a⟩)
    refine ⟨fun a => absurd a (by decide), fun _ => ?_⟩
    refine sp_isFace _ _ (fun g2 => ?_) (fun g2 => ⟨fun _ => h0 (fun a => g2 ((gOK_nI (by omega)).mpr (e.mp a).2)), fun a => absurd rfl a⟩)
    exact ⟨fun a => absurd a (by decide), fun _ => h1 (e.mpr ⟨(gOK_nI (by omega)).mp g1, (gOK_nI (by omega)).mp g2⟩)⟩
  · have e := more_0 (k := 3) (more := more) (Or.inr (Or.inr rfl))
    exact ⟨fun a => absurd a (by decide), fun a => absurd a (by decide), fun a => absurd a (by decide), fun _ => ⟨fun q => h0 (fun a => q (e.mp a)), fun q => h1 (e.mpr q)⟩, fun a => absurd a (by decide), fun a => absurd a (by decide), fun _ _ _ a => absurd rfl a⟩
  · exact ⟨fun a => absurd a (by decide), fun a => absurd a (by decide), fun a => absurd a (by decide), fun a => absurd a (by decide), fun _ => ⟨fun q => h0 (fun a => (more_4.mp a).1 q), fun q => ⟨fun q2 => h0 (fun a => (more_4.mp a).2 q2), fun q2 => h1 (more_4.mpr ⟨q, q2⟩)⟩⟩, fun a => absurd a (by decide), fun _ _ _ _ a => absurd rfl a⟩
  · exact ⟨fun a => absurd a (by decide), fun a => absurd a (by decide), fun a => absurd a (by decide), fun a => absurd a (by decide), fun a => absurd a (by decide), fun _ => ⟨fun q => h0 (fun a => (more_5.mp a).1 q), fun q => ⟨fun q2 => h0 (fun a => (more_5.mp a).2 q2), fun q2 => h1 (more_5.mpr ⟨q, q2⟩)⟩⟩, fun _ _ _ _ _ a => absurd rfl a⟩
  · have q := h0 (mOK_n hn)
    exact ⟨fun a => absurd a hn.1, fun a => absurd a hn.2.1, fun a => absurd a hn.2.2.1, fun a => absurd a hn.2.2.2.1, fun a => absurd a hn.2.2.2.2.1, fun a => absurd a hn.2.2.2.2.2, fun _ _ _ _ _ _ => q⟩
theorem sp_isMore (kind more : Int32) (Q : Int32 → Prop) (h1 : mOK kind more → Q 1) (h0 : ¬ mOK kind more → Q 0) : wp_X8_isMore kind more Q := by
  unfold wp_X8_isMore
  rcases kd_c kind with rfl | rfl | rfl | rfl | rfl | rfl | hn
  · have e := more_0 (k := 0) (more := more) (Or.inl rfl)
    exact ⟨fun _ => ⟨fun q => h0 (fun a => q (e.mp a)), fun q => h1 (e.mpr q)⟩, fun a => absurd a (by decide), fun a => absurd a (by decide), fun a => absurd a (by decide), fun a => absurd a (by decide), fun a => absurd a (by decide), fun a => absurd rfl a⟩
  · have e := more_0 (k := 1) (more := more) (Or.inr (Or.inl rfl))
    exact ⟨fun a => absurd a (by decide), fun _ => ⟨fun q => h0 (fun a => q (e.mp a)), fun q => h1 (e.mpr q)⟩, fun a => absurd a (by decide), fun a => absurd a (by decide), fun a => absurd a (by decide), fun a => absurd a (by decide), fun _ a => absurd rfl a⟩
  · refine ⟨fun a => absurd a (by decide), fun a => absurd a (by decide), fun _ => ⟨fun q => h0 (more_2n q), fun q => ?_⟩, fun a => absurd a (by decide), fun a => absurd a (by decide), fun a => absurd a (by decide), fun _ _ a => absurd rfl a⟩
    obtain ⟨m, hm, rfl⟩ := nI_of q
    have e := more_2 hm
    rw [rm_64 hm, dv_64 hm, gt_50 (by omega), gt_50 (by omega)]
    exact ⟨fun q1 => h0 (fun a => by have := (e.mp a).1; omega), fun q1 => ⟨fun q2 => h0 (fun a => by have := (e.mp a).2; omega), fun q2 => h1 (e.mpr ⟨by omega, by omega⟩)⟩⟩
  · have e := more_0 (k := 3) (more := more) (Or.inr (Or.inr rfl))
    exact ⟨fun a => absurd a (by decide), fun a => absurd a (by decide), fun a => absurd a (by decide), fun _ => ⟨fun q => h0 (fun a => q (e.mp a)), fun q => h1 (e.mpr q)⟩, fun a => absurd a (by decide), fun a => absurd a (by decide), fun _ _ _ a => absurd rfl a⟩
  · exact ⟨fun a => absurd a (by decide), fun a => absurd a (by decide), fun a => absurd a (by decide), fun a => absurd a (by decide), fun _ => ⟨fun q => h0 (fun a => (more_4.mp a).1 q), fun q => ⟨fun q2 => h0 (fun a => (more_4.mp a).2 q2), fun q2 => h1 (more_4.mpr ⟨q, q2⟩)⟩⟩, fun a => absurd a (by decide), fun _ _ _ _ a => absurd rfl a⟩
  · exact ⟨fun a => absurd a (by decide), fun a => absurd a (by decide), fun a => absurd a (by decide), fun a => absurd a (by decide), fun a => absurd a (by decide), fun _ => ⟨fun q => h0 (fun a => (more_5.mp a).1 q), fun q => ⟨fun q2 => h0 (fun a => (more_5.mp a).2 q2), fun q2 => h1 (more_5.mpr ⟨q, q2⟩)⟩⟩, fun _ _ _ _ _ a => absurd rfl a⟩
  · have q := h0 (mOK_n hn)
    exact ⟨fun a => absurd a hn.1, fun a => absurd a hn.2.1, fun a => absurd a hn.2.2.1, fun a => absurd a hn.2.2.2.1, fun a => absurd a hn.2.2.2.2.1, fun a => absurd a hn.2.2.2.2.2, fun _ _ _ _ _ _ => q⟩
/-- can a piece be so -/
def pOK (kind a r b l more : Int32) : Prop := mOK kind more ∧ gOK a ∧ gOK r ∧ gOK b ∧ gOK l
def gl4 (gl : Nat → Nat) (P a r b l : Nat) : Nat → Nat := upN (upN (upN (upN gl (4 * P) a) (4 * P + 1) r) (4 * P + 2) b) (4 * P + 3) l
theorem sp_rpiece {kd mo gl : Nat → Nat} {P : Nat} {kind a r b l more : Int32} (hP : P ≤ 40) (Q : Int32 → (Nat → Int32) → (Nat → Int32) → (Nat → Int32) → Int32 → Prop)
    (h0 : (P = 40 ∨ ¬ pOK kind a r b l more) → Q (-1) (fun k => nI (kd k)) (fun k => nI (mo k)) (fun k => nI (gl k)) (nI P))
    (h1 : P < 40 → ∀ k m a' r' b' l', kind = nI k → more = nI m → moreOK k m → a = nI a' → r = nI r' → b = nI b' → l = nI l' → a' ≤ 50 → r' ≤ 50 → b' ≤ 50 → l' ≤ 50 → Q (nI P) (fun j => nI (upN kd P k j)) (fun j => nI (upN mo P m j)) (fun j => nI (gl4 gl P a' r' b' l' j)) (nI (P + 1))) :
    wp_X8_piece (fun k => nI (kd k)) (fun k => nI (mo k)) (fun k => nI (gl k)) (nI P) kind a r b l more Q := by
  unfold wp_X8_piece
  rw [eq_40 (by omega)]
  refine ⟨fun q => h0 (Or.inl q), fun q => ?_⟩
  refine sp_isGlue _ _ (fun ga => ⟨fun e => absurd e (by decide), fun _ => ?_⟩) (fun n => ⟨fun _ => h0 (Or.inr (fun z => n z.2.1)), fun e => absurd rfl e⟩)
  refine sp_isGlue _ _ (fun gr => ⟨fun e => absurd e (by decide), fun _ => ?_⟩) (fun n => ⟨fun _ => h0 (Or.inr (fun z => n z.2.2.1)), fun e => absurd rfl e⟩)
  refine sp_isGlue _ _ (fun gb => ⟨fun e => absurd e (by decide), fun _ => ?_⟩) (fun n => ⟨fun _ => h0 (Or.inr (fun z => n z.2.2.2.1)), fun e => absurd rfl e⟩)
  refine sp_isGlue _ _ (fun gl' => ⟨fun e => absurd e (by decide), fun _ => ?_⟩) (fun n => ⟨fun _ => h0 (Or.inr (fun z => n z.2.2.2.2)), fun e => absurd rfl e⟩)
  refine sp_isMore _ _ _ (fun gm => ⟨fun _ => ?_, fun e => absurd e (by decide)⟩) (fun n => ⟨fun e => absurd rfl e, fun _ => h0 (Or.inr (fun z => n z.1))⟩)
  obtain ⟨k, m, rfl, rfl, hm⟩ := gm
  obtain ⟨a', ha, rfl⟩ := ga
  obtain ⟨r', hr, rfl⟩ := gr
  obtain ⟨b', hb, rfl⟩ := gb
  obtain ⟨l', hl, rfl⟩ := gl'
  rw [mu_4, ad_1, ad_2, ad_3, vp_in' (by omega), nI_clamp' (by omega), vp_in' (by omega), nI_clamp' (by omega), vp_in' (by omega), nI_clamp' (by omega), vp_in' (by omega), nI_clamp' (by omega), vp_in' (by omega), nI_clamp' (by omega), upd_N, upd_N, upd_N]
  refine ⟨by omega, ?_⟩
  rintro _ rfl
  refine ⟨by omega, ?_⟩
  rintro _ rfl
  refine ⟨by omega, ?_⟩
  rintro _ rfl
  rw [upd_N]
  refine ⟨by omega, ?_⟩
  rintro _ rfl
  rw [upd_N]
  refine ⟨by omega, ?_⟩
  rintro _ rfl
  rw [upd_N]
  refine ⟨by omega, ?_⟩
  rintro _ rfl _ rfl
  rw [ad_1, sb_1 (by omega), Nat.add_sub_cancel]
  exact h1 (by omega) k m a' r' b' l' rfl rfl hm rfl rfl rfl rfl ha hr hb hl
