/-! the class's calls -/
theorem nI_nm1 {n : Nat} (h : n < 2147483648) : ¬ nI n = (-1 : Int32) := by
  intro e
  have := nI_toInt (n := n) h
  rw [e] at this
  have e1 : (-1 : Int32).toInt = -1 := by decide
  omega
theorem okFI_fresh {kd mo gl sg B : Nat → Nat} {w P : Nat} {stale stc line : Nat → Int32} {all : Int32} {fits : Nat → Int64} (h1 : okF fits line all) (h2 : ∀ c, onC c = true → fits c = fitF kd mo gl sg w B P c) (h3 : okSt stale stc 0 (fun _ => false)) : okFI kd mo gl sg w P B stale stc (nI 0) fits line all :=
  ⟨0, fun _ => false, rfl, h3, h1, fun c hc _ => h2 c hc⟩
theorem sp_cmay_t {kd mo gl sg on : Nat → Nat} {P w p x y : Nat} {stale stc line : (Nat → Int32)} {n all : Int32} {fits : (Nat → Int64)} (hT : okT kd mo gl sg) (hP : P ≤ 40) (h1 : 1 ≤ w) (h3 : w ≤ 3) (hS : okS kd P on) (hFI : okFI kd mo gl sg w P (pad on) stale stc n fits line all) (hp : p < P) (hx : x < 16) (hy : y < 16) (a1 a2 a3 : Int64)
    (Q : Int32 → (Nat → Int64) → (Nat → Int32) → Int32 → (Nat → Int32) → Int32 → Int64 → Int64 → Int64 → Prop) (hQ : ∀ fits' line' all' stale' n' b1 b2 b3, okFI kd mo gl sg w P (pad on) stale' stc n' fits' line' all' → Q (bI (mayC kd mo gl sg w (pad on) p (celN x y))) fits' line' all' stale' n' b1 b2 b3) :
    wp_X7_may (nI w) (nI P) (fun k => nI (sg k)) (fun k => nI (fcF kd mo gl P k)) (fun k => nI (baF kd mo P k)) (fun k => shF kd mo gl P k) (fun k => srF kd mo gl P k) (fun k => brF kd mo P k) (seF kd P) (blF kd P) (fun c => nI (cc (pad on c))) stc fits line all stale n a1 a2 a3 (nI p) (nI x) (nI y) Q := by
  obtain ⟨m, St, rfl, g1, g2, g3⟩ := hFI
  have hc := onC_b (onC_cel hx hy)
  unfold wp_X7_may
  apply sp_placeOf_t hx hy
  refine ⟨fun q => absurd q (nI_nm1 (by omega)), fun _ => ?_⟩
  apply sp_has_t hP hp
  refine ⟨fun q => absurd q (by decide), fun _ => ?_⟩
  refine sp_fitsAt hT hP h1 h3 (okS_pad hS) g1 g2 g3 (onC_cel hx hy) hp a1 a2 a3 _ ?_
  intro fits' line' all' stale' b1 b2 b3 k1 k2 k3
  have := hQ fits' line' all' stale' (nI 0) b1 b2 b3 (okFI_fresh k1 k2 k3)
  rw [bI_0]
  refine ⟨fun q => ?_, fun q => ?_⟩
  · rw [q] at this
    exact this
  · rw [Bool.not_eq_false] at q
    rw [q] at this
    exact this
theorem sp_cmay_f {kd mo gl sg on : Nat → Nat} {P w : Nat} {p x y : Int32} {stale stc line : (Nat → Int32)} {n all : Int32} {fits : (Nat → Int64)} (hP : P ≤ 40) (h0 : (p < 0 ∨ nI P ≤ p) ∨ (x < 0 ∨ (16 : Int32) ≤ x ∨ y < 0 ∨ (16 : Int32) ≤ y)) (a1 a2 a3 : Int64)
    (Q : Int32 → (Nat → Int64) → (Nat → Int32) → Int32 → (Nat → Int32) → Int32 → Int64 → Int64 → Int64 → Prop) (hQ : Q 0 fits line all stale n a1 a2 a3) :
    wp_X7_may (nI w) (nI P) (fun k => nI (sg k)) (fun k => nI (fcF kd mo gl P k)) (fun k => nI (baF kd mo P k)) (fun k => shF kd mo gl P k) (fun k => srF kd mo gl P k) (fun k => brF kd mo P k) (seF kd P) (blF kd P) (fun c => nI (cc (pad on c))) stc fits line all stale n a1 a2 a3 p x y Q := by
  unfold wp_X7_may
  rcases xy_c x y with hxy | ⟨a, b, ha, hb, rfl, rfl⟩
  · apply sp_placeOf_f hxy
    exact ⟨fun _ => hQ, fun q => absurd rfl q⟩
  · have hc := onC_b (onC_cel ha hb)
    apply sp_placeOf_t ha hb
    refine ⟨fun q => absurd q (nI_nm1 (by omega)), fun _ => ?_⟩
    rcases h0 with h0 | h0
    · apply sp_has_f h0
      exact ⟨fun _ => hQ, fun q => absurd rfl q⟩
    · exfalso
      rcases h0 with q | q | q | q
      · exact absurd q (nI_pos (by omega))
      · exact absurd q (nI_ge (a := a) (b := 16) ha (by decide))
      · exact absurd q (nI_pos (by omega))
      · exact absurd q (nI_ge (a := b) (b := 16) hb (by decide))
theorem sp_chold_t {kd mo gl sg on : Nat → Nat} {P p x y : Nat} (hT : okT kd mo gl sg) (hP : P ≤ 40) (hS : okS kd P on) (hp : p < P) (hx : x < 16) (hy : y < 16) (Q : Int32 → Prop) (h : Q (if fre kd (pad on) p (celN x y) then nI (hOf kd mo gl sg (pad on) p (celN x y)) else -1)) :
    wp_X7_hold (nI P) (fun k => nI (sg k)) (fun k => nI (kd k)) (fun k => nI (fcF kd mo gl P k)) (fun c => nI (cc (pad on c))) (nI p) (nI x) (nI y) Q := by
  have hc := onC_b (onC_cel hx hy)
  unfold wp_X7_hold
  apply sp_placeOf_t hx hy
  refine ⟨fun q => absurd q (nI_nm1 (by omega)), fun _ => ?_⟩
  apply sp_has_t hP hp
  refine ⟨fun q => absurd q (by decide), fun _ => ?_⟩
  apply sp_hasRoomFor hT.1 hP hp (okS_pad hS) (onC_cel hx hy)
  rw [bI_0]
  refine ⟨fun q => ?_, fun q => ?_⟩
  · rw [Bool.not_eq_false] at q
    rw [q, if_pos rfl] at h
    exact sp_cHoldOf hT hP hp (okS_pad hS) (by omega) (by omega) _ h
  · rw [q, if_neg (by decide)] at h
    exact h
theorem sp_chold_f {kd mo gl sg on : Nat → Nat} {P : Nat} {p x y : Int32} (hP : P ≤ 40) (h0 : (p < 0 ∨ nI P ≤ p) ∨ (x < 0 ∨ (16 : Int32) ≤ x ∨ y < 0 ∨ (16 : Int32) ≤ y)) (Q : Int32 → Prop) (hQ : Q (-1)) :
    wp_X7_hold (nI P) (fun k => nI (sg k)) (fun k => nI (kd k)) (fun k => nI (fcF kd mo gl P k)) (fun c => nI (cc (pad on c))) p x y Q := by
  unfold wp_X7_hold
  rcases xy_c x y with hxy | ⟨a, b, ha, hb, rfl, rfl⟩
  · apply sp_placeOf_f hxy
    exact ⟨fun _ => hQ, fun q => absurd rfl q⟩
  · have hc := onC_b (onC_cel ha hb)
    apply sp_placeOf_t ha hb
    refine ⟨fun q => absurd q (nI_nm1 (by omega)), fun _ => ?_⟩
    rcases h0 with h0 | h0
    · apply sp_has_f h0
      exact ⟨fun _ => hQ, fun q => absurd rfl q⟩
    · exfalso
      rcases h0 with q | q | q | q
      · exact absurd q (nI_pos (by omega))
      · exact absurd q (nI_ge (a := a) (b := 16) ha (by decide))
      · exact absurd q (nI_pos (by omega))
      · exact absurd q (nI_ge (a := b) (b := 16) hb (by decide))
/-! at, of -/
def atV (on : Nat → Nat) (k : Nat) : Int32 := if on k = 0 then -1 else nI ((on k - 1) / 2)
theorem sp_cat {kd on : Nat → Nat} {P x y : Nat} (hP : P ≤ 40) (hS : okS kd P on) (hx : x < 16) (hy : y < 16) (Q : Int32 → Prop) (h : Q (atV on (x + 16 * y))) : wp_X7_at (fun c => nI (cc (pad on c))) (nI x) (nI y) Q := by
  have hc := onC_b (onC_cel hx hy)
  have hq := (hS.1 (x + 16 * y)).1
  unfold atV at h
  unfold wp_X7_at
  apply sp_placeOf_t hx hy
  refine ⟨fun _ => ?_, fun q => absurd q (nI_nm1 (by omega))⟩
  rw [vp_in' (by omega), nI_clamp' (by omega)]
  refine ⟨by omega, ?_⟩
  rintro _ rfl
  dsimp only
  rw [pad_cel hx hy]
  refine sp_pieceIn (by omega) _ (fun q => ?_) (fun q => ?_)
  · rw [if_pos q] at h
    exact h
  · rw [if_neg q] at h
    exact h
theorem sp_cat_f {on : Nat → Nat} {x y : Int32} (hxy : x < 0 ∨ (16 : Int32) ≤ x ∨ y < 0 ∨ (16 : Int32) ≤ y) (Q : Int32 → Prop) (h : Q (-1)) : wp_X7_at (fun c => nI (cc (pad on c))) x y Q := by
  unfold wp_X7_at
  apply sp_placeOf_f hxy
  exact ⟨fun q => absurd rfl q, fun _ => h⟩
theorem sp_rat {kd on : Nat → Nat} {P x y : Nat} (hP : P ≤ 40) (hS : okS kd P on) (hx : x < 16) (hy : y < 16) (Q : Int32 → Prop) (h : Q (atV on (x + 16 * y))) : wp_X8_at (fun k => nI (on k)) (nI x) (nI y) Q := by
  have hq := (hS.1 (x + 16 * y)).1
  unfold atV at h
  unfold wp_X8_at
  apply sp_isOn_t hx hy
  refine ⟨fun q => absurd q (by decide), fun _ => ?_⟩
  rw [mu_16, nI_add, vp_in' (by omega), nI_clamp' (by omega)]
  refine ⟨by omega, ?_⟩
  rintro _ rfl
  rw [eq_0 (by omega)]
  refine ⟨fun q => ?_, fun q => ⟨by omega, ?_⟩⟩
  · rw [if_pos q] at h
    exact h
  · rintro _ rfl
    rw [if_neg q] at h
    rw [sb_1 (by omega), dv_2 (by omega)]
    exact h
theorem sp_rat_f {on : Nat → Nat} {x y : Int32} (hxy : x < 0 ∨ (16 : Int32) ≤ x ∨ y < 0 ∨ (16 : Int32) ≤ y) (Q : Int32 → Prop) (h : Q (-1)) : wp_X8_at (fun k => nI (on k)) x y Q := by
  unfold wp_X8_at
  apply sp_isOn_f hxy
  exact ⟨fun _ => h, fun q => absurd rfl q⟩
def ofV (kd mo gl sg on : Nat → Nat) (si : (Nat → Int32)) (k : Nat) (what : Int32) : Int32 :=
  if on k = 0 then -1 else if what = 0 then (if on k % 2 = 0 then 7 else nI (kd ((on k - 1) / 2))) else if what = 1 then nI (mrF kd mo ((on k - 1) / 2)) else if what = 2 then nI (hOf kd mo gl sg (pad on) ((on k - 1) / 2) (celK (ownN on k))) else if what = 3 then si (ownN on k) else -1
theorem sp_cof {kd mo gl sg on : Nat → Nat} {P x y : Nat} {si since : (Nat → Int32)} {what : Int32} (hT : okT kd mo gl sg) (hP : P ≤ 40) (hS : okS kd P on) (hsi : ∀ k, k < 256 → on k % 2 = 1 → since (celK k) = si k) (hx : x < 16) (hy : y < 16) (Q : Int32 → Prop) (h : Q (ofV kd mo gl sg on si (x + 16 * y) what)) :
    wp_X7_of (fun k => nI (sg k)) (fun k => nI (kd k)) (fun k => nI (mrF kd mo k)) (fun k => nI (fcF kd mo gl P k)) (fun c => nI (cc (pad on c))) since (nI x) (nI y) what Q := by
  have hc := onC_b (onC_cel hx hy)
  have hq := (hS.1 (x + 16 * y)).1
  unfold ofV at h
  unfold wp_X7_of
  apply sp_placeOf_t hx hy
  refine ⟨fun q => absurd q (nI_nm1 (by omega)), fun _ => ?_⟩
  apply sp_cIsFree hP (okS_pad hS) (by omega)
  rw [pad_cel hx hy, bI_0]
  have hk256 : x + 16 * y < 256 := by omega
  have hcel : celN x y = celK (x + 16 * y) := (celK_xy hx).symm
  generalize hk : x + 16 * y = k at *
  refine ⟨fun q => ?_, fun q => ?_⟩
  · have q0 : on k ≠ 0 := by simpa using q
    rw [if_neg q0] at h
    rw [vp_in' (by omega), nI_clamp' (by omega)]
    refine ⟨by omega, ?_⟩
    rintro _ rfl
    dsimp only
    rw [hcel, pad_K hk256]
    refine sp_pieceIn (by omega) _ (fun a => absurd a q0) (fun _ => ?_)
    have hpP : (on k - 1) / 2 < P := by omega
    have hkp := hT.1 ((on k - 1) / 2)
    have hcq := cc_le hP hq
    have own : ∀ R : Int32 → Prop, R (nI (celK (ownN on k))) → wp_X7_ownPlace (nI (cc (on k))) (nI (celK k)) R := by
      intro R hR
      unfold wp_X7_ownPlace
      rw [ge_64 (by omega)]
      unfold ownN at hR
      by_cases ho : on k % 2 = 1
      · have e : cc (on k) = 1 + (on k - 1) / 2 := by unfold cc; rw [if_neg q0, if_pos ho]
        rw [if_pos ho] at hR
        exact ⟨fun _ => hR, fun a => absurd (show cc (on k) ≤ 64 by omega) a⟩
      · have e : cc (on k) = 65 + (on k - 1) / 2 := by unfold cc; rw [if_neg q0, if_neg ho]
        rw [if_neg ho] at hR
        have g := hS.2.2.2 k q0 (by omega)
        refine ⟨fun a => absurd a (by omega), fun _ => ?_⟩
        have e2 : celK k = celK (k - 1) + 1 := by
          have := celK_r (k := k - 1) (by omega)
          rw [← this]
          congr 1
          omega
        rw [e2, sb_1 (by omega), Nat.add_sub_cancel]
        exact hR
    have hown : ownN on k < 256 ∧ on (ownN on k) % 2 = 1 := by
      unfold ownN
      by_cases ho : on k % 2 = 1
      · rw [if_pos ho]
        exact ⟨hk256, ho⟩
      · rw [if_neg ho]
        have g := hS.2.2.2 k q0 (by omega)
        omega
    have hob := celK_b hown.1
    apply own
    refine ⟨fun w0 => ?_, fun w1 => ?_, fun w2 => ?_, fun w3 => ?_, fun n0 n1 n2 n3 => ?_⟩
    · rw [if_pos w0] at h
      rw [nI_eq' (by omega) (by omega)]
      refine ⟨fun a => ?_, fun a => ?_⟩
      · have ho : on k % 2 = 0 := by
          unfold ownN at a
          by_cases ho : on k % 2 = 1
          · rw [if_pos ho] at a
            exact absurd rfl a
          · omega
        rw [if_pos ho] at h
        exact h
      · have ho : on k % 2 = 1 := by
          have := celK_inj a
          unfold ownN at this
          by_cases ho : on k % 2 = 1
          · exact ho
          · rw [if_neg ho] at this
            have g := hS.2.2.2 k q0 (by omega)
            omega
        rw [if_neg (by omega)] at h
        rw [vp_in' (by omega), nI_clamp' (by omega)]
        refine ⟨by omega, ?_⟩
        rintro _ rfl
        exact h
    · subst w1
      rw [if_neg (by decide), if_pos rfl] at h
      rw [vp_in' (by omega), nI_clamp' (by omega)]
      refine ⟨by omega, ?_⟩
      rintro _ rfl
      exact h
    · subst w2
      rw [if_neg (by decide), if_neg (by decide), if_pos rfl] at h
      exact sp_cHoldOf hT hP hpP (okS_pad hS) (by omega) (by omega) _ h
    · subst w3
      rw [if_neg (by decide), if_neg (by decide), if_neg (by decide), if_pos rfl] at h
      rw [vp_in' (by omega), nI_clamp' (by omega), hsi _ hown.1 hown.2]
      refine ⟨by omega, ?_⟩
      rintro _ rfl
      exact h
    · rw [if_neg n0, if_neg n1, if_neg n2, if_neg n3] at h
      exact h
  · have q0 : on k = 0 := by
      rw [Bool.not_eq_false] at q
      simpa using q
    rw [if_pos q0] at h
    exact h
theorem sp_cof_f {kd mo gl sg on : Nat → Nat} {P : Nat} {since : (Nat → Int32)} {x y what : Int32} (hxy : x < 0 ∨ (16 : Int32) ≤ x ∨ y < 0 ∨ (16 : Int32) ≤ y) (Q : Int32 → Prop) (h : Q (-1)) : wp_X7_of (fun k => nI (sg k)) (fun k => nI (kd k)) (fun k => nI (mrF kd mo k)) (fun k => nI (fcF kd mo gl P k)) (fun c => nI (cc (pad on c))) since x y what Q := by
  unfold wp_X7_of
  apply sp_placeOf_f hxy
  exact ⟨fun _ => h, fun q => absurd rfl q⟩
theorem sp_rof {kd mo gl sg on : Nat → Nat} {P x y : Nat} {si since : (Nat → Int32)} {what : Int32} (hT : okT kd mo gl sg) (hP : P ≤ 40) (hS : okS kd P on) (hsi : ∀ k, on k ≠ 0 → since k = si (ownN on k)) (hx : x < 16) (hy : y < 16) (Q : Int32 → Prop) (h : Q (ofV kd mo gl sg on si (x + 16 * y) what)) :
    wp_X8_of (fun k => nI (sg k)) (fun k => nI (kd k)) (fun k => nI (mo k)) (fun k => nI (gl k)) (fun k => nI (on k)) since (nI x) (nI y) what Q := by
  have hq := (hS.1 (x + 16 * y)).1
  unfold ofV at h
  unfold wp_X8_of
  apply sp_isOn_t hx hy
  refine ⟨fun q => absurd q (by decide), fun _ => ?_⟩
  rw [mu_16, nI_add, vp_in' (by omega), nI_clamp' (by omega)]
  refine ⟨by omega, ?_⟩
  rintro _ rfl
  rw [eq_0 (by omega)]
  refine ⟨fun q => ⟨by omega, ?_⟩, fun q => ?_⟩
  · rw [if_neg q] at h
    rintro _ rfl _ rfl
    have hkp := hT.1 ((on (x + 16 * y) - 1) / 2)
    have hmp := hT.2.1 ((on (x + 16 * y) - 1) / 2)
    rw [sb_1 (by omega), dv_2 (by omega), show nI (on (x + 16 * y) - 1) - nI ((on (x + 16 * y) - 1) / 2) * (2 : Int32) = nI ((on (x + 16 * y) - 1) % 2) by rw [um_2, nI_sub' (by omega), nat_rem], eq_1 (by omega), vp_in' (by omega), nI_clamp' (by omega)]
    refine ⟨fun w0 => ?_, fun w1 => ?_, fun w2 => ?_, fun w3 => ?_, fun n0 n1 n2 n3 => ?_⟩
    · rw [if_pos w0] at h
      refine ⟨fun a => ⟨by omega, ?_⟩, fun a => ?_⟩
      · rintro _ rfl
        rw [if_neg (by omega)] at h
        exact h
      · rw [if_pos (by omega)] at h
        exact h
    · subst w1
      rw [if_neg (by decide), if_pos rfl] at h
      refine ⟨by omega, ?_⟩
      rintro _ rfl
      unfold mrF at h
      rw [eq_5 (by omega)]
      refine ⟨fun a => ?_, fun a => ⟨by omega, ?_⟩⟩
      · rw [if_neg a] at h
        exact h
      · rw [if_pos a] at h
        rintro _ rfl
        rw [dv_16 (by omega)]
        exact h
    · subst w2
      rw [if_neg (by decide), if_neg (by decide), if_pos rfl] at h
      have hown : ∃ x', x' < 16 ∧ nI x - nI ((on (x + 16 * y) - 1) % 2) = nI x' ∧ celK (ownN on (x + 16 * y)) = celN x' y ∧ (kd ((on (x + 16 * y) - 1) / 2) = 2 → x' < 15) := by
        unfold ownN
        by_cases ho : on (x + 16 * y) % 2 = 1
        · rw [if_pos ho, show (on (x + 16 * y) - 1) % 2 = 0 by omega]
          refine ⟨x, hx, nI_sub' (Nat.zero_le _), celK_xy hx, fun a => ?_⟩
          have := hS.2.2.1 _ ho a
          omega
        · have g := hS.2.2.2 _ q (by omega)
          rw [if_neg ho, show (on (x + 16 * y) - 1) % 2 = 1 by omega]
          refine ⟨x - 1, by omega, nI_sub' (by omega), ?_, fun _ => by omega⟩
          rw [show x + 16 * y - 1 = (x - 1) + 16 * y by omega]
          exact celK_xy (by omega)
      obtain ⟨x', o1, o2, o3, o4⟩ := hown
      rw [o2]
      rw [o3] at h
      exact sp_holdOf (f := 0) hT (okA_sheet hP (okS_B hS)) (by omega) o1 hy o4 _ h
    · subst w3
      rw [if_neg (by decide), if_neg (by decide), if_neg (by decide), if_pos rfl] at h
      refine ⟨by omega, ?_⟩
      rintro _ rfl
      rw [hsi _ q]
      exact h
    · rw [if_neg n0, if_neg n1, if_neg n2, if_neg n3] at h
      exact h
  · rw [if_pos q] at h
    exact h
theorem sp_rof_f {kd mo gl sg on : Nat → Nat} {since : (Nat → Int32)} {x y what : Int32} (hxy : x < 0 ∨ (16 : Int32) ≤ x ∨ y < 0 ∨ (16 : Int32) ≤ y) (Q : Int32 → Prop) (h : Q (-1)) : wp_X8_of (fun k => nI (sg k)) (fun k => nI (kd k)) (fun k => nI (mo k)) (fun k => nI (gl k)) (fun k => nI (on k)) since x y what Q := by
  unfold wp_X8_of
  apply sp_isOn_f hxy
  exact ⟨fun _ => h, fun q => absurd rfl q⟩
