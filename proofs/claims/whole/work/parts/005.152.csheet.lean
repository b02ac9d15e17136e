/-! the class's sheet and steps -/
theorem cells_up (B : Nat → Nat) (c v : Nat) : upd (fun j => nI (cc (B j))) c (nI (cc v)) = fun j => nI (cc (upN B c v j)) := by
  funext j
  rw [upd_at]
  unfold upN
  split <;> rfl
theorem sp_touchFI {kd mo gl sg B fits' : Nat → Nat} {w P z v : Nat} {stale stc line : Nat → Int32} {n all : Int32} {fits : Nat → Int64} (h : okFI kd mo gl sg w P B stale stc n fits line all) (hz : 19 ≤ z) (hz2 : z ≤ 1000) (Q : (Nat → Int32) → (Nat → Int32) → Int32 → Prop)
    (hQ : ∀ stale' stc' n', okFI kd mo gl sg w P (upN B z v) stale' stc' n' fits line all → Q stale' stc' n') : wp_X4_touch stale stc n (nI z) Q := by
  obtain ⟨m, St, rfl, h2, h3, h4⟩ := h
  refine sp_touch h2 hz hz2 Q ?_
  intro stale' stc' n' St' g1 g2 g3
  refine hQ _ _ _ ⟨n', St', rfl, g1, h3, fun c hc hs => ?_⟩
  have hs0 : St c = false := by
    cases q : St c
    · rfl
    · rw [g2 c q] at hs
      exact absurd hs (by decide)
  have ht : ¬ tch z c := by
    intro q
    rw [g3 c q hc] at hs
    exact absurd hs (by decide)
  rw [fitF_up hc ht]
  exact h4 c hc hs0
theorem sp_touchAllFI {kd mo gl sg B kd' mo' gl' sg' B' : Nat → Nat} {w P w' P' : Nat} {stale stc line : Nat → Int32} {n all : Int32} {fits : Nat → Int64} (h : okFI kd mo gl sg w P B stale stc n fits line all) (Q : (Nat → Int32) → (Nat → Int32) → Int32 → Prop)
    (hQ : ∀ stale' stc' n', okFI kd' mo' gl' sg' w' P' B' stale' stc' n' fits line all → Q stale' stc' n') : wp_X4_touchAll stale stc n Q := by
  obtain ⟨m, St, rfl, h2, h3, h4⟩ := h
  refine sp_touchAll h2 Q ?_
  intro stale' stc' n' St' g1 g2
  refine hQ _ _ _ ⟨n', St', rfl, g1, h3, fun c hc hs => ?_⟩
  rw [g2 c hc] at hs
  exact absurd hs (by decide)
theorem sp_pieceIn {q : Nat} (hq : q ≤ 80) (Q : Int32 → Prop) (h0 : q = 0 → Q (-1)) (h1 : q ≠ 0 → Q (nI ((q - 1) / 2))) : wp_X7_pieceIn (nI (cc q)) Q := by
  have hcq := cc_le (P := 40) (Nat.le_refl _) (show q ≤ 2 * 40 by omega)
  unfold wp_X7_pieceIn
  rw [eq_0 (by omega), cc_0]
  refine ⟨fun q0 => ?_, h0⟩
  have hc1 : 1 ≤ cc q := by
    have := cc_0 q
    omega
  rw [sb_1 hc1, rm_64 (by omega)]
  have e : (cc q - 1) % 64 = (q - 1) / 2 := by
    unfold cc
    rw [if_neg q0]
    split <;> omega
  rw [e]
  exact h1 q0
theorem sp_putDown {kd mo gl sg on : Nat → Nat} {w P p k : Nat} {stale stc line : Nat → Int32} {n all : Int32} {fits : Nat → Int64} (hk5 : ∀ p, kd p ≤ 5) (hP : P ≤ 40) (hp : p < P) (hf : freN kd p k on) (h : okFI kd mo gl sg w P (pad on) stale stc n fits line all)
    (Q : (Nat → Int32) → Int32 → Int32 → (Nat → Int32) → (Nat → Int32) → Int32 → Prop)
    (hQ : ∀ stale' stc' n', okFI kd mo gl sg w P (pad (layN kd p k on)) stale' stc' n' fits line all → Q (fun c => nI (cc (pad (layN kd p k on) c))) (nI (cnt (layN kd p k on))) (nI (grn kd (layN kd p k on))) stale' stc' n') :
    wp_X4_putDown (fun k => nI (kd k)) (fun c => nI (cc (pad on c))) (nI (cnt on)) (nI (grn kd on)) stale stc n (nI p) (nI (celK k)) Q := by
  obtain ⟨c1, c2⟩ := cnt_lay hf
  obtain ⟨f1, f2, f3⟩ := hf
  have hb := celK_b f1
  have hkp := hk5 p
  have fin : ∀ {cells stale' stc' : Nat → Int32} {n' : Int32}, Q cells (nI (cnt (layN kd p k on))) (nI (grn kd (layN kd p k on))) stale' stc' n' → wq_X4_putDown_48 (fun k => nI (kd k)) Q cells (nI (cnt on)) (nI (grn kd on)) stale' stc' n' (nI p) := by
    intro cells stale' stc' n' h
    unfold wq_X4_putDown_48 wq_X4_putDown_81
    rintro _ rfl
    rw [vp_in' (by omega), nI_clamp' (by omega)]
    refine ⟨by omega, ?_⟩
    rintro _ rfl
    have ep : nI (cnt on) + 1 = nI (cnt (layN kd p k on)) := by rw [ad_1, c1]
    rw [eq_1 (by omega), ep]
    refine ⟨fun q => ?_, fun q => ?_⟩
    · rintro _ rfl
      rw [if_neg q] at c2
      rw [ad_1, ← c2]
      exact h
    · rintro _ rfl
      rw [if_pos q] at c2
      rw [ad_0, ← c2]
      exact h
  unfold wp_X4_putDown
  rw [vp_in' (by omega), nI_clamp' (by omega)]
  refine ⟨by omega, ?_⟩
  have e1 : (1 : Int32) + nI p = nI (cc (1 + 2 * p)) := by rw [cc_odd, da_1]
  have e2 : ((1 : Int32) + nI p) + (64 : Int32) = nI (cc (2 + 2 * p)) := by rw [cc_even, da_1, ad_64]; congr 1; omega
  rw [e2, e1, cells_up, ← pad_up f1]
  rintro _ rfl
  refine sp_touchFI (v := 1 + 2 * p) (fits' := kd) h (by omega) (by omega) _ ?_
  intro stale1 stc1 n1 g1
  rw [← pad_up f1] at g1
  rw [vp_in' (by omega), nI_clamp' (by omega)]
  refine ⟨by omega, ?_⟩
  rintro _ rfl
  rw [eq_2 (by omega)]
  refine ⟨fun q => ?_, fun q => ?_⟩
  · have eL : layN kd p k on = upN on k (1 + 2 * p) := by unfold layN; rw [if_neg q]
    apply fin
    rw [eL]
    rw [eL] at hQ
    exact hQ _ _ _ g1
  · have g := f3 q
    have eL : layN kd p k on = upN (upN on k (1 + 2 * p)) (k + 1) (2 + 2 * p) := by unfold layN; rw [if_pos q]
    rw [ad_1, ← celK_r g.1, vp_in' (by have := celK_b (show k + 1 < 256 by omega); omega), nI_clamp' (by have := celK_b (show k + 1 < 256 by omega); omega), cells_up, ← pad_up (by omega)]
    refine ⟨by have := celK_b (show k + 1 < 256 by omega); omega, ?_⟩
    rintro _ rfl
    have hb2 := celK_b (show k + 1 < 256 by omega)
    refine sp_touchFI (v := 2 + 2 * p) (fits' := kd) g1 (by omega) (by omega) _ ?_
    intro stale2 stc2 n2 g2
    rw [← pad_up (by omega)] at g2
    apply fin
    rw [eL]
    rw [eL] at hQ
    exact hQ _ _ _ g2
theorem sp_lift {kd mo gl sg on : Nat → Nat} {w P p k : Nat} {stale stc line : Nat → Int32} {n all : Int32} {fits : Nat → Int64} (hk5 : ∀ p, kd p ≤ 5) (hP : P ≤ 40) (hS : okS kd P on) (hk256 : k < 256) (hk0 : on k = 1 + 2 * p) (h : okFI kd mo gl sg w P (pad on) stale stc n fits line all)
    (Q : (Nat → Int32) → Int32 → Int32 → (Nat → Int32) → (Nat → Int32) → Int32 → Prop)
    (hQ : ∀ stale' stc' n', okFI kd mo gl sg w P (pad (awyN kd p k on)) stale' stc' n' fits line all → Q (fun c => nI (cc (pad (awyN kd p k on) c))) (nI (cnt (awyN kd p k on))) (nI (grn kd (awyN kd p k on))) stale' stc' n') :
    wp_X4_lift (fun k => nI (kd k)) (fun c => nI (cc (pad on c))) (nI (cnt on)) (nI (grn kd on)) stale stc n (nI (celK k)) Q := by
  obtain ⟨c1, c2⟩ := cnt_awy hS hk256 hk0
  have hb := celK_b hk256
  have hkp := hk5 p
  have hpP : p < P := by
    have := (hS.1 k).1
    omega
  have fin : ∀ {cells stale' stc' : Nat → Int32} {n' : Int32}, Q cells (nI (cnt (awyN kd p k on))) (nI (grn kd (awyN kd p k on))) stale' stc' n' → wq_X4_lift_57 (fun k => nI (kd k)) Q cells (nI (cnt on)) (nI (grn kd on)) stale' stc' n' (nI p) := by
    intro cells stale' stc' n' h
    unfold wq_X4_lift_57 wq_X4_lift_90
    rintro _ rfl
    rw [vp_in' (by omega), nI_clamp' (by omega)]
    refine ⟨by omega, ?_⟩
    rintro _ rfl
    have ep : nI (cnt on) - 1 = nI (cnt (awyN kd p k on)) := by rw [sb_1 (by omega), ← c1, Nat.add_sub_cancel]
    rw [eq_1 (by omega), ep]
    refine ⟨fun q => ?_, fun q => ?_⟩
    · rintro _ rfl
      rw [if_neg q] at c2
      rw [sb_1 (by omega), show grn kd on - 1 = grn kd (awyN kd p k on) by omega]
      exact h
    · rintro _ rfl
      rw [if_pos q] at c2
      rw [sb_0 (by omega), show grn kd on - 0 = grn kd (awyN kd p k on) by omega]
      exact h
  unfold wp_X4_lift
  rw [vp_in' (by omega), nI_clamp' (by omega)]
  refine ⟨by omega, ?_⟩
  rintro _ rfl
  dsimp only
  rw [pad_K hk256, hk0]
  refine sp_pieceIn (by omega) _ (fun q => absurd q (by omega)) (fun _ => ?_)
  rw [show (1 + 2 * p - 1) / 2 = p by omega]
  have e0 : (0 : Int32) = nI (cc 0) := rfl
  refine ⟨fun _ => ⟨by omega, ?_⟩, fun q => ?_⟩
  · rw [e0, cells_up, ← pad_up hk256]
    rintro _ rfl
    refine sp_touchFI (v := 0) (fits' := kd) h (by omega) (by omega) _ ?_
    intro stale1 stc1 n1 g1
    rw [← pad_up hk256] at g1
    rw [vp_in' (by omega), nI_clamp' (by omega)]
    refine ⟨by omega, ?_⟩
    rintro _ rfl
    rw [eq_2 (by omega)]
    refine ⟨fun q => ?_, fun q => ?_⟩
    · have eL : awyN kd p k on = upN on k 0 := by unfold awyN; rw [if_neg q]
      apply fin
      rw [eL]
      rw [eL] at hQ
      exact hQ _ _ _ g1
    · have g := hS.2.2.1 k (by omega) (by rw [hk0, show (1 + 2 * p - 1) / 2 = p by omega]; exact q)
      have eL : awyN kd p k on = upN (upN on k 0) (k + 1) 0 := by unfold awyN; rw [if_pos q]
      have hb2 := celK_b (show k + 1 < 256 by omega)
      rw [ad_1, ← celK_r g.1, vp_in' (by omega), nI_clamp' (by omega), cells_up, ← pad_up (by omega)]
      refine ⟨by omega, ?_⟩
      rintro _ rfl
      refine sp_touchFI (v := 0) (fits' := kd) g1 (by omega) (by omega) _ ?_
      intro stale2 stc2 n2 g2
      rw [← pad_up (by omega)] at g2
      apply fin
      rw [eL]
      rw [eL] at hQ
      exact hQ _ _ _ g2
  · have hn : ¬ nI p = (-1 : Int32) := by
      intro e
      have := nI_toInt (n := p) (by omega)
      rw [e] at this
      have e1 : (-1 : Int32).toInt = -1 := by decide
      omega
    exact absurd q hn
theorem pad_0 (c : Nat) : pad (fun _ => 0) c = 0 := by
  unfold pad
  split <;> rfl
theorem cells_0 : (fun c => nI (cc (pad (fun _ => 0) c))) = fun _ => nI 0 := by
  funext c
  rw [pad_0]
  rfl
theorem pad_far {on : Nat → Nat} {c : Nat} (h : 306 ≤ c) : pad on c = 0 := by
  apply pad_off
  unfold onC
  simp
  omega
theorem cnt_z : cnt (fun _ => 0) = 0 := by
  unfold cnt
  rw [fb_ct_zero]
  intro k _
  rfl
theorem grn_z (kd : Nat → Nat) : grn kd (fun _ => 0) = 0 := by
  have := grn_le kd (fun _ => 0)
  rw [cnt_z] at this
  omega
theorem sp_sweep {kd mo gl sg B on kd' mo' gl' sg' : Nat → Nat} {w P w' P' : Nat} {stale stc line : Nat → Int32} {n all pcs grw : Int32} {fits : Nat → Int64} (h : okFI kd mo gl sg w P B stale stc n fits line all)
    (Q : (Nat → Int32) → Int32 → Int32 → (Nat → Int32) → (Nat → Int32) → Int32 → Prop)
    (hQ : ∀ stale' stc' n', okFI kd' mo' gl' sg' w' P' (pad (fun _ => 0)) stale' stc' n' fits line all → Q (fun c => nI (cc (pad (fun _ => 0) c))) (nI 0) (nI 0) stale' stc' n') :
    wp_X4_sweep (fun c => nI (cc (pad on c))) pcs grw stale stc n Q := by
  unfold wp_X4_sweep
  refine fill_I (by decide) _ ?_
  have e : (fun k => if k < 324 then (0 : Int32) else nI (cc (pad on k))) = fun c => nI (cc (pad (fun _ => 0) c)) := by
    rw [cells_0]
    funext k
    split
    · rfl
    · rw [pad_far (by omega)]
      rfl
  rw [e]
  refine sp_touchAllFI (kd' := kd') (mo' := mo') (gl' := gl') (sg' := sg') (w' := w') (P' := P') (B' := pad (fun _ => 0)) h _ ?_
  intro stale' stc' n' g
  exact hQ _ _ _ g
/-! steps -/
def actC (w : Nat) : Nat := if w = 2 then 3 else if w = 3 then 2 else w
theorem actC_le {w : Nat} (h : w ≤ 3) : actC w ≤ 3 := by
  unfold actC
  repeat' split
  all_goals omega
def okT1 (made kept : Nat) (aW aP aL : Nat → Nat) (aB : Nat → Int32) (A Pc L Bf : Nat → Int32) : Prop :=
  ∀ t, made - kept ≤ t → t < made → A (t % 200) = nI (actC (aW t)) ∧ Pc (t % 200) = nI (aP t) ∧ L (t % 200) = nI (celK (aL t)) ∧ (aW t = 2 → Bf (t % 200) = aB t)
theorem okT1_note {made kept : Nat} {aW aP aL : Nat → Nat} {aB : Nat → Int32} {A Pc L Bf since : Nat → Int32} (hk : kept ≤ 200) (hkm : kept ≤ made) (hm : made < 1000000) (h : okT1 made kept aW aP aL aB A Pc L Bf) (w p k : Nat) (b : Int32) (hk256 : k < 256) (hx : w = 2 → since (celK k) = b)
    (Q : Int32 → Int32 → (Nat → Int32) → (Nat → Int32) → (Nat → Int32) → (Nat → Int32) → (Nat → Int32) → Prop)
    (hQ : ∀ A' Pc' L' Bf' kept', kept' = min (kept + 1) 200 → okT1 (made + 1) kept' (upN aW made w) (upN aP made p) (upN aL made k) (upS aB made b) A' Pc' L' Bf' → Q (nI (made + 1)) (nI kept') A' Pc' L' Bf' (upd since (celK k) (nI made))) :
    wp_X5_note (nI made) (nI kept) A Pc L Bf since (nI (actC w)) (nI p) (nI (celK k)) Q := by
  have hb := celK_b hk256
  unfold wp_X5_note
  rw [rm_200 (by omega)]
  rintro _ rfl
  rw [vp_in' (by omega), nI_clamp' (by omega), vp_in' (by omega), nI_clamp' (by omega)]
  refine ⟨by omega, ?_⟩
  rintro _ rfl
  refine ⟨by omega, ?_⟩
  rintro _ rfl
  refine ⟨by omega, ?_⟩
  rintro _ rfl
  refine ⟨by omega, ?_⟩
  rintro _ rfl
  refine ⟨by omega, ?_⟩
  rintro _ rfl
  refine ⟨by omega, ?_⟩
  rintro _ rfl _ rfl _ rfl
  rw [ad_1, ad_1]
  have e : (if (200 : Int32) < nI (kept + 1) then (200 : Int32) else nI (kept + 1)) = nI (min (kept + 1) 200) := by
    by_cases q : 200 < kept + 1
    · rw [if_pos (by rw [gt_200 (by omega)]; exact q), show min (kept + 1) 200 = 200 by omega]
      rfl
    · rw [if_neg (by rw [gt_200 (by omega)]; exact q), show min (kept + 1) 200 = kept + 1 by omega]
  rw [e]
  refine hQ _ _ _ _ _ rfl ?_
  intro t h1 h2
  by_cases ht : t = made
  · subst ht
    rw [pk_us, pk_us, pk_us, pk_us, upN_s, upN_s, upN_s]
    refine ⟨rfl, rfl, rfl, fun q => ?_⟩
    unfold upS
    rw [if_pos rfl]
    exact hx q
  · have g := h t (by omega) (by omega)
    have e : t % 200 ≠ made % 200 := by omega
    rw [pk_un e, pk_un e, pk_un e, pk_un e, upN_n ht, upN_n ht, upN_n ht]
    unfold upS
    rw [if_neg ht]
    exact g
def okC (kd on : Nat → Nat) (made kept : Nat) (aW aP aL : Nat → Nat) (aB si : Nat → Int32) (cells : Nat → Int32) (pieces grown tmade tkept : Int32) (A Pc L Bf since : Nat → Int32) : Prop :=
  cells = (fun c => nI (cc (pad on c))) ∧ pieces = nI (cnt on) ∧ grown = nI (grn kd on) ∧ tmade = nI made ∧ tkept = nI kept ∧ okT1 made kept aW aP aL aB A Pc L Bf ∧ ∀ k, k < 256 → on k % 2 = 1 → since (celK k) = si k
theorem upS_id (f : Nat → Int32) (k : Nat) : upS f k (f k) = f := by
  funext j
  unfold upS
  split
  · rename_i q; rw [q]
  · rfl
theorem okC_stepDown {kd mo gl sg on : Nat → Nat} {wm P made kept : Nat} {aW aP aL : Nat → Nat} {aB si : Nat → Int32} {cells A Pc L Bf since stale stc line : Nat → Int32} {pieces grown tmade tkept n all : Int32} {fits : Nat → Int64} (hk5 : ∀ p, kd p ≤ 5) (hP : P ≤ 40) (hk : kept ≤ 200) (hkm : kept ≤ made) (hm : made < 1000000)
    (h : okC kd on made kept aW aP aL aB si cells pieces grown tmade tkept A Pc L Bf since) (hFI : okFI kd mo gl sg wm P (pad on) stale stc n fits line all) {w p k : Nat} (hw : w ≠ 2) (hp : p < P) (hf : freN kd p k on)
    (Q : (Nat → Int32) → Int32 → Int32 → (Nat → Int32) → (Nat → Int32) → Int32 → Int32 → Int32 → (Nat → Int32) → (Nat → Int32) → (Nat → Int32) → (Nat → Int32) → (Nat → Int32) → Prop)
    (hQ : ∀ cells' pieces' grown' stale' stc' n' tmade' tkept' A' Pc' L' Bf' since' kept', kept' = min (kept + 1) 200 → okC kd (layN kd p k on) (made + 1) kept' (upN aW made w) (upN aP made p) (upN aL made k) aB (upS si k (nI made)) cells' pieces' grown' tmade' tkept' A' Pc' L' Bf' since' → okFI kd mo gl sg wm P (pad (layN kd p k on)) stale' stc' n' fits line all → Q cells' pieces' grown' stale' stc' n' tmade' tkept' A' Pc' L' Bf' since') :
    wp_X7_stepDown (fun k => nI (kd k)) cells pieces grown stale stc n tmade tkept A Pc L Bf since (nI (actC w)) (nI p) (nI (celK k)) Q := by
  obtain ⟨rfl, rfl, rfl, rfl, rfl, h6, h7⟩ := h
  unfold wp_X7_stepDown
  refine sp_putDown hk5 hP hp hf hFI _ ?_
  intro stale' stc' n' g
  refine okT1_note hk hkm hm h6 w p k (aB made) hf.1 (fun q => absurd q hw) _ ?_
  intro A' Pc' L' Bf' kept' e g2
  rw [upS_id] at g2
  refine hQ _ _ _ _ _ _ _ _ _ _ _ _ _ kept' e ⟨rfl, rfl, rfl, rfl, rfl, g2, ?_⟩ g
  intro j hj ho
  rw [upd_at]
  unfold upS
  rw [lay_v] at ho
  by_cases e1 : kd p = 2 ∧ j = k + 1
  · rw [if_pos e1] at ho
    omega
  · rw [if_neg e1] at ho
    by_cases e2 : j = k
    · rw [if_pos (by rw [e2]), if_pos e2]
    · rw [if_neg e2] at ho
      rw [if_neg (fun q => e2 (celK_inj q)), if_neg e2]
      exact h7 j hj ho
theorem sp_restart {tm tk fc : Int32} {since : Nat → Int32} (b : Bool) (Q : Int32 → Int32 → Int32 → (Nat → Int32) → Prop) (h : Q 0 0 (bI b) (fun k => if k < 324 then -1 else since k)) : wp_X5_restart tm tk fc since (bI b) Q := by
  unfold wp_X5_restart
  exact ⟨bI_01 b, fill_I (by decide) _ h⟩
