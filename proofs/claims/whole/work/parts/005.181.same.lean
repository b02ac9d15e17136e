/-! which shape it is -/
theorem ct_eq {a b : Nat → Bool} : ∀ n, (∀ k, k < n → a k = true → b k = true) → fb_ct a n = fb_ct b n → ∀ k, k < n → b k = true → a k = true
  | 0, _, _, k, hk, _ => absurd hk (by omega)
  | n + 1, h, e, k, hk, hb => by
    rw [fb_ct_succ, fb_ct_succ] at e
    have s := fb_ct_sub (n := n) (fun k hk => h k (by omega))
    have hn := h n (by omega)
    cases ha : a n with
    | true =>
      rw [ha, hn ha] at e
      rcases Nat.lt_or_ge k n with x | x
      · exact ct_eq n (fun k hk => h k (by omega)) (by omega) k x hb
      · rw [show k = n by omega]; exact ha
    | false =>
      rw [ha] at e
      cases hbn : b n with
      | true => rw [hbn] at e; simp at e; omega
      | false =>
        rw [hbn] at e
        rcases Nat.lt_or_ge k n with x | x
        · exact ct_eq n (fun k hk => h k (by omega)) (by omega) k x hb
        · rw [show k = n by omega, hbn] at hb
          exact absurd hb (by decide)
theorem okS_ext {kd : Nat → Nat} {P : Nat} {a b : Nat → Nat} (ha : okS kd P a) (hb : okS kd P b) (h1 : ∀ j, a j % 2 = 1 → b j = a j) (h2 : ∀ j, b j % 2 = 1 → a j % 2 = 1) : a = b := by
  funext j
  by_cases x : a j % 2 = 1
  · rw [h1 j x]
  · by_cases y : b j % 2 = 1
    · exact absurd (h2 j y) x
    · by_cases z : a j = 0
      · by_cases u : b j = 0
        · rw [z, u]
        · obtain ⟨g1, g2⟩ := hb.2.2.2 j u (by omega)
          have g3 := (hb.1 j).2 u (by omega)
          have g4 := h2 (j - 1) (by omega)
          have g5 := h1 (j - 1) g4
          have g6 := (ha.2.2.1 (j - 1) g4 (by rw [← g5, show (b (j - 1) - 1) / 2 = (b j - 1) / 2 by omega]; exact g3)).2
          rw [show j - 1 + 1 = j by omega] at g6
          omega
      · obtain ⟨g1, g2⟩ := ha.2.2.2 j z (by omega)
        have g3 := (ha.1 j).2 z (by omega)
        have g5 := h1 (j - 1) (by omega)
        have g6 := (hb.2.2.1 (j - 1) (by omega) (by rw [g5, show (a (j - 1) - 1) / 2 = (a j - 1) / 2 by omega]; exact g3)).2
        rw [show j - 1 + 1 = j by omega] at g6
        omega
theorem cc_is {q p : Nat} (hp : p < 40) : cc q = 1 + p ↔ q = 1 + 2 * p := by
  unfold cc
  repeat' split
  all_goals omega
section
variable {kd mo gl sg : Nat → Nat} {P n w : Nat} {fq fp fk : Nat → Nat} {sh : Nat → Nat → Nat} {par pla pie wid siz : (Nat → Int32)}
theorem anc0_0 (h : okN kd P n fq fp fk sh) : ∀ j, j < n → anc0 fq 0 j := by
  intro j
  induction j using Nat.strongRecOn with
  | ind j ih =>
    intro hj
    rcases Nat.eq_zero_or_pos j with x | x
    · rw [x]; exact anc0_r _ _
    · have := (h.2 j x hj).1
      obtain ⟨i, e, g⟩ := ih (fq j) this (by omega)
      refine ⟨i + 1, e, fun j' hj' => ?_⟩
      cases j' with
      | zero => exact x
      | succ j' => exact g j' (by omega)
theorem sp_isSame (hP : P ≤ 40) (h : okN kd P n fq fp fk sh) (hA : okNA n fq fp fk par pla pie) (hn : n ≤ 300) (hz : ∀ j, j < n → siz j = nI (cnt (sh j))) {c p k x : Nat} (hc : c < n) (hx : x < n) (hp : p < P) (hf : freN kd p k (sh c)) (Q : Int32 → Prop) (q1 : sh x = layN kd p k (sh c) → Q 1) (q0 : sh x ≠ layN kd p k (sh c) → Q 0) :
    wp_X3_isSame (fun j => nI (cc (pad (sh c) j))) (nI (cnt (sh c))) par pla pie siz (nI x) (nI (celK k)) (nI p) Q := by
  have hcl := cnt_lay hf
  have hct := okS_lay (h.1 c hc) hp hf
  have hcb : cnt (sh c) ≤ 256 := fb_ct_le _ _
  have hxb : cnt (sh x) ≤ 256 := fb_ct_le _ _
  have hkb := celK_b hf.1
  have s0c := (anc0_sub h hc (anc0_0 h c hc)).1
  have st := sub_lay hf
  generalize hT : layN kd p k (sh c) = tgt at *
  have tk : ∀ j, tgt j = if kd p = 2 ∧ j = k + 1 then 2 + 2 * p else if j = k then 1 + 2 * p else sh c j := by
    intro j
    rw [← hT, lay_v]
  unfold wp_X3_isSame
  rw [vp_in' (by omega), nI_clamp' (by omega), hz x hx]
  refine ⟨by omega, ?_⟩
  rintro _ rfl
  rw [ad_1, nI_eq' (by omega) (by omega)]
  refine ⟨fun e => ?_, fun e => q0 (fun z => e (by rw [z, hcl.1]))⟩
  have yes : (∀ j, sh x j % 2 = 1 → tgt j = sh x j) → Q 1 := by
    intro hall
    refine q1 (okS_ext (h.1 x hx) hct hall (fun j hj => ?_))
    have hj6 : j < 256 := by
      refine Classical.byContradiction fun y => ?_
      rw [hct.2.1 j (by omega)] at hj
      omega
    have := ct_eq 256 (a := fun k => decide (sh x k % 2 = 1)) (b := fun k => decide (tgt k % 2 = 1)) (fun k _ a => by
      have a := of_decide_eq_true a
      rw [hall k a]
      exact decide_eq_true a) (by
      show cnt (sh x) = cnt tgt
      rw [e, hcl.1]) j hj6 (decide_eq_true hj)
    exact of_decide_eq_true this
  have root : ∀ j, sh 0 j % 2 = 1 → tgt j = sh 0 j := fun j hj => sub_t s0c st j (by omega)
  refine pk_loop (σ := Nat) (fun f i z => wq_X3_isSame_26 (fun j => nI (cc (pad (sh c) j))) (nI (cnt (sh c))) par pla pie siz Q f (nI (celK k)) (nI p) (nI z) (nI i)) (fun i z => anc0 fq z x ∧ (z + i ≤ 299 ∨ z = 0) ∧ ((∀ j, sh z j % 2 = 1 → tgt j = sh z j) → ∀ j, sh x j % 2 = 1 → tgt j = sh x j)) 300 0 x (by decide) ⟨anc0_r _ _, Or.inl (by omega), id⟩ ?_ ?_
  · rintro f z ⟨g1, g2, g3⟩
    show wf_X3_isSame_26 _ _ _ _ _ _ _ _ _ _ _ _
    unfold wf_X3_isSame_26
    refine ⟨fun _ => ?_, fun q => absurd (by decide) q⟩
    obtain rfl : z = 0 := by omega
    exact yes (g3 root)
  · rintro f i z hi ⟨g1, g2, g3⟩ ih
    show wf_X3_isSame_26 _ _ _ _ _ _ _ _ _ _ _ _
    unfold wf_X3_isSame_26
    obtain ⟨szx, lzx⟩ := anc0_sub h hx g1
    rw [le_300 (by omega)]
    refine ⟨fun q => absurd q (by omega), fun _ => ?_⟩
    rw [eq_0 (by omega)]
    refine ⟨fun e0 => ?_, fun e0 => ?_⟩
    · subst e0
      exact yes (g3 root)
    · obtain ⟨k1, k2, k3, k4⟩ := h.2 z (by omega) (by omega)
      obtain ⟨a1, a2, a3⟩ := hA z (by omega) (by omega)
      have hkz := celK_b k3.1
      have go : tgt (fk z) = 1 + 2 * fp z → wq_X3_isSame_102 (fun j => nI (cc (pad (sh c) j))) (nI (cnt (sh c))) par pla pie siz (fun a b c' d => wq_X3_isSame_26 (fun j => nI (cc (pad (sh c) j))) (nI (cnt (sh c))) par pla pie siz Q f a b c' d) Q (nI (celK k)) (nI p) (nI z) (nI i) := by
        intro hm
        unfold wq_X3_isSame_102
        rw [vp_in' (by omega), nI_clamp' (by omega), a1]
        refine ⟨by omega, ?_⟩
        rintro _ rfl _ rfl
        rw [ad_1]
        refine ih (fq z) ⟨anc0_up g1 (by omega), Or.inl (by omega), fun hall => g3 (fun j hj => ?_)⟩
        rw [k4, lay_v] at hj ⊢
        by_cases c1 : kd (fp z) = 2 ∧ j = fk z + 1
        · rw [if_pos c1] at hj; omega
        · rw [if_neg c1] at hj ⊢
          by_cases c2 : j = fk z
          · rw [if_pos c2, c2]; exact hm
          · rw [if_neg c2] at hj ⊢
            exact hall j hj
      have q65 : ¬ (fk z = k ∧ fp z = p) → wq_X3_isSame_65 (fun j => nI (cc (pad (sh c) j))) (nI (cnt (sh c))) par pla pie siz (fun a b c' d => wq_X3_isSame_26 (fun j => nI (cc (pad (sh c) j))) (nI (cnt (sh c))) par pla pie siz Q f a b c' d) Q (nI (celK k)) (nI p) (nI z) (nI i) := by
        intro hno
        unfold wq_X3_isSame_65 wq_X3_isSame_66
        refine ⟨fun q => absurd rfl q, fun _ => ?_⟩
        rw [vp_in' (by omega), nI_clamp' (by omega), a2, a3]
        refine ⟨by omega, ?_⟩
        rintro _ rfl
        rw [vp_in' (by omega), nI_clamp' (by omega)]
        refine ⟨by omega, ?_⟩
        rintro _ rfl
        refine ⟨by omega, ?_⟩
        rintro _ rfl
        dsimp only
        rw [pad_K k3.1]
        have hcc := cc_le hP ((h.1 c hc).1 (fk z)).1
        rw [da_1, nI_eq' (by omega) (by omega), cc_is (by omega)]
        refine ⟨fun y => go ?_, fun y => q0 (fun hh => ?_)⟩
        · rw [st (fk z) (by omega), y]
        · have e1 : sh z (fk z) = 1 + 2 * fp z := by rw [k4, lay_at]
          have e2 := szx (fk z) (by omega)
          rw [hh, e1, tk] at e2
          by_cases c1 : kd p = 2 ∧ fk z = k + 1
          · rw [if_pos c1] at e2; omega
          · rw [if_neg c1] at e2
            by_cases c2 : fk z = k
            · rw [if_pos c2] at e2
              exact hno ⟨c2, by omega⟩
            · rw [if_neg c2] at e2
              exact y e2
      rw [vp_in' (by omega), nI_clamp' (by omega), a2, a3]
      refine ⟨by omega, ?_⟩
      rintro _ rfl
      rw [nI_eq' (by omega) (by omega)]
      refine ⟨fun y => q65 (fun z => y (by rw [z.1])), fun y => ⟨by omega, ?_⟩⟩
      have y := celK_inj y
      rintro _ rfl
      rw [nI_eq' (by omega) (by omega)]
      refine ⟨fun y2 => q65 (fun z => y2 z.2), fun y2 => ?_⟩
      unfold wq_X3_isSame_66
      refine ⟨fun _ => go ?_, fun q => absurd q (by decide)⟩
      rw [tk, y, if_neg (by omega), if_pos rfl, y2]
/-- what lies in a place of a shape -/
theorem sp_heldIn {sta : (Nat → Int32)} (hst : ∀ j, j < 324 → sta j = nI (cc (pad (sh 0) j))) (hP : P ≤ 40) (h : okN kd P n fq fp fk sh) (hA : okNA n fq fp fk par pla pie) (hn : n ≤ 300) (hw : ∀ j, 0 < j → j < n → wid j = bI (decide (kd (fp j) = 2))) {x k : Nat} (hx : x < n) (hk : k < 256) (Q : Int32 → Prop) (hQ : Q (if sh x k = 0 then -1 else nI ((sh x k - 1) / 2))) :
    wp_X3_heldIn sta par pla pie wid (nI x) (nI (celK k)) Q := by
  have hkb := celK_b hk
  unfold wp_X3_heldIn
  have endd : sh x k = sh 0 k → wq_X3_heldIn_68 sta par pla pie wid Q (nI (celK k)) := by
    intro e
    unfold wq_X3_heldIn_68
    rw [vp_in' (by omega), nI_clamp' (by omega)]
    refine ⟨by omega, ?_⟩
    rintro _ rfl
    rw [hst _ (by omega), pad_K hk]
    have hb0 := ((h.1 0 (by omega)).1 k).1
    rw [e] at hQ
    refine sp_pieceIn (by omega) _ (fun y => ?_) (fun y => ?_)
    · rw [if_pos y] at hQ; exact hQ
    · rw [if_neg y] at hQ; exact hQ
  refine pk_loop (σ := Nat) (fun f i z => wq_X3_heldIn_5 sta par pla pie wid Q f (nI (celK k)) (nI z) (nI i)) (fun i z => anc0 fq z x ∧ (z + i ≤ 299 ∨ z = 0) ∧ sh x k = sh z k) 300 0 x (by decide) ⟨anc0_r _ _, Or.inl (by omega), rfl⟩ ?_ ?_
  · rintro f z ⟨g1, g2, g3⟩
    show wf_X3_heldIn_5 _ _ _ _ _ _ _ _ _ _
    unfold wf_X3_heldIn_5
    refine ⟨fun _ => ?_, fun q => absurd (by decide) q⟩
    obtain rfl : z = 0 := by omega
    exact endd g3
  · rintro f i z hi ⟨g1, g2, g3⟩ ih
    show wf_X3_heldIn_5 _ _ _ _ _ _ _ _ _ _
    unfold wf_X3_heldIn_5
    obtain ⟨szx, lzx⟩ := anc0_sub h hx g1
    rw [le_300 (by omega)]
    refine ⟨fun q => absurd q (by omega), fun _ => ?_⟩
    rw [eq_0 (by omega)]
    refine ⟨fun e0 => ?_, fun e0 => ?_⟩
    · subst e0
      exact endd g3
    · obtain ⟨k1, k2, k3, k4⟩ := h.2 z (by omega) (by omega)
      obtain ⟨a1, a2, a3⟩ := hA z (by omega) (by omega)
      have hkz := celK_b k3.1
      have hv := lay_v (kd := kd) (p := fp z) (k := fk z) (on := sh (fq z)) k
      rw [← k4, ← g3] at hv
      have here : sh x k ≠ 0 → (sh x k - 1) / 2 = fp z → wq_X3_heldIn_48 sta par pla pie wid Q (nI z) := by
        intro y1 y2
        unfold wq_X3_heldIn_48
        rw [vp_in' (by omega), nI_clamp' (by omega), a3]
        refine ⟨by omega, ?_⟩
        rintro _ rfl
        rw [if_neg y1, y2] at hQ
        exact hQ
      have next : sh x k = sh (fq z) k → wq_X3_heldIn_55 sta par pla pie wid (fun a b c => wq_X3_heldIn_5 sta par pla pie wid Q f a b c) Q (nI (celK k)) (nI z) (nI i) := by
        intro y
        unfold wq_X3_heldIn_55
        rw [vp_in' (by omega), nI_clamp' (by omega), a1]
        refine ⟨by omega, ?_⟩
        rintro _ rfl _ rfl
        rw [ad_1]
        exact ih (fq z) ⟨anc0_up g1 (by omega), Or.inl (by omega), y⟩
      rw [vp_in' (by omega), nI_clamp' (by omega), a2, hw z (by omega) (by omega)]
      refine ⟨by omega, ?_⟩
      rintro _ rfl
      rw [nI_eq' (by omega) (by omega)]
      refine ⟨fun y => ?_, fun y => ⟨by omega, ?_⟩⟩
      · have y := celK_inj y
        rw [if_neg (by omega), if_pos y.symm] at hv
        exact here (by omega) (by omega)
      · have y : fk z ≠ k := fun z => y (by rw [z])
        rintro _ rfl
        rw [bI_0]
        refine ⟨fun y2 => ?_, fun y2 => ⟨by omega, ?_⟩⟩
        · have y2 := of_decide_eq_false y2
          rw [if_neg (show ¬ (kd (fp z) = 2 ∧ k = fk z + 1) from fun z => y2 z.1), if_neg (fun z => y z.symm)] at hv
          exact next hv
        · rw [Bool.not_eq_false] at y2
          have y2 := of_decide_eq_true y2
          have e1 := celK_r (k3.2.2 y2).1
          rintro _ rfl
          rw [ad_1, nI_eq' (by omega) (by omega)]
          refine ⟨fun y3 => ?_, fun y3 => ?_⟩
          · rw [if_neg (show ¬ (kd (fp z) = 2 ∧ k = fk z + 1) from fun z => y3 (by rw [z.2, e1])), if_neg (fun z => y z.symm)] at hv
            exact next hv
          · rw [← e1] at y3
            have y3 := celK_inj y3
            rw [if_pos ⟨y2, y3.symm⟩] at hv
            exact here (by omega) (by omega)
end
