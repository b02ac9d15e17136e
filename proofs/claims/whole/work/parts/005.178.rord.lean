/-! the model's answer to orderly -/
theorem mkN_0 {f : Nat → Bool} (h : ∀ d, f d = false) : ∀ n, mkN f n = 0
  | 0 => rfl
  | n + 1 => by rw [mkN_s, mkN_0 h n, h n]; rfl
def inF (kd mo gl sg : Nat → Nat) (aW aP aL : Nat → Nat) (hs : Nat → Nat → Nat) (t d : Nat) : Bool := decide (aW t = 1) && decide (0 < hAt kd mo gl sg (pad (hs t)) (aP t) 0 (celK (aL t)) d)
theorem oRs_one {r1 r2 : Nat → Prop} {made : Nat} {aW aL : Nat → Nat} {nF : Nat} {r r' : Int32} (h : oRs r1 r2 made aW aL nF r) (h' : oRs r1 r2 made aW aL nF r') : r = r' := by
  rcases h with ⟨t, a1, a2, a3, a4, a5⟩ | ⟨a0, h⟩
  · rcases h' with ⟨t', b1, b2, b3, b4, b5⟩ | ⟨b0, _⟩
    · have : t = t' := by
        rcases Nat.lt_trichotomy t t' with x | x | x
        · exact absurd (b4 t x a2) a3
        · exact x
        · exact absurd (a4 t' x b2) b3
      rw [a5, b5, this]
    · exact absurd (b0 t a1 a2) a3
  · rcases h' with ⟨t', b1, b2, b3, b4, b5⟩ | ⟨b0, h'⟩
    · exact absurd (a0 t' b1 b2) b3
    · rcases h with ⟨t, a1, a2, a3, a4, a5⟩ | ⟨a1, a2⟩
      · rcases h' with ⟨t', b1, b2, b3, b4, b5⟩ | ⟨b1, b2⟩
        · have : t = t' := by
            rcases Nat.lt_trichotomy t t' with x | x | x
            · exact absurd a3 (b4 t x a2)
            · exact x
            · exact absurd b3 (a4 t' x b2)
          rw [a5, b5, this]
        · exact absurd a3 (b1 t a1 a2)
      · rcases h' with ⟨t', c1, c2, c3, c4, c5⟩ | ⟨c1, c2⟩
        · exact absurd c3 (a1 t' c1 c2)
        · rw [a2, c2]
section
variable {kd mo gl sg : Nat → Nat} {P made w : Nat} {aW aP aL : Nat → Nat} {aB : (Nat → Int32)} {hs : Nat → Nat → Nat} {sI : Nat → Nat → Int32} {since W Pc L S : (Nat → Int32)}
theorem otp_in (hT : okT kd mo gl sg) (h : allP kd P made aW aP aL hs sI) (hk : ∀ t, t < made → okk kd mo (aP t)) (h2 : okH2 kd made made aW aP hs) (hm : made ≤ 200) (hsi : ∀ k, k < 256 → hs made k % 2 = 1 → since (celK k) = sI made k) (hSt : ∀ t, t ≤ made → okS kd P (hs t)) {t t' d : Nat} (ht : t < made) (ht' : t' < made) (hw : aW t = 1) (hd : d < 4) (hst : stp (celK (aL t)) d = celK (aL t')) :
    inF kd mo gl sg aW aP aL hs t' (opp d) = otp kd mo gl sg (hs made) since (1 + 2 * aP t) (celK (aL t)) d := by
  obtain ⟨g1, g2, g3, g4, g5, g6⟩ := h.2 t ht
  obtain ⟨e1, e2, e3, e4, e5, e6⟩ := h.2 t' ht'
  have hb := celK_b g2
  have hback := stp_stp (c := celK (aL t)) hb.1 hd
  rw [hst] at hback
  have l := ltr_t (d := d) h hk hm hsi ht
  have on' := aP_a h made (Nat.le_refl _) t' ht'
  rcases Nat.lt_trichotomy t' t with x | x | x
  · have : ltr (hs made) since (celK (aL t)) d = false := by
      cases hl : ltr (hs made) since (celK (aL t)) d
      · rfl
      · obtain ⟨_, t2, y1, y2, y3, _⟩ := l.1 hl
        rw [hst] at y3
        have y3 := celK_inj y3
        exact absurd y3 (aP_d h y2 (by omega))
    unfold otp inF
    rw [this, Bool.false_and]
    have z : hAt kd mo gl sg (pad (hs t')) (aP t') 0 (celK (aL t')) (opp d) = 0 := by
      unfold hAt
      rw [hback, pad_K g2, if_pos]
      rcases aP_e h hk (show t' ≤ made by omega) (aL t) with ⟨t2, y1, y2, y3, y4, y5⟩ | ⟨y1, y2, y3⟩
      · rw [y5, if_neg]
        intro y6
        exact aP_d h ht (show t2 < t by omega) y2.symm
      · exact y2
    rw [z]
    simp
  · subst x
    exact absurd hst (stp_ne (by omega))
  · have hl : ltr (hs made) since (celK (aL t)) d = true := by
      cases hl : ltr (hs made) since (celK (aL t)) d
      · have := l.2 hl
        rw [hst, pad_K e2, pad_K e2, on'] at this
        rcases aP_e h hk (show t ≤ made by omega) (aL t') with ⟨t2, y1, y2, y3, y4, y5⟩ | ⟨y1, y2, y3⟩
        · rw [y5, if_neg] at this
          · omega
          · intro y6
            exact aP_d h ht' (show t2 < t' by omega) y2.symm
        · omega
      · rfl
    have hon := aP_a h t' (by omega) t x
    have hw' : aW t' = 1 := by
      rcases Nat.lt_or_ge (aW t') 1 with y | y
      · obtain ⟨_, y2⟩ := (h2 t' (by omega) ht').1 (by omega)
        have y3 := (h2 t (by omega) ht).2 hw
        rw [grn_0 (hSt t' (by omega))] at y2
        rcases y2 (aL t) g2 with z | z
        · omega
        · rw [hon, show (1 + 2 * aP t - 1) / 2 = aP t by omega] at z
          exact absurd z y3
      · omega
    unfold otp inF
    rw [hl, Bool.true_and, decide_eq_true hw', Bool.true_and, ← hQ_hAt hT.2.2.2.2.2 _ _ _ _ _ (by decide)]
    unfold hQ
    rw [hback, pad_K g2, hon, hst, pad_K e2, on', opp_opp hd, Nat.add_zero]
    congr 2
    by_cases y : gQ kd mo gl (1 + 2 * aP t) d = gQ kd mo gl (1 + 2 * aP t') (opp d)
    · rw [if_pos y, if_pos y.symm, y]
    · rw [if_neg y, if_neg (fun z => y z.symm)]
theorem sp_rorderly {fc : Bool} {kept : Nat} {br : Int32} {inp0 th0 : (Nat → Int32)} (hT : okT kd mo gl sg) (hP : P ≤ 40) (h1 : 1 ≤ w) (h3 : w ≤ 3) (hkp : kept ≤ 200) (hkm : kept ≤ made) (hm : made < 1000000) (hSt : ∀ t, made - kept ≤ t → t ≤ made → okS kd P (hs t)) (hsi : ∀ k, k < 256 → hs made k % 2 = 1 → since (celK k) = sI made k) (h6 : okM1 made kept aW aP aL aB W Pc L S) (hH : okH kd P made kept aW aP aL aB hs sI) (hH2 : okH2 kd made kept aW aP hs) (h0 : fc = true → made = kept → hs 0 = (fun _ => 0)) (hap : ∀ t, made - kept ≤ t → t < made → aP t < P ∧ aW t ≤ 3) (hbr : br = 0 ↔ fc = true)
    (Q : Int32 → (Nat → Int32) → (Nat → Int32) → Prop)
    (hQ : ∀ r inp th, (aOK kd mo made kept aW aP fc → oRs (jst kd mo gl sg w aP aL hs) (fun t => rvl kd mo gl sg P w (hs made) since (aP t) (celK (aL t))) made aW aL (nA kd mo gl sg w (pad (hs made)) P) r) → (¬ aOK kd mo made kept aW aP fc → r = -1) → Q r inp th) :
    wp_X8_orderly (fun k => nI (sg k)) (fun k => nI (kd k)) (fun k => nI (mo k)) (fun k => nI (gl k)) (nI P) (nI w) (fun k => nI (hs made k)) W Pc L (nI made) (nI kept) br inp0 th0 Q := by
  have hS := hSt made (by omega) (Nat.le_refl _)
  unfold wp_X8_orderly
  refine sp_raskable (gl := gl) (sg := sg) hT hP hkp hkm hm h6 hH hS hap h0 hbr _ (fun ok => ⟨fun _ => ?_, fun e => absurd e (by decide)⟩) (fun no => ⟨fun e => absurd rfl e, fun _ => hQ _ _ _ (fun ok => absurd ok no) (fun _ => rfl)⟩)
  obtain ⟨o1, o2, o3⟩ := ok
  subst o2
  have hA := allP_of hH rfl (h0 o1 rfl) (fun t ht => (o3 t ht).1)
  have hk : ∀ t, t < made → okk kd mo (aP t) := fun t ht => (o3 t ht).2
  have hSt : ∀ t, t ≤ made → okS kd P (hs t) := fun t ht => hSt t (by omega) ht
  have hQ' : ∀ r inp th, oRs (jst kd mo gl sg w aP aL hs) (fun t => rvl kd mo gl sg P w (hs made) since (aP t) (celK (aL t))) made aW aL (nA kd mo gl sg w (pad (hs made)) P) r → Q r inp th :=
    fun r inp th g => hQ r inp th (fun _ => g) (fun no => absurd ⟨o1, rfl, o3⟩ no)
  have hst : ∀ t, t < made → W t = nI (aW t) ∧ Pc t = nI (aP t) ∧ L t = nI (aL t) := by
    intro t ht
    obtain ⟨k1, k2, k3, _⟩ := h6 t (by omega) ht
    rw [show t - (made - made) = t by omega] at k1 k2 k3
    exact ⟨k1, k2, k3⟩
  refine pk_loop (σ := (Nat → Int32)) (fun n i z => wq_X8_orderly_11 (fun k => nI (sg k)) (fun k => nI (kd k)) (fun k => nI (mo k)) (fun k => nI (gl k)) (nI P) (nI w) (fun k => nI (hs made k)) W Pc L (nI made) (nI made) br Q n inp0 z (nI i)) (fun i z => ∀ j, j < i → z j = 0) 256 0 th0 (by decide) (fun j hj => absurd hj (by omega)) ?_ ?_
  · intro n z hz
    show wf_X8_orderly_11 _ _ _ _ _ _ _ _ _ _ _ _ _ _ _ _ _ _
    unfold wf_X8_orderly_11
    refine ⟨fun _ => ?_, fun a => absurd (by decide) a⟩
    refine pk_loop (σ := (Nat → Int32) × (Nat → Int32)) (fun n i z => wq_X8_orderly_33 (fun k => nI (sg k)) (fun k => nI (kd k)) (fun k => nI (mo k)) (fun k => nI (gl k)) (nI P) (nI w) (fun k => nI (hs made k)) W Pc L (nI made) (nI made) br Q n z.1 z.2 (nI i)) (fun i z => (∀ j, j < 256 → z.2 j = nI (hs i j)) ∧ (∀ t, t < i → z.1 (aL t) = nI (mkN (inF kd mo gl sg aW aP aL hs t) 4)) ∧ ∀ t, t < i → aW t = 1 → jst kd mo gl sg w aP aL hs t) made 0 (inp0, z) (Nat.zero_le _) ⟨fun j hj => by rw [hA.1]; exact hz j hj, fun t ht => absurd ht (by omega), fun t ht => absurd ht (by omega)⟩ ?_ ?_
    · rintro n ⟨inp, th⟩ ⟨-, i2, i3⟩
      show wf_X8_orderly_33 _ _ _ _ _ _ _ _ _ _ _ _ _ _ _ _ _ _
      unfold wf_X8_orderly_33
      refine ⟨fun _ => ?_, fun a => absurd (nI_le (Nat.le_refl _) (by omega)) a⟩
      dsimp only at i2
      dsimp only
      refine pk_loop (σ := (Nat → Int32)) (fun n i z => wq_X8_orderly_185 (fun k => nI (sg k)) (fun k => nI (kd k)) (fun k => nI (mo k)) (fun k => nI (gl k)) (nI P) (nI w) (fun k => nI (hs made k)) W Pc L (nI made) (nI made) br Q n inp z (nI i)) (fun i _ => ∀ t, t < i → aW t = 1 → ¬ rvl kd mo gl sg P w (hs made) since (aP t) (celK (aL t))) made 0 th (Nat.zero_le _) (fun t ht => absurd ht (by omega)) ?_ ?_
      · intro n z hz
        show wf_X8_orderly_185 _ _ _ _ _ _ _ _ _ _ _ _ _ _ _ _ _ _
        unfold wf_X8_orderly_185
        refine ⟨fun _ => ?_, fun a => absurd (nI_le (Nat.le_refl _) (by omega)) a⟩
        refine sp_choices hT hP h3 (okS_B hS) _ ?_
        have hn : nA kd mo gl sg w (pad (hs made)) P ≤ 10240 := nY_le hP 16
        rw [eq_0 (by omega)]
        exact ⟨fun x => hQ' _ _ _ (Or.inr ⟨i3, Or.inr ⟨hz, by rw [if_neg x]⟩⟩), fun x => hQ' _ _ _ (Or.inr ⟨i3, Or.inr ⟨hz, by rw [if_pos x]⟩⟩)⟩
      · intro n i z hi hz ih
        show wf_X8_orderly_185 _ _ _ _ _ _ _ _ _ _ _ _ _ _ _ _ _ _
        unfold wf_X8_orderly_185
        obtain ⟨k1, k2, k3⟩ := hst i hi
        obtain ⟨g1, g2, g3, g4, g5, g6⟩ := hA.2 i hi
        rw [nI_le' (by omega) (by omega), vp_in' (by omega), nI_clamp' (by omega), k1, k2, k3]
        refine ⟨fun a => absurd a (by omega), fun _ => ⟨by omega, ?_⟩⟩
        rintro _ rfl
        rw [eq_1 (by omega)]
        refine ⟨fun x => ?_, fun x => ⟨by omega, ?_⟩⟩
        · rintro _ rfl
          rw [ad_1]
          refine ih z (fun t ht hw => ?_)
          rcases Nat.lt_or_ge t i with y | y
          · exact hz t y hw
          · exact absurd hw (by rw [show t = i by omega]; exact x)
        · rintro _ rfl
          refine ⟨by omega, ?_⟩
          rintro _ rfl
          refine sp_isAlone (f := otp kd mo gl sg (hs made) since (1 + 2 * aP i) (celK (aL i))) hT hP h1 h3 hS g2 g1 ?_ ?_ _ _ (fun no t => ⟨fun _ => ?_, fun e => absurd e (by decide)⟩) (fun yes t => ⟨fun e => absurd rfl e, fun _ => ⟨by omega, ?_⟩⟩)
          · intro d hd u hu hus hu0
            rcases aP_e hA hk (Nat.le_refl _) u with ⟨t', y1, y2, y3, y4, y5⟩ | ⟨y1, y2, y3⟩
            · have hlt := mkN_lt (inF kd mo gl sg aW aP aL hs t') 4
              refine ⟨_, by omega, by rw [y2]; exact i2 t' y1, ?_⟩
              rw [mkN_bit, decide_eq_true (opp_lt d), Bool.true_and]
              exact otp_in hT hA hk hH2 hkp hsi hSt hi y1 x hd (by rw [hus, y2])
            · exact absurd y1 hu0
          · intro d hd ho
            unfold otp ltr at ho
            rw [Bool.and_eq_true, Bool.and_eq_true, bne_iff_ne] at ho
            exact ho.1.1
          · rintro _ rfl
            rw [ad_1]
            refine ih t (fun t ht hw => ?_)
            rcases Nat.lt_or_ge t i with y | y
            · exact hz t y hw
            · rw [show t = i by omega]
              exact no
          · rintro _ rfl
            exact hQ' _ _ _ (Or.inr ⟨i3, Or.inl ⟨i, hi, x, yes, hz, rfl⟩⟩)
    · rintro n i ⟨inp, th⟩ hi ⟨i1, i2, i3⟩ ih
      dsimp only at i1 i2
      show wf_X8_orderly_33 _ _ _ _ _ _ _ _ _ _ _ _ _ _ _ _ _ _
      unfold wf_X8_orderly_33
      dsimp only
      obtain ⟨k1, k2, k3⟩ := hst i hi
      obtain ⟨g1, g2, g3, g4, g5, g6⟩ := hA.2 i hi
      have hnb : kd (aP i) ≠ 2 := by
        have := hk i hi
        unfold okk at this
        omega
      have hcel : celK (aL i) = celN (aL i % 16) (aL i / 16) := rfl
      have hAi : okA P 256 0 th (hs i) := ⟨by decide, by decide, fun j hj => by rw [Nat.zero_add]; exact i1 j hj, okS_B (hSt i (by omega)), hP⟩
      have fin : ∀ inp', (∀ t, t < i → inp' (aL t) = nI (mkN (inF kd mo gl sg aW aP aL hs t) 4)) → inp' (aL i) = nI (mkN (inF kd mo gl sg aW aP aL hs i) 4) → wq_X8_orderly_124 (fun k => nI (sg k)) (fun k => nI (kd k)) (fun k => nI (mo k)) (fun k => nI (gl k)) (nI P) (nI w) (fun k => nI (hs made k)) W Pc L (nI made) (nI made) br (fun a b c => wq_X8_orderly_33 (fun k => nI (sg k)) (fun k => nI (kd k)) (fun k => nI (mo k)) (fun k => nI (gl k)) (nI P) (nI w) (fun k => nI (hs made k)) W Pc L (nI made) (nI made) br Q n a b c) Q inp' th (nI i) (nI (aL i)) (nI (aP i)) := by
        intro inp' j2 j3
        have lay : (aW i = 1 → jst kd mo gl sg w aP aL hs i) → wq_X8_orderly_166 (fun k => nI (sg k)) (fun k => nI (kd k)) (fun k => nI (mo k)) (fun k => nI (gl k)) (nI P) (nI w) (fun k => nI (hs made k)) W Pc L (nI made) (nI made) br (fun a b c => wq_X8_orderly_33 (fun k => nI (sg k)) (fun k => nI (kd k)) (fun k => nI (mo k)) (fun k => nI (gl k)) (nI P) (nI w) (fun k => nI (hs made k)) W Pc L (nI made) (nI made) br Q n a b c) Q inp' th (nI i) (nI (aL i)) (nI (aP i)) := by
          intro hj
          unfold wq_X8_orderly_166
          refine sp_lay (f := 0) hT.1 (by omega) (by omega) (fun e => absurd e hnb) (by decide) _ ?_
          rintro _ rfl
          rw [ad_1, Nat.zero_add]
          refine ih (inp', layI kd (aP i) (aL i) th) ⟨?_, ?_, ?_⟩
          · intro j hj
            dsimp only
            unfold layI
            rw [if_neg hnb, upd_at, g5, lay_v, if_neg (show ¬ (kd (aP i) = 2 ∧ j = aL i + 1) from fun z => hnb z.1)]
            split
            · rfl
            · exact i1 j hj
          · intro t ht
            rcases Nat.lt_or_ge t i with y | y
            · exact j2 t y
            · rw [show t = i by omega]; exact j3
          · intro t ht hw
            rcases Nat.lt_or_ge t i with y | y
            · exact i3 t y hw
            · obtain rfl : t = i := by omega
              exact hj hw
        unfold wq_X8_orderly_124
        rw [vp_in' (by omega), nI_clamp' (by omega), k1]
        refine ⟨by omega, ?_⟩
        rintro _ rfl
        rw [eq_1 (by omega)]
        refine ⟨fun x => lay (fun z => absurd z x), fun x => ?_⟩
        rw [rm_16 (by omega), dv_16 (by omega)]
        refine sp_holdOf (f := 0) hT hAi (by omega) (by omega) (by omega) (fun e => absurd e hnb) _ ?_
        rw [← hcel]
        have hle : hOf kd mo gl sg (pad (hs i)) (aP i) (celK (aL i)) ≤ 3 * 4 := by
          rw [hOf_nb hT.2.2.2.2.2 hnb]
          exact hS_le (fun d => hQ_le hT _ _ _ _) 4
        rw [nI_eq' (by omega) (by omega)]
        exact ⟨fun y => lay (fun _ => y), fun y => hQ' _ _ _ (Or.inl ⟨i, hi, x, y, i3, rfl⟩)⟩
      rw [nI_le' (by omega) (by omega), vp_in' (by omega), nI_clamp' (by omega), k2, k3]
      refine ⟨fun a => absurd a (by omega), fun _ => ⟨by omega, ?_⟩⟩
      rintro _ rfl
      refine ⟨by omega, ?_⟩
      rintro _ rfl
      rw [vp_in' (by omega), nI_clamp' (by omega)]
      refine ⟨g2, ?_⟩
      rintro _ rfl
      have hdis : ∀ t, t < i → aL t ≠ aL i := fun t ht => aP_d hA hi ht
      refine pk_loop (σ := (Nat → Int32)) (fun m d z => wq_X8_orderly_65 (fun k => nI (sg k)) (fun k => nI (kd k)) (fun k => nI (mo k)) (fun k => nI (gl k)) (nI P) (nI w) (fun k => nI (hs made k)) W Pc L (nI made) (nI made) br (fun a b c => wq_X8_orderly_33 (fun k => nI (sg k)) (fun k => nI (kd k)) (fun k => nI (mo k)) (fun k => nI (gl k)) (nI P) (nI w) (fun k => nI (hs made k)) W Pc L (nI made) (nI made) br Q n a b c) Q m z th (nI i) (nI (aL i)) (nI (aP i)) (nI d)) (fun d z => (∀ t, t < i → z (aL t) = nI (mkN (inF kd mo gl sg aW aP aL hs t) 4)) ∧ z (aL i) = nI (mkN (inF kd mo gl sg aW aP aL hs i) d)) 4 0 (upd inp (aL i) 0) (by decide) ⟨fun t ht => ?_, ?_⟩ ?_ ?_
      · rw [upd_at, if_neg (hdis t ht)]
        exact i2 t ht
      · rw [upd_at, if_pos rfl]
        rfl
      · rintro m z ⟨z1, z2⟩
        show wf_X8_orderly_65 _ _ _ _ _ _ _ _ _ _ _ _ _ _ _ _ _ _ _ _ _ _
        unfold wf_X8_orderly_65
        exact ⟨fun _ => fin z z1 z2, fun a => absurd (by decide) a⟩
      · rintro m d z hd ⟨z1, z2⟩ ihd
        show wf_X8_orderly_65 _ _ _ _ _ _ _ _ _ _ _ _ _ _ _ _ _ _ _ _ _ _
        unfold wf_X8_orderly_65
        rw [le_4 (by omega)]
        refine ⟨fun a => absurd a (by omega), fun _ => ?_⟩
        rw [vp_in' (n := i) (by omega), nI_clamp' (n := i) (by omega), k1]
        refine ⟨by omega, ?_⟩
        rintro _ rfl
        rw [eq_1 (by omega)]
        refine ⟨fun x => ?_, fun x => ?_⟩
        · have zf : ∀ d, inF kd mo gl sg aW aP aL hs i d = false := fun d => by
            unfold inF
            rw [decide_eq_false x, Bool.false_and]
          refine fin z z1 ?_
          rw [z2, mkN_0 zf, mkN_0 zf]
        · rw [rm_16 (by omega), dv_16 (by omega)]
          refine sp_holdAt (f := 0) (h := 0) hT hAi (by omega) (by decide) (by omega) (by omega) hd _ ?_
          rw [← hcel]
          have hle : hAt kd mo gl sg (pad (hs i)) (aP i) 0 (celK (aL i)) d ≤ 3 := by
            rw [← hQ_hAt hT.2.2.2.2.2 _ _ _ _ _ (by decide)]
            exact hQ_le hT _ _ _ _
          rw [ge_0 (by omega)]
          refine ⟨fun y => ?_, fun y => ?_⟩
          · rintro _ rfl
            rw [ad_1]
            refine ihd z ⟨z1, ?_⟩
            rw [z2, mkN_s]
            unfold inF
            rw [decide_eq_false (show ¬ 0 < hAt kd mo gl sg (pad (hs i)) (aP i) 0 (celK (aL i)) d by omega), Bool.and_false, if_neg (by decide), Nat.add_zero]
          · rw [vp_in' (by omega), nI_clamp' (by omega)]
            refine ⟨g2, ?_⟩
            rintro _ rfl
            refine ⟨g2, ?_⟩
            rintro _ rfl _ rfl
            rw [ad_1]
            have hlt := mkN_lt (inF kd mo gl sg aW aP aL hs i) d
            have h8 : 2 ^ d ≤ 2 ^ 3 := Nat.pow_le_pow_right (by decide) (by omega)
            refine ihd (upd z (aL i) (z (aL i) ||| ((1 : Int32) <<< (nI d &&& 31)))) ⟨fun t ht => ?_, ?_⟩
            · rw [upd_at, if_neg (hdis t ht)]
              exact z1 t ht
            · have e : inF kd mo gl sg aW aP aL hs i d = true := by
                unfold inF
                rw [decide_eq_true x, decide_eq_true (show 0 < hAt kd mo gl sg (pad (hs i)) (aP i) 0 (celK (aL i)) d by omega)]
                rfl
              rw [upd_at, if_pos rfl, z2, or_bit d hd _ (by omega) hlt, mkN_s (inF kd mo gl sg aW aP aL hs i) d, e, if_pos rfl]
  · intro n i z hi hz ih
    show wf_X8_orderly_11 _ _ _ _ _ _ _ _ _ _ _ _ _ _ _ _ _ _
    unfold wf_X8_orderly_11
    rw [le_256 (by omega)]
    refine ⟨fun a => absurd a (by omega), fun _ => ?_⟩
    rw [vp_in' (by omega), nI_clamp' (by omega)]
    refine ⟨hi, ?_⟩
    rintro _ rfl _ rfl
    rw [ad_1]
    refine ih (upd z i 0) (fun j hj => ?_)
    rw [upd_at]
    split
    · rfl
    · exact hz j (by omega)
end
