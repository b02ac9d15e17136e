/-! growing by a draw -/
noncomputable def pick (kd mo gl sg : Nat → Nat) (w P : Nat) (on : Nat → Nat) (j : Nat) : Nat × Nat × Nat := Classical.epsilon (fun z : Nat × Nat × Nat => CH kd mo gl sg w (pad on) P j z.1 z.2.1 z.2.2)
theorem pick_eq {kd mo gl sg on : Nat → Nat} {w P j y x p : Nat} (h : CH kd mo gl sg w (pad on) P j y x p) : pick kd mo gl sg w P on j = (y, x, p) := by
  have h1 : CH kd mo gl sg w (pad on) P j (pick kd mo gl sg w P on j).1 (pick kd mo gl sg w P on j).2.1 (pick kd mo gl sg w P on j).2.2 := Classical.epsilon_spec (p := fun z : Nat × Nat × Nat => CH kd mo gl sg w (pad on) P j z.1 z.2.1 z.2.2) ⟨(y, x, p), h⟩
  obtain ⟨e1, e2, e3⟩ := CH_one h1 h
  exact Prod.ext e1 (Prod.ext e2 e3)
def nxS (s : Int64) : Int64 := s * 6364136223846793005 + 1442695040888963407
def drN (s : Int64) (m : Nat) : Nat := uN s / 2 ^ 33 % m
theorem dr_I (s : Int64) {m : Nat} (h0 : 0 < m) (hm : m < 2147483648) : ((s.toUInt64 >>> ((33 : Int32).toInt64.toUInt64 &&& Int64.toUInt64 63)).toInt64 - (s.toUInt64 >>> ((33 : Int32).toInt64.toUInt64 &&& Int64.toUInt64 63)).toInt64 / (nI m).toInt64 * (nI m).toInt64).toInt32 = nI (drN s m) := by
  have hl := uN_lt s
  have e : (s.toUInt64 >>> ((33 : Int32).toInt64.toUInt64 &&& Int64.toUInt64 63)).toInt64 = lN (uN s / 2 ^ 33) := by
    apply uN_inj
    have h1 : uN (s.toUInt64 >>> ((33 : Int32).toInt64.toUInt64 &&& Int64.toUInt64 63)).toInt64 = uN s / 2 ^ 33 := uN_sk s (k := 33) (by decide)
    rw [h1]
    exact (wb_tn (n := uN s / 2 ^ 33) (by omega)).symm
  rw [e, nI_l hm, pk_lRem (by omega) h0 (by omega), lN_i]
  rfl
noncomputable def gr (kd mo gl sg : Nat → Nat) (w P : Nat) (on : Nat → Nat) (s : Int64) : Nat → (Nat → Nat) × Int64
  | 0 => (on, s)
  | i + 1 => (layN kd (pick kd mo gl sg w P (gr kd mo gl sg w P on s i).1 (drN (nxS (gr kd mo gl sg w P on s i).2) (nA kd mo gl sg w (pad (gr kd mo gl sg w P on s i).1) P))).2.2 ((pick kd mo gl sg w P (gr kd mo gl sg w P on s i).1 (drN (nxS (gr kd mo gl sg w P on s i).2) (nA kd mo gl sg w (pad (gr kd mo gl sg w P on s i).1) P))).2.1 + 16 * (pick kd mo gl sg w P (gr kd mo gl sg w P on s i).1 (drN (nxS (gr kd mo gl sg w P on s i).2) (nA kd mo gl sg w (pad (gr kd mo gl sg w P on s i).1) P))).1) (gr kd mo gl sg w P on s i).1, nxS (gr kd mo gl sg w P on s i).2)
noncomputable def gZ (kd mo gl sg : Nat → Nat) (w P : Nat) (on : Nat → Nat) (s : Int64) (i : Nat) : Nat × Nat × Nat := pick kd mo gl sg w P (gr kd mo gl sg w P on s i).1 (drN (nxS (gr kd mo gl sg w P on s i).2) (nA kd mo gl sg w (pad (gr kd mo gl sg w P on s i).1) P))
def gU (f : Nat → Nat) (v : Nat → Nat) (made : Nat) : Nat → Nat → Nat
  | 0 => f
  | i + 1 => upN (gU f v made i) (made + i) (v i)
noncomputable def gSi (kd mo gl sg : Nat → Nat) (w P : Nat) (on : Nat → Nat) (s : Int64) (made : Nat) (si : (Nat → Int32)) : Nat → Nat → Int32
  | 0 => si
  | i + 1 => upS (gSi kd mo gl sg w P on s made si i) ((gZ kd mo gl sg w P on s i).2.1 + 16 * (gZ kd mo gl sg w P on s i).1) (nI (made + i))
def gHs (hs : Nat → Nat → Nat) (v : Nat → Nat → Nat) (made : Nat) : Nat → Nat → Nat → Nat
  | 0 => hs
  | i + 1 => upH (gHs hs v made i) (made + i + 1) (v (i + 1))
def gSI (sI : Nat → Nat → Int32) (v : Nat → Nat → Int32) (made : Nat) : Nat → Nat → Nat → Int32
  | 0 => sI
  | i + 1 => upH (gSI sI v made i) (made + i + 1) (v (i + 1))
theorem sp_cgrow {kd mo gl sg on : Nat → Nat} {w P made kept N : Nat} {s : Int64} {aW aP aL : Nat → Nat} {aB si : (Nat → Int32)} {cells A Pc L Bf since stale stc line : (Nat → Int32)} {pieces grown tmade tkept n all : Int32} {fits : (Nat → Int64)} (hT : okT kd mo gl sg) (hP : P ≤ 40) (hw1 : 1 ≤ w) (hw3 : w ≤ 3) (hS : okS kd P on) (hk : kept ≤ 200) (hkm : kept ≤ made) (hm : made < 900000)
    (h : okC kd on made kept aW aP aL aB si cells pieces grown tmade tkept A Pc L Bf since) (hFI : okFI kd mo gl sg w P (pad on) stale stc n fits line all) (hN : N ≤ 250) (a1 a2 a3 : Int64)
    (Q : Int32 → Int64 → (Nat → Int32) → Int32 → Int32 → (Nat → Int64) → (Nat → Int32) → Int32 → (Nat → Int32) → (Nat → Int32) → Int32 → Int64 → Int64 → Int64 → Int32 → Int32 → (Nat → Int32) → (Nat → Int32) → (Nat → Int32) → (Nat → Int32) → (Nat → Int32) → Prop)
    (hQ : ∀ m cells' pieces' grown' fits' line' all' stale' stc' n' b1 b2 b3 tmade' tkept' A' Pc' L' Bf' since', m ≤ N → (∀ i, i < m → 0 < nA kd mo gl sg w (pad (gr kd mo gl sg w P on s i).1) P) → (m = N ∨ nA kd mo gl sg w (pad (gr kd mo gl sg w P on s m).1) P = 0) →
      okC kd (gr kd mo gl sg w P on s m).1 (made + m) (min (kept + m) 200) (gU aW (fun _ => 1) made m) (gU aP (fun i => (gZ kd mo gl sg w P on s i).2.2) made m) (gU aL (fun i => (gZ kd mo gl sg w P on s i).2.1 + 16 * (gZ kd mo gl sg w P on s i).1) made m) aB (gSi kd mo gl sg w P on s made si m) cells' pieces' grown' tmade' tkept' A' Pc' L' Bf' since' → okFI kd mo gl sg w P (pad (gr kd mo gl sg w P on s m).1) stale' stc' n' fits' line' all' →
      Q (nI m) (gr kd mo gl sg w P on s m).2 cells' pieces' grown' fits' line' all' stale' stc' n' b1 b2 b3 tmade' tkept' A' Pc' L' Bf' since') :
    wp_X7_grow (nI w) (fun k => nI (sg k)) (fun k => nI (kd k)) (fun k => nI (fcF kd mo gl P k)) (fun k => nI (baF kd mo P k)) (fun k => shF kd mo gl P k) (fun k => srF kd mo gl P k) (fun k => brF kd mo P k) (seF kd P) (blF kd P) s cells pieces grown fits line all stale stc n a1 a2 a3 tmade tkept A Pc L Bf since (nI N) Q := by
  unfold wp_X7_grow
  refine ⟨fun q => absurd q (nI_pos (by omega)), fun _ => ⟨fun _ => ?_, fun q => absurd (nI_le (a := N) (b := 250) hN (by decide)) q⟩⟩
  refine pk_loop (σ := (Nat → Int32) × Int32 × Int32 × (Nat → Int64) × (Nat → Int32) × Int32 × (Nat → Int32) × (Nat → Int32) × Int32 × Int64 × Int64 × Int64 × Int32 × Int32 × (Nat → Int32) × (Nat → Int32) × (Nat → Int32) × (Nat → Int32) × (Nat → Int32)) (fun f i z => wq_X7_grow_17 (nI w) (fun k => nI (sg k)) (fun k => nI (kd k)) (fun k => nI (fcF kd mo gl P k)) (fun k => nI (baF kd mo P k)) (fun k => shF kd mo gl P k) (fun k => srF kd mo gl P k) (fun k => brF kd mo P k) (seF kd P) (blF kd P) Q f (gr kd mo gl sg w P on s i).2 z.1 z.2.1 z.2.2.1 z.2.2.2.1 z.2.2.2.2.1 z.2.2.2.2.2.1 z.2.2.2.2.2.2.1 z.2.2.2.2.2.2.2.1 z.2.2.2.2.2.2.2.2.1 z.2.2.2.2.2.2.2.2.2.1 z.2.2.2.2.2.2.2.2.2.2.1 z.2.2.2.2.2.2.2.2.2.2.2.1 z.2.2.2.2.2.2.2.2.2.2.2.2.1 z.2.2.2.2.2.2.2.2.2.2.2.2.2.1 z.2.2.2.2.2.2.2.2.2.2.2.2.2.2.1 z.2.2.2.2.2.2.2.2.2.2.2.2.2.2.2.1 z.2.2.2.2.2.2.2.2.2.2.2.2.2.2.2.2.1 z.2.2.2.2.2.2.2.2.2.2.2.2.2.2.2.2.2.1 z.2.2.2.2.2.2.2.2.2.2.2.2.2.2.2.2.2.2 (nI N) (nI i) (nI i))
    (fun m z => okS kd P (gr kd mo gl sg w P on s m).1 ∧ (∀ i, i < m → 0 < nA kd mo gl sg w (pad (gr kd mo gl sg w P on s i).1) P) ∧
      okC kd (gr kd mo gl sg w P on s m).1 (made + m) (min (kept + m) 200) (gU aW (fun _ => 1) made m) (gU aP (fun i => (gZ kd mo gl sg w P on s i).2.2) made m) (gU aL (fun i => (gZ kd mo gl sg w P on s i).2.1 + 16 * (gZ kd mo gl sg w P on s i).1) made m) aB (gSi kd mo gl sg w P on s made si m) z.1 z.2.1 z.2.2.1 z.2.2.2.2.2.2.2.2.2.2.2.2.1 z.2.2.2.2.2.2.2.2.2.2.2.2.2.1 z.2.2.2.2.2.2.2.2.2.2.2.2.2.2.1 z.2.2.2.2.2.2.2.2.2.2.2.2.2.2.2.1 z.2.2.2.2.2.2.2.2.2.2.2.2.2.2.2.2.1 z.2.2.2.2.2.2.2.2.2.2.2.2.2.2.2.2.2.1 z.2.2.2.2.2.2.2.2.2.2.2.2.2.2.2.2.2.2 ∧
      okFI kd mo gl sg w P (pad (gr kd mo gl sg w P on s m).1) z.2.2.2.2.2.2.1 z.2.2.2.2.2.2.2.1 z.2.2.2.2.2.2.2.2.1 z.2.2.2.1 z.2.2.2.2.1 z.2.2.2.2.2.1) N 0 (cells, pieces, grown, fits, line, all, stale, stc, n, a1, a2, a3, tmade, tkept, A, Pc, L, Bf, since) (Nat.zero_le _) ⟨hS, fun i hi => absurd hi (by omega), ?_, hFI⟩ ?_ ?_
  · have e : min (kept + 0) 200 = kept := by omega
    show okC kd on made (min (kept + 0) 200) aW aP aL aB si cells pieces grown tmade tkept A Pc L Bf since
    rw [e]
    exact h
  · rintro f ⟨z1, z2, z3, z4, z5, z6, z7, z8, z9, z10, z11, z12, z13, z14, z15, z16, z17, z18, z19⟩ ⟨i1, i2, i3, i4⟩
    show wf_X7_grow_17 _ _ _ _ _ _ _ _ _ _ _ _ _ _ _ _ _ _ _ _ _ _ _ _ _ _ _ _ _ _ _ _ _ _ _
    unfold wf_X7_grow_17
    exact ⟨fun _ => hQ N _ _ _ _ _ _ _ _ _ _ _ _ _ _ _ _ _ _ _ (Nat.le_refl _) i2 (Or.inl rfl) i3 i4, fun q => absurd (nI_le (Nat.le_refl N) (by omega)) q⟩
  · rintro f i ⟨z1, z2, z3, z4, z5, z6, z7, z8, z9, z10, z11, z12, z13, z14, z15, z16, z17, z18, z19⟩ hi ⟨i1, i2, i3, i4⟩ ih
    show wf_X7_grow_17 _ _ _ _ _ _ _ _ _ _ _ _ _ _ _ _ _ _ _ _ _ _ _ _ _ _ _ _ _ _ _ _ _ _ _
    unfold wf_X7_grow_17
    dsimp only at i1 i2 i3 i4 ⊢
    rw [nI_le' (by omega) (by omega)]
    refine ⟨fun q => absurd q (by omega), fun _ => ?_⟩
    obtain ⟨m0, St, rfl, g1, g2, g3⟩ := i4
    have c1 := i3.1
    have hnA : nA kd mo gl sg w (pad (gr kd mo gl sg w P on s i).1) P ≤ 10240 := nY_le hP 16
    rw [c1]
    refine sp_countFits hT hP hw1 hw3 (okS_pad i1) g1 g2 g3 z10 z11 z12 _ ?_
    intro ft ln al st b1 b2 b3 k1 k2 k3
    rw [gt_0 (by omega)]
    refine ⟨fun hpos => ?_, fun hz => ?_⟩
    · unfold wp_X7_drawOf
      rintro _ rfl
      rw [gt_0 (by omega)]
      refine ⟨fun _ => ?_, fun q => absurd hpos q⟩
      refine ⟨?_, ?_⟩
      · rw [nI_l (by omega)]
        intro e
        have := (lN_eq (a := nA kd mo gl sg w (pad (gr kd mo gl sg w P on s i).1) P) (b := 0) (by omega) (by decide)).mp e
        omega
      · rw [dr_I _ hpos (by omega)]
        have hlt : drN (nxS (gr kd mo gl sg w P on s i).2) (nA kd mo gl sg w (pad (gr kd mo gl sg w P on s i).1) P) < nA kd mo gl sg w (pad (gr kd mo gl sg w P on s i).1) P := Nat.mod_lt _ hpos
        refine sp_findFit (n := 0) hT hP hw1 hw3 (okS_pad i1) k3 k1 (fun c hc _ => k2 c hc) hlt b1 b2 b3 _ ?_
        intro y x p ft2 ln2 al2 st2 d1 d2 d3 hCH e1 e2 e3
        have hx := hCH.2.2.2.1
        have hy := hCH.2.2.1
        have hp := hCH.2.2.2.2
        have hcb := onC_b (onC_cel hx hy)
        have hpk : gZ kd mo gl sg w P on s i = (y, x, p) := pick_eq hCH
        refine ⟨fun _ => ?_, fun q => absurd q (nI_nm1 (by omega))⟩
        rw [dv_64 (by omega), show (64 * celN x y + p) / 64 = celN x y by omega, show nI (64 * celN x y + p) - nI (celN x y) * (64 : Int32) = nI p by rw [um_64, nI_sub' (by omega)]; congr 1; omega, ← c1, ← celK_xy hx]
        have hf := fre_N hx hy (mayC_fre hCH.2.1).1
        refine okC_stepDown (w := 1) hT.1 hP (by omega) (by omega) (by omega) i3 (okFI_fresh e1 e2 e3) (by decide) hp hf _ ?_
        intro q1 q2 q3 q4 q5 q6 q7 q8 q9 q10 q11 q12 q13 kept' ek j1 j2
        rintro _ rfl _ rfl
        rw [ad_1]
        have eon : (gr kd mo gl sg w P on s (i + 1)).1 = layN kd p (x + 16 * y) (gr kd mo gl sg w P on s i).1 := by
          show layN kd (gZ kd mo gl sg w P on s i).2.2 ((gZ kd mo gl sg w P on s i).2.1 + 16 * (gZ kd mo gl sg w P on s i).1) (gr kd mo gl sg w P on s i).1 = _
          rw [hpk]
        have ekp : kept' = min (kept + (i + 1)) 200 := by omega
        refine ih (q1, q2, q3, ft2, ln2, al2, q4, q5, q6, d1, d2, d3, q7, q8, q9, q10, q11, q12, q13) ⟨?_, ?_, ?_, ?_⟩
        · rw [eon]
          exact okS_lay i1 hp hf
        · intro i' hi'
          rcases Nat.lt_or_ge i' i with a | a
          · exact i2 i' a
          · obtain rfl : i' = i := by omega
            exact hpos
        · dsimp only
          rw [eon, ← ekp]
          show okC kd _ (made + (i + 1)) kept' (upN (gU aW (fun _ => 1) made i) (made + i) 1) (upN (gU aP (fun i => (gZ kd mo gl sg w P on s i).2.2) made i) (made + i) (gZ kd mo gl sg w P on s i).2.2) (upN (gU aL (fun i => (gZ kd mo gl sg w P on s i).2.1 + 16 * (gZ kd mo gl sg w P on s i).1) made i) (made + i) ((gZ kd mo gl sg w P on s i).2.1 + 16 * (gZ kd mo gl sg w P on s i).1)) aB (upS (gSi kd mo gl sg w P on s made si i) ((gZ kd mo gl sg w P on s i).2.1 + 16 * (gZ kd mo gl sg w P on s i).1) (nI (made + i))) q1 q2 q3 q7 q8 q9 q10 q11 q12 q13
          rw [hpk]
          exact j1
        · dsimp only
          rw [eon]
          exact j2
    · rw [← c1]
      refine hQ i _ _ _ _ _ _ _ _ _ _ _ _ _ _ _ _ _ _ _ (by omega) i2 (Or.inr (by omega)) i3 (okFI_fresh k1 k2 k3)
theorem sp_rgrow {kd mo gl sg on : Nat → Nat} {w P made kept N : Nat} {s : Int64} {aW aP aL : Nat → Nat} {aB si : (Nat → Int32)} {sheet since W Pc L S : (Nat → Int32)} {steps undoable : Int32} (hT : okT kd mo gl sg) (hP : P ≤ 40) (hw1 : 1 ≤ w) (hw3 : w ≤ 3) (hS : okS kd P on) (hk : kept ≤ 200) (hkm : kept ≤ made) (hm : made < 900000)
    (h : okM kd on made kept aW aP aL aB si sheet since W Pc L S steps undoable) (hN : N ≤ 250)
    (Q : Int32 → Int64 → (Nat → Int32) → (Nat → Int32) → (Nat → Int32) → (Nat → Int32) → (Nat → Int32) → (Nat → Int32) → Int32 → Int32 → Prop)
    (hQ : ∀ m sheet' since' W' Pc' L' S' steps' undoable', m ≤ N → (∀ i, i < m → 0 < nA kd mo gl sg w (pad (gr kd mo gl sg w P on s i).1) P) → (m = N ∨ nA kd mo gl sg w (pad (gr kd mo gl sg w P on s m).1) P = 0) →
      okM kd (gr kd mo gl sg w P on s m).1 (made + m) (min (kept + m) 200) (gU aW (fun _ => 1) made m) (gU aP (fun i => (gZ kd mo gl sg w P on s i).2.2) made m) (gU aL (fun i => (gZ kd mo gl sg w P on s i).2.1 + 16 * (gZ kd mo gl sg w P on s i).1) made m) aB (gSi kd mo gl sg w P on s made si m) sheet' since' W' Pc' L' S' steps' undoable' →
      Q (nI m) (gr kd mo gl sg w P on s m).2 sheet' since' W' Pc' L' S' steps' undoable') :
    wp_X8_grow (fun k => nI (sg k)) (fun k => nI (kd k)) (fun k => nI (mo k)) (fun k => nI (gl k)) (nI P) (nI w) s sheet since W Pc L S steps undoable (nI N) Q := by
  have h1 := h.1
  unfold wp_X8_grow
  refine ⟨fun q => absurd q (nI_pos (by omega)), fun _ => ⟨fun _ => ?_, fun q => absurd (nI_le (a := N) (b := 250) hN (by decide)) q⟩⟩
  rw [h1]
  refine sp_choices hT hP hw3 (okS_B hS) _ ?_
  rw [← h1]
  refine pk_loop (σ := (Nat → Int32) × (Nat → Int32) × (Nat → Int32) × (Nat → Int32) × (Nat → Int32) × (Nat → Int32) × Int32 × Int32) (fun f i z => wq_X8_grow_20 (fun k => nI (sg k)) (fun k => nI (kd k)) (fun k => nI (mo k)) (fun k => nI (gl k)) (nI P) (nI w) Q f (gr kd mo gl sg w P on s i).2 z.1 z.2.1 z.2.2.1 z.2.2.2.1 z.2.2.2.2.1 z.2.2.2.2.2.1 z.2.2.2.2.2.2.1 z.2.2.2.2.2.2.2 (nI N) (nI i) (nI (nA kd mo gl sg w (pad (gr kd mo gl sg w P on s i).1) P)))
    (fun m z => okS kd P (gr kd mo gl sg w P on s m).1 ∧ (∀ i, i < m → 0 < nA kd mo gl sg w (pad (gr kd mo gl sg w P on s i).1) P) ∧
      okM kd (gr kd mo gl sg w P on s m).1 (made + m) (min (kept + m) 200) (gU aW (fun _ => 1) made m) (gU aP (fun i => (gZ kd mo gl sg w P on s i).2.2) made m) (gU aL (fun i => (gZ kd mo gl sg w P on s i).2.1 + 16 * (gZ kd mo gl sg w P on s i).1) made m) aB (gSi kd mo gl sg w P on s made si m) z.1 z.2.1 z.2.2.1 z.2.2.2.1 z.2.2.2.2.1 z.2.2.2.2.2.1 z.2.2.2.2.2.2.1 z.2.2.2.2.2.2.2) N 0 (sheet, since, W, Pc, L, S, steps, undoable) (Nat.zero_le _) ⟨hS, fun i hi => absurd hi (by omega), ?_⟩ ?_ ?_
  · have e : min (kept + 0) 200 = kept := by omega
    show okM kd on made (min (kept + 0) 200) aW aP aL aB si sheet since W Pc L S steps undoable
    rw [e]
    exact h
  · rintro f ⟨z1, z2, z3, z4, z5, z6, z7, z8⟩ ⟨i1, i2, i3⟩
    show wf_X8_grow_20 _ _ _ _ _ _ _ _ _ _ _ _ _ _ _ _ _ _ _ _
    unfold wf_X8_grow_20
    exact ⟨fun _ => hQ N _ _ _ _ _ _ _ _ (Nat.le_refl _) i2 (Or.inl rfl) i3, fun q => absurd (nI_le (Nat.le_refl N) (by omega)) q⟩
  · rintro f i ⟨z1, z2, z3, z4, z5, z6, z7, z8⟩ hi ⟨i1, i2, i3⟩ ih
    show wf_X8_grow_20 _ _ _ _ _ _ _ _ _ _ _ _ _ _ _ _ _ _ _ _
    unfold wf_X8_grow_20
    dsimp only at i1 i2 i3 ⊢
    have hnA : nA kd mo gl sg w (pad (gr kd mo gl sg w P on s i).1) P ≤ 10240 := nY_le hP 16
    rw [nI_le' (by omega) (by omega), ge_0 (by omega)]
    refine ⟨fun q => absurd q (by omega), fun _ => ⟨fun hz => hQ i _ _ _ _ _ _ _ _ (by omega) i2 (Or.inr (by omega)) i3, fun hz => ?_⟩⟩
    have hpos : 0 < nA kd mo gl sg w (pad (gr kd mo gl sg w P on s i).1) P := by omega
    have c1 := i3.1
    rintro _ rfl
    refine ⟨?_, ?_⟩
    · rw [nI_l (by omega)]
      intro e
      have := (lN_eq (a := nA kd mo gl sg w (pad (gr kd mo gl sg w P on s i).1) P) (b := 0) (by omega) (by decide)).mp e
      omega
    · have edr := dr_I (nxS (gr kd mo gl sg w P on s i).2) hpos (by omega)
      unfold nxS at edr
      rw [edr, c1]
      have hlt : drN (nxS (gr kd mo gl sg w P on s i).2) (nA kd mo gl sg w (pad (gr kd mo gl sg w P on s i).1) P) < nA kd mo gl sg w (pad (gr kd mo gl sg w P on s i).1) P := Nat.mod_lt _ hpos
      refine sp_choiceAt (j := drN (nxS (gr kd mo gl sg w P on s i).2) (nA kd mo gl sg w (pad (gr kd mo gl sg w P on s i).1) P)) hT hP hw3 (okS_B i1) (by omega) _ ?_ (fun q => absurd q (by omega))
      intro y x p hCH
      have hx := hCH.2.2.2.1
      have hy := hCH.2.2.1
      have hp := hCH.2.2.2.2
      have hpk : gZ kd mo gl sg w P on s i = (y, x, p) := pick_eq hCH
      rw [dv_64 (by omega), show (p + 64 * (x + 16 * y)) / 64 = x + 16 * y by omega, show nI (p + 64 * (x + 16 * y)) - nI (x + 16 * y) * (64 : Int32) = nI p by rw [um_64, nI_sub' (by omega)]; congr 1; omega, rm_16 (by omega), dv_16 (by omega), show (x + 16 * y) % 16 = x by omega, show (x + 16 * y) / 16 = y by omega, ← c1]
      have hf := fre_N hx hy (mayC_fre hCH.2.1).1
      refine okM_puts (w := 1) hT.1 hP i1 (by omega) (by omega) (by omega) i3 (by decide) hp hx hf _ ?_
      intro q1 q2 q3 q4 q5 q6 q7 q8 kept' ek j1
      rintro _ rfl
      have eon : (gr kd mo gl sg w P on s (i + 1)).1 = layN kd p (x + 16 * y) (gr kd mo gl sg w P on s i).1 := by
        show layN kd (gZ kd mo gl sg w P on s i).2.2 ((gZ kd mo gl sg w P on s i).2.1 + 16 * (gZ kd mo gl sg w P on s i).1) (gr kd mo gl sg w P on s i).1 = _
        rw [hpk]
      have ekp : kept' = min (kept + (i + 1)) 200 := by omega
      have hS' := okS_lay i1 hp hf
      have c2 := j1.1
      rw [c2]
      refine sp_choices hT hP hw3 (okS_B hS') _ ?_
      rw [← c2, ad_1, ← eon]
      refine ih (q1, q2, q3, q4, q5, q6, q7, q8) ⟨?_, ?_, ?_⟩
      · rw [eon]
        exact hS'
      · intro i' hi'
        rcases Nat.lt_or_ge i' i with a | a
        · exact i2 i' a
        · obtain rfl : i' = i := by omega
          exact hpos
      · dsimp only
        rw [eon, ← ekp]
        show okM kd _ (made + (i + 1)) kept' (upN (gU aW (fun _ => 1) made i) (made + i) 1) (upN (gU aP (fun i => (gZ kd mo gl sg w P on s i).2.2) made i) (made + i) (gZ kd mo gl sg w P on s i).2.2) (upN (gU aL (fun i => (gZ kd mo gl sg w P on s i).2.1 + 16 * (gZ kd mo gl sg w P on s i).1) made i) (made + i) ((gZ kd mo gl sg w P on s i).2.1 + 16 * (gZ kd mo gl sg w P on s i).1)) aB (upS (gSi kd mo gl sg w P on s made si i) ((gZ kd mo gl sg w P on s i).2.1 + 16 * (gZ kd mo gl sg w P on s i).1) (nI (made + i))) q1 q2 q3 q4 q5 q6 q7 q8
        rw [hpk]
        exact j1
