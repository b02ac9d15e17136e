/-! the class's search, and go -/
def SQ (kd mo gl sg B : Nat → Nat) (g s : Nat) (seen queue : (Nat → Int32)) (x3 : Int32) (i d : Nat) (n : Nat) (q : Nat → Nat) : Prop :=
  x3 = nI n ∧ BFS kd mo gl sg B g s n i d q ∧ (∀ j, j < n → queue j = nI (q j)) ∧ (∀ c, c < 324 → (seen c = 0 ↔ (c ≠ g ∧ ∀ j, j < n → q j ≠ c)))
theorem pad_off0 {on : Nat → Nat} : ∀ c, onC c = false → pad on c = 0 := fun c h => pad_off h
theorem sp_countLedTo {kd mo gl sg on : Nat → Nat} {P g s : Nat} {seen queue : (Nat → Int32)} (hT : okT kd mo gl sg) (hP : P ≤ 40) (hS : okS kd P on) (hg : g < 324) (hs : occ (pad on) g s) (h0 : ∀ c, c < 324 → seen c = 0) (Q : Int32 → (Nat → Int32) → (Nat → Int32) → Prop)
    (hQ : ∀ seen' queue' n i q, BFS kd mo gl sg (pad on) g s n i 0 q → n ≤ i → Q (nI n) seen' queue') : wp_X4_countLedTo (fun k => nI (sg k)) (fun k => nI (fcF kd mo gl P k)) (fun c => nI (cc (pad on c))) seen queue (nI s) (nI g) Q := by
  have hsb := onC_b hs.1
  unfold wp_X4_countLedTo
  rw [vp_in' (by omega), nI_clamp' (by omega), vp_in' (by omega), nI_clamp' (by omega)]
  refine ⟨hg, ?_⟩
  rintro _ rfl
  refine ⟨by omega, ?_⟩
  rintro _ rfl _ rfl
  refine pk_loop (σ := (Nat → Int32) × (Nat → Int32) × Int32) (fun f i z => wq_X4_countLedTo_26 (fun k => nI (sg k)) (fun k => nI (fcF kd mo gl P k)) (fun c => nI (cc (pad on c))) Q f z.1 z.2.1 z.2.2 (nI i)) (fun i z => ∃ n q, SQ kd mo gl sg (pad on) g s z.1 z.2.1 z.2.2 i 0 n q) 256 0 (upd (upd seen g 1) s 1, upd queue (0 : Int32).toNatClampNeg (nI s), 1) (by decide) ?_ ?_ ?_
  · refine ⟨1, fun _ => s, rfl, ⟨Nat.le_refl _, rfl, fun _ _ => hs, fun a b h1 h2 => absurd h2 (by omega), fun j d' _ hj _ _ _ => absurd hj (by omega), fun Y _ hY _ _ => hY⟩, fun j hj => ?_, fun c hc => ?_⟩
    · obtain rfl : j = 0 := by omega
      exact (pk_us : upd queue (0 : Int32).toNatClampNeg (nI s) (0 : Int32).toNatClampNeg = nI s)
    · dsimp only
      rw [upd_at, upd_at]
      by_cases e1 : c = s
      · rw [if_pos e1]
        exact ⟨fun z => absurd z (by decide), fun z => absurd e1.symm (z.2 0 (by omega))⟩
      · rw [if_neg e1]
        by_cases e2 : c = g
        · rw [if_pos e2]
          exact ⟨fun z => absurd z (by decide), fun z => absurd e2 z.1⟩
        · rw [if_neg e2, h0 c hc]
          exact ⟨fun _ => ⟨e2, fun _ _ z => e1 z.symm⟩, fun _ => rfl⟩
  · rintro f ⟨z1, z2, z3⟩ ⟨n, q, rfl, b1, b2, b3⟩
    show wf_X4_countLedTo_26 _ _ _ _ _ _ _ _ _
    unfold wf_X4_countLedTo_26
    have hn := BFS_n b1
    exact ⟨fun _ => hQ _ _ n 256 q b1 hn, fun _ => ⟨fun _ => hQ _ _ n 256 q b1 hn, fun a => absurd (by decide) a⟩⟩
  · rintro f i ⟨z1, z2, z3⟩ hi ⟨n, q, rfl, b1, b2, b3⟩ ih
    show wf_X4_countLedTo_26 _ _ _ _ _ _ _ _ _
    unfold wf_X4_countLedTo_26
    dsimp only at b1 b2 b3 ⊢
    have hn := BFS_n b1
    rw [nI_le' (by omega) (by omega)]
    refine ⟨fun a => hQ _ _ n i q b1 a, fun a => ⟨fun a2 => ?_, fun _ => ?_⟩⟩
    · rw [le_256 (by omega)] at a2
      omega
    · have hin : i < n := by omega
      rw [vp_in' (by omega), nI_clamp' (by omega), b2 i hin]
      refine ⟨hi, ?_⟩
      rintro _ rfl
      have hoc := b1.2.2.1 i hin
      have hcb := onC_b hoc.1
      generalize hc0 : q i = c0 at *
      refine pk_loop (σ := (Nat → Int32) × (Nat → Int32) × Int32) (fun f' d z => wq_X4_countLedTo_52 (fun k => nI (sg k)) (fun k => nI (fcF kd mo gl P k)) (fun c => nI (cc (pad on c))) (wq_X4_countLedTo_26 (fun k => nI (sg k)) (fun k => nI (fcF kd mo gl P k)) (fun c => nI (cc (pad on c))) Q f) Q f' z.1 z.2.1 z.2.2 (nI i) (nI c0) (nI d)) (fun d z => ∃ n q, SQ kd mo gl sg (pad on) g s z.1 z.2.1 z.2.2 i d n q ∧ i < n ∧ q i = c0) 4 0 (z1, z2, nI n) (by decide) ⟨n, q, ⟨rfl, b1, b2, b3⟩, hin, hc0⟩ ?_ ?_
      · rintro f' ⟨y1, y2, y3⟩ ⟨n', q', ⟨rfl, d1, d2, d3⟩, d4, d5⟩
        show wf_X4_countLedTo_52 _ _ _ _ _ _ _ _ _ _ _ _
        unfold wf_X4_countLedTo_52
        refine ⟨fun _ => ?_, fun a => absurd (by decide) a⟩
        rintro _ rfl
        rw [ad_1]
        exact ih (y1, y2, nI n') ⟨n', q', rfl, BFS_next d1, d2, d3⟩
      · rintro f' d ⟨y1, y2, y3⟩ hd ⟨n', q', ⟨rfl, d1, d2, d3⟩, d4, d5⟩ ih2
        show wf_X4_countLedTo_52 _ _ _ _ _ _ _ _ _ _ _ _
        unfold wf_X4_countLedTo_52
        dsimp only at d1 d2 d3 ⊢
        have hst := stp_lt (d := d) (show c0 ≤ 305 by omega)
        have hn' := BFS_n d1
        rw [le_4 (by omega)]
        refine ⟨fun a => absurd a (by omega), fun _ => ?_⟩
        rw [vp_in' (by omega), nI_clamp' (by omega)]
        refine ⟨hd, ?_⟩
        rintro _ rfl
        rw [stp_I (by omega) hd]
        rintro _ rfl
        rw [vp_in' (by omega), nI_clamp' (by omega)]
        refine ⟨hst, ?_⟩
        rintro _ rfl
        have hsn := d3 _ hst
        refine ⟨fun a => ?_, fun a => ?_⟩
        · rintro _ rfl
          rw [ad_1]
          refine ih2 (y1, y2, nI n') ⟨n', q', ⟨rfl, BFS_skip d1 ?_, d2, d3⟩, d4, d5⟩
          intro _ hgg
          rw [d5] at hgg ⊢
          refine Classical.byContradiction fun hx => a (hsn.mpr ⟨hgg, fun j hj z => hx ⟨j, hj, z⟩⟩)
        · obtain ⟨a1, a2⟩ := hsn.mp a
          refine sp_leadsOn hT hP hS hoc.1 hoc.2.1 hd _ ?_
          rw [bI_0]
          refine ⟨fun e => ?_, fun e => ?_⟩
          · rintro _ rfl
            rw [ad_1]
            refine ih2 (y1, y2, nI n') ⟨n', q', ⟨rfl, BFS_skip d1 ?_, d2, d3⟩, d4, d5⟩
            intro hl
            rw [d5, e] at hl
            exact absurd hl (by decide)
          · rw [Bool.not_eq_false] at e
            obtain ⟨p1, p2⟩ := BFS_push pad_off0 d1 d4 hd (by rw [d5]; exact e) (by rw [d5]; exact a1) (by rw [d5]; exact a2)
            rw [d5] at p1
            refine ⟨hst, ?_⟩
            rintro _ rfl
            rw [vp_in' (by omega), nI_clamp' (by omega)]
            refine ⟨p2, ?_⟩
            rintro _ rfl _ rfl _ rfl
            rw [ad_1, ad_1]
            refine ih2 (upd y1 (stp c0 d) 1, upd y2 n' (nI (stp c0 d)), nI (n' + 1)) ⟨n' + 1, upN q' n' (stp c0 d), ⟨rfl, p1, fun j hj => ?_, fun c hc => ?_⟩, by omega, ?_⟩
            · dsimp only
              rw [upd_at]
              unfold upN
              split
              · rfl
              · exact d2 j (by omega)
            · dsimp only
              rw [upd_at]
              by_cases e1 : c = stp c0 d
              · rw [if_pos e1]
                exact ⟨fun z => absurd z (by decide), fun z => absurd e1.symm (by have := z.2 n' (by omega); rw [upN_s] at this; exact this)⟩
              · rw [if_neg e1, d3 c hc]
                constructor
                · rintro ⟨x1, x2⟩
                  refine ⟨x1, fun j hj => ?_⟩
                  unfold upN
                  split
                  · exact fun z => e1 z.symm
                  · exact x2 j (by omega)
                · rintro ⟨x1, x2⟩
                  refine ⟨x1, fun j hj => ?_⟩
                  have := x2 j (by omega)
                  rw [upN_n (by omega)] at this
                  exact this
            · rw [upN_n (by omega)]
              exact d5
theorem HT_none {kd mo gl sg B : Nat → Nat} {g : Nat} (h : ∀ c, ¬ occ B g c) : HT kd mo gl sg B g := fun _ _ ⟨s, hs, _⟩ => absurd hs (h s)
theorem sp_hangsTogether {kd mo gl sg on : Nat → Nat} {P g : Nat} {seen queue : (Nat → Int32)} (hT : okT kd mo gl sg) (hP : P ≤ 40) (hS : okS kd P on) (hg : g < 324) (Q : Int32 → (Nat → Int32) → (Nat → Int32) → Prop)
    (h1 : HT kd mo gl sg (pad on) g → ∀ seen' queue', Q 1 seen' queue') (h0 : ¬ HT kd mo gl sg (pad on) g → ∀ seen' queue', Q 0 seen' queue') : wp_X4_hangsTogetherWithout (fun k => nI (sg k)) (fun k => nI (fcF kd mo gl P k)) (fun c => nI (cc (pad on c))) seen queue (nI g) Q := by
  unfold wp_X4_hangsTogetherWithout
  refine fill_I (by decide) _ ?_
  have seen0 : ∀ c, c < 324 → (fun k => if k < 324 then (0 : Int32) else seen k) c = 0 := fun c hc => if_pos hc
  generalize (fun k => if k < 324 then (0 : Int32) else seen k) = sn at seen0 ⊢
  refine pk_loop (σ := Int32) (fun f i z => wq_X4_hangsTogetherWithout_15 (fun k => nI (sg k)) (fun k => nI (fcF kd mo gl P k)) (fun c => nI (cc (pad on c))) Q f sn queue (nI g) (nI (fb_ct (fun c => decide (pad on c ≠ 0 ∧ c ≠ g)) i)) z (nI i)) (fun i z => (z = -1 ∧ ∀ c, c < i → ¬ (pad on c ≠ 0 ∧ c ≠ g)) ∨ ∃ s, z = nI s ∧ s < i ∧ pad on s ≠ 0 ∧ s ≠ g) 324 0 (-1) (by decide) (Or.inl ⟨rfl, fun c hc => absurd hc (by omega)⟩) ?_ ?_
  · rintro f z hz
    show wf_X4_hangsTogetherWithout_15 _ _ _ _ _ _ _ _ _ _ _
    unfold wf_X4_hangsTogetherWithout_15
    refine ⟨fun _ => ?_, fun a => absurd (by decide) a⟩
    rcases hz with ⟨rfl, hz⟩ | ⟨s, rfl, hs1, hs2, hs3⟩
    · refine ⟨fun _ => h1 (HT_none (fun c hc => ?_)) _ _, fun a => absurd rfl a⟩
      have := onC_b hc.1
      exact hz c (by omega) ⟨hc.2.1, hc.2.2⟩
    · refine ⟨fun a => absurd a (nI_nm1 (by omega)), fun _ => ?_⟩
      have hon : onC s = true := by
        cases z : onC s
        · exact absurd (pad_off z) hs2
        · rfl
      refine sp_countLedTo hT hP hS hg ⟨hon, hs2, hs3⟩ seen0 _ ?_
      intro seen' queue' n i q hb hn
      have hend := BFS_end hS hb hn
      have hn2 := BFS_n hb
      have hle := fb_ct_le (fun c => decide (pad on c ≠ 0 ∧ c ≠ g)) 324
      have hq324 : ∀ j, j < n → q j < 324 := fun j hj => by have := onC_b (hb.2.2.1 j hj).1; omega
      have hct := inQ_ct (N := 324) n hq324 hb.2.2.2.1
      rw [nI_eq' (by omega) (by omega)]
      have sub : fb_ct (inQ q n) 324 ≤ fb_ct (fun c => decide (pad on c ≠ 0 ∧ c ≠ g)) 324 := fb_ct_sub fun k _ hk => by
        obtain ⟨j, hj, rfl⟩ := (inQ_iff n).mp hk
        have := hb.2.2.1 j hj
        simp only [decide_eq_true_eq]
        exact this.2
      refine ⟨fun a => h0 (fun hHT => a ?_) _ _, fun a => h1 (hend.mpr (fun c hc => ?_)) _ _⟩
      · have hall := hend.mp hHT
        have sub2 : fb_ct (fun c => decide (pad on c ≠ 0 ∧ c ≠ g)) 324 ≤ fb_ct (inQ q n) 324 := fb_ct_sub fun k _ hk => by
          simp only [decide_eq_true_eq] at hk
          have hon : onC k = true := by
            cases z : onC k
            · exact absurd (pad_off z) hk.1
            · rfl
          exact (inQ_iff n).mpr (hall k ⟨hon, hk.1, hk.2⟩)
        omega
      · refine Classical.byContradiction fun hx => ?_
        have hc324 : c < 324 := by have := onC_b hc.1; omega
        have hf : inQ q n c = false := by
          cases z : inQ q n c
          · rfl
          · exact absurd ((inQ_iff n).mp z) hx
        have hup := fb_ct_upd (inQ q n) true (i := c) (n := 324) hc324
        rw [hf, if_neg (by decide), if_pos rfl] at hup
        have sub3 : fb_ct (fun k => if k = c then true else inQ q n k) 324 ≤ fb_ct (fun c => decide (pad on c ≠ 0 ∧ c ≠ g)) 324 := fb_ct_sub fun k _ hk => by
          simp only [decide_eq_true_eq]
          split at hk
          · rename_i e
            rw [e]
            exact hc.2
          · obtain ⟨j, hj, rfl⟩ := (inQ_iff n).mp hk
            exact (hb.2.2.1 j hj).2
        omega
  · rintro f i z hi hz ih
    show wf_X4_hangsTogetherWithout_15 _ _ _ _ _ _ _ _ _ _ _
    unfold wf_X4_hangsTogetherWithout_15
    have hcb := cc_le hP (okS_pad hS i).1
    rw [le_324 (by omega)]
    refine ⟨fun a => absurd a (by omega), fun _ => ?_⟩
    rw [vp_in' (by omega), nI_clamp' (by omega)]
    refine ⟨hi, ?_⟩
    rintro _ rfl
    rw [eq_0 (by omega), cc_0, nI_eq' (by omega) (by omega)]
    have skip : ¬ (pad on i ≠ 0 ∧ i ≠ g) → wq_X4_hangsTogetherWithout_15 (fun k => nI (sg k)) (fun k => nI (fcF kd mo gl P k)) (fun c => nI (cc (pad on c))) Q f sn queue (nI g) (nI (fb_ct (fun c => decide (pad on c ≠ 0 ∧ c ≠ g)) i)) z (nI (i + 1)) := by
      intro hno
      have := ih z (by
        rcases hz with ⟨z1, z2⟩ | ⟨s, z1, z2, z3⟩
        · refine Or.inl ⟨z1, fun c hc => ?_⟩
          rcases Nat.lt_or_ge c i with a | a
          · exact z2 c a
          · obtain rfl : c = i := by omega
            exact hno
        · exact Or.inr ⟨s, z1, by omega, z3⟩)
      rw [fb_ct_succ, if_neg (by simp only [decide_eq_true_eq]; exact hno), Nat.add_zero] at this
      exact this
    refine ⟨fun a => ?_, fun a => ⟨fun b => ?_, fun b => ?_⟩⟩
    · rintro _ rfl
      rw [ad_1]
      exact skip (fun x => x.1 a)
    · rintro _ rfl
      rw [ad_1]
      exact skip (fun x => x.2 b)
    · rintro _ rfl _ rfl
      rw [ad_1, ad_1]
      have := ih (nI i) (Or.inr ⟨i, rfl, by omega, a, b⟩)
      rw [fb_ct_succ, if_pos (by simp only [decide_eq_true_eq]; exact ⟨a, b⟩)] at this
      exact this
/-- may what is at k go -/
def goOK (kd mo gl sg on : Nat → Nat) (w k : Nat) : Prop := on k ≠ 0 ∧ kd ((on k - 1) / 2) = 3 ∧ hOf kd mo gl sg (pad on) ((on k - 1) / 2) (celK k) = w ∧ HT kd mo gl sg (pad on) (celK k)
theorem weak_odd {kd on : Nat → Nat} {P k : Nat} (hS : okS kd P on) (h0 : on k ≠ 0) (h3 : kd ((on k - 1) / 2) = 3) : on k = 1 + 2 * ((on k - 1) / 2) := by
  have := (hS.1 k).2 h0
  by_cases ho : on k % 2 = 1
  · omega
  · have := this (by omega)
    omega
theorem sp_cgo {kd mo gl sg on : Nat → Nat} {w P made kept x y : Nat} {aW aP aL : Nat → Nat} {aB si : (Nat → Int32)} {cells A Pc L Bf since stale stc line seen queue : (Nat → Int32)} {pieces grown tmade tkept n all : Int32} {fits : (Nat → Int64)} (hT : okT kd mo gl sg) (hP : P ≤ 40) (hw3 : w ≤ 3) (hS : okS kd P on) (hk : kept ≤ 200) (hkm : kept ≤ made) (hm : made < 1000000)
    (h : okC kd on made kept aW aP aL aB si cells pieces grown tmade tkept A Pc L Bf since) (hFI : okFI kd mo gl sg w P (pad on) stale stc n fits line all) (hx : x < 16) (hy : y < 16)
    (Q : Int32 → (Nat → Int32) → Int32 → Int32 → (Nat → Int32) → (Nat → Int32) → Int32 → (Nat → Int32) → (Nat → Int32) → Int32 → Int32 → (Nat → Int32) → (Nat → Int32) → (Nat → Int32) → (Nat → Int32) → (Nat → Int32) → Prop)
    (hQ0 : ¬ goOK kd mo gl sg on w (x + 16 * y) → ∀ seen' queue', Q 0 cells pieces grown stale stc n seen' queue' tmade tkept A Pc L Bf since)
    (hQ1 : goOK kd mo gl sg on w (x + 16 * y) → ∀ cells' pieces' grown' stale' stc' n' seen' queue' tmade' tkept' A' Pc' L' Bf' since' kept', kept' = min (kept + 1) 200 → okC kd (upN on (x + 16 * y) 0) (made + 1) kept' (upN aW made 2) (upN aP made ((on (x + 16 * y) - 1) / 2)) (upN aL made (x + 16 * y)) (upS aB made (si (x + 16 * y))) si cells' pieces' grown' tmade' tkept' A' Pc' L' Bf' since' → okFI kd mo gl sg w P (pad (upN on (x + 16 * y) 0)) stale' stc' n' fits line all → Q 1 cells' pieces' grown' stale' stc' n' seen' queue' tmade' tkept' A' Pc' L' Bf' since') :
    wp_X7_go (nI w) (nI P) (fun k => nI (sg k)) (fun k => nI (kd k)) (fun k => nI (fcF kd mo gl P k)) cells pieces grown stale stc n seen queue tmade tkept A Pc L Bf since (nI x) (nI y) Q := by
  have hc := onC_b (onC_cel hx hy)
  obtain ⟨rfl, rfl, rfl, rfl, rfl, h6, h7⟩ := h
  have hk256 : x + 16 * y < 256 := by omega
  have hcel : celN x y = celK (x + 16 * y) := (celK_xy hx).symm
  have hq := (hS.1 (x + 16 * y)).1
  unfold wp_X7_go
  apply sp_placeOf_t hx hy
  rw [hcel]
  rw [hcel] at hc
  generalize hkk : x + 16 * y = k at *
  refine ⟨fun q => absurd q (nI_nm1 (by omega)), fun _ => ?_⟩
  apply sp_cIsFree hP (okS_pad hS) (by omega)
  rw [pad_K hk256, bI_0]
  refine ⟨fun q => hQ0 (fun z => z.1 (by rw [Bool.not_eq_false] at q; simpa using q)) _ _, fun q => ?_⟩
  have q0 : on k ≠ 0 := by simpa using q
  have hpP : (on k - 1) / 2 < P := by omega
  unfold wp_X4_mayLeave
  rw [vp_in' (by omega), nI_clamp' (by omega)]
  refine ⟨by omega, ?_⟩
  rintro _ rfl
  dsimp only
  rw [pad_K hk256]
  refine sp_pieceIn (by omega) _ (fun a => absurd a q0) (fun _ => ?_)
  refine isOfKind_t (v := 3) hT.1 hP hpP (by decide) _ ?_
  rw [bI_0]
  refine ⟨fun a => ⟨fun e => absurd rfl e, fun _ => hQ0 (fun z => by rw [decide_eq_true z.2.1] at a; exact absurd a (by decide)) _ _⟩, fun a => ?_⟩
  have k3 : kd ((on k - 1) / 2) = 3 := by simpa using a
  refine sp_cHoldOf hT hP hpP (okS_pad hS) (by omega) (by omega) _ ?_
  have hle := hUp_le hT (pad on) ((on k - 1) / 2) (celK k) 4
  have hle2 : hOf kd mo gl sg (pad on) ((on k - 1) / 2) (celK k) ≤ 24 := hle
  rw [nI_eq' (by omega) (by omega)]
  refine ⟨fun b => ⟨fun e => absurd rfl e, fun _ => hQ0 (fun z => b z.2.2.1) _ _⟩, fun b => ?_⟩
  refine sp_hangsTogether hT hP hS (by omega) _ (fun hHT seen' queue' => ?_) (fun hHT seen' queue' => ?_)
  · refine ⟨fun e => absurd e (by decide), fun _ => ⟨fun _ => ?_, fun e => absurd e (by decide)⟩⟩
    refine ⟨by omega, ?_⟩
    rintro _ rfl
    refine sp_pieceIn (by omega) _ (fun a => absurd a q0) (fun _ => ?_)
    have hodd := weak_odd hS q0 k3
    refine sp_lift hT.1 hP hS hk256 hodd hFI _ ?_
    intro stale' stc' n' g
    have eA : awyN kd ((on k - 1) / 2) k on = upN on k 0 := by
      unfold awyN
      rw [if_neg (by omega)]
    rw [eA] at g ⊢
    refine okT1_note hk hkm hm h6 2 ((on k - 1) / 2) k (si k) hk256 (fun _ => h7 k hk256 (by omega)) _ ?_
    intro A' Pc' L' Bf' kept' ek g2
    refine hQ1 ⟨q0, k3, b, hHT⟩ _ _ _ _ _ _ _ _ _ _ _ _ _ _ _ kept' ek ⟨rfl, rfl, rfl, rfl, rfl, g2, ?_⟩ g
    intro j hj ho
    rw [upd_at]
    by_cases e : j = k
    · rw [e, upN_s] at ho
      omega
    · rw [upN_n e] at ho
      rw [if_neg (fun z => e (celK_inj z))]
      exact h7 j hj ho
  · exact ⟨fun _ => ⟨fun e => absurd rfl e, fun _ => hQ0 (fun z => hHT z.2.2.2) _ _⟩, fun e => absurd rfl e⟩
theorem sp_cgo_f {kd mo gl sg : Nat → Nat} {w P : Nat} {cells A Pc L Bf since stale stc seen queue : (Nat → Int32)} {pieces grown tmade tkept n x y : Int32} (h0 : x < 0 ∨ (16 : Int32) ≤ x ∨ y < 0 ∨ (16 : Int32) ≤ y)
    (Q : Int32 → (Nat → Int32) → Int32 → Int32 → (Nat → Int32) → (Nat → Int32) → Int32 → (Nat → Int32) → (Nat → Int32) → Int32 → Int32 → (Nat → Int32) → (Nat → Int32) → (Nat → Int32) → (Nat → Int32) → (Nat → Int32) → Prop)
    (hQ0 : Q 0 cells pieces grown stale stc n seen queue tmade tkept A Pc L Bf since) :
    wp_X7_go (nI w) (nI P) (fun k => nI (sg k)) (fun k => nI (kd k)) (fun k => nI (fcF kd mo gl P k)) cells pieces grown stale stc n seen queue tmade tkept A Pc L Bf since x y Q := by
  unfold wp_X7_go
  apply sp_placeOf_f h0
  exact ⟨fun _ => hQ0, fun q => absurd rfl q⟩
