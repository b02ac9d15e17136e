/-! the reference's search, and go -/
theorem sp_nb' {x y d : Nat} (hx : x < 16) (hy : y < 16) (hd : d < 4) (R : Int32 → Int32 → Prop)
    (ht : nbO x y d = true → R (nI (nbX x d)) (nI (nbY y d))) (hf : nbO x y d = false → ∀ u v : Int32, (u < 0 ∨ (16 : Int32) ≤ u ∨ v < 0 ∨ (16 : Int32) ≤ v) → R u v) :
    wp_X8_xAt (nI d) (fun r4 => ∀ v8 : Int32, v8 = (nI x + r4) → (wp_X8_yAt (nI d) (fun r14 => ∀ v18 : Int32, v18 = (nI y + r14) → R v8 v18))) := by
  apply sp_xAt d hd
  intro v8 e8
  apply sp_yAt d hd
  intro v18 e18
  obtain rfl | rfl | rfl | rfl : d = 0 ∨ d = 1 ∨ d = 2 ∨ d = 3 := by omega
  · have e8 : v8 = nI x := e8.trans (nI_p0 x)
    have e18 : v18 = nI y + (-1) := e18
    rcases Nat.eq_zero_or_pos y with h | h
    · subst h
      exact hf rfl _ _ (Or.inr (Or.inr (Or.inl (by rw [e18]; decide))))
    · rw [nI_m1 h] at e18
      subst e8 e18
      exact ht (by simp [nbO, h])
  · have e8 : v8 = nI (x + 1) := e8.trans (nI_p1 x)
    have e18 : v18 = nI y := e18.trans (nI_p0 y)
    subst e8 e18
    rcases Nat.lt_or_ge x 15 with h | h
    · exact ht (by simp [nbO, h])
    · exact hf (by simp [nbO]; omega) _ _ (Or.inr (Or.inl (nI_le (a := 16) (by omega) (by omega))))
  · have e8 : v8 = nI x := e8.trans (nI_p0 x)
    have e18 : v18 = nI (y + 1) := e18.trans (nI_p1 y)
    subst e8 e18
    rcases Nat.lt_or_ge y 15 with h | h
    · exact ht (by simp [nbO, h])
    · exact hf (by simp [nbO]; omega) _ _ (Or.inr (Or.inr (Or.inr (nI_le (a := 16) (by omega) (by omega)))))
  · have e8 : v8 = nI x + (-1) := e8
    have e18 : v18 = nI y := e18.trans (nI_p0 y)
    rcases Nat.eq_zero_or_pos x with h | h
    · subst h
      exact hf rfl _ _ (Or.inl (by rw [e8]; decide))
    · rw [nI_m1 h] at e8
      subst e8 e18
      exact ht (by simp [nbO, h])
def PM (kd mo gl sg on : Nat → Nat) (gp s : Nat) (pile met : (Nat → Int32)) (x3 : Int32) (i d : Nat) (n : Nat) (q : Nat → Nat) : Prop :=
  x3 = nI n ∧ BFS kd mo gl sg (pad on) (celK gp) s n i d q ∧ (∀ j, j < n → pile j = nI (onI (q j))) ∧ (∀ p, p < 256 → (met p = 0 ↔ ∀ j, j < n → q j ≠ celK p))
theorem sp_hangs_end {kd mo gl sg on : Nat → Nat} {P gp : Nat} {pile met : (Nat → Int32)} (hP : P ≤ 40) (hS : okS kd P on) (hg : gp < 256) (A : Prop) (hA : A ↔ ∀ p, p < 256 → on p ≠ 0 → p ≠ gp → ¬ met p = 0) (Q : Int32 → (Nat → Int32) → (Nat → Int32) → Prop)
    (h1 : A → Q 1 pile met) (h0 : ¬ A → Q 0 pile met) : ∃ f, wq_X8_hangs_311 (fun k => nI (sg k)) (fun k => nI (kd k)) (fun k => nI (mo k)) (fun k => nI (gl k)) (fun k => nI (on k)) Q f pile met (nI gp) 1 0 := by
  refine pk_loop (σ := Bool) (fun f i b => wq_X8_hangs_311 (fun k => nI (sg k)) (fun k => nI (kd k)) (fun k => nI (mo k)) (fun k => nI (gl k)) (fun k => nI (on k)) Q f pile met (nI gp) (bI b) (nI i)) (fun i b => (b = true → ∀ p, p < i → on p ≠ 0 → p ≠ gp → ¬ met p = 0) ∧ (b = false → ¬ A)) 256 0 true (by decide) ⟨fun _ p hp => absurd hp (by omega), fun e => absurd e (by decide)⟩ ?_ ?_
  · rintro f b ⟨g1, g2⟩
    show wf_X8_hangs_311 _ _ _ _ _ _ _ _ _ _ _ _
    unfold wf_X8_hangs_311
    refine ⟨fun _ => ⟨bI_01 b, ?_⟩, fun a => absurd (by decide) a⟩
    cases b
    · exact h0 (g2 rfl)
    · exact h1 (hA.mpr (g1 rfl))
  · rintro f i b hi ⟨g1, g2⟩ ih
    show wf_X8_hangs_311 _ _ _ _ _ _ _ _ _ _ _ _
    unfold wf_X8_hangs_311
    rw [le_256 (by omega)]
    refine ⟨fun a => absurd a (by omega), fun _ => ?_⟩
    cases b
    · exact ⟨fun _ => ⟨Or.inl rfl, h0 (g2 rfl)⟩, fun a => absurd rfl a⟩
    · refine ⟨fun a => absurd a (by decide), fun _ => ?_⟩
      have hoi := (hS.1 i).1
      have go : (on i ≠ 0 → i ≠ gp → ¬ met i = 0) → wq_X8_hangs_311 (fun k => nI (sg k)) (fun k => nI (kd k)) (fun k => nI (mo k)) (fun k => nI (gl k)) (fun k => nI (on k)) Q f pile met (nI gp) 1 (nI (i + 1)) := by
        intro hgd
        refine ih true ⟨fun _ p hp a b => ?_, fun e => absurd e (by decide)⟩
        rcases Nat.lt_or_ge p i with z | z
        · exact g1 rfl p z a b
        · obtain rfl : p = i := by omega
          exact hgd a b
      rw [vp_in' (by omega), nI_clamp' (by omega)]
      refine ⟨hi, ?_⟩
      rintro _ rfl
      rw [eq_0 (by omega), nI_eq' (by omega) (by omega)]
      refine ⟨fun a => ?_, fun a => ⟨fun b => ?_, fun b => ⟨hi, ?_⟩⟩⟩
      · rintro _ rfl
        rw [ad_1]
        exact go (fun z => absurd a z)
      · rintro _ rfl
        rw [ad_1]
        exact go (fun _ z => absurd b z)
      · rintro _ rfl
        refine ⟨fun c => ?_, fun c => ?_⟩
        · rintro _ rfl
          rw [ad_1]
          exact ih false ⟨fun e => absurd e (by decide), fun _ hh => hA.mp hh i hi a b c⟩
        · rintro _ rfl
          rw [ad_1]
          exact go (fun _ _ => c)
theorem sp_hangs {kd mo gl sg on : Nat → Nat} {P gp : Nat} {pile met : (Nat → Int32)} (hT : okT kd mo gl sg) (hP : P ≤ 40) (hS : okS kd P on) (hg : gp < 256) (Q : Int32 → (Nat → Int32) → (Nat → Int32) → Prop)
    (h1 : HT kd mo gl sg (pad on) (celK gp) → ∀ pile' met', Q 1 pile' met') (h0 : ¬ HT kd mo gl sg (pad on) (celK gp) → ∀ pile' met', Q 0 pile' met') : wp_X8_hangs (fun k => nI (sg k)) (fun k => nI (kd k)) (fun k => nI (mo k)) (fun k => nI (gl k)) (fun k => nI (on k)) pile met (nI gp) Q := by
  have hA := okA_sheet hP (okS_B hS)
  have occP : ∀ p, p < 256 → on p ≠ 0 → p ≠ gp → occ (pad on) (celK gp) (celK p) := fun p hp a b => ⟨celK_on hp, by rw [pad_K hp]; exact a, fun e => b (celK_inj e)⟩
  have loop : ∀ s z1 z2 z3 n q, PM kd mo gl sg on gp s z1 z2 z3 0 0 n q → ∃ k, wq_X8_hangs_69 (fun k => nI (sg k)) (fun k => nI (kd k)) (fun k => nI (mo k)) (fun k => nI (gl k)) (fun k => nI (on k)) Q k z1 z2 (nI gp) z3 0 := by
    intro s z1 z2 z3 n q hpm
    refine pk_loop (σ := (Nat → Int32) × (Nat → Int32) × Int32) (fun f i z => wq_X8_hangs_69 (fun k => nI (sg k)) (fun k => nI (kd k)) (fun k => nI (mo k)) (fun k => nI (gl k)) (fun k => nI (on k)) Q f z.1 z.2.1 (nI gp) z.2.2 (nI i)) (fun i z => ∃ n q, PM kd mo gl sg on gp s z.1 z.2.1 z.2.2 i 0 n q) 256 0 (z1, z2, z3) (by decide) ⟨n, q, hpm⟩ ?_ ?_
    · rintro f ⟨y1, y2, y3⟩ ⟨n, q, rfl, b1, b2, b3⟩
      show wf_X8_hangs_69 _ _ _ _ _ _ _ _ _ _ _ _
      unfold wf_X8_hangs_69
      have hn := BFS_n b1
      refine ⟨fun _ => ?_, fun a => absurd (nI_le hn (by decide)) a⟩
      refine sp_hangs_end hP hS hg (HT kd mo gl sg (pad on) (celK gp)) ?_ Q (fun a => h1 a _ _) (fun a => h0 a _ _)
      rw [BFS_end hS b1 hn]
      constructor
      · intro hall p hp a b c
        obtain ⟨j, hj, e⟩ := hall _ (occP p hp a b)
        exact (b3 p hp).mp c j hj e
      · intro hall c hc
        obtain ⟨e1, e2⟩ := celK_onI hc.1
        refine Classical.byContradiction fun hx => hall (onI c) e2 ?_ ?_ ((b3 (onI c) e2).mpr (fun j hj e => hx ⟨j, hj, by rw [e, e1]⟩))
        · rw [← pad_onI (on := on) hc.1]
          exact hc.2.1
        · intro e
          apply hc.2.2
          rw [← e1, e]
    · rintro f i ⟨y1, y2, y3⟩ hi ⟨n, q, rfl, b1, b2, b3⟩ ih
      show wf_X8_hangs_69 _ _ _ _ _ _ _ _ _ _ _ _
      unfold wf_X8_hangs_69
      dsimp only at b1 b2 b3 ⊢
      have hn := BFS_n b1
      rw [nI_le' (by omega) (by omega)]
      refine ⟨fun a => ?_, fun a => ?_⟩
      · refine sp_hangs_end hP hS hg (HT kd mo gl sg (pad on) (celK gp)) ?_ Q (fun a => h1 a _ _) (fun a => h0 a _ _)
        rw [BFS_end hS b1 a]
        constructor
        · intro hall p hp a b c
          obtain ⟨j, hj, e⟩ := hall _ (occP p hp a b)
          exact (b3 p hp).mp c j hj e
        · intro hall c hc
          obtain ⟨e1, e2⟩ := celK_onI hc.1
          refine Classical.byContradiction fun hx => hall (onI c) e2 ?_ ?_ ((b3 (onI c) e2).mpr (fun j hj e => hx ⟨j, hj, by rw [e, e1]⟩))
          · rw [← pad_onI (on := on) hc.1]
            exact hc.2.1
          · intro e
            apply hc.2.2
            rw [← e1, e]
      · have hin : i < n := by omega
        have hoc := b1.2.2.1 i hin
        obtain ⟨e1, e2⟩ := celK_onI hoc.1
        have hon0 : on (onI (q i)) ≠ 0 := by
          rw [← pad_onI (on := on) hoc.1]
          exact hoc.2.1
        have hoi := (hS.1 (onI (q i))).1
        rw [vp_in' (by omega), nI_clamp' (by omega), b2 i hin]
        refine ⟨hi, ?_⟩
        rintro _ rfl
        rw [rm_16 (by omega)]
        rintro _ rfl
        refine ⟨hi, ?_⟩
        rintro _ rfl
        rw [dv_16 (by omega)]
        rintro _ rfl
        refine ⟨hi, ?_⟩
        rintro _ rfl
        rw [vp_in' (by omega), nI_clamp' (by omega)]
        refine ⟨e2, ?_⟩
        rintro _ rfl
        rw [sb_1 (by omega)]
        rintro _ rfl
        have hpc : pad on (q i) = on (onI (q i)) := pad_onI hoc.1
        have hqc : q i = celN (onI (q i) % 16) (onI (q i) / 16) := e1.symm
        generalize hc0 : q i = c0 at *
        generalize hk0 : onI c0 = k0 at *
        refine pk_loop (σ := (Nat → Int32) × (Nat → Int32) × Int32) (fun f' d z => wq_X8_hangs_118 (fun k => nI (sg k)) (fun k => nI (kd k)) (fun k => nI (mo k)) (fun k => nI (gl k)) (fun k => nI (on k)) (wq_X8_hangs_69 (fun k => nI (sg k)) (fun k => nI (kd k)) (fun k => nI (mo k)) (fun k => nI (gl k)) (fun k => nI (on k)) Q f) Q f' z.1 z.2.1 (nI gp) z.2.2 (nI i) (nI (k0 % 16)) (nI (k0 / 16)) (nI (on k0 - 1)) (nI d)) (fun d z => ∃ n q, PM kd mo gl sg on gp s z.1 z.2.1 z.2.2 i d n q ∧ i < n ∧ q i = c0) 4 0 (y1, y2, nI n) (by decide) ⟨n, q, ⟨rfl, b1, b2, b3⟩, hin, hc0⟩ ?_ ?_
        · rintro f' ⟨x1, x2, x3⟩ ⟨n', q', ⟨rfl, d1, d2, d3⟩, d4, d5⟩
          show wf_X8_hangs_118 _ _ _ _ _ _ _ _ _ _ _ _ _ _ _ _ _
          unfold wf_X8_hangs_118
          refine ⟨fun _ => ?_, fun a => absurd (by decide) a⟩
          rintro _ rfl
          rw [ad_1]
          exact ih (x1, x2, nI n') ⟨n', q', rfl, BFS_next d1, d2, d3⟩
        · rintro f' d ⟨x1, x2, x3⟩ hd ⟨n', q', ⟨rfl, d1, d2, d3⟩, d4, d5⟩ ih2
          show wf_X8_hangs_118 _ _ _ _ _ _ _ _ _ _ _ _ _ _ _ _ _
          unfold wf_X8_hangs_118
          dsimp only at d1 d2 d3 ⊢
          have hn' := BFS_n d1
          have hx16 : k0 % 16 < 16 := by omega
          have hy16 : k0 / 16 < 16 := by omega
          rw [le_4 (by omega)]
          refine ⟨fun a => absurd a (by omega), fun _ => ?_⟩
          have skip : (lnk kd mo gl sg (pad on) c0 d = true → stp c0 d ≠ celK gp → ∃ j', j' < n' ∧ q' j' = stp c0 d) → ∀ v293 : Int32, v293 = nI d + 1 → wq_X8_hangs_118 (fun k => nI (sg k)) (fun k => nI (kd k)) (fun k => nI (mo k)) (fun k => nI (gl k)) (fun k => nI (on k)) (wq_X8_hangs_69 (fun k => nI (sg k)) (fun k => nI (kd k)) (fun k => nI (mo k)) (fun k => nI (gl k)) (fun k => nI (on k)) Q f) Q f' x1 x2 (nI gp) (nI n') (nI i) (nI (k0 % 16)) (nI (k0 / 16)) (nI (on k0 - 1)) v293 := by
            rintro hsk _ rfl
            rw [ad_1]
            refine ih2 (x1, x2, nI n') ⟨n', q', ⟨rfl, BFS_skip d1 ?_, d2, d3⟩, d4, d5⟩
            rw [d5]
            exact hsk
          refine sp_nb' hx16 hy16 hd _ (fun ho => ?_) (fun ho => ?_)
          · obtain ⟨hst, hX, hY⟩ := nb_stp hx16 hy16 hd ho
            rw [← hqc] at hst
            generalize nbX (k0 % 16) d = X at *
            generalize nbY (k0 / 16) d = Y at *
            rw [mu_16, nI_add]
            rintro _ rfl
            refine sp_isOn_t hX hY _ ?_
            refine ⟨fun a => absurd a (by decide), fun _ => ?_⟩
            have hto : celK (X + 16 * Y) = stp c0 d := by rw [celK_xy hX, hst]
            have hto256 : X + 16 * Y < 256 := by omega
            have hot := (hS.1 (X + 16 * Y)).1
            have hpt : pad on (stp c0 d) = on (X + 16 * Y) := by rw [← hto, pad_K hto256]
            rw [vp_in' (by omega), nI_clamp' (by omega)]
            refine ⟨hto256, ?_⟩
            rintro _ rfl
            rw [eq_0 (by omega), nI_eq' (by omega) (by omega)]
            refine ⟨fun a => skip (fun hl => ?_), fun a => ⟨fun b => skip (fun _ hne => absurd (by rw [← hto, b]) hne), fun b => ⟨hto256, ?_⟩⟩⟩
            · unfold lnk at hl
              rw [hpt, a] at hl
              simp at hl
            · rintro _ rfl
              have hmet := d3 _ hto256
              rw [hto] at hmet
              refine ⟨fun c => ?_, fun c => skip (fun _ _ => Classical.byContradiction fun hx => c (hmet.mpr (fun j hj e => hx ⟨j, hj, e⟩)))⟩
              have hnew := hmet.mp c
              have hkp := hT.1 ((on k0 - 1) / 2)
              have push : lnk kd mo gl sg (pad on) c0 d = true → wq_X8_hangs_274 (fun k => nI (sg k)) (fun k => nI (kd k)) (fun k => nI (mo k)) (fun k => nI (gl k)) (fun k => nI (on k)) (wq_X8_hangs_69 (fun k => nI (sg k)) (fun k => nI (kd k)) (fun k => nI (mo k)) (fun k => nI (gl k)) (fun k => nI (on k)) Q f) (wq_X8_hangs_118 (fun k => nI (sg k)) (fun k => nI (kd k)) (fun k => nI (mo k)) (fun k => nI (gl k)) (fun k => nI (on k)) (wq_X8_hangs_69 (fun k => nI (sg k)) (fun k => nI (kd k)) (fun k => nI (mo k)) (fun k => nI (gl k)) (fun k => nI (on k)) Q f) Q f') Q x1 x2 (nI gp) (nI n') (nI i) (nI (k0 % 16)) (nI (k0 / 16)) (nI (on k0 - 1)) (nI d) (nI (X + 16 * Y)) := by
                intro hl
                obtain ⟨p1, p2⟩ := BFS_push pad_off0 d1 d4 hd (by rw [d5]; exact hl) (by rw [d5, ← hto]; exact fun e => b (celK_inj e)) (by rw [d5]; exact hnew)
                rw [d5] at p1
                unfold wq_X8_hangs_274
                rw [vp_in' (by omega), nI_clamp' (by omega), nar_1]
                refine ⟨hto256, ?_⟩
                rintro _ rfl
                rw [vp_in' (by omega), nI_clamp' (by omega)]
                refine ⟨p2, ?_⟩
                rintro _ rfl _ rfl _ rfl
                rw [ad_1, ad_1]
                refine ih2 (upd x1 n' (nI (X + 16 * Y)), upd x2 (X + 16 * Y) 1, nI (n' + 1)) ⟨n' + 1, upN q' n' (stp c0 d), ⟨rfl, p1, fun j hj => ?_, fun p hp => ?_⟩, by omega, ?_⟩
                · dsimp only
                  rw [upd_at]
                  by_cases e : j = n'
                  · rw [if_pos e, e, upN_s, ← hto, onI_celK hto256]
                  · rw [if_neg e, upN_n e]
                    exact d2 j (by omega)
                · dsimp only
                  rw [upd_at]
                  by_cases e : p = X + 16 * Y
                  · rw [if_pos e]
                    refine ⟨fun z => absurd z (by decide), fun z => ?_⟩
                    have := z n' (by omega)
                    rw [upN_s, e, hto] at this
                    exact absurd rfl this
                  · rw [if_neg e, d3 p hp]
                    constructor
                    · intro z j hj
                      by_cases e3 : j = n'
                      · rw [e3, upN_s, ← hto]
                        exact fun z2 => e (celK_inj z2).symm
                      · rw [upN_n e3]
                        exact z j (by omega)
                    · intro z j hj
                      have := z j (by omega)
                      rw [upN_n (by omega)] at this
                      exact this
                · rw [upN_n (by omega)]
                  exact d5
              have hz : (pad on (stp c0 d) != 0) = true := by
                rw [hpt]
                simp [a]
              have fin : ∀ y0 : Bool, y0 = oh kd (pad on) c0 d → wq_X8_hangs_238 (fun k => nI (sg k)) (fun k => nI (kd k)) (fun k => nI (mo k)) (fun k => nI (gl k)) (fun k => nI (on k)) (wq_X8_hangs_69 (fun k => nI (sg k)) (fun k => nI (kd k)) (fun k => nI (mo k)) (fun k => nI (gl k)) (fun k => nI (on k)) Q f) (wq_X8_hangs_118 (fun k => nI (sg k)) (fun k => nI (kd k)) (fun k => nI (mo k)) (fun k => nI (gl k)) (fun k => nI (on k)) (wq_X8_hangs_69 (fun k => nI (sg k)) (fun k => nI (kd k)) (fun k => nI (mo k)) (fun k => nI (gl k)) (fun k => nI (on k)) Q f) Q f') Q x1 x2 (nI gp) (nI n') (nI i) (nI (k0 % 16)) (nI (k0 / 16)) (nI (on k0 - 1)) (nI d) (nI (X + 16 * Y)) (bI y0) := by
                intro y0 hy0
                unfold wq_X8_hangs_238
                rw [bI_0]
                refine ⟨fun e => push ?_, fun e => ?_⟩
                · rw [Bool.not_eq_false] at e
                  unfold lnk
                  rw [hz, ← hy0, e]
                  rfl
                · rw [rm_2 (by omega), dv_2 (by omega)]
                  refine sp_holdAt (f := 0) hT hA (by omega) (by omega) hx16 hy16 hd _ ?_
                  have eh := hQ_hAt (kd := kd) (mo := mo) (gl := gl) (sg := sg) hT.2.2.2.2.2 (pad on) ((on k0 - 1) / 2) ((on k0 - 1) % 2) c0 d (by omega)
                  rw [show 1 + 2 * ((on k0 - 1) / 2) + (on k0 - 1) % 2 = on k0 by omega] at eh
                  rw [← hqc, ← eh]
                  have h3 := hQ_le hT (pad on) (on k0) c0 d
                  rw [eq_0 (by omega)]
                  refine ⟨fun e2 => push ?_, fun e2 => skip (fun hl => ?_)⟩
                  · unfold lnk
                    rw [hz, hpc, show decide (0 < hQ kd mo gl sg (pad on) (on k0) c0 d) = true by simp; omega]
                    simp
                  · unfold lnk at hl
                    rw [hpc, e2, ← hy0, e] at hl
                    simp at hl
              rw [dv_2 (by omega), vp_in' (by omega), nI_clamp' (by omega)]
              refine ⟨by omega, ?_⟩
              rintro _ rfl
              unfold wq_X8_hangs_219 wq_X8_hangs_237 wq_X8_hangs_233
              rw [eq_2 (by omega), eq_1 (by omega), eq_3 (by omega), rm_2 (by omega), show nI (on k0 - 1) - nI ((on k0 - 1) / 2) * (2 : Int32) = nI ((on k0 - 1) % 2) by rw [um_2, nI_sub' (by omega), nat_rem], eq_0 (by omega), eq_1 (by omega)]
              have f0 := fin false
              have f1 := fin true
              have ohv : oh kd (pad on) c0 d = decide (kd ((on k0 - 1) / 2) = 2 ∧ ((d = 1 ∧ on k0 % 2 = 1) ∨ (d = 3 ∧ on k0 % 2 = 0))) := by
                unfold oh
                rw [hpc]
              refine ⟨fun e => f0 (by rw [ohv]; simp [e]), fun e => ⟨fun e1 => ⟨fun e3 => f0 (by rw [ohv]; simp [e1, e3]), fun e3 => ⟨fun e4 => f0 (by rw [ohv]; simp [e1]; omega), fun e4 => f1 (by rw [ohv]; simp [e, e3]; omega)⟩⟩, fun e1 => ⟨fun e4 => f1 (by rw [ohv]; simp [e, e1]; omega), fun e4 => ⟨fun e3 => f0 (by rw [ohv]; simp [e1]; omega), fun e3 => absurd e3 (by omega)⟩⟩⟩⟩
          · intro u v huv
            rintro _ rfl
            refine sp_isOn_f huv _ ?_
            refine ⟨fun _ => skip (fun hl => ?_), fun a => absurd rfl a⟩
            have hof := nb_off hx16 hy16 hd ho
            rw [← hqc] at hof
            unfold lnk at hl
            rw [pad_off hof] at hl
            simp at hl
  unfold wp_X8_hangs
  refine pk_loop (σ := (Nat → Int32) × Int32) (fun f i z => wq_X8_hangs_4 (fun k => nI (sg k)) (fun k => nI (kd k)) (fun k => nI (mo k)) (fun k => nI (gl k)) (fun k => nI (on k)) Q f pile z.1 (nI gp) z.2 (nI i)) (fun i z => (∀ p, p < i → z.1 p = 0) ∧ ((z.2 = -1 ∧ ∀ p, p < i → ¬ (on p ≠ 0 ∧ p ≠ gp)) ∨ ∃ s, z.2 = nI s ∧ s < i ∧ on s ≠ 0 ∧ s ≠ gp)) 256 0 (met, -1) (by decide) ⟨fun p hp => absurd hp (by omega), Or.inl ⟨rfl, fun p hp => absurd hp (by omega)⟩⟩ ?_ ?_
  · rintro f ⟨z1, z2⟩ ⟨m1, m2⟩
    show wf_X8_hangs_4 _ _ _ _ _ _ _ _ _ _ _ _
    unfold wf_X8_hangs_4
    dsimp only at m1 m2 ⊢
    refine ⟨fun _ => ?_, fun a => absurd (by decide) a⟩
    rcases m2 with ⟨rfl, m3⟩ | ⟨s, rfl, s1, s2, s3⟩
    · refine ⟨fun _ => ?_, fun a => absurd (by decide) a⟩
      refine ⟨1, ?_⟩
      show wf_X8_hangs_69 _ _ _ _ _ _ _ _ _ _ _ _
      unfold wf_X8_hangs_69
      refine ⟨fun _ => ?_, fun a => absurd (by decide) a⟩
      refine sp_hangs_end hP hS hg (HT kd mo gl sg (pad on) (celK gp)) ?_ Q (fun a => h1 a _ _) (fun a => h0 a _ _)
      refine ⟨fun _ p hp a b => absurd ⟨a, b⟩ (m3 p hp), fun _ => HT_none (fun c hc => ?_)⟩
      obtain ⟨e1, e2⟩ := celK_onI hc.1
      refine m3 (onI c) e2 ⟨?_, ?_⟩
      · rw [← pad_onI (on := on) hc.1]
        exact hc.2.1
      · intro e
        apply hc.2.2
        rw [← e1, e]
    · refine ⟨fun a => absurd a (nI_pos (by omega)), fun _ => ?_⟩
      rintro _ rfl
      rw [vp_in' (by omega), nI_clamp' (by omega), nar_1]
      refine ⟨s1, ?_⟩
      rintro _ rfl
      refine loop (celK s) _ _ _ 1 (fun _ => celK s) ⟨rfl, ⟨Nat.le_refl _, rfl, fun _ _ => occP s s1 s2 s3, fun a b h1 h2 => absurd h2 (by omega), fun j d' _ hj _ _ _ => absurd hj (by omega), fun Y _ hY _ _ => hY⟩, fun j hj => ?_, fun p hp => ?_⟩
      · obtain rfl : j = 0 := by omega
        rw [onI_celK s1]
        exact (pk_us : upd pile (0 : Int32).toNatClampNeg (nI s) (0 : Int32).toNatClampNeg = nI s)
      · rw [upd_at]
        by_cases e : p = s
        · rw [if_pos e]
          exact ⟨fun z => absurd z (by decide), fun z => absurd (by rw [e]) (z 0 (by omega))⟩
        · rw [if_neg e, m1 p hp]
          exact ⟨fun _ _ _ z => e (celK_inj z).symm, fun _ => rfl⟩
  · rintro f i ⟨z1, z2⟩ hi ⟨m1, m2⟩ ih
    show wf_X8_hangs_4 _ _ _ _ _ _ _ _ _ _ _ _
    unfold wf_X8_hangs_4
    dsimp only at m1 m2 ⊢
    have hoi := (hS.1 i).1
    rw [le_256 (by omega)]
    refine ⟨fun a => absurd a (by omega), fun _ => ?_⟩
    rw [vp_in' (by omega), nI_clamp' (by omega), nar_0]
    refine ⟨hi, ?_⟩
    rintro _ rfl
    have m1' : ∀ p, p < i + 1 → upd z1 i 0 p = 0 := by
      intro p hp
      rw [upd_at]
      split
      · rfl
      · exact m1 p (by omega)
    refine ⟨fun a => ?_, fun a => ⟨hi, ?_⟩⟩
    · rintro _ rfl
      rw [ad_1]
      refine ih (upd z1 i 0, z2) ⟨m1', ?_⟩
      rcases m2 with ⟨rfl, m3⟩ | ⟨s, e, s1, s2⟩
      · exact absurd a (by decide)
      · exact Or.inr ⟨s, e, by omega, s2⟩
    · have hz2 : z2 = -1 ∧ ∀ p, p < i → ¬ (on p ≠ 0 ∧ p ≠ gp) := by
        rcases m2 with m3 | ⟨s, rfl, s1, s2⟩
        · exact m3
        · exact absurd (nI_pos' (by omega)) a
      have skip : ¬ (on i ≠ 0 ∧ i ≠ gp) → wq_X8_hangs_4 (fun k => nI (sg k)) (fun k => nI (kd k)) (fun k => nI (mo k)) (fun k => nI (gl k)) (fun k => nI (on k)) Q f pile (upd z1 i 0) (nI gp) z2 (nI (i + 1)) := by
        intro hno
        refine ih (upd z1 i 0, z2) ⟨m1', Or.inl ⟨hz2.1, fun p hp => ?_⟩⟩
        rcases Nat.lt_or_ge p i with z | z
        · exact hz2.2 p z
        · obtain rfl : p = i := by omega
          exact hno
      rintro _ rfl
      rw [eq_0 (by omega), nI_eq' (by omega) (by omega)]
      refine ⟨fun b => ?_, fun b => ⟨fun c => ?_, fun c => ?_⟩⟩
      · rintro _ rfl
        rw [ad_1]
        exact skip (fun z => z.1 b)
      · rintro _ rfl
        rw [ad_1]
        exact skip (fun z => z.2 c)
      · rintro _ rfl
        rw [ad_1]
        exact ih (upd z1 i 0, nI i) ⟨m1', Or.inr ⟨i, rfl, by omega, b, c⟩⟩
theorem sp_rgo {kd mo gl sg on : Nat → Nat} {w P made kept x y : Nat} {aW aP aL : Nat → Nat} {aB si : (Nat → Int32)} {sheet since W Pc L S pile met : (Nat → Int32)} {steps undoable : Int32} (hT : okT kd mo gl sg) (hP : P ≤ 40) (hw3 : w ≤ 3) (hS : okS kd P on) (hk : kept ≤ 200) (hkm : kept ≤ made) (hm : made < 1000000) (h : okM kd on made kept aW aP aL aB si sheet since W Pc L S steps undoable) (hx : x < 16) (hy : y < 16)
    (Q : Int32 → (Nat → Int32) → (Nat → Int32) → (Nat → Int32) → (Nat → Int32) → (Nat → Int32) → (Nat → Int32) → Int32 → Int32 → (Nat → Int32) → (Nat → Int32) → Prop)
    (hQ0 : ¬ goOK kd mo gl sg on w (x + 16 * y) → ∀ pile' met', Q 0 sheet since W Pc L S steps undoable pile' met')
    (hQ1 : goOK kd mo gl sg on w (x + 16 * y) → ∀ sheet' since' W' Pc' L' S' steps' undoable' pile' met' kept', kept' = min (kept + 1) 200 → okM kd (upN on (x + 16 * y) 0) (made + 1) kept' (upN aW made 2) (upN aP made ((on (x + 16 * y) - 1) / 2)) (upN aL made (x + 16 * y)) (upS aB made (si (x + 16 * y))) si sheet' since' W' Pc' L' S' steps' undoable' → Q 1 sheet' since' W' Pc' L' S' steps' undoable' pile' met') :
    wp_X8_go (fun k => nI (sg k)) (fun k => nI (kd k)) (fun k => nI (mo k)) (fun k => nI (gl k)) (nI w) sheet since W Pc L S steps undoable pile met (nI x) (nI y) Q := by
  obtain ⟨rfl, h2, rfl, rfl, h5⟩ := h
  have hk256 : x + 16 * y < 256 := by omega
  have hq := (hS.1 (x + 16 * y)).1
  have hcel : celN x y = celK (x + 16 * y) := (celK_xy hx).symm
  unfold wp_X8_go
  apply sp_isOn_t hx hy
  refine ⟨fun a => absurd a (by decide), fun _ => ?_⟩
  rw [mu_16, nI_add]
  have hxy : nI (x + 16 * y) = nI (x + 16 * y) := rfl
  rw [vp_in' (by omega), nI_clamp' (by omega)]
  refine ⟨hk256, ?_⟩
  rintro _ rfl
  rw [eq_0 (by omega)]
  refine ⟨fun q0 => ?_, fun q0 => hQ0 (fun z => z.1 q0) _ _⟩
  rintro _ rfl
  rw [vp_in' (by omega), nI_clamp' (by omega)]
  refine ⟨hk256, ?_⟩
  rintro _ rfl
  rw [sb_1 (by omega), dv_2 (by omega)]
  rintro _ rfl
  have hkp := hT.1 ((on (x + 16 * y) - 1) / 2)
  rw [vp_in' (by omega), nI_clamp' (by omega)]
  refine ⟨by omega, ?_⟩
  rintro _ rfl
  rw [eq_3 (by omega)]
  refine ⟨fun a => hQ0 (fun z => a z.2.1) _ _, fun k3 => ?_⟩
  refine sp_holdOf (f := 0) hT (okA_sheet hP (okS_B hS)) (by omega) hx hy (fun e => by omega) _ ?_
  rw [hcel]
  have hle := hUp_le hT (pad on) ((on (x + 16 * y) - 1) / 2) (celK (x + 16 * y)) 4
  have hle2 : hOf kd mo gl sg (pad on) ((on (x + 16 * y) - 1) / 2) (celK (x + 16 * y)) ≤ 24 := hle
  rw [nI_eq' (by omega) (by omega)]
  refine ⟨fun a => hQ0 (fun z => a z.2.2.1) _ _, fun b => ?_⟩
  refine sp_hangs hT hP hS hk256 _ (fun hHT pile' met' => ?_) (fun hHT pile' met' => ?_)
  · refine ⟨fun _ => ?_, fun e => absurd e (by decide)⟩
    have hodd := weak_odd hS q0 k3
    have hown : ownN on (x + 16 * y) = x + 16 * y := if_pos (by omega)
    refine ⟨hk256, ?_⟩
    rintro _ rfl
    rw [h2 _ q0, hown, l_0, upd_N]
    refine ⟨hk256, ?_⟩
    rintro _ rfl
    refine ⟨hk256, ?_⟩
    rintro _ rfl
    refine okM1_step hk hkm hm h5 2 ((on (x + 16 * y) - 1) / 2) (x + 16 * y) (si (x + 16 * y)) (si (x + 16 * y)) (fun _ => rfl) _ ?_
    intro W' Pc' L' S' kept' ek g
    refine hQ1 ⟨q0, k3, b, hHT⟩ _ _ _ _ _ _ _ _ _ _ kept' ek ⟨rfl, fun j hj => ?_, rfl, rfl, g⟩
    by_cases e : j = x + 16 * y
    · rw [e, upN_s] at hj
      exact absurd rfl hj
    · rw [upN_n e] at hj
      rw [pk_un e, h2 j hj]
      unfold ownN
      rw [upN_n e]
  · exact ⟨fun e => absurd rfl e, fun _ => hQ0 (fun z => hHT z.2.2.2) _ _⟩
theorem sp_rgo_f {kd mo gl sg : Nat → Nat} {w : Nat} {sheet since W Pc L S pile met : (Nat → Int32)} {steps undoable x y : Int32} (h0 : x < 0 ∨ (16 : Int32) ≤ x ∨ y < 0 ∨ (16 : Int32) ≤ y)
    (Q : Int32 → (Nat → Int32) → (Nat → Int32) → (Nat → Int32) → (Nat → Int32) → (Nat → Int32) → (Nat → Int32) → Int32 → Int32 → (Nat → Int32) → (Nat → Int32) → Prop) (hQ0 : Q 0 sheet since W Pc L S steps undoable pile met) :
    wp_X8_go (fun k => nI (sg k)) (fun k => nI (kd k)) (fun k => nI (mo k)) (fun k => nI (gl k)) (nI w) sheet since W Pc L S steps undoable pile met x y Q := by
  unfold wp_X8_go
  apply sp_isOn_f h0
  exact ⟨fun _ => hQ0, fun q => absurd rfl q⟩
