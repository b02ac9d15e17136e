/-! a walk of the class, from beginning to end -/
section
variable {kd mo gl sg : Nat → Nat} {w P k : Nat} {on : Nat → Nat}
theorem sp_through {c most : Nat} {st : St} {fits : (Nat → Int64)} {line : (Nat → Int32)} {all : Int32} {found en cu : Int32} {par pla pie wid siz first next : (Nat → Int32)} {sums : (Nat → Int64)} (hP : P ≤ 40) (hk5 : ∀ p, kd p ≤ 5) (hon : okS kd P on) (hF : okF fits line all) (hfit : ∀ c, onC c = true → fits c = fitF kd mo gl sg w (pad on) P c) (hm : most ≤ 40) (hV : okV kd P c on st found par pla pie wid siz sums first next) (hst : st.2.2 = false) (Q : Int32 → Int32 → Int32 → Int32 → (Nat → Int32) → (Nat → Int32) → (Nat → Int32) → (Nat → Int32) → (Nat → Int32) → (Nat → Int64) → (Nat → Int32) → (Nat → Int32) → Prop)
    (q0 : nA kd mo gl sg w (pad on) P = 0 → Q 1 found (en + 1) cu par pla pie wid siz sums first next)
    (q1 : nA kd mo gl sg w (pad on) P ≠ 0 → ¬ cnt on < most → Q 1 found en (cu + 1) par pla pie wid siz sums first next)
    (q2 : nA kd mo gl sg w (pad on) P ≠ 0 → cnt on < most → ∀ found' par' pla' pie' wid' siz' sums' first' next', okV kd P c on (wK kd mo gl sg w P on 256 st) found' par' pla' pie' wid' siz' sums' first' next' → Q (bI (!(wK kd mo gl sg w P on 256 st).2.2)) found' en cu par' pla' pie' wid' siz' sums' first' next') :
    wp_X3_goThrough (fun k => nI (kd k)) (fun j => nI (cc (pad on j))) (nI (cnt on)) fits line found en cu par pla pie wid siz sums first next (nI c) (nI most) (nI (nA kd mo gl sg w (pad on) P)) Q := by
  have hn : nA kd mo gl sg w (pad on) P ≤ 10240 := nY_le hP 16
  have hV' := hV
  obtain ⟨v1, v2, v3, fq, fp, fk, hf, hn', v4⟩ := hV'
  have hc300 := v4.2.1
  have hsz := v4.2.2.2.2.2.1 c v2
  have hcb : cnt on ≤ 256 := fb_ct_le _ _
  unfold wp_X3_goThrough
  rw [eq_0 (by omega)]
  refine ⟨fun x => ?_, fun x => ?_⟩
  · rw [vp_in' (by omega), nI_clamp' (by omega), hsz, v3]
    refine ⟨by omega, ?_⟩
    rintro _ rfl
    rw [nI_lt' (by omega) (by omega)]
    refine ⟨fun y => ?_, fun y => ?_⟩
    · have key := lp_up (W := fun f y => ∀ found par pla pie wid siz sums first next, okV kd P c on (wK kd mo gl sg w P on (16 * y) st) found par pla pie wid siz sums first next → (wK kd mo gl sg w P on (16 * y) st).2.2 = false → wq_X3_goThrough_41 (fun k => nI (kd k)) (fun j => nI (cc (pad on j))) (nI (cnt on)) fits line Q f found en cu par pla pie wid siz sums first next (nI c) (nI y)) (I := fun _ => True) 16 ?_ 0 (by decide) trivial
      · obtain ⟨f, hf⟩ := key
        exact ⟨f, hf _ _ _ _ _ _ _ _ _ hV hst⟩
      · intro f l hl _ ih found par pla pie wid siz sums first next hV hst
        show wf_X3_goThrough_41 _ _ _ _ _ _ _ _ _ _ _ _ _ _ _ _ _ _ _ _
        unfold wf_X3_goThrough_41
        rw [le_16 (by omega)]
        refine ⟨fun q => ?_, fun q => ?_⟩
        · obtain rfl : l = 16 := by omega
          have := q2 x y _ _ _ _ _ _ _ _ _ hV
          rw [show wK kd mo gl sg w P on 256 st = wK kd mo gl sg w P on (16 * 16) st from rfl, hst] at this
          exact this
        · have hl16 : l < 16 := by omega
          have ih := ih hl16 trivial
          rw [show 16 * (l + 1) = 16 * l + 16 by omega] at ih
          have hle := lnS_le fits l
          rw [vp_in' (by omega), nI_clamp' (by omega), hF.1 l hl16]
          refine ⟨hl16, ?_⟩
          rintro _ rfl
          rw [eq_0 (by omega), lnS_fit hP hfit hl16]
          refine ⟨fun z => ?_, fun z => ?_⟩
          · rintro _ rfl
            rw [ad_1]
            have e := wK_no (kd := kd) (mo := mo) (gl := gl) (sg := sg) (w := w) (P := P) (on := on) (16 * l) st 16 (fun k' a b p hp => by
              have z1 := fb_sm_zero z (k' - 16 * l) (by omega)
              have z2 := (fb_ct_zero.mp z1) p hp
              have e : celK k' = celN (k' - 16 * l) l := by
                rw [← celK_xy (by omega)]
                congr 1
                omega
              rw [e]
              exact z2)
            rw [e] at ih
            exact ih _ _ _ _ _ _ _ _ _ hV hst
          · refine sp_line hP hk5 hon hfit hl16 hV hst _ (fun found' par' pla' pie' wid' siz' sums' first' next' hV' => ⟨fun y1 => ?_, fun y1 => ?_⟩)
            · rintro _ rfl
              rw [ad_1]
              have : (wK kd mo gl sg w P on (16 * l + 16) st).2.2 = false := by
                rw [bI_0] at y1
                simpa using y1
              exact ih _ _ _ _ _ _ _ _ _ hV' this
            · rw [bI_0] at y1
              have hsp : (wK kd mo gl sg w P on (16 * l + 16) st).2.2 = true := by simpa using y1
              have e := wK_sp (16 * l + 16) 256 st (by omega) hsp
              rw [← e] at hV' hsp
              have := q2 x y _ _ _ _ _ _ _ _ _ hV'
              rw [hsp] at this
              exact this
    · rintro _ rfl
      exact q1 x y
  · rintro _ rfl
    exact q0 x
end
/-- a whole walk: the shapes, how many ended, how many were cut -/
noncomputable def wR (kd mo gl sg : Nat → Nat) (w P most : Nat) (on0 : Nat → Nat) : Nat → St × Nat × Nat
  | 0 => ((1, (fun _ => on0), false), 0, 0)
  | k + 1 => if (wR kd mo gl sg w P most on0 k).1.1 ≤ k ∨ (wR kd mo gl sg w P most on0 k).1.2.2 = true then wR kd mo gl sg w P most on0 k else
    if nA kd mo gl sg w (pad ((wR kd mo gl sg w P most on0 k).1.2.1 k)) P = 0 then ((wR kd mo gl sg w P most on0 k).1, (wR kd mo gl sg w P most on0 k).2.1 + 1, (wR kd mo gl sg w P most on0 k).2.2) else
    if cnt ((wR kd mo gl sg w P most on0 k).1.2.1 k) < most then (wK kd mo gl sg w P ((wR kd mo gl sg w P most on0 k).1.2.1 k) 256 (wR kd mo gl sg w P most on0 k).1, (wR kd mo gl sg w P most on0 k).2.1, (wR kd mo gl sg w P most on0 k).2.2) else
    ((wR kd mo gl sg w P most on0 k).1, (wR kd mo gl sg w P most on0 k).2.1, (wR kd mo gl sg w P most on0 k).2.2 + 1)
section
variable {kd mo gl sg : Nat → Nat} {w P most : Nat} {on0 : Nat → Nat}
theorem wR_s (k : Nat) : wR kd mo gl sg w P most on0 (k + 1) = if (wR kd mo gl sg w P most on0 k).1.1 ≤ k ∨ (wR kd mo gl sg w P most on0 k).1.2.2 = true then wR kd mo gl sg w P most on0 k else
    if nA kd mo gl sg w (pad ((wR kd mo gl sg w P most on0 k).1.2.1 k)) P = 0 then ((wR kd mo gl sg w P most on0 k).1, (wR kd mo gl sg w P most on0 k).2.1 + 1, (wR kd mo gl sg w P most on0 k).2.2) else
    if cnt ((wR kd mo gl sg w P most on0 k).1.2.1 k) < most then (wK kd mo gl sg w P ((wR kd mo gl sg w P most on0 k).1.2.1 k) 256 (wR kd mo gl sg w P most on0 k).1, (wR kd mo gl sg w P most on0 k).2.1, (wR kd mo gl sg w P most on0 k).2.2) else
    ((wR kd mo gl sg w P most on0 k).1, (wR kd mo gl sg w P most on0 k).2.1, (wR kd mo gl sg w P most on0 k).2.2 + 1) := rfl
theorem wR_st (k : Nat) (h : (wR kd mo gl sg w P most on0 k).1.1 ≤ k ∨ (wR kd mo gl sg w P most on0 k).1.2.2 = true) : ∀ d, wR kd mo gl sg w P most on0 (k + d) = wR kd mo gl sg w P most on0 k
  | 0 => rfl
  | d + 1 => by
    rw [← Nat.add_assoc, wR_s, wR_st k h d, if_pos]
    rcases h with x | x
    · exact Or.inl (by omega)
    · exact Or.inr x
theorem wR_end (k : Nat) (hk : k ≤ 300) (h : (wR kd mo gl sg w P most on0 k).1.1 ≤ k ∨ (wR kd mo gl sg w P most on0 k).1.2.2 = true) : wR kd mo gl sg w P most on0 300 = wR kd mo gl sg w P most on0 k := by
  obtain ⟨d, hd⟩ : ∃ d, 300 = k + d := ⟨300 - k, by omega⟩
  rw [hd]
  exact wR_st k h d
end
theorem adS_0 {st : St} {o : Nat → Nat} (h : 0 < st.1) : (adS st o).2.1 0 = st.2.1 0 ∧ 0 < (adS st o).1 := by
  unfold adS
  repeat' split
  all_goals first | exact ⟨rfl, h⟩ | refine ⟨?_, by dsimp only; omega⟩
  dsimp only
  rw [if_neg (by omega)]
section
variable {kd mo gl sg : Nat → Nat} {w P most : Nat} {on on0 : Nat → Nat}
theorem wP_0 {k : Nat} : ∀ (p : Nat) (st : St), 0 < st.1 → (wP kd mo gl sg w P on k p st).2.1 0 = st.2.1 0 ∧ 0 < (wP kd mo gl sg w P on k p st).1
  | 0, _, h => ⟨rfl, h⟩
  | p + 1, st, h => by
    obtain ⟨a, b⟩ := wP_0 (k := k) p st h
    rw [wP_s]
    split
    · obtain ⟨c, d⟩ := adS_0 (o := layN kd p k on) b
      exact ⟨by rw [c, a], d⟩
    · exact ⟨a, b⟩
theorem wK_0 : ∀ (k : Nat) (st : St), 0 < st.1 → (wK kd mo gl sg w P on k st).2.1 0 = st.2.1 0 ∧ 0 < (wK kd mo gl sg w P on k st).1
  | 0, _, h => ⟨rfl, h⟩
  | k + 1, st, h => by
    obtain ⟨a, b⟩ := wK_0 k st h
    rw [wK_s]
    obtain ⟨c, d⟩ := wP_0 (kd := kd) (mo := mo) (gl := gl) (sg := sg) (w := w) (P := P) (on := on) (k := k) 40 _ b
    exact ⟨by rw [c, a], d⟩
theorem wR_0 : ∀ k, (wR kd mo gl sg w P most on0 k).1.2.1 0 = on0 ∧ 0 < (wR kd mo gl sg w P most on0 k).1.1
  | 0 => ⟨rfl, Nat.one_pos⟩
  | k + 1 => by
    obtain ⟨a, b⟩ := wR_0 k
    rw [wR_s]
    repeat' split
    all_goals first | exact ⟨a, b⟩ | skip
    obtain ⟨c, d⟩ := wK_0 (kd := kd) (mo := mo) (gl := gl) (sg := sg) (w := w) (P := P) (on := (wR kd mo gl sg w P most on0 k).1.2.1 k) 256 _ b
    exact ⟨by rw [c, a], d⟩
/-- the class's tables after a walk -/
def okU (kd : Nat → Nat) (P : Nat) (s : St × Nat × Nat) (found en cu : Int32) (par pla pie wid siz : (Nat → Int32)) (sums : (Nat → Int64)) (first next : (Nat → Int32)) : Prop :=
  found = nI s.1.1 ∧ en = nI s.2.1 ∧ cu = nI s.2.2 ∧ ∃ fq fp fk hf hn, okR kd P s.1.1 fq fp fk s.1.2.1 hf hn par pla pie wid siz sums first next
theorem sp_run60 {z : Nat} {s : St × Nat × Nat} {stale stc line fits2 start : (Nat → Int32)} {nst all told la : Int32} {fits : (Nat → Int64)} {a1 a2 a3 : Int64} {found en cu : Int32} {par pla pie wid siz first next : (Nat → Int32)} {sums : (Nat → Int64)} (hP : P ≤ 40) (hk5 : ∀ p, kd p ≤ 5) (hU : okU kd P s found en cu par pla pie wid siz sums first next) (hz : z < s.1.1) (h0 : s.1.2.1 0 = on0) (hF : okFI kd mo gl sg w P (pad (s.1.2.1 z)) stale stc nst fits line all) (Q : Int32 → (Nat → Int32) → Int32 → Int32 → (Nat → Int64) → (Nat → Int32) → Int32 → (Nat → Int32) → (Nat → Int32) → Int32 → Int64 → Int64 → Int64 → Int32 → Int32 → Int32 → Int32 → Int32 → (Nat → Int32) → (Nat → Int32) → (Nat → Int32) → (Nat → Int32) → (Nat → Int32) → (Nat → Int32) → (Nat → Int64) → (Nat → Int32) → (Nat → Int32) → Int32 → Prop)
    (hQ : ∀ stale' stc' nst', okFI kd mo gl sg w P (pad on0) stale' stc' nst' fits line all → Q (if s.1.2.2 = true then -2 else nI s.1.1) (fun j => nI (cc (pad on0 j))) (nI (cnt on0)) (nI (grn kd on0)) fits line all stale' stc' nst' a1 a2 a3 (told + 1) found en cu (nI (cnt (s.1.2.1 (s.1.1 - 1)))) start par pla pie wid siz sums first next (nI 0)) :
    wq_X3_run_60 (nI w) (fun k => nI (sg k)) (fun k => nI (kd k)) (fun k => nI (fcF kd mo gl P k)) (fun k => nI (baF kd mo P k)) (fun k => shF kd mo gl P k) (fun k => srF kd mo gl P k) (fun k => brF kd mo P k) (seF kd P) (blF kd P) Q (fun j => nI (cc (pad (s.1.2.1 z) j))) (nI (cnt (s.1.2.1 z))) (nI (grn kd (s.1.2.1 z))) fits line all stale stc nst a1 a2 a3 told found en cu la start par pla pie wid siz sums first next (nI z) (bI s.1.2.2) := by
  obtain ⟨rfl, rfl, rfl, fq, fp, fk, hf, hn, hR⟩ := hU
  obtain ⟨r1, r2, r3, r4, r5, r6, r7, r8⟩ := hR
  unfold wq_X3_run_60
  refine sp_bring (b := 0) hk5 hP r3 r4 r2 hz r1 hF _ (fun stale' stc' nst' hF' => ?_)
  rw [h0] at hF' ⊢
  rw [sb_1 (by omega), vp_in' (by omega), nI_clamp' (by omega), r6 _ (by omega)]
  refine ⟨by omega, ?_⟩
  rintro _ rfl _ rfl
  rw [bI_0]
  have := hQ _ _ _ hF'
  refine ⟨fun x => ?_, fun x => ?_⟩
  · rw [if_neg (by rw [x]; decide)] at this
    exact this
  · rw [Bool.not_eq_false] at x
    rw [if_pos x] at this
    exact this
theorem sp_run {stale stc line start par pla pie wid siz first next : (Nat → Int32)} {nst all told found en cu la he : Int32} {fits sums : (Nat → Int64)} {a1 a2 a3 : Int64} (hT : okT kd mo gl sg) (hP : P ≤ 40) (h1 : 1 ≤ w) (h3 : w ≤ 3) (hm : most ≤ 40) (hS0 : okS kd P on0) (hF : okFI kd mo gl sg w P (pad on0) stale stc nst fits line all) (Q : Int32 → (Nat → Int32) → Int32 → Int32 → (Nat → Int64) → (Nat → Int32) → Int32 → (Nat → Int32) → (Nat → Int32) → Int32 → Int64 → Int64 → Int64 → Int32 → Int32 → Int32 → Int32 → Int32 → (Nat → Int32) → (Nat → Int32) → (Nat → Int32) → (Nat → Int32) → (Nat → Int32) → (Nat → Int32) → (Nat → Int64) → (Nat → Int32) → (Nat → Int32) → Int32 → Prop)
    (hQ : ∀ fits' line' all' stale' stc' nst' b1 b2 b3 found' en' cu' start' par' pla' pie' wid' siz' sums' first' next', okFI kd mo gl sg w P (pad on0) stale' stc' nst' fits' line' all' → okU kd P (wR kd mo gl sg w P most on0 300) found' en' cu' par' pla' pie' wid' siz' sums' first' next' → (∀ j, j < 324 → start' j = nI (cc (pad on0 j))) → Q (if (wR kd mo gl sg w P most on0 300).1.2.2 = true then -2 else nI (wR kd mo gl sg w P most on0 300).1.1) (fun j => nI (cc (pad on0 j))) (nI (cnt on0)) (nI (grn kd on0)) fits' line' all' stale' stc' nst' b1 b2 b3 (told + 1) found' en' cu' (nI (cnt ((wR kd mo gl sg w P most on0 300).1.2.1 ((wR kd mo gl sg w P most on0 300).1.1 - 1)))) start' par' pla' pie' wid' siz' sums' first' next' (nI 0)) :
    wp_X3_run (nI w) (fun k => nI (sg k)) (fun k => nI (kd k)) (fun k => nI (fcF kd mo gl P k)) (fun k => nI (baF kd mo P k)) (fun k => shF kd mo gl P k) (fun k => srF kd mo gl P k) (fun k => brF kd mo P k) (seF kd P) (blF kd P) (fun j => nI (cc (pad on0 j))) (nI (cnt on0)) (nI (grn kd on0)) fits line all stale stc nst a1 a2 a3 told found en cu la start par pla pie wid siz sums first next he (nI most) Q := by
  unfold wp_X3_run wp_X3_begin
  rintro _ rfl
  refine fill_I (by decide) _ ?_
  rintro _ rfl _ rfl _ rfl
  have hst0 : ∀ j, j < 324 → va_cpy (fun j => nI (cc (pad on0 j))) start (0 : Int32).toNatClampNeg (0 : Int32).toNatClampNeg (324 : Int32).toNatClampNeg j = nI (cc (pad on0 j)) := by
    intro j hj
    show va_cpy (fun j => nI (cc (pad on0 j))) start 0 0 324 j = _
    rw [cpy_all]
    exact if_pos hj
  generalize va_cpy (fun j => nI (cc (pad on0 j))) start (0 : Int32).toNatClampNeg (0 : Int32).toNatClampNeg (324 : Int32).toNatClampNeg = start' at *
  have hU0 : okU kd P (wR kd mo gl sg w P most on0 0) 1 0 0 (upd par (0 : Int32).toNatClampNeg 0) pla pie wid (upd siz (0 : Int32).toNatClampNeg (nI (cnt on0))) (vp_updL sums (0 : Int32).toNatClampNeg 0) (fun k => if k < 512 then -1 else first k) next := by
    refine ⟨rfl, rfl, rfl, fun _ => 0, fun _ => 0, fun _ => 0, fun _ => 0, fun _ => 0, Nat.one_pos, by show 1 ≤ 300; decide, ⟨fun j _ => hS0, fun j a b => ?_⟩, fun j a b => ?_, fun j a b => ?_, fun j a => ?_, fun j a => ?_, fun b hb => ?_, fun j a b => ?_⟩
    · have b : j < 1 := b; omega
    · have b : j < 1 := b; omega
    · have b : j < 1 := b; omega
    · have a : j < 1 := a
      rw [upd_at, if_pos (show j = (0 : Int32).toNatClampNeg by show j = 0; omega)]
      rfl
    · have a : j < 1 := a
      rw [updL_at, if_pos (show j = (0 : Int32).toNatClampNeg by show j = 0; omega)]
      exact (hsm_0 on0).symm
    · refine ⟨if_pos hb, Nat.one_pos, fun x => absurd rfl x, fun i x y => ?_⟩
      have y : i < 1 := y
      omega
    · have b : j < 1 := b; omega
  have key := lp_up (W := fun f k => ∀ z stale stc nst fits line all b1 b2 b3 found en cu par pla pie wid siz sums first next, okU kd P (wR kd mo gl sg w P most on0 k) found en cu par pla pie wid siz sums first next → z < (wR kd mo gl sg w P most on0 k).1.1 → okFI kd mo gl sg w P (pad ((wR kd mo gl sg w P most on0 k).1.2.1 z)) stale stc nst fits line all →
      wq_X3_run_8 (nI w) (fun k => nI (sg k)) (fun k => nI (kd k)) (fun k => nI (fcF kd mo gl P k)) (fun k => nI (baF kd mo P k)) (fun k => shF kd mo gl P k) (fun k => srF kd mo gl P k) (fun k => brF kd mo P k) (seF kd P) (blF kd P) Q f (fun j => nI (cc (pad ((wR kd mo gl sg w P most on0 k).1.2.1 z) j))) (nI (cnt ((wR kd mo gl sg w P most on0 k).1.2.1 z))) (nI (grn kd ((wR kd mo gl sg w P most on0 k).1.2.1 z))) fits line all stale stc nst b1 b2 b3 told found en cu la start' par pla pie wid siz sums first next (nI z) (nI most) (bI (wR kd mo gl sg w P most on0 k).1.2.2) (nI k)) (I := fun _ => True) 300 ?_ 0 (by decide) trivial
  · obtain ⟨f, hf⟩ := key
    exact ⟨f, hf 0 _ _ _ _ _ _ _ _ _ _ _ _ _ _ _ _ _ _ _ _ hU0 Nat.one_pos hF⟩
  · intro f k hk _ ih z stale stc nst fits line all b1 b2 b3 found en cu par pla pie wid siz sums first next hU hz hF
    show wf_X3_run_8 _ _ _ _ _ _ _ _ _ _ _ _ _ _ _ _ _ _ _ _ _ _ _ _ _ _ _ _ _ _ _ _ _ _ _ _ _ _ _ _ _ _
    unfold wf_X3_run_8
    have h0 := wR_0 (kd := kd) (mo := mo) (gl := gl) (sg := sg) (w := w) (P := P) (most := most) (on0 := on0) k
    have last : wR kd mo gl sg w P most on0 300 = wR kd mo gl sg w P most on0 k → wq_X3_run_60 (nI w) (fun k => nI (sg k)) (fun k => nI (kd k)) (fun k => nI (fcF kd mo gl P k)) (fun k => nI (baF kd mo P k)) (fun k => shF kd mo gl P k) (fun k => srF kd mo gl P k) (fun k => brF kd mo P k) (seF kd P) (blF kd P) Q (fun j => nI (cc (pad ((wR kd mo gl sg w P most on0 k).1.2.1 z) j))) (nI (cnt ((wR kd mo gl sg w P most on0 k).1.2.1 z))) (nI (grn kd ((wR kd mo gl sg w P most on0 k).1.2.1 z))) fits line all stale stc nst b1 b2 b3 told found en cu la start' par pla pie wid siz sums first next (nI z) (bI (wR kd mo gl sg w P most on0 k).1.2.2) := by
      intro e
      rw [e] at hQ
      exact sp_run60 (fits2 := line) hP hT.1 hU hz h0.1 hF Q (fun stale' stc' nst' hF' => hQ _ _ _ _ _ _ _ _ _ _ _ _ _ _ _ _ _ _ _ _ _ hF' hU hst0)
    rw [le_300 (by omega)]
    refine ⟨fun q => last (by rw [show k = 300 by omega]), fun q => ?_⟩
    have ih := ih (by omega) trivial
    have hU' := hU
    obtain ⟨rfl, rfl, rfl, fq, fp, fk, hf, hn, hR⟩ := hU'
    have hn3 := hR.2.1
    rw [nI_le' (by omega) (by omega), bI_0]
    refine ⟨fun x => last (wR_end k hk (Or.inl x)), fun x => ⟨fun y => last (wR_end k hk (Or.inr (by simpa using y))), fun y => ?_⟩⟩
    have hs := wR_s (kd := kd) (mo := mo) (gl := gl) (sg := sg) (w := w) (P := P) (most := most) (on0 := on0) k
    rw [if_neg (fun u => u.elim x (fun v => by rw [y] at v; exact absurd v (by decide)))] at hs
    generalize wR kd mo gl sg w P most on0 k = s at *
    refine sp_bring (b := k) hT.1 hP hR.2.2.1 hR.2.2.2.1 hn3 hz (by omega) hF _ (fun stale' stc' nst' hF' => ?_)
    obtain ⟨m, St, rfl, f1, f2, f3⟩ := hF'
    have hSk := hR.2.2.1.1 k (by omega)
    refine sp_countFits hT hP h1 h3 (okS_pad hSk) f1 f2 f3 _ _ _ _ (fun fits' line' all' stale'' c1 c2 c3 z1 z2 z3 => ?_)
    have fin : okFI kd mo gl sg w P (pad (s.1.2.1 k)) stale'' stc' (nI 0) fits' line' all' := ⟨0, _, rfl, z3, z1, fun c hc _ => z2 c hc⟩
    refine sp_through hP hT.1 hSk z1 z2 hm ⟨rfl, by omega, rfl, fq, fp, fk, hf, hn, hR⟩ y _ (fun n0 => ?_) (fun n0 n1 => ?_) (fun n0 n1 found' par' pla' pie' wid' siz' sums' first' next' hV => ?_)
    · rw [if_pos n0] at hs
      refine ⟨fun _ => ?_, fun e => absurd e (by decide)⟩
      rintro _ rfl
      rw [hs] at ih
      dsimp only at ih
      rw [ad_1]
      have := ih k _ _ _ _ _ _ c1 c2 c3 _ _ _ _ _ _ _ _ _ _ _ ⟨rfl, rfl, rfl, fq, fp, fk, hf, hn, hR⟩ (by omega) fin
      rw [y] at this
      rw [ad_1]
      exact this
    · rw [if_neg n0, if_neg n1] at hs
      refine ⟨fun _ => ?_, fun e => absurd e (by decide)⟩
      rintro _ rfl
      rw [hs] at ih
      dsimp only at ih
      rw [ad_1]
      have := ih k _ _ _ _ _ _ c1 c2 c3 _ _ _ _ _ _ _ _ _ _ _ ⟨rfl, rfl, rfl, fq, fp, fk, hf, hn, hR⟩ (by omega) fin
      rw [y] at this
      rw [ad_1]
      exact this
    · rw [if_neg n0, if_pos n1] at hs
      rw [hs] at ih
      dsimp only at ih
      obtain ⟨v1, v2, v3, v4⟩ := hV
      have := ih k stale'' stc' (nI 0) fits' line' all' c1 c2 c3 found' (nI s.2.1) (nI s.2.2) par' pla' pie' wid' siz' sums' first' next' ⟨v1, rfl, rfl, v4⟩ v2 (by rw [v3]; exact fin)
      rw [v3] at this
      rw [bI_0]
      refine ⟨fun u => ?_, fun u => ?_⟩
      · rintro _ rfl
        rw [ad_1]
        have u : (wK kd mo gl sg w P (s.1.2.1 k) 256 s.1).2.2 = false := by simpa using u
        rw [u] at this
        exact this
      · rintro _ rfl
        rw [ad_1]
        have u : (wK kd mo gl sg w P (s.1.2.1 k) 256 s.1).2.2 = true := by simpa using u
        rw [u] at this
        exact this
end
