/-! the walk, as a function; the class goes through it -/
abbrev St := Nat × (Nat → Nat → Nat) × Bool
noncomputable def adS (st : St) (o : Nat → Nat) : St := if st.2.2 = true then st else @ite St (∃ j, j < st.1 ∧ st.2.1 j = o) (Classical.propDecidable _) st (if st.1 = 300 then (st.1, st.2.1, true) else (st.1 + 1, (fun j => if j = st.1 then o else st.2.1 j), false))
noncomputable def wP (kd mo gl sg : Nat → Nat) (w P : Nat) (on : Nat → Nat) (k : Nat) : Nat → St → St
  | 0, st => st
  | p + 1, st => if (decide (p < P) && mayC kd mo gl sg w (pad on) p (celK k)) = true then adS (wP kd mo gl sg w P on k p st) (layN kd p k on) else wP kd mo gl sg w P on k p st
noncomputable def wK (kd mo gl sg : Nat → Nat) (w P : Nat) (on : Nat → Nat) : Nat → St → St
  | 0, st => st
  | k + 1, st => wP kd mo gl sg w P on k 40 (wK kd mo gl sg w P on k st)
theorem adS_sp {st : St} {o : Nat → Nat} (h : st.2.2 = true) : adS st o = st := by
  unfold adS
  rw [if_pos h]
section
variable {kd mo gl sg : Nat → Nat} {w P k : Nat} {on : Nat → Nat}
theorem wP_s (p : Nat) (st : St) : wP kd mo gl sg w P on k (p + 1) st = if (decide (p < P) && mayC kd mo gl sg w (pad on) p (celK k)) = true then adS (wP kd mo gl sg w P on k p st) (layN kd p k on) else wP kd mo gl sg w P on k p st := rfl
theorem wK_s (st : St) : wK kd mo gl sg w P on (k + 1) st = wP kd mo gl sg w P on k 40 (wK kd mo gl sg w P on k st) := rfl
theorem wP_add (i : Nat) (st : St) (h : (wP kd mo gl sg w P on k i st).2.2 = true) : ∀ m, wP kd mo gl sg w P on k (i + m) st = wP kd mo gl sg w P on k i st
  | 0 => rfl
  | m + 1 => by
    rw [← Nat.add_assoc, wP_s, wP_add i st h m, adS_sp h]
    split <;> rfl
theorem wP_sp (i m : Nat) (st : St) (hm : i ≤ m) (h : (wP kd mo gl sg w P on k i st).2.2 = true) : wP kd mo gl sg w P on k m st = wP kd mo gl sg w P on k i st := by
  obtain ⟨d, rfl⟩ : ∃ d, m = i + d := ⟨m - i, by omega⟩
  exact wP_add i st h d
theorem wP_no (i : Nat) (st : St) (h : ∀ p, i ≤ p → p < P → mayC kd mo gl sg w (pad on) p (celK k) = false) : ∀ m, wP kd mo gl sg w P on k (i + m) st = wP kd mo gl sg w P on k i st
  | 0 => rfl
  | m + 1 => by
    rw [← Nat.add_assoc, wP_s, wP_no i st h m, if_neg]
    intro e
    rw [Bool.and_eq_true] at e
    have := h (i + m) (by omega) (of_decide_eq_true e.1)
    rw [this] at e
    exact absurd e.2 (by decide)
theorem wK_add (k : Nat) (st : St) (h : (wK kd mo gl sg w P on k st).2.2 = true) : ∀ m, wK kd mo gl sg w P on (k + m) st = wK kd mo gl sg w P on k st
  | 0 => rfl
  | m + 1 => by
    rw [← Nat.add_assoc, wK_s, wK_add k st h m]
    exact wP_sp 0 40 _ (by decide) h
theorem wK_sp (i m : Nat) (st : St) (hm : i ≤ m) (h : (wK kd mo gl sg w P on i st).2.2 = true) : wK kd mo gl sg w P on m st = wK kd mo gl sg w P on i st := by
  obtain ⟨d, rfl⟩ : ∃ d, m = i + d := ⟨m - i, by omega⟩
  exact wK_add i st h d
theorem wK_no (k : Nat) (st : St) : ∀ m, (∀ k', k ≤ k' → k' < k + m → ∀ p, p < P → mayC kd mo gl sg w (pad on) p (celK k') = false) → wK kd mo gl sg w P on (k + m) st = wK kd mo gl sg w P on k st
  | 0, _ => rfl
  | m + 1, h => by
    rw [← Nat.add_assoc, wK_s, wK_no k st m (fun k' a b => h k' a (by omega))]
    exact wP_no 0 _ (fun p _ hp => h (k + m) (by omega) (by omega) p hp) 40
/-- the class's tables tell a list of shapes, and the sheet shows one of them -/
def okV (kd : Nat → Nat) (P c : Nat) (on : Nat → Nat) (st : St) (found : Int32) (par pla pie wid siz : (Nat → Int32)) (sums : (Nat → Int64)) (first next : (Nat → Int32)) : Prop :=
  found = nI st.1 ∧ c < st.1 ∧ st.2.1 c = on ∧ ∃ fq fp fk hf hn, okR kd P st.1 fq fp fk st.2.1 hf hn par pla pie wid siz sums first next
theorem sp_add {c p : Nat} {st : St} {found : Int32} {par pla pie wid siz first next : (Nat → Int32)} {sums : (Nat → Int64)} (hP : P ≤ 40) (hk5 : ∀ p, kd p ≤ 5) (hV : okV kd P c on st found par pla pie wid siz sums first next) (hst : st.2.2 = false) (hp : p < P) (hfr : freN kd p k on) (Q : Int32 → Int32 → (Nat → Int32) → (Nat → Int32) → (Nat → Int32) → (Nat → Int32) → (Nat → Int32) → (Nat → Int64) → (Nat → Int32) → (Nat → Int32) → Prop)
    (hQ : ∀ found' par' pla' pie' wid' siz' sums' first' next', okV kd P c on (adS st (layN kd p k on)) found' par' pla' pie' wid' siz' sums' first' next' → Q (bI (!(adS st (layN kd p k on)).2.2)) found' par' pla' pie' wid' siz' sums' first' next') :
    wp_X3_addOnce (fun k => nI (kd k)) (fun j => nI (cc (pad on j))) (nI (cnt on)) found par pla pie wid siz sums first next (nI c) (nI (celK k)) (nI p) Q := by
  obtain ⟨n, sh, b⟩ := st
  dsimp only at hst
  subst hst
  obtain ⟨rfl, v2, v3, fq, fp, fk, hf, hn, v4⟩ := hV
  dsimp only at v2 v3 v4 ⊢
  subst v3
  refine sp_addOnce hP hk5 v4 v2 hp hfr _ (fun ex => ?_) (fun no e => ?_) (fun no lt fq' fp' fk' hf' hn' par' pla' pie' wid' siz' sums' first' next' hR => ?_)
  · have e : adS (n, sh, false) (layN kd p k (sh c)) = (n, sh, false) := by
      unfold adS
      rw [if_neg (show ¬ false = true by decide), if_pos ex]
    rw [e] at hQ
    exact hQ _ _ _ _ _ _ _ _ _ ⟨rfl, v2, rfl, fq, fp, fk, hf, hn, v4⟩
  · have e : adS (n, sh, false) (layN kd p k (sh c)) = (n, sh, true) := by
      unfold adS
      rw [if_neg (show ¬ false = true by decide), if_neg (fun ⟨j, a, b⟩ => no j a b), if_pos e]
    rw [e] at hQ
    exact hQ _ _ _ _ _ _ _ _ _ ⟨rfl, v2, rfl, fq, fp, fk, hf, hn, v4⟩
  · have e : adS (n, sh, false) (layN kd p k (sh c)) = (n + 1, (fun j => if j = n then layN kd p k (sh c) else sh j), false) := by
      unfold adS
      rw [if_neg (show ¬ false = true by decide), if_neg (fun ⟨j, a, b⟩ => no j a b), if_neg (show ¬ n = 300 by omega)]
    rw [e] at hQ
    refine hQ _ _ _ _ _ _ _ _ _ ⟨rfl, by dsimp only; omega, ?_, fq', fp', fk', hf', hn', hR⟩
    dsimp only
    rw [if_neg (by omega)]
theorem sp_line {c y : Nat} {st : St} {fits : (Nat → Int64)} {found : Int32} {par pla pie wid siz first next : (Nat → Int32)} {sums : (Nat → Int64)} (hP : P ≤ 40) (hk5 : ∀ p, kd p ≤ 5) (hon : okS kd P on) (hfit : ∀ c, onC c = true → fits c = fitF kd mo gl sg w (pad on) P c) (hy : y < 16) (hV : okV kd P c on (wK kd mo gl sg w P on (16 * y) st) found par pla pie wid siz sums first next) (hst : (wK kd mo gl sg w P on (16 * y) st).2.2 = false) (Q : Int32 → Int32 → (Nat → Int32) → (Nat → Int32) → (Nat → Int32) → (Nat → Int32) → (Nat → Int32) → (Nat → Int64) → (Nat → Int32) → (Nat → Int32) → Prop)
    (hQ : ∀ found' par' pla' pie' wid' siz' sums' first' next', okV kd P c on (wK kd mo gl sg w P on (16 * y + 16) st) found' par' pla' pie' wid' siz' sums' first' next' → Q (bI (!(wK kd mo gl sg w P on (16 * y + 16) st).2.2)) found' par' pla' pie' wid' siz' sums' first' next') :
    wp_X3_goThroughLine (fun k => nI (kd k)) (fun j => nI (cc (pad on j))) (nI (cnt on)) fits found par pla pie wid siz sums first next (nI c) (nI y) Q := by
  unfold wp_X3_goThroughLine
  have key := lp_up (W := fun f x => ∀ found par pla pie wid siz sums first next, okV kd P c on (wK kd mo gl sg w P on (16 * y + x) st) found par pla pie wid siz sums first next → (wK kd mo gl sg w P on (16 * y + x) st).2.2 = false → wq_X3_goThroughLine_2 (fun k => nI (kd k)) (fun j => nI (cc (pad on j))) (nI (cnt on)) fits Q f found par pla pie wid siz sums first next (nI c) (nI y) (nI x)) (I := fun _ => True) 16 ?_ 0 (by decide) trivial
  · obtain ⟨f, hf⟩ := key
    exact ⟨f, hf _ _ _ _ _ _ _ _ _ hV hst⟩
  · intro f x hx _ ih found par pla pie wid siz sums first next hV hst
    show wf_X3_goThroughLine_2 _ _ _ _ _ _ _ _ _ _ _ _ _ _ _ _ _ _
    unfold wf_X3_goThroughLine_2
    rw [le_16 (by omega)]
    refine ⟨fun q => ?_, fun q => ?_⟩
    · obtain rfl : x = 16 := by omega
      have := hQ _ _ _ _ _ _ _ _ _ hV
      rw [hst] at this
      exact this
    · have hx16 : x < 16 := by omega
      have ih := ih hx16 trivial
      have hcel : celK (16 * y + x) = celN x y := by rw [Nat.add_comm]; exact celK_xy hx16
      have hoc := onC_cel hx16 hy
      have hcb := onC_b hoc
      refine sp_placeOf_t hx16 hy _ ?_
      rw [vp_in' (by omega), nI_clamp' (by omega), hfit _ hoc]
      refine ⟨by omega, ?_⟩
      rintro _ rfl
      have tbm : ∀ p, p < 64 → tb (fitF kd mo gl sg w (pad on) P (celN x y)) p = (decide (p < P) && mayC kd mo gl sg w (pad on) p (celN x y)) := fun p hp => by
        unfold fitF
        rw [tb_mk _ hp]
      have nxt : ∀ found par pla pie wid siz sums first next, okV kd P c on (wK kd mo gl sg w P on (16 * y + (x + 1)) st) found par pla pie wid siz sums first next → (wK kd mo gl sg w P on (16 * y + (x + 1)) st).2.2 = false → ∀ v79 : Int32, v79 = nI x + 1 → wq_X3_goThroughLine_2 (fun k => nI (kd k)) (fun j => nI (cc (pad on j))) (nI (cnt on)) fits Q f found par pla pie wid siz sums first next (nI c) (nI y) v79 := by
        intro found par pla pie wid siz sums first next a b
        rintro _ rfl
        rw [ad_1]
        exact ih _ _ _ _ _ _ _ _ _ a b
      have eK : wK kd mo gl sg w P on (16 * y + (x + 1)) st = wP kd mo gl sg w P on (16 * y + x) 40 (wK kd mo gl sg w P on (16 * y + x) st) := rfl
      rw [eK] at nxt
      have key := lp_up (W := fun m p => ∀ found par pla pie wid siz sums first next, okV kd P c on (wP kd mo gl sg w P on (16 * y + x) p (wK kd mo gl sg w P on (16 * y + x) st)) found par pla pie wid siz sums first next → (wP kd mo gl sg w P on (16 * y + x) p (wK kd mo gl sg w P on (16 * y + x) st)).2.2 = false → wq_X3_goThroughLine_30 (fun k => nI (kd k)) (fun j => nI (cc (pad on j))) (nI (cnt on)) fits (fun a1 a2 a3 a4 a5 a6 a7 a8 a9 a10 a11 a12 => wq_X3_goThroughLine_2 (fun k => nI (kd k)) (fun j => nI (cc (pad on j))) (nI (cnt on)) fits Q f a1 a2 a3 a4 a5 a6 a7 a8 a9 a10 a11 a12) Q m found par pla pie wid siz sums first next (nI c) (nI y) (nI x) (nI (celN x y)) (fitF kd mo gl sg w (pad on) P (celN x y)) (nI p)) (I := fun _ => True) 40 ?_ 0 (by decide) trivial
      · obtain ⟨m, hm⟩ := key
        exact ⟨m, hm _ _ _ _ _ _ _ _ _ hV hst⟩
      · intro m p hp _ ihp found par pla pie wid siz sums first next hV hst
        show wf_X3_goThroughLine_30 _ _ _ _ _ _ _ _ _ _ _ _ _ _ _ _ _ _ _ _ _ _
        unfold wf_X3_goThroughLine_30
        rw [le_40 (by omega)]
        refine ⟨fun q => ?_, fun q => ?_⟩
        · obtain rfl : p = 40 := by omega
          exact nxt _ _ _ _ _ _ _ _ _ hV hst
        · have hp40 : p < 40 := by omega
          have ihp := ihp hp40 trivial
          rw [lgc0, lgcE, tb_low1 _ (by omega)]
          refine ⟨fun z => ?_, fun z => ?_⟩
          · have no : ∀ p', p ≤ p' → p' < P → mayC kd mo gl sg w (pad on) p' (celK (16 * y + x)) = false := by
              intro p' a b
              have := tb_shr (fitF kd mo gl sg w (pad on) P (celN x y)) (k := p) (by omega) (p' - p)
              rw [z, tb_0, show p + (p' - p) = p' by omega, tbm p' (by omega), decide_eq_true b, Bool.true_and] at this
              rw [hcel]
              exact this.symm
            have e := wP_no p (wK kd mo gl sg w P on (16 * y + x) st) no (40 - p)
            rw [show p + (40 - p) = 40 by omega] at e
            rw [e] at nxt
            exact nxt _ _ _ _ _ _ _ _ _ hV hst
          · rw [tbm p (by omega)]
            have es := wP_s (kd := kd) (mo := mo) (gl := gl) (sg := sg) (w := w) (P := P) (on := on) (k := 16 * y + x) p (wK kd mo gl sg w P on (16 * y + x) st)
            rw [hcel] at es
            refine ⟨fun z2 => ?_, fun z2 => ?_⟩
            · rintro _ rfl
              rw [ad_1]
              rw [if_neg z2] at es
              rw [es] at ihp
              exact ihp _ _ _ _ _ _ _ _ _ hV hst
            · rw [if_pos z2] at es
              rw [Bool.and_eq_true] at z2
              have hpP := of_decide_eq_true z2.1
              have hfr : freN kd p (16 * y + x) on := by
                have := (mayC_fre z2.2).1
                rw [Nat.add_comm]
                exact fre_N hx16 hy this
              rw [← hcel]
              refine sp_add (k := 16 * y + x) hP hk5 hV hst hpP hfr _ (fun found' par' pla' pie' wid' siz' sums' first' next' hV' => ?_)
              rw [← es] at hV' ⊢
              refine ⟨fun y1 => ?_, fun y1 => ?_⟩
              · rintro _ rfl
                rw [ad_1, hcel]
                have : (wP kd mo gl sg w P on (16 * y + x) (p + 1) (wK kd mo gl sg w P on (16 * y + x) st)).2.2 = false := by
                  rw [bI_0] at y1
                  simpa using y1
                exact ihp _ _ _ _ _ _ _ _ _ hV' this
              · rw [bI_0] at y1
                have hsp : (wP kd mo gl sg w P on (16 * y + x) (p + 1) (wK kd mo gl sg w P on (16 * y + x) st)).2.2 = true := by simpa using y1
                have e1 := wP_sp (p + 1) 40 _ (by omega) hsp
                rw [← wK_s] at e1
                have hsp2 := hsp
                rw [← e1] at hsp2 hV'
                have e2 := wK_sp (16 * y + x + 1) (16 * y + 16) st (by omega) hsp2
                rw [← e2] at hV' hsp2
                have := hQ _ _ _ _ _ _ _ _ _ hV'
                rw [hsp2] at this
                exact this
end
