/-! known shapes, by a sum over what came -/
def scat (v : Int32) : Int64 := ((((v.toInt64 + (1 : Int64)) * (-7046029254386353131 : Int64)) ^^^ ((((v.toInt64 + (1 : Int64)) * (-7046029254386353131 : Int64)).toUInt64 >>> ((31 : Int32).toInt64.toUInt64 &&& Int64.toUInt64 63)).toInt64)) * (-4658895280553007687 : Int64)) ^^^ (((((((v.toInt64 + (1 : Int64)) * (-7046029254386353131 : Int64)) ^^^ ((((v.toInt64 + (1 : Int64)) * (-7046029254386353131 : Int64)).toUInt64 >>> ((31 : Int32).toInt64.toUInt64 &&& Int64.toUInt64 63)).toInt64)) * (-4658895280553007687 : Int64))).toUInt64 >>> ((29 : Int32).toInt64.toUInt64 &&& Int64.toUInt64 63)).toInt64)
theorem sp_scat (v : Int32) (Q : Int64 → Prop) (h : Q (scat v)) : wp_X3_scattered v Q := by
  unfold wp_X3_scattered
  rintro _ rfl _ rfl
  exact h
def smL (f : Nat → Int64) : Nat → Int64
  | 0 => 0
  | n + 1 => smL f n + f n
theorem smL_up {f g : Nat → Int64} {k : Nat} {v : Int64} (h : ∀ j, j ≠ k → g j = f j) (hf : f k = 0) (hg : g k = v) : ∀ n, smL g n = if k < n then smL f n + v else smL f n
  | 0 => by rw [if_neg (by omega)]; rfl
  | n + 1 => by
    show smL g n + g n = _
    rw [smL_up h hf hg n]
    rcases Nat.lt_trichotomy k n with x | x | x
    · rw [if_pos x, if_pos (by omega), h n (by omega)]
      show smL f n + v + f n = smL f n + f n + v
      rw [Int64.add_assoc, Int64.add_comm v, ← Int64.add_assoc]
    · subst x
      rw [if_neg (by omega), if_pos (by omega), hg]
      show _ = smL f k + f k + v
      rw [hf, Int64.add_zero]
    · rw [if_neg (by omega), if_neg (by omega), h n (by omega)]
      rfl
/-- the sum of what came to a shape -/
def hsm (s0 on : Nat → Nat) : Int64 := smL (fun k => if on k % 2 = 1 ∧ s0 k = 0 then scat ((64 : Int32) * nI (celK k) + nI ((on k - 1) / 2)) else 0) 256
theorem hsm_0 (s0 : Nat → Nat) : hsm s0 s0 = 0 := by
  have : ∀ n, smL (fun k => if s0 k % 2 = 1 ∧ s0 k = 0 then scat ((64 : Int32) * nI (celK k) + nI ((s0 k - 1) / 2)) else 0) n = 0 := by
    intro n
    induction n with
    | zero => rfl
    | succ n ih =>
      show smL _ n + (if s0 n % 2 = 1 ∧ s0 n = 0 then scat ((64 : Int32) * nI (celK n) + nI ((s0 n - 1) / 2)) else 0) = 0
      rw [ih, if_neg (by omega), Int64.add_zero]
  exact this 256
theorem hsm_lay {kd s0 on : Nat → Nat} {p k : Nat} (hf : freN kd p k on) (h0 : s0 k = 0) : hsm s0 (layN kd p k on) = hsm s0 on + scat ((64 : Int32) * nI (celK k) + nI p) := by
  unfold hsm
  rw [smL_up (f := fun k => if on k % 2 = 1 ∧ s0 k = 0 then scat ((64 : Int32) * nI (celK k) + nI ((on k - 1) / 2)) else 0) (k := k) (v := scat ((64 : Int32) * nI (celK k) + nI p)) ?_ ?_ ?_ 256, if_pos hf.1]
  · intro j hj
    try dsimp only
    rw [lay_v]
    by_cases c : kd p = 2 ∧ j = k + 1
    · rw [if_pos c, if_neg (by omega), if_neg]
      rw [c.2, (hf.2.2 c.1).2]
      omega
    · rw [if_neg c, if_neg hj]
  · try dsimp only
    rw [hf.2.1, if_neg (by omega)]
  · try dsimp only
    rw [lay_at, if_pos ⟨by omega, h0⟩, show (1 + 2 * p - 1) / 2 = p by omega]
def bk (s : Int64) : Nat := ((((s.toUInt64 >>> ((40 : Int32).toInt64.toUInt64 &&& Int64.toUInt64 63)).toInt64).toInt32) &&& (511 : Int32)).toBitVec.toNat
theorem bk_lt (s : Int64) : bk s < 512 := by
  unfold bk
  rw [Int32.toBitVec_and, BitVec.toNat_and]
  have : (511 : Int32).toBitVec.toNat = 511 := rfl
  rw [this]
  exact Nat.lt_of_le_of_lt Nat.and_le_right (by decide)
theorem bk_I (s : Int64) : ((((s.toUInt64 >>> ((40 : Int32).toInt64.toUInt64 &&& Int64.toUInt64 63)).toInt64).toInt32) &&& (511 : Int32)) = nI (bk s) := by
  have h := bk_lt s
  apply Int32.toBitVec_inj.mp
  apply BitVec.eq_of_toNat_eq
  have e : (nI (bk s)).toBitVec.toNat = bk s := by
    show (Int32.ofNat (bk s)).toBitVec.toNat = bk s
    rw [Int32.toBitVec_ofNat', BitVec.toNat_ofNat]
    omega
  rw [e]
  rfl
theorem lgcE (x y : Int64) : lg_cmp x y = 0 ↔ x = y := by
  unfold lg_cmp
  constructor
  · intro h
    repeat' split at h
    all_goals first | assumption | exact absurd h (by decide)
  · rintro rfl
    simp
def ph (x : Nat) : Int32 := if x = 0 then -1 else nI x
def okHb (n : Nat) (B : Nat → Nat) (hf hn : Nat → Nat) (first next : (Nat → Int32)) : Prop :=
  (∀ b, b < 512 → first b = ph (hf b) ∧ hf b < n ∧ (hf b ≠ 0 → B (hf b) = b) ∧ ∀ i, hf b < i → i < n → B i ≠ b) ∧ ∀ j, 0 < j → j < n → next j = ph (hn j) ∧ hn j < j ∧ (hn j ≠ 0 → B (hn j) = B j) ∧ ∀ i, hn j < i → i < j → B i ≠ B j
def okR (kd : Nat → Nat) (P n : Nat) (fq fp fk : Nat → Nat) (sh : Nat → Nat → Nat) (hf hn : Nat → Nat) (par pla pie wid siz : (Nat → Int32)) (sums : (Nat → Int64)) (first next : (Nat → Int32)) : Prop :=
  0 < n ∧ n ≤ 300 ∧ okN kd P n fq fp fk sh ∧ okNA n fq fp fk par pla pie ∧ (∀ j, 0 < j → j < n → wid j = bI (decide (kd (fp j) = 2))) ∧ (∀ j, j < n → siz j = nI (cnt (sh j))) ∧ (∀ j, j < n → sums j = hsm (sh 0) (sh j)) ∧ okHb n (fun j => bk (hsm (sh 0) (sh j))) hf hn first next
section
variable {kd mo gl sg : Nat → Nat} {P n w : Nat} {fq fp fk : Nat → Nat} {sh : Nat → Nat → Nat} {hf hn : Nat → Nat} {par pla pie wid siz first next : (Nat → Int32)} {sums : (Nat → Int64)}
theorem sp_isKnown (hP : P ≤ 40) (hR : okR kd P n fq fp fk sh hf hn par pla pie wid siz sums first next) {c p k : Nat} (hc : c < n) (hp : p < P) (hfr : freN kd p k (sh c)) (Q : Int32 → Prop) (q1 : (∃ j, j < n ∧ sh j = layN kd p k (sh c)) → Q 1) (q0 : (∀ j, j < n → sh j ≠ layN kd p k (sh c)) → Q 0) :
    wp_X3_isKnown (fun j => nI (cc (pad (sh c) j))) (nI (cnt (sh c))) par pla pie siz sums first next (nI (bk (hsm (sh 0) (layN kd p k (sh c))))) (hsm (sh 0) (layN kd p k (sh c))) (nI (celK k)) (nI p) Q := by
  obtain ⟨r1, r2, r3, r4, r5, r6, r7, r8, r9⟩ := hR
  have hb := bk_lt (hsm (sh 0) (layN kd p k (sh c)))
  obtain ⟨b1, b2, b3, b4⟩ := r8 _ hb
  have hcl := cnt_lay hfr
  have s0c := (anc0_sub r3 hc (anc0_0 r3 c hc)).1
  have n0 : sh 0 ≠ layN kd p k (sh c) := by
    intro e
    have := s0c k (by rw [e, lay_at]; omega)
    rw [hfr.2.1, e, lay_at] at this
    omega
  unfold wp_X3_isKnown
  rw [vp_in' (by omega), nI_clamp' (by omega), b1]
  refine ⟨hb, ?_⟩
  rintro _ rfl
  have endd : (∀ i, 0 < i → i < n → bk (hsm (sh 0) (sh i)) = bk (hsm (sh 0) (layN kd p k (sh c))) → sh i ≠ layN kd p k (sh c)) → Q 0 := by
    intro g
    refine q0 (fun j hj e => ?_)
    rcases Nat.eq_zero_or_pos j with x | x
    · rw [x] at e; exact n0 e
    · exact g j x hj (by rw [e]) e
  refine pk_loop (σ := Nat) (fun f i z => wq_X3_isKnown_11 (fun j => nI (cc (pad (sh c) j))) (nI (cnt (sh c))) par pla pie siz sums first next Q f (hsm (sh 0) (layN kd p k (sh c))) (nI (celK k)) (nI p) (ph z) (nI i)) (fun i z => z < n ∧ (z + i ≤ 299 ∨ z = 0) ∧ (z ≠ 0 → bk (hsm (sh 0) (sh z)) = bk (hsm (sh 0) (layN kd p k (sh c)))) ∧ ∀ i, z < i → i < n → bk (hsm (sh 0) (sh i)) = bk (hsm (sh 0) (layN kd p k (sh c))) → sh i ≠ layN kd p k (sh c)) 300 0 (hf (bk (hsm (sh 0) (layN kd p k (sh c))))) (by decide) ⟨b2, Or.inl (by omega), b3, fun i x y z => absurd z (b4 i x y)⟩ ?_ ?_
  · rintro f z ⟨g1, g2, g3, g4⟩
    show wf_X3_isKnown_11 _ _ _ _ _ _ _ _ _ _ _ _ _ _ _ _
    unfold wf_X3_isKnown_11
    refine ⟨fun _ => ?_, fun q => absurd (by decide) q⟩
    obtain rfl : z = 0 := by omega
    exact endd g4
  · rintro f i z hi ⟨g1, g2, g3, g4⟩ ih
    show wf_X3_isKnown_11 _ _ _ _ _ _ _ _ _ _ _ _ _ _ _ _
    unfold wf_X3_isKnown_11
    rw [le_300 (by omega)]
    refine ⟨fun q => absurd q (by omega), fun _ => ?_⟩
    rcases Nat.eq_zero_or_pos z with x | x
    · subst x
      exact ⟨fun _ => endd g4, fun q => absurd rfl q⟩
    · have e : ph z = nI z := if_neg (by omega)
      rw [e]
      refine ⟨fun q => absurd q (nI_nm1 (by omega)), fun _ => ?_⟩
      obtain ⟨h1, h2, h3, h4⟩ := r9 z x g1
      dsimp only at h3 h4
      have next : sh z ≠ layN kd p k (sh c) → wq_X3_isKnown_52 (fun j => nI (cc (pad (sh c) j))) (nI (cnt (sh c))) par pla pie siz sums first next (fun a b c' d e => wq_X3_isKnown_11 (fun j => nI (cc (pad (sh c) j))) (nI (cnt (sh c))) par pla pie siz sums first next Q f a b c' d e) Q (hsm (sh 0) (layN kd p k (sh c))) (nI (celK k)) (nI p) (nI z) (nI i) := by
        intro hne
        unfold wq_X3_isKnown_52
        rw [vp_in' (by omega), nI_clamp' (by omega), h1]
        refine ⟨by omega, ?_⟩
        rintro _ rfl _ rfl
        rw [ad_1]
        refine ih (hn z) ⟨by omega, Or.inl (by omega), fun y => by rw [h3 y]; exact g3 (by omega), fun i' y1 y2 y3 => ?_⟩
        rcases Nat.lt_trichotomy i' z with u | u | u
        · exact absurd (by rw [y3, g3 (by omega)]) (h4 i' y1 u)
        · rw [u]; exact hne
        · exact g4 i' u y2 y3
      rw [vp_in' (by omega), nI_clamp' (by omega), r7 z g1]
      refine ⟨by omega, ?_⟩
      rintro _ rfl
      rw [lgcE]
      refine ⟨fun y => next (fun u => y (by rw [u])), fun y => ?_⟩
      refine sp_isSame hP r3 r4 r2 r6 hc g1 hp hfr _ (fun u => ⟨fun q => absurd q (by decide), fun _ => q1 ⟨z, g1, u⟩⟩) (fun u => ⟨fun _ => next u, fun q => absurd rfl q⟩)
theorem sp_addOnce (hP : P ≤ 40) (hk5 : ∀ p, kd p ≤ 5) (hR : okR kd P n fq fp fk sh hf hn par pla pie wid siz sums first next) {c p k : Nat} (hc : c < n) (hp : p < P) (hfr : freN kd p k (sh c)) (Q : Int32 → Int32 → (Nat → Int32) → (Nat → Int32) → (Nat → Int32) → (Nat → Int32) → (Nat → Int32) → (Nat → Int64) → (Nat → Int32) → (Nat → Int32) → Prop)
    (q1 : (∃ j, j < n ∧ sh j = layN kd p k (sh c)) → Q 1 (nI n) par pla pie wid siz sums first next)
    (q0 : (∀ j, j < n → sh j ≠ layN kd p k (sh c)) → n = 300 → Q 0 (nI n) par pla pie wid siz sums first next)
    (q2 : (∀ j, j < n → sh j ≠ layN kd p k (sh c)) → n < 300 → ∀ fq' fp' fk' hf' hn' par' pla' pie' wid' siz' sums' first' next', okR kd P (n + 1) fq' fp' fk' (fun j => if j = n then layN kd p k (sh c) else sh j) hf' hn' par' pla' pie' wid' siz' sums' first' next' → Q 1 (nI (n + 1)) par' pla' pie' wid' siz' sums' first' next') :
    wp_X3_addOnce (fun k => nI (kd k)) (fun j => nI (cc (pad (sh c) j))) (nI (cnt (sh c))) (nI n) par pla pie wid siz sums first next (nI c) (nI (celK k)) (nI p) Q := by
  have hR' := hR
  obtain ⟨r1, r2, r3, r4, r5, r6, r7, r8, r9⟩ := hR
  have hcl := cnt_lay hfr
  have s0c := (anc0_sub r3 hc (anc0_0 r3 c hc)).1
  have h0k : sh 0 k = 0 := by
    refine Classical.byContradiction fun y => ?_
    have := s0c k y
    rw [hfr.2.1] at this
    exact y this.symm
  have hsum := hsm_lay (s0 := sh 0) hfr h0k
  have hb := bk_lt (hsm (sh 0) (layN kd p k (sh c)))
  have hcb : cnt (sh c) ≤ 256 := fb_ct_le _ _
  have hkb := celK_b hfr.1
  have hkp := hk5 p
  unfold wp_X3_addOnce
  rw [vp_in' (by omega), nI_clamp' (by omega), r7 c hc]
  refine ⟨by omega, ?_⟩
  rintro _ rfl
  refine sp_scat _ _ ?_
  rintro _ rfl
  rw [← hsum, bk_I]
  rintro _ rfl
  refine sp_isKnown hP hR' hc hp hfr _ (fun ex => ⟨fun q => absurd q (by decide), fun _ => q1 ex⟩) (fun no => ⟨fun _ => ?_, fun q => absurd rfl q⟩)
  rw [ls_300 (by omega)]
  refine ⟨fun hlt => ?_, fun hge => q0 no (by omega)⟩
  rintro _ rfl
  rw [vp_in' (by omega), nI_clamp' (by omega)]
  refine ⟨hlt, ?_⟩
  rintro _ rfl
  refine ⟨hlt, ?_⟩
  rintro _ rfl
  refine ⟨hlt, ?_⟩
  rintro _ rfl
  rw [vp_in' (by omega), nI_clamp' (by omega)]
  refine ⟨by omega, ?_⟩
  rintro _ rfl
  generalize hTg : layN kd p k (sh c) = tgt at *
  obtain ⟨f1, f2, f3, f4⟩ := r8 _ hb
  have fin : wq_X3_addOnce_124 (fun k => nI (kd k)) (fun j => nI (cc (pad (sh c) j))) (nI (cnt (sh c))) Q (nI (n + 1)) (upd par n (nI c)) (upd pla n (nI (celK k))) (upd pie n (nI p)) wid siz sums first next (nI c) (hsm (sh 0) tgt) (nI (bk (hsm (sh 0) tgt))) (nI n) (nI n) (bI (decide (kd p = 2))) := by
    unfold wq_X3_addOnce_124
    rw [vp_in' (by omega), nI_clamp' (by omega), nar_b]
    refine ⟨hlt, ?_⟩
    rintro _ rfl
    rw [vp_in' (by omega), nI_clamp' (by omega), r6 c hc]
    refine ⟨by omega, ?_⟩
    rintro _ rfl
    refine ⟨hlt, ?_⟩
    rintro _ rfl
    refine ⟨hlt, ?_⟩
    rintro _ rfl
    rw [vp_in' (by omega), nI_clamp' (by omega)]
    refine ⟨hb, ?_⟩
    rintro _ rfl
    refine ⟨hlt, ?_⟩
    rintro _ rfl
    refine ⟨hb, ?_⟩
    rintro _ rfl
    have e0 : (if 0 = n then tgt else sh 0) = sh 0 := if_neg (by omega)
    have old : ∀ j, j < n → (if j = n then tgt else sh j) = sh j := fun j hj => if_neg (by omega)
    refine q2 no hlt (upN fq n c) (upN fp n p) (upN fk n k) (upN hf (bk (hsm (sh 0) tgt)) n) (upN hn n (hf (bk (hsm (sh 0) tgt)))) _ _ _ _ _ _ _ _ ⟨by omega, by omega, ⟨?_, ?_⟩, ?_, ?_, ?_, ?_, ?_, ?_⟩
    · intro j hj
      dsimp only
      rcases Nat.lt_or_ge j n with x | x
      · rw [old j x]; exact r3.1 j x
      · rw [if_pos (show j = n by omega), ← hTg]; exact okS_lay (r3.1 c hc) hp hfr
    · intro j hj0 hj
      rcases Nat.lt_or_ge j n with x | x
      · obtain ⟨a1, a2, a3, a4⟩ := r3.2 j hj0 x
        rw [upN_n (by omega), upN_n (by omega), upN_n (by omega)]
        dsimp only
        rw [old j x, old (fq j) (by omega)]
        exact ⟨a1, a2, a3, a4⟩
      · obtain rfl : j = n := by omega
        rw [upN_s, upN_s, upN_s]
        dsimp only
        rw [if_pos rfl, old c hc, hTg]
        exact ⟨hc, hp, hfr, rfl⟩
    · intro j hj0 hj
      rw [upd_at, upd_at, upd_at]
      rcases Nat.lt_or_ge j n with x | x
      · rw [if_neg (by omega), if_neg (by omega), if_neg (by omega), upN_n (by omega), upN_n (by omega), upN_n (by omega)]
        exact r4 j hj0 x
      · obtain rfl : j = n := by omega
        rw [if_pos rfl, if_pos rfl, if_pos rfl, upN_s, upN_s, upN_s]
        exact ⟨rfl, rfl, rfl⟩
    · intro j hj0 hj
      rw [upd_at]
      rcases Nat.lt_or_ge j n with x | x
      · rw [if_neg (by omega), upN_n (by omega)]
        exact r5 j hj0 x
      · obtain rfl : j = n := by omega
        rw [if_pos rfl, upN_s]
    · intro j hj
      dsimp only
      rw [upd_at]
      rcases Nat.lt_or_ge j n with x | x
      · rw [if_neg (by omega), old j x]
        exact r6 j x
      · obtain rfl : j = n := by omega
        rw [if_pos rfl, if_pos rfl, hcl.1, ad_1]
    · intro j hj
      dsimp only
      rw [updL_at, e0]
      rcases Nat.lt_or_ge j n with x | x
      · rw [if_neg (by omega), old j x]
        exact r7 j x
      · obtain rfl : j = n := by omega
        rw [if_pos rfl, if_pos rfl]
    · intro b hb5
      dsimp only
      rw [upd_at, e0]
      by_cases eb : b = bk (hsm (sh 0) tgt)
      · rw [if_pos eb, eb, upN_s]
        refine ⟨(if_neg (by omega)).symm, by omega, fun _ => by rw [if_pos rfl], fun i x y => by omega⟩
      · obtain ⟨b1, b2, b3, b4⟩ := r8 b hb5
        rw [if_neg eb, upN_n eb]
        refine ⟨b1, by omega, fun y => by rw [old _ b2]; exact b3 y, fun i x y => ?_⟩
        rcases Nat.lt_or_ge i n with u | u
        · rw [old i u]; exact b4 i x u
        · rw [if_pos (show i = n by omega)]
          exact fun z => eb z.symm
    · intro j hj0 hj
      dsimp only
      rw [upd_at, e0]
      rcases Nat.lt_or_ge j n with x | x
      · obtain ⟨b1, b2, b3, b4⟩ := r9 j hj0 x
        rw [if_neg (by omega), upN_n (by omega), old j x]
        refine ⟨b1, b2, fun y => by rw [old _ (by omega)]; exact b3 y, fun i u v => ?_⟩
        rw [old i (by omega)]
        exact b4 i u v
      · obtain rfl : j = n := by omega
        rw [if_pos rfl, upN_s, if_pos rfl]
        refine ⟨f1, f2, fun y => by rw [old _ f2]; exact f3 y, fun i u v => ?_⟩
        rw [old i v]
        exact f4 i u v
  rw [eq_2 (by omega)]
  refine ⟨fun x => ?_, fun x => ?_⟩
  · rw [ad_1]
    have e : bI (decide (kd p = 2)) = 0 := by rw [decide_eq_false x]; rfl
    rw [e] at fin
    exact fin
  · rw [ad_1]
    have e : bI (decide (kd p = 2)) = 1 := by rw [decide_eq_true x]; rfl
    rw [e] at fin
    exact fin
end
