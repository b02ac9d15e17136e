/-! the choices in their order -/
def nC (kd mo gl sg : Nat → Nat) (w : Nat) (B : Nat → Nat) (P c : Nat) : Nat := fb_ct (fun p => mayC kd mo gl sg w B p c) P
def nX (kd mo gl sg : Nat → Nat) (w : Nat) (B : Nat → Nat) (P y x : Nat) : Nat := fb_sm (fun x => nC kd mo gl sg w B P (celN x y)) x
def nY (kd mo gl sg : Nat → Nat) (w : Nat) (B : Nat → Nat) (P y : Nat) : Nat := fb_sm (fun y => nX kd mo gl sg w B P y 16) y
def rk (kd mo gl sg : Nat → Nat) (w : Nat) (B : Nat → Nat) (P y x p : Nat) : Nat := nY kd mo gl sg w B P y + nX kd mo gl sg w B P y x + fb_ct (fun p => mayC kd mo gl sg w B p (celN x y)) p
def nA (kd mo gl sg : Nat → Nat) (w : Nat) (B : Nat → Nat) (P : Nat) : Nat := nY kd mo gl sg w B P 16
def CH (kd mo gl sg : Nat → Nat) (w : Nat) (B : Nat → Nat) (P j y x p : Nat) : Prop := j = rk kd mo gl sg w B P y x p ∧ mayC kd mo gl sg w B p (celN x y) = true ∧ y < 16 ∧ x < 16 ∧ p < P
section
variable {kd mo gl sg : Nat → Nat} {w : Nat} {B : Nat → Nat} {P : Nat}
theorem nC_le (c : Nat) : nC kd mo gl sg w B P c ≤ P := fb_ct_le _ _
theorem nX_s (y x : Nat) : nX kd mo gl sg w B P y (x + 1) = nX kd mo gl sg w B P y x + nC kd mo gl sg w B P (celN x y) := rfl
theorem nY_s (y : Nat) : nY kd mo gl sg w B P (y + 1) = nY kd mo gl sg w B P y + nX kd mo gl sg w B P y 16 := rfl
theorem nX_le (hP : P ≤ 40) (y : Nat) : ∀ x, nX kd mo gl sg w B P y x ≤ 40 * x
  | 0 => Nat.le_refl _
  | x + 1 => by
    have h1 := nX_le hP y x
    have h2 := nC_le (kd := kd) (mo := mo) (gl := gl) (sg := sg) (w := w) (B := B) (P := P) (celN x y)
    rw [nX_s]
    omega
theorem nY_le (hP : P ≤ 40) : ∀ y, nY kd mo gl sg w B P y ≤ 640 * y
  | 0 => Nat.le_refl _
  | y + 1 => by
    have h1 := nY_le hP y
    have h2 := nX_le (kd := kd) (mo := mo) (gl := gl) (sg := sg) (w := w) (B := B) hP y 16
    rw [nY_s]
    omega
theorem rk_le (hP : P ≤ 40) {y x p : Nat} (hy : y ≤ 16) (hx : x ≤ 16) (hp : p ≤ P) : rk kd mo gl sg w B P y x p ≤ 11000 := by
  have h1 := nY_le (kd := kd) (mo := mo) (gl := gl) (sg := sg) (w := w) (B := B) hP y
  have h2 := nX_le (kd := kd) (mo := mo) (gl := gl) (sg := sg) (w := w) (B := B) hP y x
  have h3 := fb_ct_le (fun p => mayC kd mo gl sg w B p (celN x y)) p
  unfold rk
  omega
theorem nX_mono (y : Nat) {a b : Nat} (h : a ≤ b) : nX kd mo gl sg w B P y a ≤ nX kd mo gl sg w B P y b := by
  have := fb_sm_mono (fun x => nC kd mo gl sg w B P (celN x y)) a (b - a)
  rwa [Nat.add_sub_cancel' h] at this
theorem nY_mono {a b : Nat} (h : a ≤ b) : nY kd mo gl sg w B P a ≤ nY kd mo gl sg w B P b := by
  have := fb_sm_mono (fun y => nX kd mo gl sg w B P y 16) a (b - a)
  rwa [Nat.add_sub_cancel' h] at this
theorem CH_lt {j y x p : Nat} (h : CH kd mo gl sg w B P j y x p) : j < nY kd mo gl sg w B P y + nX kd mo gl sg w B P y (x + 1) := by
  obtain ⟨h1, h2, h3, h4, h5⟩ := h
  have a1 := fb_ct_mono (fun p => mayC kd mo gl sg w B p (celN x y)) (show p + 1 ≤ P by omega)
  rw [fb_ct_succ, h2] at a1
  unfold rk at h1
  rw [nX_s]
  unfold nC
  simp at a1
  omega
theorem CH_lt2 {j y x p : Nat} (h : CH kd mo gl sg w B P j y x p) : j < nY kd mo gl sg w B P (y + 1) := by
  have h1 := CH_lt h
  have h2 := nX_mono (kd := kd) (mo := mo) (gl := gl) (sg := sg) (w := w) (B := B) (P := P) y (show x + 1 ≤ 16 from h.2.2.2.1)
  rw [nY_s]
  omega
theorem CH_ge {j y x p : Nat} (h : CH kd mo gl sg w B P j y x p) : nY kd mo gl sg w B P y + nX kd mo gl sg w B P y x ≤ j := by
  have := h.1
  unfold rk at this
  omega
theorem CH_one {j y x p y' x' p' : Nat} (h : CH kd mo gl sg w B P j y x p) (h' : CH kd mo gl sg w B P j y' x' p') : y = y' ∧ x = x' ∧ p = p' := by
  have ky : ∀ {y x p y' x' p' : Nat}, CH kd mo gl sg w B P j y x p → CH kd mo gl sg w B P j y' x' p' → ¬ y < y' := by
    intro y x p y' x' p' h h' hl
    have a1 := CH_lt2 h
    have a2 := CH_ge h'
    have a3 := nY_mono (kd := kd) (mo := mo) (gl := gl) (sg := sg) (w := w) (B := B) (P := P) (show y + 1 ≤ y' from hl)
    omega
  have e1 : y = y' := by
    have := ky h h'
    have := ky h' h
    omega
  subst e1
  have kx : ∀ {x p x' p' : Nat}, CH kd mo gl sg w B P j y x p → CH kd mo gl sg w B P j y x' p' → ¬ x < x' := by
    intro x p x' p' h h' hl
    have a1 := CH_lt h
    have a2 := CH_ge h'
    have a3 := nX_mono (kd := kd) (mo := mo) (gl := gl) (sg := sg) (w := w) (B := B) (P := P) y (show x + 1 ≤ x' from hl)
    omega
  have e2 : x = x' := by
    have := kx h h'
    have := kx h' h
    omega
  subst e2
  refine ⟨rfl, rfl, fb_ct_kth_one (p := fun p => mayC kd mo gl sg w B p (celN x y)) h.2.1 h'.2.1 ?_⟩
  have a1 := h.1
  have a2 := h'.1
  unfold rk at a1 a2
  omega
theorem pc_fit (hP : P ≤ 40) (c : Nat) : pc (fitF kd mo gl sg w B P c) = nC kd mo gl sg w B P c := by
  unfold pc nC
  have e : (64 : Nat) = P + (64 - P) := by omega
  have h0 : fb_ct (fun k => tb (fitF kd mo gl sg w B P c) (P + k)) (64 - P) = 0 := by
    rw [fb_ct_zero]
    intro k hk
    unfold fitF
    rw [tb_mk _ (by omega)]
    simp
    intro q
    omega
  rw [e, fb_ct_split, h0, Nat.add_zero]
  apply fb_ct_cong
  intro k hk
  unfold fitF
  rw [tb_mk _ (by omega)]
  simp [hk]
theorem tb_fit (hP : P ≤ 40) {c p : Nat} (hp : p < P) : tb (fitF kd mo gl sg w B P c) p = mayC kd mo gl sg w B p c := by
  unfold fitF
  rw [tb_mk _ (by omega)]
  simp [hp]
theorem lnS_fit (hP : P ≤ 40) {fits : Nat → Int64} (h : ∀ c, onC c = true → fits c = fitF kd mo gl sg w B P c) {y : Nat} (hy : y < 16) : lnS fits y = nX kd mo gl sg w B P y 16 := by
  unfold lnS nX
  apply fb_sm_cong
  intro x hx
  rw [h _ (onC_cel hx hy), pc_fit hP]
theorem alS_fit (hP : P ≤ 40) {fits : Nat → Int64} (h : ∀ c, onC c = true → fits c = fitF kd mo gl sg w B P c) : alS fits = nA kd mo gl sg w B P := by
  unfold alS nA nY
  apply fb_sm_cong
  intro y hy
  exact lnS_fit hP h hy
end
theorem sp_lowest {x : Int64} {p k : Nat} (hp : p < 64) (hb : tb x p = true) (hk : fb_ct (tb x) p = k) (Q : Int32 → Prop) (h : Q (nI p)) : wp_X4_lowestBitAfter x (nI k) Q := by
  have hk64 : k ≤ 64 := by rw [← hk]; exact Nat.le_trans (fb_ct_le _ _) (by omega)
  have low : ∀ i q, tb x q = true → fb_ct (tb x) q = i → ∀ j, j < q → (tb x j && decide (i ≤ fb_ct (tb x) j)) = false := by
    intro i q hq hi j hj
    cases hx : tb x j
    · rfl
    · have a1 := fb_ct_mono (tb x) (show j + 1 ≤ q from hj)
      rw [fb_ct_succ, hx] at a1
      simp at a1
      simp
      omega
  unfold wp_X4_lowestBitAfter
  have key := lp_up (W := fun n i => wq_X4_lowestBitAfter_5 Q n (nI k) (mk (fun j => tb x j && decide (i ≤ fb_ct (tb x) j))) (nI i)) (I := fun _ => True) k ?_ 0 (Nat.zero_le _) trivial
  · have e : mk (fun j => tb x j && decide (0 ≤ fb_ct (tb x) j)) = x := by
      apply tb_ext
      intro i hi
      rw [tb_mk _ hi]
      simp
    rw [e] at key
    exact key
  · intro n i hi _ ih
    show wf_X4_lowestBitAfter_5 _ _ _ _ _
    unfold wf_X4_lowestBitAfter_5
    rw [nI_le' (by omega) (by omega)]
    refine ⟨fun q => ?_, fun q => ?_⟩
    · obtain rfl : i = k := by omega
      refine sp_ntz hp ?_ (fun j hj => ?_) _ h
      · rw [tb_mk _ hp, hb, hk]
        simp
      · rw [tb_mk _ (by omega)]
        exact low i p hb hk j hj
    · have ih := ih (by omega) trivial
      rintro _ rfl _ rfl
      obtain ⟨r, hr, hr1, hr2⟩ := fb_ct_kth (p := tb x) (k := i) (n := p) (by omega)
      rw [ad_1]
      refine Eq.mp ?_ ih
      congr 1
      apply tb_ext
      intro j hj
      rw [tb_drop (k := r) (by rw [tb_mk _ (by omega), hr1, hr2]; simp) (fun j' hj' => by rw [tb_mk _ (by omega)]; exact low i r hr1 hr2 j' hj') hj, tb_mk _ hj, tb_mk _ hj]
      cases hx : tb x j
      · rfl
      · rw [Bool.true_and, Bool.true_and, Bool.eq_iff_iff]
        simp
        have one := fb_ct_kth_one (p := tb x) (i := j) (j := r) hx hr1
        constructor
        · intro a
          refine ⟨by omega, fun e => ?_⟩
          subst e
          omega
        · rintro ⟨a, b⟩
          rcases Nat.lt_or_ge i (fb_ct (tb x) j) with c | c
          · exact c
          · exact absurd (one (by omega)) b
theorem sp_placeOf_t {x y : Nat} (hx : x < 16) (hy : y < 16) (Q : Int32 → Prop) (h : Q (nI (celN x y))) : wp_X7_placeOf (nI x) (nI y) Q := by
  unfold wp_X7_placeOf
  refine ⟨fun q => absurd q (nI_pos (by omega)), fun _ => ⟨fun q => absurd q (nI_ge (a := x) (b := 16) hx (by decide)), fun _ => ⟨fun q => absurd q (nI_pos (by omega)), fun _ => ⟨fun _ => ?_, fun q => absurd (nI_lt (a := y) (b := 16) hy (by decide)) q⟩⟩⟩⟩
  rw [ad_1, um_18, nI_add, ad_1]
  have e : (y + 1) * 18 + x + 1 = celN x y := by unfold celN; omega
  rw [e]
  exact h
theorem sp_placeOf_f {x y : Int32} (hxy : x < 0 ∨ (16 : Int32) ≤ x ∨ y < 0 ∨ (16 : Int32) ≤ y) (Q : Int32 → Prop) (h : Q (-1)) : wp_X7_placeOf x y Q := by
  unfold wp_X7_placeOf
  refine ⟨fun _ => h, fun h1 => ⟨fun _ => h, fun h2 => ⟨fun _ => h, fun h3 => ⟨fun h4 => ?_, fun _ => h⟩⟩⟩⟩
  rcases hxy with q | q | q | q
  · exact absurd q h1
  · exact absurd q h2
  · exact absurd q h3
  · rw [fa_lt] at h4
    rw [fa_le] at q
    omega
theorem cel_lt {x y : Nat} (hx : x < 16) (hy : y < 16) : celN x y < 305 := by unfold celN; omega
theorem sp_findInLine {fits : Nat → Int64} {y k : Nat} (hy : y < 16) (hk : k < lnS fits y) (Q : Int32 → Prop) (h : ∀ x p, x < 16 → p < 64 → tb (fits (celN x y)) p = true → k = fb_sm (fun x => pc (fits (celN x y))) x + fb_ct (tb (fits (celN x y))) p → Q (nI (64 * celN x y + p))) :
    wp_X4_findInLine fits (nI y) (nI k) Q := by
  have hkk := lnS_le fits y
  unfold wp_X4_findInLine
  have key := lp_up (W := fun n i => wq_X4_findInLine_5 fits Q n (nI y) (nI (k - fb_sm (fun x => pc (fits (celN x y))) i)) (nI i)) (I := fun i => fb_sm (fun x => pc (fits (celN x y))) i ≤ k) 16 ?_ 0 (Nat.zero_le _) (Nat.zero_le _)
  · exact key
  · intro n i hi hI ih
    show wf_X4_findInLine_5 _ _ _ _ _ _
    unfold wf_X4_findInLine_5
    rw [le_16 (by omega)]
    refine ⟨fun q => ?_, fun q => ?_⟩
    · obtain rfl : i = 16 := by omega
      unfold lnS at hk
      omega
    · have hi16 : i < 16 := by omega
      have hcl := cel_lt hi16 hy
      apply sp_placeOf_t hi16 hy
      rw [vp_in' (by omega), nI_clamp' (by omega)]
      refine ⟨by omega, ?_⟩
      rintro _ rfl
      apply sp_bitCount
      have hpc := pc_le (fits (celN i y))
      have ep : fb_ct (tb (fits (celN i y))) 64 = pc (fits (celN i y)) := rfl
      rw [ep, nI_le' (by omega) (by omega)]
      refine ⟨fun q2 => ?_, fun q2 => ⟨by omega, ?_⟩⟩
      · rintro _ rfl _ rfl
        have hs : fb_sm (fun x => pc (fits (celN x y))) (i + 1) = fb_sm (fun x => pc (fits (celN x y))) i + pc (fits (celN i y)) := rfl
        rw [nI_sub' q2, ad_1, Nat.sub_sub, ← hs]
        exact ih hi16 (by omega)
      · rintro _ rfl
        obtain ⟨p, p1, p2, p3⟩ := fb_ct_kth (p := tb (fits (celN i y))) (k := k - fb_sm (fun x => pc (fits (celN x y))) i) (n := 64) (by rw [ep]; omega)
        refine sp_lowest p1 p2 p3 _ ?_
        rw [mu_64, nI_add]
        exact h i p hi16 p1 p2 (by omega)
theorem sp_findFit {kd mo gl sg B : Nat → Nat} {P w n j : Nat} {stale cells line : Nat → Int32} {fits : Nat → Int64} {all : Int32} {St : Nat → Bool} (hT : okT kd mo gl sg) (hP : P ≤ 40) (h1 : 1 ≤ w) (h3 : w ≤ 3) (hB : ∀ c, okQ kd P (B c)) (hSt : okSt stale cells n St) (hF : okF fits line all)
    (hfit : ∀ c, onC c = true → St c = false → fits c = fitF kd mo gl sg w B P c) (hj : j < nA kd mo gl sg w B P) (a1 a2 a3 : Int64) (Q : Int32 → (Nat → Int64) → (Nat → Int32) → Int32 → (Nat → Int32) → Int32 → Int64 → Int64 → Int64 → Prop)
    (hQ : ∀ y x p fits' line' all' stale' b1 b2 b3, CH kd mo gl sg w B P j y x p → okF fits' line' all' → (∀ c, onC c = true → fits' c = fitF kd mo gl sg w B P c) → okSt stale' cells 0 (fun _ => false) → Q (nI (64 * celN x y + p)) fits' line' all' stale' (nI 0) b1 b2 b3) :
    wp_X4_findFit (nI w) (fun k => nI (sg k)) (fun k => nI (fcF kd mo gl P k)) (fun k => nI (baF kd mo P k)) (fun k => shF kd mo gl P k) (fun k => srF kd mo gl P k) (fun k => brF kd mo P k) (seF kd P) (blF kd P) (fun c => nI (cc (B c))) cells fits line all stale (nI n) a1 a2 a3 (nI j) Q := by
  unfold wp_X4_findFit
  refine sp_renewStale hT hP h1 h3 hB hSt hF hfit a1 a2 a3 _ ?_
  intro fits' line' all' stale' b1 b2 b3 g1 g2 g3
  have hA := nY_le (kd := kd) (mo := mo) (gl := gl) (sg := sg) (w := w) (B := B) hP 16
  unfold nA at hj
  have key := lp_up (W := fun f i => wq_X4_findFit_8 (nI w) (fun k => nI (sg k)) (fun k => nI (fcF kd mo gl P k)) (fun k => nI (baF kd mo P k)) (fun k => shF kd mo gl P k) (fun k => srF kd mo gl P k) (fun k => brF kd mo P k) (seF kd P) (blF kd P) (fun c => nI (cc (B c))) cells Q f fits' line' all' stale' (nI 0) b1 b2 b3 (nI (j - nY kd mo gl sg w B P i)) (nI i)) (I := fun i => nY kd mo gl sg w B P i ≤ j) 16 ?_ 0 (Nat.zero_le _) (Nat.zero_le _)
  · exact key
  · intro f i hi hI ih
    show wf_X4_findFit_8 _ _ _ _ _ _ _ _ _ _ _ _ _ _ _ _ _ _ _ _ _ _ _
    unfold wf_X4_findFit_8
    rw [le_16 (by omega)]
    refine ⟨fun q => ?_, fun q => ?_⟩
    · obtain rfl : i = 16 := by omega
      omega
    · have hi16 : i < 16 := by omega
      have hl : lnS fits' i = nX kd mo gl sg w B P i 16 := lnS_fit hP g2 hi16
      have hle := lnS_le fits' i
      rw [vp_in' (by omega), nI_clamp' (by omega), g1.1 i hi16]
      refine ⟨hi16, ?_⟩
      rintro _ rfl
      rw [nI_le' (by omega) (by omega)]
      refine ⟨fun q2 => ⟨hi16, ?_⟩, fun q2 => ?_⟩
      · rintro _ rfl _ rfl _ rfl
        rw [nI_sub' q2, ad_1, Nat.sub_sub, hl, ← nY_s]
        exact ih hi16 (by rw [nY_s]; omega)
      · apply sp_findInLine hi16 (by omega)
        intro x p hx hp64 hp hk
        have hf := g2 _ (onC_cel hx hi16)
        rw [hf] at hp hk
        have hpP : p < P := by
          rcases Nat.lt_or_ge p P with q3 | q3
          · exact q3
          · unfold fitF at hp
            rw [tb_mk _ hp64] at hp
            simp at hp
            omega
        rw [tb_fit hP hpP] at hp
        refine hQ i x p _ _ _ _ _ _ _ ⟨?_, hp, hi16, hx, hpP⟩ g1 g2 g3
        have e1 : fb_sm (fun x => pc (fits' (celN x i))) x = nX kd mo gl sg w B P i x := by
          unfold nX
          apply fb_sm_cong
          intro x' hx'
          rw [g2 _ (onC_cel (by omega) hi16), pc_fit hP]
        have e2 : fb_ct (tb (fitF kd mo gl sg w B P (celN x i))) p = fb_ct (fun p => mayC kd mo gl sg w B p (celN x i)) p := by
          apply fb_ct_cong
          intro k hk
          exact tb_fit hP (by omega)
        rw [e1, e2] at hk
        unfold rk
        omega
theorem sp_countFits {kd mo gl sg B : Nat → Nat} {P w n : Nat} {stale cells line : Nat → Int32} {fits : Nat → Int64} {all : Int32} {St : Nat → Bool} (hT : okT kd mo gl sg) (hP : P ≤ 40) (h1 : 1 ≤ w) (h3 : w ≤ 3) (hB : ∀ c, okQ kd P (B c)) (hSt : okSt stale cells n St) (hF : okF fits line all)
    (hfit : ∀ c, onC c = true → St c = false → fits c = fitF kd mo gl sg w B P c) (a1 a2 a3 : Int64) (Q : Int32 → (Nat → Int64) → (Nat → Int32) → Int32 → (Nat → Int32) → Int32 → Int64 → Int64 → Int64 → Prop)
    (hQ : ∀ fits' line' all' stale' b1 b2 b3, okF fits' line' all' → (∀ c, onC c = true → fits' c = fitF kd mo gl sg w B P c) → okSt stale' cells 0 (fun _ => false) → Q (nI (nA kd mo gl sg w B P)) fits' line' all' stale' (nI 0) b1 b2 b3) :
    wp_X4_countFits (nI w) (fun k => nI (sg k)) (fun k => nI (fcF kd mo gl P k)) (fun k => nI (baF kd mo P k)) (fun k => shF kd mo gl P k) (fun k => srF kd mo gl P k) (fun k => brF kd mo P k) (seF kd P) (blF kd P) (fun c => nI (cc (B c))) cells fits line all stale (nI n) a1 a2 a3 Q := by
  unfold wp_X4_countFits
  refine sp_renewStale hT hP h1 h3 hB hSt hF hfit a1 a2 a3 _ ?_
  intro fits' line' all' stale' b1 b2 b3 g1 g2 g3
  have e := g1.2
  rw [alS_fit hP g2] at e
  have := hQ fits' line' all' stale' b1 b2 b3 g1 g2 g3
  rw [← e] at this
  exact this
theorem lgc1 (x : Int64) : lg_cmp x 1 = 0 ↔ x = 1 := by
  unfold lg_cmp
  constructor
  · intro h
    repeat' split at h
    all_goals first | assumption | exact absurd h (by decide)
  · rintro rfl
    decide
theorem sp_fitsAt {kd mo gl sg B : Nat → Nat} {P w n c p : Nat} {stale cells line : Nat → Int32} {fits : Nat → Int64} {all : Int32} {St : Nat → Bool} (hT : okT kd mo gl sg) (hP : P ≤ 40) (h1 : 1 ≤ w) (h3 : w ≤ 3) (hB : ∀ c, okQ kd P (B c)) (hSt : okSt stale cells n St) (hF : okF fits line all)
    (hfit : ∀ c, onC c = true → St c = false → fits c = fitF kd mo gl sg w B P c) (hc : onC c = true) (hp : p < P) (a1 a2 a3 : Int64) (Q : Int32 → (Nat → Int64) → (Nat → Int32) → Int32 → (Nat → Int32) → Int32 → Int64 → Int64 → Int64 → Prop)
    (hQ : ∀ fits' line' all' stale' b1 b2 b3, okF fits' line' all' → (∀ c, onC c = true → fits' c = fitF kd mo gl sg w B P c) → okSt stale' cells 0 (fun _ => false) → Q (bI (mayC kd mo gl sg w B p c)) fits' line' all' stale' (nI 0) b1 b2 b3) :
    wp_X4_fitsAt (nI w) (fun k => nI (sg k)) (fun k => nI (fcF kd mo gl P k)) (fun k => nI (baF kd mo P k)) (fun k => shF kd mo gl P k) (fun k => srF kd mo gl P k) (fun k => brF kd mo P k) (seF kd P) (blF kd P) (fun c => nI (cc (B c))) cells fits line all stale (nI n) a1 a2 a3 (nI c) (nI p) Q := by
  have hb := onC_b hc
  unfold wp_X4_fitsAt
  refine sp_renewStale hT hP h1 h3 hB hSt hF hfit a1 a2 a3 _ ?_
  intro fits' line' all' stale' b1 b2 b3 g1 g2 g3
  have := hQ fits' line' all' stale' b1 b2 b3 g1 g2 g3
  rw [vp_in' (by omega), nI_clamp' (by omega), g2 c hc]
  refine ⟨by omega, ?_⟩
  rintro _ rfl
  rw [lgc1, tb_low1 _ (by omega), tb_fit hP hp]
  refine ⟨fun q => ?_, fun q => ?_⟩
  · rw [ts_nt q] at this
    exact this
  · rw [q] at this
    exact this
