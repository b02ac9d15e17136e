theorem onC_b {c : Nat} (h : onC c = true) : 19 ≤ c ∧ c ≤ 304 ∧ 1 ≤ c % 18 ∧ c % 18 ≤ 16 := by
  unfold onC at h
  simp at h
  omega
theorem onC_r {c : Nat} (h : onC c = true) : onC (c + 1) = decide (c % 18 ≤ 15) := by
  have hb := onC_b h
  unfold onC at *
  rw [Bool.eq_iff_iff]
  simp
  omega
theorem sp_columnOf {c : Nat} (h : 1 ≤ c % 18) (hc : c < 2147483648) (Q : Int32 → Prop) (hQ : Q (nI (c % 18 - 1))) : wp_X7_columnOf (nI c) Q := by
  unfold wp_X7_columnOf
  rw [rm_18 hc, sb_1 h]
  exact hQ
theorem sp_lineOf {c : Nat} (h : 18 ≤ c) (hc : c < 2147483648) (Q : Int32 → Prop) (hQ : Q (nI (c / 18 - 1))) : wp_X7_lineOf (nI c) Q := by
  unfold wp_X7_lineOf
  rw [dv_18 hc, sb_1 (by omega)]
  exact hQ
/-- is there room to the right of a cell -/
def rgt (B : Nat → Nat) (c : Nat) : Bool := onC (c + 1) && B (c + 1) == 0
theorem sp_isRightFree {kd B : Nat → Nat} {P c : Nat} (hP : P ≤ 40) (hB : ∀ c, okQ kd P (B c)) (hc : onC c = true) (Q : Int32 → Prop) (h : Q (bI (rgt B c))) : wp_X4_isRightFree (fun c => nI (cc (B c))) (nI c) Q := by
  have hb := onC_b hc
  have hcb := cc_le hP (hB (c + 1)).1
  unfold wp_X4_isRightFree
  apply sp_columnOf (by omega) (by omega)
  rw [le_15 (by omega)]
  unfold rgt at h
  rw [onC_r hc] at h
  refine ⟨fun q => ?_, fun q => ?_⟩
  · rw [show decide (c % 18 ≤ 15) = false by simp; omega] at h
    exact h
  · rw [show decide (c % 18 ≤ 15) = true by simp; omega, Bool.true_and] at h
    rw [ad_1, vp_in' (by omega), nI_clamp' (by omega)]
    refine ⟨by omega, ?_⟩
    rintro _ rfl
    rw [eq_0 (by omega), cc_0]
    refine ⟨fun q2 => ?_, fun q2 => ?_⟩
    · simpa [q2, bI] using h
    · simpa [q2, bI] using h
theorem sp_cIsFree {kd B : Nat → Nat} {P c : Nat} (hP : P ≤ 40) (hB : ∀ c, okQ kd P (B c)) (hc : c < 324) (Q : Int32 → Prop) (h : Q (bI (B c == 0))) : wp_X4_isFree (fun c => nI (cc (B c))) (nI c) Q := by
  have hcb := cc_le hP (hB c).1
  unfold wp_X4_isFree
  rw [vp_in' (by omega), nI_clamp' (by omega)]
  refine ⟨hc, ?_⟩
  rintro _ rfl
  rw [eq_0 (by omega), cc_0]
  refine ⟨fun q2 => ?_, fun q2 => ?_⟩
  · simpa [q2, bI] using h
  · simpa [q2, bI] using h
theorem sp_hasRoomFor {kd B : Nat → Nat} {P p c : Nat} (hk5 : ∀ p, kd p ≤ 5) (hP : P ≤ 40) (hp : p < P) (hB : ∀ c, okQ kd P (B c)) (hc : onC c = true) (Q : Int32 → Prop) (h : Q (bI (fre kd B p c))) :
    wp_X4_hasRoomFor (fun k => nI (kd k)) (fun c => nI (cc (B c))) (nI p) (nI c) Q := by
  have hb := onC_b hc
  have hcb := cc_le hP (hB c).1
  have hk := hk5 p
  unfold wp_X4_hasRoomFor
  rw [vp_in' (by omega), nI_clamp' (by omega)]
  refine ⟨by omega, ?_⟩
  rintro _ rfl
  rw [eq_0 (by omega), cc_0]
  unfold fre at h
  rw [hc, Bool.true_and] at h
  refine ⟨fun q2 => ?_, fun q2 => ?_⟩
  · simpa [q2, bI] using h
  · rw [vp_in' (by omega), nI_clamp' (by omega)]
    refine ⟨by omega, ?_⟩
    rintro _ rfl
    rw [eq_2 (by omega)]
    refine ⟨fun q3 => ?_, fun q3 => ?_⟩
    · simpa [q2, q3, bI] using h
    · apply sp_isRightFree hP hB hc
      rw [bI_0]
      have h' : Q (bI (rgt B c)) := by
        unfold rgt
        simpa [q2, q3] using h
      refine ⟨fun q => ?_, fun q => ?_⟩
      · rw [q] at h'
        exact h'
      · rw [Bool.not_eq_false] at q
        rw [q] at h'
        exact h'
def fitF (kd mo gl sg : Nat → Nat) (w : Nat) (B : Nat → Nat) (P c : Nat) : Int64 := mk (fun p => decide (p < P) && mayC kd mo gl sg w B p c)
theorem lgc0 (x : Int64) : lg_cmp x 0 = 0 ↔ x = 0 := by
  unfold lg_cmp
  constructor
  · intro h
    repeat' split at h
    all_goals first | assumption | exact absurd h (by decide)
  · rintro rfl
    decide
theorem fit_end {kd mo gl sg B : Nat → Nat} {P c w : Nat} (hT : okT kd mo gl sg) (h1 : 1 ≤ w) (hc : onC c = true) (hB0 : B c = 0)
    (hs : Nat → Nat) (hlo : ∀ p, P ≤ p → hs p = 0) (hhi : ∀ p, p < P → kd p ≠ 2 ∨ rgt B c = true → hs p = hOf kd mo gl sg B p c)
    (bl : Bool) (hbl : bl = (!rgt B c || barC kd mo B (c + 1))) (x : Int64) (hx : x = bdF kd mo B P c ||| seF kd P) :
    al w hs &&& ((if bl then x ||| blF kd P else x) ^^^ (-1)) = fitF kd mo gl sg w B P c := by
  subst hx
  apply tb_ext
  intro p hp
  rw [tb_and, tb_not _ hp]
  unfold fitF al
  rw [tb_mk _ hp, tb_mk _ hp]
  have hx : tb (if bl = true then bdF kd mo B P c ||| seF kd P ||| blF kd P else bdF kd mo B P c ||| seF kd P) p = (tb (bdF kd mo B P c) p || decide (p < P ∧ kd p = 1) || (bl && decide (p < P ∧ kd p = 2))) := by
    cases bl
    · rw [if_neg (by decide), tb_or]
      unfold seF
      rw [tb_mk _ hp]
      simp
    · rw [if_pos rfl, tb_or, tb_or]
      unfold seF blF
      rw [tb_mk _ hp, tb_mk _ hp]
      simp
  rw [hx]
  rcases Nat.lt_or_ge p P with hpP | hpP
  · have hbd : tb (bdF kd mo B P c) p = (barC kd mo B c || obU kd mo B P c p 4) := by
      unfold bdF
      cases barC kd mo B c
      · rw [if_neg (by decide), tb_mk _ hp]; rfl
      · rw [if_pos rfl, tb_mk _ hp]; rfl
    have ho := opn_bar (kd := kd) (mo := mo) (B := B) (c := c) hpP
    rw [hbd]
    unfold mayC
    rw [ho]
    have hf : fre kd B p c = (kd p != 2 || rgt B c) := by
      unfold fre rgt
      rw [hc, hB0]
      simp
    rw [hf]
    by_cases hk2 : kd p = 2
    · have ho2 : opn kd mo B p (c + 1) = !barC kd mo B (c + 1) := by
        rw [opn_bar (P := P) hpP]
        have : ∀ n, obU kd mo B P (c + 1) p n = false := by
          intro n
          induction n with
          | zero => rfl
          | succ n ih =>
            rw [obU_s, ih]
            unfold ob1 brd
            simp [hk2]
        rw [this]
        simp
      rw [ho2, hbl]
      cases hr : rgt B c
      · simp [hk2, hpP]
      · have := hhi p hpP (Or.inr hr)
        rw [this]
        simp [hk2, hpP]
        cases barC kd mo B c <;> cases obU kd mo B P c p 4 <;> cases barC kd mo B (c + 1) <;> simp
    · have := hhi p hpP (Or.inl hk2)
      rw [this]
      by_cases hk1 : kd p = 1
      · simp [hk1, hpP]
      · have n1 : (kd p != 1) = true := by simp [hk1]
        have n2 : (kd p != 2) = true := by simp [hk2]
        rw [n1, n2]
        simp [hk1, hk2, hpP]
  · have h0 := hlo p hpP
    rw [h0]
    have a1 : ¬ w ≤ 0 := by omega
    have a2 : ¬ p < P := by omega
    simp [a1, a2]
theorem sp_fitsNow {kd mo gl sg B : Nat → Nat} {P c w : Nat} (hT : okT kd mo gl sg) (hP : P ≤ 40) (h1 : 1 ≤ w) (h3 : w ≤ 3) (hB : ∀ c, okQ kd P (B c)) (hc : onC c = true) (a1 a2 a3 : Int64) (Q : Int64 → Int64 → Int64 → Int64 → Prop)
    (h : ∀ b1 b2 b3, Q (fitF kd mo gl sg w B P c) b1 b2 b3) :
    wp_X4_fitsNow (nI w) (fun k => nI (sg k)) (fun k => nI (fcF kd mo gl P k)) (fun k => nI (baF kd mo P k)) (fun k => shF kd mo gl P k) (fun k => srF kd mo gl P k) (fun k => brF kd mo P k) (seF kd P) (blF kd P) (fun c => nI (cc (B c))) a1 a2 a3 (nI c) Q := by
  have hb := onC_b hc
  have hcb := cc_le hP (hB c).1
  unfold wp_X4_fitsNow
  dsimp only
  rw [vp_in' (by omega), nI_clamp' (by omega)]
  refine ⟨by omega, ?_⟩
  rintro _ rfl
  rw [eq_0 (by omega), cc_0]
  refine ⟨fun h0 => ?_, fun h0 => ?_⟩
  · apply sp_isRightFree hP hB hc
    have go : ∀ hs : Nat → Nat, (∀ p, P ≤ p → hs p = 0) → (∀ p, p < P → kd p ≠ 2 ∨ rgt B c = true → hs p = hOf kd mo gl sg B p c) →
        wq_X4_fitsNow_53 (nI w) (fun k => nI (sg k)) (fun k => nI (fcF kd mo gl P k)) (fun k => nI (baF kd mo P k)) (fun k => shF kd mo gl P k) (fun k => srF kd mo gl P k) (fun k => brF kd mo P k) (seF kd P) (blF kd P) (fun c => nI (cc (B c))) Q (al 1 hs) (al 2 hs) (al 3 hs) (nI c) (bI (rgt B c)) := by
      intro hs hlo hhi
      unfold wq_X4_fitsNow_53
      apply sp_heldEnough h1 h3
      rw [lgc0]
      refine ⟨fun hne => ?_, fun he => ?_⟩
      · apply sp_barredAt hP hB (by omega) (by omega)
        rintro _ rfl
        unfold wq_X4_fitsNow_95 wq_X4_fitsNow_107
        rw [bI_0]
        refine ⟨fun hr => ?_, fun hr => ?_⟩
        · rintro _ rfl
          have e := fit_end hT h1 hc h0 hs hlo hhi true (by rw [hr]; rfl) _ rfl
          rw [if_pos rfl] at e
          rw [e]
          exact h _ _ _
        · rw [Bool.not_eq_false] at hr
          rw [ad_1]
          apply sp_isBarredBeside hP hB (by omega) (by omega)
          rw [bI_0]
          refine ⟨fun hq => ?_, fun hq => ?_⟩
          · have e := fit_end hT h1 hc h0 hs hlo hhi false (by rw [hr, hq]; rfl) _ rfl
            rw [if_neg (by decide)] at e
            rw [e]
            exact h _ _ _
          · rw [Bool.not_eq_false] at hq
            rintro _ rfl
            have e := fit_end hT h1 hc h0 hs hlo hhi true (by rw [hr, hq]; rfl) _ rfl
            rw [if_pos rfl] at e
            rw [e]
            exact h _ _ _
      · have e := fit_end hT h1 hc h0 hs hlo hhi (!rgt B c || barC kd mo B (c + 1)) rfl _ rfl
        rw [he] at e
        have e0 : ∀ y : Int64, (0 : Int64) &&& y = 0 := fun y => tb_ext fun i _ => by rw [tb_and, tb_0]; rfl
        rw [e0] at e
        rw [e]
        exact h _ _ _
    unfold wp_X4_startSums
    rw [al_0 1 (by decide)]
    have e2 : al 1 (fun _ => 0) = al 2 (fun _ => 0) := by rw [← al_0 1 (by decide), ← al_0 2 (by decide)]
    have e3 : al 1 (fun _ => 0) = al 3 (fun _ => 0) := by rw [← al_0 1 (by decide), ← al_0 3 (by decide)]
    have key : wp_X4_sumUp 204 (fun k => shF kd mo gl P k) (fun k => nI (sg k)) (fun k => nI (fcF kd mo gl P k)) (fun c => nI (cc (B c))) (al 1 (fun _ => 0)) (al 2 (fun _ => 0)) (al 3 (fun _ => 0)) (nI c) (nI 0) (fun s1 s2 s3 =>
        (bI (rgt B c) = 0 → wq_X4_fitsNow_53 (nI w) (fun k => nI (sg k)) (fun k => nI (fcF kd mo gl P k)) (fun k => nI (baF kd mo P k)) (fun k => shF kd mo gl P k) (fun k => srF kd mo gl P k) (fun k => brF kd mo P k) (seF kd P) (blF kd P) (fun c => nI (cc (B c))) Q s1 s2 s3 (nI c) (bI (rgt B c))) ∧ (¬ bI (rgt B c) = 0 → wp_X4_sumUp 204 (fun k => srF kd mo gl P k) (fun k => nI (sg k)) (fun k => nI (fcF kd mo gl P k)) (fun c => nI (cc (B c))) s1 s2 s3 (nI c + 1) 0 (fun t1 t2 t3 => wq_X4_fitsNow_53 (nI w) (fun k => nI (sg k)) (fun k => nI (fcF kd mo gl P k)) (fun k => nI (baF kd mo P k)) (fun k => shF kd mo gl P k) (fun k => srF kd mo gl P k) (fun k => brF kd mo P k) (seF kd P) (blF kd P) (fun c => nI (cc (B c))) Q t1 t2 t3 (nI c) (bI (rgt B c))))) := by
      refine sp_sumUp (A := shB kd mo gl P) hT hP hB (by omega) (by omega) (by decide) (fun _ => 0) _ ?_
      have z : (fun p => 0 + sUp (shB kd mo gl P) kd mo gl sg B 0 c p 4) = (fun p => sUp (shB kd mo gl P) kd mo gl sg B 0 c p 4) := by
        funext p
        omega
      rw [z]
      refine ⟨fun hr => ?_, fun hr => ?_⟩
      · rw [bI_0] at hr
        refine go _ (fun p hp => sUp_no (shB_no hp) 4) (fun p hp hk => ?_)
        rcases hk with hk | hk
        · unfold hOf
          rw [hUp_hS hT.2.2.2.2.2, if_neg hk, sUp_sh hT hp 4 (by decide)]
          rfl
        · rw [hr] at hk
          exact absurd hk (by decide)
      · rw [ad_1]
        refine sp_sumUp (A := srB kd mo gl P) (m := 0) hT hP hB (by omega) (by omega) (by decide) _ _ ?_
        refine go _ (fun p hp => ?_) (fun p hp _ => ?_)
        · show sUp (shB kd mo gl P) kd mo gl sg B 0 c p 4 + sUp (srB kd mo gl P) kd mo gl sg B 0 (c + 1) p 4 = 0
          rw [sUp_no (shB_no hp) 4, sUp_no (srB_no hp) 4]
        · show sUp (shB kd mo gl P) kd mo gl sg B 0 c p 4 + sUp (srB kd mo gl P) kd mo gl sg B 0 (c + 1) p 4 = _
          unfold hOf
          rw [hUp_hS hT.2.2.2.2.2, sUp_sh hT hp 4 (by decide), sUp_sr hT hp 4 (by decide)]
    rw [← e2, ← e3] at key
    exact key
  · have e : fitF kd mo gl sg w B P c = 0 := by
      unfold fitF
      rw [mk_eq0]
      intro p _
      unfold mayC fre
      simp [h0]
    rw [← e]
    exact h _ _ _
