/-! a rule's pieces and seeds -/
def bN (b : Bool) : Nat := if b then 1 else 0
theorem bN_le (b : Bool) : bN b ≤ 1 := by cases b <;> decide
theorem bI_bN (b : Bool) : bI b = nI (bN b) := by cases b <;> rfl
def pk (i : Nat) : Nat := if i < 4 then 5 else 1
def pm (F i : Nat) : Nat := if i < 4 then 16 * (1 + bN (F.testBit i)) else 0
def pa (F i : Nat) : Nat := if i < 4 then 1 + bN (F.testBit i) else if i = 4 then 1 else if i = 5 then 2 else 0
def pr (i : Nat) : Nat := if i < 4 then 3 + i % 2 else 0
def pb (i : Nat) : Nat := if i < 4 then 1 + i / 2 else 0
def pl (G i : Nat) : Nat := if i < 4 then 3 + bN (G.testBit i) else if i = 6 then 3 else if i = 7 then 4 else 0
def rt (kd mo gl : Nat → Nat) (F G : Nat) : Nat → (Nat → Nat) × (Nat → Nat) × (Nat → Nat)
  | 0 => (kd, mo, gl)
  | i + 1 => (upN (rt kd mo gl F G i).1 i (pk i), upN (rt kd mo gl F G i).2.1 i (pm F i), gl4 (rt kd mo gl F G i).2.2 i (pa F i) (pr i) (pb i) (pl G i))
theorem pm_ok (F i : Nat) : moreOK (pk i) (pm F i) := by
  have := bN_le (F.testBit i)
  unfold moreOK pk pm
  by_cases h : i < 4
  · rw [if_pos h, if_pos h]
    omega
  · rw [if_neg h, if_neg h]
    omega
theorem pa_le (F i : Nat) : pa F i ≤ 50 := by
  have := bN_le (F.testBit i)
  unfold pa
  repeat' split
  all_goals omega
theorem pr_le (i : Nat) : pr i ≤ 50 := by
  unfold pr
  split <;> omega
theorem pb_le (i : Nat) : pb i ≤ 50 := by
  unfold pb
  split <;> omega
theorem pl_le (G i : Nat) : pl G i ≤ 50 := by
  have := bN_le (G.testBit i)
  unfold pl
  repeat' split
  all_goals omega
theorem rt_ok {kd mo gl sg : Nat → Nat} (hT : okT kd mo gl sg) (F G : Nat) : ∀ i, okT (rt kd mo gl F G i).1 (rt kd mo gl F G i).2.1 (rt kd mo gl F G i).2.2 sg
  | 0 => hT
  | i + 1 => okT_add (rt_ok hT F G i) (pm_ok F i) (pa_le F i) (pr_le i) (pb_le i) (pl_le G i)
theorem rt_kd {kd mo gl : Nat → Nat} (F G : Nat) : ∀ i p, p < i → (rt kd mo gl F G i).1 p = pk p
  | 0, p, h => absurd h (by omega)
  | i + 1, p, h => by
    show upN (rt kd mo gl F G i).1 i (pk i) p = pk p
    by_cases e : p = i
    · rw [e, upN_s]
    · rw [upN_n e]
      exact rt_kd F G i p (by omega)
/-- a piece that is known to be good -/
theorem sp_add_g {kd mo gl : Nat → Nat} {P k m a r b l : Nat} (hP : P < 40) (hm : moreOK k m) (ha : a ≤ 50) (hr : r ≤ 50) (hb : b ≤ 50) (hl : l ≤ 50) (Q : Int32 → Int32 → (Nat → Int32) → (Nat → Int32) → (Nat → Int32) → (Nat → Int32) → (Nat → Int64) → (Nat → Int64) → (Nat → Int64) → Int64 → Int64 → Int64 → Prop)
    (h1 : Q (nI P) (nI (P + 1)) (fun j0 => nI (upN kd P k j0)) (fun j0 => nI (mrF (upN kd P k) (upN mo P m) j0)) (fun j0 => nI (fcF (upN kd P k) (upN mo P m) (gl4 gl P a r b l) (P + 1) j0)) (fun j0 => nI (baF (upN kd P k) (upN mo P m) (P + 1) j0)) (fun j0 => shF (upN kd P k) (upN mo P m) (gl4 gl P a r b l) (P + 1) j0) (fun j0 => srF (upN kd P k) (upN mo P m) (gl4 gl P a r b l) (P + 1) j0) (fun j0 => brF (upN kd P k) (upN mo P m) (P + 1) j0) (seF (upN kd P k) (P + 1)) (blF (upN kd P k) (P + 1)) (rvF (upN kd P k) (P + 1))) : wp_X1_addPiece (nI (P)) (fun j0 => nI (kd j0)) (fun j0 => nI (mrF (kd) (mo) j0)) (fun j0 => nI (fcF (kd) (mo) (gl) (P) j0)) (fun j0 => nI (baF (kd) (mo) (P) j0)) (fun j0 => shF (kd) (mo) (gl) (P) j0) (fun j0 => srF (kd) (mo) (gl) (P) j0) (fun j0 => brF (kd) (mo) (P) j0) (seF (kd) (P)) (blF (kd) (P)) (rvF (kd) (P)) (nI k) (nI a) (nI r) (nI b) (nI l) (nI m) Q := by
  refine sp_addPiece (by omega) Q (fun q => ?_) ?_
  · exfalso
    rcases q with q | q
    · omega
    · exact q ⟨⟨k, m, rfl, rfl, hm⟩, ⟨a, ha, rfl⟩, ⟨r, hr, rfl⟩, ⟨b, hb, rfl⟩, ⟨l, hl, rfl⟩⟩
  · intro _ k' m' a' r' b' l' e1 e2 hm' e3 e4 e5 e6 b1 b2 b3 b4
    have z := moreOK_le hm
    have z' := moreOK_le hm'
    rw [nI_eq' (by omega) (by omega)] at e1 e2 e3 e4 e5 e6
    subst e1 e2 e3 e4 e5 e6
    exact h1
theorem sp_rpiece_g {kd mo gl : Nat → Nat} {P k m a r b l : Nat} (hP : P < 40) (hm : moreOK k m) (ha : a ≤ 50) (hr : r ≤ 50) (hb : b ≤ 50) (hl : l ≤ 50) (Q : Int32 → (Nat → Int32) → (Nat → Int32) → (Nat → Int32) → Int32 → Prop)
    (h1 : Q (nI P) (fun j => nI (upN kd P k j)) (fun j => nI (upN mo P m j)) (fun j => nI (gl4 gl P a r b l j)) (nI (P + 1))) : wp_X8_piece (fun k => nI (kd k)) (fun k => nI (mo k)) (fun k => nI (gl k)) (nI P) (nI k) (nI a) (nI r) (nI b) (nI l) (nI m) Q := by
  refine sp_rpiece (by omega) Q (fun q => ?_) ?_
  · exfalso
    rcases q with q | q
    · omega
    · exact q ⟨⟨k, m, rfl, rfl, hm⟩, ⟨a, ha, rfl⟩, ⟨r, hr, rfl⟩, ⟨b, hb, rfl⟩, ⟨l, hl, rfl⟩⟩
  · intro _ k' m' a' r' b' l' e1 e2 hm' e3 e4 e5 e6 b1 b2 b3 b4
    have z := moreOK_le hm
    have z' := moreOK_le hm'
    rw [nI_eq' (by omega) (by omega)] at e1 e2 e3 e4 e5 e6
    subst e1 e2 e3 e4 e5 e6
    exact h1
/-- tables end where they end -/
def okZ (kd mo gl sg : Nat → Nat) : Prop := (∀ p, 40 ≤ p → kd p = 0) ∧ (∀ p, 40 ≤ p → mo p = 0) ∧ (∀ k, 160 ≤ k → gl k = 0) ∧ (∀ g, 51 ≤ g → sg g = 0)
theorem okZ_add {kd mo gl sg : Nat → Nat} {P k m a r b l : Nat} (hP : P < 40) (h : okZ kd mo gl sg) : okZ (upN kd P k) (upN mo P m) (gl4 gl P a r b l) sg := by
  obtain ⟨h1, h2, h3, h4⟩ := h
  refine ⟨fun p hp => ?_, fun p hp => ?_, fun j hj => ?_, h4⟩
  · rw [upN_n (by omega), h1 p hp]
  · rw [upN_n (by omega), h2 p hp]
  · unfold gl4 upN
    rw [if_neg (by omega), if_neg (by omega), if_neg (by omega), if_neg (by omega), h3 j hj]
theorem rt_z {kd mo gl sg : Nat → Nat} (h : okZ kd mo gl sg) (F G : Nat) : ∀ i, i ≤ 40 → okZ (rt kd mo gl F G i).1 (rt kd mo gl F G i).2.1 (rt kd mo gl F G i).2.2 sg
  | 0, _ => h
  | i + 1, hi => okZ_add (by omega) (rt_z h F G i (by omega))
def sgR : Nat → Nat := fun k => if 1 ≤ k ∧ k ≤ 4 then 1 else 0
theorem fcF_0 (kd mo gl : Nat → Nat) (k : Nat) : fcF kd mo gl 0 k = 0 := by
  unfold fcF
  rw [if_neg (by omega), if_neg (by omega)]
theorem baF_0 (kd mo : Nat → Nat) (k : Nat) : baF kd mo 0 k = 0 := by
  unfold baF
  rw [if_neg (by omega)]
theorem shF_0 (kd mo gl : Nat → Nat) (k : Nat) : shF kd mo gl 0 k = 0 := by
  unfold shF
  rw [mk_eq0]
  intro i _
  exact shB_no (Nat.zero_le _) k
theorem srF_0 (kd mo gl : Nat → Nat) (k : Nat) : srF kd mo gl 0 k = 0 := by
  unfold srF
  rw [mk_eq0]
  intro i _
  exact srB_no (Nat.zero_le _) k
theorem brF_0 (kd mo : Nat → Nat) (k : Nat) : brF kd mo 0 k = 0 := by
  unfold brF
  rw [mk_eq0]
  intro i _
  unfold brB
  simp
theorem far_fc {kd mo gl : Nat → Nat} {P k : Nat} (hP : P ≤ 40) (h : 512 ≤ k) : fcF kd mo gl P k = 0 := by
  unfold fcF
  rw [if_neg (by omega), if_neg (by omega)]
theorem far_ba {kd mo : Nat → Nat} {P k : Nat} (hP : P ≤ 40) (h : 128 ≤ k) : baF kd mo P k = 0 := by
  unfold baF
  rw [if_neg (by omega)]
theorem far_sh {kd mo gl : Nat → Nat} {P k : Nat} (h : 204 ≤ k) : shF kd mo gl P k = 0 := by
  unfold shF
  rw [mk_eq0]
  intro i _
  unfold shB
  simp
  omega
theorem far_sr {kd mo gl : Nat → Nat} {P k : Nat} (h : 204 ≤ k) : srF kd mo gl P k = 0 := by
  unfold srF
  rw [mk_eq0]
  intro i _
  unfold srB
  simp
  omega
theorem far_br {kd mo : Nat → Nat} {P k : Nat} (h : 4 ≤ k) : brF kd mo P k = 0 := by
  unfold brF
  rw [mk_eq0]
  intro i _
  unfold brB
  have : ¬ k < 4 := by omega
  simp [this]
theorem sp_empty {kd mo gl sg : Nat → Nat} {P w : Nat} (hP : P ≤ 40) (hz : okZ kd mo gl sg) (Q : Int32 → Int32 → (Nat → Int32) → (Nat → Int32) → (Nat → Int32) → (Nat → Int64) → (Nat → Int64) → (Nat → Int64) → Int64 → Int64 → Int64 → Prop)
    (h : Q (nI 2) (nI 0) (fun _ => nI 0) (fun k => nI (fcF kd mo gl 0 k)) (fun k => nI (baF kd mo 0 k)) (fun k => shF kd mo gl 0 k) (fun k => srF kd mo gl 0 k) (fun k => brF kd mo 0 k) (seF kd 0) (blF kd 0) (rvF kd 0)) :
    wp_X1_empty (nI w) (nI P) (fun k => nI (sg k)) (fun k => nI (fcF kd mo gl P k)) (fun k => nI (baF kd mo P k)) (fun k => shF kd mo gl P k) (fun k => srF kd mo gl P k) (fun k => brF kd mo P k) (seF kd P) (blF kd P) (rvF kd P) Q := by
  have e1 : (fun k => if k < 51 then (0 : Int32) else nI (sg k)) = fun _ => nI 0 := by
    funext k
    split
    · rfl
    · rw [hz.2.2.2 k (by omega)]
  have e2 : (fun k => if k < 512 then (0 : Int32) else nI (fcF kd mo gl P k)) = fun k => nI (fcF kd mo gl 0 k) := by
    funext k
    rw [fcF_0]
    split
    · rfl
    · rw [far_fc hP (by omega)]
  have e3 : (fun k => if k < 128 then (0 : Int32) else nI (baF kd mo P k)) = fun k => nI (baF kd mo 0 k) := by
    funext k
    rw [baF_0]
    split
    · rfl
    · rw [far_ba hP (by omega)]
  have e4 : (fun k => if k < 204 then (0 : Int64) else shF kd mo gl P k) = fun k => shF kd mo gl 0 k := by
    funext k
    rw [shF_0]
    split
    · rfl
    · rw [far_sh (by omega)]
  have e5 : (fun k => if k < 204 then (0 : Int64) else srF kd mo gl P k) = fun k => srF kd mo gl 0 k := by
    funext k
    rw [srF_0]
    split
    · rfl
    · rw [far_sr (by omega)]
  have e6 : (fun k => if k < 4 then (0 : Int64) else brF kd mo P k) = fun k => brF kd mo 0 k := by
    funext k
    rw [brF_0]
    split
    · rfl
    · rw [far_br (by omega)]
  have z1 : seF kd 0 = 0 := (mk_eq0 _).mpr (fun i _ => by simp)
  have z2 : blF kd 0 = 0 := (mk_eq0 _).mpr (fun i _ => by simp)
  have z3 : rvF kd 0 = 0 := (mk_eq0 _).mpr (fun i _ => by simp)
  unfold wp_X1_empty
  refine fill_I (by decide) _ ?_
  refine fill_I (by decide) _ ?_
  refine fill_I (by decide) _ ?_
  refine fill_L (by decide) _ ?_
  refine fill_L (by decide) _ ?_
  refine fill_L (by decide) _ ?_
  rw [e1, e2, e3, e4, e5, e6]
  rw [z1, z2, z3] at h
  exact h
theorem sp_becomeRule {kd mo gl sg : Nat → Nat} {P w F G : Nat} (hP : P ≤ 40) (hz : okZ kd mo gl sg) (hF : F < 16) (hG : G < 16) (Q : Int32 → Int32 → (Nat → Int32) → (Nat → Int32) → (Nat → Int32) → (Nat → Int32) → (Nat → Int32) → (Nat → Int64) → (Nat → Int64) → (Nat → Int64) → Int64 → Int64 → Int64 → Prop)
    (h : Q (nI (2)) (nI (8)) (fun j0 => nI (sgR j0)) (fun j0 => nI ((rt kd mo gl F G 8).1 j0)) (fun j0 => nI (mrF ((rt kd mo gl F G 8).1) ((rt kd mo gl F G 8).2.1) j0)) (fun j0 => nI (fcF ((rt kd mo gl F G 8).1) ((rt kd mo gl F G 8).2.1) ((rt kd mo gl F G 8).2.2) (8) j0)) (fun j0 => nI (baF ((rt kd mo gl F G 8).1) ((rt kd mo gl F G 8).2.1) (8) j0)) (fun j0 => shF ((rt kd mo gl F G 8).1) ((rt kd mo gl F G 8).2.1) ((rt kd mo gl F G 8).2.2) (8) j0) (fun j0 => srF ((rt kd mo gl F G 8).1) ((rt kd mo gl F G 8).2.1) ((rt kd mo gl F G 8).2.2) (8) j0) (fun j0 => brF ((rt kd mo gl F G 8).1) ((rt kd mo gl F G 8).2.1) (8) j0) (seF ((rt kd mo gl F G 8).1) (8)) (blF ((rt kd mo gl F G 8).1) (8)) (rvF ((rt kd mo gl F G 8).1) (8))) :
    wp_X1_becomeRule (nI (w)) (nI (P)) (fun j0 => nI (sg j0)) (fun j0 => nI (kd j0)) (fun j0 => nI (mrF (kd) (mo) j0)) (fun j0 => nI (fcF (kd) (mo) (gl) (P) j0)) (fun j0 => nI (baF (kd) (mo) (P) j0)) (fun j0 => shF (kd) (mo) (gl) (P) j0) (fun j0 => srF (kd) (mo) (gl) (P) j0) (fun j0 => brF (kd) (mo) (P) j0) (seF (kd) (P)) (blF (kd) (P)) (rvF (kd) (P)) (nI F) (nI G) Q := by
  unfold wp_X1_becomeRule
  refine sp_empty hP hz _ ?_
  have l1 := lp_up (W := fun n i => wq_X1_becomeRule_6 Q n (nI 2) (nI 0) (fun k => nI (if 1 ≤ k ∧ k < i + 1 then 1 else 0)) (fun k => nI (kd k)) (fun k => nI (mrF kd mo k)) (fun k => nI (fcF kd mo gl 0 k)) (fun k => nI (baF kd mo 0 k)) (fun k => shF kd mo gl 0 k) (fun k => srF kd mo gl 0 k) (fun k => brF kd mo 0 k) (seF kd 0) (blF kd 0) (rvF kd 0) (nI F) (nI G) (nI (i + 1))) (I := fun _ => True) 4 ?_ 0 (by decide) trivial
  · have e : (fun k => nI (if 1 ≤ k ∧ k < 0 + 1 then 1 else 0)) = fun _ => nI 0 := by
      funext k
      rw [if_neg (by omega)]
    rw [e] at l1
    exact l1
  · intro n i hi _ ih
    show wf_X1_becomeRule_6 _ _ _ _ _ _ _ _ _ _ _ _ _ _ _ _ _ _
    unfold wf_X1_becomeRule_6
    rw [gt_4 (by omega)]
    refine ⟨fun q => ?_, fun q => ?_⟩
    · obtain rfl : i = 4 := by omega
      have es : (fun k => nI (if 1 ≤ k ∧ k < 4 + 1 then 1 else 0)) = fun k => nI (sgR k) := by
        funext k
        unfold sgR
        congr 1
        by_cases c : 1 ≤ k ∧ k ≤ 4
        · rw [if_pos (by omega), if_pos c]
        · rw [if_neg (by omega), if_neg c]
      rw [es]
      have key := lp_up (W := fun f i => wq_X1_becomeRule_26 Q f (nI (2)) (nI (i)) (fun j0 => nI (sgR j0)) (fun j0 => nI ((rt kd mo gl F G i).1 j0)) (fun j0 => nI (mrF ((rt kd mo gl F G i).1) ((rt kd mo gl F G i).2.1) j0)) (fun j0 => nI (fcF ((rt kd mo gl F G i).1) ((rt kd mo gl F G i).2.1) ((rt kd mo gl F G i).2.2) (i) j0)) (fun j0 => nI (baF ((rt kd mo gl F G i).1) ((rt kd mo gl F G i).2.1) (i) j0)) (fun j0 => shF ((rt kd mo gl F G i).1) ((rt kd mo gl F G i).2.1) ((rt kd mo gl F G i).2.2) (i) j0) (fun j0 => srF ((rt kd mo gl F G i).1) ((rt kd mo gl F G i).2.1) ((rt kd mo gl F G i).2.2) (i) j0) (fun j0 => brF ((rt kd mo gl F G i).1) ((rt kd mo gl F G i).2.1) (i) j0) (seF ((rt kd mo gl F G i).1) (i)) (blF ((rt kd mo gl F G i).1) (i)) (rvF ((rt kd mo gl F G i).1) (i)) (nI F) (nI G) (nI i)) (I := fun _ => True) 4 ?_ 0 (by decide) trivial
      · exact key
      · intro f j hj _ ihj
        show wf_X1_becomeRule_26 _ _ _ _ _ _ _ _ _ _ _ _ _ _ _ _ _ _
        unfold wf_X1_becomeRule_26
        rw [le_4 (by omega)]
        refine ⟨fun q2 => ?_, fun q2 => ?_⟩
        · obtain rfl : j = 4 := by omega
          refine sp_add_g (k := 1) (m := 0) (a := 1) (r := 0) (b := 0) (l := 0) (by decide) (pm_ok F 4) (by decide) (by decide) (by decide) (by decide) _ ?_
          refine sp_add_g (k := 1) (m := 0) (a := 2) (r := 0) (b := 0) (l := 0) (by decide) (pm_ok F 5) (by decide) (by decide) (by decide) (by decide) _ ?_
          refine sp_add_g (k := 1) (m := 0) (a := 0) (r := 0) (b := 0) (l := 3) (by decide) (pm_ok F 6) (by decide) (by decide) (by decide) (by decide) _ ?_
          refine sp_add_g (k := 1) (m := 0) (a := 0) (r := 0) (b := 0) (l := 4) (by decide) (pm_ok F 7) (by decide) (by decide) (by decide) (by decide) _ ?_
          exact h
        · have hj4 : j < 4 := by omega
          have ihj := ihj hj4 trivial
          have b1 := bN_le (F.testBit j)
          have b2 := bN_le (G.testBit j)
          apply sp_bitOf _ (by omega)
          apply sp_bitOf _ (by omega)
          rw [bt_nI (by omega), bt_nI (by omega), bI_bN, bI_bN, da_1, rm_2 (by omega), da_3, dv_2 (by omega), da_1, da_3, mu_16]
          have hpm := pm_ok F j
          unfold pk pm at hpm
          rw [if_pos hj4, if_pos hj4] at hpm
          refine sp_add_g (k := 5) (by omega) hpm (by omega) (by omega) (by omega) (by omega) _ ?_
          rintro _ rfl
          rw [ad_1]
          have e : rt kd mo gl F G (j + 1) = (upN (rt kd mo gl F G j).1 j 5, upN (rt kd mo gl F G j).2.1 j (16 * (1 + bN (F.testBit j))), gl4 (rt kd mo gl F G j).2.2 j (1 + bN (F.testBit j)) (3 + j % 2) (1 + j / 2) (3 + bN (G.testBit j))) := by
            rw [rt]
            unfold pk pm pa pr pb pl
            simp only [if_pos hj4]
          rw [e] at ihj
          exact ihj
    · rw [vp_in' (by omega), nI_clamp' (by omega), l_1, upd_N]
      refine ⟨by omega, ?_⟩
      rintro _ rfl _ rfl
      have ih := ih (by omega) trivial
      rw [nI_add]
      have e : upN (fun k => if 1 ≤ k ∧ k < i + 1 then 1 else 0) (i + 1) 1 = fun k => if 1 ≤ k ∧ k < i + 1 + 1 then 1 else 0 := by
        funext k
        unfold upN
        by_cases c : k = i + 1
        · rw [if_pos c, if_pos (by omega)]
        · rw [if_neg c]
          dsimp only
          by_cases c2 : 1 ≤ k ∧ k < i + 1
          · rw [if_pos c2, if_pos (by omega)]
          · rw [if_neg c2, if_neg (by omega)]
      rw [e]
      exact ih
/-! seeds of a row and a column -/
def sP (row col : Int32) (c t : Nat) : Nat := if t < c then 4 + bN (bt row (c - 1 - t)) else 6 + bN (bt col (t - c))
def sL (c t : Nat) : Nat := if t < c then t + 240 else c + 16 * (14 - (t - c))
def rs (kd : Nat → Nat) (row col : Int32) (c : Nat) : Nat → Nat → Nat
  | 0 => fun _ => 0
  | t + 1 => layN kd (sP row col c t) (sL c t) (rs kd row col c t)
def gSq (si : (Nat → Int32)) (l : Nat → Nat) (made : Nat) : Nat → Nat → Int32
  | 0 => si
  | t + 1 => upS (gSq si l made t) (l t) (nI (made + t))
theorem sP_b (row col : Int32) (c t : Nat) : 4 ≤ sP row col c t ∧ sP row col c t < 8 := by
  have h1 := bN_le (bt row (c - 1 - t))
  have h2 := bN_le (bt col (t - c))
  unfold sP
  split <;> omega
theorem rs_inv {kd : Nat → Nat} {row col : Int32} {c r : Nat} (hk : ∀ p, 4 ≤ p → p < 8 → kd p = 1) (hc : 1 ≤ c) (hc2 : c ≤ 15) (hr : r ≤ 15) : ∀ t, t ≤ c + r → okS kd 8 (rs kd row col c t) ∧ grn kd (rs kd row col c t) = 0 ∧ (∀ j, rs kd row col c t j ≠ 0 → ∃ t', t' < t ∧ j = sL c t') ∧ (t < c + r → freN kd (sP row col c t) (sL c t) (rs kd row col c t)) := by
  have fr : ∀ t on, t < c + r → (∀ j, on j ≠ 0 → ∃ t', t' < t ∧ j = sL c t') → freN kd (sP row col c t) (sL c t) on := by
    intro t on ht h
    have hb := sP_b row col c t
    have hkp := hk _ hb.1 hb.2
    refine ⟨?_, ?_, fun e => by omega⟩
    · unfold sL
      split <;> omega
    · refine Classical.byContradiction fun hx => ?_
      obtain ⟨t', h1, h2⟩ := h _ hx
      unfold sL at h2
      repeat' split at h2
      all_goals omega
  intro t
  induction t with
  | zero =>
    intro _
    exact ⟨okS_0 kd 8, grn_z kd, fun j hj => absurd rfl hj, fun ht => fr 0 _ ht (fun j hj => absurd rfl hj)⟩
  | succ t ih =>
    intro ht
    obtain ⟨i1, i2, i3, i4⟩ := ih (by omega)
    have hf := i4 (by omega)
    have hb := sP_b row col c t
    have hkp := hk _ hb.1 hb.2
    have hc := (cnt_lay hf).2
    rw [if_pos hkp, i2] at hc
    have i3' : ∀ j, rs kd row col c (t + 1) j ≠ 0 → ∃ t', t' < t + 1 ∧ j = sL c t' := by
      intro j hj
      have hj : layN kd (sP row col c t) (sL c t) (rs kd row col c t) j ≠ 0 := hj
      rw [lay_v, if_neg (fun q => by omega)] at hj
      by_cases e : j = sL c t
      · exact ⟨t, by omega, e⟩
      · rw [if_neg e] at hj
        obtain ⟨t', h1, h2⟩ := i3 j hj
        exact ⟨t', by omega, h2⟩
    exact ⟨okS_lay i1 hb.2 hf, hc, i3', fun ht => fr _ _ ht i3'⟩
/-- many puts in a row -/
theorem okH_seq {kd : Nat → Nat} {P made kept : Nat} {aW aP aL : Nat → Nat} {aB : (Nat → Int32)} {hs : Nat → Nat → Nat} {sI : Nat → Nat → Int32} {v l : Nat → Nat} {og : Nat → Nat → Nat} {sq : Nat → Nat → Int32} {w : Nat} (hk : kept ≤ 200) (hkm : kept ≤ made) (h : okH kd P made kept aW aP aL aB hs sI) (h0 : hs made = og 0) (s0 : sI made = sq 0) (hw : w ≠ 2) (hw3 : w ≤ 3) :
    ∀ m, (∀ t, t < m → v t < P ∧ freN kd (v t) (l t) (og t) ∧ og (t + 1) = layN kd (v t) (l t) (og t) ∧ sq (t + 1) = upS (sq t) (l t) (nI (made + t))) →
      okH kd P (made + m) (min (kept + m) 200) (gU aW (fun _ => w) made m) (gU aP v made m) (gU aL l made m) aB (gHs hs og made m) (gSI sI sq made m) ∧ gHs hs og made m (made + m) = og m ∧ gSI sI sq made m (made + m) = sq m ∧ ∀ t, t ≤ made → gHs hs og made m t = hs t
  | 0, _ => by
    rw [show min (kept + 0) 200 = kept by omega]
    exact ⟨h, h0, s0, fun t _ => rfl⟩
  | m + 1, hm => by
    obtain ⟨i1, i2, i3, i4⟩ := okH_seq hk hkm h h0 s0 hw hw3 m (fun t ht => hm t (by omega))
    obtain ⟨g1, g2, g3, g4⟩ := hm m (by omega)
    have := okH_put i1 (by omega) (by omega) hw hw3 g1 (by rw [i2]; exact g2) (kept' := min (kept + (m + 1)) 200) (by omega)
    rw [i2, i3, ← g3, ← g4] at this
    refine ⟨this, ?_, ?_, fun t ht => ?_⟩
    · show upH (gHs hs og made m) (made + m + 1) (og (m + 1)) (made + (m + 1)) = og (m + 1)
      exact upH_s _ _ _
    · show upH (gSI sI sq made m) (made + m + 1) (sq (m + 1)) (made + (m + 1)) = sq (m + 1)
      exact upH_s _ _ _
    · show upH (gHs hs og made m) (made + m + 1) (og (m + 1)) t = hs t
      rw [upH_n (by omega)]
      exact i4 t ht
