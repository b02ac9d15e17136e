/-! the walk in the model, from beginning to end -/
section
variable {kd mo gl sg : Nat → Nat} {w P most c : Nat} {on on0 : Nat → Nat}
def sK (kd mo gl sg : Nat → Nat) (w P : Nat) (on : Nat → Nat) (k : Nat) : Nat := fb_sm (fun k => nC kd mo gl sg w (pad on) P (celK k)) k
theorem sK_s (k : Nat) : sK kd mo gl sg w P on (k + 1) = sK kd mo gl sg w P on k + nC kd mo gl sg w (pad on) P (celK k) := rfl
theorem sK_le (hP : P ≤ 40) : ∀ k, sK kd mo gl sg w P on k ≤ 40 * k
  | 0 => Nat.zero_le _
  | k + 1 => by
    have := sK_le hP k
    have h := nC_le (kd := kd) (mo := mo) (gl := gl) (sg := sg) (w := w) (B := pad on) (P := P) (celK k)
    rw [sK_s]
    omega
theorem sm_all {f : Nat → Nat} : ∀ n, (∀ k, k < n → f k = 0) → fb_sm f n = 0
  | 0, _ => rfl
  | n + 1, h => by rw [fb_sm_succ, sm_all n (fun k hk => h k (by omega)), h n (by omega)]
theorem sK_0 {k : Nat} : sK kd mo gl sg w P on k = 0 ↔ ∀ k', k' < k → ∀ p, p < P → mayC kd mo gl sg w (pad on) p (celK k') = false := by
  constructor
  · intro h k' hk' p hp
    exact (fb_ct_zero.mp (fb_sm_zero h k' hk')) p hp
  · intro h
    exact sm_all k (fun k' hk' => fb_ct_zero.mpr (h k' hk'))
theorem nA_0 : nA kd mo gl sg w (pad on) P = 0 ↔ sK kd mo gl sg w P on 256 = 0 := by
  rw [sK_0]
  constructor
  · intro h k' hk' p hp
    have h1 := fb_sm_zero h (k' / 16) (by omega)
    have h2 := fb_sm_zero h1 (k' % 16) (by omega)
    exact (fb_ct_zero.mp h2) p hp
  · intro h
    refine sm_all 16 (fun y hy => sm_all 16 (fun x hx => fb_ct_zero.mpr (fun p hp => ?_)))
    have := h (x + 16 * y) (by omega) p hp
    rw [celK_xy hx] at this
    exact this
/-- the model's list of shapes, between two of them -/
def okY (kd : Nat → Nat) (P most c : Nat) (st : St) (shapes : (Nat → Int32)) (many mp : Int32) : Prop :=
  many = nI st.1 ∧ 0 < st.1 ∧ st.1 ≤ 300 ∧ okP st.1 st.2.1 shapes ∧ (∀ j, j < st.1 → okS kd P (st.2.1 j)) ∧ (∀ i j, i ≤ j → j < st.1 → cnt (st.2.1 i) ≤ cnt (st.2.1 j)) ∧ (∀ j, j < st.1 → cnt (st.2.1 j) ≤ most) ∧ (c < st.1 → ∀ j, j < st.1 → cnt (st.2.1 j) ≤ cnt (st.2.1 c) + 1) ∧ mp = nI (cnt (st.2.1 (st.1 - 1)))
theorem okX_Y {st : St} {shapes : (Nat → Int32)} {many mp : Int32} (h : okX kd P most c on st shapes many mp) : okY kd P most (c + 1) st shapes many mp := by
  obtain ⟨v1, v2, v3, v4, v5, v6, v7, v8, v9, v10⟩ := h
  refine ⟨v1, by omega, v4, v5, v6, v7, v8, fun hc j hj => ?_, v10⟩
  have h1 := v9 j hj
  have h2 := v7 c (c + 1) (by omega) hc
  rw [v3] at h2
  omega
theorem okY_X {st : St} {shapes : (Nat → Int32)} {many mp : Int32} (h : okY kd P most c st shapes many mp) (hc : c < st.1) : okX kd P most c (st.2.1 c) st shapes many mp := by
  obtain ⟨v1, v2, v3, v4, v5, v6, v7, v8, v9⟩ := h
  exact ⟨v1, hc, rfl, v3, v4, v5, v6, v7, v8 hc, v9⟩
theorem okY_w {c' : Nat} {st : St} {shapes : (Nat → Int32)} {many mp : Int32} (h : okY kd P most c st shapes many mp) (hc : st.1 ≤ c') : okY kd P most c' st shapes many mp := by
  obtain ⟨v1, v2, v3, v4, v5, v6, v7, v8, v9⟩ := h
  exact ⟨v1, v2, v3, v4, v5, v6, v7, fun x => by omega, v9⟩
theorem sp_one {st : St} {shapes next : (Nat → Int32)} {many mp en cu wa wd : Int32} (hT : okT kd mo gl sg) (hP : P ≤ 40) (h3 : w ≤ 3) (hX : okX kd P most c on st shapes many mp) (hst : st.2.2 = false) (hm40 : most ≤ 40)
    (K1 : (Nat → Int32) → Int32 → Int32 → Int32 → Int32 → Int32 → Int32 → (Nat → Int32) → Int32 → Int32 → Prop) (Q : Int32 → (Nat → Int32) → Int32 → Int32 → Int32 → Int32 → Int32 → Int32 → (Nat → Int32) → Prop)
    (h0 : nA kd mo gl sg w (pad on) P = 0 → ∀ shapes' many' mp' next', okX kd P most c on st shapes' many' mp' → K1 shapes' many' (en + 1) cu mp' wa wd next' (nI most) (nI (c + 1)))
    (h1 : nA kd mo gl sg w (pad on) P ≠ 0 → ¬ cnt on < most → ∀ next', K1 shapes many en (cu + 1) mp wa wd next' (nI most) (nI (c + 1)))
    (h2 : nA kd mo gl sg w (pad on) P ≠ 0 → cnt on < most → (wK kd mo gl sg w P on 256 st).2.2 = false → ∀ shapes' many' mp' next', okX kd P most c on (wK kd mo gl sg w P on 256 st) shapes' many' mp' → K1 shapes' many' en cu mp' wa wd next' (nI most) (nI (c + 1)))
    (h4 : nA kd mo gl sg w (pad on) P ≠ 0 → cnt on < most → (wK kd mo gl sg w P on 256 st).2.2 = true → ∀ shapes' many' mp' next', okX kd P most c on (wK kd mo gl sg w P on 256 st) shapes' many' mp' → Q (-2) shapes' many' en cu mp' wa wd next') :
    (cnt on < most → ∃ f, wq_X8_walk_147 (fun k => nI (sg k)) (fun k => nI (kd k)) (fun k => nI (mo k)) (fun k => nI (gl k)) (nI P) (nI w) (fun j => nI (on0 j)) K1 Q f shapes many en cu mp wa wd next (nI most) (nI c) (nI (256 * c)) 0 0 0) ∧ (¬ cnt on < most → ∃ f, wq_X8_walk_147 (fun k => nI (sg k)) (fun k => nI (kd k)) (fun k => nI (mo k)) (fun k => nI (gl k)) (nI P) (nI w) (fun j => nI (on0 j)) K1 Q f shapes many en cu mp wa wd next (nI most) (nI c) (nI (256 * c)) 1 0 0) := by
  have hA : ∀ (st : St) (shapes : (Nat → Int32)) (many mp : Int32), okX kd P most c on st shapes many mp → okA P 76800 (256 * c) shapes on := by
    rintro st shapes many mp ⟨v1, v2, v3, v4, v5, v6, v7, v8, v9, v10⟩
    exact ⟨by omega, by decide, fun i hi => by rw [v5 c v2 i hi, v3], by rw [← v3]; exact okS_B (v6 c v2), hP⟩
  have e256 : ∀ k, k < 256 → celN (k % 16) (k / 16) = celK k := fun k _ => rfl
  refine ⟨fun lt => ?_, fun nlt => ?_⟩
  · have key := lp_up (W := fun f k => ∀ shapes many mp next, okX kd P most c on (wK kd mo gl sg w P on k st) shapes many mp → (wK kd mo gl sg w P on k st).2.2 = false → wq_X8_walk_147 (fun k => nI (sg k)) (fun k => nI (kd k)) (fun k => nI (mo k)) (fun k => nI (gl k)) (nI P) (nI w) (fun j => nI (on0 j)) K1 Q f shapes many en cu mp wa wd next (nI most) (nI c) (nI (256 * c)) 0 (nI (sK kd mo gl sg w P on k)) (nI k)) (I := fun _ => True) 256 ?_ 0 (by decide) trivial
    · obtain ⟨f, hf⟩ := key
      exact ⟨f, hf _ _ _ _ hX hst⟩
    · intro f k hk _ ih shapes many mp next hX hst'
      show wf_X8_walk_147 _ _ _ _ _ _ _ _ _ _ _ _ _ _ _ _ _ _ _ _ _ _ _ _
      unfold wf_X8_walk_147
      have hsk := sK_le (kd := kd) (mo := mo) (gl := gl) (sg := sg) (w := w) (on := on) hP k
      rw [le_256 (by omega)]
      refine ⟨fun q => ?_, fun q => ⟨fun _ => ?_, fun e => absurd rfl e⟩⟩
      · obtain rfl : k = 256 := by omega
        unfold wq_X8_walk_372
        rw [eq_0 (by omega), ← nA_0]
        refine ⟨fun x => ⟨fun _ => ?_, fun e => absurd rfl e⟩, fun x => ?_⟩
        · rintro _ rfl
          rw [ad_1]
          exact h2 x lt hst' _ _ _ _ hX
        · rintro _ rfl _ rfl
          rw [ad_1]
          have e := wK_no (kd := kd) (mo := mo) (gl := gl) (sg := sg) (w := w) (P := P) (on := on) 0 st 256 (fun k' _ b p hp => sK_0.mp (nA_0.mp x) k' (by omega) p hp)
          rw [Nat.zero_add] at e
          rw [e] at hX
          exact h0 x _ _ _ _ hX
      · have hk6 : k < 256 := by omega
        have ih := ih hk6 trivial
        have key := lp_up (W := fun m p => ∀ shapes many mp next, okX kd P most c on (wP kd mo gl sg w P on k p (wK kd mo gl sg w P on k st)) shapes many mp → (wP kd mo gl sg w P on k p (wK kd mo gl sg w P on k st)).2.2 = false → wq_X8_walk_168 (fun k => nI (sg k)) (fun k => nI (kd k)) (fun k => nI (mo k)) (fun k => nI (gl k)) (nI P) (nI w) (fun j => nI (on0 j)) K1 (fun a1 a2 a3 a4 a5 a6 a7 a8 a9 a10 a11 a12 a13 a14 => wq_X8_walk_147 (fun k => nI (sg k)) (fun k => nI (kd k)) (fun k => nI (mo k)) (fun k => nI (gl k)) (nI P) (nI w) (fun j => nI (on0 j)) K1 Q f a1 a2 a3 a4 a5 a6 a7 a8 a9 a10 a11 a12 a13 a14) Q m shapes many en cu mp wa wd next (nI most) (nI c) (nI (256 * c)) 0 (nI (sK kd mo gl sg w P on k + fb_ct (fun p => mayC kd mo gl sg w (pad on) p (celK k)) p)) (nI k) (nI p)) (I := fun _ => True) P ?_ 0 (Nat.zero_le _) trivial
        · obtain ⟨m, hm⟩ := key
          exact ⟨m, hm _ _ _ _ hX hst'⟩
        · intro m p hp _ ihp shapes many mp next hX hst'
          show wf_X8_walk_168 _ _ _ _ _ _ _ _ _ _ _ _ _ _ _ _ _ _ _ _ _ _ _ _ _ _
          unfold wf_X8_walk_168
          have hct := fb_ct_le (fun p => mayC kd mo gl sg w (pad on) p (celK k)) p
          rw [nI_le' (by omega) (by omega)]
          refine ⟨fun q => ?_, fun q => ?_⟩
          · obtain rfl : p = P := by omega
            rintro _ rfl
            rw [ad_1]
            have e : wK kd mo gl sg w p on (k + 1) st = wP kd mo gl sg w p on k p (wK kd mo gl sg w p on k st) := by
              rw [wK_s]
              have := wP_no (kd := kd) (mo := mo) (gl := gl) (sg := sg) (w := w) (P := p) (on := on) (k := k) p (wK kd mo gl sg w p on k st) (fun p' a b => absurd a (by omega)) (40 - p)
              rw [show p + (40 - p) = 40 by omega] at this
              exact this
            rw [e] at ih
            exact ih _ _ _ _ hX hst'
          · have hpP : p < P := by omega
            have ihp := ihp hpP trivial
            rw [rm_16 (by omega), dv_16 (by omega)]
            refine sp_mayCome (f := 256 * c) hT (hA _ _ _ _ hX) h3 (by omega) (by omega) (by omega) _ ?_
            rw [e256 k hk6, bI_0]
            have es := wP_s (kd := kd) (mo := mo) (gl := gl) (sg := sg) (w := w) (P := P) (on := on) (k := k) p (wK kd mo gl sg w P on k st)
            rw [decide_eq_true hpP, Bool.true_and] at es
            have ec : fb_ct (fun p => mayC kd mo gl sg w (pad on) p (celK k)) (p + 1) = fb_ct (fun p => mayC kd mo gl sg w (pad on) p (celK k)) p + if mayC kd mo gl sg w (pad on) p (celK k) then 1 else 0 := rfl
            refine ⟨fun z => ?_, fun z => ?_⟩
            · have z : mayC kd mo gl sg w (pad on) p (celK k) = true := by simpa using z
              rw [z, if_pos rfl] at ec
              rw [if_pos z] at es
              rw [ec, ← Nat.add_assoc] at ihp
              rintro _ rfl
              rw [ad_1]
              refine ⟨fun _ => ?_, fun e => absurd rfl e⟩
              have hfr : freN kd p k on := by
                have := fre_N (x := k % 16) (y := k / 16) (by omega) (by omega) (mayC_fre z).1
                rw [show k % 16 + 16 * (k / 16) = k by omega] at this
                exact this
              rw [es] at ihp
              refine sp_radd hT hP hX hst' lt hpP hfr _ _ _ _ (fun shapes' many' mp' next' hX' hf' => ihp _ _ _ _ hX' hf') (fun hX' hf' next' => ?_)
              rw [← es] at hX' hf'
              have e1 := wP_sp (p + 1) 40 _ (by omega) hf'
              rw [← wK_s] at e1
              rw [← e1] at hf' hX'
              have e2 := wK_sp (k + 1) 256 st (by omega) hf'
              rw [← e2] at hf' hX'
              refine h4 (fun n0 => ?_) lt hf' _ _ _ _ hX'
              have := sK_0.mp (nA_0.mp n0) k hk6 p hpP
              rw [z] at this
              exact absurd this (by decide)
            · rw [z, if_neg (by decide), Nat.add_zero] at ec
              rw [if_neg (by rw [z]; decide)] at es
              rw [ec, es] at ihp
              rintro _ rfl
              rw [ad_1]
              exact ihp _ _ _ _ hX hst'
  · have key := lp_up (W := fun f k => ∀ next, wq_X8_walk_147 (fun k => nI (sg k)) (fun k => nI (kd k)) (fun k => nI (mo k)) (fun k => nI (gl k)) (nI P) (nI w) (fun j => nI (on0 j)) K1 Q f shapes many en cu mp wa wd next (nI most) (nI c) (nI (256 * c)) 1 (nI (sK kd mo gl sg w P on k)) (nI k)) (I := fun _ => True) 256 ?_ 0 (by decide) trivial
    · obtain ⟨f, hf⟩ := key
      exact ⟨f, hf _⟩
    · intro f k hk _ ih next
      show wf_X8_walk_147 _ _ _ _ _ _ _ _ _ _ _ _ _ _ _ _ _ _ _ _ _ _ _ _
      unfold wf_X8_walk_147
      have hsk := sK_le (kd := kd) (mo := mo) (gl := gl) (sg := sg) (w := w) (on := on) hP k
      have cutt : sK kd mo gl sg w P on k ≠ 0 → nA kd mo gl sg w (pad on) P ≠ 0 := by
        intro x y
        exact x (sK_0.mpr (fun k' hk' => sK_0.mp (nA_0.mp y) k' (by omega)))
      have q372 : sK kd mo gl sg w P on k ≠ 0 ∨ k = 256 → wq_X8_walk_372 (fun k => nI (sg k)) (fun k => nI (kd k)) (fun k => nI (mo k)) (fun k => nI (gl k)) (nI P) (nI w) (fun j => nI (on0 j)) K1 Q shapes many en cu mp wa wd next (nI most) (nI c) 1 (nI (sK kd mo gl sg w P on k)) := by
        intro hor
        unfold wq_X8_walk_372
        rw [eq_0 (by omega)]
        refine ⟨fun x => ⟨fun e => absurd e (by decide), fun _ => ?_⟩, fun x => ?_⟩
        · rintro _ rfl _ rfl
          rw [ad_1]
          exact h1 (cutt x) nlt _
        · rintro _ rfl _ rfl
          rw [ad_1]
          rcases hor with y | y
          · exact absurd x y
          · subst y
            exact h0 (nA_0.mpr x) _ _ _ _ hX
      rw [le_256 (by omega), eq_0 (by omega)]
      refine ⟨fun q => q372 (Or.inr (by omega)), fun q => ⟨fun e => absurd e (by decide), fun _ => ⟨fun x => q372 (Or.inl x), fun x => ?_⟩⟩⟩
      have hk6 : k < 256 := by omega
      have ih := ih hk6 trivial
      have key := lp_up (W := fun m p => wq_X8_walk_168 (fun k => nI (sg k)) (fun k => nI (kd k)) (fun k => nI (mo k)) (fun k => nI (gl k)) (nI P) (nI w) (fun j => nI (on0 j)) K1 (fun a1 a2 a3 a4 a5 a6 a7 a8 a9 a10 a11 a12 a13 a14 => wq_X8_walk_147 (fun k => nI (sg k)) (fun k => nI (kd k)) (fun k => nI (mo k)) (fun k => nI (gl k)) (nI P) (nI w) (fun j => nI (on0 j)) K1 Q f a1 a2 a3 a4 a5 a6 a7 a8 a9 a10 a11 a12 a13 a14) Q m shapes many en cu mp wa wd next (nI most) (nI c) (nI (256 * c)) 1 (nI (sK kd mo gl sg w P on k + fb_ct (fun p => mayC kd mo gl sg w (pad on) p (celK k)) p)) (nI k) (nI p)) (I := fun _ => True) P ?_ 0 (Nat.zero_le _) trivial
      · exact key
      · intro m p hp _ ihp
        show wf_X8_walk_168 _ _ _ _ _ _ _ _ _ _ _ _ _ _ _ _ _ _ _ _ _ _ _ _ _ _
        unfold wf_X8_walk_168
        have hct := fb_ct_le (fun p => mayC kd mo gl sg w (pad on) p (celK k)) p
        rw [nI_le' (by omega) (by omega)]
        refine ⟨fun q => ?_, fun q => ?_⟩
        · obtain rfl : p = P := by omega
          rintro _ rfl
          rw [ad_1]
          exact ih _
        · have hpP : p < P := by omega
          have ihp := ihp hpP trivial
          rw [rm_16 (by omega), dv_16 (by omega)]
          refine sp_mayCome (f := 256 * c) hT (hA _ _ _ _ hX) h3 (by omega) (by omega) (by omega) _ ?_
          rw [e256 k hk6, bI_0]
          have ec : fb_ct (fun p => mayC kd mo gl sg w (pad on) p (celK k)) (p + 1) = fb_ct (fun p => mayC kd mo gl sg w (pad on) p (celK k)) p + if mayC kd mo gl sg w (pad on) p (celK k) then 1 else 0 := rfl
          refine ⟨fun z => ?_, fun z => ?_⟩
          · have z : mayC kd mo gl sg w (pad on) p (celK k) = true := by simpa using z
            rw [z, if_pos rfl] at ec
            rw [ec, ← Nat.add_assoc] at ihp
            rintro _ rfl
            rw [ad_1]
            refine ⟨fun e => absurd e (by decide), fun _ => ?_⟩
            rintro _ rfl
            rw [ad_1]
            exact ihp
          · rw [z, if_neg (by decide), Nat.add_zero] at ec
            rw [ec] at ihp
            rintro _ rfl
            rw [ad_1]
            exact ihp
end
