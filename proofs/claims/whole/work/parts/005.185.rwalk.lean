/-! the walk in the model: one shape more -/
def okP (n : Nat) (sh : Nat → Nat → Nat) (shapes : (Nat → Int32)) : Prop := ∀ j, j < n → ∀ i, i < 256 → shapes (256 * j + i) = nI (sh j i)
theorem layI_v {kd : Nat → Nat} {p k : Nat} {arr : (Nat → Int32)} (j : Nat) : layI kd p k arr j = if kd p = 2 ∧ j = k + 1 then nI (2 + 2 * p) else if j = k then nI (1 + 2 * p) else arr j := by
  unfold layI
  by_cases h : kd p = 2
  · rw [if_pos h, upd_at, upd_at]
    by_cases e : j = k + 1
    · rw [if_pos e, if_pos ⟨h, e⟩]
    · rw [if_neg e, if_neg (show ¬ (kd p = 2 ∧ j = k + 1) from fun z => e z.2)]
  · rw [if_neg h, upd_at, if_neg (show ¬ (kd p = 2 ∧ j = k + 1) from fun z => h z.1)]
theorem okS_eq {kd : Nat → Nat} {P : Nat} {a b : Nat → Nat} (ha : okS kd P a) (hb : okS kd P b) (h : ∀ i, i < 256 → a i = b i) : a = b := by
  funext i
  rcases Nat.lt_or_ge i 256 with x | x
  · exact h i x
  · rw [ha.2.1 i x, hb.2.1 i x]
theorem sp_found {kd : Nat → Nat} {P n : Nat} {sh : Nat → Nat → Nat} {shapes next : (Nat → Int32)} {o : Nat → Nat} (hP : P ≤ 40) (hn : n ≤ 300) (hS : ∀ j, j < n → okS kd P (sh j)) (ho : okS kd P o) (hp : okP n sh shapes) (hx : ∀ i, i < 256 → next i = nI (o i)) (Q : Int32 → Prop)
    (q1 : (∃ j, j < n ∧ sh j = o) → ∀ j, j < n → Q (nI j)) (q0 : (∀ j, j < n → sh j ≠ o) → Q (-1)) : wp_X8_found shapes (nI n) next Q := by
  unfold wp_X8_found
  refine lp_up (W := fun f j => wq_X8_found_2 shapes (nI n) next Q f (nI j)) (I := fun j => ∀ i, i < j → sh i ≠ o) n ?_ 0 (Nat.zero_le _) (fun i hi => absurd hi (by omega))
  intro f j hj hI ih
  show wf_X8_found_2 _ _ _ _ _ _
  unfold wf_X8_found_2
  rw [nI_le' (by omega) (by omega)]
  refine ⟨fun q => ?_, fun q => ?_⟩
  · obtain rfl : j = n := by omega
    exact q0 hI
  · have hjn : j < n := by omega
    have ih := ih hjn
    have fin : ∀ b : Bool, (b = true → sh j = o) → (b = false → sh j ≠ o) → wq_X8_found_58 shapes (nI n) next (fun a => wq_X8_found_2 shapes (nI n) next Q f a) Q (nI j) (bI b) := by
      intro b h1 h0
      unfold wq_X8_found_58
      rw [bI_0]
      refine ⟨fun e => ?_, fun e => q1 ⟨j, hjn, h1 (by simpa using e)⟩ j hjn⟩
      rintro _ rfl
      rw [ad_1]
      refine ih (fun i hi => ?_)
      rcases Nat.lt_or_ge i j with y | y
      · exact hI i y
      · rw [show i = j by omega]; exact h0 e
    refine pk_loop (σ := Bool) (fun m i b => wq_X8_found_14 shapes (nI n) next (fun a => wq_X8_found_2 shapes (nI n) next Q f a) Q m (nI j) (bI b) (nI i)) (fun i b => (b = true → ∀ i', i' < i → sh j i' = o i') ∧ (b = false → sh j ≠ o)) 256 0 true (by decide) ⟨fun _ i' hi' => absurd hi' (by omega), fun e => absurd e (by decide)⟩ ?_ ?_
    · rintro m b ⟨g1, g2⟩
      show wf_X8_found_14 _ _ _ _ _ _ _ _ _
      unfold wf_X8_found_14
      exact ⟨fun _ => fin b (fun e => okS_eq (hS j hjn) ho (g1 e)) g2, fun a => absurd (by decide) a⟩
    · rintro m i b hi ⟨g1, g2⟩ ihi
      show wf_X8_found_14 _ _ _ _ _ _ _ _ _
      unfold wf_X8_found_14
      rw [le_256 (by omega)]
      refine ⟨fun a => absurd a (by omega), fun _ => ?_⟩
      rw [bI_0]
      refine ⟨fun e => fin b (fun x => by rw [x] at e; exact absurd e (by decide)) g2, fun e => ?_⟩
      have e : b = true := by simpa using e
      have b1 := ((hS j hjn).1 i).1
      have b2 := (ho.1 i).1
      rw [mu_256, nI_add, vp_in' (by omega), nI_clamp' (by omega), hp j hjn i hi]
      refine ⟨by omega, ?_⟩
      rintro _ rfl
      rw [vp_in' (by omega), nI_clamp' (by omega), hx i hi]
      refine ⟨hi, ?_⟩
      rintro _ rfl
      rw [nI_eq' (by omega) (by omega)]
      refine ⟨fun u => ?_, fun u => ?_⟩
      · rintro _ rfl
        rw [ad_1]
        exact ihi false ⟨fun x => absurd x (by decide), fun _ z => u (by rw [z])⟩
      · rintro _ rfl
        rw [ad_1]
        refine ihi true ⟨fun _ i' hi' => ?_, fun x => absurd x (by decide)⟩
        rcases Nat.lt_or_ge i' i with y | y
        · exact g1 e i' y
        · rw [show i' = i by omega]; exact u
/-- the model's list of shapes, while one of them is gone through -/
def okX (kd : Nat → Nat) (P most c : Nat) (on : Nat → Nat) (st : St) (shapes : (Nat → Int32)) (many mp : Int32) : Prop :=
  many = nI st.1 ∧ c < st.1 ∧ st.2.1 c = on ∧ st.1 ≤ 300 ∧ okP st.1 st.2.1 shapes ∧ (∀ j, j < st.1 → okS kd P (st.2.1 j)) ∧ (∀ i j, i ≤ j → j < st.1 → cnt (st.2.1 i) ≤ cnt (st.2.1 j)) ∧ (∀ j, j < st.1 → cnt (st.2.1 j) ≤ most) ∧ (∀ j, j < st.1 → cnt (st.2.1 j) ≤ cnt on + 1) ∧ mp = nI (cnt (st.2.1 (st.1 - 1)))
section
variable {kd mo gl sg : Nat → Nat} {w P most c k p : Nat} {on on0 : Nat → Nat}
theorem sp_radd {st : St} {shapes next : (Nat → Int32)} {many mp en cu wa wd x5 : Int32} (hT : okT kd mo gl sg) (hP : P ≤ 40) (hX : okX kd P most c on st shapes many mp) (hst : st.2.2 = false) (hm : cnt on < most) (hp : p < P) (hfr : freN kd p k on)
    (K1 : (Nat → Int32) → Int32 → Int32 → Int32 → Int32 → Int32 → Int32 → (Nat → Int32) → Int32 → Int32 → Prop) (K2 : (Nat → Int32) → Int32 → Int32 → Int32 → Int32 → Int32 → Int32 → (Nat → Int32) → Int32 → Int32 → Int32 → Int32 → Int32 → Int32 → Prop) (K3 : (Nat → Int32) → Int32 → Int32 → Int32 → Int32 → Int32 → Int32 → (Nat → Int32) → Int32 → Int32 → Int32 → Int32 → Int32 → Int32 → Int32 → Prop) (Q : Int32 → (Nat → Int32) → Int32 → Int32 → Int32 → Int32 → Int32 → Int32 → (Nat → Int32) → Prop)
    (h1 : ∀ shapes' many' mp' next', okX kd P most c on (adS st (layN kd p k on)) shapes' many' mp' → (adS st (layN kd p k on)).2.2 = false → K3 shapes' many' en cu mp' wa wd next' (nI most) (nI c) (nI (256 * c)) 0 x5 (nI k) (nI (p + 1)))
    (h2 : okX kd P most c on (adS st (layN kd p k on)) shapes many mp → (adS st (layN kd p k on)).2.2 = true → ∀ next', Q (-2) shapes many en cu mp wa wd next') :
    ∃ f, wq_X8_walk_218 (fun k => nI (sg k)) (fun k => nI (kd k)) (fun k => nI (mo k)) (fun k => nI (gl k)) (nI P) (nI w) (fun j => nI (on0 j)) K1 K2 K3 Q f shapes many en cu mp wa wd next (nI most) (nI c) (nI (256 * c)) 0 x5 (nI k) (nI p) 0 := by
  obtain ⟨n, sh, b⟩ := st
  dsimp only at hst
  subst hst
  have hX' := hX
  obtain ⟨rfl, v2, v3, v4, v5, v6, v7, v8, v9, rfl⟩ := hX'
  dsimp only at v2 v3 v4 v5 v6 v7 v8 v9
  have hSon : okS kd P on := by rw [← v3]; exact v6 c v2
  have hSt := okS_lay hSon hp hfr
  have hcl := cnt_lay hfr
  have hcb : cnt on ≤ 256 := fb_ct_le _ _
  have hcm : cnt (sh (n - 1)) ≤ 256 := fb_ct_le _ _
  refine pk_loop (σ := (Nat → Int32)) (fun f i z => wq_X8_walk_218 (fun k => nI (sg k)) (fun k => nI (kd k)) (fun k => nI (mo k)) (fun k => nI (gl k)) (nI P) (nI w) (fun j => nI (on0 j)) K1 K2 K3 Q f shapes (nI n) en cu (nI (cnt (sh (n - 1)))) wa wd z (nI most) (nI c) (nI (256 * c)) 0 x5 (nI k) (nI p) (nI i)) (fun i z => ∀ j, j < i → z j = nI (on j)) 256 0 next (by decide) (fun j hj => absurd hj (by omega)) ?_ ?_
  · intro f z hz
    show wf_X8_walk_218 _ _ _ _ _ _ _ _ _ _ _ _ _ _ _ _ _ _ _ _ _ _ _ _ _ _ _ _
    unfold wf_X8_walk_218
    refine ⟨fun _ => ?_, fun a => absurd (by decide) a⟩
    refine sp_lay (f := 0) hT.1 (by omega) (by have := hfr.1; omega) (fun e => by have := hfr.1; have := (hfr.2.2 e).1; omega) (by decide) _ ?_
    rw [Nat.zero_add]
    have hnx : ∀ i, i < 256 → layI kd p k z i = nI (layN kd p k on i) := by
      intro i hi
      rw [layI_v, lay_v]
      split
      · rfl
      · split
        · rfl
        · exact hz i hi
    generalize layI kd p k z = nx at *
    refine sp_found hP v4 v6 hSt v5 hnx _ (fun ex j hj => ?_) (fun no => ?_)
    · have e : adS (n, sh, false) (layN kd p k on) = (n, sh, false) := by
        unfold adS
        rw [if_neg (show ¬ false = true by decide), if_pos ex]
      rw [e] at h1
      refine ⟨fun q => absurd q (nI_pos (by omega)), fun _ => ?_⟩
      rintro _ rfl
      rw [ad_1]
      exact h1 _ _ _ _ hX rfl
    · refine ⟨fun _ => ?_, fun q => absurd (by decide) q⟩
      rw [eq_300 (by omega)]
      refine ⟨fun hne => ?_, fun he => ?_⟩
      · have e : adS (n, sh, false) (layN kd p k on) = (n + 1, (fun j => if j = n then layN kd p k on else sh j), false) := by
          unfold adS
          rw [if_neg (show ¬ false = true by decide), if_neg (fun ⟨j, a, b⟩ => no j a b), if_neg hne]
        rw [e] at h1
        refine pk_loop (σ := (Nat → Int32)) (fun f i z => wq_X8_walk_287 (fun k => nI (sg k)) (fun k => nI (kd k)) (fun k => nI (mo k)) (fun k => nI (gl k)) (nI P) (nI w) (fun j => nI (on0 j)) K1 K2 K3 Q f z (nI n) en cu (nI (cnt (sh (n - 1)))) wa wd nx (nI most) (nI c) (nI (256 * c)) 0 x5 (nI k) (nI p) (nI i)) (fun i z => okP n sh z ∧ ∀ j, j < i → z (256 * n + j) = nI (layN kd p k on j)) 256 0 shapes (by decide) ⟨v5, fun j hj => absurd hj (by omega)⟩ ?_ ?_
        · rintro f z ⟨z1, z2⟩
          show wf_X8_walk_287 _ _ _ _ _ _ _ _ _ _ _ _ _ _ _ _ _ _ _ _ _ _ _ _ _ _ _ _
          unfold wf_X8_walk_287
          refine ⟨fun _ => ?_, fun a => absurd (by decide) a⟩
          rintro _ rfl
          have mono : cnt (sh (n - 1)) ≤ cnt (layN kd p k on) := by
            rw [hcl.1]
            exact v9 _ (by omega)
          have hcl' := hcl.1
          have hX2 : okX kd P most c on (n + 1, (fun j => if j = n then layN kd p k on else sh j), false) z (nI (n + 1)) (nI (cnt (layN kd p k on))) := by
            have old : ∀ j, j < n → (if j = n then layN kd p k on else sh j) = sh j := fun j hj => if_neg (by omega)
            refine ⟨rfl, by dsimp only; omega, ?_, by dsimp only; omega, ?_, ?_, ?_, ?_, ?_, ?_⟩
            · dsimp only
              rw [old c v2]
              exact v3
            · intro j hj i hi
              dsimp only at hj ⊢
              rcases Nat.lt_or_ge j n with x | x
              · rw [old j x]; exact z1 j x i hi
              · obtain rfl : j = n := by omega
                rw [if_pos rfl]; exact z2 i hi
            · intro j hj
              dsimp only at hj ⊢
              rcases Nat.lt_or_ge j n with x | x
              · rw [old j x]; exact v6 j x
              · rw [if_pos (show j = n by omega)]; exact hSt
            · intro i j hij hj
              dsimp only at hj ⊢
              rcases Nat.lt_or_ge j n with x | x
              · rw [old j x, old i (by omega)]; exact v7 i j hij x
              · rw [if_pos (show j = n by omega)]
                rcases Nat.lt_or_ge i n with y | y
                · rw [old i y, hcl']; exact v9 i y
                · rw [if_pos (show i = n by omega)]; exact Nat.le_refl _
            · intro j hj
              dsimp only at hj ⊢
              rcases Nat.lt_or_ge j n with x | x
              · rw [old j x]; exact v8 j x
              · rw [if_pos (show j = n by omega), hcl']; exact hm
            · intro j hj
              dsimp only at hj ⊢
              rcases Nat.lt_or_ge j n with x | x
              · rw [old j x]; exact v9 j x
              · rw [if_pos (show j = n by omega), hcl']; exact Nat.le_refl _
            · dsimp only
              rw [if_pos (by omega)]
          have hA : okA P 256 0 nx (layN kd p k on) := ⟨by decide, by decide, fun j hj => by rw [Nat.zero_add]; exact hnx j hj, okS_B hSt, hP⟩
          refine sp_piecesOn (f := 0) hA _ ?_
          have hcb2 : cnt (layN kd p k on) ≤ 256 := fb_ct_le _ _
          rw [nI_le' (by omega) (by omega)]
          refine ⟨fun x => ?_, fun x => ?_⟩
          · rintro _ rfl
            rw [ad_1, ad_1]
            have e : cnt (sh (n - 1)) = cnt (layN kd p k on) := by omega
            rw [e]
            exact h1 _ _ _ _ hX2 rfl
          · rintro _ rfl
            rw [ad_1, ad_1]
            exact h1 _ _ _ _ hX2 rfl
        · rintro f i z hi ⟨z1, z2⟩ ih
          show wf_X8_walk_287 _ _ _ _ _ _ _ _ _ _ _ _ _ _ _ _ _ _ _ _ _ _ _ _ _ _ _ _
          unfold wf_X8_walk_287
          rw [le_256 (by omega)]
          refine ⟨fun a => absurd a (by omega), fun _ => ?_⟩
          rw [vp_in' (by omega), nI_clamp' (by omega), hnx i hi, mu_256, nI_add, vp_in' (by omega), nI_clamp' (by omega)]
          refine ⟨hi, ?_⟩
          rintro _ rfl
          refine ⟨by omega, ?_⟩
          rintro _ rfl _ rfl
          rw [ad_1]
          refine ih (upd z (256 * n + i) (nI (layN kd p k on i))) ⟨fun j hj i' hi' => ?_, fun j hj => ?_⟩
          · rw [upd_at, if_neg (by omega)]
            exact z1 j hj i' hi'
          · rw [upd_at]
            split
            · rename_i e; rw [show j = i by omega]
            · exact z2 j (by omega)
      · have e : adS (n, sh, false) (layN kd p k on) = (n, sh, true) := by
          unfold adS
          rw [if_neg (show ¬ false = true by decide), if_neg (fun ⟨j, a, b⟩ => no j a b), if_pos he]
        rw [e] at h2
        exact h2 hX rfl _
  · intro f i z hi hz ih
    show wf_X8_walk_218 _ _ _ _ _ _ _ _ _ _ _ _ _ _ _ _ _ _ _ _ _ _ _ _ _ _ _ _
    unfold wf_X8_walk_218
    rw [le_256 (by omega)]
    refine ⟨fun a => absurd a (by omega), fun _ => ?_⟩
    rw [nI_add, vp_in' (by omega), nI_clamp' (by omega), v5 c v2 i hi, v3]
    refine ⟨by omega, ?_⟩
    rintro _ rfl
    rw [vp_in' (by omega), nI_clamp' (by omega)]
    refine ⟨hi, ?_⟩
    rintro _ rfl _ rfl
    rw [ad_1]
    refine ih (upd z i (nI (on i))) (fun j hj => ?_)
    rw [upd_at]
    split
    · rename_i e; rw [e]
    · exact hz j (by omega)
end
