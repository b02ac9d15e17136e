/-! the walk, both sides -/
section
variable {kd mo gl sg : Nat → Nat} {w P most : Nat} {on0 : Nat → Nat}
/-- the model's lists after a walk -/
def okZ2 (kd : Nat → Nat) (P most : Nat) (s : St × Nat × Nat) (shapes : (Nat → Int32)) (many en cu mp : Int32) : Prop :=
  okY kd P most 300 s.1 shapes many mp ∧ en = nI s.2.1 ∧ cu = nI s.2.2
theorem sp_rwalk {shapes next : (Nat → Int32)} {many en cu mp wd : Int32} {wk : Nat} (hT : okT kd mo gl sg) (hP : P ≤ 40) (h3 : w ≤ 3) (h1 : 1 ≤ most) (hm : most ≤ 40) (hS : okS kd P on0) (hc : cnt on0 ≤ most) (hwk : wk < 60) (Q : Int32 → (Nat → Int32) → Int32 → Int32 → Int32 → Int32 → Int32 → Int32 → (Nat → Int32) → Prop)
    (hQ : ∀ shapes' many' en' cu' mp' next', okZ2 kd P most (wR kd mo gl sg w P most on0 300) shapes' many' en' cu' mp' → Q (if (wR kd mo gl sg w P most on0 300).1.2.2 = true then -2 else nI (wR kd mo gl sg w P most on0 300).1.1) shapes' many' en' cu' mp' (nI (wk + 1)) 1 next') :
    wp_X8_walk (fun k => nI (sg k)) (fun k => nI (kd k)) (fun k => nI (mo k)) (fun k => nI (gl k)) (nI P) (nI w) (fun j => nI (on0 j)) shapes many en cu mp (nI wk) wd next (nI most) Q := by
  have hA0 : okA P 256 0 (fun j => nI (on0 j)) on0 := ⟨by decide, by decide, fun j _ => by rw [Nat.zero_add], okS_B hS, hP⟩
  unfold wp_X8_walk
  rw [ls_1 (by omega), gt_40 (by omega)]
  refine ⟨fun a => absurd a (by omega), fun _ => ⟨fun a => absurd a (by omega), fun _ => ?_⟩⟩
  refine sp_piecesOn (f := 0) hA0 _ ?_
  rw [nI_lt' (by omega) (by omega), eq_60 (by omega)]
  refine ⟨fun a => absurd a (by omega), fun _ => ⟨fun _ => ?_, fun a => absurd a (by omega)⟩⟩
  rintro _ rfl
  rw [ad_1]
  refine pk_loop (σ := (Nat → Int32)) (fun f i z => wq_X8_walk_62 (fun k => nI (sg k)) (fun k => nI (kd k)) (fun k => nI (mo k)) (fun k => nI (gl k)) (nI P) (nI w) (fun j => nI (on0 j)) Q f z many 0 0 mp (nI (wk + 1)) 1 next (nI most) (nI i)) (fun i z => ∀ j, j < i → z j = nI (on0 j)) 256 0 shapes (by decide) (fun j hj => absurd hj (by omega)) ?_ ?_
  · intro f z hz
    show wf_X8_walk_62 _ _ _ _ _ _ _ _ _ _ _ _ _ _ _ _ _ _ _
    unfold wf_X8_walk_62
    refine ⟨fun _ => ?_, fun a => absurd (by decide) a⟩
    refine sp_piecesOn (f := 0) hA0 _ ?_
    have hY0 : okY kd P most 0 (wR kd mo gl sg w P most on0 0).1 z 1 (nI (cnt on0)) := by
      refine ⟨rfl, Nat.one_pos, by show 1 ≤ 300; decide, fun j hj i hi => ?_, fun j _ => hS, fun i j _ _ => Nat.le_refl _, fun j _ => hc, fun _ j _ => Nat.le_succ _, rfl⟩
      have hj : j < 1 := hj
      rw [show 256 * j + i = i by omega]
      exact hz i hi
    have key := lp_up (W := fun f k => ∀ shapes many en cu mp next, okY kd P most k (wR kd mo gl sg w P most on0 k).1 shapes many mp → en = nI (wR kd mo gl sg w P most on0 k).2.1 → cu = nI (wR kd mo gl sg w P most on0 k).2.2 → (wR kd mo gl sg w P most on0 k).1.2.2 = false → wq_X8_walk_107 (fun k => nI (sg k)) (fun k => nI (kd k)) (fun k => nI (mo k)) (fun k => nI (gl k)) (nI P) (nI w) (fun j => nI (on0 j)) Q f shapes many en cu mp (nI (wk + 1)) 1 next (nI most) (nI k)) (I := fun _ => True) 300 ?_ 0 (by decide) trivial
    · obtain ⟨f, hf⟩ := key
      exact ⟨f, hf _ _ _ _ _ _ hY0 rfl rfl rfl⟩
    · intro f k hk _ ih shapes many en cu mp next hY hen hcu hfl
      show wf_X8_walk_107 _ _ _ _ _ _ _ _ _ _ _ _ _ _ _ _ _ _ _
      unfold wf_X8_walk_107
      have hn3 := hY.2.2.1
      rw [hY.1, nI_le' (by omega) (by omega)]
      refine ⟨fun x => ?_, fun x => ?_⟩
      · have e := wR_end (kd := kd) (mo := mo) (gl := gl) (sg := sg) (w := w) (P := P) (most := most) (on0 := on0) k hk (Or.inl x)
        have := hQ shapes many en cu mp next
        rw [e, if_neg (by rw [hfl]; decide), hY.1] at this
        rw [hY.1] at hY
        exact this ⟨okY_w hY (by omega), hen, hcu⟩
      · have hk3 : k < 300 := by omega
        have ih := ih hk3 trivial
        have hs := wR_s (kd := kd) (mo := mo) (gl := gl) (sg := sg) (w := w) (P := P) (most := most) (on0 := on0) k
        rw [if_neg (fun u => u.elim x (fun v => by rw [hfl] at v; exact absurd v (by decide)))] at hs
        have hsp : ∀ s, wR kd mo gl sg w P most on0 (k + 1) = s → s.1.2.2 = true → wR kd mo gl sg w P most on0 300 = s := by
          intro s e f
          rw [← e] at f ⊢
          exact wR_end (k + 1) (by omega) (Or.inr f)
        generalize wR kd mo gl sg w P most on0 k = s at *
        have hX := okY_X hY (by omega)
        have hA : okA P 76800 (256 * k) shapes (s.1.2.1 k) := ⟨by omega, by decide, fun i hi => hY.2.2.2.1 k (by omega) i hi, okS_B (hY.2.2.2.2.1 k (by omega)), hP⟩
        have hcm := hY.2.2.2.2.2.2.1 k (by omega)
        have g0 : nA kd mo gl sg w (pad (s.1.2.1 k)) P = 0 → ∀ shapes' many' mp' next', okX kd P most k (s.1.2.1 k) s.1 shapes' many' mp' → (fun a1 a2 a3 a4 a5 a6 a7 a8 a9 a10 => wq_X8_walk_107 (fun k => nI (sg k)) (fun k => nI (kd k)) (fun k => nI (mo k)) (fun k => nI (gl k)) (nI P) (nI w) (fun j => nI (on0 j)) Q f a1 a2 a3 a4 a5 a6 a7 a8 a9 a10) shapes' many' (en + 1) cu mp' (nI (wk + 1)) 1 next' (nI most) (nI (k + 1)) := by
          intro n0 shapes' many' mp' next' hX'
          rw [if_pos n0] at hs
          rw [hs] at ih
          exact ih _ _ _ _ _ _ (okX_Y hX') (by rw [hen, ad_1]) hcu hfl
        have g1 : nA kd mo gl sg w (pad (s.1.2.1 k)) P ≠ 0 → ¬ cnt (s.1.2.1 k) < most → ∀ next', (fun a1 a2 a3 a4 a5 a6 a7 a8 a9 a10 => wq_X8_walk_107 (fun k => nI (sg k)) (fun k => nI (kd k)) (fun k => nI (mo k)) (fun k => nI (gl k)) (nI P) (nI w) (fun j => nI (on0 j)) Q f a1 a2 a3 a4 a5 a6 a7 a8 a9 a10) shapes many en (cu + 1) mp (nI (wk + 1)) 1 next' (nI most) (nI (k + 1)) := by
          intro n0 n1 next'
          rw [if_neg n0, if_neg n1] at hs
          rw [hs] at ih
          exact ih _ _ _ _ _ _ (okX_Y hX) hen (by rw [hcu, ad_1]) hfl
        have g2 : nA kd mo gl sg w (pad (s.1.2.1 k)) P ≠ 0 → cnt (s.1.2.1 k) < most → (wK kd mo gl sg w P (s.1.2.1 k) 256 s.1).2.2 = false → ∀ shapes' many' mp' next', okX kd P most k (s.1.2.1 k) (wK kd mo gl sg w P (s.1.2.1 k) 256 s.1) shapes' many' mp' → (fun a1 a2 a3 a4 a5 a6 a7 a8 a9 a10 => wq_X8_walk_107 (fun k => nI (sg k)) (fun k => nI (kd k)) (fun k => nI (mo k)) (fun k => nI (gl k)) (nI P) (nI w) (fun j => nI (on0 j)) Q f a1 a2 a3 a4 a5 a6 a7 a8 a9 a10) shapes' many' en cu mp' (nI (wk + 1)) 1 next' (nI most) (nI (k + 1)) := by
          intro n0 n1 hf' shapes' many' mp' next' hX'
          rw [if_neg n0, if_pos n1] at hs
          rw [hs] at ih
          exact ih _ _ _ _ _ _ (okX_Y hX') hen hcu hf'
        have g3 : nA kd mo gl sg w (pad (s.1.2.1 k)) P ≠ 0 → cnt (s.1.2.1 k) < most → (wK kd mo gl sg w P (s.1.2.1 k) 256 s.1).2.2 = true → ∀ shapes' many' mp' next', okX kd P most k (s.1.2.1 k) (wK kd mo gl sg w P (s.1.2.1 k) 256 s.1) shapes' many' mp' → Q (-2) shapes' many' en cu mp' (nI (wk + 1)) 1 next' := by
          intro n0 n1 hf' shapes' many' mp' next' hX'
          rw [if_neg n0, if_pos n1] at hs
          have e := hsp _ hs hf'
          have := hQ shapes' many' en cu mp' next'
          rw [e, if_pos hf'] at this
          exact this ⟨okY_w (okX_Y hX') hX'.2.2.2.1, hen, hcu⟩
        obtain ⟨one, two⟩ := sp_one (on0 := on0) (next := next) hT hP h3 hX hfl hm _ Q g0 g1 g2 g3
        rw [hY.1] at one two
        rw [mu_256]
        rintro _ rfl
        refine sp_piecesOn hA _ ?_
        rw [nI_eq' (by omega) (by omega)]
        exact ⟨fun y => one (by omega), fun y => two (by omega)⟩
  · intro f i z hi hz ih
    show wf_X8_walk_62 _ _ _ _ _ _ _ _ _ _ _ _ _ _ _ _ _ _ _
    unfold wf_X8_walk_62
    rw [le_256 (by omega)]
    refine ⟨fun a => absurd a (by omega), fun _ => ?_⟩
    rw [vp_in' (by omega), nI_clamp' (by omega)]
    refine ⟨hi, ?_⟩
    rintro _ rfl
    rw [vp_in' (by omega)]
    refine ⟨by omega, ?_⟩
    rintro _ rfl _ rfl
    rw [ad_1]
    refine ih (upd z i (nI (on0 i))) (fun j hj => ?_)
    rw [upd_at]
    split
    · rename_i e; rw [e]
    · exact hz j (by omega)
end
