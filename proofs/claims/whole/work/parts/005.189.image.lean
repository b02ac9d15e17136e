/-! keep, back and clear of the class -/
theorem sp_cclear {kd mo gl sg on : Nat → Nat} {P w : Nat} {stale stc line since : (Nat → Int32)} {n all tm tk fc : Int32} {fits : (Nat → Int64)} (hF : okFI kd mo gl sg w P (pad on) stale stc n fits line all) (Q : Int32 → (Nat → Int32) → Int32 → Int32 → (Nat → Int32) → (Nat → Int32) → Int32 → Int32 → Int32 → Int32 → (Nat → Int32) → Prop)
    (hQ : ∀ stale' stc' n', okFI kd mo gl sg w P (pad (fun _ => 0)) stale' stc' n' fits line all → Q (nI (cnt on)) (fun c => nI (cc (pad (fun _ => 0) c))) (nI 0) (nI 0) stale' stc' n' 0 0 (bI true) (fun k => if k < 324 then -1 else since k)) :
    wp_X7_clear (fun c => nI (cc (pad on c))) (nI (cnt on)) (nI (grn kd on)) stale stc n tm tk fc since Q := by
  unfold wp_X7_clear
  refine sp_sweep (kd' := kd) (mo' := mo) (gl' := gl) (sg' := sg) (w' := w) (P' := P) hF _ (fun stale' stc' n' hF' => ?_)
  exact sp_restart true _ (hQ _ _ _ hF')
theorem th_c (p : Int32) : (p < 0 ∨ (3 : Int32) ≤ p) ∨ p = nI 0 ∨ p = nI 1 ∨ p = nI 2 := by
  by_cases h0 : p < 0
  · exact Or.inl (Or.inl h0)
  obtain ⟨a, ha, rfl⟩ := nI_of h0
  by_cases h3 : (3 : Int32) ≤ nI a
  · exact Or.inl (Or.inr h3)
  rw [le_3 ha] at h3
  obtain rfl | rfl | rfl : a = 0 ∨ a = 1 ∨ a = 2 := by omega
  · exact Or.inr (Or.inl rfl)
  · exact Or.inr (Or.inr (Or.inl rfl))
  · exact Or.inr (Or.inr (Or.inr rfl))
theorem le_not {p : Int32} : ¬ p < 3 → (3 : Int32) ≤ p := by
  intro h
  rw [fa_lt] at h
  rw [fa_le]
  omega
theorem sp_ckeep {kd mo gl sg on kd0 mo0 gl0 sg0 on0 kd1 mo1 gl1 sg1 on1 kd2 mo2 gl2 sg2 on2 : Nat → Nat} {P w P0 w0 P1 w1 P2 w2 : Nat} {s s0 s1 s2 : Int64} {p : Int32} (hz : okZ kd mo gl sg) (hP : P ≤ 40) (hz0 : okZ kd0 mo0 gl0 sg0) (hP0 : P0 ≤ 40) (hz1 : okZ kd1 mo1 gl1 sg1) (hP1 : P1 ≤ 40) (hz2 : okZ kd2 mo2 gl2 sg2) (hP2 : P2 ≤ 40) (Q : Int32 → ((Nat → Int32)) → (Int64) → (Int32) → (Int32) → (Nat → Int32) → (Nat → Int32) → (Nat → Int32) → (Nat → Int32) → (Nat → Int32) → (Nat → Int64) → (Nat → Int64) → (Nat → Int64) → (Int64) → (Int64) → (Int64) → ((Nat → Int32)) → (Int64) → (Int32) → (Int32) → (Nat → Int32) → (Nat → Int32) → (Nat → Int32) → (Nat → Int32) → (Nat → Int32) → (Nat → Int64) → (Nat → Int64) → (Nat → Int64) → (Int64) → (Int64) → (Int64) → ((Nat → Int32)) → (Int64) → (Int32) → (Int32) → (Nat → Int32) → (Nat → Int32) → (Nat → Int32) → (Nat → Int32) → (Nat → Int32) → (Nat → Int64) → (Nat → Int64) → (Nat → Int64) → (Int64) → (Int64) → (Int64) → Prop)
    (qf : (p < 0 ∨ (3 : Int32) ≤ p) → Q 0 (fun c => nI (cc (pad on0 c))) s0 (nI (w0)) (nI (P0)) (fun j0 => nI (sg0 j0)) (fun j0 => nI (kd0 j0)) (fun j0 => nI (mrF (kd0) (mo0) j0)) (fun j0 => nI (fcF (kd0) (mo0) (gl0) (P0) j0)) (fun j0 => nI (baF (kd0) (mo0) (P0) j0)) (fun j0 => shF (kd0) (mo0) (gl0) (P0) j0) (fun j0 => srF (kd0) (mo0) (gl0) (P0) j0) (fun j0 => brF (kd0) (mo0) (P0) j0) (seF (kd0) (P0)) (blF (kd0) (P0)) (rvF (kd0) (P0)) (fun c => nI (cc (pad on1 c))) s1 (nI (w1)) (nI (P1)) (fun j0 => nI (sg1 j0)) (fun j0 => nI (kd1 j0)) (fun j0 => nI (mrF (kd1) (mo1) j0)) (fun j0 => nI (fcF (kd1) (mo1) (gl1) (P1) j0)) (fun j0 => nI (baF (kd1) (mo1) (P1) j0)) (fun j0 => shF (kd1) (mo1) (gl1) (P1) j0) (fun j0 => srF (kd1) (mo1) (gl1) (P1) j0) (fun j0 => brF (kd1) (mo1) (P1) j0) (seF (kd1) (P1)) (blF (kd1) (P1)) (rvF (kd1) (P1)) (fun c => nI (cc (pad on2 c))) s2 (nI (w2)) (nI (P2)) (fun j0 => nI (sg2 j0)) (fun j0 => nI (kd2 j0)) (fun j0 => nI (mrF (kd2) (mo2) j0)) (fun j0 => nI (fcF (kd2) (mo2) (gl2) (P2) j0)) (fun j0 => nI (baF (kd2) (mo2) (P2) j0)) (fun j0 => shF (kd2) (mo2) (gl2) (P2) j0) (fun j0 => srF (kd2) (mo2) (gl2) (P2) j0) (fun j0 => brF (kd2) (mo2) (P2) j0) (seF (kd2) (P2)) (blF (kd2) (P2)) (rvF (kd2) (P2)))
    (q0 : p = nI 0 → Q 1 (fun c => nI (cc (pad on c))) s (nI (w)) (nI (P)) (fun j0 => nI (sg j0)) (fun j0 => nI (kd j0)) (fun j0 => nI (mrF (kd) (mo) j0)) (fun j0 => nI (fcF (kd) (mo) (gl) (P) j0)) (fun j0 => nI (baF (kd) (mo) (P) j0)) (fun j0 => shF (kd) (mo) (gl) (P) j0) (fun j0 => srF (kd) (mo) (gl) (P) j0) (fun j0 => brF (kd) (mo) (P) j0) (seF (kd) (P)) (blF (kd) (P)) (rvF (kd) (P)) (fun c => nI (cc (pad on1 c))) s1 (nI (w1)) (nI (P1)) (fun j0 => nI (sg1 j0)) (fun j0 => nI (kd1 j0)) (fun j0 => nI (mrF (kd1) (mo1) j0)) (fun j0 => nI (fcF (kd1) (mo1) (gl1) (P1) j0)) (fun j0 => nI (baF (kd1) (mo1) (P1) j0)) (fun j0 => shF (kd1) (mo1) (gl1) (P1) j0) (fun j0 => srF (kd1) (mo1) (gl1) (P1) j0) (fun j0 => brF (kd1) (mo1) (P1) j0) (seF (kd1) (P1)) (blF (kd1) (P1)) (rvF (kd1) (P1)) (fun c => nI (cc (pad on2 c))) s2 (nI (w2)) (nI (P2)) (fun j0 => nI (sg2 j0)) (fun j0 => nI (kd2 j0)) (fun j0 => nI (mrF (kd2) (mo2) j0)) (fun j0 => nI (fcF (kd2) (mo2) (gl2) (P2) j0)) (fun j0 => nI (baF (kd2) (mo2) (P2) j0)) (fun j0 => shF (kd2) (mo2) (gl2) (P2) j0) (fun j0 => srF (kd2) (mo2) (gl2) (P2) j0) (fun j0 => brF (kd2) (mo2) (P2) j0) (seF (kd2) (P2)) (blF (kd2) (P2)) (rvF (kd2) (P2)))
    (q1 : p = nI 1 → Q 1 (fun c => nI (cc (pad on0 c))) s0 (nI (w0)) (nI (P0)) (fun j0 => nI (sg0 j0)) (fun j0 => nI (kd0 j0)) (fun j0 => nI (mrF (kd0) (mo0) j0)) (fun j0 => nI (fcF (kd0) (mo0) (gl0) (P0) j0)) (fun j0 => nI (baF (kd0) (mo0) (P0) j0)) (fun j0 => shF (kd0) (mo0) (gl0) (P0) j0) (fun j0 => srF (kd0) (mo0) (gl0) (P0) j0) (fun j0 => brF (kd0) (mo0) (P0) j0) (seF (kd0) (P0)) (blF (kd0) (P0)) (rvF (kd0) (P0)) (fun c => nI (cc (pad on c))) s (nI (w)) (nI (P)) (fun j0 => nI (sg j0)) (fun j0 => nI (kd j0)) (fun j0 => nI (mrF (kd) (mo) j0)) (fun j0 => nI (fcF (kd) (mo) (gl) (P) j0)) (fun j0 => nI (baF (kd) (mo) (P) j0)) (fun j0 => shF (kd) (mo) (gl) (P) j0) (fun j0 => srF (kd) (mo) (gl) (P) j0) (fun j0 => brF (kd) (mo) (P) j0) (seF (kd) (P)) (blF (kd) (P)) (rvF (kd) (P)) (fun c => nI (cc (pad on2 c))) s2 (nI (w2)) (nI (P2)) (fun j0 => nI (sg2 j0)) (fun j0 => nI (kd2 j0)) (fun j0 => nI (mrF (kd2) (mo2) j0)) (fun j0 => nI (fcF (kd2) (mo2) (gl2) (P2) j0)) (fun j0 => nI (baF (kd2) (mo2) (P2) j0)) (fun j0 => shF (kd2) (mo2) (gl2) (P2) j0) (fun j0 => srF (kd2) (mo2) (gl2) (P2) j0) (fun j0 => brF (kd2) (mo2) (P2) j0) (seF (kd2) (P2)) (blF (kd2) (P2)) (rvF (kd2) (P2)))
    (q2 : p = nI 2 → Q 1 (fun c => nI (cc (pad on0 c))) s0 (nI (w0)) (nI (P0)) (fun j0 => nI (sg0 j0)) (fun j0 => nI (kd0 j0)) (fun j0 => nI (mrF (kd0) (mo0) j0)) (fun j0 => nI (fcF (kd0) (mo0) (gl0) (P0) j0)) (fun j0 => nI (baF (kd0) (mo0) (P0) j0)) (fun j0 => shF (kd0) (mo0) (gl0) (P0) j0) (fun j0 => srF (kd0) (mo0) (gl0) (P0) j0) (fun j0 => brF (kd0) (mo0) (P0) j0) (seF (kd0) (P0)) (blF (kd0) (P0)) (rvF (kd0) (P0)) (fun c => nI (cc (pad on1 c))) s1 (nI (w1)) (nI (P1)) (fun j0 => nI (sg1 j0)) (fun j0 => nI (kd1 j0)) (fun j0 => nI (mrF (kd1) (mo1) j0)) (fun j0 => nI (fcF (kd1) (mo1) (gl1) (P1) j0)) (fun j0 => nI (baF (kd1) (mo1) (P1) j0)) (fun j0 => shF (kd1) (mo1) (gl1) (P1) j0) (fun j0 => srF (kd1) (mo1) (gl1) (P1) j0) (fun j0 => brF (kd1) (mo1) (P1) j0) (seF (kd1) (P1)) (blF (kd1) (P1)) (rvF (kd1) (P1)) (fun c => nI (cc (pad on c))) s (nI (w)) (nI (P)) (fun j0 => nI (sg j0)) (fun j0 => nI (kd j0)) (fun j0 => nI (mrF (kd) (mo) j0)) (fun j0 => nI (fcF (kd) (mo) (gl) (P) j0)) (fun j0 => nI (baF (kd) (mo) (P) j0)) (fun j0 => shF (kd) (mo) (gl) (P) j0) (fun j0 => srF (kd) (mo) (gl) (P) j0) (fun j0 => brF (kd) (mo) (P) j0) (seF (kd) (P)) (blF (kd) (P)) (rvF (kd) (P))) :
    wp_X7_keep s (nI (w)) (nI (P)) (fun j0 => nI (sg j0)) (fun j0 => nI (kd j0)) (fun j0 => nI (mrF (kd) (mo) j0)) (fun j0 => nI (fcF (kd) (mo) (gl) (P) j0)) (fun j0 => nI (baF (kd) (mo) (P) j0)) (fun j0 => shF (kd) (mo) (gl) (P) j0) (fun j0 => srF (kd) (mo) (gl) (P) j0) (fun j0 => brF (kd) (mo) (P) j0) (seF (kd) (P)) (blF (kd) (P)) (rvF (kd) (P)) (fun c => nI (cc (pad on c))) (fun c => nI (cc (pad on0 c))) s0 (nI (w0)) (nI (P0)) (fun j0 => nI (sg0 j0)) (fun j0 => nI (kd0 j0)) (fun j0 => nI (mrF (kd0) (mo0) j0)) (fun j0 => nI (fcF (kd0) (mo0) (gl0) (P0) j0)) (fun j0 => nI (baF (kd0) (mo0) (P0) j0)) (fun j0 => shF (kd0) (mo0) (gl0) (P0) j0) (fun j0 => srF (kd0) (mo0) (gl0) (P0) j0) (fun j0 => brF (kd0) (mo0) (P0) j0) (seF (kd0) (P0)) (blF (kd0) (P0)) (rvF (kd0) (P0)) (fun c => nI (cc (pad on1 c))) s1 (nI (w1)) (nI (P1)) (fun j0 => nI (sg1 j0)) (fun j0 => nI (kd1 j0)) (fun j0 => nI (mrF (kd1) (mo1) j0)) (fun j0 => nI (fcF (kd1) (mo1) (gl1) (P1) j0)) (fun j0 => nI (baF (kd1) (mo1) (P1) j0)) (fun j0 => shF (kd1) (mo1) (gl1) (P1) j0) (fun j0 => srF (kd1) (mo1) (gl1) (P1) j0) (fun j0 => brF (kd1) (mo1) (P1) j0) (seF (kd1) (P1)) (blF (kd1) (P1)) (rvF (kd1) (P1)) (fun c => nI (cc (pad on2 c))) s2 (nI (w2)) (nI (P2)) (fun j0 => nI (sg2 j0)) (fun j0 => nI (kd2 j0)) (fun j0 => nI (mrF (kd2) (mo2) j0)) (fun j0 => nI (fcF (kd2) (mo2) (gl2) (P2) j0)) (fun j0 => nI (baF (kd2) (mo2) (P2) j0)) (fun j0 => shF (kd2) (mo2) (gl2) (P2) j0) (fun j0 => srF (kd2) (mo2) (gl2) (P2) j0) (fun j0 => brF (kd2) (mo2) (P2) j0) (seF (kd2) (P2)) (blF (kd2) (P2)) (rvF (kd2) (P2)) p Q := by
  unfold wp_X7_keep
  refine ⟨fun a => qf (Or.inl a), fun a => ⟨fun b => ⟨?_, fun e => ?_, fun e => ?_, fun e => ?_⟩, fun b => qf (Or.inr (le_not b))⟩⟩
  · rcases th_c p with (x | x) | x | x | x
    · exact absurd x a
    · rw [fa_lt] at b
      rw [fa_le] at x
      omega
    · exact Or.inl x
    · exact Or.inr (Or.inl x)
    · exact Or.inr (Or.inr x)
  · exact sp_take hP hP0 hz hz0 _ (q0 e)
  · exact sp_take hP hP1 hz hz1 _ (q1 e)
  · exact sp_take hP hP2 hz hz2 _ (q2 e)
theorem sp_cback {kd mo gl sg on kd0 mo0 gl0 sg0 on0 kd1 mo1 gl1 sg1 on1 kd2 mo2 gl2 sg2 on2 : Nat → Nat} {P w P0 w0 P1 w1 P2 w2 : Nat} {s s0 s1 s2 : Int64} {p : Int32} {stale stc line since : (Nat → Int32)} {n all tm tk fc : Int32} {fits : (Nat → Int64)} (hz : okZ kd mo gl sg) (hP : P ≤ 40) (hz0 : okZ kd0 mo0 gl0 sg0) (hP0 : P0 ≤ 40) (hz1 : okZ kd1 mo1 gl1 sg1) (hP1 : P1 ≤ 40) (hz2 : okZ kd2 mo2 gl2 sg2) (hP2 : P2 ≤ 40) (hS0 : okS kd0 P0 on0) (hk0 : ∀ p, kd0 p ≤ 5) (hS1 : okS kd1 P1 on1) (hk1 : ∀ p, kd1 p ≤ 5) (hS2 : okS kd2 P2 on2) (hk2 : ∀ p, kd2 p ≤ 5) (hF : okFI kd mo gl sg w P (pad on) stale stc n fits line all) (Q : Int32 → (Int64) → (Int32) → (Int32) → (Nat → Int32) → (Nat → Int32) → (Nat → Int32) → (Nat → Int32) → (Nat → Int32) → (Nat → Int64) → (Nat → Int64) → (Nat → Int64) → (Int64) → (Int64) → (Int64) → (Nat → Int32) → Int32 → Int32 → (Nat → Int32) → (Nat → Int32) → Int32 → Int32 → Int32 → Int32 → (Nat → Int32) → Prop)
    (qf : (p < 0 ∨ (3 : Int32) ≤ p) → Q 0 s (nI (w)) (nI (P)) (fun j0 => nI (sg j0)) (fun j0 => nI (kd j0)) (fun j0 => nI (mrF (kd) (mo) j0)) (fun j0 => nI (fcF (kd) (mo) (gl) (P) j0)) (fun j0 => nI (baF (kd) (mo) (P) j0)) (fun j0 => shF (kd) (mo) (gl) (P) j0) (fun j0 => srF (kd) (mo) (gl) (P) j0) (fun j0 => brF (kd) (mo) (P) j0) (seF (kd) (P)) (blF (kd) (P)) (rvF (kd) (P)) (fun c => nI (cc (pad on c))) (nI (cnt on)) (nI (grn kd on)) stale stc n tm tk fc since)
    (q0 : p = nI 0 → ∀ stale' stc' n', okFI kd0 mo0 gl0 sg0 w0 P0 (pad on0) stale' stc' n' fits line all → Q 1 s0 (nI (w0)) (nI (P0)) (fun j0 => nI (sg0 j0)) (fun j0 => nI (kd0 j0)) (fun j0 => nI (mrF (kd0) (mo0) j0)) (fun j0 => nI (fcF (kd0) (mo0) (gl0) (P0) j0)) (fun j0 => nI (baF (kd0) (mo0) (P0) j0)) (fun j0 => shF (kd0) (mo0) (gl0) (P0) j0) (fun j0 => srF (kd0) (mo0) (gl0) (P0) j0) (fun j0 => brF (kd0) (mo0) (P0) j0) (seF (kd0) (P0)) (blF (kd0) (P0)) (rvF (kd0) (P0)) (fun c => nI (cc (pad on0 c))) (nI (cnt on0)) (nI (grn kd0 on0)) stale' stc' n' 0 0 (bI (decide (cnt on0 = 0))) (fun k => if k < 324 then -1 else since k))
    (q1 : p = nI 1 → ∀ stale' stc' n', okFI kd1 mo1 gl1 sg1 w1 P1 (pad on1) stale' stc' n' fits line all → Q 1 s1 (nI (w1)) (nI (P1)) (fun j0 => nI (sg1 j0)) (fun j0 => nI (kd1 j0)) (fun j0 => nI (mrF (kd1) (mo1) j0)) (fun j0 => nI (fcF (kd1) (mo1) (gl1) (P1) j0)) (fun j0 => nI (baF (kd1) (mo1) (P1) j0)) (fun j0 => shF (kd1) (mo1) (gl1) (P1) j0) (fun j0 => srF (kd1) (mo1) (gl1) (P1) j0) (fun j0 => brF (kd1) (mo1) (P1) j0) (seF (kd1) (P1)) (blF (kd1) (P1)) (rvF (kd1) (P1)) (fun c => nI (cc (pad on1 c))) (nI (cnt on1)) (nI (grn kd1 on1)) stale' stc' n' 0 0 (bI (decide (cnt on1 = 0))) (fun k => if k < 324 then -1 else since k))
    (q2 : p = nI 2 → ∀ stale' stc' n', okFI kd2 mo2 gl2 sg2 w2 P2 (pad on2) stale' stc' n' fits line all → Q 1 s2 (nI (w2)) (nI (P2)) (fun j0 => nI (sg2 j0)) (fun j0 => nI (kd2 j0)) (fun j0 => nI (mrF (kd2) (mo2) j0)) (fun j0 => nI (fcF (kd2) (mo2) (gl2) (P2) j0)) (fun j0 => nI (baF (kd2) (mo2) (P2) j0)) (fun j0 => shF (kd2) (mo2) (gl2) (P2) j0) (fun j0 => srF (kd2) (mo2) (gl2) (P2) j0) (fun j0 => brF (kd2) (mo2) (P2) j0) (seF (kd2) (P2)) (blF (kd2) (P2)) (rvF (kd2) (P2)) (fun c => nI (cc (pad on2 c))) (nI (cnt on2)) (nI (grn kd2 on2)) stale' stc' n' 0 0 (bI (decide (cnt on2 = 0))) (fun k => if k < 324 then -1 else since k)) :
    wp_X7_back (fun c => nI (cc (pad on0 c))) s0 (nI (w0)) (nI (P0)) (fun j0 => nI (sg0 j0)) (fun j0 => nI (kd0 j0)) (fun j0 => nI (mrF (kd0) (mo0) j0)) (fun j0 => nI (fcF (kd0) (mo0) (gl0) (P0) j0)) (fun j0 => nI (baF (kd0) (mo0) (P0) j0)) (fun j0 => shF (kd0) (mo0) (gl0) (P0) j0) (fun j0 => srF (kd0) (mo0) (gl0) (P0) j0) (fun j0 => brF (kd0) (mo0) (P0) j0) (seF (kd0) (P0)) (blF (kd0) (P0)) (rvF (kd0) (P0)) (fun c => nI (cc (pad on1 c))) s1 (nI (w1)) (nI (P1)) (fun j0 => nI (sg1 j0)) (fun j0 => nI (kd1 j0)) (fun j0 => nI (mrF (kd1) (mo1) j0)) (fun j0 => nI (fcF (kd1) (mo1) (gl1) (P1) j0)) (fun j0 => nI (baF (kd1) (mo1) (P1) j0)) (fun j0 => shF (kd1) (mo1) (gl1) (P1) j0) (fun j0 => srF (kd1) (mo1) (gl1) (P1) j0) (fun j0 => brF (kd1) (mo1) (P1) j0) (seF (kd1) (P1)) (blF (kd1) (P1)) (rvF (kd1) (P1)) (fun c => nI (cc (pad on2 c))) s2 (nI (w2)) (nI (P2)) (fun j0 => nI (sg2 j0)) (fun j0 => nI (kd2 j0)) (fun j0 => nI (mrF (kd2) (mo2) j0)) (fun j0 => nI (fcF (kd2) (mo2) (gl2) (P2) j0)) (fun j0 => nI (baF (kd2) (mo2) (P2) j0)) (fun j0 => shF (kd2) (mo2) (gl2) (P2) j0) (fun j0 => srF (kd2) (mo2) (gl2) (P2) j0) (fun j0 => brF (kd2) (mo2) (P2) j0) (seF (kd2) (P2)) (blF (kd2) (P2)) (rvF (kd2) (P2)) s (nI (w)) (nI (P)) (fun j0 => nI (sg j0)) (fun j0 => nI (kd j0)) (fun j0 => nI (mrF (kd) (mo) j0)) (fun j0 => nI (fcF (kd) (mo) (gl) (P) j0)) (fun j0 => nI (baF (kd) (mo) (P) j0)) (fun j0 => shF (kd) (mo) (gl) (P) j0) (fun j0 => srF (kd) (mo) (gl) (P) j0) (fun j0 => brF (kd) (mo) (P) j0) (seF (kd) (P)) (blF (kd) (P)) (rvF (kd) (P)) (fun c => nI (cc (pad on c))) (nI (cnt on)) (nI (grn kd on)) stale stc n tm tk fc since p Q := by
  unfold wp_X7_back
  refine ⟨fun a => qf (Or.inl a), fun a => ⟨fun b => ⟨?_, fun e => ?_, fun e => ?_, fun e => ?_⟩, fun b => qf (Or.inr (le_not b))⟩⟩
  · rcases th_c p with (x | x) | x | x | x
    · exact absurd x a
    · rw [fa_lt] at b
      rw [fa_le] at x
      omega
    · exact Or.inl x
    · exact Or.inr (Or.inl x)
    · exact Or.inr (Or.inr x)

  · refine sp_copyFrom hP0 hP hz0 hz _ ?_
    refine sp_layOut (mo := mo0) (gl := gl0) (sg := sg0) (w := w0) hk0 hP0 hS0 hF _ (fun stale' stc' n' hF' => ?_)
    have hcb : cnt on0 ≤ 256 := fb_ct_le _ _
    have := q0 e _ _ _ hF'
    unfold wq_X7_back_67
    rw [eq_0 (by omega)]
    refine ⟨fun x => ?_, fun x => ?_⟩
    · rw [decide_eq_false x] at this
      exact sp_restart false _ this
    · rw [decide_eq_true x] at this
      exact sp_restart true _ this
  · refine sp_copyFrom hP1 hP hz1 hz _ ?_
    refine sp_layOut (mo := mo1) (gl := gl1) (sg := sg1) (w := w1) hk1 hP1 hS1 hF _ (fun stale' stc' n' hF' => ?_)
    have hcb : cnt on1 ≤ 256 := fb_ct_le _ _
    have := q1 e _ _ _ hF'
    unfold wq_X7_back_67
    rw [eq_0 (by omega)]
    refine ⟨fun x => ?_, fun x => ?_⟩
    · rw [decide_eq_false x] at this
      exact sp_restart false _ this
    · rw [decide_eq_true x] at this
      exact sp_restart true _ this
  · refine sp_copyFrom hP2 hP hz2 hz _ ?_
    refine sp_layOut (mo := mo2) (gl := gl2) (sg := sg2) (w := w2) hk2 hP2 hS2 hF _ (fun stale' stc' n' hF' => ?_)
    have hcb : cnt on2 ≤ 256 := fb_ct_le _ _
    have := q2 e _ _ _ hF'
    unfold wq_X7_back_67
    rw [eq_0 (by omega)]
    refine ⟨fun x => ?_, fun x => ?_⟩
    · rw [decide_eq_false x] at this
      exact sp_restart false _ this
    · rw [decide_eq_true x] at this
      exact sp_restart true _ this
