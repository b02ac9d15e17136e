/-! the tape; piece, set, glue, warmth -/
def byN (x : Int32) (s : Nat) : Nat := (x.toUInt32 >>> ((nI s).toUInt32 &&& Int32.toUInt32 31)).toInt32.toBitVec.toNat % 256
theorem byN_lt (x : Int32) (s : Nat) : byN x s < 256 := Nat.mod_lt _ (by decide)
theorem by_u (x : Int32) (s : Nat) : ((x.toUInt32 >>> ((nI s).toUInt32 &&& Int32.toUInt32 31)).toInt32 &&& (255 : Int32)) = nI (byN x s) := pk_and _ 8 (by decide)
theorem by_s (x : Int32) {s : Nat} (hs : s ≤ 24) : ((x >>> (nI s &&& 31)) &&& (255 : Int32)) = nI (byN x s) := by
  rw [← by_u]
  apply b_ext
  intro i hi
  rw [b_and, b_and, b_sshr s (by omega) x hi, b_ushr s (by omega), b_255]
  by_cases h : i < 8
  · rw [if_pos (by omega)]
  · simp [h]
def ap4 (tp : Nat → Nat) (n : Nat) (x : Int32) : Nat → Nat := upN (upN (upN (upN tp n (byN x 24)) (n + 1) (byN x 16)) (n + 2) (byN x 8)) (n + 3) (byN x 0)
theorem ap4_le {tp : Nat → Nat} {n : Nat} {x : Int32} (h : ∀ j, tp j ≤ 255) (j : Nat) : ap4 tp n x j ≤ 255 := by
  have h1 := byN_lt x 24
  have h2 := byN_lt x 16
  have h3 := byN_lt x 8
  have h4 := byN_lt x 0
  unfold ap4 upN
  repeat' split
  all_goals first | omega | exact h j
theorem sp_append {tp : Nat → Nat} {n : Nat} {x : Int32} (hn : n + 4 ≤ 400) (Q : Int32 → (Nat → Int32) → Prop) (h : Q (nI (n + 4)) (fun j => nI (ap4 tp n x j))) : wp_X6_append (nI n) (fun j => nI (tp j)) x Q := by
  unfold wp_X6_append
  refine ⟨5, ?_⟩
  have st : ∀ {K : Int32 → (Nat → Int32) → Int32 → Int32 → Prop} {tp : Nat → Nat} {n s : Nat} {v : Int32}, n < 400 → s ≤ 24 → v = nI s + (-8) → K (nI (n + 1)) (fun j => nI (upN tp n (byN x s) j)) x v → wf_X6_append_3 Q K (nI n) (fun j => nI (tp j)) x (nI s) := by
    intro K tp n s v h1 h2 h3 h
    unfold wf_X6_append_3
    refine ⟨fun q => absurd q (nI_pos (by omega)), fun _ => ?_⟩
    rw [vp_in' (by omega), nI_clamp' (by omega), by_u, upd_N]
    refine ⟨h1, ?_⟩
    rintro _ rfl _ rfl _ rfl
    rw [ad_1, ← h3]
    exact h
  refine st (s := 24) (v := nI 16) (by omega) (by decide) (by decide) ?_
  refine st (s := 16) (v := nI 8) (by omega) (by decide) (by decide) ?_
  refine st (s := 8) (v := nI 0) (by omega) (by decide) (by decide) ?_
  refine st (s := 0) (v := -8) (by omega) (by decide) (by decide) ?_
  show wf_X6_append_3 _ _ _ _ _ _
  unfold wf_X6_append_3
  exact ⟨fun _ => h, fun q => absurd (by decide) q⟩
theorem sp_four {tp : Nat → Nat} {n : Nat} {x : Int32} (hn : n + 4 ≤ 400) (Q : (Nat → Int32) → Int32 → Prop) (h : Q (fun j => nI (ap4 tp n x j)) (nI (n + 4))) : wp_X8_four (fun j => nI (tp j)) (nI n) x Q := by
  unfold wp_X8_four
  refine ⟨5, ?_⟩
  have st : ∀ {K : (Nat → Int32) → Int32 → Int32 → Int32 → Prop} {tp : Nat → Nat} {n s : Nat} {v : Int32}, n < 400 → s ≤ 24 → v = nI s + (-8) → K (fun j => nI (upN tp n (byN x s) j)) (nI (n + 1)) x v → wf_X8_four_3 Q K (fun j => nI (tp j)) (nI n) x (nI s) := by
    intro K tp n s v h1 h2 h3 h
    unfold wf_X8_four_3
    refine ⟨fun q => absurd q (nI_pos (by omega)), fun _ => ?_⟩
    rw [vp_in' (by omega), nI_clamp' (by omega), by_s x h2, upd_N]
    refine ⟨h1, ?_⟩
    rintro _ rfl _ rfl _ rfl
    rw [ad_1, ← h3]
    exact h
  refine st (s := 24) (v := nI 16) (by omega) (by decide) (by decide) ?_
  refine st (s := 16) (v := nI 8) (by omega) (by decide) (by decide) ?_
  refine st (s := 8) (v := nI 0) (by omega) (by decide) (by decide) ?_
  refine st (s := 0) (v := -8) (by omega) (by decide) (by decide) ?_
  show wf_X8_four_3 _ _ _ _ _ _
  unfold wf_X8_four_3
  exact ⟨fun _ => h, fun q => absurd (by decide) q⟩
def ap20 (tp : Nat → Nat) (n : Nat) (a b c d e : Int32) : Nat → Nat := ap4 (ap4 (ap4 (ap4 (ap4 tp n a) (n + 4) b) (n + 8) c) (n + 12) d) (n + 16) e
theorem sp_cfeed {tp : Nat → Nat} {n : Nat} {a b c d e : Int32} (hn : n ≤ 400) (Q : Int32 → Int32 → (Nat → Int32) → Prop) (h0 : 380 < n → Q (-1) (nI n) (fun j => nI (tp j))) (h1 : n ≤ 380 → Q (nI (n + 20)) (nI (n + 20)) (fun j => nI (ap20 tp n a b c d e j))) :
    wp_X7_feed (nI n) (fun j => nI (tp j)) a b c d e Q := by
  unfold wp_X7_feed wp_X6_hasRoomForFive
  rw [ad_20, gt_400 (by omega)]
  refine ⟨fun q => ⟨fun e => absurd rfl e, fun _ => h0 (by omega)⟩, fun q => ⟨fun _ => ?_, fun e => absurd e (by decide)⟩⟩
  refine sp_append (by omega) _ ?_
  refine sp_append (by omega) _ ?_
  refine sp_append (by omega) _ ?_
  refine sp_append (by omega) _ ?_
  refine sp_append (by omega) _ ?_
  exact h1 (by omega)
theorem sp_rfeed {tp : Nat → Nat} {n : Nat} {a b c d e : Int32} (hn : n ≤ 400) (Q : Int32 → (Nat → Int32) → Int32 → Prop) (h0 : 380 < n → Q (-1) (fun j => nI (tp j)) (nI n)) (h1 : n ≤ 380 → Q (nI (n + 20)) (fun j => nI (ap20 tp n a b c d e j)) (nI (n + 20))) :
    wp_X8_feed (fun j => nI (tp j)) (nI n) a b c d e Q := by
  unfold wp_X8_feed
  rw [ad_20, ge_400 (by omega)]
  refine ⟨fun q => ?_, fun q => h0 (by omega)⟩
  refine sp_four (by omega) _ ?_
  refine sp_four (by omega) _ ?_
  refine sp_four (by omega) _ ?_
  refine sp_four (by omega) _ ?_
  refine sp_four (by omega) _ ?_
  exact h1 (by omega)
theorem sp_cpiece {kd mo gl sg B : Nat → Nat} {P w : Nat} {stale stc line : (Nat → Int32)} {n all : Int32} {fits : (Nat → Int64)} {kind a r b l more : Int32} (hP : P ≤ 40) (hFI : okFI kd mo gl sg w P B stale stc n fits line all)
    (Q : Int32 → Int32 → (Nat → Int32) → (Nat → Int32) → (Nat → Int32) → (Nat → Int32) → (Nat → Int64) → (Nat → Int64) → (Nat → Int64) → Int64 → Int64 → Int64 → (Nat → Int32) → (Nat → Int32) → Int32 → Prop)
    (h0 : (P = 40 ∨ ¬ pOK kind a r b l more) → Q (-1) (nI (P)) (fun j0 => nI (kd j0)) (fun j0 => nI (mrF (kd) (mo) j0)) (fun j0 => nI (fcF (kd) (mo) (gl) (P) j0)) (fun j0 => nI (baF (kd) (mo) (P) j0)) (fun j0 => shF (kd) (mo) (gl) (P) j0) (fun j0 => srF (kd) (mo) (gl) (P) j0) (fun j0 => brF (kd) (mo) (P) j0) (seF (kd) (P)) (blF (kd) (P)) (rvF (kd) (P)) stale stc n)
    (h1 : P < 40 → ∀ k m a' r' b' l', kind = nI k → more = nI m → moreOK k m → a = nI a' → r = nI r' → b = nI b' → l = nI l' → a' ≤ 50 → r' ≤ 50 → b' ≤ 50 → l' ≤ 50 → ∀ stale' stc' n', okFI (upN kd P k) (upN mo P m) (gl4 gl P a' r' b' l') sg w (P + 1) B stale' stc' n' fits line all → Q (nI P) (nI (P + 1)) (fun j0 => nI (upN kd P k j0)) (fun j0 => nI (mrF (upN kd P k) (upN mo P m) j0)) (fun j0 => nI (fcF (upN kd P k) (upN mo P m) (gl4 gl P a' r' b' l') (P + 1) j0)) (fun j0 => nI (baF (upN kd P k) (upN mo P m) (P + 1) j0)) (fun j0 => shF (upN kd P k) (upN mo P m) (gl4 gl P a' r' b' l') (P + 1) j0) (fun j0 => srF (upN kd P k) (upN mo P m) (gl4 gl P a' r' b' l') (P + 1) j0) (fun j0 => brF (upN kd P k) (upN mo P m) (P + 1) j0) (seF (upN kd P k) (P + 1)) (blF (upN kd P k) (P + 1)) (rvF (upN kd P k) (P + 1)) stale' stc' n') :
    wp_X7_piece (nI (P)) (fun j0 => nI (kd j0)) (fun j0 => nI (mrF (kd) (mo) j0)) (fun j0 => nI (fcF (kd) (mo) (gl) (P) j0)) (fun j0 => nI (baF (kd) (mo) (P) j0)) (fun j0 => shF (kd) (mo) (gl) (P) j0) (fun j0 => srF (kd) (mo) (gl) (P) j0) (fun j0 => brF (kd) (mo) (P) j0) (seF (kd) (P)) (blF (kd) (P)) (rvF (kd) (P)) stale stc n kind a r b l more Q := by
  unfold wp_X7_piece
  refine sp_addPiece hP _ (fun q => ⟨fun _ => h0 q, fun e => absurd rfl e⟩) ?_
  intro hP' k m a' r' b' l' e1 e2 hm e3 e4 e5 e6 b1 b2 b3 b4
  refine ⟨fun q => absurd q (nI_nm1 (by omega)), fun _ => ?_⟩
  refine sp_touchAllFI (kd' := upN kd P k) (mo' := upN mo P m) (gl' := gl4 gl P a' r' b' l') (sg' := sg) (w' := w) (P' := P + 1) (B' := B) hFI _ ?_
  intro stale' stc' n' g
  exact h1 hP' k m a' r' b' l' e1 e2 hm e3 e4 e5 e6 b1 b2 b3 b4 stale' stc' n' g
/-! set -/
def sT (kd mo gl tp : Nat → Nat) (P : Nat) : Nat → (Nat → Nat) × (Nat → Nat) × (Nat → Nat)
  | 0 => (kd, mo, gl)
  | c + 1 => (upN (sT kd mo gl tp P c).1 (P + c) (tp (8 * c)), upN (sT kd mo gl tp P c).2.1 (P + c) (256 * tp (8 * c + 6) + tp (8 * c + 7)), gl4 (sT kd mo gl tp P c).2.2 (P + c) (tp (8 * c + 1)) (tp (8 * c + 2)) (tp (8 * c + 3)) (tp (8 * c + 4)))
def rOK (tp : Nat → Nat) (c : Nat) : Prop := pOK (nI (tp (8 * c))) (nI (tp (8 * c + 1))) (nI (tp (8 * c + 2))) (nI (tp (8 * c + 3))) (nI (tp (8 * c + 4))) (nI (256 * tp (8 * c + 6) + tp (8 * c + 7)))
theorem sT_step {kd mo gl tp : Nat → Nat} {P c k m a r b l : Nat} (h : ∀ j, tp j ≤ 255) (e1 : nI (tp (8 * c)) = nI k) (e2 : nI (256 * tp (8 * c + 6) + tp (8 * c + 7)) = nI m) (hm : moreOK k m) (e3 : nI (tp (8 * c + 1)) = nI a) (e4 : nI (tp (8 * c + 2)) = nI r) (e5 : nI (tp (8 * c + 3)) = nI b) (e6 : nI (tp (8 * c + 4)) = nI l) (b1 : a ≤ 50) (b2 : r ≤ 50) (b3 : b ≤ 50) (b4 : l ≤ 50) :
    upN (sT kd mo gl tp P c).1 (P + c) k = (sT kd mo gl tp P (c + 1)).1 ∧ upN (sT kd mo gl tp P c).2.1 (P + c) m = (sT kd mo gl tp P (c + 1)).2.1 ∧ gl4 (sT kd mo gl tp P c).2.2 (P + c) a r b l = (sT kd mo gl tp P (c + 1)).2.2 := by
  have hk := moreOK_le hm
  have h0 := h (8 * c)
  have h1 := h (8 * c + 1)
  have h2 := h (8 * c + 2)
  have h3 := h (8 * c + 3)
  have h4 := h (8 * c + 4)
  have h6 := h (8 * c + 6)
  have h7 := h (8 * c + 7)
  rw [nI_eq' (by omega) (by omega)] at e1 e2 e3 e4 e5 e6
  subst e1 e2 e3 e4 e5 e6
  exact ⟨rfl, rfl, rfl⟩
theorem okT_set {kd mo gl sg tp : Nat → Nat} {P : Nat} (hT : okT kd mo gl sg) (h : ∀ j, tp j ≤ 255) : ∀ c, (∀ i, i < c → P + i < 40 ∧ rOK tp i) → okT (sT kd mo gl tp P c).1 (sT kd mo gl tp P c).2.1 (sT kd mo gl tp P c).2.2 sg
  | 0, _ => hT
  | c + 1, hc => by
    have ih := okT_set hT h c (fun i hi => hc i (by omega))
    obtain ⟨⟨k, m, e1, e2, hm⟩, ⟨a, ha, e3⟩, ⟨r, hr, e4⟩, ⟨b, hb, e5⟩, ⟨l, hl, e6⟩⟩ := (hc c (by omega)).2
    obtain ⟨s1, s2, s3⟩ := sT_step (kd := kd) (mo := mo) (gl := gl) (P := P) h e1 e2 hm e3 e4 e5 e6 ha hr hb hl
    have := okT_add (P := P + c) ih hm ha hr hb hl
    rw [s1, s2, s3] at this
    exact this
theorem sT_kd {kd mo gl tp : Nat → Nat} {P : Nat} : ∀ c p, p < P → (sT kd mo gl tp P c).1 p = kd p
  | 0, _, _ => rfl
  | c + 1, p, hp => by
    show upN (sT kd mo gl tp P c).1 (P + c) (tp (8 * c)) p = kd p
    rw [upN_n (by omega)]
    exact sT_kd c p hp
theorem sp_cset {kd mo gl sg tp B : Nat → Nat} {P w N len : Nat} {stale stc line : (Nat → Int32)} {n all : Int32} {fits : (Nat → Int64)} (hP : P ≤ 40) (h : ∀ j, tp j ≤ 255) (hlen : len ≤ 400) (hN : N ≤ len) (hFI : okFI kd mo gl sg w P B stale stc n fits line all)
    (Q : Int32 → Int32 → (Nat → Int32) → (Nat → Int32) → (Nat → Int32) → (Nat → Int32) → (Nat → Int64) → (Nat → Int64) → (Nat → Int64) → Int64 → Int64 → Int64 → (Nat → Int32) → (Nat → Int32) → Int32 → Int32 → Prop)
    (hQ : ∀ c stale' stc' n', 8 * c ≤ N → (∀ i, i < c → P + i < 40 ∧ rOK tp i) → (N < 8 * c + 8 ∨ ¬ (P + c < 40 ∧ rOK tp c)) → P + c ≤ 40 → okFI (sT kd mo gl tp P c).1 (sT kd mo gl tp P c).2.1 (sT kd mo gl tp P c).2.2 sg w (P + c) B stale' stc' n' fits line all → Q (nI c) (nI (P + c)) (fun j0 => nI ((sT kd mo gl tp P c).1 j0)) (fun j0 => nI (mrF ((sT kd mo gl tp P c).1) ((sT kd mo gl tp P c).2.1) j0)) (fun j0 => nI (fcF ((sT kd mo gl tp P c).1) ((sT kd mo gl tp P c).2.1) ((sT kd mo gl tp P c).2.2) (P + c) j0)) (fun j0 => nI (baF ((sT kd mo gl tp P c).1) ((sT kd mo gl tp P c).2.1) (P + c) j0)) (fun j0 => shF ((sT kd mo gl tp P c).1) ((sT kd mo gl tp P c).2.1) ((sT kd mo gl tp P c).2.2) (P + c) j0) (fun j0 => srF ((sT kd mo gl tp P c).1) ((sT kd mo gl tp P c).2.1) ((sT kd mo gl tp P c).2.2) (P + c) j0) (fun j0 => brF ((sT kd mo gl tp P c).1) ((sT kd mo gl tp P c).2.1) (P + c) j0) (seF ((sT kd mo gl tp P c).1) (P + c)) (blF ((sT kd mo gl tp P c).1) (P + c)) (rvF ((sT kd mo gl tp P c).1) (P + c)) stale' stc' n' (nI 0)) :
    wp_X7_set (fun j => nI (tp j)) (nI (P)) (fun j0 => nI (kd j0)) (fun j0 => nI (mrF (kd) (mo) j0)) (fun j0 => nI (fcF (kd) (mo) (gl) (P) j0)) (fun j0 => nI (baF (kd) (mo) (P) j0)) (fun j0 => shF (kd) (mo) (gl) (P) j0) (fun j0 => srF (kd) (mo) (gl) (P) j0) (fun j0 => brF (kd) (mo) (P) j0) (seF (kd) (P)) (blF (kd) (P)) (rvF (kd) (P)) stale stc n (nI len) (nI N) Q := by
  unfold wp_X7_set
  rw [nI_le' (by omega) (by omega)]
  refine ⟨fun q => absurd q (nI_pos (by omega)), fun _ => ⟨fun _ => ?_, fun q => absurd hN q⟩⟩
  have fin : ∀ c, 8 * c ≤ N → (∀ i, i < c → P + i < 40 ∧ rOK tp i) → (N < 8 * c + 8 ∨ ¬ (P + c < 40 ∧ rOK tp c)) → P + c ≤ 40 → wq_X7_set_56 (fun j => nI (tp j)) Q (nI (P + c)) (fun j0 => nI ((sT kd mo gl tp P c).1 j0)) (fun j0 => nI (mrF ((sT kd mo gl tp P c).1) ((sT kd mo gl tp P c).2.1) j0)) (fun j0 => nI (fcF ((sT kd mo gl tp P c).1) ((sT kd mo gl tp P c).2.1) ((sT kd mo gl tp P c).2.2) (P + c) j0)) (fun j0 => nI (baF ((sT kd mo gl tp P c).1) ((sT kd mo gl tp P c).2.1) (P + c) j0)) (fun j0 => shF ((sT kd mo gl tp P c).1) ((sT kd mo gl tp P c).2.1) ((sT kd mo gl tp P c).2.2) (P + c) j0) (fun j0 => srF ((sT kd mo gl tp P c).1) ((sT kd mo gl tp P c).2.1) ((sT kd mo gl tp P c).2.2) (P + c) j0) (fun j0 => brF ((sT kd mo gl tp P c).1) ((sT kd mo gl tp P c).2.1) (P + c) j0) (seF ((sT kd mo gl tp P c).1) (P + c)) (blF ((sT kd mo gl tp P c).1) (P + c)) (rvF ((sT kd mo gl tp P c).1) (P + c)) stale stc n (nI len) (nI c) := by
    intro c h1 h2 h3 h4
    unfold wq_X7_set_56
    rw [ge_0 (by omega)]
    refine ⟨fun q => ?_, fun q => ?_⟩
    · obtain rfl : c = 0 := by omega
      exact hQ 0 _ _ _ h1 h2 h3 h4 hFI
    · refine sp_touchAllFI (kd' := (sT kd mo gl tp P c).1) (mo' := (sT kd mo gl tp P c).2.1) (gl' := (sT kd mo gl tp P c).2.2) (sg' := sg) (w' := w) (P' := P + c) (B' := B) hFI _ ?_
      intro stale' stc' n' g
      exact hQ c _ _ _ h1 h2 h3 h4 g
  refine lp_up (W := fun f c => wq_X7_set_21 (fun j => nI (tp j)) Q f (nI (P + c)) (fun j0 => nI ((sT kd mo gl tp P c).1 j0)) (fun j0 => nI (mrF ((sT kd mo gl tp P c).1) ((sT kd mo gl tp P c).2.1) j0)) (fun j0 => nI (fcF ((sT kd mo gl tp P c).1) ((sT kd mo gl tp P c).2.1) ((sT kd mo gl tp P c).2.2) (P + c) j0)) (fun j0 => nI (baF ((sT kd mo gl tp P c).1) ((sT kd mo gl tp P c).2.1) (P + c) j0)) (fun j0 => shF ((sT kd mo gl tp P c).1) ((sT kd mo gl tp P c).2.1) ((sT kd mo gl tp P c).2.2) (P + c) j0) (fun j0 => srF ((sT kd mo gl tp P c).1) ((sT kd mo gl tp P c).2.1) ((sT kd mo gl tp P c).2.2) (P + c) j0) (fun j0 => brF ((sT kd mo gl tp P c).1) ((sT kd mo gl tp P c).2.1) (P + c) j0) (seF ((sT kd mo gl tp P c).1) (P + c)) (blF ((sT kd mo gl tp P c).1) (P + c)) (rvF ((sT kd mo gl tp P c).1) (P + c)) stale stc n (nI len) (nI N) (nI c) (nI (8 * c))) (I := fun c => 8 * c ≤ N ∧ (∀ i, i < c → P + i < 40 ∧ rOK tp i) ∧ P + c ≤ 40) 51 ?_ 0 (by decide) ⟨Nat.zero_le _, fun i hi => absurd hi (by omega), hP⟩
  intro f c hc ⟨i1, i2, i3⟩ ih
  show wf_X7_set_21 _ _ _ _ _ _ _ _ _ _ _ _ _ _ _ _ _ _ _ _ _
  unfold wf_X7_set_21
  rw [ad_8, nI_lt' (by omega) (by omega)]
  refine ⟨fun q => fin c i1 i2 (Or.inl q) i3, fun q => ?_⟩
  have h6 := h (8 * c + 6)
  have h7 := h (8 * c + 7)
  unfold wp_X6_addTo
  rw [ad_6, ad_7, ad_1, ad_2, ad_3, ad_4, vp_in' (by omega), vp_in' (by omega), vp_in' (by omega), vp_in' (by omega), vp_in' (by omega), vp_in' (by omega), vp_in' (by omega), nI_clamp' (by omega), nI_clamp' (by omega), nI_clamp' (by omega), nI_clamp' (by omega), nI_clamp' (by omega), nI_clamp' (by omega), nI_clamp' (by omega)]
  refine ⟨by omega, ?_⟩
  rintro _ rfl
  refine ⟨by omega, ?_⟩
  rintro _ rfl
  rw [mu_256, nI_add]
  rintro _ rfl
  refine ⟨by omega, ?_⟩
  rintro _ rfl
  refine ⟨by omega, ?_⟩
  rintro _ rfl
  refine ⟨by omega, ?_⟩
  rintro _ rfl
  refine ⟨by omega, ?_⟩
  rintro _ rfl
  refine ⟨by omega, ?_⟩
  rintro _ rfl
  refine sp_addPiece i3 _ (fun bad => ?_) ?_
  · refine ⟨fun _ => ⟨fun e => absurd rfl e, fun _ => fin c i1 i2 (Or.inr (fun g => ?_)) i3⟩, fun e => absurd rfl e⟩
    rcases bad with bad | bad
    · omega
    · exact bad g.2
  · intro hP' k m a' r' b' l' e1 e2 hm e3 e4 e5 e6 b1 b2 b3 b4
    obtain ⟨s1, s2, s3⟩ := sT_step (kd := kd) (mo := mo) (gl := gl) (P := P) h e1 e2 hm e3 e4 e5 e6 b1 b2 b3 b4
    refine ⟨fun e => absurd e (nI_nm1 (by omega)), fun _ => ⟨fun _ => ?_, fun e => absurd e (by decide)⟩⟩
    rintro _ rfl _ rfl
    rw [s1, s2, s3, ad_1, show 8 * c + 8 = 8 * (c + 1) by omega]
    refine ih (by omega) ⟨by omega, fun i hi => ?_, by omega⟩
    rcases Nat.lt_or_ge i c with a | a
    · exact i2 i a
    · obtain rfl : i = c := by omega
      exact ⟨hP', ⟨k, m, e1, e2, hm⟩, ⟨a', b1, e3⟩, ⟨r', b2, e4⟩, ⟨b', b3, e5⟩, ⟨l', b4, e6⟩⟩
theorem sp_rset {kd mo gl tp : Nat → Nat} {P N len : Nat} (hP : P ≤ 40) (h : ∀ j, tp j ≤ 255) (hlen : len ≤ 400) (hN : N ≤ len)
    (Q : Int32 → (Nat → Int32) → (Nat → Int32) → (Nat → Int32) → Int32 → Int32 → Prop)
    (hQ : ∀ c, 8 * c ≤ N → (∀ i, i < c → P + i < 40 ∧ rOK tp i) → (N < 8 * c + 8 ∨ ¬ (P + c < 40 ∧ rOK tp c)) → P + c ≤ 40 → Q (nI c) (fun j => nI ((sT kd mo gl tp P c).1 j)) (fun j => nI ((sT kd mo gl tp P c).2.1 j)) (fun j => nI ((sT kd mo gl tp P c).2.2 j)) (nI (P + c)) (nI 0)) :
    wp_X8_set (fun j => nI (tp j)) (fun k => nI (kd k)) (fun k => nI (mo k)) (fun k => nI (gl k)) (nI P) (nI len) (nI N) Q := by
  unfold wp_X8_set
  rw [nI_le' (by omega) (by omega)]
  refine ⟨fun q => absurd q (nI_pos (by omega)), fun _ => ⟨fun _ => ?_, fun q => absurd hN q⟩⟩
  have hend : ∀ c, 8 * c ≤ N → (∀ i, i < c → P + i < 40 ∧ rOK tp i) → P + c ≤ 40 → (N < 8 * c + 8 ∨ ¬ (P + c < 40 ∧ rOK tp c)) → Q (nI c) (fun j => nI ((sT kd mo gl tp P c).1 j)) (fun j => nI ((sT kd mo gl tp P c).2.1 j)) (fun j => nI ((sT kd mo gl tp P c).2.2 j)) (nI (P + c)) (nI 0) := fun c a b d e => hQ c a b e d
  have key := lp_mu (σ := Nat × Bool) (W := fun f z => wq_X8_set_26 (fun j => nI (tp j)) Q f (fun j => nI ((sT kd mo gl tp P z.1).1 j)) (fun j => nI ((sT kd mo gl tp P z.1).2.1 j)) (fun j => nI ((sT kd mo gl tp P z.1).2.2 j)) (nI (P + z.1)) (nI 0) (nI N) (nI z.1) (bI z.2) (nI (if z.2 then 8 * z.1 else 8 * z.1 + 8))) (I := fun z => 8 * z.1 ≤ N ∧ (∀ i, i < z.1 → P + i < 40 ∧ rOK tp i) ∧ P + z.1 ≤ 40 ∧ (z.2 = false → ¬ (P + z.1 < 40 ∧ rOK tp z.1))) (fun z => 2 * (51 - z.1) + (if z.2 then 1 else 0)) ?_ (0, true) ⟨Nat.zero_le _, fun i hi => absurd hi (by omega), hP, fun q => absurd q (by decide)⟩
  · exact key
  · rintro f ⟨c, b⟩ ⟨i1, i2, i3, i4⟩ ih
    cases b with
    | false =>
      show wf_X8_set_26 _ _ _ _ _ _ _ _ _ _ _ _
      unfold wf_X8_set_26
      have := hend c i1 i2 i3 (Or.inr (i4 rfl))
      exact ⟨fun _ => this, fun _ => ⟨fun _ => this, fun e => absurd rfl e⟩⟩
    | true =>
    dsimp only at i1 i2 i3
    show wf_X8_set_26 (fun j => nI (tp j)) Q _ (fun j => nI ((sT kd mo gl tp P c).1 j)) (fun j => nI ((sT kd mo gl tp P c).2.1 j)) (fun j => nI ((sT kd mo gl tp P c).2.2 j)) (nI (P + c)) (nI 0) (nI N) (nI c) 1 (nI (8 * c))
    unfold wf_X8_set_26
    rw [ad_8, nI_lt' (by omega) (by omega)]
    refine ⟨fun q => hend c i1 i2 i3 (Or.inl q), fun q => ⟨fun e => absurd e (by decide), fun _ => ?_⟩⟩
    have h6 := h (8 * c + 6)
    have h7 := h (8 * c + 7)
    rw [ad_6, ad_7, ad_1, ad_2, ad_3, ad_4, vp_in' (by omega), vp_in' (by omega), vp_in' (by omega), vp_in' (by omega), vp_in' (by omega), vp_in' (by omega), vp_in' (by omega), nI_clamp' (by omega), nI_clamp' (by omega), nI_clamp' (by omega), nI_clamp' (by omega), nI_clamp' (by omega), nI_clamp' (by omega), nI_clamp' (by omega)]
    refine ⟨by omega, ?_⟩
    rintro _ rfl
    refine ⟨by omega, ?_⟩
    rintro _ rfl
    refine ⟨by omega, ?_⟩
    rintro _ rfl
    refine ⟨by omega, ?_⟩
    rintro _ rfl
    refine ⟨by omega, ?_⟩
    rintro _ rfl
    refine ⟨by omega, ?_⟩
    rintro _ rfl
    refine ⟨by omega, ?_⟩
    rintro _ rfl
    rw [mu_256, nI_add]
    refine sp_rpiece i3 _ (fun bad => ?_) ?_
    · refine ⟨fun _ => ?_, fun e => absurd (by decide) e⟩
      unfold wq_X8_set_119
      refine ⟨fun _ => ?_, fun e => absurd rfl e⟩
      rintro _ rfl
      rw [ad_8]
      refine ih (c, false) ⟨i1, i2, i3, fun _ g => ?_⟩ (by show 2 * (51 - c) + 0 < 2 * (51 - c) + 1; omega)
      rcases bad with bad | bad
      · have := g.1
        dsimp only at this
        omega
      · exact bad g.2
    · intro hP' k m a' r' b' l' e1 e2 hm e3 e4 e5 e6 b1 b2 b3 b4
      obtain ⟨s1, s2, s3⟩ := sT_step (kd := kd) (mo := mo) (gl := gl) (P := P) h e1 e2 hm e3 e4 e5 e6 b1 b2 b3 b4
      refine ⟨fun e => absurd e (nI_pos (by omega)), fun _ => ?_⟩
      unfold wq_X8_set_119
      refine ⟨fun e => absurd e (by decide), fun _ => ?_⟩
      rintro _ rfl _ rfl
      rw [s1, s2, s3, ad_1, ad_8, show 8 * c + 8 = 8 * (c + 1) by omega]
      refine ih (c + 1, true) ⟨show 8 * (c + 1) ≤ N by omega, fun i hi => ?_, show P + (c + 1) ≤ 40 by omega, fun e => absurd (show true = false from e) (by decide)⟩ (by show 2 * (51 - (c + 1)) + 1 < 2 * (51 - c) + 1; omega)
      dsimp only at hi
      rcases Nat.lt_or_ge i c with a | a
      · exact i2 i a
      · obtain rfl : i = c := by omega
        exact ⟨hP', ⟨k, m, e1, e2, hm⟩, ⟨a', b1, e3⟩, ⟨r', b2, e4⟩, ⟨b', b3, e5⟩, ⟨l', b4, e6⟩⟩
/-! glue and warmth -/
def glOK (on : Nat → Nat) (g v : Nat) : Prop := 1 ≤ g ∧ g ≤ 50 ∧ v ≤ 3 ∧ cnt on = 0
theorem gv_c (g v : Int32) : (g < 1 ∨ (50 : Int32) < g ∨ v < 0 ∨ (3 : Int32) < v) ∨ ∃ a b : Nat, 1 ≤ a ∧ a ≤ 50 ∧ b ≤ 3 ∧ g = nI a ∧ v = nI b := by
  by_cases h1 : g < 1
  · exact Or.inl (Or.inl h1)
  have h0 : ¬ g < 0 := by
    rw [fa_lt] at h1 ⊢
    have e1 : (1 : Int32).toInt = 1 := by decide
    have e2 : (0 : Int32).toInt = 0 := by decide
    omega
  obtain ⟨a, ha, rfl⟩ := nI_of h0
  by_cases h2 : (50 : Int32) < nI a
  · exact Or.inl (Or.inr (Or.inl h2))
  by_cases h3 : v < 0
  · exact Or.inl (Or.inr (Or.inr (Or.inl h3)))
  obtain ⟨b, hb, rfl⟩ := nI_of h3
  by_cases h4 : (3 : Int32) < nI b
  · exact Or.inl (Or.inr (Or.inr (Or.inr h4)))
  rw [ls_1 ha] at h1
  rw [gt_50 ha] at h2
  rw [gt_3 hb] at h4
  exact Or.inr ⟨a, b, by omega, by omega, by omega, rfl, rfl⟩
theorem fa_51 {g : Int32} : (51 : Int32) ≤ g ↔ (50 : Int32) < g := by
  rw [fa_le, fa_lt]
  have e1 : (51 : Int32).toInt = 51 := by decide
  have e2 : (50 : Int32).toInt = 50 := by decide
  omega
theorem sp_cglue {sg on : Nat → Nat} {g v : Nat} (h1 : 1 ≤ g) (h2 : g ≤ 50) (h3 : v ≤ 3) (Q : Int32 → (Nat → Int32) → Prop) (hQ1 : cnt on = 0 → Q 1 (fun j => nI (upN sg g v j))) (hQ0 : ¬ cnt on = 0 → Q 0 (fun k => nI (sg k))) : wp_X7_glue (nI (cnt on)) (fun k => nI (sg k)) (nI g) (nI v) Q := by
  have hc := cnt_le on
  unfold wp_X7_glue
  rw [eq_0 (by omega), vp_in' (by omega), nI_clamp' (by omega), upd_N]
  refine ⟨fun q => absurd q (nI_nlt (a := g) (b := 1) h1 (by omega)), fun _ => ⟨fun q => absurd q (nI_ge (a := g) (b := 51) (by omega) (by decide)), fun _ => ⟨fun q => absurd q (nI_pos (by omega)), fun _ => ⟨fun q => absurd q (nI_nlt (a := 3) (b := v) h3 (by decide)), fun _ => ⟨fun q => ⟨by omega, ?_⟩, hQ0⟩⟩⟩⟩⟩
  rintro _ rfl
  exact hQ1 q
theorem sp_cglue_f {pcs g v : Int32} {str : (Nat → Int32)} (h : g < 1 ∨ (50 : Int32) < g ∨ v < 0 ∨ (3 : Int32) < v) (Q : Int32 → (Nat → Int32) → Prop) (hQ0 : Q 0 str) : wp_X7_glue pcs str g v Q := by
  unfold wp_X7_glue
  rw [fa_51]
  refine ⟨fun _ => hQ0, fun q1 => ⟨fun _ => hQ0, fun q2 => ⟨fun _ => hQ0, fun q3 => ⟨fun _ => hQ0, fun q4 => ?_⟩⟩⟩⟩
  rcases h with h | h | h | h
  · exact absurd h q1
  · exact absurd h q2
  · exact absurd h q3
  · exact absurd h q4
theorem sp_rglue {kd sg on : Nat → Nat} {P g v : Nat} (hP : P ≤ 40) (hS : okS kd P on) (h1 : 1 ≤ g) (h2 : g ≤ 50) (h3 : v ≤ 3) (Q : Int32 → (Nat → Int32) → Prop) (hQ1 : cnt on = 0 → Q 1 (fun j => nI (upN sg g v j))) (hQ0 : ¬ cnt on = 0 → Q 0 (fun k => nI (sg k))) : wp_X8_glue (fun k => nI (on k)) (fun k => nI (sg k)) (nI g) (nI v) Q := by
  unfold wp_X8_glue
  refine ⟨fun q => absurd q (nI_nlt (a := g) (b := 1) h1 (by omega)), fun _ => ⟨fun q => absurd q (nI_nlt (a := 50) (b := g) h2 (by decide)), fun _ => ⟨fun q => absurd q (nI_pos (by omega)), fun _ => ⟨fun q => absurd q (nI_nlt (a := 3) (b := v) h3 (by decide)), fun _ => ?_⟩⟩⟩⟩
  apply sp_isClear hP hS
  rw [bI_0, vp_in' (by omega), nI_clamp' (by omega), upd_N]
  refine ⟨fun q => ⟨by omega, ?_⟩, fun q => hQ0 (by simpa using q)⟩
  rintro _ rfl
  exact hQ1 (by simpa using q)
theorem sp_rglue_f {sheet str : (Nat → Int32)} {g v : Int32} (h : g < 1 ∨ (50 : Int32) < g ∨ v < 0 ∨ (3 : Int32) < v) (Q : Int32 → (Nat → Int32) → Prop) (hQ0 : Q 0 str) : wp_X8_glue sheet str g v Q := by
  unfold wp_X8_glue
  refine ⟨fun _ => hQ0, fun q1 => ⟨fun _ => hQ0, fun q2 => ⟨fun _ => hQ0, fun q3 => ⟨fun _ => hQ0, fun q4 => ?_⟩⟩⟩⟩
  rcases h with h | h | h | h
  · exact absurd h q1
  · exact absurd h q2
  · exact absurd h q3
  · exact absurd h q4
theorem w_c (g : Int32) : (g < 1 ∨ (3 : Int32) < g) ∨ ∃ a : Nat, 1 ≤ a ∧ a ≤ 3 ∧ g = nI a := by
  rcases gv_c 1 1 with h | h
  · exact absurd h (by decide)
  by_cases h1 : g < 1
  · exact Or.inl (Or.inl h1)
  have h0 : ¬ g < 0 := by
    rw [fa_lt] at h1 ⊢
    have e1 : (1 : Int32).toInt = 1 := by decide
    have e2 : (0 : Int32).toInt = 0 := by decide
    omega
  obtain ⟨a, ha, rfl⟩ := nI_of h0
  by_cases h2 : (3 : Int32) < nI a
  · exact Or.inl (Or.inr h2)
  rw [ls_1 ha] at h1
  rw [gt_3 ha] at h2
  exact Or.inr ⟨a, by omega, by omega, rfl⟩
theorem sp_cwarm {on : Nat → Nat} {g : Nat} {wm : Int32} (h1 : 1 ≤ g) (h2 : g ≤ 3) (Q : Int32 → Int32 → Prop) (hQ1 : cnt on = 0 → Q 1 (nI g)) (hQ0 : ¬ cnt on = 0 → Q 0 wm) : wp_X7_warmth (nI (cnt on)) wm (nI g) Q := by
  have hc := cnt_le on
  unfold wp_X7_warmth
  rw [eq_0 (by omega)]
  exact ⟨fun q => absurd q (nI_nlt (a := g) (b := 1) h1 (by omega)), fun _ => ⟨fun q => absurd q (nI_nlt (a := 3) (b := g) h2 (by decide)), fun _ => ⟨hQ1, hQ0⟩⟩⟩
theorem sp_cwarm_f {pcs wm g : Int32} (h : g < 1 ∨ (3 : Int32) < g) (Q : Int32 → Int32 → Prop) (hQ0 : Q 0 wm) : wp_X7_warmth pcs wm g Q := by
  unfold wp_X7_warmth
  refine ⟨fun _ => hQ0, fun q1 => ⟨fun _ => hQ0, fun q2 => ?_⟩⟩
  rcases h with h | h
  · exact absurd h q1
  · exact absurd h q2
theorem sp_rwarm {kd on : Nat → Nat} {P g : Nat} {wm : Int32} (hP : P ≤ 40) (hS : okS kd P on) (h1 : 1 ≤ g) (h2 : g ≤ 3) (Q : Int32 → Int32 → Prop) (hQ1 : cnt on = 0 → Q 1 (nI g)) (hQ0 : ¬ cnt on = 0 → Q 0 wm) : wp_X8_warmth (fun k => nI (on k)) wm (nI g) Q := by
  unfold wp_X8_warmth
  refine ⟨fun q => absurd q (nI_nlt (a := g) (b := 1) h1 (by omega)), fun _ => ⟨fun q => absurd q (nI_nlt (a := 3) (b := g) h2 (by decide)), fun _ => ?_⟩⟩
  apply sp_isClear hP hS
  rw [bI_0]
  exact ⟨fun q => hQ1 (by simpa using q), fun q => hQ0 (by simpa using q)⟩
theorem sp_rwarm_f {sheet : (Nat → Int32)} {wm g : Int32} (h : g < 1 ∨ (3 : Int32) < g) (Q : Int32 → Int32 → Prop) (hQ0 : Q 0 wm) : wp_X8_warmth sheet wm g Q := by
  unfold wp_X8_warmth
  refine ⟨fun _ => hQ0, fun q1 => ⟨fun _ => hQ0, fun q2 => ?_⟩⟩
  rcases h with h | h
  · exact absurd h q1
  · exact absurd h q2
/-- on a clear sheet nothing fits, whatever the strengths and the warmth -/
theorem fit_clear {kd mo gl sg on : Nat → Nat} {w P : Nat} (h1 : 1 ≤ w) (h0 : ∀ k, on k = 0) (c : Nat) : fitF kd mo gl sg w (pad on) P c = 0 := by
  have hp : ∀ c, pad on c = 0 := by
    intro c
    unfold pad
    split
    · exact h0 _
    · rfl
  have hu : ∀ p n, hUp kd mo gl sg (pad on) p c n = 0 := by
    intro p n
    induction n with
    | zero => rfl
    | succ n ih =>
      unfold hUp hAt
      rw [ih, hp, hp]
      simp
  unfold fitF
  rw [mk_eq0]
  intro p _
  unfold mayC hOf
  rw [hu]
  have : ¬ w ≤ 0 := by omega
  simp [this]
theorem okFI_clear {kd mo gl sg kd' mo' gl' sg' on : Nat → Nat} {w P w' P' : Nat} {stale stc line : (Nat → Int32)} {n all : Int32} {fits : (Nat → Int64)} (h1 : 1 ≤ w) (h1' : 1 ≤ w') (h0 : ∀ k, on k = 0) (h : okFI kd mo gl sg w P (pad on) stale stc n fits line all) : okFI kd' mo' gl' sg' w' P' (pad on) stale stc n fits line all := by
  obtain ⟨m, St, e, g1, g2, g3⟩ := h
  refine ⟨m, St, e, g1, g2, fun c hc hs => ?_⟩
  rw [g3 c hc hs, fit_clear h1 h0, fit_clear h1' h0]
