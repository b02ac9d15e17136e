/-! the ground of all contracts: static arrays, nest links, the call rows that put a callee's cells back where they lay -/
abbrev cx_T (cI cJ cZ cO : ClassId) : List (ClassId × FieldType) := [(cI, .int), (cJ, .long), (cZ, .boolean), (cO, .object "GrowingTiles$Image")]
/-- the private members of GrowingTiles that its nested classes reach -/
def cx_N (U : State) : Prop :=
  va_Nw (.methodLinkNest RX1 76 yX7_bitOf RX7) U ∧ va_Nw (.methodLinkNest RX4 93 yX7_isOnSheet RX7) U ∧ va_Nw (.fieldLinkNest RX4 90 RX7 "TOUCHED" "[I" RX7) U ∧
  va_Nw (.methodLinkNest RX4 61 yX7_columnOf RX7) U ∧ va_Nw (.fieldLinkNest RX4 167 RX7 "STEP_TO" "[I" RX7) U ∧ va_Nw (.methodLinkNest RX4 170 yX7_bitOf RX7) U ∧
  va_Nw (.methodLinkNest RX4 106 yX7_lineOf RX7) U ∧ va_Nw (.methodLinkNest RX4 69 yX7_pieceIn RX7) U ∧ va_Nw (.methodLinkNest RX4 116 yX7_placeOf RX7) U ∧
  va_Nw (.methodLinkNest RX3 116 yX7_placeOf RX7) U ∧ va_Nw (.methodLinkNest RX3 149 yX7_pieceIn RX7) U ∧ va_Nw (.fieldLinkNest RX2 84 RX7 "STEP_TO" "[I" RX7) U ∧
  va_Nw (.methodLinkNest RX2 57 yX7_columnOf RX7) U ∧ va_Nw (.methodLinkNest RX2 60 yX7_lineOf RX7) U ∧ va_Nw (.methodLinkNest RX2 117 yX7_bitOf RX7) U
theorem cx_N.warm {s U : State} (hW : s.WarmedH U.vm) (h : cx_N s) : cx_N U := by
  obtain ⟨h1, h2, h3, h4, h5, h6, h7, h8, h9, h10, h11, h12, h13, h14, h15⟩ := h
  exact ⟨va_Nw.warmM hW h1, va_Nw.warmM hW h2, va_Nw.warmF hW h3, va_Nw.warmM hW h4, va_Nw.warmF hW h5, va_Nw.warmM hW h6, va_Nw.warmM hW h7, va_Nw.warmM hW h8, va_Nw.warmM hW h9, va_Nw.warmM hW h10, va_Nw.warmM hW h11, va_Nw.warmF hW h12, va_Nw.warmM hW h13, va_Nw.warmM hW h14, va_Nw.warmM hW h15⟩
theorem cx_N.same {s U : State} (hv : s.vm = U.vm) (h : cx_N s) : cx_N U := by
  obtain ⟨h1, h2, h3, h4, h5, h6, h7, h8, h9, h10, h11, h12, h13, h14, h15⟩ := h
  exact ⟨va_Nw.same rfl hv h1, va_Nw.same rfl hv h2, va_Nw.same rfl hv h3, va_Nw.same rfl hv h4, va_Nw.same rfl hv h5, va_Nw.same rfl hv h6, va_Nw.same rfl hv h7, va_Nw.same rfl hv h8, va_Nw.same rfl hv h9, va_Nw.same rfl hv h10, va_Nw.same rfl hv h11, va_Nw.same rfl hv h12, va_Nw.same rfl hv h13, va_Nw.same rfl hv h14, va_Nw.same rfl hv h15⟩
/-- nest links and static arrays, none of them in A -/
def cx_E (tS tT : Nat) (A : Nat → Prop) (U : State) (H : Heap) : Prop :=
  cx_N U ∧ va_Z "GrowingTiles" "STEP_TO" "[I" (.ref tS) A U H ∧ va_T .int tS 4 (fun k => .int (st_STEP k)) A U H ∧ va_Z "GrowingTiles" "TOUCHED" "[I" (.ref tT) A U H ∧ va_T .int tT 8 (fun k => .int (st_TOUCH k)) A U H
theorem cx_E.next {tS tT : Nat} {A B : Nat → Prop} {s U : State} {H : Heap} {locs : List Loc} (h : cx_E tS tT A s s.heap) (hS : va_S A s.heap H locs) (hU : U.heap = H) (hW : s.WarmedH U.vm) (hB : ∀ q, B q → A q) : cx_E tS tT B U U.heap := by
  obtain ⟨h1, h2, h3, h4, h5⟩ := h
  subst hU
  exact ⟨h1.warm hW, ((h2.kept hS.2.1).moved hW.alike).narrow hB, ((h3.kept hS.2.1).moved hW.alike).narrow hB, ((h4.kept hS.2.1).moved hW.alike).narrow hB, ((h5.kept hS.2.1).moved hW.alike).narrow hB⟩
/-- a contract's start: the heap holds the cells ws, apart from each other -/
def cx_B (tS tT : Nat) (cI cJ cZ cO : ClassId) (D : va_G) (sz : Nat) (ws : va_W) (U : State) : Prop :=
  U.heap.size = sz ∧ cx_E tS tT (va_A ws sz) U U.heap ∧ va_P D vwCl ws U.heap ∧ va_K D vwCl (cx_T cI cJ cZ cO) U ∧ va_D (fun _ => True) ws
theorem cx_blind {tS tT : Nat} {cI cJ cZ cO : ClassId} {D : va_G} {sz : Nat} {ws : va_W} {av : List Value} : FrameBlind (va_Pc av (cx_B tS tT cI cJ cZ cO D sz ws)) := by
  intro a U g mk q
  obtain ⟨q0, q1, ⟨e1, e2, e3, e4, e5⟩, qP, qK, qD⟩ := q
  have hv : U.vm.Alike (U.calling g mk a).vm := Vm.Alike.refl U.vm
  exact ⟨q0, q1, ⟨e1.same rfl, e2.moved hv, e3.moved hv, e4.moved hv, e5.moved hv⟩, qP, va_K.moved (u := U) (U := U.calling g mk a) (Vm.Alike.refl U.vm) qK, qD⟩
theorem cx_D_of {A : Nat → Prop} {ws ws' : va_W} (hD : va_D A ws) (h : ws'.map Prod.fst = ws.map Prod.fst) : va_D A ws' := by
  have hg : ∀ (k : Nat) (q : Nat × va_E), ws'[k]? = some q → ∃ r, ws[k]? = some r ∧ r.1 = q.1 := by
    intro k q hk
    have h1 : (ws.map Prod.fst)[k]? = some q.1 := by rw [← h, List.getElem?_map, hk]; rfl
    rw [List.getElem?_map] at h1
    cases hw : ws[k]? with
    | none => rw [hw] at h1; simp at h1
    | some r => rw [hw] at h1; exact ⟨r, rfl, by simpa using h1⟩
  refine ⟨fun i j p q hi hj e => ?_, fun k q hk => ?_⟩
  · obtain ⟨r1, a1, b1⟩ := hg i p hi
    obtain ⟨r2, a2, b2⟩ := hg j q hj
    exact hD.1 i j r1 r2 a1 a2 (by rw [b1, b2, e])
  · obtain ⟨r, a1, b1⟩ := hg k q hk
    rw [← b1]; exact hD.2 k r a1
theorem cx_map_at {f g : Nat → Option (Nat × va_E)} {is : List Nat} (h : is.map f = is.map g) {k : Nat} (hk : k ∈ is) : f k = g k := by
  obtain ⟨j, hj⟩ := List.mem_iff_getElem?.mp hk
  have h2 : (is.map f)[j]? = (is.map g)[j]? := by rw [h]
  rw [List.getElem?_map, List.getElem?_map, hj] at h2
  simpa using h2
theorem cx_map_to {f : Nat → Option (Nat × va_E)} {is : List Nat} {w : va_W} (h : is.map f = w.map some) {k : Nat} (hk : k ∈ is) : ∃ (j : Nat) (q : Nat × va_E), is[j]? = some k ∧ w[j]? = some q ∧ f k = some q := by
  obtain ⟨j, hj⟩ := List.mem_iff_getElem?.mp hk
  have h2 : (is.map f)[j]? = (w.map some)[j]? := by rw [h]
  rw [List.getElem?_map, List.getElem?_map, hj] at h2
  cases hw : w[j]? with
  | none => rw [hw] at h2; simp at h2
  | some q => rw [hw] at h2; exact ⟨j, q, hj, hw, by simpa using h2⟩
/-- behind a call: ws' is ws with the callee's cells (at the places isC) as they are now; the others (isR) are as they were -/
theorem cx_join {A : Nat → Prop} {D : va_G} {ws ws' wc w1 : va_W} {H H1 : Heap} {n : Nat} (hP : va_P D vwCl ws H) (hD : va_D A ws) (isC isR : List Nat) (hC : isC.map (fun i => ws[i]?) = wc.map some) (had : w1.map Prod.fst = wc.map Prod.fst)
    (h3 : isC.map (fun i => ws'[i]?) = w1.map some) (hR : isR.map (fun i => ws'[i]?) = isR.map (fun i => ws[i]?)) (hl : ws.length = n) (hl' : ws'.length = n) (hcov : (List.range n).all (fun k => isC.contains k || isR.contains k) = true)
    (hk : ∀ q : Nat, q < H.size → ¬ va_A wc H.size q → H1[q]? = H[q]?) (hP1 : va_P D vwCl w1 H1) : va_P D vwCl ws' H1 ∧ va_D A ws' := by
  have hcv : ∀ k, k < n → k ∈ isC ∨ k ∈ isR := by
    intro k hk
    have h := List.all_eq_true.mp hcov k (List.mem_range.mpr hk)
    simpa using h
  have hadr : ∀ k : Nat, (ws'[k]?).map Prod.fst = (ws[k]?).map Prod.fst := by
    intro k
    by_cases hkn : k < n
    · rcases hcv k hkn with h | h
      · obtain ⟨j, q, h1, h2, h4⟩ := cx_map_to h3 h
        obtain ⟨j', q', h1', h2', h4'⟩ := cx_map_to hC h
        rw [h4]
        obtain ⟨i, hi⟩ := List.mem_iff_getElem?.mp h
        -- the same place of the list of places for both
        have e1 : (isC.map (fun i => (ws'[i]?).map Prod.fst)) = (isC.map (fun i => (ws[i]?).map Prod.fst)) := by
          have a1 := congrArg (List.map (fun o : Option (Nat × va_E) => o.map Prod.fst)) h3
          have a2 := congrArg (List.map (fun o : Option (Nat × va_E) => o.map Prod.fst)) hC
          rw [List.map_map, List.map_map] at a1 a2
          have a3 : List.map ((fun o : Option (Nat × va_E) => o.map Prod.fst) ∘ some) w1 = List.map ((fun o : Option (Nat × va_E) => o.map Prod.fst) ∘ some) wc := by
            have a4 := congrArg (List.map (some : Nat → Option Nat)) had
            rw [List.map_map, List.map_map] at a4
            exact a4
          exact a1.trans (a3.trans a2.symm)
        have e2 : (isC.map (fun i => (ws'[i]?).map Prod.fst))[i]? = (isC.map (fun i => (ws[i]?).map Prod.fst))[i]? := by rw [e1]
        rw [List.getElem?_map, List.getElem?_map, hi] at e2
        have e3 : (ws'[k]?).map Prod.fst = (ws[k]?).map Prod.fst := by simpa using e2
        rw [h4] at e3
        exact e3
      · rw [cx_map_at hR h]
    · rw [List.getElem?_eq_none (by omega), List.getElem?_eq_none (by omega)]
  have hfst : ws'.map Prod.fst = ws.map Prod.fst := by
    apply List.ext_getElem?
    intro k
    rw [List.getElem?_map, List.getElem?_map]
    exact hadr k
  refine ⟨fun k q hq => ?_, cx_D_of hD hfst⟩
  have hkn : k < n := by
    rw [← hl']
    exact (List.getElem?_eq_some_iff.mp hq).1
  by_cases hkC : k ∈ isC
  · obtain ⟨j, q', -, h2, h4⟩ := cx_map_to h3 hkC
    have : q' = q := by rw [h4] at hq; simpa using hq
    exact hP1 j q (this ▸ h2)
  · have hkR : k ∈ isR := (hcv k hkn).resolve_left hkC
    have h1 : ws[k]? = some q := by rw [← cx_map_at hR hkR]; exact hq
    have hat := hP k q h1
    refine hat.kept ?_
    by_cases hs : q.1 < H.size
    · refine hk q.1 hs ?_
      rintro (⟨j, e, hj⟩ | h)
      · have hj' : (isC.map (fun i => ws[i]?))[j]? = some (some (q.1, e)) := by rw [hC, List.getElem?_map, hj]; rfl
        rw [List.getElem?_map] at hj'
        cases hi : isC[j]? with
        | none => rw [hi] at hj'; simp at hj'
        | some i =>
          rw [hi] at hj'
          have h3 : ws[i]? = some (q.1, e) := by simpa using hj'
          have := hD.1 k i q (q.1, e) h1 h3 rfl
          exact hkC (this ▸ List.mem_of_getElem? hi)
      · omega
    · exfalso
      have hno : H[q.1]? = none := Array.getElem?_eq_none (by omega)
      have h9 : ∃ cell, H[q.1]? = some cell := by
        unfold va_at at hat
        split at hat
        · exact ⟨_, hat⟩
        · obtain ⟨r, -, cell, hc, -⟩ := hat
          exact ⟨cell, hc⟩
      obtain ⟨cell, hc⟩ := h9
      rw [hno] at hc
      cases hc
theorem cx_picks : ∀ (is : List Nat) (ws wc : va_W), is.map (fun i => ws[i]?) = wc.map some → is.filterMap (fun i => ws[i]?) = wc := by
  intro is ws wc h
  have h2 := congrArg (List.filterMap id) h
  rw [List.filterMap_map, List.filterMap_map] at h2
  refine Eq.trans ?_ (h2.trans ?_)
  · rfl
  · exact List.filterMap_some
section CX
variable {p : Program} {l : Launch} {e : Env} {R : Room} {s : State} {m : MethodId} {args : Array Value} {below : List Frame} {meth : Method} {c : Code} {H : Heap} {locs : List Loc} {cells slots : Nat} {Z : State → Prop} {tS tT : Nat} {cI cJ cZ cO : ClassId} {D : va_G} {A : Nat → Prop} {ws wc : va_W}
theorem cx_preV {C : String} {b : Nat} {As : List Value} (hE : cx_E tS tT A s s.heap) (hK : va_K D vwCl (cx_T cI cJ cZ cO) s) (hP : va_P D vwCl ws H) (hD : va_D A ws) (hS : va_S A s.heap H locs) (hA : ∀ q, s.heap.size ≤ q → A q) (isC : List Nat) (hC : isC.map (fun i => ws[i]?) = wc.map some) (hn : va_nd isC = true) (hr : ∃ cell : Cell, H[b]? = some cell ∧ cell.vm.isStatics = false ∧ s.vm.findClass C = some cell.cls) : PreV s H C b (va_Pc (.ref b :: As) (cx_B tS tT cI cJ cZ cO D H.size wc)) As := by
  have hf := va_free (wc := wc) hD hS hA isC hC
  have hPc : va_P D vwCl wc H := hP.sub isC (cx_picks isC ws wc hC)
  have hDc : va_D A wc := hD.sub isC hn hC
  exact ⟨cx_blind, hr, fun U hU hW => ⟨rfl, by rw [hU], hE.next hS hU hW hf, by rw [hU]; exact hPc, va_K.moved hW.alike hK, hDc.weaken (fun _ _ _ _ => trivial)⟩⟩
theorem cx_preS {As : List Value} (hE : cx_E tS tT A s s.heap) (hK : va_K D vwCl (cx_T cI cJ cZ cO) s) (hP : va_P D vwCl ws H) (hD : va_D A ws) (hS : va_S A s.heap H locs) (hA : ∀ q, s.heap.size ≤ q → A q) (isC : List Nat) (hC : isC.map (fun i => ws[i]?) = wc.map some) (hn : va_nd isC = true) : PreS s H (va_Pc As (cx_B tS tT cI cJ cZ cO D H.size wc)) As := by
  have hf := va_free (wc := wc) hD hS hA isC hC
  have hPc : va_P D vwCl wc H := hP.sub isC (cx_picks isC ws wc hC)
  have hDc : va_D A wc := hD.sub isC hn hC
  exact ⟨cx_blind, fun U hU hW => ⟨rfl, by rw [hU], hE.next hS hU hW hf, by rw [hU]; exact hPc, va_K.moved hW.alike hK, hDc.weaken (fun _ _ _ _ => trivial)⟩⟩
theorem cx_goi {S : Type} {post : Int32 → S → Prop} {w1 : S → va_W} {a : Array Value} {pc : Nat} {ls : Array Slot} {st0 rest : List Value}
    (hr : va_Run p l e R s m args below meth c H locs cells slots 0 0 (F0 m pc ls st0) rest (va_Qi post (fun u t => va_P D vwCl (w1 u) t.heap) (va_A wc H.size) a) (va_A wc H.size))
    (ws' : S → va_W) (isC isR : List Nat) {n : Nat} (hC : isC.map (fun i => ws[i]?) = wc.map some) {ads : List Nat} {wr : va_W} (had0 : wc.map Prod.fst = ads) (had : ∀ u, (w1 u).map Prod.fst = ads) (h3 : ∀ u, isC.map (fun i => (ws' u)[i]?) = (w1 u).map some) (hR0 : isR.map (fun i => ws[i]?) = wr.map some) (hR : ∀ u, isR.map (fun i => (ws' u)[i]?) = wr.map some) (hl : ws.length = n) (hl' : ∀ u, (ws' u).length = n) (hcov : (List.range n).all (fun k => isC.contains k || isR.contains k) = true) (hP : va_P D vwCl ws H) (hD : va_D A ws) (hS : va_S A s.heap H locs) (hA : ∀ q, s.heap.size ≤ q → A q)
    (kk : ∀ (r : Int32) (u : S) (H1 : Heap) (locs1 : List Loc), post r u → va_P D vwCl (ws' u) H1 → va_D A (ws' u) → va_S A s.heap H1 locs1 → W p l e R s m args below meth c H1 locs1 cells slots Z (F0 m (pc + 3) ls (.int r :: rest))) : W p l e R s m args below meth c H locs cells slots Z (F0 m pc ls st0) := by
  have hf := va_free (wc := wc) hD hS hA isC hC
  refine va_calli hr hS (fun q _ h => hf q h) hf (fun r u t H1 locs1 ht hvm hw hB hz1 hk1 hS1 => ?_)
  rw [ht] at hB
  obtain ⟨hP1, hD1⟩ := cx_join (ws' := ws' u) hP hD isC isR hC ((had u).trans had0.symm) (h3 u) ((hR u).trans hR0.symm) hl (hl' u) hcov hk1 hB
  exact kk r u H1 locs1 hw hP1 hD1 hS1
theorem cx_gol {S : Type} {post : Int64 → S → Prop} {w1 : S → va_W} {a : Array Value} {pc : Nat} {ls : Array Slot} {st0 rest : List Value}
    (hr : va_Run p l e R s m args below meth c H locs cells slots 0 0 (F0 m pc ls st0) rest (va_Ql post (fun u t => va_P D vwCl (w1 u) t.heap) (va_A wc H.size) a) (va_A wc H.size))
    (ws' : S → va_W) (isC isR : List Nat) {n : Nat} (hC : isC.map (fun i => ws[i]?) = wc.map some) {ads : List Nat} {wr : va_W} (had0 : wc.map Prod.fst = ads) (had : ∀ u, (w1 u).map Prod.fst = ads) (h3 : ∀ u, isC.map (fun i => (ws' u)[i]?) = (w1 u).map some) (hR0 : isR.map (fun i => ws[i]?) = wr.map some) (hR : ∀ u, isR.map (fun i => (ws' u)[i]?) = wr.map some) (hl : ws.length = n) (hl' : ∀ u, (ws' u).length = n) (hcov : (List.range n).all (fun k => isC.contains k || isR.contains k) = true) (hP : va_P D vwCl ws H) (hD : va_D A ws) (hS : va_S A s.heap H locs) (hA : ∀ q, s.heap.size ≤ q → A q)
    (kk : ∀ (r : Int64) (u : S) (H1 : Heap) (locs1 : List Loc), post r u → va_P D vwCl (ws' u) H1 → va_D A (ws' u) → va_S A s.heap H1 locs1 → W p l e R s m args below meth c H1 locs1 cells slots Z (F0 m (pc + 3) ls (.long r :: rest))) : W p l e R s m args below meth c H locs cells slots Z (F0 m pc ls st0) := by
  have hf := va_free (wc := wc) hD hS hA isC hC
  refine va_calll hr hS (fun q _ h => hf q h) hf (fun r u t H1 locs1 ht hvm hw hB hz1 hk1 hS1 => ?_)
  rw [ht] at hB
  obtain ⟨hP1, hD1⟩ := cx_join (ws' := ws' u) hP hD isC isR hC ((had u).trans had0.symm) (h3 u) ((hR u).trans hR0.symm) hl (hl' u) hcov hk1 hB
  exact kk r u H1 locs1 hw hP1 hD1 hS1
theorem cx_gov {S : Type} {post : S → Prop} {w1 : S → va_W} {a : Array Value} {pc : Nat} {ls : Array Slot} {st0 rest : List Value}
    (hr : va_Run p l e R s m args below meth c H locs cells slots 0 0 (F0 m pc ls st0) rest (va_Qv post (fun u t => va_P D vwCl (w1 u) t.heap) (va_A wc H.size) a) (va_A wc H.size))
    (ws' : S → va_W) (isC isR : List Nat) {n : Nat} (hC : isC.map (fun i => ws[i]?) = wc.map some) {ads : List Nat} {wr : va_W} (had0 : wc.map Prod.fst = ads) (had : ∀ u, (w1 u).map Prod.fst = ads) (h3 : ∀ u, isC.map (fun i => (ws' u)[i]?) = (w1 u).map some) (hR0 : isR.map (fun i => ws[i]?) = wr.map some) (hR : ∀ u, isR.map (fun i => (ws' u)[i]?) = wr.map some) (hl : ws.length = n) (hl' : ∀ u, (ws' u).length = n) (hcov : (List.range n).all (fun k => isC.contains k || isR.contains k) = true) (hP : va_P D vwCl ws H) (hD : va_D A ws) (hS : va_S A s.heap H locs) (hA : ∀ q, s.heap.size ≤ q → A q)
    (kk : ∀ (u : S) (H1 : Heap) (locs1 : List Loc), post u → va_P D vwCl (ws' u) H1 → va_D A (ws' u) → va_S A s.heap H1 locs1 → W p l e R s m args below meth c H1 locs1 cells slots Z (F0 m (pc + 3) ls rest)) : W p l e R s m args below meth c H locs cells slots Z (F0 m pc ls st0) := by
  have hf := va_free (wc := wc) hD hS hA isC hC
  refine va_callv hr hS (fun q _ h => hf q h) hf (fun u t H1 locs1 ht hvm hw hB hz1 hk1 hS1 => ?_)
  rw [ht] at hB
  obtain ⟨hP1, hD1⟩ := cx_join (ws' := ws' u) hP hD isC isR hC ((had u).trans had0.symm) (h3 u) ((hR u).trans hR0.symm) hl (hl' u) hcov hk1 hB
  exact kk u H1 locs1 hw hP1 hD1 hS1
theorem cx_reti {S : Type} {post : Int32 → S → Prop} {w1 : S → va_W} (u : S) {v : Int32} {cc : ByteArray} {pc : Nat} {ls : Array Slot} (hx : p.tables.exec = Jvm.exec) (hb : c.code = cc) (hr : meth.sig.returnType = some .int) (hlocks : meth.locks = false) (hw : post v u) (hP : va_P D vwCl (w1 u) H) (hS : va_S A s.heap H locs) (hdg : decode cc pc = .ok (.ireturn, 1)) :
    W p l e R s m args below meth c H locs cells slots (MQ below (va_Qi post (fun u t => va_P D vwCl (w1 u) t.heap) A) args s cells slots A) (F0 m pc ls [.int v]) :=
  W.iret hx hb hr (fun t ht hW => ⟨⟨v, u, rfl, hw, by show va_P D vwCl (w1 u) t.heap; rw [ht]; exact hP⟩, hS.F ht⟩) hS.2.2 hdg hlocks
theorem cx_retz {S : Type} {post : Int32 → S → Prop} {w1 : S → va_W} (u : S) {v : Int32} {cc : ByteArray} {pc : Nat} {ls : Array Slot} (hx : p.tables.exec = Jvm.exec) (hb : c.code = cc) (hr : meth.sig.returnType = some .boolean) (hlocks : meth.locks = false) (hn : narrow .boolean (.int v) = .int v) (hw : post v u) (hP : va_P D vwCl (w1 u) H) (hS : va_S A s.heap H locs) (hdg : decode cc pc = .ok (.ireturn, 1)) :
    W p l e R s m args below meth c H locs cells slots (MQ below (va_Qi post (fun u t => va_P D vwCl (w1 u) t.heap) A) args s cells slots A) (F0 m pc ls [.int v]) :=
  W.zret hx hb hr hn (fun t ht hW => ⟨⟨v, u, rfl, hw, by show va_P D vwCl (w1 u) t.heap; rw [ht]; exact hP⟩, hS.F ht⟩) hS.2.2 hdg hlocks
theorem cx_retl {S : Type} {post : Int64 → S → Prop} {w1 : S → va_W} (u : S) {v : Int64} {cc : ByteArray} {pc : Nat} {ls : Array Slot} (hx : p.tables.exec = Jvm.exec) (hb : c.code = cc) (hr : meth.sig.returnType = some .long) (hlocks : meth.locks = false) (hw : post v u) (hP : va_P D vwCl (w1 u) H) (hS : va_S A s.heap H locs) (hdg : decode cc pc = .ok (.lreturn, 1)) :
    W p l e R s m args below meth c H locs cells slots (MQ below (va_Ql post (fun u t => va_P D vwCl (w1 u) t.heap) A) args s cells slots A) (F0 m pc ls [.long v]) :=
  W.lret hx hb hr (fun t ht hW => ⟨⟨v, u, rfl, hw, by show va_P D vwCl (w1 u) t.heap; rw [ht]; exact hP⟩, hS.F ht⟩) hS.2.2 hdg hlocks
theorem cx_retv {S : Type} {post : S → Prop} {w1 : S → va_W} (u : S) {cc : ByteArray} {pc : Nat} {ls : Array Slot} (hx : p.tables.exec = Jvm.exec) (hb : c.code = cc) (hr : meth.sig.returnType = none) (hlocks : meth.locks = false) (hw : post u) (hP : va_P D vwCl (w1 u) H) (hS : va_S A s.heap H locs) (hdg : decode cc pc = .ok (.return_, 1)) :
    W p l e R s m args below meth c H locs cells slots (MQ below (va_Qv post (fun u t => va_P D vwCl (w1 u) t.heap) A) args s cells slots A) (F0 m pc ls []) :=
  W.vret hx hb hr (fun t ht hW => ⟨⟨u, rfl, hw, by show va_P D vwCl (w1 u) t.heap; rw [ht]; exact hP⟩, hS.F ht⟩) hS.2.2 hdg hlocks
end CX
/-- the head of every contract that makes nothing -/
theorem cx_met {l : Launch} {y : MethodName} {ws ws' : List Cond} {rm : Room} {cc : ByteArray} {maxL : Nat} {ret : Option FieldType} {tS tT : Nat} {cI cJ cZ cO : ClassId} {D : va_G} {sz : Nat} {wc : va_W} {av : List Value} {Qc : (Nat → Prop) → Array Value → State → Outcome → State → Prop} {lv : List (Nat × Value)}
    (hy : plainName y.cls = true) (hw : ws = Cond.code y cc maxL ret :: ws') (hlen : (lg_sl av).length ≤ maxL) (hlv : lv_args 0 av = lv)
    (body : ∀ (p : Program) (e : Env) (s : State) (m : MethodId) (args : Array Value) (below : List Frame) (meth : Method) (c : Code) (A : Nat → Prop) (Z : State → Prop), p.tables.exec = Jvm.exec → c.code = cc → meth.sig.returnType = ret → meth.locks = false → (∀ w ∈ ws, w.before args s = true) → s.vm.findClass y.cls = some m.cls → c.maxLocals = maxL → cx_E tS tT A s s.heap → va_K D vwCl (cx_T cI cJ cZ cO) s → (∀ q, s.heap.size ≤ q → A q) → Z = MQ below (Qc A) args s 0 0 A →
      ∀ (H : Heap) (locs : List Loc), va_P D vwCl wc H → va_D A wc → va_S A s.heap H locs → ∀ ls : Array Slot, lv_has ls maxL lv → W p l e rm s m args below meth c H locs 0 0 Z (F0 m 0 ls [])) :
    Met l y ws rm (va_Pc av (cx_B tS tT cI cJ cZ cO D sz wc)) (Qc (va_A wc sz)) 0 0 (va_A wc sz) := by
  refine Met.ofW (cc := cc) (maxL := maxL) (ret := ret) hy hw ?_
  intro p e s m args below meth c s₁ B hml hv
  obtain ⟨rfl, hsz, hE, hP, hK, hD0⟩ := hv
  have hts := atoms_spec (ws := ws) B.pre
  have hown : s.vm.findClass y.cls = some m.cls := findClass_of_methodNamed B.named
  subst hsz
  have hl := lv_entry av (n := maxL) hlen
  rw [hlv] at hl
  rw [lg_entry_eq]
  exact body p e s m _ below meth c _ _ B.exec B.bytes B.returns B.notSynchronized hts hown hml hE hK (fun q h => Or.inr h) rfl _ _ hP (hD0.self (sz := s.heap.size)) va_S.rf _ hl
theorem cx_bool {x : Int32} (h : x = 0 ∨ x = 1) : narrow .boolean (.int x) = .int x ∧ fits .boolean (.int x) = true := by
  rcases h with h | h <;> subst h <;> decide
theorem cx_in {i : Int32} {n : Nat} (h : ¬ (i < 0 ∨ n ≤ i.toNatClampNeg)) : vp_in i n := h
theorem cx_ne {x k : Int32} {z : Int} (h : ¬ x = k) (hk : k.toInt = z) : x.toInt ≠ z := fun e => h (Int32.toInt_inj.mp (by rw [e, hk]))
theorem cx_sw4 (x : Int32) (h0 : ¬ x = (0 : Int32)) (h1 : ¬ x = (1 : Int32)) (h2 : ¬ x = (2 : Int32)) (h3 : ¬ x = (3 : Int32)) : x.toInt < 0 ∨ 3 < x.toInt := by
  have a0 := cx_ne (z := 0) h0 (by decide)
  have a1 := cx_ne (z := 1) h1 (by decide)
  have a2 := cx_ne (z := 2) h2 (by decide)
  have a3 := cx_ne (z := 3) h3 (by decide)
  omega
theorem cx_sw6 (x : Int32) (h0 : ¬ x = (0 : Int32)) (h1 : ¬ x = (1 : Int32)) (h2 : ¬ x = (2 : Int32)) (h3 : ¬ x = (3 : Int32)) (h4 : ¬ x = (4 : Int32)) (h5 : ¬ x = (5 : Int32)) : x.toInt < 0 ∨ 5 < x.toInt := by
  have a0 := cx_ne (z := 0) h0 (by decide)
  have a1 := cx_ne (z := 1) h1 (by decide)
  have a2 := cx_ne (z := 2) h2 (by decide)
  have a3 := cx_ne (z := 3) h3 (by decide)
  have a4 := cx_ne (z := 4) h4 (by decide)
  have a5 := cx_ne (z := 5) h5 (by decide)
  omega
