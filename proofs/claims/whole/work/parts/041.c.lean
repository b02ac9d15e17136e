set_option maxRecDepth 100000 in
set_option maxHeartbeats 4000000 in
theorem c_J7_fill_53178 (l : Launch) (D : va_G) (cI cJ cZ cO : ClassId) (tS tT : Nat) (sz : Nat) (aA : Nat) (nA : Nat) (arr : Nat → Int32) (p2 : Int32) (Q : (Nat → Int32) → Prop) (hw : wp_J7_fill_53178 nA arr p2 Q) : Met l yJ7_fill_53178 wsJ7_fill_53178 rm_J7_fill_53178 (va_Pc [.ref aA, .int p2] (cx_B tS tT cI cJ cZ cO D sz (w_J7_fill_53178 cI cJ cZ cO aA nA arr))) (va_Qv (fun (u : (Nat → Int32)) => Q u) (fun (u : (Nat → Int32)) t => va_P D vwCl (w_J7_fill_53178 cI cJ cZ cO aA nA u) t.heap) (va_A (w_J7_fill_53178 cI cJ cZ cO aA nA arr) sz)) 0 0 (va_A (w_J7_fill_53178 cI cJ cZ cO aA nA arr) sz) := by
  refine cx_met (cc := cJ7_fill_53178) (maxL := 4) (ret := none) (Qc := fun A => va_Qv (fun (u : (Nat → Int32)) => Q u) (fun (u : (Nat → Int32)) t => va_P D vwCl (w_J7_fill_53178 cI cJ cZ cO aA nA u) t.heap) A) (lv := [(0, .ref aA), (1, .int p2)]) (by decide) rfl (Nat.le_of_ble_eq_true rfl) rfl ?_
  intro p e s m args below meth c A Z hx hb hr hlocks hts hown hml hE hK hA hZ
  have hown : s.vm.findClass RJ7 = some m.cls := hown
  have b_5 : ∀ n_5 : Nat, ∀ (arr : Nat → Int32) (x1 : Int32) (x2 : Int32) (x3 : Int32), wq_J7_fill_53178_5 nA Q n_5 arr x1 x2 x3 → ∀ (H : Heap) (locs : List Loc), va_P D vwCl (w_J7_fill_53178 cI cJ cZ cO aA nA arr) H → va_D A (w_J7_fill_53178 cI cJ cZ cO aA nA arr) → va_S A s.heap H locs → ∀ ls : Array Slot, lv_has ls 4 [(0, .ref aA), (1, .int x1), (2, .int x2), (3, .int x3)] → W p l e rm_J7_fill_53178 s m args below meth c H locs 0 0 Z (F0 m 5 ls []) := by
    intro n_5
    induction n_5 with
    | zero => intro arr x1 x2 x3 hw; exact False.elim hw
    | succ n_5 ih_5 =>
      intro arr x1 x2 x3 hw H locs hP hD hS ls hl
      have hw : wf_J7_fill_53178_5 nA Q (wq_J7_fill_53178_5 nA Q n_5) arr x1 x2 x3 := hw
      unfold wf_J7_fill_53178_5 at hw
      refine lv_iload_n hx hb dJ7_fill_53178_5 rfl (lv_at hl 2 rfl) ?_
      refine lv_iload_n hx hb dJ7_fill_53178_6 rfl (lv_at hl 3 rfl) ?_
      refine lv_icmp_ge (tgt := 20) hx hb dJ7_fill_53178_7 (by decide) (fun c7 => ?_) (fun c7 => ?_)
      · have hw := hw.1 c7
        rw [hZ]
        exact cx_retv arr hx hb hr hlocks hw hP hS dJ7_fill_53178_20
      · have hw := hw.2 c7
        refine lv_aload_n hx hb dJ7_fill_53178_10 rfl (lv_at hl 0 rfl) ?_
        refine lv_iload_n hx hb dJ7_fill_53178_11 rfl (lv_at hl 2 rfl) ?_
        refine lv_iload_n hx hb dJ7_fill_53178_12 rfl (lv_at hl 1 rfl) ?_
        have h13 := hw.1
        have hw := hw.2
        refine va_iast hx hb hK hP hD hS 0 0 rfl rfl h13 dJ7_fill_53178_13 (fun H locs hP hD hS => ?_)
        have hP : va_P D vwCl (w_J7_fill_53178 cI cJ cZ cO aA nA (upd arr x2.toNatClampNeg x1)) H := hP
        have hD : va_D A (w_J7_fill_53178 cI cJ cZ cO aA nA (upd arr x2.toNatClampNeg x1)) := hD
        obtain ⟨arr_13, e13⟩ : ∃ y : Nat → Int32, y = upd arr x2.toNatClampNeg x1 := ⟨_, rfl⟩
        rw [← e13] at hP hD
        have hw := hw arr_13 e13
        obtain ⟨v14, e14⟩ : ∃ y : Int32, y = x2 + (1 : Int32) := ⟨_, rfl⟩
        have hw := hw v14 e14
        refine lv_iinc (v := v14) (lv' := [(2, .int v14), (0, .ref aA), (1, .int x1), (3, .int x3)]) hx hb dJ7_fill_53178_14 hl (k := 2) rfl (by rw [e14, kI_1]) (by decide) rfl (fun ls hl => ?_)
        refine lv_goto (tgt := 5) hx hb dJ7_fill_53178_17 (by decide) ?_
        exact ih_5 arr_13 x1 v14 x3 hw H locs hP hD hS ls (lv_sub hl [1, 2, 0, 3] rfl)
  intro H locs hP hD hS ls hl
  unfold wp_J7_fill_53178 at hw
  refine lv_iconst (v := (0 : Int32)) hx hb dJ7_fill_53178_0 kI_0 ?_
  refine lv_istore_n (lv' := [(2, .int (0 : Int32)), (0, .ref aA), (1, .int p2)]) hx hb dJ7_fill_53178_1 rfl hl (by decide) rfl (fun ls hl => ?_)
  refine lv_aload_n hx hb dJ7_fill_53178_2 rfl (lv_at hl 1 rfl) ?_
  refine va_alen (v := nI nA) hx hb hK hP 0 0 rfl rfl rfl dJ7_fill_53178_3 ?_
  refine lv_topi (fun v4 e4 => ?_)
  have hw := hw v4 e4
  refine lv_istore_n (lv' := [(3, .int v4), (2, .int (0 : Int32)), (0, .ref aA), (1, .int p2)]) hx hb dJ7_fill_53178_4 rfl hl (by decide) rfl (fun ls hl => ?_)
  obtain ⟨k, hw⟩ := hw
  exact b_5 k arr p2 (0 : Int32) v4 hw H locs hP hD hS ls (lv_sub hl [2, 3, 1, 0] rfl)
set_option maxRecDepth 100000 in
set_option maxHeartbeats 4000000 in
theorem c_J7_fill_d0a16 (l : Launch) (D : va_G) (cI cJ cZ cO : ClassId) (tS tT : Nat) (sz : Nat) (aA : Nat) (nA : Nat) (arr : Nat → Int64) (p2 : Int64) (Q : (Nat → Int64) → Prop) (hw : wp_J7_fill_d0a16 nA arr p2 Q) : Met l yJ7_fill_d0a16 wsJ7_fill_d0a16 rm_J7_fill_d0a16 (va_Pc [.ref aA, .long p2] (cx_B tS tT cI cJ cZ cO D sz (w_J7_fill_d0a16 cI cJ cZ cO aA nA arr))) (va_Qv (fun (u : (Nat → Int64)) => Q u) (fun (u : (Nat → Int64)) t => va_P D vwCl (w_J7_fill_d0a16 cI cJ cZ cO aA nA u) t.heap) (va_A (w_J7_fill_d0a16 cI cJ cZ cO aA nA arr) sz)) 0 0 (va_A (w_J7_fill_d0a16 cI cJ cZ cO aA nA arr) sz) := by
  refine cx_met (cc := cJ7_fill_d0a16) (maxL := 5) (ret := none) (Qc := fun A => va_Qv (fun (u : (Nat → Int64)) => Q u) (fun (u : (Nat → Int64)) t => va_P D vwCl (w_J7_fill_d0a16 cI cJ cZ cO aA nA u) t.heap) A) (lv := [(0, .ref aA), (1, .long p2)]) (by decide) rfl (Nat.le_of_ble_eq_true rfl) rfl ?_
  intro p e s m args below meth c A Z hx hb hr hlocks hts hown hml hE hK hA hZ
  have hown : s.vm.findClass RJ7 = some m.cls := hown
  have b_6 : ∀ n_6 : Nat, ∀ (arr : Nat → Int64) (x1 : Int64) (x3 : Int32) (x4 : Int32), wq_J7_fill_d0a16_6 nA Q n_6 arr x1 x3 x4 → ∀ (H : Heap) (locs : List Loc), va_P D vwCl (w_J7_fill_d0a16 cI cJ cZ cO aA nA arr) H → va_D A (w_J7_fill_d0a16 cI cJ cZ cO aA nA arr) → va_S A s.heap H locs → ∀ ls : Array Slot, lv_has ls 5 [(0, .ref aA), (1, .long x1), (3, .int x3), (4, .int x4)] → W p l e rm_J7_fill_d0a16 s m args below meth c H locs 0 0 Z (F0 m 6 ls []) := by
    intro n_6
    induction n_6 with
    | zero => intro arr x1 x3 x4 hw; exact False.elim hw
    | succ n_6 ih_6 =>
      intro arr x1 x3 x4 hw H locs hP hD hS ls hl
      have hw : wf_J7_fill_d0a16_6 nA Q (wq_J7_fill_d0a16_6 nA Q n_6) arr x1 x3 x4 := hw
      unfold wf_J7_fill_d0a16_6 at hw
      refine lv_iload_n hx hb dJ7_fill_d0a16_6 rfl (lv_at hl 2 rfl) ?_
      refine lv_iload hx hb dJ7_fill_d0a16_7 (lv_at hl 3 rfl) ?_
      refine lv_icmp_ge (tgt := 22) hx hb dJ7_fill_d0a16_9 (by decide) (fun c9 => ?_) (fun c9 => ?_)
      · have hw := hw.1 c9
        rw [hZ]
        exact cx_retv arr hx hb hr hlocks hw hP hS dJ7_fill_d0a16_22
      · have hw := hw.2 c9
        refine lv_aload_n hx hb dJ7_fill_d0a16_12 rfl (lv_at hl 0 rfl) ?_
        refine lv_iload_n hx hb dJ7_fill_d0a16_13 rfl (lv_at hl 2 rfl) ?_
        refine lv_lload_n hx hb dJ7_fill_d0a16_14 rfl (lv_at hl 1 rfl) ?_
        have h15 := hw.1
        have hw := hw.2
        refine va_last hx hb hK hP hD hS 0 1 rfl rfl h15 dJ7_fill_d0a16_15 (fun H locs hP hD hS => ?_)
        have hP : va_P D vwCl (w_J7_fill_d0a16 cI cJ cZ cO aA nA (vp_updL arr x3.toNatClampNeg x1)) H := hP
        have hD : va_D A (w_J7_fill_d0a16 cI cJ cZ cO aA nA (vp_updL arr x3.toNatClampNeg x1)) := hD
        obtain ⟨arr_15, e15⟩ : ∃ y : Nat → Int64, y = vp_updL arr x3.toNatClampNeg x1 := ⟨_, rfl⟩
        rw [← e15] at hP hD
        have hw := hw arr_15 e15
        obtain ⟨v16, e16⟩ : ∃ y : Int32, y = x3 + (1 : Int32) := ⟨_, rfl⟩
        have hw := hw v16 e16
        refine lv_iinc (v := v16) (lv' := [(3, .int v16), (0, .ref aA), (1, .long x1), (4, .int x4)]) hx hb dJ7_fill_d0a16_16 hl (k := 2) rfl (by rw [e16, kI_1]) (by decide) rfl (fun ls hl => ?_)
        refine lv_goto (tgt := 6) hx hb dJ7_fill_d0a16_19 (by decide) ?_
        exact ih_6 arr_15 x1 v16 x4 hw H locs hP hD hS ls (lv_sub hl [1, 2, 0, 3] rfl)
  intro H locs hP hD hS ls hl
  unfold wp_J7_fill_d0a16 at hw
  refine lv_iconst (v := (0 : Int32)) hx hb dJ7_fill_d0a16_0 kI_0 ?_
  refine lv_istore_n (lv' := [(3, .int (0 : Int32)), (0, .ref aA), (1, .long p2)]) hx hb dJ7_fill_d0a16_1 rfl hl (by decide) rfl (fun ls hl => ?_)
  refine lv_aload_n hx hb dJ7_fill_d0a16_2 rfl (lv_at hl 1 rfl) ?_
  refine va_alen (v := nI nA) hx hb hK hP 0 1 rfl rfl rfl dJ7_fill_d0a16_3 ?_
  refine lv_topi (fun v4 e4 => ?_)
  have hw := hw v4 e4
  refine lv_istore (lv' := [(4, .int v4), (3, .int (0 : Int32)), (0, .ref aA), (1, .long p2)]) hx hb dJ7_fill_d0a16_4 hl (by decide) rfl (fun ls hl => ?_)
  obtain ⟨k, hw⟩ := hw
  exact b_6 k arr p2 (0 : Int32) v4 hw H locs hP hD hS ls (lv_sub hl [2, 3, 1, 0] rfl)
set_option maxRecDepth 100000 in
set_option maxHeartbeats 4000000 in
theorem c_X1_empty (l : Launch) (D : va_G) (cI cJ cZ cO : ClassId) (tS tT : Nat) (sz : Nat) (aK aK_strengths aK_kinds aK_marks aK_faces aK_bars aK_showing aK_showingRight aK_barring : Nat) (K_warm : Int32) (K_count : Int32) (K_seeds : Int64) (K_blocks : Int64) (K_rivals : Int64) (K_strengths : Nat → Int32) (K_faces : Nat → Int32) (K_bars : Nat → Int32) (K_showing : Nat → Int64) (K_showingRight : Nat → Int64) (K_barring : Nat → Int64) (Q : (Int32) → (Int32) → (Nat → Int32) → (Nat → Int32) → (Nat → Int32) → (Nat → Int64) → (Nat → Int64) → (Nat → Int64) → (Int64) → (Int64) → (Int64) → Prop) (hw : wp_X1_empty K_warm K_count K_strengths K_faces K_bars K_showing K_showingRight K_barring K_seeds K_blocks K_rivals Q) : Met l yX1_empty wsX1_empty rm_X1_empty (va_Pc [.ref aK] (cx_B tS tT cI cJ cZ cO D sz (w_X1_empty cI cJ cZ cO aK aK_strengths aK_kinds aK_marks aK_faces aK_bars aK_showing aK_showingRight aK_barring K_warm K_count K_seeds K_blocks K_rivals K_strengths K_faces K_bars K_showing K_showingRight K_barring))) (va_Qv (fun (u : (Int32) × (Int32) × (Nat → Int32) × (Nat → Int32) × (Nat → Int32) × (Nat → Int64) × (Nat → Int64) × (Nat → Int64) × (Int64) × (Int64) × (Int64)) => Q u.1 u.2.1 u.2.2.1 u.2.2.2.1 u.2.2.2.2.1 u.2.2.2.2.2.1 u.2.2.2.2.2.2.1 u.2.2.2.2.2.2.2.1 u.2.2.2.2.2.2.2.2.1 u.2.2.2.2.2.2.2.2.2.1 u.2.2.2.2.2.2.2.2.2.2) (fun (u : (Int32) × (Int32) × (Nat → Int32) × (Nat → Int32) × (Nat → Int32) × (Nat → Int64) × (Nat → Int64) × (Nat → Int64) × (Int64) × (Int64) × (Int64)) t => va_P D vwCl (w_X1_empty cI cJ cZ cO aK aK_strengths aK_kinds aK_marks aK_faces aK_bars aK_showing aK_showingRight aK_barring u.1 u.2.1 u.2.2.2.2.2.2.2.2.1 u.2.2.2.2.2.2.2.2.2.1 u.2.2.2.2.2.2.2.2.2.2 u.2.2.1 u.2.2.2.1 u.2.2.2.2.1 u.2.2.2.2.2.1 u.2.2.2.2.2.2.1 u.2.2.2.2.2.2.2.1) t.heap) (va_A (w_X1_empty cI cJ cZ cO aK aK_strengths aK_kinds aK_marks aK_faces aK_bars aK_showing aK_showingRight aK_barring K_warm K_count K_seeds K_blocks K_rivals K_strengths K_faces K_bars K_showing K_showingRight K_barring) sz)) 0 0 (va_A (w_X1_empty cI cJ cZ cO aK aK_strengths aK_kinds aK_marks aK_faces aK_bars aK_showing aK_showingRight aK_barring K_warm K_count K_seeds K_blocks K_rivals K_strengths K_faces K_bars K_showing K_showingRight K_barring) sz) := by
  refine cx_met (cc := cX1_empty) (maxL := 1) (ret := none) (Qc := fun A => va_Qv (fun (u : (Int32) × (Int32) × (Nat → Int32) × (Nat → Int32) × (Nat → Int32) × (Nat → Int64) × (Nat → Int64) × (Nat → Int64) × (Int64) × (Int64) × (Int64)) => Q u.1 u.2.1 u.2.2.1 u.2.2.2.1 u.2.2.2.2.1 u.2.2.2.2.2.1 u.2.2.2.2.2.2.1 u.2.2.2.2.2.2.2.1 u.2.2.2.2.2.2.2.2.1 u.2.2.2.2.2.2.2.2.2.1 u.2.2.2.2.2.2.2.2.2.2) (fun (u : (Int32) × (Int32) × (Nat → Int32) × (Nat → Int32) × (Nat → Int32) × (Nat → Int64) × (Nat → Int64) × (Nat → Int64) × (Int64) × (Int64) × (Int64)) t => va_P D vwCl (w_X1_empty cI cJ cZ cO aK aK_strengths aK_kinds aK_marks aK_faces aK_bars aK_showing aK_showingRight aK_barring u.1 u.2.1 u.2.2.2.2.2.2.2.2.1 u.2.2.2.2.2.2.2.2.2.1 u.2.2.2.2.2.2.2.2.2.2 u.2.2.1 u.2.2.2.1 u.2.2.2.2.1 u.2.2.2.2.2.1 u.2.2.2.2.2.2.1 u.2.2.2.2.2.2.2.1) t.heap) A) (lv := [(0, .ref aK)]) (by decide) rfl (Nat.le_of_ble_eq_true rfl) rfl ?_
  intro p e s m args below meth c A Z hx hb hr hlocks hts hown hml hE hK hA hZ
  have hown : s.vm.findClass RX1 = some m.cls := hown
  have k_0 := hts (.fieldLink RX1 9 "GrowingTiles$Kit" "warm" "I") (List.mem_of_getElem? (i := 1) (by decide +kernel))
  have k_1 := hts (.fieldLink RX1 15 "GrowingTiles$Kit" "count" "I") (List.mem_of_getElem? (i := 2) (by decide +kernel))
  have k_2 := hts (.fieldLink RX1 18 "GrowingTiles$Kit" "strengths" "[I") (List.mem_of_getElem? (i := 3) (by decide +kernel))
  have k_3 := hts (.fieldLink RX1 28 "GrowingTiles$Kit" "faces" "[I") (List.mem_of_getElem? (i := 4) (by decide +kernel))
  have k_4 := hts (.fieldLink RX1 31 "GrowingTiles$Kit" "bars" "[I") (List.mem_of_getElem? (i := 5) (by decide +kernel))
  have k_5 := hts (.fieldLink RX1 34 "GrowingTiles$Kit" "showing" "[J") (List.mem_of_getElem? (i := 6) (by decide +kernel))
  have k_6 := hts (.fieldLink RX1 38 "GrowingTiles$Kit" "showingRight" "[J") (List.mem_of_getElem? (i := 7) (by decide +kernel))
  have k_7 := hts (.fieldLink RX1 41 "GrowingTiles$Kit" "barring" "[J") (List.mem_of_getElem? (i := 8) (by decide +kernel))
  have k_8 := hts (.fieldLink RX1 44 "GrowingTiles$Kit" "seeds" "J") (List.mem_of_getElem? (i := 9) (by decide +kernel))
  have k_9 := hts (.fieldLink RX1 48 "GrowingTiles$Kit" "blocks" "J") (List.mem_of_getElem? (i := 10) (by decide +kernel))
  have k_10 := hts (.fieldLink RX1 51 "GrowingTiles$Kit" "rivals" "J") (List.mem_of_getElem? (i := 11) (by decide +kernel))
  intro H locs hP hD hS ls hl
  unfold wp_X1_empty at hw
  refine lv_aload_n hx hb dX1_empty_0 rfl (lv_at hl 0 rfl) ?_
  refine lv_iconst (v := (2 : Int32)) hx hb dX1_empty_1 kI_2 ?_
  refine va_put (D := D) (ci := 1) (v := .int (2 : Int32)) (ty := .int) (C := RX1) (T := TX1) (N := 13) hx hb hts in_X1_empty_X1 tyX1 tyX1_ok nmX1 hown hK hP hD hS 0 rfl rfl 0 (by decide) k_0 (fun _ h9 => h9) rfl (tyX1_ok 0 (by decide)) rfl rfl (Nat.le_of_ble_eq_true rfl) dX1_empty_2 (fun H locs hP hD hS => ?_)
  have hP : va_P D vwCl (w_X1_empty cI cJ cZ cO aK aK_strengths aK_kinds aK_marks aK_faces aK_bars aK_showing aK_showingRight aK_barring (2 : Int32) K_count K_seeds K_blocks K_rivals K_strengths K_faces K_bars K_showing K_showingRight K_barring) H := hP
  have hD : va_D A (w_X1_empty cI cJ cZ cO aK aK_strengths aK_kinds aK_marks aK_faces aK_bars aK_showing aK_showingRight aK_barring (2 : Int32) K_count K_seeds K_blocks K_rivals K_strengths K_faces K_bars K_showing K_showingRight K_barring) := hD
  refine lv_aload_n hx hb dX1_empty_5 rfl (lv_at hl 0 rfl) ?_
  refine lv_iconst (v := (0 : Int32)) hx hb dX1_empty_6 kI_0 ?_
  refine va_put (D := D) (ci := 1) (v := .int (0 : Int32)) (ty := .int) (C := RX1) (T := TX1) (N := 13) hx hb hts in_X1_empty_X1 tyX1 tyX1_ok nmX1 hown hK hP hD hS 0 rfl rfl 1 (by decide) k_1 (fun _ h9 => h9) rfl (tyX1_ok 1 (by decide)) rfl rfl (Nat.le_of_ble_eq_true rfl) dX1_empty_7 (fun H locs hP hD hS => ?_)
  have hP : va_P D vwCl (w_X1_empty cI cJ cZ cO aK aK_strengths aK_kinds aK_marks aK_faces aK_bars aK_showing aK_showingRight aK_barring (2 : Int32) (0 : Int32) K_seeds K_blocks K_rivals K_strengths K_faces K_bars K_showing K_showingRight K_barring) H := hP
  have hD : va_D A (w_X1_empty cI cJ cZ cO aK aK_strengths aK_kinds aK_marks aK_faces aK_bars aK_showing aK_showingRight aK_barring (2 : Int32) (0 : Int32) K_seeds K_blocks K_rivals K_strengths K_faces K_bars K_showing K_showingRight K_barring) := hD
  refine lv_aload_n hx hb dX1_empty_10 rfl (lv_at hl 0 rfl) ?_
  refine va_get (D := D) (ci := 1) (v := .ref aK_strengths) (C := RX1) (T := TX1) (N := 13) hx hb hts in_X1_empty_X1 hown hK hP 0 rfl rfl 2 (by decide) k_2 (fun _ h9 => h9) rfl dX1_empty_11 ?_
  refine lv_iconst (v := (0 : Int32)) hx hb dX1_empty_14 kI_0 ?_
  refine cx_gov (va_runS (As := [.ref aK_strengths, .int (0 : Int32)]) (rest := []) ⟨hx, hb, hml, hown, hts⟩ (c_J7_fill_53178 l D cI cJ cZ cO tS tT H.size aK_strengths 51 K_strengths (0 : Int32) _ hw) (va_cwS 2 hts gX1_empty_J7_fill_53178 rfl rfl rfl ps_J7_fill_53178 ⟨Nat.le_of_ble_eq_true rfl, Nat.le_of_ble_eq_true rfl⟩) (cx_preS (wc := w_J7_fill_53178 cI cJ cZ cO aK_strengths 51 K_strengths) hE hK hP hD hS hA [1] rfl rfl) rfl rfl hl.1 rfl (lv_room (Nat.le_of_ble_eq_true rfl)) dX1_empty_15 ⟨Nat.le_of_ble_eq_true rfl, Nat.le_of_ble_eq_true rfl⟩) (fun (u : (Nat → Int32)) => (w_X1_empty cI cJ cZ cO aK aK_strengths aK_kinds aK_marks aK_faces aK_bars aK_showing aK_showingRight aK_barring (2 : Int32) (0 : Int32) K_seeds K_blocks K_rivals u K_faces K_bars K_showing K_showingRight K_barring)) [1] [0, 2, 3, 4, 5, 6] (ads := [aK_strengths]) (wr := [(aK, .inr (1, [.int (2 : Int32), .int (0 : Int32), .ref aK_strengths, .ref aK_kinds, .ref aK_marks, .ref aK_faces, .ref aK_bars, .ref aK_showing, .ref aK_showingRight, .ref aK_barring, .long K_seeds, .long K_blocks, .long K_rivals])), (aK_faces, .inl (cI, 512, .inl K_faces)), (aK_bars, .inl (cI, 128, .inl K_bars)), (aK_showing, .inl (cJ, 204, .inr (.inl K_showing))), (aK_showingRight, .inl (cJ, 204, .inr (.inl K_showingRight))), (aK_barring, .inl (cJ, 4, .inr (.inl K_barring)))]) rfl rfl (fun u => rfl) (fun u => rfl) rfl (fun u => rfl) rfl (fun u => rfl) rfl hP hD hS hA (fun K_strengths_15 H locs hw hP hD hS => ?_)
  try dsimp only at hw
  have hP : va_P D vwCl (w_X1_empty cI cJ cZ cO aK aK_strengths aK_kinds aK_marks aK_faces aK_bars aK_showing aK_showingRight aK_barring (2 : Int32) (0 : Int32) K_seeds K_blocks K_rivals K_strengths_15 K_faces K_bars K_showing K_showingRight K_barring) H := hP
  have hD : va_D A (w_X1_empty cI cJ cZ cO aK aK_strengths aK_kinds aK_marks aK_faces aK_bars aK_showing aK_showingRight aK_barring (2 : Int32) (0 : Int32) K_seeds K_blocks K_rivals K_strengths_15 K_faces K_bars K_showing K_showingRight K_barring) := hD
  refine lv_aload_n hx hb dX1_empty_18 rfl (lv_at hl 0 rfl) ?_
  refine va_get (D := D) (ci := 1) (v := .ref aK_faces) (C := RX1) (T := TX1) (N := 13) hx hb hts in_X1_empty_X1 hown hK hP 0 rfl rfl 5 (by decide) k_3 (fun _ h9 => h9) rfl dX1_empty_19 ?_
  refine lv_iconst (v := (0 : Int32)) hx hb dX1_empty_22 kI_0 ?_
  refine cx_gov (va_runS (As := [.ref aK_faces, .int (0 : Int32)]) (rest := []) ⟨hx, hb, hml, hown, hts⟩ (c_J7_fill_53178 l D cI cJ cZ cO tS tT H.size aK_faces 512 K_faces (0 : Int32) _ hw) (va_cwS 2 hts gX1_empty_J7_fill_53178 rfl rfl rfl ps_J7_fill_53178 ⟨Nat.le_of_ble_eq_true rfl, Nat.le_of_ble_eq_true rfl⟩) (cx_preS (wc := w_J7_fill_53178 cI cJ cZ cO aK_faces 512 K_faces) hE hK hP hD hS hA [2] rfl rfl) rfl rfl hl.1 rfl (lv_room (Nat.le_of_ble_eq_true rfl)) dX1_empty_23 ⟨Nat.le_of_ble_eq_true rfl, Nat.le_of_ble_eq_true rfl⟩) (fun (u : (Nat → Int32)) => (w_X1_empty cI cJ cZ cO aK aK_strengths aK_kinds aK_marks aK_faces aK_bars aK_showing aK_showingRight aK_barring (2 : Int32) (0 : Int32) K_seeds K_blocks K_rivals K_strengths_15 u K_bars K_showing K_showingRight K_barring)) [2] [0, 1, 3, 4, 5, 6] (ads := [aK_faces]) (wr := [(aK, .inr (1, [.int (2 : Int32), .int (0 : Int32), .ref aK_strengths, .ref aK_kinds, .ref aK_marks, .ref aK_faces, .ref aK_bars, .ref aK_showing, .ref aK_showingRight, .ref aK_barring, .long K_seeds, .long K_blocks, .long K_rivals])), (aK_strengths, .inl (cI, 51, .inl K_strengths_15)), (aK_bars, .inl (cI, 128, .inl K_bars)), (aK_showing, .inl (cJ, 204, .inr (.inl K_showing))), (aK_showingRight, .inl (cJ, 204, .inr (.inl K_showingRight))), (aK_barring, .inl (cJ, 4, .inr (.inl K_barring)))]) rfl rfl (fun u => rfl) (fun u => rfl) rfl (fun u => rfl) rfl (fun u => rfl) rfl hP hD hS hA (fun K_faces_23 H locs hw hP hD hS => ?_)
  try dsimp only at hw
  have hP : va_P D vwCl (w_X1_empty cI cJ cZ cO aK aK_strengths aK_kinds aK_marks aK_faces aK_bars aK_showing aK_showingRight aK_barring (2 : Int32) (0 : Int32) K_seeds K_blocks K_rivals K_strengths_15 K_faces_23 K_bars K_showing K_showingRight K_barring) H := hP
  have hD : va_D A (w_X1_empty cI cJ cZ cO aK aK_strengths aK_kinds aK_marks aK_faces aK_bars aK_showing aK_showingRight aK_barring (2 : Int32) (0 : Int32) K_seeds K_blocks K_rivals K_strengths_15 K_faces_23 K_bars K_showing K_showingRight K_barring) := hD
  refine lv_aload_n hx hb dX1_empty_26 rfl (lv_at hl 0 rfl) ?_
  refine va_get (D := D) (ci := 1) (v := .ref aK_bars) (C := RX1) (T := TX1) (N := 13) hx hb hts in_X1_empty_X1 hown hK hP 0 rfl rfl 6 (by decide) k_4 (fun _ h9 => h9) rfl dX1_empty_27 ?_
  refine lv_iconst (v := (0 : Int32)) hx hb dX1_empty_30 kI_0 ?_
  refine cx_gov (va_runS (As := [.ref aK_bars, .int (0 : Int32)]) (rest := []) ⟨hx, hb, hml, hown, hts⟩ (c_J7_fill_53178 l D cI cJ cZ cO tS tT H.size aK_bars 128 K_bars (0 : Int32) _ hw) (va_cwS 2 hts gX1_empty_J7_fill_53178 rfl rfl rfl ps_J7_fill_53178 ⟨Nat.le_of_ble_eq_true rfl, Nat.le_of_ble_eq_true rfl⟩) (cx_preS (wc := w_J7_fill_53178 cI cJ cZ cO aK_bars 128 K_bars) hE hK hP hD hS hA [3] rfl rfl) rfl rfl hl.1 rfl (lv_room (Nat.le_of_ble_eq_true rfl)) dX1_empty_31 ⟨Nat.le_of_ble_eq_true rfl, Nat.le_of_ble_eq_true rfl⟩) (fun (u : (Nat → Int32)) => (w_X1_empty cI cJ cZ cO aK aK_strengths aK_kinds aK_marks aK_faces aK_bars aK_showing aK_showingRight aK_barring (2 : Int32) (0 : Int32) K_seeds K_blocks K_rivals K_strengths_15 K_faces_23 u K_showing K_showingRight K_barring)) [3] [0, 1, 2, 4, 5, 6] (ads := [aK_bars]) (wr := [(aK, .inr (1, [.int (2 : Int32), .int (0 : Int32), .ref aK_strengths, .ref aK_kinds, .ref aK_marks, .ref aK_faces, .ref aK_bars, .ref aK_showing, .ref aK_showingRight, .ref aK_barring, .long K_seeds, .long K_blocks, .long K_rivals])), (aK_strengths, .inl (cI, 51, .inl K_strengths_15)), (aK_faces, .inl (cI, 512, .inl K_faces_23)), (aK_showing, .inl (cJ, 204, .inr (.inl K_showing))), (aK_showingRight, .inl (cJ, 204, .inr (.inl K_showingRight))), (aK_barring, .inl (cJ, 4, .inr (.inl K_barring)))]) rfl rfl (fun u => rfl) (fun u => rfl) rfl (fun u => rfl) rfl (fun u => rfl) rfl hP hD hS hA (fun K_bars_31 H locs hw hP hD hS => ?_)
  try dsimp only at hw
  have hP : va_P D vwCl (w_X1_empty cI cJ cZ cO aK aK_strengths aK_kinds aK_marks aK_faces aK_bars aK_showing aK_showingRight aK_barring (2 : Int32) (0 : Int32) K_seeds K_blocks K_rivals K_strengths_15 K_faces_23 K_bars_31 K_showing K_showingRight K_barring) H := hP
  have hD : va_D A (w_X1_empty cI cJ cZ cO aK aK_strengths aK_kinds aK_marks aK_faces aK_bars aK_showing aK_showingRight aK_barring (2 : Int32) (0 : Int32) K_seeds K_blocks K_rivals K_strengths_15 K_faces_23 K_bars_31 K_showing K_showingRight K_barring) := hD
  refine lv_aload_n hx hb dX1_empty_34 rfl (lv_at hl 0 rfl) ?_
  refine va_get (D := D) (ci := 1) (v := .ref aK_showing) (C := RX1) (T := TX1) (N := 13) hx hb hts in_X1_empty_X1 hown hK hP 0 rfl rfl 7 (by decide) k_5 (fun _ h9 => h9) rfl dX1_empty_35 ?_
  refine lv_lconst (v := (0 : Int64)) hx hb dX1_empty_38 kL_0 ?_
  refine cx_gov (va_runS (As := [.ref aK_showing, .long (0 : Int64)]) (rest := []) ⟨hx, hb, hml, hown, hts⟩ (c_J7_fill_d0a16 l D cI cJ cZ cO tS tT H.size aK_showing 204 K_showing (0 : Int64) _ hw) (va_cwS 2 hts gX1_empty_J7_fill_d0a16 rfl rfl rfl ps_J7_fill_d0a16 ⟨Nat.le_of_ble_eq_true rfl, Nat.le_of_ble_eq_true rfl⟩) (cx_preS (wc := w_J7_fill_d0a16 cI cJ cZ cO aK_showing 204 K_showing) hE hK hP hD hS hA [4] rfl rfl) rfl rfl hl.1 rfl (lv_room (Nat.le_of_ble_eq_true rfl)) dX1_empty_39 ⟨Nat.le_of_ble_eq_true rfl, Nat.le_of_ble_eq_true rfl⟩) (fun (u : (Nat → Int64)) => (w_X1_empty cI cJ cZ cO aK aK_strengths aK_kinds aK_marks aK_faces aK_bars aK_showing aK_showingRight aK_barring (2 : Int32) (0 : Int32) K_seeds K_blocks K_rivals K_strengths_15 K_faces_23 K_bars_31 u K_showingRight K_barring)) [4] [0, 1, 2, 3, 5, 6] (ads := [aK_showing]) (wr := [(aK, .inr (1, [.int (2 : Int32), .int (0 : Int32), .ref aK_strengths, .ref aK_kinds, .ref aK_marks, .ref aK_faces, .ref aK_bars, .ref aK_showing, .ref aK_showingRight, .ref aK_barring, .long K_seeds, .long K_blocks, .long K_rivals])), (aK_strengths, .inl (cI, 51, .inl K_strengths_15)), (aK_faces, .inl (cI, 512, .inl K_faces_23)), (aK_bars, .inl (cI, 128, .inl K_bars_31)), (aK_showingRight, .inl (cJ, 204, .inr (.inl K_showingRight))), (aK_barring, .inl (cJ, 4, .inr (.inl K_barring)))]) rfl rfl (fun u => rfl) (fun u => rfl) rfl (fun u => rfl) rfl (fun u => rfl) rfl hP hD hS hA (fun K_showing_39 H locs hw hP hD hS => ?_)
  try dsimp only at hw
  have hP : va_P D vwCl (w_X1_empty cI cJ cZ cO aK aK_strengths aK_kinds aK_marks aK_faces aK_bars aK_showing aK_showingRight aK_barring (2 : Int32) (0 : Int32) K_seeds K_blocks K_rivals K_strengths_15 K_faces_23 K_bars_31 K_showing_39 K_showingRight K_barring) H := hP
  have hD : va_D A (w_X1_empty cI cJ cZ cO aK aK_strengths aK_kinds aK_marks aK_faces aK_bars aK_showing aK_showingRight aK_barring (2 : Int32) (0 : Int32) K_seeds K_blocks K_rivals K_strengths_15 K_faces_23 K_bars_31 K_showing_39 K_showingRight K_barring) := hD
  refine lv_aload_n hx hb dX1_empty_42 rfl (lv_at hl 0 rfl) ?_
  refine va_get (D := D) (ci := 1) (v := .ref aK_showingRight) (C := RX1) (T := TX1) (N := 13) hx hb hts in_X1_empty_X1 hown hK hP 0 rfl rfl 8 (by decide) k_6 (fun _ h9 => h9) rfl dX1_empty_43 ?_
  refine lv_lconst (v := (0 : Int64)) hx hb dX1_empty_46 kL_0 ?_
  refine cx_gov (va_runS (As := [.ref aK_showingRight, .long (0 : Int64)]) (rest := []) ⟨hx, hb, hml, hown, hts⟩ (c_J7_fill_d0a16 l D cI cJ cZ cO tS tT H.size aK_showingRight 204 K_showingRight (0 : Int64) _ hw) (va_cwS 2 hts gX1_empty_J7_fill_d0a16 rfl rfl rfl ps_J7_fill_d0a16 ⟨Nat.le_of_ble_eq_true rfl, Nat.le_of_ble_eq_true rfl⟩) (cx_preS (wc := w_J7_fill_d0a16 cI cJ cZ cO aK_showingRight 204 K_showingRight) hE hK hP hD hS hA [5] rfl rfl) rfl rfl hl.1 rfl (lv_room (Nat.le_of_ble_eq_true rfl)) dX1_empty_47 ⟨Nat.le_of_ble_eq_true rfl, Nat.le_of_ble_eq_true rfl⟩) (fun (u : (Nat → Int64)) => (w_X1_empty cI cJ cZ cO aK aK_strengths aK_kinds aK_marks aK_faces aK_bars aK_showing aK_showingRight aK_barring (2 : Int32) (0 : Int32) K_seeds K_blocks K_rivals K_strengths_15 K_faces_23 K_bars_31 K_showing_39 u K_barring)) [5] [0, 1, 2, 3, 4, 6] (ads := [aK_showingRight]) (wr := [(aK, .inr (1, [.int (2 : Int32), .int (0 : Int32), .ref aK_strengths, .ref aK_kinds, .ref aK_marks, .ref aK_faces, .ref aK_bars, .ref aK_showing, .ref aK_showingRight, .ref aK_barring, .long K_seeds, .long K_blocks, .long K_rivals])), (aK_strengths, .inl (cI, 51, .inl K_strengths_15)), (aK_faces, .inl (cI, 512, .inl K_faces_23)), (aK_bars, .inl (cI, 128, .inl K_bars_31)), (aK_showing, .inl (cJ, 204, .inr (.inl K_showing_39))), (aK_barring, .inl (cJ, 4, .inr (.inl K_barring)))]) rfl rfl (fun u => rfl) (fun u => rfl) rfl (fun u => rfl) rfl (fun u => rfl) rfl hP hD hS hA (fun K_showingRight_47 H locs hw hP hD hS => ?_)
  try dsimp only at hw
  have hP : va_P D vwCl (w_X1_empty cI cJ cZ cO aK aK_strengths aK_kinds aK_marks aK_faces aK_bars aK_showing aK_showingRight aK_barring (2 : Int32) (0 : Int32) K_seeds K_blocks K_rivals K_strengths_15 K_faces_23 K_bars_31 K_showing_39 K_showingRight_47 K_barring) H := hP
  have hD : va_D A (w_X1_empty cI cJ cZ cO aK aK_strengths aK_kinds aK_marks aK_faces aK_bars aK_showing aK_showingRight aK_barring (2 : Int32) (0 : Int32) K_seeds K_blocks K_rivals K_strengths_15 K_faces_23 K_bars_31 K_showing_39 K_showingRight_47 K_barring) := hD
  refine lv_aload_n hx hb dX1_empty_50 rfl (lv_at hl 0 rfl) ?_
  refine va_get (D := D) (ci := 1) (v := .ref aK_barring) (C := RX1) (T := TX1) (N := 13) hx hb hts in_X1_empty_X1 hown hK hP 0 rfl rfl 9 (by decide) k_7 (fun _ h9 => h9) rfl dX1_empty_51 ?_
  refine lv_lconst (v := (0 : Int64)) hx hb dX1_empty_54 kL_0 ?_
  refine cx_gov (va_runS (As := [.ref aK_barring, .long (0 : Int64)]) (rest := []) ⟨hx, hb, hml, hown, hts⟩ (c_J7_fill_d0a16 l D cI cJ cZ cO tS tT H.size aK_barring 4 K_barring (0 : Int64) _ hw) (va_cwS 2 hts gX1_empty_J7_fill_d0a16 rfl rfl rfl ps_J7_fill_d0a16 ⟨Nat.le_of_ble_eq_true rfl, Nat.le_of_ble_eq_true rfl⟩) (cx_preS (wc := w_J7_fill_d0a16 cI cJ cZ cO aK_barring 4 K_barring) hE hK hP hD hS hA [6] rfl rfl) rfl rfl hl.1 rfl (lv_room (Nat.le_of_ble_eq_true rfl)) dX1_empty_55 ⟨Nat.le_of_ble_eq_true rfl, Nat.le_of_ble_eq_true rfl⟩) (fun (u : (Nat → Int64)) => (w_X1_empty cI cJ cZ cO aK aK_strengths aK_kinds aK_marks aK_faces aK_bars aK_showing aK_showingRight aK_barring (2 : Int32) (0 : Int32) K_seeds K_blocks K_rivals K_strengths_15 K_faces_23 K_bars_31 K_showing_39 K_showingRight_47 u)) [6] [0, 1, 2, 3, 4, 5] (ads := [aK_barring]) (wr := [(aK, .inr (1, [.int (2 : Int32), .int (0 : Int32), .ref aK_strengths, .ref aK_kinds, .ref aK_marks, .ref aK_faces, .ref aK_bars, .ref aK_showing, .ref aK_showingRight, .ref aK_barring, .long K_seeds, .long K_blocks, .long K_rivals])), (aK_strengths, .inl (cI, 51, .inl K_strengths_15)), (aK_faces, .inl (cI, 512, .inl K_faces_23)), (aK_bars, .inl (cI, 128, .inl K_bars_31)), (aK_showing, .inl (cJ, 204, .inr (.inl K_showing_39))), (aK_showingRight, .inl (cJ, 204, .inr (.inl K_showingRight_47)))]) rfl rfl (fun u => rfl) (fun u => rfl) rfl (fun u => rfl) rfl (fun u => rfl) rfl hP hD hS hA (fun K_barring_55 H locs hw hP hD hS => ?_)
  try dsimp only at hw
  have hP : va_P D vwCl (w_X1_empty cI cJ cZ cO aK aK_strengths aK_kinds aK_marks aK_faces aK_bars aK_showing aK_showingRight aK_barring (2 : Int32) (0 : Int32) K_seeds K_blocks K_rivals K_strengths_15 K_faces_23 K_bars_31 K_showing_39 K_showingRight_47 K_barring_55) H := hP
  have hD : va_D A (w_X1_empty cI cJ cZ cO aK aK_strengths aK_kinds aK_marks aK_faces aK_bars aK_showing aK_showingRight aK_barring (2 : Int32) (0 : Int32) K_seeds K_blocks K_rivals K_strengths_15 K_faces_23 K_bars_31 K_showing_39 K_showingRight_47 K_barring_55) := hD
  refine lv_aload_n hx hb dX1_empty_58 rfl (lv_at hl 0 rfl) ?_
  refine lv_lconst (v := (0 : Int64)) hx hb dX1_empty_59 kL_0 ?_
  refine va_put (D := D) (ci := 1) (v := .long (0 : Int64)) (ty := .long) (C := RX1) (T := TX1) (N := 13) hx hb hts in_X1_empty_X1 tyX1 tyX1_ok nmX1 hown hK hP hD hS 0 rfl rfl 10 (by decide) k_8 (fun _ h9 => h9) rfl (tyX1_ok 10 (by decide)) rfl rfl (Nat.le_of_ble_eq_true rfl) dX1_empty_60 (fun H locs hP hD hS => ?_)
  have hP : va_P D vwCl (w_X1_empty cI cJ cZ cO aK aK_strengths aK_kinds aK_marks aK_faces aK_bars aK_showing aK_showingRight aK_barring (2 : Int32) (0 : Int32) (0 : Int64) K_blocks K_rivals K_strengths_15 K_faces_23 K_bars_31 K_showing_39 K_showingRight_47 K_barring_55) H := hP
  have hD : va_D A (w_X1_empty cI cJ cZ cO aK aK_strengths aK_kinds aK_marks aK_faces aK_bars aK_showing aK_showingRight aK_barring (2 : Int32) (0 : Int32) (0 : Int64) K_blocks K_rivals K_strengths_15 K_faces_23 K_bars_31 K_showing_39 K_showingRight_47 K_barring_55) := hD
  refine lv_aload_n hx hb dX1_empty_63 rfl (lv_at hl 0 rfl) ?_
  refine lv_lconst (v := (0 : Int64)) hx hb dX1_empty_64 kL_0 ?_
  refine va_put (D := D) (ci := 1) (v := .long (0 : Int64)) (ty := .long) (C := RX1) (T := TX1) (N := 13) hx hb hts in_X1_empty_X1 tyX1 tyX1_ok nmX1 hown hK hP hD hS 0 rfl rfl 11 (by decide) k_9 (fun _ h9 => h9) rfl (tyX1_ok 11 (by decide)) rfl rfl (Nat.le_of_ble_eq_true rfl) dX1_empty_65 (fun H locs hP hD hS => ?_)
  have hP : va_P D vwCl (w_X1_empty cI cJ cZ cO aK aK_strengths aK_kinds aK_marks aK_faces aK_bars aK_showing aK_showingRight aK_barring (2 : Int32) (0 : Int32) (0 : Int64) (0 : Int64) K_rivals K_strengths_15 K_faces_23 K_bars_31 K_showing_39 K_showingRight_47 K_barring_55) H := hP
  have hD : va_D A (w_X1_empty cI cJ cZ cO aK aK_strengths aK_kinds aK_marks aK_faces aK_bars aK_showing aK_showingRight aK_barring (2 : Int32) (0 : Int32) (0 : Int64) (0 : Int64) K_rivals K_strengths_15 K_faces_23 K_bars_31 K_showing_39 K_showingRight_47 K_barring_55) := hD
  refine lv_aload_n hx hb dX1_empty_68 rfl (lv_at hl 0 rfl) ?_
  refine lv_lconst (v := (0 : Int64)) hx hb dX1_empty_69 kL_0 ?_
  refine va_put (D := D) (ci := 1) (v := .long (0 : Int64)) (ty := .long) (C := RX1) (T := TX1) (N := 13) hx hb hts in_X1_empty_X1 tyX1 tyX1_ok nmX1 hown hK hP hD hS 0 rfl rfl 12 (by decide) k_10 (fun _ h9 => h9) rfl (tyX1_ok 12 (by decide)) rfl rfl (Nat.le_of_ble_eq_true rfl) dX1_empty_70 (fun H locs hP hD hS => ?_)
  have hP : va_P D vwCl (w_X1_empty cI cJ cZ cO aK aK_strengths aK_kinds aK_marks aK_faces aK_bars aK_showing aK_showingRight aK_barring (2 : Int32) (0 : Int32) (0 : Int64) (0 : Int64) (0 : Int64) K_strengths_15 K_faces_23 K_bars_31 K_showing_39 K_showingRight_47 K_barring_55) H := hP
  have hD : va_D A (w_X1_empty cI cJ cZ cO aK aK_strengths aK_kinds aK_marks aK_faces aK_bars aK_showing aK_showingRight aK_barring (2 : Int32) (0 : Int32) (0 : Int64) (0 : Int64) (0 : Int64) K_strengths_15 K_faces_23 K_bars_31 K_showing_39 K_showingRight_47 K_barring_55) := hD
  rw [hZ]
  exact cx_retv ((2 : Int32), (0 : Int32), K_strengths_15, K_faces_23, K_bars_31, K_showing_39, K_showingRight_47, K_barring_55, (0 : Int64), (0 : Int64), (0 : Int64)) hx hb hr hlocks hw hP hS dX1_empty_73
set_option maxRecDepth 100000 in
set_option maxHeartbeats 4000000 in
theorem c_X1_becomeRule (l : Launch) (D : va_G) (cI cJ cZ cO : ClassId) (tS tT : Nat) (sz : Nat) (aK aK_strengths aK_kinds aK_marks aK_faces aK_bars aK_showing aK_showingRight aK_barring : Nat) (K_warm : Int32) (K_count : Int32) (K_seeds : Int64) (K_blocks : Int64) (K_rivals : Int64) (K_strengths : Nat → Int32) (K_kinds : Nat → Int32) (K_marks : Nat → Int32) (K_faces : Nat → Int32) (K_bars : Nat → Int32) (K_showing : Nat → Int64) (K_showingRight : Nat → Int64) (K_barring : Nat → Int64) (p1 : Int32) (p2 : Int32) (Q : (Int32) → (Int32) → (Nat → Int32) → (Nat → Int32) → (Nat → Int32) → (Nat → Int32) → (Nat → Int32) → (Nat → Int64) → (Nat → Int64) → (Nat → Int64) → (Int64) → (Int64) → (Int64) → Prop) (hw : wp_X1_becomeRule K_warm K_count K_strengths K_kinds K_marks K_faces K_bars K_showing K_showingRight K_barring K_seeds K_blocks K_rivals p1 p2 Q) : Met l yX1_becomeRule wsX1_becomeRule rm_X1_becomeRule (va_Pc [.ref aK, .int p1, .int p2] (cx_B tS tT cI cJ cZ cO D sz (w_X1_becomeRule cI cJ cZ cO aK aK_strengths aK_kinds aK_marks aK_faces aK_bars aK_showing aK_showingRight aK_barring K_warm K_count K_seeds K_blocks K_rivals K_strengths K_kinds K_marks K_faces K_bars K_showing K_showingRight K_barring))) (va_Qv (fun (u : (Int32) × (Int32) × (Nat → Int32) × (Nat → Int32) × (Nat → Int32) × (Nat → Int32) × (Nat → Int32) × (Nat → Int64) × (Nat → Int64) × (Nat → Int64) × (Int64) × (Int64) × (Int64)) => Q u.1 u.2.1 u.2.2.1 u.2.2.2.1 u.2.2.2.2.1 u.2.2.2.2.2.1 u.2.2.2.2.2.2.1 u.2.2.2.2.2.2.2.1 u.2.2.2.2.2.2.2.2.1 u.2.2.2.2.2.2.2.2.2.1 u.2.2.2.2.2.2.2.2.2.2.1 u.2.2.2.2.2.2.2.2.2.2.2.1 u.2.2.2.2.2.2.2.2.2.2.2.2) (fun (u : (Int32) × (Int32) × (Nat → Int32) × (Nat → Int32) × (Nat → Int32) × (Nat → Int32) × (Nat → Int32) × (Nat → Int64) × (Nat → Int64) × (Nat → Int64) × (Int64) × (Int64) × (Int64)) t => va_P D vwCl (w_X1_becomeRule cI cJ cZ cO aK aK_strengths aK_kinds aK_marks aK_faces aK_bars aK_showing aK_showingRight aK_barring u.1 u.2.1 u.2.2.2.2.2.2.2.2.2.2.1 u.2.2.2.2.2.2.2.2.2.2.2.1 u.2.2.2.2.2.2.2.2.2.2.2.2 u.2.2.1 u.2.2.2.1 u.2.2.2.2.1 u.2.2.2.2.2.1 u.2.2.2.2.2.2.1 u.2.2.2.2.2.2.2.1 u.2.2.2.2.2.2.2.2.1 u.2.2.2.2.2.2.2.2.2.1) t.heap) (va_A (w_X1_becomeRule cI cJ cZ cO aK aK_strengths aK_kinds aK_marks aK_faces aK_bars aK_showing aK_showingRight aK_barring K_warm K_count K_seeds K_blocks K_rivals K_strengths K_kinds K_marks K_faces K_bars K_showing K_showingRight K_barring) sz)) 0 0 (va_A (w_X1_becomeRule cI cJ cZ cO aK aK_strengths aK_kinds aK_marks aK_faces aK_bars aK_showing aK_showingRight aK_barring K_warm K_count K_seeds K_blocks K_rivals K_strengths K_kinds K_marks K_faces K_bars K_showing K_showingRight K_barring) sz) := by
  refine cx_met (cc := cX1_becomeRule) (maxL := 5) (ret := none) (Qc := fun A => va_Qv (fun (u : (Int32) × (Int32) × (Nat → Int32) × (Nat → Int32) × (Nat → Int32) × (Nat → Int32) × (Nat → Int32) × (Nat → Int64) × (Nat → Int64) × (Nat → Int64) × (Int64) × (Int64) × (Int64)) => Q u.1 u.2.1 u.2.2.1 u.2.2.2.1 u.2.2.2.2.1 u.2.2.2.2.2.1 u.2.2.2.2.2.2.1 u.2.2.2.2.2.2.2.1 u.2.2.2.2.2.2.2.2.1 u.2.2.2.2.2.2.2.2.2.1 u.2.2.2.2.2.2.2.2.2.2.1 u.2.2.2.2.2.2.2.2.2.2.2.1 u.2.2.2.2.2.2.2.2.2.2.2.2) (fun (u : (Int32) × (Int32) × (Nat → Int32) × (Nat → Int32) × (Nat → Int32) × (Nat → Int32) × (Nat → Int32) × (Nat → Int64) × (Nat → Int64) × (Nat → Int64) × (Int64) × (Int64) × (Int64)) t => va_P D vwCl (w_X1_becomeRule cI cJ cZ cO aK aK_strengths aK_kinds aK_marks aK_faces aK_bars aK_showing aK_showingRight aK_barring u.1 u.2.1 u.2.2.2.2.2.2.2.2.2.2.1 u.2.2.2.2.2.2.2.2.2.2.2.1 u.2.2.2.2.2.2.2.2.2.2.2.2 u.2.2.1 u.2.2.2.1 u.2.2.2.2.1 u.2.2.2.2.2.1 u.2.2.2.2.2.2.1 u.2.2.2.2.2.2.2.1 u.2.2.2.2.2.2.2.2.1 u.2.2.2.2.2.2.2.2.2.1) t.heap) A) (lv := [(0, .ref aK), (1, .int p1), (2, .int p2)]) (by decide) rfl (Nat.le_of_ble_eq_true rfl) rfl ?_
  intro p e s m args below meth c A Z hx hb hr hlocks hts hown hml hE hK hA hZ
  have hown : s.vm.findClass RX1 = some m.cls := hown
  have k_0 := hts (.initialized RX7) (List.mem_of_getElem? (i := 25) (by decide +kernel))
  have k_1 := hts (.static yX7_bitOf) (List.mem_of_getElem? (i := 24) (by decide +kernel))
  have k_2 := hts (.fieldLink RX1 18 "GrowingTiles$Kit" "strengths" "[I") (List.mem_of_getElem? (i := 1) (by decide +kernel))
  have b_26 : ∀ n_26 : Nat, ∀ (K_warm : Int32) (K_count : Int32) (K_strengths : Nat → Int32) (K_kinds : Nat → Int32) (K_marks : Nat → Int32) (K_faces : Nat → Int32) (K_bars : Nat → Int32) (K_showing : Nat → Int64) (K_showingRight : Nat → Int64) (K_barring : Nat → Int64) (K_seeds : Int64) (K_blocks : Int64) (K_rivals : Int64) (x1 : Int32) (x2 : Int32) (x3 : Int32), wq_X1_becomeRule_26  Q n_26 K_warm K_count K_strengths K_kinds K_marks K_faces K_bars K_showing K_showingRight K_barring K_seeds K_blocks K_rivals x1 x2 x3 → ∀ (H : Heap) (locs : List Loc), va_P D vwCl (w_X1_becomeRule cI cJ cZ cO aK aK_strengths aK_kinds aK_marks aK_faces aK_bars aK_showing aK_showingRight aK_barring K_warm K_count K_seeds K_blocks K_rivals K_strengths K_kinds K_marks K_faces K_bars K_showing K_showingRight K_barring) H → va_D A (w_X1_becomeRule cI cJ cZ cO aK aK_strengths aK_kinds aK_marks aK_faces aK_bars aK_showing aK_showingRight aK_barring K_warm K_count K_seeds K_blocks K_rivals K_strengths K_kinds K_marks K_faces K_bars K_showing K_showingRight K_barring) → va_S A s.heap H locs → ∀ ls : Array Slot, lv_has ls 5 [(0, .ref aK), (1, .int x1), (2, .int x2), (3, .int x3)] → W p l e rm_X1_becomeRule s m args below meth c H locs 0 0 Z (F0 m 26 ls []) := by
    intro n_26
    induction n_26 with
    | zero => intro K_warm K_count K_strengths K_kinds K_marks K_faces K_bars K_showing K_showingRight K_barring K_seeds K_blocks K_rivals x1 x2 x3 hw; exact False.elim hw
    | succ n_26 ih_26 =>
      intro K_warm K_count K_strengths K_kinds K_marks K_faces K_bars K_showing K_showingRight K_barring K_seeds K_blocks K_rivals x1 x2 x3 hw H locs hP hD hS ls hl
      have hw : wf_X1_becomeRule_26  Q (wq_X1_becomeRule_26  Q n_26) K_warm K_count K_strengths K_kinds K_marks K_faces K_bars K_showing K_showingRight K_barring K_seeds K_blocks K_rivals x1 x2 x3 := hw
      unfold wf_X1_becomeRule_26 at hw
      refine lv_iload_n hx hb dX1_becomeRule_26 rfl (lv_at hl 3 rfl) ?_
      refine lv_iconst (v := (4 : Int32)) hx hb dX1_becomeRule_27 kI_4 ?_
      refine lv_icmp_ge (tgt := 78) hx hb dX1_becomeRule_28 (by decide) (fun c28 => ?_) (fun c28 => ?_)
      · have hw := hw.1 c28
        refine lv_aload_n hx hb dX1_becomeRule_78 rfl (lv_at hl 0 rfl) ?_
        refine lv_iconst (v := (1 : Int32)) hx hb dX1_becomeRule_79 kI_1 ?_
        refine lv_iconst (v := (1 : Int32)) hx hb dX1_becomeRule_80 kI_1 ?_
        refine lv_iconst (v := (0 : Int32)) hx hb dX1_becomeRule_81 kI_0 ?_
        refine lv_iconst (v := (0 : Int32)) hx hb dX1_becomeRule_82 kI_0 ?_
        refine lv_iconst (v := (0 : Int32)) hx hb dX1_becomeRule_83 kI_0 ?_
        refine lv_iconst (v := (0 : Int32)) hx hb dX1_becomeRule_84 kI_0 ?_
        refine cx_goi (va_runV (As := [.int (1 : Int32), .int (1 : Int32), .int (0 : Int32), .int (0 : Int32), .int (0 : Int32), .int (0 : Int32)]) (rest := []) ⟨hx, hb, hml, hown, hts⟩ (c_X1_addPiece l D cI cJ cZ cO tS tT H.size aK aK_strengths aK_kinds aK_marks aK_faces aK_bars aK_showing aK_showingRight aK_barring K_warm K_count K_seeds K_blocks K_rivals K_kinds K_marks K_faces K_bars K_showing K_showingRight K_barring (1 : Int32) (1 : Int32) (0 : Int32) (0 : Int32) (0 : Int32) (0 : Int32) _ hw) (cwV 6 hts gX1_becomeRule_X1_addPiece rfl rfl rfl pv_X1_addPiece ⟨Nat.le_of_ble_eq_true rfl, Nat.le_of_ble_eq_true rfl⟩) (cx_preV (wc := w_X1_addPiece cI cJ cZ cO aK aK_strengths aK_kinds aK_marks aK_faces aK_bars aK_showing aK_showingRight aK_barring K_warm K_count K_seeds K_blocks K_rivals K_kinds K_marks K_faces K_bars K_showing K_showingRight K_barring) hE hK hP hD hS hA [0, 2, 3, 4, 5, 6, 7, 8] rfl rfl (va_recv hK hP (ci := 1) (q0 := 0) rfl rfl)) rfl rfl hl.1 rfl (lv_room (Nat.le_of_ble_eq_true rfl)) dX1_becomeRule_85 ⟨Nat.le_of_ble_eq_true rfl, Nat.le_of_ble_eq_true rfl⟩) (fun (u : (Int32) × (Nat → Int32) × (Nat → Int32) × (Nat → Int32) × (Nat → Int32) × (Nat → Int64) × (Nat → Int64) × (Nat → Int64) × (Int64) × (Int64) × (Int64)) => (w_X1_becomeRule cI cJ cZ cO aK aK_strengths aK_kinds aK_marks aK_faces aK_bars aK_showing aK_showingRight aK_barring K_warm u.1 u.2.2.2.2.2.2.2.2.1 u.2.2.2.2.2.2.2.2.2.1 u.2.2.2.2.2.2.2.2.2.2 K_strengths u.2.1 u.2.2.1 u.2.2.2.1 u.2.2.2.2.1 u.2.2.2.2.2.1 u.2.2.2.2.2.2.1 u.2.2.2.2.2.2.2.1)) [0, 2, 3, 4, 5, 6, 7, 8] [1] (ads := [aK, aK_kinds, aK_marks, aK_faces, aK_bars, aK_showing, aK_showingRight, aK_barring]) (wr := [(aK_strengths, .inl (cI, 51, .inl K_strengths))]) rfl rfl (fun u => rfl) (fun u => rfl) rfl (fun u => rfl) rfl (fun u => rfl) rfl hP hD hS hA (fun r85 u H locs hw hP hD hS => ?_)
        obtain ⟨K_count_85, K_kinds_85, K_marks_85, K_faces_85, K_bars_85, K_showing_85, K_showingRight_85, K_barring_85, K_seeds_85, K_blocks_85, K_rivals_85⟩ := u
        try dsimp only at hw
        have hP : va_P D vwCl (w_X1_becomeRule cI cJ cZ cO aK aK_strengths aK_kinds aK_marks aK_faces aK_bars aK_showing aK_showingRight aK_barring K_warm K_count_85 K_seeds_85 K_blocks_85 K_rivals_85 K_strengths K_kinds_85 K_marks_85 K_faces_85 K_bars_85 K_showing_85 K_showingRight_85 K_barring_85) H := hP
        have hD : va_D A (w_X1_becomeRule cI cJ cZ cO aK aK_strengths aK_kinds aK_marks aK_faces aK_bars aK_showing aK_showingRight aK_barring K_warm K_count_85 K_seeds_85 K_blocks_85 K_rivals_85 K_strengths K_kinds_85 K_marks_85 K_faces_85 K_bars_85 K_showing_85 K_showingRight_85 K_barring_85) := hD
        refine lv_pop hx hb dX1_becomeRule_88 rfl ?_
        refine lv_aload_n hx hb dX1_becomeRule_89 rfl (lv_at hl 0 rfl) ?_
        refine lv_iconst (v := (1 : Int32)) hx hb dX1_becomeRule_90 kI_1 ?_
        refine lv_iconst (v := (2 : Int32)) hx hb dX1_becomeRule_91 kI_2 ?_
        refine lv_iconst (v := (0 : Int32)) hx hb dX1_becomeRule_92 kI_0 ?_
        refine lv_iconst (v := (0 : Int32)) hx hb dX1_becomeRule_93 kI_0 ?_
        refine lv_iconst (v := (0 : Int32)) hx hb dX1_becomeRule_94 kI_0 ?_
        refine lv_iconst (v := (0 : Int32)) hx hb dX1_becomeRule_95 kI_0 ?_
        refine cx_goi (va_runV (As := [.int (1 : Int32), .int (2 : Int32), .int (0 : Int32), .int (0 : Int32), .int (0 : Int32), .int (0 : Int32)]) (rest := []) ⟨hx, hb, hml, hown, hts⟩ (c_X1_addPiece l D cI cJ cZ cO tS tT H.size aK aK_strengths aK_kinds aK_marks aK_faces aK_bars aK_showing aK_showingRight aK_barring K_warm K_count_85 K_seeds_85 K_blocks_85 K_rivals_85 K_kinds_85 K_marks_85 K_faces_85 K_bars_85 K_showing_85 K_showingRight_85 K_barring_85 (1 : Int32) (2 : Int32) (0 : Int32) (0 : Int32) (0 : Int32) (0 : Int32) _ hw) (cwV 6 hts gX1_becomeRule_X1_addPiece rfl rfl rfl pv_X1_addPiece ⟨Nat.le_of_ble_eq_true rfl, Nat.le_of_ble_eq_true rfl⟩) (cx_preV (wc := w_X1_addPiece cI cJ cZ cO aK aK_strengths aK_kinds aK_marks aK_faces aK_bars aK_showing aK_showingRight aK_barring K_warm K_count_85 K_seeds_85 K_blocks_85 K_rivals_85 K_kinds_85 K_marks_85 K_faces_85 K_bars_85 K_showing_85 K_showingRight_85 K_barring_85) hE hK hP hD hS hA [0, 2, 3, 4, 5, 6, 7, 8] rfl rfl (va_recv hK hP (ci := 1) (q0 := 0) rfl rfl)) rfl rfl hl.1 rfl (lv_room (Nat.le_of_ble_eq_true rfl)) dX1_becomeRule_96 ⟨Nat.le_of_ble_eq_true rfl, Nat.le_of_ble_eq_true rfl⟩) (fun (u : (Int32) × (Nat → Int32) × (Nat → Int32) × (Nat → Int32) × (Nat → Int32) × (Nat → Int64) × (Nat → Int64) × (Nat → Int64) × (Int64) × (Int64) × (Int64)) => (w_X1_becomeRule cI cJ cZ cO aK aK_strengths aK_kinds aK_marks aK_faces aK_bars aK_showing aK_showingRight aK_barring K_warm u.1 u.2.2.2.2.2.2.2.2.1 u.2.2.2.2.2.2.2.2.2.1 u.2.2.2.2.2.2.2.2.2.2 K_strengths u.2.1 u.2.2.1 u.2.2.2.1 u.2.2.2.2.1 u.2.2.2.2.2.1 u.2.2.2.2.2.2.1 u.2.2.2.2.2.2.2.1)) [0, 2, 3, 4, 5, 6, 7, 8] [1] (ads := [aK, aK_kinds, aK_marks, aK_faces, aK_bars, aK_showing, aK_showingRight, aK_barring]) (wr := [(aK_strengths, .inl (cI, 51, .inl K_strengths))]) rfl rfl (fun u => rfl) (fun u => rfl) rfl (fun u => rfl) rfl (fun u => rfl) rfl hP hD hS hA (fun r96 u H locs hw hP hD hS => ?_)
        obtain ⟨K_count_96, K_kinds_96, K_marks_96, K_faces_96, K_bars_96, K_showing_96, K_showingRight_96, K_barring_96, K_seeds_96, K_blocks_96, K_rivals_96⟩ := u
        try dsimp only at hw
        have hP : va_P D vwCl (w_X1_becomeRule cI cJ cZ cO aK aK_strengths aK_kinds aK_marks aK_faces aK_bars aK_showing aK_showingRight aK_barring K_warm K_count_96 K_seeds_96 K_blocks_96 K_rivals_96 K_strengths K_kinds_96 K_marks_96 K_faces_96 K_bars_96 K_showing_96 K_showingRight_96 K_barring_96) H := hP
        have hD : va_D A (w_X1_becomeRule cI cJ cZ cO aK aK_strengths aK_kinds aK_marks aK_faces aK_bars aK_showing aK_showingRight aK_barring K_warm K_count_96 K_seeds_96 K_blocks_96 K_rivals_96 K_strengths K_kinds_96 K_marks_96 K_faces_96 K_bars_96 K_showing_96 K_showingRight_96 K_barring_96) := hD
        refine lv_pop hx hb dX1_becomeRule_99 rfl ?_
        refine lv_aload_n hx hb dX1_becomeRule_100 rfl (lv_at hl 0 rfl) ?_
        refine lv_iconst (v := (1 : Int32)) hx hb dX1_becomeRule_101 kI_1 ?_
        refine lv_iconst (v := (0 : Int32)) hx hb dX1_becomeRule_102 kI_0 ?_
        refine lv_iconst (v := (0 : Int32)) hx hb dX1_becomeRule_103 kI_0 ?_
        refine lv_iconst (v := (0 : Int32)) hx hb dX1_becomeRule_104 kI_0 ?_
        refine lv_iconst (v := (3 : Int32)) hx hb dX1_becomeRule_105 kI_3 ?_
        refine lv_iconst (v := (0 : Int32)) hx hb dX1_becomeRule_106 kI_0 ?_
        refine cx_goi (va_runV (As := [.int (1 : Int32), .int (0 : Int32), .int (0 : Int32), .int (0 : Int32), .int (3 : Int32), .int (0 : Int32)]) (rest := []) ⟨hx, hb, hml, hown, hts⟩ (c_X1_addPiece l D cI cJ cZ cO tS tT H.size aK aK_strengths aK_kinds aK_marks aK_faces aK_bars aK_showing aK_showingRight aK_barring K_warm K_count_96 K_seeds_96 K_blocks_96 K_rivals_96 K_kinds_96 K_marks_96 K_faces_96 K_bars_96 K_showing_96 K_showingRight_96 K_barring_96 (1 : Int32) (0 : Int32) (0 : Int32) (0 : Int32) (3 : Int32) (0 : Int32) _ hw) (cwV 6 hts gX1_becomeRule_X1_addPiece rfl rfl rfl pv_X1_addPiece ⟨Nat.le_of_ble_eq_true rfl, Nat.le_of_ble_eq_true rfl⟩) (cx_preV (wc := w_X1_addPiece cI cJ cZ cO aK aK_strengths aK_kinds aK_marks aK_faces aK_bars aK_showing aK_showingRight aK_barring K_warm K_count_96 K_seeds_96 K_blocks_96 K_rivals_96 K_kinds_96 K_marks_96 K_faces_96 K_bars_96 K_showing_96 K_showingRight_96 K_barring_96) hE hK hP hD hS hA [0, 2, 3, 4, 5, 6, 7, 8] rfl rfl (va_recv hK hP (ci := 1) (q0 := 0) rfl rfl)) rfl rfl hl.1 rfl (lv_room (Nat.le_of_ble_eq_true rfl)) dX1_becomeRule_107 ⟨Nat.le_of_ble_eq_true rfl, Nat.le_of_ble_eq_true rfl⟩) (fun (u : (Int32) × (Nat → Int32) × (Nat → Int32) × (Nat → Int32) × (Nat → Int32) × (Nat → Int64) × (Nat → Int64) × (Nat → Int64) × (Int64) × (Int64) × (Int64)) => (w_X1_becomeRule cI cJ cZ cO aK aK_strengths aK_kinds aK_marks aK_faces aK_bars aK_showing aK_showingRight aK_barring K_warm u.1 u.2.2.2.2.2.2.2.2.1 u.2.2.2.2.2.2.2.2.2.1 u.2.2.2.2.2.2.2.2.2.2 K_strengths u.2.1 u.2.2.1 u.2.2.2.1 u.2.2.2.2.1 u.2.2.2.2.2.1 u.2.2.2.2.2.2.1 u.2.2.2.2.2.2.2.1)) [0, 2, 3, 4, 5, 6, 7, 8] [1] (ads := [aK, aK_kinds, aK_marks, aK_faces, aK_bars, aK_showing, aK_showingRight, aK_barring]) (wr := [(aK_strengths, .inl (cI, 51, .inl K_strengths))]) rfl rfl (fun u => rfl) (fun u => rfl) rfl (fun u => rfl) rfl (fun u => rfl) rfl hP hD hS hA (fun r107 u H locs hw hP hD hS => ?_)
        obtain ⟨K_count_107, K_kinds_107, K_marks_107, K_faces_107, K_bars_107, K_showing_107, K_showingRight_107, K_barring_107, K_seeds_107, K_blocks_107, K_rivals_107⟩ := u
        try dsimp only at hw
        have hP : va_P D vwCl (w_X1_becomeRule cI cJ cZ cO aK aK_strengths aK_kinds aK_marks aK_faces aK_bars aK_showing aK_showingRight aK_barring K_warm K_count_107 K_seeds_107 K_blocks_107 K_rivals_107 K_strengths K_kinds_107 K_marks_107 K_faces_107 K_bars_107 K_showing_107 K_showingRight_107 K_barring_107) H := hP
        have hD : va_D A (w_X1_becomeRule cI cJ cZ cO aK aK_strengths aK_kinds aK_marks aK_faces aK_bars aK_showing aK_showingRight aK_barring K_warm K_count_107 K_seeds_107 K_blocks_107 K_rivals_107 K_strengths K_kinds_107 K_marks_107 K_faces_107 K_bars_107 K_showing_107 K_showingRight_107 K_barring_107) := hD
        refine lv_pop hx hb dX1_becomeRule_110 rfl ?_
        refine lv_aload_n hx hb dX1_becomeRule_111 rfl (lv_at hl 0 rfl) ?_
        refine lv_iconst (v := (1 : Int32)) hx hb dX1_becomeRule_112 kI_1 ?_
        refine lv_iconst (v := (0 : Int32)) hx hb dX1_becomeRule_113 kI_0 ?_
        refine lv_iconst (v := (0 : Int32)) hx hb dX1_becomeRule_114 kI_0 ?_
        refine lv_iconst (v := (0 : Int32)) hx hb dX1_becomeRule_115 kI_0 ?_
        refine lv_iconst (v := (4 : Int32)) hx hb dX1_becomeRule_116 kI_4 ?_
        refine lv_iconst (v := (0 : Int32)) hx hb dX1_becomeRule_117 kI_0 ?_
        refine cx_goi (va_runV (As := [.int (1 : Int32), .int (0 : Int32), .int (0 : Int32), .int (0 : Int32), .int (4 : Int32), .int (0 : Int32)]) (rest := []) ⟨hx, hb, hml, hown, hts⟩ (c_X1_addPiece l D cI cJ cZ cO tS tT H.size aK aK_strengths aK_kinds aK_marks aK_faces aK_bars aK_showing aK_showingRight aK_barring K_warm K_count_107 K_seeds_107 K_blocks_107 K_rivals_107 K_kinds_107 K_marks_107 K_faces_107 K_bars_107 K_showing_107 K_showingRight_107 K_barring_107 (1 : Int32) (0 : Int32) (0 : Int32) (0 : Int32) (4 : Int32) (0 : Int32) _ hw) (cwV 6 hts gX1_becomeRule_X1_addPiece rfl rfl rfl pv_X1_addPiece ⟨Nat.le_of_ble_eq_true rfl, Nat.le_of_ble_eq_true rfl⟩) (cx_preV (wc := w_X1_addPiece cI cJ cZ cO aK aK_strengths aK_kinds aK_marks aK_faces aK_bars aK_showing aK_showingRight aK_barring K_warm K_count_107 K_seeds_107 K_blocks_107 K_rivals_107 K_kinds_107 K_marks_107 K_faces_107 K_bars_107 K_showing_107 K_showingRight_107 K_barring_107) hE hK hP hD hS hA [0, 2, 3, 4, 5, 6, 7, 8] rfl rfl (va_recv hK hP (ci := 1) (q0 := 0) rfl rfl)) rfl rfl hl.1 rfl (lv_room (Nat.le_of_ble_eq_true rfl)) dX1_becomeRule_118 ⟨Nat.le_of_ble_eq_true rfl, Nat.le_of_ble_eq_true rfl⟩) (fun (u : (Int32) × (Nat → Int32) × (Nat → Int32) × (Nat → Int32) × (Nat → Int32) × (Nat → Int64) × (Nat → Int64) × (Nat → Int64) × (Int64) × (Int64) × (Int64)) => (w_X1_becomeRule cI cJ cZ cO aK aK_strengths aK_kinds aK_marks aK_faces aK_bars aK_showing aK_showingRight aK_barring K_warm u.1 u.2.2.2.2.2.2.2.2.1 u.2.2.2.2.2.2.2.2.2.1 u.2.2.2.2.2.2.2.2.2.2 K_strengths u.2.1 u.2.2.1 u.2.2.2.1 u.2.2.2.2.1 u.2.2.2.2.2.1 u.2.2.2.2.2.2.1 u.2.2.2.2.2.2.2.1)) [0, 2, 3, 4, 5, 6, 7, 8] [1] (ads := [aK, aK_kinds, aK_marks, aK_faces, aK_bars, aK_showing, aK_showingRight, aK_barring]) (wr := [(aK_strengths, .inl (cI, 51, .inl K_strengths))]) rfl rfl (fun u => rfl) (fun u => rfl) rfl (fun u => rfl) rfl (fun u => rfl) rfl hP hD hS hA (fun r118 u H locs hw hP hD hS => ?_)
        obtain ⟨K_count_118, K_kinds_118, K_marks_118, K_faces_118, K_bars_118, K_showing_118, K_showingRight_118, K_barring_118, K_seeds_118, K_blocks_118, K_rivals_118⟩ := u
        try dsimp only at hw
        have hP : va_P D vwCl (w_X1_becomeRule cI cJ cZ cO aK aK_strengths aK_kinds aK_marks aK_faces aK_bars aK_showing aK_showingRight aK_barring K_warm K_count_118 K_seeds_118 K_blocks_118 K_rivals_118 K_strengths K_kinds_118 K_marks_118 K_faces_118 K_bars_118 K_showing_118 K_showingRight_118 K_barring_118) H := hP
        have hD : va_D A (w_X1_becomeRule cI cJ cZ cO aK aK_strengths aK_kinds aK_marks aK_faces aK_bars aK_showing aK_showingRight aK_barring K_warm K_count_118 K_seeds_118 K_blocks_118 K_rivals_118 K_strengths K_kinds_118 K_marks_118 K_faces_118 K_bars_118 K_showing_118 K_showingRight_118 K_barring_118) := hD
        refine lv_pop hx hb dX1_becomeRule_121 rfl ?_
        rw [hZ]
        exact cx_retv (K_warm, K_count_118, K_strengths, K_kinds_118, K_marks_118, K_faces_118, K_bars_118, K_showing_118, K_showingRight_118, K_barring_118, K_seeds_118, K_blocks_118, K_rivals_118) hx hb hr hlocks hw hP hS dX1_becomeRule_122
      · have hw := hw.2 c28
        refine lv_iload_n hx hb dX1_becomeRule_31 rfl (lv_at hl 1 rfl) ?_
        refine lv_iload_n hx hb dX1_becomeRule_32 rfl (lv_at hl 3 rfl) ?_
        refine cx_goi (va_runSN (As := [.int x1, .int x3]) (rest := []) ⟨hx, hb, hml, hown, hts⟩ (c_X7_bitOf l D cI cJ cZ cO tS tT H.size x1 x3 _ hw) ⟨va_cnB 2 hts gX1_becomeRule_X7_bitOf_n76 rfl rfl rfl (hE.1.1) k_0 ps_X7_bitOf ⟨Nat.le_of_ble_eq_true rfl, Nat.le_of_ble_eq_true rfl⟩, k_1, trivial⟩ (cx_preS (wc := w_X7_bitOf) hE hK hP hD hS hA [] rfl rfl) rfl rfl hl.1 rfl (lv_room (Nat.le_of_ble_eq_true rfl)) dX1_becomeRule_33 ⟨Nat.le_of_ble_eq_true rfl, Nat.le_of_ble_eq_true rfl⟩) (fun (_ : Unit) => (w_X1_becomeRule cI cJ cZ cO aK aK_strengths aK_kinds aK_marks aK_faces aK_bars aK_showing aK_showingRight aK_barring K_warm K_count K_seeds K_blocks K_rivals K_strengths K_kinds K_marks K_faces K_bars K_showing K_showingRight K_barring)) [] [0, 1, 2, 3, 4, 5, 6, 7, 8] (ads := []) (wr := [(aK, .inr (1, [.int K_warm, .int K_count, .ref aK_strengths, .ref aK_kinds, .ref aK_marks, .ref aK_faces, .ref aK_bars, .ref aK_showing, .ref aK_showingRight, .ref aK_barring, .long K_seeds, .long K_blocks, .long K_rivals])), (aK_strengths, .inl (cI, 51, .inl K_strengths)), (aK_kinds, .inl (cI, 40, .inl K_kinds)), (aK_marks, .inl (cI, 40, .inl K_marks)), (aK_faces, .inl (cI, 512, .inl K_faces)), (aK_bars, .inl (cI, 128, .inl K_bars)), (aK_showing, .inl (cJ, 204, .inr (.inl K_showing))), (aK_showingRight, .inl (cJ, 204, .inr (.inl K_showingRight))), (aK_barring, .inl (cJ, 4, .inr (.inl K_barring)))]) rfl rfl (fun u => rfl) (fun u => rfl) rfl (fun u => rfl) rfl (fun u => rfl) rfl hP hD hS hA (fun r33 u H locs hw hP hD hS => ?_)
        refine lv_istore (lv' := [(4, .int r33), (0, .ref aK), (1, .int x1), (2, .int x2), (3, .int x3)]) hx hb dX1_becomeRule_36 hl (by decide) rfl (fun ls hl => ?_)
        refine lv_aload_n hx hb dX1_becomeRule_38 rfl (lv_at hl 1 rfl) ?_
        refine lv_iconst (v := (5 : Int32)) hx hb dX1_becomeRule_39 kI_5 ?_
        refine lv_iconst (v := (1 : Int32)) hx hb dX1_becomeRule_40 kI_1 ?_
        refine lv_iload hx hb dX1_becomeRule_41 (lv_at hl 0 rfl) ?_
        refine lv_iadd hx hb dX1_becomeRule_43 ?_
        refine lv_iconst (v := (3 : Int32)) hx hb dX1_becomeRule_44 kI_3 ?_
        refine lv_iload_n hx hb dX1_becomeRule_45 rfl (lv_at hl 4 rfl) ?_
        refine lv_iconst (v := (2 : Int32)) hx hb dX1_becomeRule_46 kI_2 ?_
        refine lv_irem hx hb dX1_becomeRule_47 (by decide) ?_
        refine lv_iadd hx hb dX1_becomeRule_48 ?_
        refine lv_iconst (v := (1 : Int32)) hx hb dX1_becomeRule_49 kI_1 ?_
        refine lv_iload_n hx hb dX1_becomeRule_50 rfl (lv_at hl 4 rfl) ?_
        refine lv_iconst (v := (2 : Int32)) hx hb dX1_becomeRule_51 kI_2 ?_
        refine lv_idiv hx hb dX1_becomeRule_52 (by decide) ?_
        refine lv_iadd hx hb dX1_becomeRule_53 ?_
        refine lv_iconst (v := (3 : Int32)) hx hb dX1_becomeRule_54 kI_3 ?_
        refine lv_iload_n hx hb dX1_becomeRule_55 rfl (lv_at hl 3 rfl) ?_
        refine lv_iload_n hx hb dX1_becomeRule_56 rfl (lv_at hl 4 rfl) ?_
        refine cx_goi (va_runSN (As := [.int x2, .int x3]) (rest := [.int (3 : Int32), .int ((1 : Int32) + (x3 / (2 : Int32))), .int ((3 : Int32) + (x3 - x3 / (2 : Int32) * (2 : Int32))), .int ((1 : Int32) + r33), .int (5 : Int32), .ref aK]) ⟨hx, hb, hml, hown, hts⟩ (c_X7_bitOf l D cI cJ cZ cO tS tT H.size x2 x3 _ hw) ⟨va_cnB 2 hts gX1_becomeRule_X7_bitOf_n76 rfl rfl rfl (hE.1.1) k_0 ps_X7_bitOf ⟨Nat.le_of_ble_eq_true rfl, Nat.le_of_ble_eq_true rfl⟩, k_1, trivial⟩ (cx_preS (wc := w_X7_bitOf) hE hK hP hD hS hA [] rfl rfl) rfl rfl hl.1 rfl (lv_room (Nat.le_of_ble_eq_true rfl)) dX1_becomeRule_57 ⟨Nat.le_of_ble_eq_true rfl, Nat.le_of_ble_eq_true rfl⟩) (fun (_ : Unit) => (w_X1_becomeRule cI cJ cZ cO aK aK_strengths aK_kinds aK_marks aK_faces aK_bars aK_showing aK_showingRight aK_barring K_warm K_count K_seeds K_blocks K_rivals K_strengths K_kinds K_marks K_faces K_bars K_showing K_showingRight K_barring)) [] [0, 1, 2, 3, 4, 5, 6, 7, 8] (ads := []) (wr := [(aK, .inr (1, [.int K_warm, .int K_count, .ref aK_strengths, .ref aK_kinds, .ref aK_marks, .ref aK_faces, .ref aK_bars, .ref aK_showing, .ref aK_showingRight, .ref aK_barring, .long K_seeds, .long K_blocks, .long K_rivals])), (aK_strengths, .inl (cI, 51, .inl K_strengths)), (aK_kinds, .inl (cI, 40, .inl K_kinds)), (aK_marks, .inl (cI, 40, .inl K_marks)), (aK_faces, .inl (cI, 512, .inl K_faces)), (aK_bars, .inl (cI, 128, .inl K_bars)), (aK_showing, .inl (cJ, 204, .inr (.inl K_showing))), (aK_showingRight, .inl (cJ, 204, .inr (.inl K_showingRight))), (aK_barring, .inl (cJ, 4, .inr (.inl K_barring)))]) rfl rfl (fun u => rfl) (fun u => rfl) rfl (fun u => rfl) rfl (fun u => rfl) rfl hP hD hS hA (fun r57 u H locs hw hP hD hS => ?_)
        refine lv_iadd hx hb dX1_becomeRule_60 ?_
        refine lv_bipush (v := (16 : Int32)) hx hb dX1_becomeRule_61 kB_16 ?_
        refine lv_iconst (v := (1 : Int32)) hx hb dX1_becomeRule_63 kI_1 ?_
        refine lv_iload hx hb dX1_becomeRule_64 (lv_at hl 0 rfl) ?_
        refine lv_iadd hx hb dX1_becomeRule_66 ?_
        refine lv_imul hx hb dX1_becomeRule_67 ?_
        refine cx_goi (va_runV (As := [.int (5 : Int32), .int ((1 : Int32) + r33), .int ((3 : Int32) + (x3 - x3 / (2 : Int32) * (2 : Int32))), .int ((1 : Int32) + (x3 / (2 : Int32))), .int ((3 : Int32) + r57), .int ((16 : Int32) * ((1 : Int32) + r33))]) (rest := []) ⟨hx, hb, hml, hown, hts⟩ (c_X1_addPiece l D cI cJ cZ cO tS tT H.size aK aK_strengths aK_kinds aK_marks aK_faces aK_bars aK_showing aK_showingRight aK_barring K_warm K_count K_seeds K_blocks K_rivals K_kinds K_marks K_faces K_bars K_showing K_showingRight K_barring (5 : Int32) ((1 : Int32) + r33) ((3 : Int32) + (x3 - x3 / (2 : Int32) * (2 : Int32))) ((1 : Int32) + (x3 / (2 : Int32))) ((3 : Int32) + r57) ((16 : Int32) * ((1 : Int32) + r33)) _ hw) (cwV 6 hts gX1_becomeRule_X1_addPiece rfl rfl rfl pv_X1_addPiece ⟨Nat.le_of_ble_eq_true rfl, Nat.le_of_ble_eq_true rfl⟩) (cx_preV (wc := w_X1_addPiece cI cJ cZ cO aK aK_strengths aK_kinds aK_marks aK_faces aK_bars aK_showing aK_showingRight aK_barring K_warm K_count K_seeds K_blocks K_rivals K_kinds K_marks K_faces K_bars K_showing K_showingRight K_barring) hE hK hP hD hS hA [0, 2, 3, 4, 5, 6, 7, 8] rfl rfl (va_recv hK hP (ci := 1) (q0 := 0) rfl rfl)) rfl rfl hl.1 rfl (lv_room (Nat.le_of_ble_eq_true rfl)) dX1_becomeRule_68 ⟨Nat.le_of_ble_eq_true rfl, Nat.le_of_ble_eq_true rfl⟩) (fun (u : (Int32) × (Nat → Int32) × (Nat → Int32) × (Nat → Int32) × (Nat → Int32) × (Nat → Int64) × (Nat → Int64) × (Nat → Int64) × (Int64) × (Int64) × (Int64)) => (w_X1_becomeRule cI cJ cZ cO aK aK_strengths aK_kinds aK_marks aK_faces aK_bars aK_showing aK_showingRight aK_barring K_warm u.1 u.2.2.2.2.2.2.2.2.1 u.2.2.2.2.2.2.2.2.2.1 u.2.2.2.2.2.2.2.2.2.2 K_strengths u.2.1 u.2.2.1 u.2.2.2.1 u.2.2.2.2.1 u.2.2.2.2.2.1 u.2.2.2.2.2.2.1 u.2.2.2.2.2.2.2.1)) [0, 2, 3, 4, 5, 6, 7, 8] [1] (ads := [aK, aK_kinds, aK_marks, aK_faces, aK_bars, aK_showing, aK_showingRight, aK_barring]) (wr := [(aK_strengths, .inl (cI, 51, .inl K_strengths))]) rfl rfl (fun u => rfl) (fun u => rfl) rfl (fun u => rfl) rfl (fun u => rfl) rfl hP hD hS hA (fun r68 u H locs hw hP hD hS => ?_)
        obtain ⟨K_count_68, K_kinds_68, K_marks_68, K_faces_68, K_bars_68, K_showing_68, K_showingRight_68, K_barring_68, K_seeds_68, K_blocks_68, K_rivals_68⟩ := u
        try dsimp only at hw
        have hP : va_P D vwCl (w_X1_becomeRule cI cJ cZ cO aK aK_strengths aK_kinds aK_marks aK_faces aK_bars aK_showing aK_showingRight aK_barring K_warm K_count_68 K_seeds_68 K_blocks_68 K_rivals_68 K_strengths K_kinds_68 K_marks_68 K_faces_68 K_bars_68 K_showing_68 K_showingRight_68 K_barring_68) H := hP
        have hD : va_D A (w_X1_becomeRule cI cJ cZ cO aK aK_strengths aK_kinds aK_marks aK_faces aK_bars aK_showing aK_showingRight aK_barring K_warm K_count_68 K_seeds_68 K_blocks_68 K_rivals_68 K_strengths K_kinds_68 K_marks_68 K_faces_68 K_bars_68 K_showing_68 K_showingRight_68 K_barring_68) := hD
        refine lv_pop hx hb dX1_becomeRule_71 rfl ?_
        obtain ⟨v72, e72⟩ : ∃ y : Int32, y = x3 + (1 : Int32) := ⟨_, rfl⟩
        have hw := hw v72 e72
        refine lv_iinc (v := v72) (lv' := [(3, .int v72), (4, .int r33), (0, .ref aK), (1, .int x1), (2, .int x2)]) hx hb dX1_becomeRule_72 hl (k := 4) rfl (by rw [e72, kI_1]) (by decide) rfl (fun ls hl => ?_)
        refine lv_goto (tgt := 26) hx hb dX1_becomeRule_75 (by decide) ?_
        exact ih_26 K_warm K_count_68 K_strengths K_kinds_68 K_marks_68 K_faces_68 K_bars_68 K_showing_68 K_showingRight_68 K_barring_68 K_seeds_68 K_blocks_68 K_rivals_68 x1 x2 v72 hw H locs hP hD hS ls (lv_sub hl [2, 3, 4, 0] rfl)
  have b_6 : ∀ n_6 : Nat, ∀ (K_warm : Int32) (K_count : Int32) (K_strengths : Nat → Int32) (K_kinds : Nat → Int32) (K_marks : Nat → Int32) (K_faces : Nat → Int32) (K_bars : Nat → Int32) (K_showing : Nat → Int64) (K_showingRight : Nat → Int64) (K_barring : Nat → Int64) (K_seeds : Int64) (K_blocks : Int64) (K_rivals : Int64) (x1 : Int32) (x2 : Int32) (x3 : Int32), wq_X1_becomeRule_6  Q n_6 K_warm K_count K_strengths K_kinds K_marks K_faces K_bars K_showing K_showingRight K_barring K_seeds K_blocks K_rivals x1 x2 x3 → ∀ (H : Heap) (locs : List Loc), va_P D vwCl (w_X1_becomeRule cI cJ cZ cO aK aK_strengths aK_kinds aK_marks aK_faces aK_bars aK_showing aK_showingRight aK_barring K_warm K_count K_seeds K_blocks K_rivals K_strengths K_kinds K_marks K_faces K_bars K_showing K_showingRight K_barring) H → va_D A (w_X1_becomeRule cI cJ cZ cO aK aK_strengths aK_kinds aK_marks aK_faces aK_bars aK_showing aK_showingRight aK_barring K_warm K_count K_seeds K_blocks K_rivals K_strengths K_kinds K_marks K_faces K_bars K_showing K_showingRight K_barring) → va_S A s.heap H locs → ∀ ls : Array Slot, lv_has ls 5 [(0, .ref aK), (1, .int x1), (2, .int x2), (3, .int x3)] → W p l e rm_X1_becomeRule s m args below meth c H locs 0 0 Z (F0 m 6 ls []) := by
    intro n_6
    induction n_6 with
    | zero => intro K_warm K_count K_strengths K_kinds K_marks K_faces K_bars K_showing K_showingRight K_barring K_seeds K_blocks K_rivals x1 x2 x3 hw; exact False.elim hw
    | succ n_6 ih_6 =>
      intro K_warm K_count K_strengths K_kinds K_marks K_faces K_bars K_showing K_showingRight K_barring K_seeds K_blocks K_rivals x1 x2 x3 hw H locs hP hD hS ls hl
      have hw : wf_X1_becomeRule_6  Q (wq_X1_becomeRule_6  Q n_6) K_warm K_count K_strengths K_kinds K_marks K_faces K_bars K_showing K_showingRight K_barring K_seeds K_blocks K_rivals x1 x2 x3 := hw
      unfold wf_X1_becomeRule_6 at hw
      refine lv_iload_n hx hb dX1_becomeRule_6 rfl (lv_at hl 3 rfl) ?_
      refine lv_iconst (v := (4 : Int32)) hx hb dX1_becomeRule_7 kI_4 ?_
      refine lv_icmp_gt (tgt := 24) hx hb dX1_becomeRule_8 (by decide) (fun c8 => ?_) (fun c8 => ?_)
      · have hw := hw.1 c8
        refine lv_iconst (v := (0 : Int32)) hx hb dX1_becomeRule_24 kI_0 ?_
        refine lv_istore_n (lv' := [(3, .int (0 : Int32)), (0, .ref aK), (1, .int x1), (2, .int x2)]) hx hb dX1_becomeRule_25 rfl hl (by decide) rfl (fun ls hl => ?_)
        obtain ⟨k, hw⟩ := hw
        exact b_26 k K_warm K_count K_strengths K_kinds K_marks K_faces K_bars K_showing K_showingRight K_barring K_seeds K_blocks K_rivals x1 x2 (0 : Int32) hw H locs hP hD hS ls (lv_sub hl [1, 2, 3, 0] rfl)
      · have hw := hw.2 c8
        refine lv_aload_n hx hb dX1_becomeRule_11 rfl (lv_at hl 0 rfl) ?_
        refine va_get (D := D) (ci := 1) (v := .ref aK_strengths) (C := RX1) (T := TX1) (N := 13) hx hb hts in_X1_becomeRule_X1 hown hK hP 0 rfl rfl 2 (by decide) k_2 (fun _ h9 => h9) rfl dX1_becomeRule_12 ?_
        refine lv_iload_n hx hb dX1_becomeRule_15 rfl (lv_at hl 3 rfl) ?_
        refine lv_iconst (v := (1 : Int32)) hx hb dX1_becomeRule_16 kI_1 ?_
        have h17 := hw.1
        have hw := hw.2
        refine va_iast hx hb hK hP hD hS 1 0 rfl rfl h17 dX1_becomeRule_17 (fun H locs hP hD hS => ?_)
        have hP : va_P D vwCl (w_X1_becomeRule cI cJ cZ cO aK aK_strengths aK_kinds aK_marks aK_faces aK_bars aK_showing aK_showingRight aK_barring K_warm K_count K_seeds K_blocks K_rivals (upd K_strengths x3.toNatClampNeg (1 : Int32)) K_kinds K_marks K_faces K_bars K_showing K_showingRight K_barring) H := hP
        have hD : va_D A (w_X1_becomeRule cI cJ cZ cO aK aK_strengths aK_kinds aK_marks aK_faces aK_bars aK_showing aK_showingRight aK_barring K_warm K_count K_seeds K_blocks K_rivals (upd K_strengths x3.toNatClampNeg (1 : Int32)) K_kinds K_marks K_faces K_bars K_showing K_showingRight K_barring) := hD
        obtain ⟨K_strengths_17, e17⟩ : ∃ y : Nat → Int32, y = upd K_strengths x3.toNatClampNeg (1 : Int32) := ⟨_, rfl⟩
        rw [← e17] at hP hD
        have hw := hw K_strengths_17 e17
        obtain ⟨v18, e18⟩ : ∃ y : Int32, y = x3 + (1 : Int32) := ⟨_, rfl⟩
        have hw := hw v18 e18
        refine lv_iinc (v := v18) (lv' := [(3, .int v18), (0, .ref aK), (1, .int x1), (2, .int x2)]) hx hb dX1_becomeRule_18 hl (k := 3) rfl (by rw [e18, kI_1]) (by decide) rfl (fun ls hl => ?_)
        refine lv_goto (tgt := 6) hx hb dX1_becomeRule_21 (by decide) ?_
        exact ih_6 K_warm K_count K_strengths_17 K_kinds K_marks K_faces K_bars K_showing K_showingRight K_barring K_seeds K_blocks K_rivals x1 x2 v18 hw H locs hP hD hS ls (lv_sub hl [1, 2, 3, 0] rfl)
  intro H locs hP hD hS ls hl
  unfold wp_X1_becomeRule at hw
  refine lv_aload_n hx hb dX1_becomeRule_0 rfl (lv_at hl 0 rfl) ?_
  refine cx_gov (va_runV (As := []) (rest := []) ⟨hx, hb, hml, hown, hts⟩ (c_X1_empty l D cI cJ cZ cO tS tT H.size aK aK_strengths aK_kinds aK_marks aK_faces aK_bars aK_showing aK_showingRight aK_barring K_warm K_count K_seeds K_blocks K_rivals K_strengths K_faces K_bars K_showing K_showingRight K_barring _ hw) (cwV 0 hts gX1_becomeRule_X1_empty rfl rfl rfl pv_X1_empty ⟨Nat.le_of_ble_eq_true rfl, Nat.le_of_ble_eq_true rfl⟩) (cx_preV (wc := w_X1_empty cI cJ cZ cO aK aK_strengths aK_kinds aK_marks aK_faces aK_bars aK_showing aK_showingRight aK_barring K_warm K_count K_seeds K_blocks K_rivals K_strengths K_faces K_bars K_showing K_showingRight K_barring) hE hK hP hD hS hA [0, 1, 4, 5, 6, 7, 8] rfl rfl (va_recv hK hP (ci := 1) (q0 := 0) rfl rfl)) rfl rfl hl.1 rfl (lv_room (Nat.le_of_ble_eq_true rfl)) dX1_becomeRule_1 ⟨Nat.le_of_ble_eq_true rfl, Nat.le_of_ble_eq_true rfl⟩) (fun (u : (Int32) × (Int32) × (Nat → Int32) × (Nat → Int32) × (Nat → Int32) × (Nat → Int64) × (Nat → Int64) × (Nat → Int64) × (Int64) × (Int64) × (Int64)) => (w_X1_becomeRule cI cJ cZ cO aK aK_strengths aK_kinds aK_marks aK_faces aK_bars aK_showing aK_showingRight aK_barring u.1 u.2.1 u.2.2.2.2.2.2.2.2.1 u.2.2.2.2.2.2.2.2.2.1 u.2.2.2.2.2.2.2.2.2.2 u.2.2.1 K_kinds K_marks u.2.2.2.1 u.2.2.2.2.1 u.2.2.2.2.2.1 u.2.2.2.2.2.2.1 u.2.2.2.2.2.2.2.1)) [0, 1, 4, 5, 6, 7, 8] [2, 3] (ads := [aK, aK_strengths, aK_faces, aK_bars, aK_showing, aK_showingRight, aK_barring]) (wr := [(aK_kinds, .inl (cI, 40, .inl K_kinds)), (aK_marks, .inl (cI, 40, .inl K_marks))]) rfl rfl (fun u => rfl) (fun u => rfl) rfl (fun u => rfl) rfl (fun u => rfl) rfl hP hD hS hA (fun u H locs hw hP hD hS => ?_)
  obtain ⟨K_warm_1, K_count_1, K_strengths_1, K_faces_1, K_bars_1, K_showing_1, K_showingRight_1, K_barring_1, K_seeds_1, K_blocks_1, K_rivals_1⟩ := u
  try dsimp only at hw
  have hP : va_P D vwCl (w_X1_becomeRule cI cJ cZ cO aK aK_strengths aK_kinds aK_marks aK_faces aK_bars aK_showing aK_showingRight aK_barring K_warm_1 K_count_1 K_seeds_1 K_blocks_1 K_rivals_1 K_strengths_1 K_kinds K_marks K_faces_1 K_bars_1 K_showing_1 K_showingRight_1 K_barring_1) H := hP
  have hD : va_D A (w_X1_becomeRule cI cJ cZ cO aK aK_strengths aK_kinds aK_marks aK_faces aK_bars aK_showing aK_showingRight aK_barring K_warm_1 K_count_1 K_seeds_1 K_blocks_1 K_rivals_1 K_strengths_1 K_kinds K_marks K_faces_1 K_bars_1 K_showing_1 K_showingRight_1 K_barring_1) := hD
  refine lv_iconst (v := (1 : Int32)) hx hb dX1_becomeRule_4 kI_1 ?_
  refine lv_istore_n (lv' := [(3, .int (1 : Int32)), (0, .ref aK), (1, .int p1), (2, .int p2)]) hx hb dX1_becomeRule_5 rfl hl (by decide) rfl (fun ls hl => ?_)
  obtain ⟨k, hw⟩ := hw
  exact b_6 k K_warm_1 K_count_1 K_strengths_1 K_kinds K_marks K_faces_1 K_bars_1 K_showing_1 K_showingRight_1 K_barring_1 K_seeds_1 K_blocks_1 K_rivals_1 p1 p2 (1 : Int32) hw H locs hP hD hS ls (lv_sub hl [1, 2, 3, 0] rfl)
set_option maxRecDepth 100000 in
set_option maxHeartbeats 4000000 in
theorem c_X5_areAllKept (l : Launch) (D : va_G) (cI cJ cZ cO : ClassId) (tS tT : Nat) (sz : Nat) (aT aT_acts aT_pieces aT_places aT_before aT_since : Nat) (T_made : Int32) (T_kept : Int32) (T_fromClear : Int32) (Q : Int32 → Prop) (hw : wp_X5_areAllKept T_made T_kept Q) : Met l yX5_areAllKept wsX5_areAllKept rm_X5_areAllKept (va_Pc [.ref aT] (cx_B tS tT cI cJ cZ cO D sz (w_X5_areAllKept cI cJ cZ cO aT aT_acts aT_pieces aT_places aT_before aT_since T_made T_kept T_fromClear))) (va_Qi (fun (r : Int32) (_ : Unit) => Q r) (fun (u : Unit) t => va_P D vwCl (w_X5_areAllKept cI cJ cZ cO aT aT_acts aT_pieces aT_places aT_before aT_since T_made T_kept T_fromClear) t.heap) (va_A (w_X5_areAllKept cI cJ cZ cO aT aT_acts aT_pieces aT_places aT_before aT_since T_made T_kept T_fromClear) sz)) 0 0 (va_A (w_X5_areAllKept cI cJ cZ cO aT aT_acts aT_pieces aT_places aT_before aT_since T_made T_kept T_fromClear) sz) := by
  refine cx_met (cc := cX5_areAllKept) (maxL := 1) (ret := (some .boolean)) (Qc := fun A => va_Qi (fun (r : Int32) (_ : Unit) => Q r) (fun (u : Unit) t => va_P D vwCl (w_X5_areAllKept cI cJ cZ cO aT aT_acts aT_pieces aT_places aT_before aT_since T_made T_kept T_fromClear) t.heap) A) (lv := [(0, .ref aT)]) (by decide) rfl (Nat.le_of_ble_eq_true rfl) rfl ?_
  intro p e s m args below meth c A Z hx hb hr hlocks hts hown hml hE hK hA hZ
  have hown : s.vm.findClass RX5 = some m.cls := hown
  have k_0 := hts (.fieldLink RX5 9 "GrowingTiles$Steps" "made" "I") (List.mem_of_getElem? (i := 1) (by decide +kernel))
  have k_1 := hts (.fieldLink RX5 15 "GrowingTiles$Steps" "kept" "I") (List.mem_of_getElem? (i := 2) (by decide +kernel))
  intro H locs hP hD hS ls hl
  unfold wp_X5_areAllKept at hw
  refine lv_aload_n hx hb dX5_areAllKept_0 rfl (lv_at hl 0 rfl) ?_
  refine va_get (D := D) (ci := 5) (v := .int T_made) (C := RX5) (T := TX5) (N := 8) hx hb hts in_X5_areAllKept_X5 hown hK hP 0 rfl rfl 0 (by decide) k_0 (fun _ h9 => h9) rfl dX5_areAllKept_1 ?_
  refine lv_aload_n hx hb dX5_areAllKept_4 rfl (lv_at hl 0 rfl) ?_
  refine va_get (D := D) (ci := 5) (v := .int T_kept) (C := RX5) (T := TX5) (N := 8) hx hb hts in_X5_areAllKept_X5 hown hK hP 0 rfl rfl 1 (by decide) k_1 (fun _ h9 => h9) rfl dX5_areAllKept_5 ?_
  refine lv_icmp_ne (tgt := 15) hx hb dX5_areAllKept_8 (by decide) (fun c8 => ?_) (fun c8 => ?_)
  · have hw := hw.1 c8
    refine lv_iconst (v := (0 : Int32)) hx hb dX5_areAllKept_15 kI_0 ?_
    rw [hZ]
    exact cx_retz () hx hb hr hlocks rfl hw hP hS dX5_areAllKept_16
  · have hw := hw.2 c8
    refine lv_iconst (v := (1 : Int32)) hx hb dX5_areAllKept_11 kI_1 ?_
    refine lv_goto (tgt := 16) hx hb dX5_areAllKept_12 (by decide) ?_
    rw [hZ]
    exact cx_retz () hx hb hr hlocks rfl hw hP hS dX5_areAllKept_16
set_option maxRecDepth 100000 in
set_option maxHeartbeats 4000000 in
theorem c_X2_isOfOrderlyKind (l : Launch) (D : va_G) (cI cJ cZ cO : ClassId) (tS tT : Nat) (sz : Nat) (aK aK_strengths aK_kinds aK_marks aK_faces aK_bars aK_showing aK_showingRight aK_barring aO aS aT : Nat) (K_warm : Int32) (K_count : Int32) (K_seeds : Int64) (K_blocks : Int64) (K_rivals : Int64) (K_kinds : Nat → Int32) (K_bars : Nat → Int32) (p1 : Int32) (Q : Int32 → Prop) (hw : wp_X2_isOfOrderlyKind K_kinds K_bars p1 Q) : Met l yX2_isOfOrderlyKind wsX2_isOfOrderlyKind rm_X2_isOfOrderlyKind (va_Pc [.ref aO, .int p1] (cx_B tS tT cI cJ cZ cO D sz (w_X2_isOfOrderlyKind cI cJ cZ cO aK aK_strengths aK_kinds aK_marks aK_faces aK_bars aK_showing aK_showingRight aK_barring aO aS aT K_warm K_count K_seeds K_blocks K_rivals K_kinds K_bars))) (va_Qi (fun (r : Int32) (_ : Unit) => Q r) (fun (u : Unit) t => va_P D vwCl (w_X2_isOfOrderlyKind cI cJ cZ cO aK aK_strengths aK_kinds aK_marks aK_faces aK_bars aK_showing aK_showingRight aK_barring aO aS aT K_warm K_count K_seeds K_blocks K_rivals K_kinds K_bars) t.heap) (va_A (w_X2_isOfOrderlyKind cI cJ cZ cO aK aK_strengths aK_kinds aK_marks aK_faces aK_bars aK_showing aK_showingRight aK_barring aO aS aT K_warm K_count K_seeds K_blocks K_rivals K_kinds K_bars) sz)) 0 0 (va_A (w_X2_isOfOrderlyKind cI cJ cZ cO aK aK_strengths aK_kinds aK_marks aK_faces aK_bars aK_showing aK_showingRight aK_barring aO aS aT K_warm K_count K_seeds K_blocks K_rivals K_kinds K_bars) sz) := by
  refine cx_met (cc := cX2_isOfOrderlyKind) (maxL := 3) (ret := (some .boolean)) (Qc := fun A => va_Qi (fun (r : Int32) (_ : Unit) => Q r) (fun (u : Unit) t => va_P D vwCl (w_X2_isOfOrderlyKind cI cJ cZ cO aK aK_strengths aK_kinds aK_marks aK_faces aK_bars aK_showing aK_showingRight aK_barring aO aS aT K_warm K_count K_seeds K_blocks K_rivals K_kinds K_bars) t.heap) A) (lv := [(0, .ref aO), (1, .int p1)]) (by decide) rfl (Nat.le_of_ble_eq_true rfl) rfl ?_
  intro p e s m args below meth c A Z hx hb hr hlocks hts hown hml hE hK hA hZ
  have hown : s.vm.findClass RX2 = some m.cls := hown
  have k_0 := hts (.fieldLink RX2 9 "GrowingTiles$Order" "kit" "LGrowingTiles$Kit;") (List.mem_of_getElem? (i := 1) (by decide +kernel))
  have k_1 := hts (.fieldLink RX2 76 "GrowingTiles$Kit" "kinds" "[I") (List.mem_of_getElem? (i := 2) (by decide +kernel))
  have k_2 := hts (.fieldLink RX2 81 "GrowingTiles$Kit" "bars" "[I") (List.mem_of_getElem? (i := 3) (by decide +kernel))
  intro H locs hP hD hS ls hl
  unfold wp_X2_isOfOrderlyKind at hw
  refine lv_aload_n hx hb dX2_isOfOrderlyKind_0 rfl (lv_at hl 0 rfl) ?_
  refine va_get (D := D) (ci := 2) (v := .ref aK) (C := RX2) (T := TX2) (N := 3) hx hb hts in_X2_isOfOrderlyKind_X2 hown hK hP 3 rfl rfl 0 (by decide) k_0 (fun _ h9 => h9) rfl dX2_isOfOrderlyKind_1 ?_
  refine va_get (D := D) (ci := 1) (v := .ref aK_kinds) (C := RX1) (T := TX1) (N := 13) hx hb hts in_X2_isOfOrderlyKind_X1 hown hK hP 0 rfl rfl 3 (by decide) k_1 (fun _ h9 => h9) rfl dX2_isOfOrderlyKind_4 ?_
  refine lv_iload_n hx hb dX2_isOfOrderlyKind_7 rfl (lv_at hl 1 rfl) ?_
  have h8 := hw.1
  have hw := hw.2
  refine va_iald hx hb hK hP 1 0 rfl rfl h8 dX2_isOfOrderlyKind_8 ?_
  refine lv_topi (fun v8 e8 => ?_)
  have hw := hw v8 e8
  refine lv_istore_n (lv' := [(2, .int v8), (0, .ref aO), (1, .int p1)]) hx hb dX2_isOfOrderlyKind_9 rfl hl (by decide) rfl (fun ls hl => ?_)
  refine lv_iload_n hx hb dX2_isOfOrderlyKind_10 rfl (lv_at hl 0 rfl) ?_
  refine lv_if_eq (tgt := 38) hx hb dX2_isOfOrderlyKind_11 (by decide) (fun c11 => ?_) (fun c11 => ?_)
  · have hw := hw.1 c11
    refine lv_iconst (v := (1 : Int32)) hx hb dX2_isOfOrderlyKind_38 kI_1 ?_
    refine lv_goto (tgt := 43) hx hb dX2_isOfOrderlyKind_39 (by decide) ?_
    rw [hZ]
    exact cx_retz () hx hb hr hlocks rfl hw hP hS dX2_isOfOrderlyKind_43
  · have hw := hw.2 c11
    refine lv_iload_n hx hb dX2_isOfOrderlyKind_14 rfl (lv_at hl 0 rfl) ?_
    refine lv_iconst (v := (1 : Int32)) hx hb dX2_isOfOrderlyKind_15 kI_1 ?_
    refine lv_icmp_eq (tgt := 38) hx hb dX2_isOfOrderlyKind_16 (by decide) (fun c16 => ?_) (fun c16 => ?_)
    · have hw := hw.1 c16
      refine lv_iconst (v := (1 : Int32)) hx hb dX2_isOfOrderlyKind_38 kI_1 ?_
      refine lv_goto (tgt := 43) hx hb dX2_isOfOrderlyKind_39 (by decide) ?_
      rw [hZ]
      exact cx_retz () hx hb hr hlocks rfl hw hP hS dX2_isOfOrderlyKind_43
    · have hw := hw.2 c16
      refine lv_iload_n hx hb dX2_isOfOrderlyKind_19 rfl (lv_at hl 0 rfl) ?_
      refine lv_iconst (v := (5 : Int32)) hx hb dX2_isOfOrderlyKind_20 kI_5 ?_
      refine lv_icmp_ne (tgt := 42) hx hb dX2_isOfOrderlyKind_21 (by decide) (fun c21 => ?_) (fun c21 => ?_)
      · have hw := hw.1 c21
        refine lv_iconst (v := (0 : Int32)) hx hb dX2_isOfOrderlyKind_42 kI_0 ?_
        rw [hZ]
        exact cx_retz () hx hb hr hlocks rfl hw hP hS dX2_isOfOrderlyKind_43
      · have hw := hw.2 c21
        refine lv_aload_n hx hb dX2_isOfOrderlyKind_24 rfl (lv_at hl 1 rfl) ?_
        refine va_get (D := D) (ci := 2) (v := .ref aK) (C := RX2) (T := TX2) (N := 3) hx hb hts in_X2_isOfOrderlyKind_X2 hown hK hP 3 rfl rfl 0 (by decide) k_0 (fun _ h9 => h9) rfl dX2_isOfOrderlyKind_25 ?_
        refine va_get (D := D) (ci := 1) (v := .ref aK_bars) (C := RX1) (T := TX1) (N := 13) hx hb hts in_X2_isOfOrderlyKind_X1 hown hK hP 0 rfl rfl 6 (by decide) k_2 (fun _ h9 => h9) rfl dX2_isOfOrderlyKind_28 ?_
        refine lv_iconst (v := (1 : Int32)) hx hb dX2_isOfOrderlyKind_31 kI_1 ?_
        refine lv_iload_n hx hb dX2_isOfOrderlyKind_32 rfl (lv_at hl 2 rfl) ?_
        refine lv_iadd hx hb dX2_isOfOrderlyKind_33 ?_
        have h34 := hw.1
        have hw := hw.2
        refine va_iald hx hb hK hP 2 0 rfl rfl h34 dX2_isOfOrderlyKind_34 ?_
        refine lv_topi (fun v34 e34 => ?_)
        have hw := hw v34 e34
        refine lv_if_ne (tgt := 42) hx hb dX2_isOfOrderlyKind_35 (by decide) (fun c35 => ?_) (fun c35 => ?_)
        · have hw := hw.1 c35
          refine lv_iconst (v := (0 : Int32)) hx hb dX2_isOfOrderlyKind_42 kI_0 ?_
          rw [hZ]
          exact cx_retz () hx hb hr hlocks rfl hw hP hS dX2_isOfOrderlyKind_43
        · have hw := hw.2 c35
          refine lv_iconst (v := (1 : Int32)) hx hb dX2_isOfOrderlyKind_38 kI_1 ?_
          refine lv_goto (tgt := 43) hx hb dX2_isOfOrderlyKind_39 (by decide) ?_
          rw [hZ]
          exact cx_retz () hx hb hr hlocks rfl hw hP hS dX2_isOfOrderlyKind_43
set_option maxRecDepth 100000 in
set_option maxHeartbeats 4000000 in
theorem c_X2_canBeAsked (l : Launch) (D : va_G) (cI cJ cZ cO : ClassId) (tS tT : Nat) (sz : Nat) (aK aK_strengths aK_kinds aK_marks aK_faces aK_bars aK_showing aK_showingRight aK_barring aT aT_acts aT_pieces aT_places aT_before aT_since aO aS : Nat) (K_warm : Int32) (K_count : Int32) (K_seeds : Int64) (K_blocks : Int64) (K_rivals : Int64) (K_kinds : Nat → Int32) (K_bars : Nat → Int32) (T_made : Int32) (T_kept : Int32) (T_fromClear : Int32) (T_acts : Nat → Int32) (T_pieces : Nat → Int32) (Q : Int32 → Prop) (hw : wp_X2_canBeAsked K_kinds K_bars T_made T_kept T_fromClear T_acts T_pieces Q) : Met l yX2_canBeAsked wsX2_canBeAsked rm_X2_canBeAsked (va_Pc [.ref aO] (cx_B tS tT cI cJ cZ cO D sz (w_X2_canBeAsked cI cJ cZ cO aK aK_strengths aK_kinds aK_marks aK_faces aK_bars aK_showing aK_showingRight aK_barring aT aT_acts aT_pieces aT_places aT_before aT_since aO aS K_warm K_count K_seeds K_blocks K_rivals K_kinds K_bars T_made T_kept T_fromClear T_acts T_pieces))) (va_Qi (fun (r : Int32) (_ : Unit) => Q r) (fun (u : Unit) t => va_P D vwCl (w_X2_canBeAsked cI cJ cZ cO aK aK_strengths aK_kinds aK_marks aK_faces aK_bars aK_showing aK_showingRight aK_barring aT aT_acts aT_pieces aT_places aT_before aT_since aO aS K_warm K_count K_seeds K_blocks K_rivals K_kinds K_bars T_made T_kept T_fromClear T_acts T_pieces) t.heap) (va_A (w_X2_canBeAsked cI cJ cZ cO aK aK_strengths aK_kinds aK_marks aK_faces aK_bars aK_showing aK_showingRight aK_barring aT aT_acts aT_pieces aT_places aT_before aT_since aO aS K_warm K_count K_seeds K_blocks K_rivals K_kinds K_bars T_made T_kept T_fromClear T_acts T_pieces) sz)) 0 0 (va_A (w_X2_canBeAsked cI cJ cZ cO aK aK_strengths aK_kinds aK_marks aK_faces aK_bars aK_showing aK_showingRight aK_barring aT aT_acts aT_pieces aT_places aT_before aT_since aO aS K_warm K_count K_seeds K_blocks K_rivals K_kinds K_bars T_made T_kept T_fromClear T_acts T_pieces) sz) := by
  refine cx_met (cc := cX2_canBeAsked) (maxL := 2) (ret := (some .boolean)) (Qc := fun A => va_Qi (fun (r : Int32) (_ : Unit) => Q r) (fun (u : Unit) t => va_P D vwCl (w_X2_canBeAsked cI cJ cZ cO aK aK_strengths aK_kinds aK_marks aK_faces aK_bars aK_showing aK_showingRight aK_barring aT aT_acts aT_pieces aT_places aT_before aT_since aO aS K_warm K_count K_seeds K_blocks K_rivals K_kinds K_bars T_made T_kept T_fromClear T_acts T_pieces) t.heap) A) (lv := [(0, .ref aO)]) (by decide) rfl (Nat.le_of_ble_eq_true rfl) rfl ?_
  intro p e s m args below meth c A Z hx hb hr hlocks hts hown hml hE hK hA hZ
  have hown : s.vm.findClass RX2 = some m.cls := hown
  have k_0 := hts (.fieldLink RX2 19 "GrowingTiles$Order" "steps" "LGrowingTiles$Steps;") (List.mem_of_getElem? (i := 1) (by decide +kernel))
  have k_1 := hts (.fieldLink RX2 70 "GrowingTiles$Steps" "pieces" "[I") (List.mem_of_getElem? (i := 5) (by decide +kernel))
  have k_2 := hts (.fieldLink RX2 27 "GrowingTiles$Steps" "made" "I") (List.mem_of_getElem? (i := 3) (by decide +kernel))
  have k_3 := hts (.fieldLink RX2 33 "GrowingTiles$Steps" "acts" "[I") (List.mem_of_getElem? (i := 4) (by decide +kernel))
  have k_4 := hts (.fieldLink RX2 63 "GrowingTiles$Steps" "fromClear" "Z") (List.mem_of_getElem? (i := 2) (by decide +kernel))
  have b_24 : ∀ n_24 : Nat, ∀ (x1 : Int32), wq_X2_canBeAsked_24 K_kinds K_bars T_made T_kept T_fromClear T_acts T_pieces Q n_24 x1 → ∀ (H : Heap) (locs : List Loc), va_P D vwCl (w_X2_canBeAsked cI cJ cZ cO aK aK_strengths aK_kinds aK_marks aK_faces aK_bars aK_showing aK_showingRight aK_barring aT aT_acts aT_pieces aT_places aT_before aT_since aO aS K_warm K_count K_seeds K_blocks K_rivals K_kinds K_bars T_made T_kept T_fromClear T_acts T_pieces) H → va_D A (w_X2_canBeAsked cI cJ cZ cO aK aK_strengths aK_kinds aK_marks aK_faces aK_bars aK_showing aK_showingRight aK_barring aT aT_acts aT_pieces aT_places aT_before aT_since aO aS K_warm K_count K_seeds K_blocks K_rivals K_kinds K_bars T_made T_kept T_fromClear T_acts T_pieces) → va_S A s.heap H locs → ∀ ls : Array Slot, lv_has ls 2 [(0, .ref aO), (1, .int x1)] → W p l e rm_X2_canBeAsked s m args below meth c H locs 0 0 Z (F0 m 24 ls []) := by
    intro n_24
    induction n_24 with
    | zero => intro x1 hw; exact False.elim hw
    | succ n_24 ih_24 =>
      have b_60 : ∀ (x1 : Int32), wq_X2_canBeAsked_60 K_kinds K_bars T_made T_kept T_fromClear T_acts T_pieces (wq_X2_canBeAsked_24 K_kinds K_bars T_made T_kept T_fromClear T_acts T_pieces Q n_24) Q x1 → ∀ (H : Heap) (locs : List Loc), va_P D vwCl (w_X2_canBeAsked cI cJ cZ cO aK aK_strengths aK_kinds aK_marks aK_faces aK_bars aK_showing aK_showingRight aK_barring aT aT_acts aT_pieces aT_places aT_before aT_since aO aS K_warm K_count K_seeds K_blocks K_rivals K_kinds K_bars T_made T_kept T_fromClear T_acts T_pieces) H → va_D A (w_X2_canBeAsked cI cJ cZ cO aK aK_strengths aK_kinds aK_marks aK_faces aK_bars aK_showing aK_showingRight aK_barring aT aT_acts aT_pieces aT_places aT_before aT_since aO aS K_warm K_count K_seeds K_blocks K_rivals K_kinds K_bars T_made T_kept T_fromClear T_acts T_pieces) → va_S A s.heap H locs → ∀ ls : Array Slot, lv_has ls 2 [(0, .ref aO), (1, .int x1)] → W p l e rm_X2_canBeAsked s m args below meth c H locs 0 0 Z (F0 m 60 ls []) := by
        intro x1 hw H locs hP hD hS ls hl
        unfold wq_X2_canBeAsked_60 at hw
        refine lv_aload_n hx hb dX2_canBeAsked_60 rfl (lv_at hl 0 rfl) ?_
        refine lv_aload_n hx hb dX2_canBeAsked_61 rfl (lv_at hl 0 rfl) ?_
        refine va_get (D := D) (ci := 2) (v := .ref aT) (C := RX2) (T := TX2) (N := 3) hx hb hts in_X2_canBeAsked_X2 hown hK hP 6 rfl rfl 2 (by decide) k_0 (fun _ h9 => h9) rfl dX2_canBeAsked_62 ?_
        refine va_get (D := D) (ci := 5) (v := .ref aT_pieces) (C := RX5) (T := TX5) (N := 8) hx hb hts in_X2_canBeAsked_X5 hown hK hP 3 rfl rfl 4 (by decide) k_1 (fun _ h9 => h9) rfl dX2_canBeAsked_65 ?_
        refine lv_iload_n hx hb dX2_canBeAsked_68 rfl (lv_at hl 1 rfl) ?_
        have h69 := hw.1
        have hw := hw.2
        refine va_iald hx hb hK hP 5 0 rfl rfl h69 dX2_canBeAsked_69 ?_
        refine lv_topi (fun v69 e69 => ?_)
        have hw := hw v69 e69
        refine cx_goi (va_runV (As := [.int v69]) (rest := []) ⟨hx, hb, hml, hown, hts⟩ (c_X2_isOfOrderlyKind l D cI cJ cZ cO tS tT H.size aK aK_strengths aK_kinds aK_marks aK_faces aK_bars aK_showing aK_showingRight aK_barring aO aS aT K_warm K_count K_seeds K_blocks K_rivals K_kinds K_bars v69 _ hw) (cwV 1 hts gX2_canBeAsked_X2_isOfOrderlyKind rfl rfl rfl pv_X2_isOfOrderlyKind ⟨Nat.le_of_ble_eq_true rfl, Nat.le_of_ble_eq_true rfl⟩) (cx_preV (wc := w_X2_isOfOrderlyKind cI cJ cZ cO aK aK_strengths aK_kinds aK_marks aK_faces aK_bars aK_showing aK_showingRight aK_barring aO aS aT K_warm K_count K_seeds K_blocks K_rivals K_kinds K_bars) hE hK hP hD hS hA [0, 1, 2, 6] rfl rfl (va_recv hK hP (ci := 2) (q0 := 6) rfl rfl)) rfl rfl hl.1 rfl (lv_room (Nat.le_of_ble_eq_true rfl)) dX2_canBeAsked_70 ⟨Nat.le_of_ble_eq_true rfl, Nat.le_of_ble_eq_true rfl⟩) (fun (_ : Unit) => (w_X2_canBeAsked cI cJ cZ cO aK aK_strengths aK_kinds aK_marks aK_faces aK_bars aK_showing aK_showingRight aK_barring aT aT_acts aT_pieces aT_places aT_before aT_since aO aS K_warm K_count K_seeds K_blocks K_rivals K_kinds K_bars T_made T_kept T_fromClear T_acts T_pieces)) [0, 1, 2, 6] [3, 4, 5] (ads := [aK, aK_kinds, aK_bars, aO]) (wr := [(aT, .inr (5, [.int T_made, .int T_kept, .int T_fromClear, .ref aT_acts, .ref aT_pieces, .ref aT_places, .ref aT_before, .ref aT_since])), (aT_acts, .inl (cI, 200, .inl T_acts)), (aT_pieces, .inl (cI, 200, .inl T_pieces))]) rfl rfl (fun u => rfl) (fun u => rfl) rfl (fun u => rfl) rfl (fun u => rfl) rfl hP hD hS hA (fun r70 u H locs hw hP hD hS => ?_)
        have hP : va_P D vwCl (w_X2_canBeAsked cI cJ cZ cO aK aK_strengths aK_kinds aK_marks aK_faces aK_bars aK_showing aK_showingRight aK_barring aT aT_acts aT_pieces aT_places aT_before aT_since aO aS K_warm K_count K_seeds K_blocks K_rivals K_kinds K_bars T_made T_kept T_fromClear T_acts T_pieces) H := hP
        have hD : va_D A (w_X2_canBeAsked cI cJ cZ cO aK aK_strengths aK_kinds aK_marks aK_faces aK_bars aK_showing aK_showingRight aK_barring aT aT_acts aT_pieces aT_places aT_before aT_since aO aS K_warm K_count K_seeds K_blocks K_rivals K_kinds K_bars T_made T_kept T_fromClear T_acts T_pieces) := hD
        refine lv_if_ne (tgt := 78) hx hb dX2_canBeAsked_73 (by decide) (fun c73 => ?_) (fun c73 => ?_)
        · have hw := hw.1 c73
          obtain ⟨v78, e78⟩ : ∃ y : Int32, y = x1 + (1 : Int32) := ⟨_, rfl⟩
          have hw := hw v78 e78
          refine lv_iinc (v := v78) (lv' := [(1, .int v78), (0, .ref aO)]) hx hb dX2_canBeAsked_78 hl (k := 1) rfl (by rw [e78, kI_1]) (by decide) rfl (fun ls hl => ?_)
          refine lv_goto (tgt := 24) hx hb dX2_canBeAsked_81 (by decide) ?_
          exact ih_24 v78 hw H locs hP hD hS ls (lv_sub hl [1, 0] rfl)
        · have hw := hw.2 c73
          refine lv_iconst (v := (0 : Int32)) hx hb dX2_canBeAsked_76 kI_0 ?_
          rw [hZ]
          exact cx_retz () hx hb hr hlocks rfl hw hP hS dX2_canBeAsked_77
      intro x1 hw H locs hP hD hS ls hl
      have hw : wf_X2_canBeAsked_24 K_kinds K_bars T_made T_kept T_fromClear T_acts T_pieces Q (wq_X2_canBeAsked_24 K_kinds K_bars T_made T_kept T_fromClear T_acts T_pieces Q n_24) x1 := hw
      unfold wf_X2_canBeAsked_24 at hw
      refine lv_iload_n hx hb dX2_canBeAsked_24 rfl (lv_at hl 1 rfl) ?_
      refine lv_aload_n hx hb dX2_canBeAsked_25 rfl (lv_at hl 0 rfl) ?_
      refine va_get (D := D) (ci := 2) (v := .ref aT) (C := RX2) (T := TX2) (N := 3) hx hb hts in_X2_canBeAsked_X2 hown hK hP 6 rfl rfl 2 (by decide) k_0 (fun _ h9 => h9) rfl dX2_canBeAsked_26 ?_
      refine va_get (D := D) (ci := 5) (v := .int T_made) (C := RX5) (T := TX5) (N := 8) hx hb hts in_X2_canBeAsked_X5 hown hK hP 3 rfl rfl 0 (by decide) k_2 (fun _ h9 => h9) rfl dX2_canBeAsked_29 ?_
      refine lv_icmp_ge (tgt := 84) hx hb dX2_canBeAsked_32 (by decide) (fun c32 => ?_) (fun c32 => ?_)
      · have hw := hw.1 c32
        refine lv_iconst (v := (1 : Int32)) hx hb dX2_canBeAsked_84 kI_1 ?_
        rw [hZ]
        exact cx_retz () hx hb hr hlocks rfl hw hP hS dX2_canBeAsked_85
      · have hw := hw.2 c32
        refine lv_aload_n hx hb dX2_canBeAsked_35 rfl (lv_at hl 0 rfl) ?_
        refine va_get (D := D) (ci := 2) (v := .ref aT) (C := RX2) (T := TX2) (N := 3) hx hb hts in_X2_canBeAsked_X2 hown hK hP 6 rfl rfl 2 (by decide) k_0 (fun _ h9 => h9) rfl dX2_canBeAsked_36 ?_
        refine va_get (D := D) (ci := 5) (v := .ref aT_acts) (C := RX5) (T := TX5) (N := 8) hx hb hts in_X2_canBeAsked_X5 hown hK hP 3 rfl rfl 3 (by decide) k_3 (fun _ h9 => h9) rfl dX2_canBeAsked_39 ?_
        refine lv_iload_n hx hb dX2_canBeAsked_42 rfl (lv_at hl 1 rfl) ?_
        have h43 := hw.1
        have hw := hw.2
        refine va_iald hx hb hK hP 4 0 rfl rfl h43 dX2_canBeAsked_43 ?_
        refine lv_topi (fun v43 e43 => ?_)
        have hw := hw v43 e43
        refine lv_if_eq (tgt := 60) hx hb dX2_canBeAsked_44 (by decide) (fun c44 => ?_) (fun c44 => ?_)
        · have hw := hw.1 c44
          exact b_60 x1 hw H locs hP hD hS ls (lv_sub hl [0, 1] rfl)
        · have hw := hw.2 c44
          refine lv_aload_n hx hb dX2_canBeAsked_47 rfl (lv_at hl 0 rfl) ?_
          refine va_get (D := D) (ci := 2) (v := .ref aT) (C := RX2) (T := TX2) (N := 3) hx hb hts in_X2_canBeAsked_X2 hown hK hP 6 rfl rfl 2 (by decide) k_0 (fun _ h9 => h9) rfl dX2_canBeAsked_48 ?_
          refine va_get (D := D) (ci := 5) (v := .ref aT_acts) (C := RX5) (T := TX5) (N := 8) hx hb hts in_X2_canBeAsked_X5 hown hK hP 3 rfl rfl 3 (by decide) k_3 (fun _ h9 => h9) rfl dX2_canBeAsked_51 ?_
          refine lv_iload_n hx hb dX2_canBeAsked_54 rfl (lv_at hl 1 rfl) ?_
          have h55 := hw.1
          have hw := hw.2
          refine va_iald hx hb hK hP 4 0 rfl rfl h55 dX2_canBeAsked_55 ?_
          refine lv_topi (fun v55 e55 => ?_)
          have hw := hw v55 e55
          refine lv_iconst (v := (1 : Int32)) hx hb dX2_canBeAsked_56 kI_1 ?_
          refine lv_icmp_ne (tgt := 76) hx hb dX2_canBeAsked_57 (by decide) (fun c57 => ?_) (fun c57 => ?_)
          · have hw := hw.1 c57
            refine lv_iconst (v := (0 : Int32)) hx hb dX2_canBeAsked_76 kI_0 ?_
            rw [hZ]
            exact cx_retz () hx hb hr hlocks rfl hw hP hS dX2_canBeAsked_77
          · have hw := hw.2 c57
            exact b_60 x1 hw H locs hP hD hS ls (lv_sub hl [0, 1] rfl)
  intro H locs hP hD hS ls hl
  unfold wp_X2_canBeAsked at hw
  refine lv_aload_n hx hb dX2_canBeAsked_0 rfl (lv_at hl 0 rfl) ?_
  refine va_get (D := D) (ci := 2) (v := .ref aT) (C := RX2) (T := TX2) (N := 3) hx hb hts in_X2_canBeAsked_X2 hown hK hP 6 rfl rfl 2 (by decide) k_0 (fun _ h9 => h9) rfl dX2_canBeAsked_1 ?_
  refine va_get (D := D) (ci := 5) (v := .int T_fromClear) (C := RX5) (T := TX5) (N := 8) hx hb hts in_X2_canBeAsked_X5 hown hK hP 3 rfl rfl 2 (by decide) k_4 (fun _ h9 => h9) rfl dX2_canBeAsked_4 ?_
  refine lv_if_eq (tgt := 20) hx hb dX2_canBeAsked_7 (by decide) (fun c7 => ?_) (fun c7 => ?_)
  · have hw := hw.1 c7
    refine lv_iconst (v := (0 : Int32)) hx hb dX2_canBeAsked_20 kI_0 ?_
    rw [hZ]
    exact cx_retz () hx hb hr hlocks rfl hw hP hS dX2_canBeAsked_21
  · have hw := hw.2 c7
    refine lv_aload_n hx hb dX2_canBeAsked_10 rfl (lv_at hl 0 rfl) ?_
    refine va_get (D := D) (ci := 2) (v := .ref aT) (C := RX2) (T := TX2) (N := 3) hx hb hts in_X2_canBeAsked_X2 hown hK hP 6 rfl rfl 2 (by decide) k_0 (fun _ h9 => h9) rfl dX2_canBeAsked_11 ?_
    refine cx_goi (va_runV (As := []) (rest := []) ⟨hx, hb, hml, hown, hts⟩ (c_X5_areAllKept l D cI cJ cZ cO tS tT H.size aT aT_acts aT_pieces aT_places aT_before aT_since T_made T_kept T_fromClear _ hw) (cwV 0 hts gX2_canBeAsked_X5_areAllKept rfl rfl rfl pv_X5_areAllKept ⟨Nat.le_of_ble_eq_true rfl, Nat.le_of_ble_eq_true rfl⟩) (cx_preV (wc := w_X5_areAllKept cI cJ cZ cO aT aT_acts aT_pieces aT_places aT_before aT_since T_made T_kept T_fromClear) hE hK hP hD hS hA [3] rfl rfl (va_recv hK hP (ci := 5) (q0 := 3) rfl rfl)) rfl rfl hl.1 rfl (lv_room (Nat.le_of_ble_eq_true rfl)) dX2_canBeAsked_14 ⟨Nat.le_of_ble_eq_true rfl, Nat.le_of_ble_eq_true rfl⟩) (fun (_ : Unit) => (w_X2_canBeAsked cI cJ cZ cO aK aK_strengths aK_kinds aK_marks aK_faces aK_bars aK_showing aK_showingRight aK_barring aT aT_acts aT_pieces aT_places aT_before aT_since aO aS K_warm K_count K_seeds K_blocks K_rivals K_kinds K_bars T_made T_kept T_fromClear T_acts T_pieces)) [3] [0, 1, 2, 4, 5, 6] (ads := [aT]) (wr := [(aK, .inr (1, [.int K_warm, .int K_count, .ref aK_strengths, .ref aK_kinds, .ref aK_marks, .ref aK_faces, .ref aK_bars, .ref aK_showing, .ref aK_showingRight, .ref aK_barring, .long K_seeds, .long K_blocks, .long K_rivals])), (aK_kinds, .inl (cI, 40, .inl K_kinds)), (aK_bars, .inl (cI, 128, .inl K_bars)), (aT_acts, .inl (cI, 200, .inl T_acts)), (aT_pieces, .inl (cI, 200, .inl T_pieces)), (aO, .inr (2, [.ref aK, .ref aS, .ref aT]))]) rfl rfl (fun u => rfl) (fun u => rfl) rfl (fun u => rfl) rfl (fun u => rfl) rfl hP hD hS hA (fun r14 u H locs hw hP hD hS => ?_)
    have hP : va_P D vwCl (w_X2_canBeAsked cI cJ cZ cO aK aK_strengths aK_kinds aK_marks aK_faces aK_bars aK_showing aK_showingRight aK_barring aT aT_acts aT_pieces aT_places aT_before aT_since aO aS K_warm K_count K_seeds K_blocks K_rivals K_kinds K_bars T_made T_kept T_fromClear T_acts T_pieces) H := hP
    have hD : va_D A (w_X2_canBeAsked cI cJ cZ cO aK aK_strengths aK_kinds aK_marks aK_faces aK_bars aK_showing aK_showingRight aK_barring aT aT_acts aT_pieces aT_places aT_before aT_since aO aS K_warm K_count K_seeds K_blocks K_rivals K_kinds K_bars T_made T_kept T_fromClear T_acts T_pieces) := hD
    refine lv_if_ne (tgt := 22) hx hb dX2_canBeAsked_17 (by decide) (fun c17 => ?_) (fun c17 => ?_)
    · have hw := hw.1 c17
      refine lv_iconst (v := (0 : Int32)) hx hb dX2_canBeAsked_22 kI_0 ?_
      refine lv_istore_n (lv' := [(1, .int (0 : Int32)), (0, .ref aO)]) hx hb dX2_canBeAsked_23 rfl hl (by decide) rfl (fun ls hl => ?_)
      obtain ⟨k, hw⟩ := hw
      exact b_24 k (0 : Int32) hw H locs hP hD hS ls (lv_sub hl [1, 0] rfl)
    · have hw := hw.2 c17
      refine lv_iconst (v := (0 : Int32)) hx hb dX2_canBeAsked_20 kI_0 ?_
      rw [hZ]
      exact cx_retz () hx hb hr hlocks rfl hw hP hS dX2_canBeAsked_21
set_option maxRecDepth 100000 in
set_option maxHeartbeats 4000000 in
theorem c_X4_isFree (l : Launch) (D : va_G) (cI cJ cZ cO : ClassId) (tS tT : Nat) (sz : Nat) (aS aK aS_cells aS_fits aS_fitsInLine aS_stale aS_staleCells aS_seen aS_queue : Nat) (S_pieces : Int32) (S_grown : Int32) (S_fitsInAll : Int32) (S_staleCount : Int32) (S_atLeast1 : Int64) (S_atLeast2 : Int64) (S_atLeast3 : Int64) (S_cells : Nat → Int32) (p1 : Int32) (Q : Int32 → Prop) (hw : wp_X4_isFree S_cells p1 Q) : Met l yX4_isFree wsX4_isFree rm_X4_isFree (va_Pc [.ref aS, .int p1] (cx_B tS tT cI cJ cZ cO D sz (w_X4_isFree cI cJ cZ cO aS aK aS_cells aS_fits aS_fitsInLine aS_stale aS_staleCells aS_seen aS_queue S_pieces S_grown S_fitsInAll S_staleCount S_atLeast1 S_atLeast2 S_atLeast3 S_cells))) (va_Qi (fun (r : Int32) (_ : Unit) => Q r) (fun (u : Unit) t => va_P D vwCl (w_X4_isFree cI cJ cZ cO aS aK aS_cells aS_fits aS_fitsInLine aS_stale aS_staleCells aS_seen aS_queue S_pieces S_grown S_fitsInAll S_staleCount S_atLeast1 S_atLeast2 S_atLeast3 S_cells) t.heap) (va_A (w_X4_isFree cI cJ cZ cO aS aK aS_cells aS_fits aS_fitsInLine aS_stale aS_staleCells aS_seen aS_queue S_pieces S_grown S_fitsInAll S_staleCount S_atLeast1 S_atLeast2 S_atLeast3 S_cells) sz)) 0 0 (va_A (w_X4_isFree cI cJ cZ cO aS aK aS_cells aS_fits aS_fitsInLine aS_stale aS_staleCells aS_seen aS_queue S_pieces S_grown S_fitsInAll S_staleCount S_atLeast1 S_atLeast2 S_atLeast3 S_cells) sz) := by
  refine cx_met (cc := cX4_isFree) (maxL := 2) (ret := (some .boolean)) (Qc := fun A => va_Qi (fun (r : Int32) (_ : Unit) => Q r) (fun (u : Unit) t => va_P D vwCl (w_X4_isFree cI cJ cZ cO aS aK aS_cells aS_fits aS_fitsInLine aS_stale aS_staleCells aS_seen aS_queue S_pieces S_grown S_fitsInAll S_staleCount S_atLeast1 S_atLeast2 S_atLeast3 S_cells) t.heap) A) (lv := [(0, .ref aS), (1, .int p1)]) (by decide) rfl (Nat.le_of_ble_eq_true rfl) rfl ?_
  intro p e s m args below meth c A Z hx hb hr hlocks hts hown hml hE hK hA hZ
  have hown : s.vm.findClass RX4 = some m.cls := hown
  have k_0 := hts (.fieldLink RX4 15 "GrowingTiles$Sheet" "cells" "[I") (List.mem_of_getElem? (i := 1) (by decide +kernel))
  intro H locs hP hD hS ls hl
  unfold wp_X4_isFree at hw
  refine lv_aload_n hx hb dX4_isFree_0 rfl (lv_at hl 0 rfl) ?_
  refine va_get (D := D) (ci := 4) (v := .ref aS_cells) (C := RX4) (T := TX4) (N := 15) hx hb hts in_X4_isFree_X4 hown hK hP 0 rfl rfl 1 (by decide) k_0 (fun _ h9 => h9) rfl dX4_isFree_1 ?_
  refine lv_iload_n hx hb dX4_isFree_4 rfl (lv_at hl 1 rfl) ?_
  have h5 := hw.1
  have hw := hw.2
  refine va_iald hx hb hK hP 1 0 rfl rfl h5 dX4_isFree_5 ?_
  refine lv_topi (fun v5 e5 => ?_)
  have hw := hw v5 e5
  refine lv_if_ne (tgt := 13) hx hb dX4_isFree_6 (by decide) (fun c6 => ?_) (fun c6 => ?_)
  · have hw := hw.1 c6
    refine lv_iconst (v := (0 : Int32)) hx hb dX4_isFree_13 kI_0 ?_
    rw [hZ]
    exact cx_retz () hx hb hr hlocks rfl hw hP hS dX4_isFree_14
  · have hw := hw.2 c6
    refine lv_iconst (v := (1 : Int32)) hx hb dX4_isFree_9 kI_1 ?_
    refine lv_goto (tgt := 14) hx hb dX4_isFree_10 (by decide) ?_
    rw [hZ]
    exact cx_retz () hx hb hr hlocks rfl hw hP hS dX4_isFree_14
set_option maxRecDepth 100000 in
set_option maxHeartbeats 4000000 in
theorem c_X2_laterAround (l : Launch) (D : va_G) (cI cJ cZ cO : ClassId) (tS tT : Nat) (sz : Nat) (aS aK aS_cells aS_fits aS_fitsInLine aS_stale aS_staleCells aS_seen aS_queue aT aT_acts aT_pieces aT_places aT_before aT_since aO : Nat) (S_pieces : Int32) (S_grown : Int32) (S_fitsInAll : Int32) (S_staleCount : Int32) (S_atLeast1 : Int64) (S_atLeast2 : Int64) (S_atLeast3 : Int64) (S_cells : Nat → Int32) (T_made : Int32) (T_kept : Int32) (T_fromClear : Int32) (T_since : Nat → Int32) (p1 : Int32) (Q : Int32 → Prop) (hw : wp_X2_laterAround S_cells T_since p1 Q) : Met l yX2_laterAround wsX2_laterAround rm_X2_laterAround (va_Pc [.ref aO, .int p1] (cx_B tS tT cI cJ cZ cO D sz (w_X2_laterAround cI cJ cZ cO aS aK aS_cells aS_fits aS_fitsInLine aS_stale aS_staleCells aS_seen aS_queue aT aT_acts aT_pieces aT_places aT_before aT_since aO S_pieces S_grown S_fitsInAll S_staleCount S_atLeast1 S_atLeast2 S_atLeast3 S_cells T_made T_kept T_fromClear T_since))) (va_Qi (fun (r : Int32) (_ : Unit) => Q r) (fun (u : Unit) t => va_P D vwCl (w_X2_laterAround cI cJ cZ cO aS aK aS_cells aS_fits aS_fitsInLine aS_stale aS_staleCells aS_seen aS_queue aT aT_acts aT_pieces aT_places aT_before aT_since aO S_pieces S_grown S_fitsInAll S_staleCount S_atLeast1 S_atLeast2 S_atLeast3 S_cells T_made T_kept T_fromClear T_since) t.heap) (va_A (w_X2_laterAround cI cJ cZ cO aS aK aS_cells aS_fits aS_fitsInLine aS_stale aS_staleCells aS_seen aS_queue aT aT_acts aT_pieces aT_places aT_before aT_since aO S_pieces S_grown S_fitsInAll S_staleCount S_atLeast1 S_atLeast2 S_atLeast3 S_cells T_made T_kept T_fromClear T_since) sz)) 0 0 (va_A (w_X2_laterAround cI cJ cZ cO aS aK aS_cells aS_fits aS_fitsInLine aS_stale aS_staleCells aS_seen aS_queue aT aT_acts aT_pieces aT_places aT_before aT_since aO S_pieces S_grown S_fitsInAll S_staleCount S_atLeast1 S_atLeast2 S_atLeast3 S_cells T_made T_kept T_fromClear T_since) sz) := by
  refine cx_met (cc := cX2_laterAround) (maxL := 5) (ret := (some .int)) (Qc := fun A => va_Qi (fun (r : Int32) (_ : Unit) => Q r) (fun (u : Unit) t => va_P D vwCl (w_X2_laterAround cI cJ cZ cO aS aK aS_cells aS_fits aS_fitsInLine aS_stale aS_staleCells aS_seen aS_queue aT aT_acts aT_pieces aT_places aT_before aT_since aO S_pieces S_grown S_fitsInAll S_staleCount S_atLeast1 S_atLeast2 S_atLeast3 S_cells T_made T_kept T_fromClear T_since) t.heap) A) (lv := [(0, .ref aO), (1, .int p1)]) (by decide) rfl (Nat.le_of_ble_eq_true rfl) rfl ?_
  intro p e s m args below meth c A Z hx hb hr hlocks hts hown hml hE hK hA hZ
  have hown : s.vm.findClass RX2 = some m.cls := hown
  have k_0 := hts (.fieldLink RX2 15 "GrowingTiles$Order" "sheet" "LGrowingTiles$Sheet;") (List.mem_of_getElem? (i := 1) (by decide +kernel))
  have k_1 := hts (.fieldLink RX2 19 "GrowingTiles$Order" "steps" "LGrowingTiles$Steps;") (List.mem_of_getElem? (i := 2) (by decide +kernel))
  have k_2 := hts (.fieldLink RX2 90 "GrowingTiles$Steps" "since" "[I") (List.mem_of_getElem? (i := 3) (by decide +kernel))
  have b_4 : ∀ n_4 : Nat, ∀ (x1 : Int32) (x2 : Int32) (x3 : Int32), wq_X2_laterAround_4 S_cells T_since Q n_4 x1 x2 x3 → ∀ (H : Heap) (locs : List Loc), va_P D vwCl (w_X2_laterAround cI cJ cZ cO aS aK aS_cells aS_fits aS_fitsInLine aS_stale aS_staleCells aS_seen aS_queue aT aT_acts aT_pieces aT_places aT_before aT_since aO S_pieces S_grown S_fitsInAll S_staleCount S_atLeast1 S_atLeast2 S_atLeast3 S_cells T_made T_kept T_fromClear T_since) H → va_D A (w_X2_laterAround cI cJ cZ cO aS aK aS_cells aS_fits aS_fitsInLine aS_stale aS_staleCells aS_seen aS_queue aT aT_acts aT_pieces aT_places aT_before aT_since aO S_pieces S_grown S_fitsInAll S_staleCount S_atLeast1 S_atLeast2 S_atLeast3 S_cells T_made T_kept T_fromClear T_since) → va_S A s.heap H locs → ∀ ls : Array Slot, lv_has ls 5 [(0, .ref aO), (1, .int x1), (2, .int x2), (3, .int x3)] → W p l e rm_X2_laterAround s m args below meth c H locs 0 0 Z (F0 m 4 ls []) := by
    intro n_4
    induction n_4 with
    | zero => intro x1 x2 x3 hw; exact False.elim hw
    | succ n_4 ih_4 =>
      intro x1 x2 x3 hw H locs hP hD hS ls hl
      have hw : wf_X2_laterAround_4 S_cells T_since Q (wq_X2_laterAround_4 S_cells T_since Q n_4) x1 x2 x3 := hw
      unfold wf_X2_laterAround_4 at hw
      refine lv_iload_n hx hb dX2_laterAround_4 rfl (lv_at hl 3 rfl) ?_
      refine lv_iconst (v := (4 : Int32)) hx hb dX2_laterAround_5 kI_4 ?_
      refine lv_icmp_ge (tgt := 64) hx hb dX2_laterAround_6 (by decide) (fun c6 => ?_) (fun c6 => ?_)
      · have hw := hw.1 c6
        refine lv_iload_n hx hb dX2_laterAround_64 rfl (lv_at hl 2 rfl) ?_
        rw [hZ]
        exact cx_reti () hx hb hr hlocks hw hP hS dX2_laterAround_65
      · have hw := hw.2 c6
        refine lv_iload_n hx hb dX2_laterAround_9 rfl (lv_at hl 1 rfl) ?_
        refine va_getsN hx hb hE.2.1 hS hown (va_Nw.use rfl (hE.1.2.2.2.2.2.2.2.2.2.2.2.1)) (fun _ h9 => h9) dX2_laterAround_10 ?_
        refine lv_iload_n hx hb dX2_laterAround_13 rfl (lv_at hl 3 rfl) ?_
        have h14 := hw.1
        have hw := hw.2
        refine va_ti hx hb hE.2.2.1 hS h14 rfl dX2_laterAround_14 ?_
        refine lv_topi (fun v14 e14 => ?_)
        have hw := hw v14 e14
        refine lv_iadd hx hb dX2_laterAround_15 ?_
        refine lv_topi (fun v16 e16 => ?_)
        have hw := hw v16 e16
        refine lv_istore (lv' := [(4, .int v16), (0, .ref aO), (1, .int x1), (2, .int x2), (3, .int x3)]) hx hb dX2_laterAround_16 hl (by decide) rfl (fun ls hl => ?_)
        refine lv_aload_n hx hb dX2_laterAround_18 rfl (lv_at hl 1 rfl) ?_
        refine va_get (D := D) (ci := 2) (v := .ref aS) (C := RX2) (T := TX2) (N := 3) hx hb hts in_X2_laterAround_X2 hown hK hP 4 rfl rfl 1 (by decide) k_0 (fun _ h9 => h9) rfl dX2_laterAround_19 ?_
        refine lv_iload hx hb dX2_laterAround_22 (lv_at hl 0 rfl) ?_
        refine cx_goi (va_runV (As := [.int v16]) (rest := []) ⟨hx, hb, hml, hown, hts⟩ (c_X4_isFree l D cI cJ cZ cO tS tT H.size aS aK aS_cells aS_fits aS_fitsInLine aS_stale aS_staleCells aS_seen aS_queue S_pieces S_grown S_fitsInAll S_staleCount S_atLeast1 S_atLeast2 S_atLeast3 S_cells v16 _ hw) (cwV 1 hts gX2_laterAround_X4_isFree rfl rfl rfl pv_X4_isFree ⟨Nat.le_of_ble_eq_true rfl, Nat.le_of_ble_eq_true rfl⟩) (cx_preV (wc := w_X4_isFree cI cJ cZ cO aS aK aS_cells aS_fits aS_fitsInLine aS_stale aS_staleCells aS_seen aS_queue S_pieces S_grown S_fitsInAll S_staleCount S_atLeast1 S_atLeast2 S_atLeast3 S_cells) hE hK hP hD hS hA [0, 1] rfl rfl (va_recv hK hP (ci := 4) (q0 := 0) rfl rfl)) rfl rfl hl.1 rfl (lv_room (Nat.le_of_ble_eq_true rfl)) dX2_laterAround_24 ⟨Nat.le_of_ble_eq_true rfl, Nat.le_of_ble_eq_true rfl⟩) (fun (_ : Unit) => (w_X2_laterAround cI cJ cZ cO aS aK aS_cells aS_fits aS_fitsInLine aS_stale aS_staleCells aS_seen aS_queue aT aT_acts aT_pieces aT_places aT_before aT_since aO S_pieces S_grown S_fitsInAll S_staleCount S_atLeast1 S_atLeast2 S_atLeast3 S_cells T_made T_kept T_fromClear T_since)) [0, 1] [2, 3, 4] (ads := [aS, aS_cells]) (wr := [(aT, .inr (5, [.int T_made, .int T_kept, .int T_fromClear, .ref aT_acts, .ref aT_pieces, .ref aT_places, .ref aT_before, .ref aT_since])), (aT_since, .inl (cI, 324, .inl T_since)), (aO, .inr (2, [.ref aK, .ref aS, .ref aT]))]) rfl rfl (fun u => rfl) (fun u => rfl) rfl (fun u => rfl) rfl (fun u => rfl) rfl hP hD hS hA (fun r24 u H locs hw hP hD hS => ?_)
        have hP : va_P D vwCl (w_X2_laterAround cI cJ cZ cO aS aK aS_cells aS_fits aS_fitsInLine aS_stale aS_staleCells aS_seen aS_queue aT aT_acts aT_pieces aT_places aT_before aT_since aO S_pieces S_grown S_fitsInAll S_staleCount S_atLeast1 S_atLeast2 S_atLeast3 S_cells T_made T_kept T_fromClear T_since) H := hP
        have hD : va_D A (w_X2_laterAround cI cJ cZ cO aS aK aS_cells aS_fits aS_fitsInLine aS_stale aS_staleCells aS_seen aS_queue aT aT_acts aT_pieces aT_places aT_before aT_since aO S_pieces S_grown S_fitsInAll S_staleCount S_atLeast1 S_atLeast2 S_atLeast3 S_cells T_made T_kept T_fromClear T_since) := hD
        refine lv_if_ne (tgt := 58) hx hb dX2_laterAround_27 (by decide) (fun c27 => ?_) (fun c27 => ?_)
        · have hw := hw.1 c27
          obtain ⟨v58, e58⟩ : ∃ y : Int32, y = x3 + (1 : Int32) := ⟨_, rfl⟩
          have hw := hw v58 e58
          refine lv_iinc (v := v58) (lv' := [(3, .int v58), (4, .int v16), (0, .ref aO), (1, .int x1), (2, .int x2)]) hx hb dX2_laterAround_58 hl (k := 4) rfl (by rw [e58, kI_1]) (by decide) rfl (fun ls hl => ?_)
          refine lv_goto (tgt := 4) hx hb dX2_laterAround_61 (by decide) ?_
          exact ih_4 x1 x2 v58 hw H locs hP hD hS ls (lv_sub hl [2, 3, 4, 0] rfl)
        · have hw := hw.2 c27
          refine lv_aload_n hx hb dX2_laterAround_30 rfl (lv_at hl 1 rfl) ?_
          refine va_get (D := D) (ci := 2) (v := .ref aT) (C := RX2) (T := TX2) (N := 3) hx hb hts in_X2_laterAround_X2 hown hK hP 4 rfl rfl 2 (by decide) k_1 (fun _ h9 => h9) rfl dX2_laterAround_31 ?_
          refine va_get (D := D) (ci := 5) (v := .ref aT_since) (C := RX5) (T := TX5) (N := 8) hx hb hts in_X2_laterAround_X5 hown hK hP 2 rfl rfl 7 (by decide) k_2 (fun _ h9 => h9) rfl dX2_laterAround_34 ?_
          refine lv_iload hx hb dX2_laterAround_37 (lv_at hl 0 rfl) ?_
          have h39 := hw.1
          have hw := hw.2
          refine va_iald hx hb hK hP 3 0 rfl rfl h39 dX2_laterAround_39 ?_
          refine lv_topi (fun v39 e39 => ?_)
          have hw := hw v39 e39
          refine lv_aload_n hx hb dX2_laterAround_40 rfl (lv_at hl 1 rfl) ?_
          refine va_get (D := D) (ci := 2) (v := .ref aT) (C := RX2) (T := TX2) (N := 3) hx hb hts in_X2_laterAround_X2 hown hK hP 4 rfl rfl 2 (by decide) k_1 (fun _ h9 => h9) rfl dX2_laterAround_41 ?_
          refine va_get (D := D) (ci := 5) (v := .ref aT_since) (C := RX5) (T := TX5) (N := 8) hx hb hts in_X2_laterAround_X5 hown hK hP 2 rfl rfl 7 (by decide) k_2 (fun _ h9 => h9) rfl dX2_laterAround_44 ?_
          refine lv_iload_n hx hb dX2_laterAround_47 rfl (lv_at hl 2 rfl) ?_
          have h48 := hw.1
          have hw := hw.2
          refine va_iald hx hb hK hP 3 0 rfl rfl h48 dX2_laterAround_48 ?_
          refine lv_topi (fun v48 e48 => ?_)
          have hw := hw v48 e48
          refine lv_icmp_le (tgt := 58) hx hb dX2_laterAround_49 (by decide) (fun c49 => ?_) (fun c49 => ?_)
          · have hw := hw.1 c49
            obtain ⟨v58, e58⟩ : ∃ y : Int32, y = x3 + (1 : Int32) := ⟨_, rfl⟩
            have hw := hw v58 e58
            refine lv_iinc (v := v58) (lv' := [(3, .int v58), (4, .int v16), (0, .ref aO), (1, .int x1), (2, .int x2)]) hx hb dX2_laterAround_58 hl (k := 4) rfl (by rw [e58, kI_1]) (by decide) rfl (fun ls hl => ?_)
            refine lv_goto (tgt := 4) hx hb dX2_laterAround_61 (by decide) ?_
            exact ih_4 x1 x2 v58 hw H locs hP hD hS ls (lv_sub hl [2, 3, 4, 0] rfl)
          · have hw := hw.2 c49
            refine lv_iload_n hx hb dX2_laterAround_52 rfl (lv_at hl 3 rfl) ?_
            refine lv_iconst (v := (1 : Int32)) hx hb dX2_laterAround_53 kI_1 ?_
            refine lv_iload_n hx hb dX2_laterAround_54 rfl (lv_at hl 4 rfl) ?_
            refine lv_ishl hx hb dX2_laterAround_55 ?_
            refine lv_ior hx hb dX2_laterAround_56 ?_
            refine lv_topi (fun v57 e57 => ?_)
            have hw := hw v57 e57
            refine lv_istore_n (lv' := [(2, .int v57), (4, .int v16), (0, .ref aO), (1, .int x1), (3, .int x3)]) hx hb dX2_laterAround_57 rfl hl (by decide) rfl (fun ls hl => ?_)
            obtain ⟨v58, e58⟩ : ∃ y : Int32, y = x3 + (1 : Int32) := ⟨_, rfl⟩
            have hw := hw v58 e58
            refine lv_iinc (v := v58) (lv' := [(3, .int v58), (2, .int v57), (4, .int v16), (0, .ref aO), (1, .int x1)]) hx hb dX2_laterAround_58 hl (k := 4) rfl (by rw [e58, kI_1]) (by decide) rfl (fun ls hl => ?_)
            refine lv_goto (tgt := 4) hx hb dX2_laterAround_61 (by decide) ?_
            exact ih_4 x1 v57 v58 hw H locs hP hD hS ls (lv_sub hl [3, 4, 1, 0] rfl)
  intro H locs hP hD hS ls hl
  unfold wp_X2_laterAround at hw
  refine lv_iconst (v := (0 : Int32)) hx hb dX2_laterAround_0 kI_0 ?_
  refine lv_istore_n (lv' := [(2, .int (0 : Int32)), (0, .ref aO), (1, .int p1)]) hx hb dX2_laterAround_1 rfl hl (by decide) rfl (fun ls hl => ?_)
  refine lv_iconst (v := (0 : Int32)) hx hb dX2_laterAround_2 kI_0 ?_
  refine lv_istore_n (lv' := [(3, .int (0 : Int32)), (2, .int (0 : Int32)), (0, .ref aO), (1, .int p1)]) hx hb dX2_laterAround_3 rfl hl (by decide) rfl (fun ls hl => ?_)
  obtain ⟨k, hw⟩ := hw
  exact b_4 k p1 (0 : Int32) (0 : Int32) hw H locs hP hD hS ls (lv_sub hl [2, 3, 1, 0] rfl)
set_option maxRecDepth 100000 in
set_option maxHeartbeats 4000000 in
theorem c_X4_strengthAt (l : Launch) (D : va_G) (cI cJ cZ cO : ClassId) (tS tT : Nat) (sz : Nat) (aK aK_strengths aK_kinds aK_marks aK_faces aK_bars aK_showing aK_showingRight aK_barring aS aS_cells aS_fits aS_fitsInLine aS_stale aS_staleCells aS_seen aS_queue : Nat) (K_warm : Int32) (K_count : Int32) (K_seeds : Int64) (K_blocks : Int64) (K_rivals : Int64) (K_strengths : Nat → Int32) (K_faces : Nat → Int32) (S_pieces : Int32) (S_grown : Int32) (S_fitsInAll : Int32) (S_staleCount : Int32) (S_atLeast1 : Int64) (S_atLeast2 : Int64) (S_atLeast3 : Int64) (S_cells : Nat → Int32) (p1 : Int32) (p2 : Int32) (p3 : Int32) (Q : Int32 → Prop) (hw : wp_X4_strengthAt K_strengths K_faces S_cells p1 p2 p3 Q) : Met l yX4_strengthAt wsX4_strengthAt rm_X4_strengthAt (va_Pc [.ref aS, .int p1, .int p2, .int p3] (cx_B tS tT cI cJ cZ cO D sz (w_X4_strengthAt cI cJ cZ cO aK aK_strengths aK_kinds aK_marks aK_faces aK_bars aK_showing aK_showingRight aK_barring aS aS_cells aS_fits aS_fitsInLine aS_stale aS_staleCells aS_seen aS_queue K_warm K_count K_seeds K_blocks K_rivals K_strengths K_faces S_pieces S_grown S_fitsInAll S_staleCount S_atLeast1 S_atLeast2 S_atLeast3 S_cells))) (va_Qi (fun (r : Int32) (_ : Unit) => Q r) (fun (u : Unit) t => va_P D vwCl (w_X4_strengthAt cI cJ cZ cO aK aK_strengths aK_kinds aK_marks aK_faces aK_bars aK_showing aK_showingRight aK_barring aS aS_cells aS_fits aS_fitsInLine aS_stale aS_staleCells aS_seen aS_queue K_warm K_count K_seeds K_blocks K_rivals K_strengths K_faces S_pieces S_grown S_fitsInAll S_staleCount S_atLeast1 S_atLeast2 S_atLeast3 S_cells) t.heap) (va_A (w_X4_strengthAt cI cJ cZ cO aK aK_strengths aK_kinds aK_marks aK_faces aK_bars aK_showing aK_showingRight aK_barring aS aS_cells aS_fits aS_fitsInLine aS_stale aS_staleCells aS_seen aS_queue K_warm K_count K_seeds K_blocks K_rivals K_strengths K_faces S_pieces S_grown S_fitsInAll S_staleCount S_atLeast1 S_atLeast2 S_atLeast3 S_cells) sz)) 0 0 (va_A (w_X4_strengthAt cI cJ cZ cO aK aK_strengths aK_kinds aK_marks aK_faces aK_bars aK_showing aK_showingRight aK_barring aS aS_cells aS_fits aS_fitsInLine aS_stale aS_staleCells aS_seen aS_queue K_warm K_count K_seeds K_blocks K_rivals K_strengths K_faces S_pieces S_grown S_fitsInAll S_staleCount S_atLeast1 S_atLeast2 S_atLeast3 S_cells) sz) := by
  refine cx_met (cc := cX4_strengthAt) (maxL := 6) (ret := (some .int)) (Qc := fun A => va_Qi (fun (r : Int32) (_ : Unit) => Q r) (fun (u : Unit) t => va_P D vwCl (w_X4_strengthAt cI cJ cZ cO aK aK_strengths aK_kinds aK_marks aK_faces aK_bars aK_showing aK_showingRight aK_barring aS aS_cells aS_fits aS_fitsInLine aS_stale aS_staleCells aS_seen aS_queue K_warm K_count K_seeds K_blocks K_rivals K_strengths K_faces S_pieces S_grown S_fitsInAll S_staleCount S_atLeast1 S_atLeast2 S_atLeast3 S_cells) t.heap) A) (lv := [(0, .ref aS), (1, .int p1), (2, .int p2), (3, .int p3)]) (by decide) rfl (Nat.le_of_ble_eq_true rfl) rfl ?_
  intro p e s m args below meth c A Z hx hb hr hlocks hts hown hml hE hK hA hZ
  have hown : s.vm.findClass RX4 = some m.cls := hown
  have k_0 := hts (.fieldLink RX4 9 "GrowingTiles$Sheet" "kit" "LGrowingTiles$Kit;") (List.mem_of_getElem? (i := 1) (by decide +kernel))
  have k_1 := hts (.fieldLink RX4 173 "GrowingTiles$Kit" "faces" "[I") (List.mem_of_getElem? (i := 2) (by decide +kernel))
  have k_2 := hts (.fieldLink RX4 15 "GrowingTiles$Sheet" "cells" "[I") (List.mem_of_getElem? (i := 3) (by decide +kernel))
  have k_3 := hts (.fieldLink RX4 176 "GrowingTiles$Kit" "strengths" "[I") (List.mem_of_getElem? (i := 4) (by decide +kernel))
  intro H locs hP hD hS ls hl
  unfold wp_X4_strengthAt at hw
  refine lv_aload_n hx hb dX4_strengthAt_0 rfl (lv_at hl 0 rfl) ?_
  refine va_get (D := D) (ci := 4) (v := .ref aK) (C := RX4) (T := TX4) (N := 15) hx hb hts in_X4_strengthAt_X4 hown hK hP 3 rfl rfl 0 (by decide) k_0 (fun _ h9 => h9) rfl dX4_strengthAt_1 ?_
  refine va_get (D := D) (ci := 1) (v := .ref aK_faces) (C := RX1) (T := TX1) (N := 13) hx hb hts in_X4_strengthAt_X1 hown hK hP 0 rfl rfl 5 (by decide) k_1 (fun _ h9 => h9) rfl dX4_strengthAt_4 ?_
  refine lv_iconst (v := (4 : Int32)) hx hb dX4_strengthAt_7 kI_4 ?_
  refine lv_iload_n hx hb dX4_strengthAt_8 rfl (lv_at hl 1 rfl) ?_
  refine lv_imul hx hb dX4_strengthAt_9 ?_
  refine lv_iload_n hx hb dX4_strengthAt_10 rfl (lv_at hl 3 rfl) ?_
  refine lv_iadd hx hb dX4_strengthAt_11 ?_
  have h12 := hw.1
  have hw := hw.2
  refine va_iald hx hb hK hP 2 0 rfl rfl h12 dX4_strengthAt_12 ?_
  refine lv_topi (fun v12 e12 => ?_)
  have hw := hw v12 e12
  refine lv_istore (lv' := [(4, .int v12), (0, .ref aS), (1, .int p1), (2, .int p2), (3, .int p3)]) hx hb dX4_strengthAt_13 hl (by decide) rfl (fun ls hl => ?_)
  refine lv_aload_n hx hb dX4_strengthAt_15 rfl (lv_at hl 1 rfl) ?_
  refine va_get (D := D) (ci := 4) (v := .ref aS_cells) (C := RX4) (T := TX4) (N := 15) hx hb hts in_X4_strengthAt_X4 hown hK hP 3 rfl rfl 1 (by decide) k_2 (fun _ h9 => h9) rfl dX4_strengthAt_16 ?_
  refine lv_iload_n hx hb dX4_strengthAt_19 rfl (lv_at hl 3 rfl) ?_
  refine va_getsN hx hb hE.2.1 hS hown (va_Nw.use rfl (hE.1.2.2.2.2.1)) (fun _ h9 => h9) dX4_strengthAt_20 ?_
  refine lv_iload_n hx hb dX4_strengthAt_23 rfl (lv_at hl 4 rfl) ?_
  have h24 := hw.1
  have hw := hw.2
  refine va_ti hx hb hE.2.2.1 hS h24 rfl dX4_strengthAt_24 ?_
  refine lv_topi (fun v24 e24 => ?_)
  have hw := hw v24 e24
  refine lv_iadd hx hb dX4_strengthAt_25 ?_
  have h26 := hw.1
  have hw := hw.2
  refine va_iald hx hb hK hP 4 0 rfl rfl h26 dX4_strengthAt_26 ?_
  refine lv_topi (fun v26 e26 => ?_)
  have hw := hw v26 e26
  refine lv_istore (lv' := [(5, .int v26), (4, .int v12), (0, .ref aS), (1, .int p1), (2, .int p2), (3, .int p3)]) hx hb dX4_strengthAt_27 hl (by decide) rfl (fun ls hl => ?_)
  refine lv_aload_n hx hb dX4_strengthAt_29 rfl (lv_at hl 2 rfl) ?_
  refine va_get (D := D) (ci := 4) (v := .ref aK) (C := RX4) (T := TX4) (N := 15) hx hb hts in_X4_strengthAt_X4 hown hK hP 3 rfl rfl 0 (by decide) k_0 (fun _ h9 => h9) rfl dX4_strengthAt_30 ?_
  refine va_get (D := D) (ci := 1) (v := .ref aK_faces) (C := RX1) (T := TX1) (N := 13) hx hb hts in_X4_strengthAt_X1 hown hK hP 0 rfl rfl 5 (by decide) k_1 (fun _ h9 => h9) rfl dX4_strengthAt_33 ?_
  refine lv_iconst (v := (4 : Int32)) hx hb dX4_strengthAt_36 kI_4 ?_
  refine lv_iload hx hb dX4_strengthAt_37 (lv_at hl 0 rfl) ?_
  refine lv_imul hx hb dX4_strengthAt_39 ?_
  refine lv_iload_n hx hb dX4_strengthAt_40 rfl (lv_at hl 5 rfl) ?_
  refine lv_iconst (v := (2 : Int32)) hx hb dX4_strengthAt_41 kI_2 ?_
  refine lv_ixor hx hb dX4_strengthAt_42 ?_
  refine lv_iadd hx hb dX4_strengthAt_43 ?_
  have h44 := hw.1
  have hw := hw.2
  refine va_iald hx hb hK hP 2 0 rfl rfl h44 dX4_strengthAt_44 ?_
  refine lv_topi (fun v44 e44 => ?_)
  have hw := hw v44 e44
  refine lv_iload hx hb dX4_strengthAt_45 (lv_at hl 1 rfl) ?_
  refine lv_icmp_ne (tgt := 63) hx hb dX4_strengthAt_47 (by decide) (fun c47 => ?_) (fun c47 => ?_)
  · have hw := hw.1 c47
    refine lv_iconst (v := (0 : Int32)) hx hb dX4_strengthAt_63 kI_0 ?_
    rw [hZ]
    exact cx_reti () hx hb hr hlocks hw hP hS dX4_strengthAt_64
  · have hw := hw.2 c47
    refine lv_aload_n hx hb dX4_strengthAt_50 rfl (lv_at hl 2 rfl) ?_
    refine va_get (D := D) (ci := 4) (v := .ref aK) (C := RX4) (T := TX4) (N := 15) hx hb hts in_X4_strengthAt_X4 hown hK hP 3 rfl rfl 0 (by decide) k_0 (fun _ h9 => h9) rfl dX4_strengthAt_51 ?_
    refine va_get (D := D) (ci := 1) (v := .ref aK_strengths) (C := RX1) (T := TX1) (N := 13) hx hb hts in_X4_strengthAt_X1 hown hK hP 0 rfl rfl 2 (by decide) k_3 (fun _ h9 => h9) rfl dX4_strengthAt_54 ?_
    refine lv_iload hx hb dX4_strengthAt_57 (lv_at hl 1 rfl) ?_
    have h59 := hw.1
    have hw := hw.2
    refine va_iald hx hb hK hP 1 0 rfl rfl h59 dX4_strengthAt_59 ?_
    refine lv_topi (fun v59 e59 => ?_)
    have hw := hw v59 e59
    refine lv_goto (tgt := 64) hx hb dX4_strengthAt_60 (by decide) ?_
    rw [hZ]
    exact cx_reti () hx hb hr hlocks hw hP hS dX4_strengthAt_64
set_option maxRecDepth 100000 in
set_option maxHeartbeats 4000000 in
theorem c_X4_holdOfCode (l : Launch) (D : va_G) (cI cJ cZ cO : ClassId) (tS tT : Nat) (sz : Nat) (aK aK_strengths aK_kinds aK_marks aK_faces aK_bars aK_showing aK_showingRight aK_barring aS aS_cells aS_fits aS_fitsInLine aS_stale aS_staleCells aS_seen aS_queue : Nat) (K_warm : Int32) (K_count : Int32) (K_seeds : Int64) (K_blocks : Int64) (K_rivals : Int64) (K_strengths : Nat → Int32) (K_faces : Nat → Int32) (S_pieces : Int32) (S_grown : Int32) (S_fitsInAll : Int32) (S_staleCount : Int32) (S_atLeast1 : Int64) (S_atLeast2 : Int64) (S_atLeast3 : Int64) (S_cells : Nat → Int32) (p1 : Int32) (p2 : Int32) (p3 : Int32) (Q : Int32 → Prop) (hw : wp_X4_holdOfCode K_strengths K_faces S_cells p1 p2 p3 Q) : Met l yX4_holdOfCode wsX4_holdOfCode rm_X4_holdOfCode (va_Pc [.ref aS, .int p1, .int p2, .int p3] (cx_B tS tT cI cJ cZ cO D sz (w_X4_holdOfCode cI cJ cZ cO aK aK_strengths aK_kinds aK_marks aK_faces aK_bars aK_showing aK_showingRight aK_barring aS aS_cells aS_fits aS_fitsInLine aS_stale aS_staleCells aS_seen aS_queue K_warm K_count K_seeds K_blocks K_rivals K_strengths K_faces S_pieces S_grown S_fitsInAll S_staleCount S_atLeast1 S_atLeast2 S_atLeast3 S_cells))) (va_Qi (fun (r : Int32) (_ : Unit) => Q r) (fun (u : Unit) t => va_P D vwCl (w_X4_holdOfCode cI cJ cZ cO aK aK_strengths aK_kinds aK_marks aK_faces aK_bars aK_showing aK_showingRight aK_barring aS aS_cells aS_fits aS_fitsInLine aS_stale aS_staleCells aS_seen aS_queue K_warm K_count K_seeds K_blocks K_rivals K_strengths K_faces S_pieces S_grown S_fitsInAll S_staleCount S_atLeast1 S_atLeast2 S_atLeast3 S_cells) t.heap) (va_A (w_X4_holdOfCode cI cJ cZ cO aK aK_strengths aK_kinds aK_marks aK_faces aK_bars aK_showing aK_showingRight aK_barring aS aS_cells aS_fits aS_fitsInLine aS_stale aS_staleCells aS_seen aS_queue K_warm K_count K_seeds K_blocks K_rivals K_strengths K_faces S_pieces S_grown S_fitsInAll S_staleCount S_atLeast1 S_atLeast2 S_atLeast3 S_cells) sz)) 0 0 (va_A (w_X4_holdOfCode cI cJ cZ cO aK aK_strengths aK_kinds aK_marks aK_faces aK_bars aK_showing aK_showingRight aK_barring aS aS_cells aS_fits aS_fitsInLine aS_stale aS_staleCells aS_seen aS_queue K_warm K_count K_seeds K_blocks K_rivals K_strengths K_faces S_pieces S_grown S_fitsInAll S_staleCount S_atLeast1 S_atLeast2 S_atLeast3 S_cells) sz) := by
  refine cx_met (cc := cX4_holdOfCode) (maxL := 6) (ret := (some .int)) (Qc := fun A => va_Qi (fun (r : Int32) (_ : Unit) => Q r) (fun (u : Unit) t => va_P D vwCl (w_X4_holdOfCode cI cJ cZ cO aK aK_strengths aK_kinds aK_marks aK_faces aK_bars aK_showing aK_showingRight aK_barring aS aS_cells aS_fits aS_fitsInLine aS_stale aS_staleCells aS_seen aS_queue K_warm K_count K_seeds K_blocks K_rivals K_strengths K_faces S_pieces S_grown S_fitsInAll S_staleCount S_atLeast1 S_atLeast2 S_atLeast3 S_cells) t.heap) A) (lv := [(0, .ref aS), (1, .int p1), (2, .int p2), (3, .int p3)]) (by decide) rfl (Nat.le_of_ble_eq_true rfl) rfl ?_
  intro p e s m args below meth c A Z hx hb hr hlocks hts hown hml hE hK hA hZ
  have hown : s.vm.findClass RX4 = some m.cls := hown
  have k_0 := hts (.initialized RX7) (List.mem_of_getElem? (i := 2) (by decide +kernel))
  have k_1 := hts (.static yX7_bitOf) (List.mem_of_getElem? (i := 1) (by decide +kernel))
  have b_6 : ∀ n_6 : Nat, ∀ (x1 : Int32) (x2 : Int32) (x3 : Int32) (x4 : Int32) (x5 : Int32), wq_X4_holdOfCode_6 K_strengths K_faces S_cells Q n_6 x1 x2 x3 x4 x5 → ∀ (H : Heap) (locs : List Loc), va_P D vwCl (w_X4_holdOfCode cI cJ cZ cO aK aK_strengths aK_kinds aK_marks aK_faces aK_bars aK_showing aK_showingRight aK_barring aS aS_cells aS_fits aS_fitsInLine aS_stale aS_staleCells aS_seen aS_queue K_warm K_count K_seeds K_blocks K_rivals K_strengths K_faces S_pieces S_grown S_fitsInAll S_staleCount S_atLeast1 S_atLeast2 S_atLeast3 S_cells) H → va_D A (w_X4_holdOfCode cI cJ cZ cO aK aK_strengths aK_kinds aK_marks aK_faces aK_bars aK_showing aK_showingRight aK_barring aS aS_cells aS_fits aS_fitsInLine aS_stale aS_staleCells aS_seen aS_queue K_warm K_count K_seeds K_blocks K_rivals K_strengths K_faces S_pieces S_grown S_fitsInAll S_staleCount S_atLeast1 S_atLeast2 S_atLeast3 S_cells) → va_S A s.heap H locs → ∀ ls : Array Slot, lv_has ls 6 [(0, .ref aS), (1, .int x1), (2, .int x2), (3, .int x3), (4, .int x4), (5, .int x5)] → W p l e rm_X4_holdOfCode s m args below meth c H locs 0 0 Z (F0 m 6 ls []) := by
    intro n_6
    induction n_6 with
    | zero => intro x1 x2 x3 x4 x5 hw; exact False.elim hw
    | succ n_6 ih_6 =>
      intro x1 x2 x3 x4 x5 hw H locs hP hD hS ls hl
      have hw : wf_X4_holdOfCode_6 K_strengths K_faces S_cells Q (wq_X4_holdOfCode_6 K_strengths K_faces S_cells Q n_6) x1 x2 x3 x4 x5 := hw
      unfold wf_X4_holdOfCode_6 at hw
      refine lv_iload hx hb dX4_holdOfCode_6 (lv_at hl 5 rfl) ?_
      refine lv_iconst (v := (4 : Int32)) hx hb dX4_holdOfCode_8 kI_4 ?_
      refine lv_icmp_ge (tgt := 40) hx hb dX4_holdOfCode_9 (by decide) (fun c9 => ?_) (fun c9 => ?_)
      · have hw := hw.1 c9
        refine lv_iload hx hb dX4_holdOfCode_40 (lv_at hl 4 rfl) ?_
        rw [hZ]
        exact cx_reti () hx hb hr hlocks hw hP hS dX4_holdOfCode_42
      · have hw := hw.2 c9
        refine lv_iload_n hx hb dX4_holdOfCode_12 rfl (lv_at hl 3 rfl) ?_
        refine lv_iload hx hb dX4_holdOfCode_13 (lv_at hl 5 rfl) ?_
        refine cx_goi (va_runSN (As := [.int x3, .int x5]) (rest := []) ⟨hx, hb, hml, hown, hts⟩ (c_X7_bitOf l D cI cJ cZ cO tS tT H.size x3 x5 _ hw) ⟨va_cnB 2 hts gX4_holdOfCode_X7_bitOf_n170 rfl rfl rfl (hE.1.2.2.2.2.2.1) k_0 ps_X7_bitOf ⟨Nat.le_of_ble_eq_true rfl, Nat.le_of_ble_eq_true rfl⟩, k_1, trivial⟩ (cx_preS (wc := w_X7_bitOf) hE hK hP hD hS hA [] rfl rfl) rfl rfl hl.1 rfl (lv_room (Nat.le_of_ble_eq_true rfl)) dX4_holdOfCode_15 ⟨Nat.le_of_ble_eq_true rfl, Nat.le_of_ble_eq_true rfl⟩) (fun (_ : Unit) => (w_X4_holdOfCode cI cJ cZ cO aK aK_strengths aK_kinds aK_marks aK_faces aK_bars aK_showing aK_showingRight aK_barring aS aS_cells aS_fits aS_fitsInLine aS_stale aS_staleCells aS_seen aS_queue K_warm K_count K_seeds K_blocks K_rivals K_strengths K_faces S_pieces S_grown S_fitsInAll S_staleCount S_atLeast1 S_atLeast2 S_atLeast3 S_cells)) [] [0, 1, 2, 3, 4] (ads := []) (wr := [(aK, .inr (1, [.int K_warm, .int K_count, .ref aK_strengths, .ref aK_kinds, .ref aK_marks, .ref aK_faces, .ref aK_bars, .ref aK_showing, .ref aK_showingRight, .ref aK_barring, .long K_seeds, .long K_blocks, .long K_rivals])), (aK_strengths, .inl (cI, 51, .inl K_strengths)), (aK_faces, .inl (cI, 512, .inl K_faces)), (aS, .inr (4, [.ref aK, .ref aS_cells, .int S_pieces, .int S_grown, .ref aS_fits, .ref aS_fitsInLine, .int S_fitsInAll, .ref aS_stale, .ref aS_staleCells, .int S_staleCount, .long S_atLeast1, .long S_atLeast2, .long S_atLeast3, .ref aS_seen, .ref aS_queue])), (aS_cells, .inl (cI, 324, .inl S_cells))]) rfl rfl (fun u => rfl) (fun u => rfl) rfl (fun u => rfl) rfl (fun u => rfl) rfl hP hD hS hA (fun r15 u H locs hw hP hD hS => ?_)
        refine lv_if_ne (tgt := 34) hx hb dX4_holdOfCode_18 (by decide) (fun c18 => ?_) (fun c18 => ?_)
        · have hw := hw.1 c18
          obtain ⟨v34, e34⟩ : ∃ y : Int32, y = x5 + (1 : Int32) := ⟨_, rfl⟩
          have hw := hw v34 e34
          refine lv_iinc (v := v34) (lv' := [(5, .int v34), (0, .ref aS), (1, .int x1), (2, .int x2), (3, .int x3), (4, .int x4)]) hx hb dX4_holdOfCode_34 hl (k := 5) rfl (by rw [e34, kI_1]) (by decide) rfl (fun ls hl => ?_)
          refine lv_goto (tgt := 6) hx hb dX4_holdOfCode_37 (by decide) ?_
          exact ih_6 x1 x2 x3 x4 v34 hw H locs hP hD hS ls (lv_sub hl [1, 2, 3, 4, 5, 0] rfl)
        · have hw := hw.2 c18
          refine lv_iload hx hb dX4_holdOfCode_21 (lv_at hl 4 rfl) ?_
          refine lv_aload_n hx hb dX4_holdOfCode_23 rfl (lv_at hl 0 rfl) ?_
          refine lv_iload_n hx hb dX4_holdOfCode_24 rfl (lv_at hl 1 rfl) ?_
          refine lv_iload_n hx hb dX4_holdOfCode_25 rfl (lv_at hl 2 rfl) ?_
          refine lv_iload hx hb dX4_holdOfCode_26 (lv_at hl 5 rfl) ?_
          refine cx_goi (va_runV (As := [.int x1, .int x2, .int x5]) (rest := [.int x4]) ⟨hx, hb, hml, hown, hts⟩ (c_X4_strengthAt l D cI cJ cZ cO tS tT H.size aK aK_strengths aK_kinds aK_marks aK_faces aK_bars aK_showing aK_showingRight aK_barring aS aS_cells aS_fits aS_fitsInLine aS_stale aS_staleCells aS_seen aS_queue K_warm K_count K_seeds K_blocks K_rivals K_strengths K_faces S_pieces S_grown S_fitsInAll S_staleCount S_atLeast1 S_atLeast2 S_atLeast3 S_cells x1 x2 x5 _ hw) (cwV 3 hts gX4_holdOfCode_X4_strengthAt rfl rfl rfl pv_X4_strengthAt ⟨Nat.le_of_ble_eq_true rfl, Nat.le_of_ble_eq_true rfl⟩) (cx_preV (wc := w_X4_strengthAt cI cJ cZ cO aK aK_strengths aK_kinds aK_marks aK_faces aK_bars aK_showing aK_showingRight aK_barring aS aS_cells aS_fits aS_fitsInLine aS_stale aS_staleCells aS_seen aS_queue K_warm K_count K_seeds K_blocks K_rivals K_strengths K_faces S_pieces S_grown S_fitsInAll S_staleCount S_atLeast1 S_atLeast2 S_atLeast3 S_cells) hE hK hP hD hS hA [0, 1, 2, 3, 4] rfl rfl (va_recv hK hP (ci := 4) (q0 := 3) rfl rfl)) rfl rfl hl.1 rfl (lv_room (Nat.le_of_ble_eq_true rfl)) dX4_holdOfCode_28 ⟨Nat.le_of_ble_eq_true rfl, Nat.le_of_ble_eq_true rfl⟩) (fun (_ : Unit) => (w_X4_holdOfCode cI cJ cZ cO aK aK_strengths aK_kinds aK_marks aK_faces aK_bars aK_showing aK_showingRight aK_barring aS aS_cells aS_fits aS_fitsInLine aS_stale aS_staleCells aS_seen aS_queue K_warm K_count K_seeds K_blocks K_rivals K_strengths K_faces S_pieces S_grown S_fitsInAll S_staleCount S_atLeast1 S_atLeast2 S_atLeast3 S_cells)) [0, 1, 2, 3, 4] [] (ads := [aK, aK_strengths, aK_faces, aS, aS_cells]) (wr := []) rfl rfl (fun u => rfl) (fun u => rfl) rfl (fun u => rfl) rfl (fun u => rfl) rfl hP hD hS hA (fun r28 u H locs hw hP hD hS => ?_)
          have hP : va_P D vwCl (w_X4_holdOfCode cI cJ cZ cO aK aK_strengths aK_kinds aK_marks aK_faces aK_bars aK_showing aK_showingRight aK_barring aS aS_cells aS_fits aS_fitsInLine aS_stale aS_staleCells aS_seen aS_queue K_warm K_count K_seeds K_blocks K_rivals K_strengths K_faces S_pieces S_grown S_fitsInAll S_staleCount S_atLeast1 S_atLeast2 S_atLeast3 S_cells) H := hP
          have hD : va_D A (w_X4_holdOfCode cI cJ cZ cO aK aK_strengths aK_kinds aK_marks aK_faces aK_bars aK_showing aK_showingRight aK_barring aS aS_cells aS_fits aS_fitsInLine aS_stale aS_staleCells aS_seen aS_queue K_warm K_count K_seeds K_blocks K_rivals K_strengths K_faces S_pieces S_grown S_fitsInAll S_staleCount S_atLeast1 S_atLeast2 S_atLeast3 S_cells) := hD
          refine lv_iadd hx hb dX4_holdOfCode_31 ?_
          refine lv_topi (fun v32 e32 => ?_)
          have hw := hw v32 e32
          refine lv_istore (lv' := [(4, .int v32), (0, .ref aS), (1, .int x1), (2, .int x2), (3, .int x3), (5, .int x5)]) hx hb dX4_holdOfCode_32 hl (by decide) rfl (fun ls hl => ?_)
          obtain ⟨v34, e34⟩ : ∃ y : Int32, y = x5 + (1 : Int32) := ⟨_, rfl⟩
          have hw := hw v34 e34
          refine lv_iinc (v := v34) (lv' := [(5, .int v34), (4, .int v32), (0, .ref aS), (1, .int x1), (2, .int x2), (3, .int x3)]) hx hb dX4_holdOfCode_34 hl (k := 5) rfl (by rw [e34, kI_1]) (by decide) rfl (fun ls hl => ?_)
          refine lv_goto (tgt := 6) hx hb dX4_holdOfCode_37 (by decide) ?_
          exact ih_6 x1 x2 x3 v32 v34 hw H locs hP hD hS ls (lv_sub hl [2, 3, 4, 5, 1, 0] rfl)
  intro H locs hP hD hS ls hl
  unfold wp_X4_holdOfCode at hw
  refine lv_iconst (v := (0 : Int32)) hx hb dX4_holdOfCode_0 kI_0 ?_
  refine lv_istore (lv' := [(4, .int (0 : Int32)), (0, .ref aS), (1, .int p1), (2, .int p2), (3, .int p3)]) hx hb dX4_holdOfCode_1 hl (by decide) rfl (fun ls hl => ?_)
  refine lv_iconst (v := (0 : Int32)) hx hb dX4_holdOfCode_3 kI_0 ?_
  refine lv_istore (lv' := [(5, .int (0 : Int32)), (4, .int (0 : Int32)), (0, .ref aS), (1, .int p1), (2, .int p2), (3, .int p3)]) hx hb dX4_holdOfCode_4 hl (by decide) rfl (fun ls hl => ?_)
  obtain ⟨k, hw⟩ := hw
  exact b_6 k p1 p2 p3 (0 : Int32) (0 : Int32) hw H locs hP hD hS ls (lv_sub hl [2, 3, 4, 5, 1, 0] rfl)
set_option maxRecDepth 100000 in
set_option maxHeartbeats 4000000 in
theorem c_X2_wasJustHeld (l : Launch) (D : va_G) (cI cJ cZ cO : ClassId) (tS tT : Nat) (sz : Nat) (aK aK_strengths aK_kinds aK_marks aK_faces aK_bars aK_showing aK_showingRight aK_barring aS aS_cells aS_fits aS_fitsInLine aS_stale aS_staleCells aS_seen aS_queue aT aT_acts aT_pieces aT_places aT_before aT_since aO : Nat) (K_warm : Int32) (K_count : Int32) (K_seeds : Int64) (K_blocks : Int64) (K_rivals : Int64) (K_strengths : Nat → Int32) (K_faces : Nat → Int32) (S_pieces : Int32) (S_grown : Int32) (S_fitsInAll : Int32) (S_staleCount : Int32) (S_atLeast1 : Int64) (S_atLeast2 : Int64) (S_atLeast3 : Int64) (S_cells : Nat → Int32) (T_made : Int32) (T_kept : Int32) (T_fromClear : Int32) (T_pieces : Nat → Int32) (T_places : Nat → Int32) (T_since : Nat → Int32) (p1 : Int32) (Q : Int32 → Prop) (hw : wp_X2_wasJustHeld K_warm K_strengths K_faces S_cells T_pieces T_places T_since p1 Q) : Met l yX2_wasJustHeld wsX2_wasJustHeld rm_X2_wasJustHeld (va_Pc [.ref aO, .int p1] (cx_B tS tT cI cJ cZ cO D sz (w_X2_wasJustHeld cI cJ cZ cO aK aK_strengths aK_kinds aK_marks aK_faces aK_bars aK_showing aK_showingRight aK_barring aS aS_cells aS_fits aS_fitsInLine aS_stale aS_staleCells aS_seen aS_queue aT aT_acts aT_pieces aT_places aT_before aT_since aO K_warm K_count K_seeds K_blocks K_rivals K_strengths K_faces S_pieces S_grown S_fitsInAll S_staleCount S_atLeast1 S_atLeast2 S_atLeast3 S_cells T_made T_kept T_fromClear T_pieces T_places T_since))) (va_Qi (fun (r : Int32) (_ : Unit) => Q r) (fun (u : Unit) t => va_P D vwCl (w_X2_wasJustHeld cI cJ cZ cO aK aK_strengths aK_kinds aK_marks aK_faces aK_bars aK_showing aK_showingRight aK_barring aS aS_cells aS_fits aS_fitsInLine aS_stale aS_staleCells aS_seen aS_queue aT aT_acts aT_pieces aT_places aT_before aT_since aO K_warm K_count K_seeds K_blocks K_rivals K_strengths K_faces S_pieces S_grown S_fitsInAll S_staleCount S_atLeast1 S_atLeast2 S_atLeast3 S_cells T_made T_kept T_fromClear T_pieces T_places T_since) t.heap) (va_A (w_X2_wasJustHeld cI cJ cZ cO aK aK_strengths aK_kinds aK_marks aK_faces aK_bars aK_showing aK_showingRight aK_barring aS aS_cells aS_fits aS_fitsInLine aS_stale aS_staleCells aS_seen aS_queue aT aT_acts aT_pieces aT_places aT_before aT_since aO K_warm K_count K_seeds K_blocks K_rivals K_strengths K_faces S_pieces S_grown S_fitsInAll S_staleCount S_atLeast1 S_atLeast2 S_atLeast3 S_cells T_made T_kept T_fromClear T_pieces T_places T_since) sz)) 0 0 (va_A (w_X2_wasJustHeld cI cJ cZ cO aK aK_strengths aK_kinds aK_marks aK_faces aK_bars aK_showing aK_showingRight aK_barring aS aS_cells aS_fits aS_fitsInLine aS_stale aS_staleCells aS_seen aS_queue aT aT_acts aT_pieces aT_places aT_before aT_since aO K_warm K_count K_seeds K_blocks K_rivals K_strengths K_faces S_pieces S_grown S_fitsInAll S_staleCount S_atLeast1 S_atLeast2 S_atLeast3 S_cells T_made T_kept T_fromClear T_pieces T_places T_since) sz) := by
  refine cx_met (cc := cX2_wasJustHeld) (maxL := 3) (ret := (some .boolean)) (Qc := fun A => va_Qi (fun (r : Int32) (_ : Unit) => Q r) (fun (u : Unit) t => va_P D vwCl (w_X2_wasJustHeld cI cJ cZ cO aK aK_strengths aK_kinds aK_marks aK_faces aK_bars aK_showing aK_showingRight aK_barring aS aS_cells aS_fits aS_fitsInLine aS_stale aS_staleCells aS_seen aS_queue aT aT_acts aT_pieces aT_places aT_before aT_since aO K_warm K_count K_seeds K_blocks K_rivals K_strengths K_faces S_pieces S_grown S_fitsInAll S_staleCount S_atLeast1 S_atLeast2 S_atLeast3 S_cells T_made T_kept T_fromClear T_pieces T_places T_since) t.heap) A) (lv := [(0, .ref aO), (1, .int p1)]) (by decide) rfl (Nat.le_of_ble_eq_true rfl) rfl ?_
  intro p e s m args below meth c A Z hx hb hr hlocks hts hown hml hE hK hA hZ
  have hown : s.vm.findClass RX2 = some m.cls := hown
  have k_0 := hts (.fieldLink RX2 19 "GrowingTiles$Order" "steps" "LGrowingTiles$Steps;") (List.mem_of_getElem? (i := 1) (by decide +kernel))
  have k_1 := hts (.fieldLink RX2 41 "GrowingTiles$Steps" "places" "[I") (List.mem_of_getElem? (i := 2) (by decide +kernel))
  have k_2 := hts (.fieldLink RX2 15 "GrowingTiles$Order" "sheet" "LGrowingTiles$Sheet;") (List.mem_of_getElem? (i := 3) (by decide +kernel))
  have k_3 := hts (.fieldLink RX2 70 "GrowingTiles$Steps" "pieces" "[I") (List.mem_of_getElem? (i := 4) (by decide +kernel))
  have k_4 := hts (.fieldLink RX2 9 "GrowingTiles$Order" "kit" "LGrowingTiles$Kit;") (List.mem_of_getElem? (i := 5) (by decide +kernel))
  have k_5 := hts (.fieldLink RX2 100 "GrowingTiles$Kit" "warm" "I") (List.mem_of_getElem? (i := 6) (by decide +kernel))
  intro H locs hP hD hS ls hl
  unfold wp_X2_wasJustHeld at hw
  refine lv_aload_n hx hb dX2_wasJustHeld_0 rfl (lv_at hl 0 rfl) ?_
  refine va_get (D := D) (ci := 2) (v := .ref aT) (C := RX2) (T := TX2) (N := 3) hx hb hts in_X2_wasJustHeld_X2 hown hK hP 9 rfl rfl 2 (by decide) k_0 (fun _ h9 => h9) rfl dX2_wasJustHeld_1 ?_
  refine va_get (D := D) (ci := 5) (v := .ref aT_places) (C := RX5) (T := TX5) (N := 8) hx hb hts in_X2_wasJustHeld_X5 hown hK hP 5 rfl rfl 5 (by decide) k_1 (fun _ h9 => h9) rfl dX2_wasJustHeld_4 ?_
  refine lv_iload_n hx hb dX2_wasJustHeld_7 rfl (lv_at hl 1 rfl) ?_
  have h8 := hw.1
  have hw := hw.2
  refine va_iald hx hb hK hP 7 0 rfl rfl h8 dX2_wasJustHeld_8 ?_
  refine lv_topi (fun v8 e8 => ?_)
  have hw := hw v8 e8
  refine lv_istore_n (lv' := [(2, .int v8), (0, .ref aO), (1, .int p1)]) hx hb dX2_wasJustHeld_9 rfl hl (by decide) rfl (fun ls hl => ?_)
  refine lv_aload_n hx hb dX2_wasJustHeld_10 rfl (lv_at hl 1 rfl) ?_
  refine va_get (D := D) (ci := 2) (v := .ref aS) (C := RX2) (T := TX2) (N := 3) hx hb hts in_X2_wasJustHeld_X2 hown hK hP 9 rfl rfl 1 (by decide) k_2 (fun _ h9 => h9) rfl dX2_wasJustHeld_11 ?_
  refine lv_iconst (v := (1 : Int32)) hx hb dX2_wasJustHeld_14 kI_1 ?_
  refine lv_aload_n hx hb dX2_wasJustHeld_15 rfl (lv_at hl 1 rfl) ?_
  refine va_get (D := D) (ci := 2) (v := .ref aT) (C := RX2) (T := TX2) (N := 3) hx hb hts in_X2_wasJustHeld_X2 hown hK hP 9 rfl rfl 2 (by decide) k_0 (fun _ h9 => h9) rfl dX2_wasJustHeld_16 ?_
  refine va_get (D := D) (ci := 5) (v := .ref aT_pieces) (C := RX5) (T := TX5) (N := 8) hx hb hts in_X2_wasJustHeld_X5 hown hK hP 5 rfl rfl 4 (by decide) k_3 (fun _ h9 => h9) rfl dX2_wasJustHeld_19 ?_
  refine lv_iload_n hx hb dX2_wasJustHeld_22 rfl (lv_at hl 2 rfl) ?_
  have h23 := hw.1
  have hw := hw.2
  refine va_iald hx hb hK hP 6 0 rfl rfl h23 dX2_wasJustHeld_23 ?_
  refine lv_topi (fun v23 e23 => ?_)
  have hw := hw v23 e23
  refine lv_iadd hx hb dX2_wasJustHeld_24 ?_
  refine lv_iload_n hx hb dX2_wasJustHeld_25 rfl (lv_at hl 0 rfl) ?_
  refine lv_aload_n hx hb dX2_wasJustHeld_26 rfl (lv_at hl 1 rfl) ?_
  refine lv_iload_n hx hb dX2_wasJustHeld_27 rfl (lv_at hl 0 rfl) ?_
  refine cx_goi (va_runV (As := [.int v8]) (rest := [.int v8, .int ((1 : Int32) + v23), .ref aS]) ⟨hx, hb, hml, hown, hts⟩ (c_X2_laterAround l D cI cJ cZ cO tS tT H.size aS aK aS_cells aS_fits aS_fitsInLine aS_stale aS_staleCells aS_seen aS_queue aT aT_acts aT_pieces aT_places aT_before aT_since aO S_pieces S_grown S_fitsInAll S_staleCount S_atLeast1 S_atLeast2 S_atLeast3 S_cells T_made T_kept T_fromClear T_since v8 _ hw) (cwV 1 hts gX2_wasJustHeld_X2_laterAround rfl rfl rfl pv_X2_laterAround ⟨Nat.le_of_ble_eq_true rfl, Nat.le_of_ble_eq_true rfl⟩) (cx_preV (wc := w_X2_laterAround cI cJ cZ cO aS aK aS_cells aS_fits aS_fitsInLine aS_stale aS_staleCells aS_seen aS_queue aT aT_acts aT_pieces aT_places aT_before aT_since aO S_pieces S_grown S_fitsInAll S_staleCount S_atLeast1 S_atLeast2 S_atLeast3 S_cells T_made T_kept T_fromClear T_since) hE hK hP hD hS hA [3, 4, 5, 8, 9] rfl rfl (va_recv hK hP (ci := 2) (q0 := 9) rfl rfl)) rfl rfl hl.1 rfl (lv_room (Nat.le_of_ble_eq_true rfl)) dX2_wasJustHeld_28 ⟨Nat.le_of_ble_eq_true rfl, Nat.le_of_ble_eq_true rfl⟩) (fun (_ : Unit) => (w_X2_wasJustHeld cI cJ cZ cO aK aK_strengths aK_kinds aK_marks aK_faces aK_bars aK_showing aK_showingRight aK_barring aS aS_cells aS_fits aS_fitsInLine aS_stale aS_staleCells aS_seen aS_queue aT aT_acts aT_pieces aT_places aT_before aT_since aO K_warm K_count K_seeds K_blocks K_rivals K_strengths K_faces S_pieces S_grown S_fitsInAll S_staleCount S_atLeast1 S_atLeast2 S_atLeast3 S_cells T_made T_kept T_fromClear T_pieces T_places T_since)) [3, 4, 5, 8, 9] [0, 1, 2, 6, 7] (ads := [aS, aS_cells, aT, aT_since, aO]) (wr := [(aK, .inr (1, [.int K_warm, .int K_count, .ref aK_strengths, .ref aK_kinds, .ref aK_marks, .ref aK_faces, .ref aK_bars, .ref aK_showing, .ref aK_showingRight, .ref aK_barring, .long K_seeds, .long K_blocks, .long K_rivals])), (aK_strengths, .inl (cI, 51, .inl K_strengths)), (aK_faces, .inl (cI, 512, .inl K_faces)), (aT_pieces, .inl (cI, 200, .inl T_pieces)), (aT_places, .inl (cI, 200, .inl T_places))]) rfl rfl (fun u => rfl) (fun u => rfl) rfl (fun u => rfl) rfl (fun u => rfl) rfl hP hD hS hA (fun r28 u H locs hw hP hD hS => ?_)
  have hP : va_P D vwCl (w_X2_wasJustHeld cI cJ cZ cO aK aK_strengths aK_kinds aK_marks aK_faces aK_bars aK_showing aK_showingRight aK_barring aS aS_cells aS_fits aS_fitsInLine aS_stale aS_staleCells aS_seen aS_queue aT aT_acts aT_pieces aT_places aT_before aT_since aO K_warm K_count K_seeds K_blocks K_rivals K_strengths K_faces S_pieces S_grown S_fitsInAll S_staleCount S_atLeast1 S_atLeast2 S_atLeast3 S_cells T_made T_kept T_fromClear T_pieces T_places T_since) H := hP
  have hD : va_D A (w_X2_wasJustHeld cI cJ cZ cO aK aK_strengths aK_kinds aK_marks aK_faces aK_bars aK_showing aK_showingRight aK_barring aS aS_cells aS_fits aS_fitsInLine aS_stale aS_staleCells aS_seen aS_queue aT aT_acts aT_pieces aT_places aT_before aT_since aO K_warm K_count K_seeds K_blocks K_rivals K_strengths K_faces S_pieces S_grown S_fitsInAll S_staleCount S_atLeast1 S_atLeast2 S_atLeast3 S_cells T_made T_kept T_fromClear T_pieces T_places T_since) := hD
  refine cx_goi (va_runV (As := [.int ((1 : Int32) + v23), .int v8, .int r28]) (rest := []) ⟨hx, hb, hml, hown, hts⟩ (c_X4_holdOfCode l D cI cJ cZ cO tS tT H.size aK aK_strengths aK_kinds aK_marks aK_faces aK_bars aK_showing aK_showingRight aK_barring aS aS_cells aS_fits aS_fitsInLine aS_stale aS_staleCells aS_seen aS_queue K_warm K_count K_seeds K_blocks K_rivals K_strengths K_faces S_pieces S_grown S_fitsInAll S_staleCount S_atLeast1 S_atLeast2 S_atLeast3 S_cells ((1 : Int32) + v23) v8 r28 _ hw) (cwV 3 hts gX2_wasJustHeld_X4_holdOfCode rfl rfl rfl pv_X4_holdOfCode ⟨Nat.le_of_ble_eq_true rfl, Nat.le_of_ble_eq_true rfl⟩) (cx_preV (wc := w_X4_holdOfCode cI cJ cZ cO aK aK_strengths aK_kinds aK_marks aK_faces aK_bars aK_showing aK_showingRight aK_barring aS aS_cells aS_fits aS_fitsInLine aS_stale aS_staleCells aS_seen aS_queue K_warm K_count K_seeds K_blocks K_rivals K_strengths K_faces S_pieces S_grown S_fitsInAll S_staleCount S_atLeast1 S_atLeast2 S_atLeast3 S_cells) hE hK hP hD hS hA [0, 1, 2, 3, 4] rfl rfl (va_recv hK hP (ci := 4) (q0 := 3) rfl rfl)) rfl rfl hl.1 rfl (lv_room (Nat.le_of_ble_eq_true rfl)) dX2_wasJustHeld_31 ⟨Nat.le_of_ble_eq_true rfl, Nat.le_of_ble_eq_true rfl⟩) (fun (_ : Unit) => (w_X2_wasJustHeld cI cJ cZ cO aK aK_strengths aK_kinds aK_marks aK_faces aK_bars aK_showing aK_showingRight aK_barring aS aS_cells aS_fits aS_fitsInLine aS_stale aS_staleCells aS_seen aS_queue aT aT_acts aT_pieces aT_places aT_before aT_since aO K_warm K_count K_seeds K_blocks K_rivals K_strengths K_faces S_pieces S_grown S_fitsInAll S_staleCount S_atLeast1 S_atLeast2 S_atLeast3 S_cells T_made T_kept T_fromClear T_pieces T_places T_since)) [0, 1, 2, 3, 4] [5, 6, 7, 8, 9] (ads := [aK, aK_strengths, aK_faces, aS, aS_cells]) (wr := [(aT, .inr (5, [.int T_made, .int T_kept, .int T_fromClear, .ref aT_acts, .ref aT_pieces, .ref aT_places, .ref aT_before, .ref aT_since])), (aT_pieces, .inl (cI, 200, .inl T_pieces)), (aT_places, .inl (cI, 200, .inl T_places)), (aT_since, .inl (cI, 324, .inl T_since)), (aO, .inr (2, [.ref aK, .ref aS, .ref aT]))]) rfl rfl (fun u => rfl) (fun u => rfl) rfl (fun u => rfl) rfl (fun u => rfl) rfl hP hD hS hA (fun r31 u H locs hw hP hD hS => ?_)
  have hP : va_P D vwCl (w_X2_wasJustHeld cI cJ cZ cO aK aK_strengths aK_kinds aK_marks aK_faces aK_bars aK_showing aK_showingRight aK_barring aS aS_cells aS_fits aS_fitsInLine aS_stale aS_staleCells aS_seen aS_queue aT aT_acts aT_pieces aT_places aT_before aT_since aO K_warm K_count K_seeds K_blocks K_rivals K_strengths K_faces S_pieces S_grown S_fitsInAll S_staleCount S_atLeast1 S_atLeast2 S_atLeast3 S_cells T_made T_kept T_fromClear T_pieces T_places T_since) H := hP
  have hD : va_D A (w_X2_wasJustHeld cI cJ cZ cO aK aK_strengths aK_kinds aK_marks aK_faces aK_bars aK_showing aK_showingRight aK_barring aS aS_cells aS_fits aS_fitsInLine aS_stale aS_staleCells aS_seen aS_queue aT aT_acts aT_pieces aT_places aT_before aT_since aO K_warm K_count K_seeds K_blocks K_rivals K_strengths K_faces S_pieces S_grown S_fitsInAll S_staleCount S_atLeast1 S_atLeast2 S_atLeast3 S_cells T_made T_kept T_fromClear T_pieces T_places T_since) := hD
  refine lv_aload_n hx hb dX2_wasJustHeld_34 rfl (lv_at hl 1 rfl) ?_
  refine va_get (D := D) (ci := 2) (v := .ref aK) (C := RX2) (T := TX2) (N := 3) hx hb hts in_X2_wasJustHeld_X2 hown hK hP 9 rfl rfl 0 (by decide) k_4 (fun _ h9 => h9) rfl dX2_wasJustHeld_35 ?_
  refine va_get (D := D) (ci := 1) (v := .int K_warm) (C := RX1) (T := TX1) (N := 13) hx hb hts in_X2_wasJustHeld_X1 hown hK hP 0 rfl rfl 0 (by decide) k_5 (fun _ h9 => h9) rfl dX2_wasJustHeld_38 ?_
  refine lv_icmp_ne (tgt := 48) hx hb dX2_wasJustHeld_41 (by decide) (fun c41 => ?_) (fun c41 => ?_)
  · have hw := hw.1 c41
    refine lv_iconst (v := (0 : Int32)) hx hb dX2_wasJustHeld_48 kI_0 ?_
    rw [hZ]
    exact cx_retz () hx hb hr hlocks rfl hw hP hS dX2_wasJustHeld_49
  · have hw := hw.2 c41
    refine lv_iconst (v := (1 : Int32)) hx hb dX2_wasJustHeld_44 kI_1 ?_
    refine lv_goto (tgt := 49) hx hb dX2_wasJustHeld_45 (by decide) ?_
    rw [hZ]
    exact cx_retz () hx hb hr hlocks rfl hw hP hS dX2_wasJustHeld_49
set_option maxRecDepth 100000 in
set_option maxHeartbeats 4000000 in
theorem c_X7_columnOf (l : Launch) (D : va_G) (cI cJ cZ cO : ClassId) (tS tT : Nat) (sz : Nat) (p1 : Int32) (Q : Int32 → Prop) (hw : wp_X7_columnOf p1 Q) : Met l yX7_columnOf wsX7_columnOf rm_X7_columnOf (va_Pc [.int p1] (cx_B tS tT cI cJ cZ cO D sz (w_X7_columnOf : va_W))) (va_Qi (fun (r : Int32) (_ : Unit) => Q r) (fun (u : Unit) t => va_P D vwCl (w_X7_columnOf : va_W) t.heap) (va_A (w_X7_columnOf : va_W) sz)) 0 0 (va_A (w_X7_columnOf : va_W) sz) := by
  refine cx_met (cc := cX7_columnOf) (maxL := 1) (ret := (some .int)) (Qc := fun A => va_Qi (fun (r : Int32) (_ : Unit) => Q r) (fun (u : Unit) t => va_P D vwCl (w_X7_columnOf : va_W) t.heap) A) (lv := [(0, .int p1)]) (by decide) rfl (Nat.le_of_ble_eq_true rfl) rfl ?_
  intro p e s m args below meth c A Z hx hb hr hlocks hts hown hml hE hK hA hZ
  have hown : s.vm.findClass RX7 = some m.cls := hown
  intro H locs hP hD hS ls hl
  unfold wp_X7_columnOf at hw
  refine lv_iload_n hx hb dX7_columnOf_0 rfl (lv_at hl 0 rfl) ?_
  refine lv_bipush (v := (18 : Int32)) hx hb dX7_columnOf_1 kB_18 ?_
  refine lv_irem hx hb dX7_columnOf_3 (by decide) ?_
  refine lv_iconst (v := (1 : Int32)) hx hb dX7_columnOf_4 kI_1 ?_
  refine lv_isub hx hb dX7_columnOf_5 ?_
  rw [hZ]
  exact cx_reti () hx hb hr hlocks hw hP hS dX7_columnOf_6
set_option maxRecDepth 100000 in
set_option maxHeartbeats 4000000 in
theorem c_X7_lineOf (l : Launch) (D : va_G) (cI cJ cZ cO : ClassId) (tS tT : Nat) (sz : Nat) (p1 : Int32) (Q : Int32 → Prop) (hw : wp_X7_lineOf p1 Q) : Met l yX7_lineOf wsX7_lineOf rm_X7_lineOf (va_Pc [.int p1] (cx_B tS tT cI cJ cZ cO D sz (w_X7_lineOf : va_W))) (va_Qi (fun (r : Int32) (_ : Unit) => Q r) (fun (u : Unit) t => va_P D vwCl (w_X7_lineOf : va_W) t.heap) (va_A (w_X7_lineOf : va_W) sz)) 0 0 (va_A (w_X7_lineOf : va_W) sz) := by
  refine cx_met (cc := cX7_lineOf) (maxL := 1) (ret := (some .int)) (Qc := fun A => va_Qi (fun (r : Int32) (_ : Unit) => Q r) (fun (u : Unit) t => va_P D vwCl (w_X7_lineOf : va_W) t.heap) A) (lv := [(0, .int p1)]) (by decide) rfl (Nat.le_of_ble_eq_true rfl) rfl ?_
  intro p e s m args below meth c A Z hx hb hr hlocks hts hown hml hE hK hA hZ
  have hown : s.vm.findClass RX7 = some m.cls := hown
  intro H locs hP hD hS ls hl
  unfold wp_X7_lineOf at hw
  refine lv_iload_n hx hb dX7_lineOf_0 rfl (lv_at hl 0 rfl) ?_
  refine lv_bipush (v := (18 : Int32)) hx hb dX7_lineOf_1 kB_18 ?_
  refine lv_idiv hx hb dX7_lineOf_3 (by decide) ?_
  refine lv_iconst (v := (1 : Int32)) hx hb dX7_lineOf_4 kI_1 ?_
  refine lv_isub hx hb dX7_lineOf_5 ?_
  rw [hZ]
  exact cx_reti () hx hb hr hlocks hw hP hS dX7_lineOf_6
set_option maxRecDepth 100000 in
set_option maxHeartbeats 4000000 in
theorem c_X2_numberOf (l : Launch) (D : va_G) (cI cJ cZ cO : ClassId) (tS tT : Nat) (sz : Nat) (p1 : Int32) (Q : Int32 → Prop) (hw : wp_X2_numberOf p1 Q) : Met l yX2_numberOf wsX2_numberOf rm_X2_numberOf (va_Pc [.int p1] (cx_B tS tT cI cJ cZ cO D sz (w_X2_numberOf : va_W))) (va_Qi (fun (r : Int32) (_ : Unit) => Q r) (fun (u : Unit) t => va_P D vwCl (w_X2_numberOf : va_W) t.heap) (va_A (w_X2_numberOf : va_W) sz)) 0 0 (va_A (w_X2_numberOf : va_W) sz) := by
  refine cx_met (cc := cX2_numberOf) (maxL := 1) (ret := (some .int)) (Qc := fun A => va_Qi (fun (r : Int32) (_ : Unit) => Q r) (fun (u : Unit) t => va_P D vwCl (w_X2_numberOf : va_W) t.heap) A) (lv := [(0, .int p1)]) (by decide) rfl (Nat.le_of_ble_eq_true rfl) rfl ?_
  intro p e s m args below meth c A Z hx hb hr hlocks hts hown hml hE hK hA hZ
  have hown : s.vm.findClass RX2 = some m.cls := hown
  have k_0 := hts (.initialized RX7) (List.mem_of_getElem? (i := 2) (by decide +kernel))
  have k_1 := hts (.static yX7_columnOf) (List.mem_of_getElem? (i := 1) (by decide +kernel))
  have k_2 := hts (.static yX7_lineOf) (List.mem_of_getElem? (i := 4) (by decide +kernel))
  intro H locs hP hD hS ls hl
  unfold wp_X2_numberOf at hw
  refine lv_iload_n hx hb dX2_numberOf_0 rfl (lv_at hl 0 rfl) ?_
  refine cx_goi (va_runSN (As := [.int p1]) (rest := []) ⟨hx, hb, hml, hown, hts⟩ (c_X7_columnOf l D cI cJ cZ cO tS tT H.size p1 _ hw) ⟨va_cnB 1 hts gX2_numberOf_X7_columnOf_n57 rfl rfl rfl (hE.1.2.2.2.2.2.2.2.2.2.2.2.2.1) k_0 ps_X7_columnOf ⟨Nat.le_of_ble_eq_true rfl, Nat.le_of_ble_eq_true rfl⟩, k_1, trivial⟩ (cx_preS (wc := w_X7_columnOf) hE hK hP hD hS hA [] rfl rfl) rfl rfl hl.1 rfl (lv_room (Nat.le_of_ble_eq_true rfl)) dX2_numberOf_1 ⟨Nat.le_of_ble_eq_true rfl, Nat.le_of_ble_eq_true rfl⟩) (fun (_ : Unit) => (w_X2_numberOf : va_W)) [] [] (ads := []) (wr := []) rfl rfl (fun u => rfl) (fun u => rfl) rfl (fun u => rfl) rfl (fun u => rfl) rfl hP hD hS hA (fun r1 u H locs hw hP hD hS => ?_)
  refine lv_bipush (v := (16 : Int32)) hx hb dX2_numberOf_4 kB_16 ?_
  refine lv_iload_n hx hb dX2_numberOf_6 rfl (lv_at hl 0 rfl) ?_
  refine cx_goi (va_runSN (As := [.int p1]) (rest := [.int (16 : Int32), .int r1]) ⟨hx, hb, hml, hown, hts⟩ (c_X7_lineOf l D cI cJ cZ cO tS tT H.size p1 _ hw) ⟨va_cnB 1 hts gX2_numberOf_X7_lineOf_n60 rfl rfl rfl (hE.1.2.2.2.2.2.2.2.2.2.2.2.2.2.1) k_0 ps_X7_lineOf ⟨Nat.le_of_ble_eq_true rfl, Nat.le_of_ble_eq_true rfl⟩, k_2, trivial⟩ (cx_preS (wc := w_X7_lineOf) hE hK hP hD hS hA [] rfl rfl) rfl rfl hl.1 rfl (lv_room (Nat.le_of_ble_eq_true rfl)) dX2_numberOf_7 ⟨Nat.le_of_ble_eq_true rfl, Nat.le_of_ble_eq_true rfl⟩) (fun (_ : Unit) => (w_X2_numberOf : va_W)) [] [] (ads := []) (wr := []) rfl rfl (fun u => rfl) (fun u => rfl) rfl (fun u => rfl) rfl (fun u => rfl) rfl hP hD hS hA (fun r7 u H locs hw hP hD hS => ?_)
  refine lv_imul hx hb dX2_numberOf_10 ?_
  refine lv_iadd hx hb dX2_numberOf_11 ?_
  rw [hZ]
  exact cx_reti () hx hb hr hlocks hw hP hS dX2_numberOf_12
set_option maxRecDepth 100000 in
set_option maxHeartbeats 4000000 in
theorem c_X2_outputsOf (l : Launch) (D : va_G) (cI cJ cZ cO : ClassId) (tS tT : Nat) (sz : Nat) (aK aK_strengths aK_kinds aK_marks aK_faces aK_bars aK_showing aK_showingRight aK_barring aS aS_cells aS_fits aS_fitsInLine aS_stale aS_staleCells aS_seen aS_queue aT aT_acts aT_pieces aT_places aT_before aT_since aO : Nat) (K_warm : Int32) (K_count : Int32) (K_seeds : Int64) (K_blocks : Int64) (K_rivals : Int64) (K_strengths : Nat → Int32) (K_faces : Nat → Int32) (S_pieces : Int32) (S_grown : Int32) (S_fitsInAll : Int32) (S_staleCount : Int32) (S_atLeast1 : Int64) (S_atLeast2 : Int64) (S_atLeast3 : Int64) (S_cells : Nat → Int32) (T_made : Int32) (T_kept : Int32) (T_fromClear : Int32) (T_since : Nat → Int32) (p1 : Int32) (p2 : Int32) (Q : Int32 → Prop) (hw : wp_X2_outputsOf K_strengths K_faces S_cells T_since p1 p2 Q) : Met l yX2_outputsOf wsX2_outputsOf rm_X2_outputsOf (va_Pc [.ref aO, .int p1, .int p2] (cx_B tS tT cI cJ cZ cO D sz (w_X2_outputsOf cI cJ cZ cO aK aK_strengths aK_kinds aK_marks aK_faces aK_bars aK_showing aK_showingRight aK_barring aS aS_cells aS_fits aS_fitsInLine aS_stale aS_staleCells aS_seen aS_queue aT aT_acts aT_pieces aT_places aT_before aT_since aO K_warm K_count K_seeds K_blocks K_rivals K_strengths K_faces S_pieces S_grown S_fitsInAll S_staleCount S_atLeast1 S_atLeast2 S_atLeast3 S_cells T_made T_kept T_fromClear T_since))) (va_Qi (fun (r : Int32) (_ : Unit) => Q r) (fun (u : Unit) t => va_P D vwCl (w_X2_outputsOf cI cJ cZ cO aK aK_strengths aK_kinds aK_marks aK_faces aK_bars aK_showing aK_showingRight aK_barring aS aS_cells aS_fits aS_fitsInLine aS_stale aS_staleCells aS_seen aS_queue aT aT_acts aT_pieces aT_places aT_before aT_since aO K_warm K_count K_seeds K_blocks K_rivals K_strengths K_faces S_pieces S_grown S_fitsInAll S_staleCount S_atLeast1 S_atLeast2 S_atLeast3 S_cells T_made T_kept T_fromClear T_since) t.heap) (va_A (w_X2_outputsOf cI cJ cZ cO aK aK_strengths aK_kinds aK_marks aK_faces aK_bars aK_showing aK_showingRight aK_barring aS aS_cells aS_fits aS_fitsInLine aS_stale aS_staleCells aS_seen aS_queue aT aT_acts aT_pieces aT_places aT_before aT_since aO K_warm K_count K_seeds K_blocks K_rivals K_strengths K_faces S_pieces S_grown S_fitsInAll S_staleCount S_atLeast1 S_atLeast2 S_atLeast3 S_cells T_made T_kept T_fromClear T_since) sz)) 0 0 (va_A (w_X2_outputsOf cI cJ cZ cO aK aK_strengths aK_kinds aK_marks aK_faces aK_bars aK_showing aK_showingRight aK_barring aS aS_cells aS_fits aS_fitsInLine aS_stale aS_staleCells aS_seen aS_queue aT aT_acts aT_pieces aT_places aT_before aT_since aO K_warm K_count K_seeds K_blocks K_rivals K_strengths K_faces S_pieces S_grown S_fitsInAll S_staleCount S_atLeast1 S_atLeast2 S_atLeast3 S_cells T_made T_kept T_fromClear T_since) sz) := by
  refine cx_met (cc := cX2_outputsOf) (maxL := 6) (ret := (some .int)) (Qc := fun A => va_Qi (fun (r : Int32) (_ : Unit) => Q r) (fun (u : Unit) t => va_P D vwCl (w_X2_outputsOf cI cJ cZ cO aK aK_strengths aK_kinds aK_marks aK_faces aK_bars aK_showing aK_showingRight aK_barring aS aS_cells aS_fits aS_fitsInLine aS_stale aS_staleCells aS_seen aS_queue aT aT_acts aT_pieces aT_places aT_before aT_since aO K_warm K_count K_seeds K_blocks K_rivals K_strengths K_faces S_pieces S_grown S_fitsInAll S_staleCount S_atLeast1 S_atLeast2 S_atLeast3 S_cells T_made T_kept T_fromClear T_since) t.heap) A) (lv := [(0, .ref aO), (1, .int p1), (2, .int p2)]) (by decide) rfl (Nat.le_of_ble_eq_true rfl) rfl ?_
  intro p e s m args below meth c A Z hx hb hr hlocks hts hown hml hE hK hA hZ
  have hown : s.vm.findClass RX2 = some m.cls := hown
  have k_0 := hts (.initialized RX7) (List.mem_of_getElem? (i := 16) (by decide +kernel))
  have k_1 := hts (.static yX7_bitOf) (List.mem_of_getElem? (i := 15) (by decide +kernel))
  have k_2 := hts (.fieldLink RX2 15 "GrowingTiles$Order" "sheet" "LGrowingTiles$Sheet;") (List.mem_of_getElem? (i := 1) (by decide +kernel))
  have b_12 : ∀ n_12 : Nat, ∀ (x1 : Int32) (x2 : Int32) (x3 : Int32) (x4 : Int32) (x5 : Int32), wq_X2_outputsOf_12 K_strengths K_faces S_cells T_since Q n_12 x1 x2 x3 x4 x5 → ∀ (H : Heap) (locs : List Loc), va_P D vwCl (w_X2_outputsOf cI cJ cZ cO aK aK_strengths aK_kinds aK_marks aK_faces aK_bars aK_showing aK_showingRight aK_barring aS aS_cells aS_fits aS_fitsInLine aS_stale aS_staleCells aS_seen aS_queue aT aT_acts aT_pieces aT_places aT_before aT_since aO K_warm K_count K_seeds K_blocks K_rivals K_strengths K_faces S_pieces S_grown S_fitsInAll S_staleCount S_atLeast1 S_atLeast2 S_atLeast3 S_cells T_made T_kept T_fromClear T_since) H → va_D A (w_X2_outputsOf cI cJ cZ cO aK aK_strengths aK_kinds aK_marks aK_faces aK_bars aK_showing aK_showingRight aK_barring aS aS_cells aS_fits aS_fitsInLine aS_stale aS_staleCells aS_seen aS_queue aT aT_acts aT_pieces aT_places aT_before aT_since aO K_warm K_count K_seeds K_blocks K_rivals K_strengths K_faces S_pieces S_grown S_fitsInAll S_staleCount S_atLeast1 S_atLeast2 S_atLeast3 S_cells T_made T_kept T_fromClear T_since) → va_S A s.heap H locs → ∀ ls : Array Slot, lv_has ls 6 [(0, .ref aO), (1, .int x1), (2, .int x2), (3, .int x3), (4, .int x4), (5, .int x5)] → W p l e rm_X2_outputsOf s m args below meth c H locs 0 0 Z (F0 m 12 ls []) := by
    intro n_12
    induction n_12 with
    | zero => intro x1 x2 x3 x4 x5 hw; exact False.elim hw
    | succ n_12 ih_12 =>
      intro x1 x2 x3 x4 x5 hw H locs hP hD hS ls hl
      have hw : wf_X2_outputsOf_12 K_strengths K_faces S_cells T_since Q (wq_X2_outputsOf_12 K_strengths K_faces S_cells T_since Q n_12) x1 x2 x3 x4 x5 := hw
      unfold wf_X2_outputsOf_12 at hw
      refine lv_iload hx hb dX2_outputsOf_12 (lv_at hl 5 rfl) ?_
      refine lv_iconst (v := (4 : Int32)) hx hb dX2_outputsOf_14 kI_4 ?_
      refine lv_icmp_ge (tgt := 57) hx hb dX2_outputsOf_15 (by decide) (fun c15 => ?_) (fun c15 => ?_)
      · have hw := hw.1 c15
        refine lv_iload hx hb dX2_outputsOf_57 (lv_at hl 4 rfl) ?_
        rw [hZ]
        exact cx_reti () hx hb hr hlocks hw hP hS dX2_outputsOf_59
      · have hw := hw.2 c15
        refine lv_iload_n hx hb dX2_outputsOf_18 rfl (lv_at hl 3 rfl) ?_
        refine lv_iload hx hb dX2_outputsOf_19 (lv_at hl 5 rfl) ?_
        refine cx_goi (va_runSN (As := [.int x3, .int x5]) (rest := []) ⟨hx, hb, hml, hown, hts⟩ (c_X7_bitOf l D cI cJ cZ cO tS tT H.size x3 x5 _ hw) ⟨va_cnB 2 hts gX2_outputsOf_X7_bitOf_n117 rfl rfl rfl (hE.1.2.2.2.2.2.2.2.2.2.2.2.2.2.2) k_0 ps_X7_bitOf ⟨Nat.le_of_ble_eq_true rfl, Nat.le_of_ble_eq_true rfl⟩, k_1, trivial⟩ (cx_preS (wc := w_X7_bitOf) hE hK hP hD hS hA [] rfl rfl) rfl rfl hl.1 rfl (lv_room (Nat.le_of_ble_eq_true rfl)) dX2_outputsOf_21 ⟨Nat.le_of_ble_eq_true rfl, Nat.le_of_ble_eq_true rfl⟩) (fun (_ : Unit) => (w_X2_outputsOf cI cJ cZ cO aK aK_strengths aK_kinds aK_marks aK_faces aK_bars aK_showing aK_showingRight aK_barring aS aS_cells aS_fits aS_fitsInLine aS_stale aS_staleCells aS_seen aS_queue aT aT_acts aT_pieces aT_places aT_before aT_since aO K_warm K_count K_seeds K_blocks K_rivals K_strengths K_faces S_pieces S_grown S_fitsInAll S_staleCount S_atLeast1 S_atLeast2 S_atLeast3 S_cells T_made T_kept T_fromClear T_since)) [] [0, 1, 2, 3, 4, 5, 6, 7] (ads := []) (wr := [(aK, .inr (1, [.int K_warm, .int K_count, .ref aK_strengths, .ref aK_kinds, .ref aK_marks, .ref aK_faces, .ref aK_bars, .ref aK_showing, .ref aK_showingRight, .ref aK_barring, .long K_seeds, .long K_blocks, .long K_rivals])), (aK_strengths, .inl (cI, 51, .inl K_strengths)), (aK_faces, .inl (cI, 512, .inl K_faces)), (aS, .inr (4, [.ref aK, .ref aS_cells, .int S_pieces, .int S_grown, .ref aS_fits, .ref aS_fitsInLine, .int S_fitsInAll, .ref aS_stale, .ref aS_staleCells, .int S_staleCount, .long S_atLeast1, .long S_atLeast2, .long S_atLeast3, .ref aS_seen, .ref aS_queue])), (aS_cells, .inl (cI, 324, .inl S_cells)), (aT, .inr (5, [.int T_made, .int T_kept, .int T_fromClear, .ref aT_acts, .ref aT_pieces, .ref aT_places, .ref aT_before, .ref aT_since])), (aT_since, .inl (cI, 324, .inl T_since)), (aO, .inr (2, [.ref aK, .ref aS, .ref aT]))]) rfl rfl (fun u => rfl) (fun u => rfl) rfl (fun u => rfl) rfl (fun u => rfl) rfl hP hD hS hA (fun r21 u H locs hw hP hD hS => ?_)
        refine lv_iconst (v := (1 : Int32)) hx hb dX2_outputsOf_24 kI_1 ?_
        refine lv_icmp_ne (tgt := 51) hx hb dX2_outputsOf_25 (by decide) (fun c25 => ?_) (fun c25 => ?_)
        · have hw := hw.1 c25
          obtain ⟨v51, e51⟩ : ∃ y : Int32, y = x5 + (1 : Int32) := ⟨_, rfl⟩
          have hw := hw v51 e51
          refine lv_iinc (v := v51) (lv' := [(5, .int v51), (0, .ref aO), (1, .int x1), (2, .int x2), (3, .int x3), (4, .int x4)]) hx hb dX2_outputsOf_51 hl (k := 5) rfl (by rw [e51, kI_1]) (by decide) rfl (fun ls hl => ?_)
          refine lv_goto (tgt := 12) hx hb dX2_outputsOf_54 (by decide) ?_
          exact ih_12 x1 x2 x3 x4 v51 hw H locs hP hD hS ls (lv_sub hl [1, 2, 3, 4, 5, 0] rfl)
        · have hw := hw.2 c25
          refine lv_aload_n hx hb dX2_outputsOf_28 rfl (lv_at hl 0 rfl) ?_
          refine va_get (D := D) (ci := 2) (v := .ref aS) (C := RX2) (T := TX2) (N := 3) hx hb hts in_X2_outputsOf_X2 hown hK hP 7 rfl rfl 1 (by decide) k_2 (fun _ h9 => h9) rfl dX2_outputsOf_29 ?_
          refine lv_iload_n hx hb dX2_outputsOf_32 rfl (lv_at hl 1 rfl) ?_
          refine lv_iload_n hx hb dX2_outputsOf_33 rfl (lv_at hl 2 rfl) ?_
          refine lv_iload hx hb dX2_outputsOf_34 (lv_at hl 5 rfl) ?_
          refine cx_goi (va_runV (As := [.int x1, .int x2, .int x5]) (rest := []) ⟨hx, hb, hml, hown, hts⟩ (c_X4_strengthAt l D cI cJ cZ cO tS tT H.size aK aK_strengths aK_kinds aK_marks aK_faces aK_bars aK_showing aK_showingRight aK_barring aS aS_cells aS_fits aS_fitsInLine aS_stale aS_staleCells aS_seen aS_queue K_warm K_count K_seeds K_blocks K_rivals K_strengths K_faces S_pieces S_grown S_fitsInAll S_staleCount S_atLeast1 S_atLeast2 S_atLeast3 S_cells x1 x2 x5 _ hw) (cwV 3 hts gX2_outputsOf_X4_strengthAt rfl rfl rfl pv_X4_strengthAt ⟨Nat.le_of_ble_eq_true rfl, Nat.le_of_ble_eq_true rfl⟩) (cx_preV (wc := w_X4_strengthAt cI cJ cZ cO aK aK_strengths aK_kinds aK_marks aK_faces aK_bars aK_showing aK_showingRight aK_barring aS aS_cells aS_fits aS_fitsInLine aS_stale aS_staleCells aS_seen aS_queue K_warm K_count K_seeds K_blocks K_rivals K_strengths K_faces S_pieces S_grown S_fitsInAll S_staleCount S_atLeast1 S_atLeast2 S_atLeast3 S_cells) hE hK hP hD hS hA [0, 1, 2, 3, 4] rfl rfl (va_recv hK hP (ci := 4) (q0 := 3) rfl rfl)) rfl rfl hl.1 rfl (lv_room (Nat.le_of_ble_eq_true rfl)) dX2_outputsOf_36 ⟨Nat.le_of_ble_eq_true rfl, Nat.le_of_ble_eq_true rfl⟩) (fun (_ : Unit) => (w_X2_outputsOf cI cJ cZ cO aK aK_strengths aK_kinds aK_marks aK_faces aK_bars aK_showing aK_showingRight aK_barring aS aS_cells aS_fits aS_fitsInLine aS_stale aS_staleCells aS_seen aS_queue aT aT_acts aT_pieces aT_places aT_before aT_since aO K_warm K_count K_seeds K_blocks K_rivals K_strengths K_faces S_pieces S_grown S_fitsInAll S_staleCount S_atLeast1 S_atLeast2 S_atLeast3 S_cells T_made T_kept T_fromClear T_since)) [0, 1, 2, 3, 4] [5, 6, 7] (ads := [aK, aK_strengths, aK_faces, aS, aS_cells]) (wr := [(aT, .inr (5, [.int T_made, .int T_kept, .int T_fromClear, .ref aT_acts, .ref aT_pieces, .ref aT_places, .ref aT_before, .ref aT_since])), (aT_since, .inl (cI, 324, .inl T_since)), (aO, .inr (2, [.ref aK, .ref aS, .ref aT]))]) rfl rfl (fun u => rfl) (fun u => rfl) rfl (fun u => rfl) rfl (fun u => rfl) rfl hP hD hS hA (fun r36 u H locs hw hP hD hS => ?_)
          have hP : va_P D vwCl (w_X2_outputsOf cI cJ cZ cO aK aK_strengths aK_kinds aK_marks aK_faces aK_bars aK_showing aK_showingRight aK_barring aS aS_cells aS_fits aS_fitsInLine aS_stale aS_staleCells aS_seen aS_queue aT aT_acts aT_pieces aT_places aT_before aT_since aO K_warm K_count K_seeds K_blocks K_rivals K_strengths K_faces S_pieces S_grown S_fitsInAll S_staleCount S_atLeast1 S_atLeast2 S_atLeast3 S_cells T_made T_kept T_fromClear T_since) H := hP
          have hD : va_D A (w_X2_outputsOf cI cJ cZ cO aK aK_strengths aK_kinds aK_marks aK_faces aK_bars aK_showing aK_showingRight aK_barring aS aS_cells aS_fits aS_fitsInLine aS_stale aS_staleCells aS_seen aS_queue aT aT_acts aT_pieces aT_places aT_before aT_since aO K_warm K_count K_seeds K_blocks K_rivals K_strengths K_faces S_pieces S_grown S_fitsInAll S_staleCount S_atLeast1 S_atLeast2 S_atLeast3 S_cells T_made T_kept T_fromClear T_since) := hD
          refine lv_if_le (tgt := 51) hx hb dX2_outputsOf_39 (by decide) (fun c39 => ?_) (fun c39 => ?_)
          · have hw := hw.1 c39
            obtain ⟨v51, e51⟩ : ∃ y : Int32, y = x5 + (1 : Int32) := ⟨_, rfl⟩
            have hw := hw v51 e51
            refine lv_iinc (v := v51) (lv' := [(5, .int v51), (0, .ref aO), (1, .int x1), (2, .int x2), (3, .int x3), (4, .int x4)]) hx hb dX2_outputsOf_51 hl (k := 5) rfl (by rw [e51, kI_1]) (by decide) rfl (fun ls hl => ?_)
            refine lv_goto (tgt := 12) hx hb dX2_outputsOf_54 (by decide) ?_
            exact ih_12 x1 x2 x3 x4 v51 hw H locs hP hD hS ls (lv_sub hl [1, 2, 3, 4, 5, 0] rfl)
          · have hw := hw.2 c39
            refine lv_iload hx hb dX2_outputsOf_42 (lv_at hl 4 rfl) ?_
            refine lv_iconst (v := (1 : Int32)) hx hb dX2_outputsOf_44 kI_1 ?_
            refine lv_iload hx hb dX2_outputsOf_45 (lv_at hl 5 rfl) ?_
            refine lv_ishl hx hb dX2_outputsOf_47 ?_
            refine lv_ior hx hb dX2_outputsOf_48 ?_
            refine lv_topi (fun v49 e49 => ?_)
            have hw := hw v49 e49
            refine lv_istore (lv' := [(4, .int v49), (0, .ref aO), (1, .int x1), (2, .int x2), (3, .int x3), (5, .int x5)]) hx hb dX2_outputsOf_49 hl (by decide) rfl (fun ls hl => ?_)
            obtain ⟨v51, e51⟩ : ∃ y : Int32, y = x5 + (1 : Int32) := ⟨_, rfl⟩
            have hw := hw v51 e51
            refine lv_iinc (v := v51) (lv' := [(5, .int v51), (4, .int v49), (0, .ref aO), (1, .int x1), (2, .int x2), (3, .int x3)]) hx hb dX2_outputsOf_51 hl (k := 5) rfl (by rw [e51, kI_1]) (by decide) rfl (fun ls hl => ?_)
            refine lv_goto (tgt := 12) hx hb dX2_outputsOf_54 (by decide) ?_
            exact ih_12 x1 x2 x3 v49 v51 hw H locs hP hD hS ls (lv_sub hl [2, 3, 4, 5, 1, 0] rfl)
  intro H locs hP hD hS ls hl
  unfold wp_X2_outputsOf at hw
  refine lv_aload_n hx hb dX2_outputsOf_0 rfl (lv_at hl 0 rfl) ?_
  refine lv_iload_n hx hb dX2_outputsOf_1 rfl (lv_at hl 2 rfl) ?_
  refine cx_goi (va_runV (As := [.int p2]) (rest := []) ⟨hx, hb, hml, hown, hts⟩ (c_X2_laterAround l D cI cJ cZ cO tS tT H.size aS aK aS_cells aS_fits aS_fitsInLine aS_stale aS_staleCells aS_seen aS_queue aT aT_acts aT_pieces aT_places aT_before aT_since aO S_pieces S_grown S_fitsInAll S_staleCount S_atLeast1 S_atLeast2 S_atLeast3 S_cells T_made T_kept T_fromClear T_since p2 _ hw) (cwV 1 hts gX2_outputsOf_X2_laterAround rfl rfl rfl pv_X2_laterAround ⟨Nat.le_of_ble_eq_true rfl, Nat.le_of_ble_eq_true rfl⟩) (cx_preV (wc := w_X2_laterAround cI cJ cZ cO aS aK aS_cells aS_fits aS_fitsInLine aS_stale aS_staleCells aS_seen aS_queue aT aT_acts aT_pieces aT_places aT_before aT_since aO S_pieces S_grown S_fitsInAll S_staleCount S_atLeast1 S_atLeast2 S_atLeast3 S_cells T_made T_kept T_fromClear T_since) hE hK hP hD hS hA [3, 4, 5, 6, 7] rfl rfl (va_recv hK hP (ci := 2) (q0 := 7) rfl rfl)) rfl rfl hl.1 rfl (lv_room (Nat.le_of_ble_eq_true rfl)) dX2_outputsOf_2 ⟨Nat.le_of_ble_eq_true rfl, Nat.le_of_ble_eq_true rfl⟩) (fun (_ : Unit) => (w_X2_outputsOf cI cJ cZ cO aK aK_strengths aK_kinds aK_marks aK_faces aK_bars aK_showing aK_showingRight aK_barring aS aS_cells aS_fits aS_fitsInLine aS_stale aS_staleCells aS_seen aS_queue aT aT_acts aT_pieces aT_places aT_before aT_since aO K_warm K_count K_seeds K_blocks K_rivals K_strengths K_faces S_pieces S_grown S_fitsInAll S_staleCount S_atLeast1 S_atLeast2 S_atLeast3 S_cells T_made T_kept T_fromClear T_since)) [3, 4, 5, 6, 7] [0, 1, 2] (ads := [aS, aS_cells, aT, aT_since, aO]) (wr := [(aK, .inr (1, [.int K_warm, .int K_count, .ref aK_strengths, .ref aK_kinds, .ref aK_marks, .ref aK_faces, .ref aK_bars, .ref aK_showing, .ref aK_showingRight, .ref aK_barring, .long K_seeds, .long K_blocks, .long K_rivals])), (aK_strengths, .inl (cI, 51, .inl K_strengths)), (aK_faces, .inl (cI, 512, .inl K_faces))]) rfl rfl (fun u => rfl) (fun u => rfl) rfl (fun u => rfl) rfl (fun u => rfl) rfl hP hD hS hA (fun r2 u H locs hw hP hD hS => ?_)
  have hP : va_P D vwCl (w_X2_outputsOf cI cJ cZ cO aK aK_strengths aK_kinds aK_marks aK_faces aK_bars aK_showing aK_showingRight aK_barring aS aS_cells aS_fits aS_fitsInLine aS_stale aS_staleCells aS_seen aS_queue aT aT_acts aT_pieces aT_places aT_before aT_since aO K_warm K_count K_seeds K_blocks K_rivals K_strengths K_faces S_pieces S_grown S_fitsInAll S_staleCount S_atLeast1 S_atLeast2 S_atLeast3 S_cells T_made T_kept T_fromClear T_since) H := hP
  have hD : va_D A (w_X2_outputsOf cI cJ cZ cO aK aK_strengths aK_kinds aK_marks aK_faces aK_bars aK_showing aK_showingRight aK_barring aS aS_cells aS_fits aS_fitsInLine aS_stale aS_staleCells aS_seen aS_queue aT aT_acts aT_pieces aT_places aT_before aT_since aO K_warm K_count K_seeds K_blocks K_rivals K_strengths K_faces S_pieces S_grown S_fitsInAll S_staleCount S_atLeast1 S_atLeast2 S_atLeast3 S_cells T_made T_kept T_fromClear T_since) := hD
  refine lv_istore_n (lv' := [(3, .int r2), (0, .ref aO), (1, .int p1), (2, .int p2)]) hx hb dX2_outputsOf_5 rfl hl (by decide) rfl (fun ls hl => ?_)
  refine lv_iconst (v := (0 : Int32)) hx hb dX2_outputsOf_6 kI_0 ?_
  refine lv_istore (lv' := [(4, .int (0 : Int32)), (3, .int r2), (0, .ref aO), (1, .int p1), (2, .int p2)]) hx hb dX2_outputsOf_7 hl (by decide) rfl (fun ls hl => ?_)
  refine lv_iconst (v := (0 : Int32)) hx hb dX2_outputsOf_9 kI_0 ?_
  refine lv_istore (lv' := [(5, .int (0 : Int32)), (4, .int (0 : Int32)), (3, .int r2), (0, .ref aO), (1, .int p1), (2, .int p2)]) hx hb dX2_outputsOf_10 hl (by decide) rfl (fun ls hl => ?_)
  obtain ⟨k, hw⟩ := hw
  exact b_12 k p1 p2 r2 (0 : Int32) (0 : Int32) hw H locs hP hD hS ls (lv_sub hl [3, 4, 5, 2, 1, 0] rfl)
