set_option maxRecDepth 100000 in
set_option maxHeartbeats 4000000 in
theorem c_X3_bringSheetTo (l : Launch) (D : va_G) (cI cJ cZ cO : ClassId) (tS tT : Nat) (sz : Nat) (aK aK_strengths aK_kinds aK_marks aK_faces aK_bars aK_showing aK_showingRight aK_barring aS aS_cells aS_fits aS_fitsInLine aS_stale aS_staleCells aS_seen aS_queue aR aR_start aR_parents aR_places aR_pieces aR_wide aR_sizes aR_sums aR_firstInBucket aR_nextInBucket : Nat) (K_warm : Int32) (K_count : Int32) (K_seeds : Int64) (K_blocks : Int64) (K_rivals : Int64) (K_kinds : Nat → Int32) (S_pieces : Int32) (S_grown : Int32) (S_fitsInAll : Int32) (S_staleCount : Int32) (S_atLeast1 : Int64) (S_atLeast2 : Int64) (S_atLeast3 : Int64) (S_cells : Nat → Int32) (S_stale : Nat → Int32) (S_staleCells : Nat → Int32) (R_told : Int32) (R_found : Int32) (R_ended : Int32) (R_cut : Int32) (R_largest : Int32) (R_here : Int32) (R_parents : Nat → Int32) (R_places : Nat → Int32) (R_pieces : Nat → Int32) (p1 : Int32) (Q : (Nat → Int32) → (Int32) → (Int32) → (Nat → Int32) → (Nat → Int32) → (Int32) → (Int32) → Prop) (hw : wp_X3_bringSheetTo K_kinds R_parents R_places R_pieces S_cells S_pieces S_grown S_stale S_staleCells S_staleCount R_here p1 Q) : Met l yX3_bringSheetTo wsX3_bringSheetTo rm_X3_bringSheetTo (va_Pc [.ref aR, .int p1] (cx_B tS tT cI cJ cZ cO D sz (w_X3_bringSheetTo cI cJ cZ cO aK aK_strengths aK_kinds aK_marks aK_faces aK_bars aK_showing aK_showingRight aK_barring aS aS_cells aS_fits aS_fitsInLine aS_stale aS_staleCells aS_seen aS_queue aR aR_start aR_parents aR_places aR_pieces aR_wide aR_sizes aR_sums aR_firstInBucket aR_nextInBucket K_warm K_count K_seeds K_blocks K_rivals K_kinds S_pieces S_grown S_fitsInAll S_staleCount S_atLeast1 S_atLeast2 S_atLeast3 S_cells S_stale S_staleCells R_told R_found R_ended R_cut R_largest R_here R_parents R_places R_pieces))) (va_Qv (fun (u : (Nat → Int32) × (Int32) × (Int32) × (Nat → Int32) × (Nat → Int32) × (Int32) × (Int32)) => Q u.1 u.2.1 u.2.2.1 u.2.2.2.1 u.2.2.2.2.1 u.2.2.2.2.2.1 u.2.2.2.2.2.2) (fun (u : (Nat → Int32) × (Int32) × (Int32) × (Nat → Int32) × (Nat → Int32) × (Int32) × (Int32)) t => va_P D vwCl (w_X3_bringSheetTo cI cJ cZ cO aK aK_strengths aK_kinds aK_marks aK_faces aK_bars aK_showing aK_showingRight aK_barring aS aS_cells aS_fits aS_fitsInLine aS_stale aS_staleCells aS_seen aS_queue aR aR_start aR_parents aR_places aR_pieces aR_wide aR_sizes aR_sums aR_firstInBucket aR_nextInBucket K_warm K_count K_seeds K_blocks K_rivals K_kinds u.2.1 u.2.2.1 S_fitsInAll u.2.2.2.2.2.1 S_atLeast1 S_atLeast2 S_atLeast3 u.1 u.2.2.2.1 u.2.2.2.2.1 R_told R_found R_ended R_cut R_largest u.2.2.2.2.2.2 R_parents R_places R_pieces) t.heap) (va_A (w_X3_bringSheetTo cI cJ cZ cO aK aK_strengths aK_kinds aK_marks aK_faces aK_bars aK_showing aK_showingRight aK_barring aS aS_cells aS_fits aS_fitsInLine aS_stale aS_staleCells aS_seen aS_queue aR aR_start aR_parents aR_places aR_pieces aR_wide aR_sizes aR_sums aR_firstInBucket aR_nextInBucket K_warm K_count K_seeds K_blocks K_rivals K_kinds S_pieces S_grown S_fitsInAll S_staleCount S_atLeast1 S_atLeast2 S_atLeast3 S_cells S_stale S_staleCells R_told R_found R_ended R_cut R_largest R_here R_parents R_places R_pieces) sz)) 0 0 (va_A (w_X3_bringSheetTo cI cJ cZ cO aK aK_strengths aK_kinds aK_marks aK_faces aK_bars aK_showing aK_showingRight aK_barring aS aS_cells aS_fits aS_fitsInLine aS_stale aS_staleCells aS_seen aS_queue aR aR_start aR_parents aR_places aR_pieces aR_wide aR_sizes aR_sums aR_firstInBucket aR_nextInBucket K_warm K_count K_seeds K_blocks K_rivals K_kinds S_pieces S_grown S_fitsInAll S_staleCount S_atLeast1 S_atLeast2 S_atLeast3 S_cells S_stale S_staleCells R_told R_found R_ended R_cut R_largest R_here R_parents R_places R_pieces) sz) := by
  refine cx_met (cc := cX3_bringSheetTo) (maxL := 6) (ret := none) (Qc := fun A => va_Qv (fun (u : (Nat → Int32) × (Int32) × (Int32) × (Nat → Int32) × (Nat → Int32) × (Int32) × (Int32)) => Q u.1 u.2.1 u.2.2.1 u.2.2.2.1 u.2.2.2.2.1 u.2.2.2.2.2.1 u.2.2.2.2.2.2) (fun (u : (Nat → Int32) × (Int32) × (Int32) × (Nat → Int32) × (Nat → Int32) × (Int32) × (Int32)) t => va_P D vwCl (w_X3_bringSheetTo cI cJ cZ cO aK aK_strengths aK_kinds aK_marks aK_faces aK_bars aK_showing aK_showingRight aK_barring aS aS_cells aS_fits aS_fitsInLine aS_stale aS_staleCells aS_seen aS_queue aR aR_start aR_parents aR_places aR_pieces aR_wide aR_sizes aR_sums aR_firstInBucket aR_nextInBucket K_warm K_count K_seeds K_blocks K_rivals K_kinds u.2.1 u.2.2.1 S_fitsInAll u.2.2.2.2.2.1 S_atLeast1 S_atLeast2 S_atLeast3 u.1 u.2.2.2.1 u.2.2.2.2.1 R_told R_found R_ended R_cut R_largest u.2.2.2.2.2.2 R_parents R_places R_pieces) t.heap) A) (lv := [(0, .ref aR), (1, .int p1)]) (by decide) rfl (Nat.le_of_ble_eq_true rfl) rfl ?_
  intro p e s m args below meth c A Z hx hb hr hlocks hts hown hml hE hK hA hZ
  have hown : s.vm.findClass RX3 = some m.cls := hown
  have k_0 := hts (.fieldLink RX3 95 "GrowingTiles$Search" "here" "I") (List.mem_of_getElem? (i := 1) (by decide +kernel))
  have k_1 := hts (.fieldLink RX3 9 "GrowingTiles$Search" "sheet" "LGrowingTiles$Sheet;") (List.mem_of_getElem? (i := 2) (by decide +kernel))
  have k_2 := hts (.fieldLink RX3 32 "GrowingTiles$Search" "pieces" "[I") (List.mem_of_getElem? (i := 5) (by decide +kernel))
  have k_3 := hts (.fieldLink RX3 29 "GrowingTiles$Search" "places" "[I") (List.mem_of_getElem? (i := 3) (by decide +kernel))
  have k_4 := hts (.fieldLink RX3 26 "GrowingTiles$Search" "parents" "[I") (List.mem_of_getElem? (i := 4) (by decide +kernel))
  have b_113 : ∀ (S_cells : Nat → Int32) (S_pieces : Int32) (S_grown : Int32) (S_stale : Nat → Int32) (S_staleCells : Nat → Int32) (S_staleCount : Int32) (R_here : Int32) (x1 : Int32), wq_X3_bringSheetTo_113 K_kinds R_parents R_places R_pieces Q S_cells S_pieces S_grown S_stale S_staleCells S_staleCount R_here x1 → ∀ (H : Heap) (locs : List Loc), va_P D vwCl (w_X3_bringSheetTo cI cJ cZ cO aK aK_strengths aK_kinds aK_marks aK_faces aK_bars aK_showing aK_showingRight aK_barring aS aS_cells aS_fits aS_fitsInLine aS_stale aS_staleCells aS_seen aS_queue aR aR_start aR_parents aR_places aR_pieces aR_wide aR_sizes aR_sums aR_firstInBucket aR_nextInBucket K_warm K_count K_seeds K_blocks K_rivals K_kinds S_pieces S_grown S_fitsInAll S_staleCount S_atLeast1 S_atLeast2 S_atLeast3 S_cells S_stale S_staleCells R_told R_found R_ended R_cut R_largest R_here R_parents R_places R_pieces) H → va_D A (w_X3_bringSheetTo cI cJ cZ cO aK aK_strengths aK_kinds aK_marks aK_faces aK_bars aK_showing aK_showingRight aK_barring aS aS_cells aS_fits aS_fitsInLine aS_stale aS_staleCells aS_seen aS_queue aR aR_start aR_parents aR_places aR_pieces aR_wide aR_sizes aR_sums aR_firstInBucket aR_nextInBucket K_warm K_count K_seeds K_blocks K_rivals K_kinds S_pieces S_grown S_fitsInAll S_staleCount S_atLeast1 S_atLeast2 S_atLeast3 S_cells S_stale S_staleCells R_told R_found R_ended R_cut R_largest R_here R_parents R_places R_pieces) → va_S A s.heap H locs → ∀ ls : Array Slot, lv_has ls 6 [(0, .ref aR), (1, .int x1)] → W p l e rm_X3_bringSheetTo s m args below meth c H locs 0 0 Z (F0 m 113 ls []) := by
    intro S_cells S_pieces S_grown S_stale S_staleCells S_staleCount R_here x1 hw H locs hP hD hS ls hl
    unfold wq_X3_bringSheetTo_113 at hw
    refine lv_aload_n hx hb dX3_bringSheetTo_113 rfl (lv_at hl 0 rfl) ?_
    refine lv_iload_n hx hb dX3_bringSheetTo_114 rfl (lv_at hl 1 rfl) ?_
    refine va_put (D := D) (ci := 3) (v := .int x1) (ty := .int) (C := RX3) (T := TX3) (N := 16) hx hb hts in_X3_bringSheetTo_X3 tyX3 tyX3_ok nmX3 hown hK hP hD hS 6 rfl rfl 15 (by decide) k_0 (fun _ h9 => h9) rfl (tyX3_ok 15 (by decide)) rfl rfl (Nat.le_of_ble_eq_true rfl) dX3_bringSheetTo_115 (fun H locs hP hD hS => ?_)
    have hP : va_P D vwCl (w_X3_bringSheetTo cI cJ cZ cO aK aK_strengths aK_kinds aK_marks aK_faces aK_bars aK_showing aK_showingRight aK_barring aS aS_cells aS_fits aS_fitsInLine aS_stale aS_staleCells aS_seen aS_queue aR aR_start aR_parents aR_places aR_pieces aR_wide aR_sizes aR_sums aR_firstInBucket aR_nextInBucket K_warm K_count K_seeds K_blocks K_rivals K_kinds S_pieces S_grown S_fitsInAll S_staleCount S_atLeast1 S_atLeast2 S_atLeast3 S_cells S_stale S_staleCells R_told R_found R_ended R_cut R_largest x1 R_parents R_places R_pieces) H := hP
    have hD : va_D A (w_X3_bringSheetTo cI cJ cZ cO aK aK_strengths aK_kinds aK_marks aK_faces aK_bars aK_showing aK_showingRight aK_barring aS aS_cells aS_fits aS_fitsInLine aS_stale aS_staleCells aS_seen aS_queue aR aR_start aR_parents aR_places aR_pieces aR_wide aR_sizes aR_sums aR_firstInBucket aR_nextInBucket K_warm K_count K_seeds K_blocks K_rivals K_kinds S_pieces S_grown S_fitsInAll S_staleCount S_atLeast1 S_atLeast2 S_atLeast3 S_cells S_stale S_staleCells R_told R_found R_ended R_cut R_largest x1 R_parents R_places R_pieces) := hD
    rw [hZ]
    exact cx_retv (S_cells, S_pieces, S_grown, S_stale, S_staleCells, S_staleCount, x1) hx hb hr hlocks hw hP hS dX3_bringSheetTo_118
  have b_63 : ∀ n_63 : Nat, ∀ (S_cells : Nat → Int32) (S_pieces : Int32) (S_grown : Int32) (S_stale : Nat → Int32) (S_staleCells : Nat → Int32) (S_staleCount : Int32) (R_here : Int32) (x1 : Int32) (x2 : Int32) (x4 : Int32) (x5 : Int32), wq_X3_bringSheetTo_63 K_kinds R_parents R_places R_pieces Q n_63 S_cells S_pieces S_grown S_stale S_staleCells S_staleCount R_here x1 x2 x4 x5 → ∀ (H : Heap) (locs : List Loc), va_P D vwCl (w_X3_bringSheetTo cI cJ cZ cO aK aK_strengths aK_kinds aK_marks aK_faces aK_bars aK_showing aK_showingRight aK_barring aS aS_cells aS_fits aS_fitsInLine aS_stale aS_staleCells aS_seen aS_queue aR aR_start aR_parents aR_places aR_pieces aR_wide aR_sizes aR_sums aR_firstInBucket aR_nextInBucket K_warm K_count K_seeds K_blocks K_rivals K_kinds S_pieces S_grown S_fitsInAll S_staleCount S_atLeast1 S_atLeast2 S_atLeast3 S_cells S_stale S_staleCells R_told R_found R_ended R_cut R_largest R_here R_parents R_places R_pieces) H → va_D A (w_X3_bringSheetTo cI cJ cZ cO aK aK_strengths aK_kinds aK_marks aK_faces aK_bars aK_showing aK_showingRight aK_barring aS aS_cells aS_fits aS_fitsInLine aS_stale aS_staleCells aS_seen aS_queue aR aR_start aR_parents aR_places aR_pieces aR_wide aR_sizes aR_sums aR_firstInBucket aR_nextInBucket K_warm K_count K_seeds K_blocks K_rivals K_kinds S_pieces S_grown S_fitsInAll S_staleCount S_atLeast1 S_atLeast2 S_atLeast3 S_cells S_stale S_staleCells R_told R_found R_ended R_cut R_largest R_here R_parents R_places R_pieces) → va_S A s.heap H locs → ∀ ls : Array Slot, lv_has ls 6 [(0, .ref aR), (1, .int x1), (2, .int x2), (4, .int x4), (5, .int x5)] → W p l e rm_X3_bringSheetTo s m args below meth c H locs 0 0 Z (F0 m 63 ls []) := by
    intro n_63
    induction n_63 with
    | zero => intro S_cells S_pieces S_grown S_stale S_staleCells S_staleCount R_here x1 x2 x4 x5 hw; exact False.elim hw
    | succ n_63 ih_63 =>
      intro S_cells S_pieces S_grown S_stale S_staleCells S_staleCount R_here x1 x2 x4 x5 hw H locs hP hD hS ls hl
      have hw : wf_X3_bringSheetTo_63 K_kinds R_parents R_places R_pieces Q (wq_X3_bringSheetTo_63 K_kinds R_parents R_places R_pieces Q n_63) S_cells S_pieces S_grown S_stale S_staleCells S_staleCount R_here x1 x2 x4 x5 := hw
      unfold wf_X3_bringSheetTo_63 at hw
      refine lv_iload hx hb dX3_bringSheetTo_63 (lv_at hl 4 rfl) ?_
      refine lv_sipush (v := (300 : Int32)) hx hb dX3_bringSheetTo_65 kS_300 ?_
      refine lv_icmp_ge (tgt := 113) hx hb dX3_bringSheetTo_68 (by decide) (fun c68 => ?_) (fun c68 => ?_)
      · have hw := hw.1 c68
        exact b_113 S_cells S_pieces S_grown S_stale S_staleCells S_staleCount R_here x1 hw H locs hP hD hS ls (lv_sub hl [0, 1] rfl)
      · have hw := hw.2 c68
        refine lv_iload hx hb dX3_bringSheetTo_71 (lv_at hl 3 rfl) ?_
        refine lv_iload_n hx hb dX3_bringSheetTo_73 rfl (lv_at hl 2 rfl) ?_
        refine lv_icmp_eq (tgt := 113) hx hb dX3_bringSheetTo_74 (by decide) (fun c74 => ?_) (fun c74 => ?_)
        · have hw := hw.1 c74
          exact b_113 S_cells S_pieces S_grown S_stale S_staleCells S_staleCount R_here x1 hw H locs hP hD hS ls (lv_sub hl [0, 1] rfl)
        · have hw := hw.2 c74
          refine lv_aload_n hx hb dX3_bringSheetTo_77 rfl (lv_at hl 0 rfl) ?_
          refine va_get (D := D) (ci := 3) (v := .ref aS) (C := RX3) (T := TX3) (N := 16) hx hb hts in_X3_bringSheetTo_X3 hown hK hP 6 rfl rfl 5 (by decide) k_1 (fun _ h9 => h9) rfl dX3_bringSheetTo_78 ?_
          refine lv_aload_n hx hb dX3_bringSheetTo_81 rfl (lv_at hl 0 rfl) ?_
          refine va_get (D := D) (ci := 3) (v := .ref aR_pieces) (C := RX3) (T := TX3) (N := 16) hx hb hts in_X3_bringSheetTo_X3 hown hK hP 6 rfl rfl 9 (by decide) k_2 (fun _ h9 => h9) rfl dX3_bringSheetTo_82 ?_
          refine lv_iload hx hb dX3_bringSheetTo_85 (lv_at hl 3 rfl) ?_
          have h87 := hw.1
          have hw := hw.2
          refine va_iald hx hb hK hP 9 0 rfl rfl h87 dX3_bringSheetTo_87 ?_
          refine lv_topi (fun v87 e87 => ?_)
          have hw := hw v87 e87
          refine lv_aload_n hx hb dX3_bringSheetTo_88 rfl (lv_at hl 0 rfl) ?_
          refine va_get (D := D) (ci := 3) (v := .ref aR_places) (C := RX3) (T := TX3) (N := 16) hx hb hts in_X3_bringSheetTo_X3 hown hK hP 6 rfl rfl 8 (by decide) k_3 (fun _ h9 => h9) rfl dX3_bringSheetTo_89 ?_
          refine lv_iload hx hb dX3_bringSheetTo_92 (lv_at hl 3 rfl) ?_
          have h94 := hw.1
          have hw := hw.2
          refine va_iald hx hb hK hP 8 0 rfl rfl h94 dX3_bringSheetTo_94 ?_
          refine lv_topi (fun v94 e94 => ?_)
          have hw := hw v94 e94
          refine cx_gov (va_runV (As := [.int v87, .int v94]) (rest := []) ⟨hx, hb, hml, hown, hts⟩ (c_X4_putDown l D cI cJ cZ cO tS tT H.size aK aK_strengths aK_kinds aK_marks aK_faces aK_bars aK_showing aK_showingRight aK_barring aS aS_cells aS_fits aS_fitsInLine aS_stale aS_staleCells aS_seen aS_queue K_warm K_count K_seeds K_blocks K_rivals K_kinds S_pieces S_grown S_fitsInAll S_staleCount S_atLeast1 S_atLeast2 S_atLeast3 S_cells S_stale S_staleCells v87 v94 _ hw) (cwV 2 hts gX3_bringSheetTo_X4_putDown rfl rfl rfl pv_X4_putDown ⟨Nat.le_of_ble_eq_true rfl, Nat.le_of_ble_eq_true rfl⟩) (cx_preV (wc := w_X4_putDown cI cJ cZ cO aK aK_strengths aK_kinds aK_marks aK_faces aK_bars aK_showing aK_showingRight aK_barring aS aS_cells aS_fits aS_fitsInLine aS_stale aS_staleCells aS_seen aS_queue K_warm K_count K_seeds K_blocks K_rivals K_kinds S_pieces S_grown S_fitsInAll S_staleCount S_atLeast1 S_atLeast2 S_atLeast3 S_cells S_stale S_staleCells) hE hK hP hD hS hA [0, 1, 2, 3, 4, 5] rfl rfl (va_recv hK hP (ci := 4) (q0 := 2) rfl rfl)) rfl rfl hl.1 rfl (lv_room (Nat.le_of_ble_eq_true rfl)) dX3_bringSheetTo_95 ⟨Nat.le_of_ble_eq_true rfl, Nat.le_of_ble_eq_true rfl⟩) (fun (u : (Nat → Int32) × (Int32) × (Int32) × (Nat → Int32) × (Nat → Int32) × (Int32)) => (w_X3_bringSheetTo cI cJ cZ cO aK aK_strengths aK_kinds aK_marks aK_faces aK_bars aK_showing aK_showingRight aK_barring aS aS_cells aS_fits aS_fitsInLine aS_stale aS_staleCells aS_seen aS_queue aR aR_start aR_parents aR_places aR_pieces aR_wide aR_sizes aR_sums aR_firstInBucket aR_nextInBucket K_warm K_count K_seeds K_blocks K_rivals K_kinds u.2.1 u.2.2.1 S_fitsInAll u.2.2.2.2.2 S_atLeast1 S_atLeast2 S_atLeast3 u.1 u.2.2.2.1 u.2.2.2.2.1 R_told R_found R_ended R_cut R_largest R_here R_parents R_places R_pieces)) [0, 1, 2, 3, 4, 5] [6, 7, 8, 9] (ads := [aK, aK_kinds, aS, aS_cells, aS_stale, aS_staleCells]) (wr := [(aR, .inr (3, [.int R_told, .int R_found, .int R_ended, .int R_cut, .int R_largest, .ref aS, .ref aR_start, .ref aR_parents, .ref aR_places, .ref aR_pieces, .ref aR_wide, .ref aR_sizes, .ref aR_sums, .ref aR_firstInBucket, .ref aR_nextInBucket, .int R_here])), (aR_parents, .inl (cI, 300, .inl R_parents)), (aR_places, .inl (cI, 300, .inl R_places)), (aR_pieces, .inl (cI, 300, .inl R_pieces))]) rfl rfl (fun u => rfl) (fun u => rfl) rfl (fun u => rfl) rfl (fun u => rfl) rfl hP hD hS hA (fun u H locs hw hP hD hS => ?_)
          obtain ⟨S_cells_95, S_pieces_95, S_grown_95, S_stale_95, S_staleCells_95, S_staleCount_95⟩ := u
          try dsimp only at hw
          have hP : va_P D vwCl (w_X3_bringSheetTo cI cJ cZ cO aK aK_strengths aK_kinds aK_marks aK_faces aK_bars aK_showing aK_showingRight aK_barring aS aS_cells aS_fits aS_fitsInLine aS_stale aS_staleCells aS_seen aS_queue aR aR_start aR_parents aR_places aR_pieces aR_wide aR_sizes aR_sums aR_firstInBucket aR_nextInBucket K_warm K_count K_seeds K_blocks K_rivals K_kinds S_pieces_95 S_grown_95 S_fitsInAll S_staleCount_95 S_atLeast1 S_atLeast2 S_atLeast3 S_cells_95 S_stale_95 S_staleCells_95 R_told R_found R_ended R_cut R_largest R_here R_parents R_places R_pieces) H := hP
          have hD : va_D A (w_X3_bringSheetTo cI cJ cZ cO aK aK_strengths aK_kinds aK_marks aK_faces aK_bars aK_showing aK_showingRight aK_barring aS aS_cells aS_fits aS_fitsInLine aS_stale aS_staleCells aS_seen aS_queue aR aR_start aR_parents aR_places aR_pieces aR_wide aR_sizes aR_sums aR_firstInBucket aR_nextInBucket K_warm K_count K_seeds K_blocks K_rivals K_kinds S_pieces_95 S_grown_95 S_fitsInAll S_staleCount_95 S_atLeast1 S_atLeast2 S_atLeast3 S_cells_95 S_stale_95 S_staleCells_95 R_told R_found R_ended R_cut R_largest R_here R_parents R_places R_pieces) := hD
          refine lv_aload_n hx hb dX3_bringSheetTo_98 rfl (lv_at hl 0 rfl) ?_
          refine va_get (D := D) (ci := 3) (v := .ref aR_parents) (C := RX3) (T := TX3) (N := 16) hx hb hts in_X3_bringSheetTo_X3 hown hK hP 6 rfl rfl 7 (by decide) k_4 (fun _ h9 => h9) rfl dX3_bringSheetTo_99 ?_
          refine lv_iload hx hb dX3_bringSheetTo_102 (lv_at hl 3 rfl) ?_
          have h104 := hw.1
          have hw := hw.2
          refine va_iald hx hb hK hP 7 0 rfl rfl h104 dX3_bringSheetTo_104 ?_
          refine lv_topi (fun v104 e104 => ?_)
          have hw := hw v104 e104
          refine lv_istore (lv' := [(4, .int v104), (0, .ref aR), (1, .int x1), (2, .int x2), (5, .int x5)]) hx hb dX3_bringSheetTo_105 hl (by decide) rfl (fun ls hl => ?_)
          obtain ⟨v107, e107⟩ : ∃ y : Int32, y = x5 + (1 : Int32) := ⟨_, rfl⟩
          have hw := hw v107 e107
          refine lv_iinc (v := v107) (lv' := [(5, .int v107), (4, .int v104), (0, .ref aR), (1, .int x1), (2, .int x2)]) hx hb dX3_bringSheetTo_107 hl (k := 4) rfl (by rw [e107, kI_1]) (by decide) rfl (fun ls hl => ?_)
          refine lv_goto (tgt := 63) hx hb dX3_bringSheetTo_110 (by decide) ?_
          exact ih_63 S_cells_95 S_pieces_95 S_grown_95 S_stale_95 S_staleCells_95 S_staleCount_95 R_here x1 x2 v104 v107 hw H locs hP hD hS ls (lv_sub hl [2, 3, 4, 1, 0] rfl)
  have b_18 : ∀ n_18 : Nat, ∀ (S_cells : Nat → Int32) (S_pieces : Int32) (S_grown : Int32) (S_stale : Nat → Int32) (S_staleCells : Nat → Int32) (S_staleCount : Int32) (R_here : Int32) (x1 : Int32) (x2 : Int32) (x3 : Int32) (x4 : Int32), wq_X3_bringSheetTo_18 K_kinds R_parents R_places R_pieces Q n_18 S_cells S_pieces S_grown S_stale S_staleCells S_staleCount R_here x1 x2 x3 x4 → ∀ (H : Heap) (locs : List Loc), va_P D vwCl (w_X3_bringSheetTo cI cJ cZ cO aK aK_strengths aK_kinds aK_marks aK_faces aK_bars aK_showing aK_showingRight aK_barring aS aS_cells aS_fits aS_fitsInLine aS_stale aS_staleCells aS_seen aS_queue aR aR_start aR_parents aR_places aR_pieces aR_wide aR_sizes aR_sums aR_firstInBucket aR_nextInBucket K_warm K_count K_seeds K_blocks K_rivals K_kinds S_pieces S_grown S_fitsInAll S_staleCount S_atLeast1 S_atLeast2 S_atLeast3 S_cells S_stale S_staleCells R_told R_found R_ended R_cut R_largest R_here R_parents R_places R_pieces) H → va_D A (w_X3_bringSheetTo cI cJ cZ cO aK aK_strengths aK_kinds aK_marks aK_faces aK_bars aK_showing aK_showingRight aK_barring aS aS_cells aS_fits aS_fitsInLine aS_stale aS_staleCells aS_seen aS_queue aR aR_start aR_parents aR_places aR_pieces aR_wide aR_sizes aR_sums aR_firstInBucket aR_nextInBucket K_warm K_count K_seeds K_blocks K_rivals K_kinds S_pieces S_grown S_fitsInAll S_staleCount S_atLeast1 S_atLeast2 S_atLeast3 S_cells S_stale S_staleCells R_told R_found R_ended R_cut R_largest R_here R_parents R_places R_pieces) → va_S A s.heap H locs → ∀ ls : Array Slot, lv_has ls 6 [(0, .ref aR), (1, .int x1), (2, .int x2), (3, .int x3), (4, .int x4)] → W p l e rm_X3_bringSheetTo s m args below meth c H locs 0 0 Z (F0 m 18 ls []) := by
    intro n_18
    induction n_18 with
    | zero => intro S_cells S_pieces S_grown S_stale S_staleCells S_staleCount R_here x1 x2 x3 x4 hw; exact False.elim hw
    | succ n_18 ih_18 =>
      intro S_cells S_pieces S_grown S_stale S_staleCells S_staleCount R_here x1 x2 x3 x4 hw H locs hP hD hS ls hl
      have hw : wf_X3_bringSheetTo_18 K_kinds R_parents R_places R_pieces Q (wq_X3_bringSheetTo_18 K_kinds R_parents R_places R_pieces Q n_18) S_cells S_pieces S_grown S_stale S_staleCells S_staleCount R_here x1 x2 x3 x4 := hw
      unfold wf_X3_bringSheetTo_18 at hw
      refine lv_iload hx hb dX3_bringSheetTo_18 (lv_at hl 4 rfl) ?_
      refine lv_sipush (v := (300 : Int32)) hx hb dX3_bringSheetTo_20 kS_300 ?_
      refine lv_icmp_ge (tgt := 57) hx hb dX3_bringSheetTo_23 (by decide) (fun c23 => ?_) (fun c23 => ?_)
      · have hw := hw.1 c23
        refine lv_iload_n hx hb dX3_bringSheetTo_57 rfl (lv_at hl 1 rfl) ?_
        refine lv_istore (lv' := [(4, .int x1), (0, .ref aR), (1, .int x1), (2, .int x2), (3, .int x3)]) hx hb dX3_bringSheetTo_58 hl (by decide) rfl (fun ls hl => ?_)
        refine lv_iconst (v := (0 : Int32)) hx hb dX3_bringSheetTo_60 kI_0 ?_
        refine lv_istore (lv' := [(5, .int (0 : Int32)), (4, .int x1), (0, .ref aR), (1, .int x1), (2, .int x2), (3, .int x3)]) hx hb dX3_bringSheetTo_61 hl (by decide) rfl (fun ls hl => ?_)
        obtain ⟨k, hw⟩ := hw
        exact b_63 k S_cells S_pieces S_grown S_stale S_staleCells S_staleCount R_here x1 x2 x1 (0 : Int32) hw H locs hP hD hS ls (lv_sub hl [2, 3, 4, 1, 0] rfl)
      · have hw := hw.2 c23
        refine lv_iload_n hx hb dX3_bringSheetTo_26 rfl (lv_at hl 3 rfl) ?_
        refine lv_iload_n hx hb dX3_bringSheetTo_27 rfl (lv_at hl 2 rfl) ?_
        refine lv_icmp_eq (tgt := 57) hx hb dX3_bringSheetTo_28 (by decide) (fun c28 => ?_) (fun c28 => ?_)
        · have hw := hw.1 c28
          refine lv_iload_n hx hb dX3_bringSheetTo_57 rfl (lv_at hl 1 rfl) ?_
          refine lv_istore (lv' := [(4, .int x1), (0, .ref aR), (1, .int x1), (2, .int x2), (3, .int x3)]) hx hb dX3_bringSheetTo_58 hl (by decide) rfl (fun ls hl => ?_)
          refine lv_iconst (v := (0 : Int32)) hx hb dX3_bringSheetTo_60 kI_0 ?_
          refine lv_istore (lv' := [(5, .int (0 : Int32)), (4, .int x1), (0, .ref aR), (1, .int x1), (2, .int x2), (3, .int x3)]) hx hb dX3_bringSheetTo_61 hl (by decide) rfl (fun ls hl => ?_)
          obtain ⟨k, hw⟩ := hw
          exact b_63 k S_cells S_pieces S_grown S_stale S_staleCells S_staleCount R_here x1 x2 x1 (0 : Int32) hw H locs hP hD hS ls (lv_sub hl [2, 3, 4, 1, 0] rfl)
        · have hw := hw.2 c28
          refine lv_aload_n hx hb dX3_bringSheetTo_31 rfl (lv_at hl 0 rfl) ?_
          refine va_get (D := D) (ci := 3) (v := .ref aS) (C := RX3) (T := TX3) (N := 16) hx hb hts in_X3_bringSheetTo_X3 hown hK hP 6 rfl rfl 5 (by decide) k_1 (fun _ h9 => h9) rfl dX3_bringSheetTo_32 ?_
          refine lv_aload_n hx hb dX3_bringSheetTo_35 rfl (lv_at hl 0 rfl) ?_
          refine va_get (D := D) (ci := 3) (v := .ref aR_places) (C := RX3) (T := TX3) (N := 16) hx hb hts in_X3_bringSheetTo_X3 hown hK hP 6 rfl rfl 8 (by decide) k_3 (fun _ h9 => h9) rfl dX3_bringSheetTo_36 ?_
          refine lv_iload_n hx hb dX3_bringSheetTo_39 rfl (lv_at hl 3 rfl) ?_
          have h40 := hw.1
          have hw := hw.2
          refine va_iald hx hb hK hP 8 0 rfl rfl h40 dX3_bringSheetTo_40 ?_
          refine lv_topi (fun v40 e40 => ?_)
          have hw := hw v40 e40
          refine cx_gov (va_runV (As := [.int v40]) (rest := []) ⟨hx, hb, hml, hown, hts⟩ (c_X4_lift l D cI cJ cZ cO tS tT H.size aK aK_strengths aK_kinds aK_marks aK_faces aK_bars aK_showing aK_showingRight aK_barring aS aS_cells aS_fits aS_fitsInLine aS_stale aS_staleCells aS_seen aS_queue K_warm K_count K_seeds K_blocks K_rivals K_kinds S_pieces S_grown S_fitsInAll S_staleCount S_atLeast1 S_atLeast2 S_atLeast3 S_cells S_stale S_staleCells v40 _ hw) (cwV 1 hts gX3_bringSheetTo_X4_lift rfl rfl rfl pv_X4_lift ⟨Nat.le_of_ble_eq_true rfl, Nat.le_of_ble_eq_true rfl⟩) (cx_preV (wc := w_X4_lift cI cJ cZ cO aK aK_strengths aK_kinds aK_marks aK_faces aK_bars aK_showing aK_showingRight aK_barring aS aS_cells aS_fits aS_fitsInLine aS_stale aS_staleCells aS_seen aS_queue K_warm K_count K_seeds K_blocks K_rivals K_kinds S_pieces S_grown S_fitsInAll S_staleCount S_atLeast1 S_atLeast2 S_atLeast3 S_cells S_stale S_staleCells) hE hK hP hD hS hA [0, 1, 2, 3, 4, 5] rfl rfl (va_recv hK hP (ci := 4) (q0 := 2) rfl rfl)) rfl rfl hl.1 rfl (lv_room (Nat.le_of_ble_eq_true rfl)) dX3_bringSheetTo_41 ⟨Nat.le_of_ble_eq_true rfl, Nat.le_of_ble_eq_true rfl⟩) (fun (u : (Nat → Int32) × (Int32) × (Int32) × (Nat → Int32) × (Nat → Int32) × (Int32)) => (w_X3_bringSheetTo cI cJ cZ cO aK aK_strengths aK_kinds aK_marks aK_faces aK_bars aK_showing aK_showingRight aK_barring aS aS_cells aS_fits aS_fitsInLine aS_stale aS_staleCells aS_seen aS_queue aR aR_start aR_parents aR_places aR_pieces aR_wide aR_sizes aR_sums aR_firstInBucket aR_nextInBucket K_warm K_count K_seeds K_blocks K_rivals K_kinds u.2.1 u.2.2.1 S_fitsInAll u.2.2.2.2.2 S_atLeast1 S_atLeast2 S_atLeast3 u.1 u.2.2.2.1 u.2.2.2.2.1 R_told R_found R_ended R_cut R_largest R_here R_parents R_places R_pieces)) [0, 1, 2, 3, 4, 5] [6, 7, 8, 9] (ads := [aK, aK_kinds, aS, aS_cells, aS_stale, aS_staleCells]) (wr := [(aR, .inr (3, [.int R_told, .int R_found, .int R_ended, .int R_cut, .int R_largest, .ref aS, .ref aR_start, .ref aR_parents, .ref aR_places, .ref aR_pieces, .ref aR_wide, .ref aR_sizes, .ref aR_sums, .ref aR_firstInBucket, .ref aR_nextInBucket, .int R_here])), (aR_parents, .inl (cI, 300, .inl R_parents)), (aR_places, .inl (cI, 300, .inl R_places)), (aR_pieces, .inl (cI, 300, .inl R_pieces))]) rfl rfl (fun u => rfl) (fun u => rfl) rfl (fun u => rfl) rfl (fun u => rfl) rfl hP hD hS hA (fun u H locs hw hP hD hS => ?_)
          obtain ⟨S_cells_41, S_pieces_41, S_grown_41, S_stale_41, S_staleCells_41, S_staleCount_41⟩ := u
          try dsimp only at hw
          have hP : va_P D vwCl (w_X3_bringSheetTo cI cJ cZ cO aK aK_strengths aK_kinds aK_marks aK_faces aK_bars aK_showing aK_showingRight aK_barring aS aS_cells aS_fits aS_fitsInLine aS_stale aS_staleCells aS_seen aS_queue aR aR_start aR_parents aR_places aR_pieces aR_wide aR_sizes aR_sums aR_firstInBucket aR_nextInBucket K_warm K_count K_seeds K_blocks K_rivals K_kinds S_pieces_41 S_grown_41 S_fitsInAll S_staleCount_41 S_atLeast1 S_atLeast2 S_atLeast3 S_cells_41 S_stale_41 S_staleCells_41 R_told R_found R_ended R_cut R_largest R_here R_parents R_places R_pieces) H := hP
          have hD : va_D A (w_X3_bringSheetTo cI cJ cZ cO aK aK_strengths aK_kinds aK_marks aK_faces aK_bars aK_showing aK_showingRight aK_barring aS aS_cells aS_fits aS_fitsInLine aS_stale aS_staleCells aS_seen aS_queue aR aR_start aR_parents aR_places aR_pieces aR_wide aR_sizes aR_sums aR_firstInBucket aR_nextInBucket K_warm K_count K_seeds K_blocks K_rivals K_kinds S_pieces_41 S_grown_41 S_fitsInAll S_staleCount_41 S_atLeast1 S_atLeast2 S_atLeast3 S_cells_41 S_stale_41 S_staleCells_41 R_told R_found R_ended R_cut R_largest R_here R_parents R_places R_pieces) := hD
          refine lv_aload_n hx hb dX3_bringSheetTo_44 rfl (lv_at hl 0 rfl) ?_
          refine va_get (D := D) (ci := 3) (v := .ref aR_parents) (C := RX3) (T := TX3) (N := 16) hx hb hts in_X3_bringSheetTo_X3 hown hK hP 6 rfl rfl 7 (by decide) k_4 (fun _ h9 => h9) rfl dX3_bringSheetTo_45 ?_
          refine lv_iload_n hx hb dX3_bringSheetTo_48 rfl (lv_at hl 3 rfl) ?_
          have h49 := hw.1
          have hw := hw.2
          refine va_iald hx hb hK hP 7 0 rfl rfl h49 dX3_bringSheetTo_49 ?_
          refine lv_topi (fun v49 e49 => ?_)
          have hw := hw v49 e49
          refine lv_istore_n (lv' := [(3, .int v49), (0, .ref aR), (1, .int x1), (2, .int x2), (4, .int x4)]) hx hb dX3_bringSheetTo_50 rfl hl (by decide) rfl (fun ls hl => ?_)
          obtain ⟨v51, e51⟩ : ∃ y : Int32, y = x4 + (1 : Int32) := ⟨_, rfl⟩
          have hw := hw v51 e51
          refine lv_iinc (v := v51) (lv' := [(4, .int v51), (3, .int v49), (0, .ref aR), (1, .int x1), (2, .int x2)]) hx hb dX3_bringSheetTo_51 hl (k := 4) rfl (by rw [e51, kI_1]) (by decide) rfl (fun ls hl => ?_)
          refine lv_goto (tgt := 18) hx hb dX3_bringSheetTo_54 (by decide) ?_
          exact ih_18 S_cells_41 S_pieces_41 S_grown_41 S_stale_41 S_staleCells_41 S_staleCount_41 R_here x1 x2 v49 v51 hw H locs hP hD hS ls (lv_sub hl [2, 3, 4, 1, 0] rfl)
  intro H locs hP hD hS ls hl
  unfold wp_X3_bringSheetTo at hw
  refine lv_aload_n hx hb dX3_bringSheetTo_0 rfl (lv_at hl 0 rfl) ?_
  refine lv_aload_n hx hb dX3_bringSheetTo_1 rfl (lv_at hl 0 rfl) ?_
  refine va_get (D := D) (ci := 3) (v := .int R_here) (C := RX3) (T := TX3) (N := 16) hx hb hts in_X3_bringSheetTo_X3 hown hK hP 6 rfl rfl 15 (by decide) k_0 (fun _ h9 => h9) rfl dX3_bringSheetTo_2 ?_
  refine lv_iload_n hx hb dX3_bringSheetTo_5 rfl (lv_at hl 1 rfl) ?_
  refine cx_goi (va_runV (As := [.int R_here, .int p1]) (rest := []) ⟨hx, hb, hml, hown, hts⟩ (c_X3_commonStart l D cI cJ cZ cO tS tT H.size aR aS aR_start aR_parents aR_places aR_pieces aR_wide aR_sizes aR_sums aR_firstInBucket aR_nextInBucket R_told R_found R_ended R_cut R_largest R_here R_parents R_here p1 _ hw) (cwV 2 hts gX3_bringSheetTo_X3_commonStart rfl rfl rfl pv_X3_commonStart ⟨Nat.le_of_ble_eq_true rfl, Nat.le_of_ble_eq_true rfl⟩) (cx_preV (wc := w_X3_commonStart cI cJ cZ cO aR aS aR_start aR_parents aR_places aR_pieces aR_wide aR_sizes aR_sums aR_firstInBucket aR_nextInBucket R_told R_found R_ended R_cut R_largest R_here R_parents) hE hK hP hD hS hA [6, 7] rfl rfl (va_recv hK hP (ci := 3) (q0 := 6) rfl rfl)) rfl rfl hl.1 rfl (lv_room (Nat.le_of_ble_eq_true rfl)) dX3_bringSheetTo_6 ⟨Nat.le_of_ble_eq_true rfl, Nat.le_of_ble_eq_true rfl⟩) (fun (_ : Unit) => (w_X3_bringSheetTo cI cJ cZ cO aK aK_strengths aK_kinds aK_marks aK_faces aK_bars aK_showing aK_showingRight aK_barring aS aS_cells aS_fits aS_fitsInLine aS_stale aS_staleCells aS_seen aS_queue aR aR_start aR_parents aR_places aR_pieces aR_wide aR_sizes aR_sums aR_firstInBucket aR_nextInBucket K_warm K_count K_seeds K_blocks K_rivals K_kinds S_pieces S_grown S_fitsInAll S_staleCount S_atLeast1 S_atLeast2 S_atLeast3 S_cells S_stale S_staleCells R_told R_found R_ended R_cut R_largest R_here R_parents R_places R_pieces)) [6, 7] [0, 1, 2, 3, 4, 5, 8, 9] (ads := [aR, aR_parents]) (wr := [(aK, .inr (1, [.int K_warm, .int K_count, .ref aK_strengths, .ref aK_kinds, .ref aK_marks, .ref aK_faces, .ref aK_bars, .ref aK_showing, .ref aK_showingRight, .ref aK_barring, .long K_seeds, .long K_blocks, .long K_rivals])), (aK_kinds, .inl (cI, 40, .inl K_kinds)), (aS, .inr (4, [.ref aK, .ref aS_cells, .int S_pieces, .int S_grown, .ref aS_fits, .ref aS_fitsInLine, .int S_fitsInAll, .ref aS_stale, .ref aS_staleCells, .int S_staleCount, .long S_atLeast1, .long S_atLeast2, .long S_atLeast3, .ref aS_seen, .ref aS_queue])), (aS_cells, .inl (cI, 324, .inl S_cells)), (aS_stale, .inl (cZ, 324, .inl S_stale)), (aS_staleCells, .inl (cI, 256, .inl S_staleCells)), (aR_places, .inl (cI, 300, .inl R_places)), (aR_pieces, .inl (cI, 300, .inl R_pieces))]) rfl rfl (fun u => rfl) (fun u => rfl) rfl (fun u => rfl) rfl (fun u => rfl) rfl hP hD hS hA (fun r6 u H locs hw hP hD hS => ?_)
  have hP : va_P D vwCl (w_X3_bringSheetTo cI cJ cZ cO aK aK_strengths aK_kinds aK_marks aK_faces aK_bars aK_showing aK_showingRight aK_barring aS aS_cells aS_fits aS_fitsInLine aS_stale aS_staleCells aS_seen aS_queue aR aR_start aR_parents aR_places aR_pieces aR_wide aR_sizes aR_sums aR_firstInBucket aR_nextInBucket K_warm K_count K_seeds K_blocks K_rivals K_kinds S_pieces S_grown S_fitsInAll S_staleCount S_atLeast1 S_atLeast2 S_atLeast3 S_cells S_stale S_staleCells R_told R_found R_ended R_cut R_largest R_here R_parents R_places R_pieces) H := hP
  have hD : va_D A (w_X3_bringSheetTo cI cJ cZ cO aK aK_strengths aK_kinds aK_marks aK_faces aK_bars aK_showing aK_showingRight aK_barring aS aS_cells aS_fits aS_fitsInLine aS_stale aS_staleCells aS_seen aS_queue aR aR_start aR_parents aR_places aR_pieces aR_wide aR_sizes aR_sums aR_firstInBucket aR_nextInBucket K_warm K_count K_seeds K_blocks K_rivals K_kinds S_pieces S_grown S_fitsInAll S_staleCount S_atLeast1 S_atLeast2 S_atLeast3 S_cells S_stale S_staleCells R_told R_found R_ended R_cut R_largest R_here R_parents R_places R_pieces) := hD
  refine lv_istore_n (lv' := [(2, .int r6), (0, .ref aR), (1, .int p1)]) hx hb dX3_bringSheetTo_9 rfl hl (by decide) rfl (fun ls hl => ?_)
  refine lv_aload_n hx hb dX3_bringSheetTo_10 rfl (lv_at hl 1 rfl) ?_
  refine va_get (D := D) (ci := 3) (v := .int R_here) (C := RX3) (T := TX3) (N := 16) hx hb hts in_X3_bringSheetTo_X3 hown hK hP 6 rfl rfl 15 (by decide) k_0 (fun _ h9 => h9) rfl dX3_bringSheetTo_11 ?_
  refine lv_istore_n (lv' := [(3, .int R_here), (2, .int r6), (0, .ref aR), (1, .int p1)]) hx hb dX3_bringSheetTo_14 rfl hl (by decide) rfl (fun ls hl => ?_)
  refine lv_iconst (v := (0 : Int32)) hx hb dX3_bringSheetTo_15 kI_0 ?_
  refine lv_istore (lv' := [(4, .int (0 : Int32)), (3, .int R_here), (2, .int r6), (0, .ref aR), (1, .int p1)]) hx hb dX3_bringSheetTo_16 hl (by decide) rfl (fun ls hl => ?_)
  obtain ⟨k, hw⟩ := hw
  exact b_18 k S_cells S_pieces S_grown S_stale S_staleCells S_staleCount R_here p1 r6 R_here (0 : Int32) hw H locs hP hD hS ls (lv_sub hl [3, 4, 2, 1, 0] rfl)
set_option maxRecDepth 100000 in
set_option maxHeartbeats 4000000 in
theorem c_X7_placeOf (l : Launch) (D : va_G) (cI cJ cZ cO : ClassId) (tS tT : Nat) (sz : Nat) (p1 : Int32) (p2 : Int32) (Q : Int32 → Prop) (hw : wp_X7_placeOf p1 p2 Q) : Met l yX7_placeOf wsX7_placeOf rm_X7_placeOf (va_Pc [.int p1, .int p2] (cx_B tS tT cI cJ cZ cO D sz (w_X7_placeOf : va_W))) (va_Qi (fun (r : Int32) (_ : Unit) => Q r) (fun (u : Unit) t => va_P D vwCl (w_X7_placeOf : va_W) t.heap) (va_A (w_X7_placeOf : va_W) sz)) 0 0 (va_A (w_X7_placeOf : va_W) sz) := by
  refine cx_met (cc := cX7_placeOf) (maxL := 2) (ret := (some .int)) (Qc := fun A => va_Qi (fun (r : Int32) (_ : Unit) => Q r) (fun (u : Unit) t => va_P D vwCl (w_X7_placeOf : va_W) t.heap) A) (lv := [(0, .int p1), (1, .int p2)]) (by decide) rfl (Nat.le_of_ble_eq_true rfl) rfl ?_
  intro p e s m args below meth c A Z hx hb hr hlocks hts hown hml hE hK hA hZ
  have hown : s.vm.findClass RX7 = some m.cls := hown
  intro H locs hP hD hS ls hl
  unfold wp_X7_placeOf at hw
  refine lv_iload_n hx hb dX7_placeOf_0 rfl (lv_at hl 0 rfl) ?_
  refine lv_if_lt (tgt := 20) hx hb dX7_placeOf_1 (by decide) (fun c1 => ?_) (fun c1 => ?_)
  · have hw := hw.1 c1
    refine lv_iconst (v := (-1 : Int32)) hx hb dX7_placeOf_20 kI_m1 ?_
    refine lv_goto (tgt := 34) hx hb dX7_placeOf_21 (by decide) ?_
    rw [hZ]
    exact cx_reti () hx hb hr hlocks hw hP hS dX7_placeOf_34
  · have hw := hw.2 c1
    refine lv_iload_n hx hb dX7_placeOf_4 rfl (lv_at hl 0 rfl) ?_
    refine lv_bipush (v := (16 : Int32)) hx hb dX7_placeOf_5 kB_16 ?_
    refine lv_icmp_ge (tgt := 20) hx hb dX7_placeOf_7 (by decide) (fun c7 => ?_) (fun c7 => ?_)
    · have hw := hw.1 c7
      refine lv_iconst (v := (-1 : Int32)) hx hb dX7_placeOf_20 kI_m1 ?_
      refine lv_goto (tgt := 34) hx hb dX7_placeOf_21 (by decide) ?_
      rw [hZ]
      exact cx_reti () hx hb hr hlocks hw hP hS dX7_placeOf_34
    · have hw := hw.2 c7
      refine lv_iload_n hx hb dX7_placeOf_10 rfl (lv_at hl 1 rfl) ?_
      refine lv_if_lt (tgt := 20) hx hb dX7_placeOf_11 (by decide) (fun c11 => ?_) (fun c11 => ?_)
      · have hw := hw.1 c11
        refine lv_iconst (v := (-1 : Int32)) hx hb dX7_placeOf_20 kI_m1 ?_
        refine lv_goto (tgt := 34) hx hb dX7_placeOf_21 (by decide) ?_
        rw [hZ]
        exact cx_reti () hx hb hr hlocks hw hP hS dX7_placeOf_34
      · have hw := hw.2 c11
        refine lv_iload_n hx hb dX7_placeOf_14 rfl (lv_at hl 1 rfl) ?_
        refine lv_bipush (v := (16 : Int32)) hx hb dX7_placeOf_15 kB_16 ?_
        refine lv_icmp_lt (tgt := 24) hx hb dX7_placeOf_17 (by decide) (fun c17 => ?_) (fun c17 => ?_)
        · have hw := hw.1 c17
          refine lv_iload_n hx hb dX7_placeOf_24 rfl (lv_at hl 1 rfl) ?_
          refine lv_iconst (v := (1 : Int32)) hx hb dX7_placeOf_25 kI_1 ?_
          refine lv_iadd hx hb dX7_placeOf_26 ?_
          refine lv_bipush (v := (18 : Int32)) hx hb dX7_placeOf_27 kB_18 ?_
          refine lv_imul hx hb dX7_placeOf_29 ?_
          refine lv_iload_n hx hb dX7_placeOf_30 rfl (lv_at hl 0 rfl) ?_
          refine lv_iadd hx hb dX7_placeOf_31 ?_
          refine lv_iconst (v := (1 : Int32)) hx hb dX7_placeOf_32 kI_1 ?_
          refine lv_iadd hx hb dX7_placeOf_33 ?_
          rw [hZ]
          exact cx_reti () hx hb hr hlocks hw hP hS dX7_placeOf_34
        · have hw := hw.2 c17
          refine lv_iconst (v := (-1 : Int32)) hx hb dX7_placeOf_20 kI_m1 ?_
          refine lv_goto (tgt := 34) hx hb dX7_placeOf_21 (by decide) ?_
          rw [hZ]
          exact cx_reti () hx hb hr hlocks hw hP hS dX7_placeOf_34
set_option maxRecDepth 100000 in
set_option maxHeartbeats 4000000 in
theorem c_X3_scattered (l : Launch) (D : va_G) (cI cJ cZ cO : ClassId) (tS tT : Nat) (sz : Nat) (p1 : Int32) (Q : Int64 → Prop) (hw : wp_X3_scattered p1 Q) : Met l yX3_scattered wsX3_scattered rm_X3_scattered (va_Pc [.int p1] (cx_B tS tT cI cJ cZ cO D sz (w_X3_scattered : va_W))) (va_Ql (fun (r : Int64) (_ : Unit) => Q r) (fun (u : Unit) t => va_P D vwCl (w_X3_scattered : va_W) t.heap) (va_A (w_X3_scattered : va_W) sz)) 0 0 (va_A (w_X3_scattered : va_W) sz) := by
  refine cx_met (cc := cX3_scattered) (maxL := 3) (ret := (some .long)) (Qc := fun A => va_Ql (fun (r : Int64) (_ : Unit) => Q r) (fun (u : Unit) t => va_P D vwCl (w_X3_scattered : va_W) t.heap) A) (lv := [(0, .int p1)]) (by decide) rfl (Nat.le_of_ble_eq_true rfl) rfl ?_
  intro p e s m args below meth c A Z hx hb hr hlocks hts hown hml hE hK hA hZ
  have hown : s.vm.findClass RX3 = some m.cls := hown
  have k_0 := hts (.constantLong RX3 142 (-7046029254386353131 : Int64)) (List.mem_of_getElem? (i := 1) (by decide +kernel))
  have k_1 := hts (.constantLong RX3 144 (-4658895280553007687 : Int64)) (List.mem_of_getElem? (i := 2) (by decide +kernel))
  intro H locs hP hD hS ls hl
  unfold wp_X3_scattered at hw
  refine lv_iload_n hx hb dX3_scattered_0 rfl (lv_at hl 0 rfl) ?_
  refine lv_i2l hx hb dX3_scattered_1 rfl ?_
  refine lv_lconst (v := (1 : Int64)) hx hb dX3_scattered_2 kL_1 ?_
  refine lv_ladd hx hb dX3_scattered_3 ?_
  refine lv_ldc2 hx hb hown k_0 dX3_scattered_4 ?_
  refine lv_lmul hx hb dX3_scattered_7 ?_
  refine lv_topl (fun v8 e8 => ?_)
  have hw := hw v8 e8
  refine lv_lstore_n (lv' := [(1, .long v8), (0, .int p1)]) hx hb dX3_scattered_8 rfl hl (by decide) rfl (fun ls hl => ?_)
  refine lv_lload_n hx hb dX3_scattered_9 rfl (lv_at hl 0 rfl) ?_
  refine lv_lload_n hx hb dX3_scattered_10 rfl (lv_at hl 0 rfl) ?_
  refine lv_bipush (v := (31 : Int32)) hx hb dX3_scattered_11 kB_31 ?_
  refine lv_lushr hx hb dX3_scattered_13 rfl ?_
  refine lv_lxor hx hb dX3_scattered_14 ?_
  refine lv_ldc2 hx hb hown k_1 dX3_scattered_15 ?_
  refine lv_lmul hx hb dX3_scattered_18 ?_
  refine lv_topl (fun v19 e19 => ?_)
  have hw := hw v19 e19
  refine lv_lstore_n (lv' := [(1, .long v19), (0, .int p1)]) hx hb dX3_scattered_19 rfl hl (by decide) rfl (fun ls hl => ?_)
  refine lv_lload_n hx hb dX3_scattered_20 rfl (lv_at hl 0 rfl) ?_
  refine lv_lload_n hx hb dX3_scattered_21 rfl (lv_at hl 0 rfl) ?_
  refine lv_bipush (v := (29 : Int32)) hx hb dX3_scattered_22 kB_29 ?_
  refine lv_lushr hx hb dX3_scattered_24 rfl ?_
  refine lv_lxor hx hb dX3_scattered_25 ?_
  rw [hZ]
  exact cx_retl () hx hb hr hlocks hw hP hS dX3_scattered_26
set_option maxRecDepth 100000 in
set_option maxHeartbeats 4000000 in
theorem c_X3_isSame (l : Launch) (D : va_G) (cI cJ cZ cO : ClassId) (tS tT : Nat) (sz : Nat) (aS aK aS_cells aS_fits aS_fitsInLine aS_stale aS_staleCells aS_seen aS_queue aR aR_start aR_parents aR_places aR_pieces aR_wide aR_sizes aR_sums aR_firstInBucket aR_nextInBucket : Nat) (S_pieces : Int32) (S_grown : Int32) (S_fitsInAll : Int32) (S_staleCount : Int32) (S_atLeast1 : Int64) (S_atLeast2 : Int64) (S_atLeast3 : Int64) (S_cells : Nat → Int32) (R_told : Int32) (R_found : Int32) (R_ended : Int32) (R_cut : Int32) (R_largest : Int32) (R_here : Int32) (R_parents : Nat → Int32) (R_places : Nat → Int32) (R_pieces : Nat → Int32) (R_sizes : Nat → Int32) (p1 : Int32) (p2 : Int32) (p3 : Int32) (Q : Int32 → Prop) (hw : wp_X3_isSame S_cells S_pieces R_parents R_places R_pieces R_sizes p1 p2 p3 Q) : Met l yX3_isSame wsX3_isSame rm_X3_isSame (va_Pc [.ref aR, .int p1, .int p2, .int p3] (cx_B tS tT cI cJ cZ cO D sz (w_X3_isSame cI cJ cZ cO aS aK aS_cells aS_fits aS_fitsInLine aS_stale aS_staleCells aS_seen aS_queue aR aR_start aR_parents aR_places aR_pieces aR_wide aR_sizes aR_sums aR_firstInBucket aR_nextInBucket S_pieces S_grown S_fitsInAll S_staleCount S_atLeast1 S_atLeast2 S_atLeast3 S_cells R_told R_found R_ended R_cut R_largest R_here R_parents R_places R_pieces R_sizes))) (va_Qi (fun (r : Int32) (_ : Unit) => Q r) (fun (u : Unit) t => va_P D vwCl (w_X3_isSame cI cJ cZ cO aS aK aS_cells aS_fits aS_fitsInLine aS_stale aS_staleCells aS_seen aS_queue aR aR_start aR_parents aR_places aR_pieces aR_wide aR_sizes aR_sums aR_firstInBucket aR_nextInBucket S_pieces S_grown S_fitsInAll S_staleCount S_atLeast1 S_atLeast2 S_atLeast3 S_cells R_told R_found R_ended R_cut R_largest R_here R_parents R_places R_pieces R_sizes) t.heap) (va_A (w_X3_isSame cI cJ cZ cO aS aK aS_cells aS_fits aS_fitsInLine aS_stale aS_staleCells aS_seen aS_queue aR aR_start aR_parents aR_places aR_pieces aR_wide aR_sizes aR_sums aR_firstInBucket aR_nextInBucket S_pieces S_grown S_fitsInAll S_staleCount S_atLeast1 S_atLeast2 S_atLeast3 S_cells R_told R_found R_ended R_cut R_largest R_here R_parents R_places R_pieces R_sizes) sz)) 0 0 (va_A (w_X3_isSame cI cJ cZ cO aS aK aS_cells aS_fits aS_fitsInLine aS_stale aS_staleCells aS_seen aS_queue aR aR_start aR_parents aR_places aR_pieces aR_wide aR_sizes aR_sums aR_firstInBucket aR_nextInBucket S_pieces S_grown S_fitsInAll S_staleCount S_atLeast1 S_atLeast2 S_atLeast3 S_cells R_told R_found R_ended R_cut R_largest R_here R_parents R_places R_pieces R_sizes) sz) := by
  refine cx_met (cc := cX3_isSame) (maxL := 7) (ret := (some .boolean)) (Qc := fun A => va_Qi (fun (r : Int32) (_ : Unit) => Q r) (fun (u : Unit) t => va_P D vwCl (w_X3_isSame cI cJ cZ cO aS aK aS_cells aS_fits aS_fitsInLine aS_stale aS_staleCells aS_seen aS_queue aR aR_start aR_parents aR_places aR_pieces aR_wide aR_sizes aR_sums aR_firstInBucket aR_nextInBucket S_pieces S_grown S_fitsInAll S_staleCount S_atLeast1 S_atLeast2 S_atLeast3 S_cells R_told R_found R_ended R_cut R_largest R_here R_parents R_places R_pieces R_sizes) t.heap) A) (lv := [(0, .ref aR), (1, .int p1), (2, .int p2), (3, .int p3)]) (by decide) rfl (Nat.le_of_ble_eq_true rfl) rfl ?_
  intro p e s m args below meth c A Z hx hb hr hlocks hts hown hml hE hK hA hZ
  have hown : s.vm.findClass RX3 = some m.cls := hown
  have k_0 := hts (.fieldLink RX3 26 "GrowingTiles$Search" "parents" "[I") (List.mem_of_getElem? (i := 7) (by decide +kernel))
  have k_1 := hts (.fieldLink RX3 9 "GrowingTiles$Search" "sheet" "LGrowingTiles$Sheet;") (List.mem_of_getElem? (i := 2) (by decide +kernel))
  have k_2 := hts (.fieldLink RX3 74 "GrowingTiles$Sheet" "cells" "[I") (List.mem_of_getElem? (i := 6) (by decide +kernel))
  have k_3 := hts (.fieldLink RX3 29 "GrowingTiles$Search" "places" "[I") (List.mem_of_getElem? (i := 4) (by decide +kernel))
  have k_4 := hts (.fieldLink RX3 32 "GrowingTiles$Search" "pieces" "[I") (List.mem_of_getElem? (i := 5) (by decide +kernel))
  have k_5 := hts (.fieldLink RX3 39 "GrowingTiles$Search" "sizes" "[I") (List.mem_of_getElem? (i := 1) (by decide +kernel))
  have k_6 := hts (.fieldLink RX3 52 "GrowingTiles$Sheet" "pieces" "I") (List.mem_of_getElem? (i := 3) (by decide +kernel))
  have b_26 : ∀ n_26 : Nat, ∀ (x2 : Int32) (x3 : Int32) (x4 : Int32) (x5 : Int32), wq_X3_isSame_26 S_cells S_pieces R_parents R_places R_pieces R_sizes Q n_26 x2 x3 x4 x5 → ∀ (H : Heap) (locs : List Loc), va_P D vwCl (w_X3_isSame cI cJ cZ cO aS aK aS_cells aS_fits aS_fitsInLine aS_stale aS_staleCells aS_seen aS_queue aR aR_start aR_parents aR_places aR_pieces aR_wide aR_sizes aR_sums aR_firstInBucket aR_nextInBucket S_pieces S_grown S_fitsInAll S_staleCount S_atLeast1 S_atLeast2 S_atLeast3 S_cells R_told R_found R_ended R_cut R_largest R_here R_parents R_places R_pieces R_sizes) H → va_D A (w_X3_isSame cI cJ cZ cO aS aK aS_cells aS_fits aS_fitsInLine aS_stale aS_staleCells aS_seen aS_queue aR aR_start aR_parents aR_places aR_pieces aR_wide aR_sizes aR_sums aR_firstInBucket aR_nextInBucket S_pieces S_grown S_fitsInAll S_staleCount S_atLeast1 S_atLeast2 S_atLeast3 S_cells R_told R_found R_ended R_cut R_largest R_here R_parents R_places R_pieces R_sizes) → va_S A s.heap H locs → ∀ ls : Array Slot, lv_has ls 7 [(0, .ref aR), (2, .int x2), (3, .int x3), (4, .int x4), (5, .int x5)] → W p l e rm_X3_isSame s m args below meth c H locs 0 0 Z (F0 m 26 ls []) := by
    intro n_26
    induction n_26 with
    | zero => intro x2 x3 x4 x5 hw; exact False.elim hw
    | succ n_26 ih_26 =>
      have b_102 : ∀ (x2 : Int32) (x3 : Int32) (x4 : Int32) (x5 : Int32), wq_X3_isSame_102 S_cells S_pieces R_parents R_places R_pieces R_sizes (wq_X3_isSame_26 S_cells S_pieces R_parents R_places R_pieces R_sizes Q n_26) Q x2 x3 x4 x5 → ∀ (H : Heap) (locs : List Loc), va_P D vwCl (w_X3_isSame cI cJ cZ cO aS aK aS_cells aS_fits aS_fitsInLine aS_stale aS_staleCells aS_seen aS_queue aR aR_start aR_parents aR_places aR_pieces aR_wide aR_sizes aR_sums aR_firstInBucket aR_nextInBucket S_pieces S_grown S_fitsInAll S_staleCount S_atLeast1 S_atLeast2 S_atLeast3 S_cells R_told R_found R_ended R_cut R_largest R_here R_parents R_places R_pieces R_sizes) H → va_D A (w_X3_isSame cI cJ cZ cO aS aK aS_cells aS_fits aS_fitsInLine aS_stale aS_staleCells aS_seen aS_queue aR aR_start aR_parents aR_places aR_pieces aR_wide aR_sizes aR_sums aR_firstInBucket aR_nextInBucket S_pieces S_grown S_fitsInAll S_staleCount S_atLeast1 S_atLeast2 S_atLeast3 S_cells R_told R_found R_ended R_cut R_largest R_here R_parents R_places R_pieces R_sizes) → va_S A s.heap H locs → ∀ ls : Array Slot, lv_has ls 7 [(0, .ref aR), (2, .int x2), (3, .int x3), (4, .int x4), (5, .int x5)] → W p l e rm_X3_isSame s m args below meth c H locs 0 0 Z (F0 m 102 ls []) := by
        intro x2 x3 x4 x5 hw H locs hP hD hS ls hl
        unfold wq_X3_isSame_102 at hw
        refine lv_aload_n hx hb dX3_isSame_102 rfl (lv_at hl 0 rfl) ?_
        refine va_get (D := D) (ci := 3) (v := .ref aR_parents) (C := RX3) (T := TX3) (N := 16) hx hb hts in_X3_isSame_X3 hown hK hP 2 rfl rfl 7 (by decide) k_0 (fun _ h9 => h9) rfl dX3_isSame_103 ?_
        refine lv_iload hx hb dX3_isSame_106 (lv_at hl 3 rfl) ?_
        have h108 := hw.1
        have hw := hw.2
        refine va_iald hx hb hK hP 3 0 rfl rfl h108 dX3_isSame_108 ?_
        refine lv_topi (fun v108 e108 => ?_)
        have hw := hw v108 e108
        refine lv_istore (lv' := [(4, .int v108), (0, .ref aR), (2, .int x2), (3, .int x3), (5, .int x5)]) hx hb dX3_isSame_109 hl (by decide) rfl (fun ls hl => ?_)
        obtain ⟨v111, e111⟩ : ∃ y : Int32, y = x5 + (1 : Int32) := ⟨_, rfl⟩
        have hw := hw v111 e111
        refine lv_iinc (v := v111) (lv' := [(5, .int v111), (4, .int v108), (0, .ref aR), (2, .int x2), (3, .int x3)]) hx hb dX3_isSame_111 hl (k := 4) rfl (by rw [e111, kI_1]) (by decide) rfl (fun ls hl => ?_)
        refine lv_goto (tgt := 26) hx hb dX3_isSame_114 (by decide) ?_
        exact ih_26 x2 x3 v108 v111 hw H locs hP hD hS ls (lv_sub hl [2, 3, 4, 1, 0] rfl)
      have b_66 : ∀ (x2 : Int32) (x3 : Int32) (x4 : Int32) (x5 : Int32) (y0 : Int32), wq_X3_isSame_66 S_cells S_pieces R_parents R_places R_pieces R_sizes (wq_X3_isSame_26 S_cells S_pieces R_parents R_places R_pieces R_sizes Q n_26) Q x2 x3 x4 x5 y0 → ∀ (H : Heap) (locs : List Loc), va_P D vwCl (w_X3_isSame cI cJ cZ cO aS aK aS_cells aS_fits aS_fitsInLine aS_stale aS_staleCells aS_seen aS_queue aR aR_start aR_parents aR_places aR_pieces aR_wide aR_sizes aR_sums aR_firstInBucket aR_nextInBucket S_pieces S_grown S_fitsInAll S_staleCount S_atLeast1 S_atLeast2 S_atLeast3 S_cells R_told R_found R_ended R_cut R_largest R_here R_parents R_places R_pieces R_sizes) H → va_D A (w_X3_isSame cI cJ cZ cO aS aK aS_cells aS_fits aS_fitsInLine aS_stale aS_staleCells aS_seen aS_queue aR aR_start aR_parents aR_places aR_pieces aR_wide aR_sizes aR_sums aR_firstInBucket aR_nextInBucket S_pieces S_grown S_fitsInAll S_staleCount S_atLeast1 S_atLeast2 S_atLeast3 S_cells R_told R_found R_ended R_cut R_largest R_here R_parents R_places R_pieces R_sizes) → va_S A s.heap H locs → ∀ ls : Array Slot, lv_has ls 7 [(0, .ref aR), (2, .int x2), (3, .int x3), (4, .int x4), (5, .int x5)] → W p l e rm_X3_isSame s m args below meth c H locs 0 0 Z (F0 m 66 ls [.int y0]) := by
        intro x2 x3 x4 x5 y0 hw H locs hP hD hS ls hl
        unfold wq_X3_isSame_66 at hw
        refine lv_istore (lv' := [(6, .int y0), (0, .ref aR), (2, .int x2), (3, .int x3), (4, .int x4), (5, .int x5)]) hx hb dX3_isSame_66 hl (by decide) rfl (fun ls hl => ?_)
        refine lv_iload hx hb dX3_isSame_68 (lv_at hl 0 rfl) ?_
        refine lv_if_ne (tgt := 102) hx hb dX3_isSame_70 (by decide) (fun c70 => ?_) (fun c70 => ?_)
        · have hw := hw.1 c70
          exact b_102 x2 x3 x4 x5 hw H locs hP hD hS ls (lv_sub hl [1, 2, 3, 4, 5] rfl)
        · have hw := hw.2 c70
          refine lv_aload_n hx hb dX3_isSame_73 rfl (lv_at hl 1 rfl) ?_
          refine va_get (D := D) (ci := 3) (v := .ref aS) (C := RX3) (T := TX3) (N := 16) hx hb hts in_X3_isSame_X3 hown hK hP 2 rfl rfl 5 (by decide) k_1 (fun _ h9 => h9) rfl dX3_isSame_74 ?_
          refine va_get (D := D) (ci := 4) (v := .ref aS_cells) (C := RX4) (T := TX4) (N := 15) hx hb hts in_X3_isSame_X4 hown hK hP 0 rfl rfl 1 (by decide) k_2 (fun _ h9 => h9) rfl dX3_isSame_77 ?_
          refine lv_aload_n hx hb dX3_isSame_80 rfl (lv_at hl 1 rfl) ?_
          refine va_get (D := D) (ci := 3) (v := .ref aR_places) (C := RX3) (T := TX3) (N := 16) hx hb hts in_X3_isSame_X3 hown hK hP 2 rfl rfl 8 (by decide) k_3 (fun _ h9 => h9) rfl dX3_isSame_81 ?_
          refine lv_iload hx hb dX3_isSame_84 (lv_at hl 4 rfl) ?_
          have h86 := hw.1
          have hw := hw.2
          refine va_iald hx hb hK hP 4 0 rfl rfl h86 dX3_isSame_86 ?_
          refine lv_topi (fun v86 e86 => ?_)
          have hw := hw v86 e86
          have h87 := hw.1
          have hw := hw.2
          refine va_iald hx hb hK hP 1 0 rfl rfl h87 dX3_isSame_87 ?_
          refine lv_topi (fun v87 e87 => ?_)
          have hw := hw v87 e87
          refine lv_iconst (v := (1 : Int32)) hx hb dX3_isSame_88 kI_1 ?_
          refine lv_aload_n hx hb dX3_isSame_89 rfl (lv_at hl 1 rfl) ?_
          refine va_get (D := D) (ci := 3) (v := .ref aR_pieces) (C := RX3) (T := TX3) (N := 16) hx hb hts in_X3_isSame_X3 hown hK hP 2 rfl rfl 9 (by decide) k_4 (fun _ h9 => h9) rfl dX3_isSame_90 ?_
          refine lv_iload hx hb dX3_isSame_93 (lv_at hl 4 rfl) ?_
          have h95 := hw.1
          have hw := hw.2
          refine va_iald hx hb hK hP 5 0 rfl rfl h95 dX3_isSame_95 ?_
          refine lv_topi (fun v95 e95 => ?_)
          have hw := hw v95 e95
          refine lv_iadd hx hb dX3_isSame_96 ?_
          refine lv_icmp_eq (tgt := 102) hx hb dX3_isSame_97 (by decide) (fun c97 => ?_) (fun c97 => ?_)
          · have hw := hw.1 c97
            exact b_102 x2 x3 x4 x5 hw H locs hP hD hS ls (lv_sub hl [1, 2, 3, 4, 5] rfl)
          · have hw := hw.2 c97
            refine lv_iconst (v := (0 : Int32)) hx hb dX3_isSame_100 kI_0 ?_
            rw [hZ]
            exact cx_retz () hx hb hr hlocks rfl hw hP hS dX3_isSame_101
      have b_65 : ∀ (x2 : Int32) (x3 : Int32) (x4 : Int32) (x5 : Int32), wq_X3_isSame_65 S_cells S_pieces R_parents R_places R_pieces R_sizes (wq_X3_isSame_26 S_cells S_pieces R_parents R_places R_pieces R_sizes Q n_26) Q x2 x3 x4 x5 → ∀ (H : Heap) (locs : List Loc), va_P D vwCl (w_X3_isSame cI cJ cZ cO aS aK aS_cells aS_fits aS_fitsInLine aS_stale aS_staleCells aS_seen aS_queue aR aR_start aR_parents aR_places aR_pieces aR_wide aR_sizes aR_sums aR_firstInBucket aR_nextInBucket S_pieces S_grown S_fitsInAll S_staleCount S_atLeast1 S_atLeast2 S_atLeast3 S_cells R_told R_found R_ended R_cut R_largest R_here R_parents R_places R_pieces R_sizes) H → va_D A (w_X3_isSame cI cJ cZ cO aS aK aS_cells aS_fits aS_fitsInLine aS_stale aS_staleCells aS_seen aS_queue aR aR_start aR_parents aR_places aR_pieces aR_wide aR_sizes aR_sums aR_firstInBucket aR_nextInBucket S_pieces S_grown S_fitsInAll S_staleCount S_atLeast1 S_atLeast2 S_atLeast3 S_cells R_told R_found R_ended R_cut R_largest R_here R_parents R_places R_pieces R_sizes) → va_S A s.heap H locs → ∀ ls : Array Slot, lv_has ls 7 [(0, .ref aR), (2, .int x2), (3, .int x3), (4, .int x4), (5, .int x5)] → W p l e rm_X3_isSame s m args below meth c H locs 0 0 Z (F0 m 65 ls []) := by
        intro x2 x3 x4 x5 hw H locs hP hD hS ls hl
        unfold wq_X3_isSame_65 at hw
        refine lv_iconst (v := (0 : Int32)) hx hb dX3_isSame_65 kI_0 ?_
        exact b_66 x2 x3 x4 x5 (0 : Int32) hw H locs hP hD hS ls (lv_sub hl [0, 1, 2, 3, 4] rfl)
      intro x2 x3 x4 x5 hw H locs hP hD hS ls hl
      have hw : wf_X3_isSame_26 S_cells S_pieces R_parents R_places R_pieces R_sizes Q (wq_X3_isSame_26 S_cells S_pieces R_parents R_places R_pieces R_sizes Q n_26) x2 x3 x4 x5 := hw
      unfold wf_X3_isSame_26 at hw
      refine lv_iload hx hb dX3_isSame_26 (lv_at hl 4 rfl) ?_
      refine lv_sipush (v := (300 : Int32)) hx hb dX3_isSame_28 kS_300 ?_
      refine lv_icmp_ge (tgt := 117) hx hb dX3_isSame_31 (by decide) (fun c31 => ?_) (fun c31 => ?_)
      · have hw := hw.1 c31
        refine lv_iconst (v := (1 : Int32)) hx hb dX3_isSame_117 kI_1 ?_
        rw [hZ]
        exact cx_retz () hx hb hr hlocks rfl hw hP hS dX3_isSame_118
      · have hw := hw.2 c31
        refine lv_iload hx hb dX3_isSame_34 (lv_at hl 3 rfl) ?_
        refine lv_if_eq (tgt := 117) hx hb dX3_isSame_36 (by decide) (fun c36 => ?_) (fun c36 => ?_)
        · have hw := hw.1 c36
          refine lv_iconst (v := (1 : Int32)) hx hb dX3_isSame_117 kI_1 ?_
          rw [hZ]
          exact cx_retz () hx hb hr hlocks rfl hw hP hS dX3_isSame_118
        · have hw := hw.2 c36
          refine lv_aload_n hx hb dX3_isSame_39 rfl (lv_at hl 0 rfl) ?_
          refine va_get (D := D) (ci := 3) (v := .ref aR_places) (C := RX3) (T := TX3) (N := 16) hx hb hts in_X3_isSame_X3 hown hK hP 2 rfl rfl 8 (by decide) k_3 (fun _ h9 => h9) rfl dX3_isSame_40 ?_
          refine lv_iload hx hb dX3_isSame_43 (lv_at hl 3 rfl) ?_
          have h45 := hw.1
          have hw := hw.2
          refine va_iald hx hb hK hP 4 0 rfl rfl h45 dX3_isSame_45 ?_
          refine lv_topi (fun v45 e45 => ?_)
          have hw := hw v45 e45
          refine lv_iload_n hx hb dX3_isSame_46 rfl (lv_at hl 1 rfl) ?_
          refine lv_icmp_ne (tgt := 65) hx hb dX3_isSame_47 (by decide) (fun c47 => ?_) (fun c47 => ?_)
          · have hw := hw.1 c47
            exact b_65 x2 x3 x4 x5 hw H locs hP hD hS ls (lv_sub hl [0, 1, 2, 3, 4] rfl)
          · have hw := hw.2 c47
            refine lv_aload_n hx hb dX3_isSame_50 rfl (lv_at hl 0 rfl) ?_
            refine va_get (D := D) (ci := 3) (v := .ref aR_pieces) (C := RX3) (T := TX3) (N := 16) hx hb hts in_X3_isSame_X3 hown hK hP 2 rfl rfl 9 (by decide) k_4 (fun _ h9 => h9) rfl dX3_isSame_51 ?_
            refine lv_iload hx hb dX3_isSame_54 (lv_at hl 3 rfl) ?_
            have h56 := hw.1
            have hw := hw.2
            refine va_iald hx hb hK hP 5 0 rfl rfl h56 dX3_isSame_56 ?_
            refine lv_topi (fun v56 e56 => ?_)
            have hw := hw v56 e56
            refine lv_iload_n hx hb dX3_isSame_57 rfl (lv_at hl 2 rfl) ?_
            refine lv_icmp_ne (tgt := 65) hx hb dX3_isSame_58 (by decide) (fun c58 => ?_) (fun c58 => ?_)
            · have hw := hw.1 c58
              exact b_65 x2 x3 x4 x5 hw H locs hP hD hS ls (lv_sub hl [0, 1, 2, 3, 4] rfl)
            · have hw := hw.2 c58
              refine lv_iconst (v := (1 : Int32)) hx hb dX3_isSame_61 kI_1 ?_
              refine lv_goto (tgt := 66) hx hb dX3_isSame_62 (by decide) ?_
              exact b_66 x2 x3 x4 x5 (1 : Int32) hw H locs hP hD hS ls (lv_sub hl [0, 1, 2, 3, 4] rfl)
  intro H locs hP hD hS ls hl
  unfold wp_X3_isSame at hw
  refine lv_aload_n hx hb dX3_isSame_0 rfl (lv_at hl 0 rfl) ?_
  refine va_get (D := D) (ci := 3) (v := .ref aR_sizes) (C := RX3) (T := TX3) (N := 16) hx hb hts in_X3_isSame_X3 hown hK hP 2 rfl rfl 11 (by decide) k_5 (fun _ h9 => h9) rfl dX3_isSame_1 ?_
  refine lv_iload_n hx hb dX3_isSame_4 rfl (lv_at hl 1 rfl) ?_
  have h5 := hw.1
  have hw := hw.2
  refine va_iald hx hb hK hP 6 0 rfl rfl h5 dX3_isSame_5 ?_
  refine lv_topi (fun v5 e5 => ?_)
  have hw := hw v5 e5
  refine lv_aload_n hx hb dX3_isSame_6 rfl (lv_at hl 0 rfl) ?_
  refine va_get (D := D) (ci := 3) (v := .ref aS) (C := RX3) (T := TX3) (N := 16) hx hb hts in_X3_isSame_X3 hown hK hP 2 rfl rfl 5 (by decide) k_1 (fun _ h9 => h9) rfl dX3_isSame_7 ?_
  refine va_get (D := D) (ci := 4) (v := .int S_pieces) (C := RX4) (T := TX4) (N := 15) hx hb hts in_X3_isSame_X4 hown hK hP 0 rfl rfl 2 (by decide) k_6 (fun _ h9 => h9) rfl dX3_isSame_10 ?_
  refine lv_iconst (v := (1 : Int32)) hx hb dX3_isSame_13 kI_1 ?_
  refine lv_iadd hx hb dX3_isSame_14 ?_
  refine lv_icmp_eq (tgt := 20) hx hb dX3_isSame_15 (by decide) (fun c15 => ?_) (fun c15 => ?_)
  · have hw := hw.1 c15
    refine lv_iload_n hx hb dX3_isSame_20 rfl (lv_at hl 1 rfl) ?_
    refine lv_istore (lv' := [(4, .int p1), (0, .ref aR), (1, .int p1), (2, .int p2), (3, .int p3)]) hx hb dX3_isSame_21 hl (by decide) rfl (fun ls hl => ?_)
    refine lv_iconst (v := (0 : Int32)) hx hb dX3_isSame_23 kI_0 ?_
    refine lv_istore (lv' := [(5, .int (0 : Int32)), (4, .int p1), (0, .ref aR), (1, .int p1), (2, .int p2), (3, .int p3)]) hx hb dX3_isSame_24 hl (by decide) rfl (fun ls hl => ?_)
    obtain ⟨k, hw⟩ := hw
    exact b_26 k p2 p3 p1 (0 : Int32) hw H locs hP hD hS ls (lv_sub hl [2, 4, 5, 1, 0] rfl)
  · have hw := hw.2 c15
    refine lv_iconst (v := (0 : Int32)) hx hb dX3_isSame_18 kI_0 ?_
    rw [hZ]
    exact cx_retz () hx hb hr hlocks rfl hw hP hS dX3_isSame_19
set_option maxRecDepth 100000 in
set_option maxHeartbeats 4000000 in
theorem c_X3_isKnown (l : Launch) (D : va_G) (cI cJ cZ cO : ClassId) (tS tT : Nat) (sz : Nat) (aS aK aS_cells aS_fits aS_fitsInLine aS_stale aS_staleCells aS_seen aS_queue aR aR_start aR_parents aR_places aR_pieces aR_wide aR_sizes aR_sums aR_firstInBucket aR_nextInBucket : Nat) (S_pieces : Int32) (S_grown : Int32) (S_fitsInAll : Int32) (S_staleCount : Int32) (S_atLeast1 : Int64) (S_atLeast2 : Int64) (S_atLeast3 : Int64) (S_cells : Nat → Int32) (R_told : Int32) (R_found : Int32) (R_ended : Int32) (R_cut : Int32) (R_largest : Int32) (R_here : Int32) (R_parents : Nat → Int32) (R_places : Nat → Int32) (R_pieces : Nat → Int32) (R_sizes : Nat → Int32) (R_sums : Nat → Int64) (R_firstInBucket : Nat → Int32) (R_nextInBucket : Nat → Int32) (p1 : Int32) (p2 : Int64) (p3 : Int32) (p4 : Int32) (Q : Int32 → Prop) (hw : wp_X3_isKnown S_cells S_pieces R_parents R_places R_pieces R_sizes R_sums R_firstInBucket R_nextInBucket p1 p2 p3 p4 Q) : Met l yX3_isKnown wsX3_isKnown rm_X3_isKnown (va_Pc [.ref aR, .int p1, .long p2, .int p3, .int p4] (cx_B tS tT cI cJ cZ cO D sz (w_X3_isKnown cI cJ cZ cO aS aK aS_cells aS_fits aS_fitsInLine aS_stale aS_staleCells aS_seen aS_queue aR aR_start aR_parents aR_places aR_pieces aR_wide aR_sizes aR_sums aR_firstInBucket aR_nextInBucket S_pieces S_grown S_fitsInAll S_staleCount S_atLeast1 S_atLeast2 S_atLeast3 S_cells R_told R_found R_ended R_cut R_largest R_here R_parents R_places R_pieces R_sizes R_sums R_firstInBucket R_nextInBucket))) (va_Qi (fun (r : Int32) (_ : Unit) => Q r) (fun (u : Unit) t => va_P D vwCl (w_X3_isKnown cI cJ cZ cO aS aK aS_cells aS_fits aS_fitsInLine aS_stale aS_staleCells aS_seen aS_queue aR aR_start aR_parents aR_places aR_pieces aR_wide aR_sizes aR_sums aR_firstInBucket aR_nextInBucket S_pieces S_grown S_fitsInAll S_staleCount S_atLeast1 S_atLeast2 S_atLeast3 S_cells R_told R_found R_ended R_cut R_largest R_here R_parents R_places R_pieces R_sizes R_sums R_firstInBucket R_nextInBucket) t.heap) (va_A (w_X3_isKnown cI cJ cZ cO aS aK aS_cells aS_fits aS_fitsInLine aS_stale aS_staleCells aS_seen aS_queue aR aR_start aR_parents aR_places aR_pieces aR_wide aR_sizes aR_sums aR_firstInBucket aR_nextInBucket S_pieces S_grown S_fitsInAll S_staleCount S_atLeast1 S_atLeast2 S_atLeast3 S_cells R_told R_found R_ended R_cut R_largest R_here R_parents R_places R_pieces R_sizes R_sums R_firstInBucket R_nextInBucket) sz)) 0 0 (va_A (w_X3_isKnown cI cJ cZ cO aS aK aS_cells aS_fits aS_fitsInLine aS_stale aS_staleCells aS_seen aS_queue aR aR_start aR_parents aR_places aR_pieces aR_wide aR_sizes aR_sums aR_firstInBucket aR_nextInBucket S_pieces S_grown S_fitsInAll S_staleCount S_atLeast1 S_atLeast2 S_atLeast3 S_cells R_told R_found R_ended R_cut R_largest R_here R_parents R_places R_pieces R_sizes R_sums R_firstInBucket R_nextInBucket) sz) := by
  refine cx_met (cc := cX3_isKnown) (maxL := 8) (ret := (some .boolean)) (Qc := fun A => va_Qi (fun (r : Int32) (_ : Unit) => Q r) (fun (u : Unit) t => va_P D vwCl (w_X3_isKnown cI cJ cZ cO aS aK aS_cells aS_fits aS_fitsInLine aS_stale aS_staleCells aS_seen aS_queue aR aR_start aR_parents aR_places aR_pieces aR_wide aR_sizes aR_sums aR_firstInBucket aR_nextInBucket S_pieces S_grown S_fitsInAll S_staleCount S_atLeast1 S_atLeast2 S_atLeast3 S_cells R_told R_found R_ended R_cut R_largest R_here R_parents R_places R_pieces R_sizes R_sums R_firstInBucket R_nextInBucket) t.heap) A) (lv := [(0, .ref aR), (1, .int p1), (2, .long p2), (4, .int p3), (5, .int p4)]) (by decide) rfl (Nat.le_of_ble_eq_true rfl) rfl ?_
  intro p e s m args below meth c A Z hx hb hr hlocks hts hown hml hE hK hA hZ
  have hown : s.vm.findClass RX3 = some m.cls := hown
  have k_0 := hts (.fieldLink RX3 49 "GrowingTiles$Search" "nextInBucket" "[I") (List.mem_of_getElem? (i := 3) (by decide +kernel))
  have k_1 := hts (.fieldLink RX3 42 "GrowingTiles$Search" "sums" "[J") (List.mem_of_getElem? (i := 2) (by decide +kernel))
  have k_2 := hts (.fieldLink RX3 46 "GrowingTiles$Search" "firstInBucket" "[I") (List.mem_of_getElem? (i := 1) (by decide +kernel))
  have b_11 : ∀ n_11 : Nat, ∀ (x2 : Int64) (x4 : Int32) (x5 : Int32) (x6 : Int32) (x7 : Int32), wq_X3_isKnown_11 S_cells S_pieces R_parents R_places R_pieces R_sizes R_sums R_firstInBucket R_nextInBucket Q n_11 x2 x4 x5 x6 x7 → ∀ (H : Heap) (locs : List Loc), va_P D vwCl (w_X3_isKnown cI cJ cZ cO aS aK aS_cells aS_fits aS_fitsInLine aS_stale aS_staleCells aS_seen aS_queue aR aR_start aR_parents aR_places aR_pieces aR_wide aR_sizes aR_sums aR_firstInBucket aR_nextInBucket S_pieces S_grown S_fitsInAll S_staleCount S_atLeast1 S_atLeast2 S_atLeast3 S_cells R_told R_found R_ended R_cut R_largest R_here R_parents R_places R_pieces R_sizes R_sums R_firstInBucket R_nextInBucket) H → va_D A (w_X3_isKnown cI cJ cZ cO aS aK aS_cells aS_fits aS_fitsInLine aS_stale aS_staleCells aS_seen aS_queue aR aR_start aR_parents aR_places aR_pieces aR_wide aR_sizes aR_sums aR_firstInBucket aR_nextInBucket S_pieces S_grown S_fitsInAll S_staleCount S_atLeast1 S_atLeast2 S_atLeast3 S_cells R_told R_found R_ended R_cut R_largest R_here R_parents R_places R_pieces R_sizes R_sums R_firstInBucket R_nextInBucket) → va_S A s.heap H locs → ∀ ls : Array Slot, lv_has ls 8 [(0, .ref aR), (2, .long x2), (4, .int x4), (5, .int x5), (6, .int x6), (7, .int x7)] → W p l e rm_X3_isKnown s m args below meth c H locs 0 0 Z (F0 m 11 ls []) := by
    intro n_11
    induction n_11 with
    | zero => intro x2 x4 x5 x6 x7 hw; exact False.elim hw
    | succ n_11 ih_11 =>
      have b_52 : ∀ (x2 : Int64) (x4 : Int32) (x5 : Int32) (x6 : Int32) (x7 : Int32), wq_X3_isKnown_52 S_cells S_pieces R_parents R_places R_pieces R_sizes R_sums R_firstInBucket R_nextInBucket (wq_X3_isKnown_11 S_cells S_pieces R_parents R_places R_pieces R_sizes R_sums R_firstInBucket R_nextInBucket Q n_11) Q x2 x4 x5 x6 x7 → ∀ (H : Heap) (locs : List Loc), va_P D vwCl (w_X3_isKnown cI cJ cZ cO aS aK aS_cells aS_fits aS_fitsInLine aS_stale aS_staleCells aS_seen aS_queue aR aR_start aR_parents aR_places aR_pieces aR_wide aR_sizes aR_sums aR_firstInBucket aR_nextInBucket S_pieces S_grown S_fitsInAll S_staleCount S_atLeast1 S_atLeast2 S_atLeast3 S_cells R_told R_found R_ended R_cut R_largest R_here R_parents R_places R_pieces R_sizes R_sums R_firstInBucket R_nextInBucket) H → va_D A (w_X3_isKnown cI cJ cZ cO aS aK aS_cells aS_fits aS_fitsInLine aS_stale aS_staleCells aS_seen aS_queue aR aR_start aR_parents aR_places aR_pieces aR_wide aR_sizes aR_sums aR_firstInBucket aR_nextInBucket S_pieces S_grown S_fitsInAll S_staleCount S_atLeast1 S_atLeast2 S_atLeast3 S_cells R_told R_found R_ended R_cut R_largest R_here R_parents R_places R_pieces R_sizes R_sums R_firstInBucket R_nextInBucket) → va_S A s.heap H locs → ∀ ls : Array Slot, lv_has ls 8 [(0, .ref aR), (2, .long x2), (4, .int x4), (5, .int x5), (6, .int x6), (7, .int x7)] → W p l e rm_X3_isKnown s m args below meth c H locs 0 0 Z (F0 m 52 ls []) := by
        intro x2 x4 x5 x6 x7 hw H locs hP hD hS ls hl
        unfold wq_X3_isKnown_52 at hw
        refine lv_aload_n hx hb dX3_isKnown_52 rfl (lv_at hl 0 rfl) ?_
        refine va_get (D := D) (ci := 3) (v := .ref aR_nextInBucket) (C := RX3) (T := TX3) (N := 16) hx hb hts in_X3_isKnown_X3 hown hK hP 2 rfl rfl 14 (by decide) k_0 (fun _ h9 => h9) rfl dX3_isKnown_53 ?_
        refine lv_iload hx hb dX3_isKnown_56 (lv_at hl 4 rfl) ?_
        have h58 := hw.1
        have hw := hw.2
        refine va_iald hx hb hK hP 9 0 rfl rfl h58 dX3_isKnown_58 ?_
        refine lv_topi (fun v58 e58 => ?_)
        have hw := hw v58 e58
        refine lv_istore (lv' := [(6, .int v58), (0, .ref aR), (2, .long x2), (4, .int x4), (5, .int x5), (7, .int x7)]) hx hb dX3_isKnown_59 hl (by decide) rfl (fun ls hl => ?_)
        obtain ⟨v61, e61⟩ : ∃ y : Int32, y = x7 + (1 : Int32) := ⟨_, rfl⟩
        have hw := hw v61 e61
        refine lv_iinc (v := v61) (lv' := [(7, .int v61), (6, .int v58), (0, .ref aR), (2, .long x2), (4, .int x4), (5, .int x5)]) hx hb dX3_isKnown_61 hl (k := 5) rfl (by rw [e61, kI_1]) (by decide) rfl (fun ls hl => ?_)
        refine lv_goto (tgt := 11) hx hb dX3_isKnown_64 (by decide) ?_
        exact ih_11 x2 x4 x5 v58 v61 hw H locs hP hD hS ls (lv_sub hl [2, 3, 4, 5, 1, 0] rfl)
      intro x2 x4 x5 x6 x7 hw H locs hP hD hS ls hl
      have hw : wf_X3_isKnown_11 S_cells S_pieces R_parents R_places R_pieces R_sizes R_sums R_firstInBucket R_nextInBucket Q (wq_X3_isKnown_11 S_cells S_pieces R_parents R_places R_pieces R_sizes R_sums R_firstInBucket R_nextInBucket Q n_11) x2 x4 x5 x6 x7 := hw
      unfold wf_X3_isKnown_11 at hw
      refine lv_iload hx hb dX3_isKnown_11 (lv_at hl 5 rfl) ?_
      refine lv_sipush (v := (300 : Int32)) hx hb dX3_isKnown_13 kS_300 ?_
      refine lv_icmp_ge (tgt := 67) hx hb dX3_isKnown_16 (by decide) (fun c16 => ?_) (fun c16 => ?_)
      · have hw := hw.1 c16
        refine lv_iconst (v := (0 : Int32)) hx hb dX3_isKnown_67 kI_0 ?_
        rw [hZ]
        exact cx_retz () hx hb hr hlocks rfl hw hP hS dX3_isKnown_68
      · have hw := hw.2 c16
        refine lv_iload hx hb dX3_isKnown_19 (lv_at hl 4 rfl) ?_
        refine lv_iconst (v := (-1 : Int32)) hx hb dX3_isKnown_21 kI_m1 ?_
        refine lv_icmp_eq (tgt := 67) hx hb dX3_isKnown_22 (by decide) (fun c22 => ?_) (fun c22 => ?_)
        · have hw := hw.1 c22
          refine lv_iconst (v := (0 : Int32)) hx hb dX3_isKnown_67 kI_0 ?_
          rw [hZ]
          exact cx_retz () hx hb hr hlocks rfl hw hP hS dX3_isKnown_68
        · have hw := hw.2 c22
          refine lv_aload_n hx hb dX3_isKnown_25 rfl (lv_at hl 0 rfl) ?_
          refine va_get (D := D) (ci := 3) (v := .ref aR_sums) (C := RX3) (T := TX3) (N := 16) hx hb hts in_X3_isKnown_X3 hown hK hP 2 rfl rfl 12 (by decide) k_1 (fun _ h9 => h9) rfl dX3_isKnown_26 ?_
          refine lv_iload hx hb dX3_isKnown_29 (lv_at hl 4 rfl) ?_
          have h31 := hw.1
          have hw := hw.2
          refine va_lald hx hb hK hP 7 1 rfl rfl h31 dX3_isKnown_31 ?_
          refine lv_topl (fun v31 e31 => ?_)
          have hw := hw v31 e31
          refine lv_lload_n hx hb dX3_isKnown_32 rfl (lv_at hl 1 rfl) ?_
          refine W.lcmp hx hb dX3_isKnown_33 ?_
          refine lv_if_ne (tgt := 52) hx hb dX3_isKnown_34 (by decide) (fun c34 => ?_) (fun c34 => ?_)
          · have hw := hw.1 c34
            exact b_52 x2 x4 x5 x6 x7 hw H locs hP hD hS ls (lv_sub hl [0, 1, 2, 3, 4, 5] rfl)
          · have hw := hw.2 c34
            refine lv_aload_n hx hb dX3_isKnown_37 rfl (lv_at hl 0 rfl) ?_
            refine lv_iload hx hb dX3_isKnown_38 (lv_at hl 4 rfl) ?_
            refine lv_iload hx hb dX3_isKnown_40 (lv_at hl 2 rfl) ?_
            refine lv_iload hx hb dX3_isKnown_42 (lv_at hl 3 rfl) ?_
            refine cx_goi (va_runV (As := [.int x6, .int x4, .int x5]) (rest := []) ⟨hx, hb, hml, hown, hts⟩ (c_X3_isSame l D cI cJ cZ cO tS tT H.size aS aK aS_cells aS_fits aS_fitsInLine aS_stale aS_staleCells aS_seen aS_queue aR aR_start aR_parents aR_places aR_pieces aR_wide aR_sizes aR_sums aR_firstInBucket aR_nextInBucket S_pieces S_grown S_fitsInAll S_staleCount S_atLeast1 S_atLeast2 S_atLeast3 S_cells R_told R_found R_ended R_cut R_largest R_here R_parents R_places R_pieces R_sizes x6 x4 x5 _ hw) (cwV 3 hts gX3_isKnown_X3_isSame rfl rfl rfl pv_X3_isSame ⟨Nat.le_of_ble_eq_true rfl, Nat.le_of_ble_eq_true rfl⟩) (cx_preV (wc := w_X3_isSame cI cJ cZ cO aS aK aS_cells aS_fits aS_fitsInLine aS_stale aS_staleCells aS_seen aS_queue aR aR_start aR_parents aR_places aR_pieces aR_wide aR_sizes aR_sums aR_firstInBucket aR_nextInBucket S_pieces S_grown S_fitsInAll S_staleCount S_atLeast1 S_atLeast2 S_atLeast3 S_cells R_told R_found R_ended R_cut R_largest R_here R_parents R_places R_pieces R_sizes) hE hK hP hD hS hA [0, 1, 2, 3, 4, 5, 6] rfl rfl (va_recv hK hP (ci := 3) (q0 := 2) rfl rfl)) rfl rfl hl.1 rfl (lv_room (Nat.le_of_ble_eq_true rfl)) dX3_isKnown_44 ⟨Nat.le_of_ble_eq_true rfl, Nat.le_of_ble_eq_true rfl⟩) (fun (_ : Unit) => (w_X3_isKnown cI cJ cZ cO aS aK aS_cells aS_fits aS_fitsInLine aS_stale aS_staleCells aS_seen aS_queue aR aR_start aR_parents aR_places aR_pieces aR_wide aR_sizes aR_sums aR_firstInBucket aR_nextInBucket S_pieces S_grown S_fitsInAll S_staleCount S_atLeast1 S_atLeast2 S_atLeast3 S_cells R_told R_found R_ended R_cut R_largest R_here R_parents R_places R_pieces R_sizes R_sums R_firstInBucket R_nextInBucket)) [0, 1, 2, 3, 4, 5, 6] [7, 8, 9] (ads := [aS, aS_cells, aR, aR_parents, aR_places, aR_pieces, aR_sizes]) (wr := [(aR_sums, .inl (cJ, 300, .inr (.inl R_sums))), (aR_firstInBucket, .inl (cI, 512, .inl R_firstInBucket)), (aR_nextInBucket, .inl (cI, 300, .inl R_nextInBucket))]) rfl rfl (fun u => rfl) (fun u => rfl) rfl (fun u => rfl) rfl (fun u => rfl) rfl hP hD hS hA (fun r44 u H locs hw hP hD hS => ?_)
            have hP : va_P D vwCl (w_X3_isKnown cI cJ cZ cO aS aK aS_cells aS_fits aS_fitsInLine aS_stale aS_staleCells aS_seen aS_queue aR aR_start aR_parents aR_places aR_pieces aR_wide aR_sizes aR_sums aR_firstInBucket aR_nextInBucket S_pieces S_grown S_fitsInAll S_staleCount S_atLeast1 S_atLeast2 S_atLeast3 S_cells R_told R_found R_ended R_cut R_largest R_here R_parents R_places R_pieces R_sizes R_sums R_firstInBucket R_nextInBucket) H := hP
            have hD : va_D A (w_X3_isKnown cI cJ cZ cO aS aK aS_cells aS_fits aS_fitsInLine aS_stale aS_staleCells aS_seen aS_queue aR aR_start aR_parents aR_places aR_pieces aR_wide aR_sizes aR_sums aR_firstInBucket aR_nextInBucket S_pieces S_grown S_fitsInAll S_staleCount S_atLeast1 S_atLeast2 S_atLeast3 S_cells R_told R_found R_ended R_cut R_largest R_here R_parents R_places R_pieces R_sizes R_sums R_firstInBucket R_nextInBucket) := hD
            refine lv_if_eq (tgt := 52) hx hb dX3_isKnown_47 (by decide) (fun c47 => ?_) (fun c47 => ?_)
            · have hw := hw.1 c47
              exact b_52 x2 x4 x5 x6 x7 hw H locs hP hD hS ls (lv_sub hl [0, 1, 2, 3, 4, 5] rfl)
            · have hw := hw.2 c47
              refine lv_iconst (v := (1 : Int32)) hx hb dX3_isKnown_50 kI_1 ?_
              rw [hZ]
              exact cx_retz () hx hb hr hlocks rfl hw hP hS dX3_isKnown_51
  intro H locs hP hD hS ls hl
  unfold wp_X3_isKnown at hw
  refine lv_aload_n hx hb dX3_isKnown_0 rfl (lv_at hl 0 rfl) ?_
  refine va_get (D := D) (ci := 3) (v := .ref aR_firstInBucket) (C := RX3) (T := TX3) (N := 16) hx hb hts in_X3_isKnown_X3 hown hK hP 2 rfl rfl 13 (by decide) k_2 (fun _ h9 => h9) rfl dX3_isKnown_1 ?_
  refine lv_iload_n hx hb dX3_isKnown_4 rfl (lv_at hl 1 rfl) ?_
  have h5 := hw.1
  have hw := hw.2
  refine va_iald hx hb hK hP 8 0 rfl rfl h5 dX3_isKnown_5 ?_
  refine lv_topi (fun v5 e5 => ?_)
  have hw := hw v5 e5
  refine lv_istore (lv' := [(6, .int v5), (0, .ref aR), (1, .int p1), (2, .long p2), (4, .int p3), (5, .int p4)]) hx hb dX3_isKnown_6 hl (by decide) rfl (fun ls hl => ?_)
  refine lv_iconst (v := (0 : Int32)) hx hb dX3_isKnown_8 kI_0 ?_
  refine lv_istore (lv' := [(7, .int (0 : Int32)), (6, .int v5), (0, .ref aR), (1, .int p1), (2, .long p2), (4, .int p3), (5, .int p4)]) hx hb dX3_isKnown_9 hl (by decide) rfl (fun ls hl => ?_)
  obtain ⟨k, hw⟩ := hw
  exact b_11 k p2 p3 p4 v5 (0 : Int32) hw H locs hP hD hS ls (lv_sub hl [2, 4, 5, 6, 1, 0] rfl)
set_option maxRecDepth 100000 in
set_option maxHeartbeats 4000000 in
theorem c_X3_addOnce (l : Launch) (D : va_G) (cI cJ cZ cO : ClassId) (tS tT : Nat) (sz : Nat) (aK aK_strengths aK_kinds aK_marks aK_faces aK_bars aK_showing aK_showingRight aK_barring aS aS_cells aS_fits aS_fitsInLine aS_stale aS_staleCells aS_seen aS_queue aR aR_start aR_parents aR_places aR_pieces aR_wide aR_sizes aR_sums aR_firstInBucket aR_nextInBucket : Nat) (K_warm : Int32) (K_count : Int32) (K_seeds : Int64) (K_blocks : Int64) (K_rivals : Int64) (K_kinds : Nat → Int32) (S_pieces : Int32) (S_grown : Int32) (S_fitsInAll : Int32) (S_staleCount : Int32) (S_atLeast1 : Int64) (S_atLeast2 : Int64) (S_atLeast3 : Int64) (S_cells : Nat → Int32) (R_told : Int32) (R_found : Int32) (R_ended : Int32) (R_cut : Int32) (R_largest : Int32) (R_here : Int32) (R_parents : Nat → Int32) (R_places : Nat → Int32) (R_pieces : Nat → Int32) (R_wide : Nat → Int32) (R_sizes : Nat → Int32) (R_sums : Nat → Int64) (R_firstInBucket : Nat → Int32) (R_nextInBucket : Nat → Int32) (p1 : Int32) (p2 : Int32) (p3 : Int32) (Q : Int32 → (Int32) → (Nat → Int32) → (Nat → Int32) → (Nat → Int32) → (Nat → Int32) → (Nat → Int32) → (Nat → Int64) → (Nat → Int32) → (Nat → Int32) → Prop) (hw : wp_X3_addOnce K_kinds S_cells S_pieces R_found R_parents R_places R_pieces R_wide R_sizes R_sums R_firstInBucket R_nextInBucket p1 p2 p3 Q) : Met l yX3_addOnce wsX3_addOnce rm_X3_addOnce (va_Pc [.ref aR, .int p1, .int p2, .int p3] (cx_B tS tT cI cJ cZ cO D sz (w_X3_addOnce cI cJ cZ cO aK aK_strengths aK_kinds aK_marks aK_faces aK_bars aK_showing aK_showingRight aK_barring aS aS_cells aS_fits aS_fitsInLine aS_stale aS_staleCells aS_seen aS_queue aR aR_start aR_parents aR_places aR_pieces aR_wide aR_sizes aR_sums aR_firstInBucket aR_nextInBucket K_warm K_count K_seeds K_blocks K_rivals K_kinds S_pieces S_grown S_fitsInAll S_staleCount S_atLeast1 S_atLeast2 S_atLeast3 S_cells R_told R_found R_ended R_cut R_largest R_here R_parents R_places R_pieces R_wide R_sizes R_sums R_firstInBucket R_nextInBucket))) (va_Qi (fun (r : Int32) (u : (Int32) × (Nat → Int32) × (Nat → Int32) × (Nat → Int32) × (Nat → Int32) × (Nat → Int32) × (Nat → Int64) × (Nat → Int32) × (Nat → Int32)) => Q r u.1 u.2.1 u.2.2.1 u.2.2.2.1 u.2.2.2.2.1 u.2.2.2.2.2.1 u.2.2.2.2.2.2.1 u.2.2.2.2.2.2.2.1 u.2.2.2.2.2.2.2.2) (fun (u : (Int32) × (Nat → Int32) × (Nat → Int32) × (Nat → Int32) × (Nat → Int32) × (Nat → Int32) × (Nat → Int64) × (Nat → Int32) × (Nat → Int32)) t => va_P D vwCl (w_X3_addOnce cI cJ cZ cO aK aK_strengths aK_kinds aK_marks aK_faces aK_bars aK_showing aK_showingRight aK_barring aS aS_cells aS_fits aS_fitsInLine aS_stale aS_staleCells aS_seen aS_queue aR aR_start aR_parents aR_places aR_pieces aR_wide aR_sizes aR_sums aR_firstInBucket aR_nextInBucket K_warm K_count K_seeds K_blocks K_rivals K_kinds S_pieces S_grown S_fitsInAll S_staleCount S_atLeast1 S_atLeast2 S_atLeast3 S_cells R_told u.1 R_ended R_cut R_largest R_here u.2.1 u.2.2.1 u.2.2.2.1 u.2.2.2.2.1 u.2.2.2.2.2.1 u.2.2.2.2.2.2.1 u.2.2.2.2.2.2.2.1 u.2.2.2.2.2.2.2.2) t.heap) (va_A (w_X3_addOnce cI cJ cZ cO aK aK_strengths aK_kinds aK_marks aK_faces aK_bars aK_showing aK_showingRight aK_barring aS aS_cells aS_fits aS_fitsInLine aS_stale aS_staleCells aS_seen aS_queue aR aR_start aR_parents aR_places aR_pieces aR_wide aR_sizes aR_sums aR_firstInBucket aR_nextInBucket K_warm K_count K_seeds K_blocks K_rivals K_kinds S_pieces S_grown S_fitsInAll S_staleCount S_atLeast1 S_atLeast2 S_atLeast3 S_cells R_told R_found R_ended R_cut R_largest R_here R_parents R_places R_pieces R_wide R_sizes R_sums R_firstInBucket R_nextInBucket) sz)) 0 0 (va_A (w_X3_addOnce cI cJ cZ cO aK aK_strengths aK_kinds aK_marks aK_faces aK_bars aK_showing aK_showingRight aK_barring aS aS_cells aS_fits aS_fitsInLine aS_stale aS_staleCells aS_seen aS_queue aR aR_start aR_parents aR_places aR_pieces aR_wide aR_sizes aR_sums aR_firstInBucket aR_nextInBucket K_warm K_count K_seeds K_blocks K_rivals K_kinds S_pieces S_grown S_fitsInAll S_staleCount S_atLeast1 S_atLeast2 S_atLeast3 S_cells R_told R_found R_ended R_cut R_largest R_here R_parents R_places R_pieces R_wide R_sizes R_sums R_firstInBucket R_nextInBucket) sz) := by
  refine cx_met (cc := cX3_addOnce) (maxL := 8) (ret := (some .boolean)) (Qc := fun A => va_Qi (fun (r : Int32) (u : (Int32) × (Nat → Int32) × (Nat → Int32) × (Nat → Int32) × (Nat → Int32) × (Nat → Int32) × (Nat → Int64) × (Nat → Int32) × (Nat → Int32)) => Q r u.1 u.2.1 u.2.2.1 u.2.2.2.1 u.2.2.2.2.1 u.2.2.2.2.2.1 u.2.2.2.2.2.2.1 u.2.2.2.2.2.2.2.1 u.2.2.2.2.2.2.2.2) (fun (u : (Int32) × (Nat → Int32) × (Nat → Int32) × (Nat → Int32) × (Nat → Int32) × (Nat → Int32) × (Nat → Int64) × (Nat → Int32) × (Nat → Int32)) t => va_P D vwCl (w_X3_addOnce cI cJ cZ cO aK aK_strengths aK_kinds aK_marks aK_faces aK_bars aK_showing aK_showingRight aK_barring aS aS_cells aS_fits aS_fitsInLine aS_stale aS_staleCells aS_seen aS_queue aR aR_start aR_parents aR_places aR_pieces aR_wide aR_sizes aR_sums aR_firstInBucket aR_nextInBucket K_warm K_count K_seeds K_blocks K_rivals K_kinds S_pieces S_grown S_fitsInAll S_staleCount S_atLeast1 S_atLeast2 S_atLeast3 S_cells R_told u.1 R_ended R_cut R_largest R_here u.2.1 u.2.2.1 u.2.2.2.1 u.2.2.2.2.1 u.2.2.2.2.2.1 u.2.2.2.2.2.2.1 u.2.2.2.2.2.2.2.1 u.2.2.2.2.2.2.2.2) t.heap) A) (lv := [(0, .ref aR), (1, .int p1), (2, .int p2), (3, .int p3)]) (by decide) rfl (Nat.le_of_ble_eq_true rfl) rfl ?_
  intro p e s m args below meth c A Z hx hb hr hlocks hts hown hml hE hK hA hZ
  have hown : s.vm.findClass RX3 = some m.cls := hown
  have k_0 := hts (.fieldLink RX3 39 "GrowingTiles$Search" "sizes" "[I") (List.mem_of_getElem? (i := 10) (by decide +kernel))
  have k_1 := hts (.fieldLink RX3 42 "GrowingTiles$Search" "sums" "[J") (List.mem_of_getElem? (i := 1) (by decide +kernel))
  have k_2 := hts (.fieldLink RX3 49 "GrowingTiles$Search" "nextInBucket" "[I") (List.mem_of_getElem? (i := 11) (by decide +kernel))
  have k_3 := hts (.fieldLink RX3 46 "GrowingTiles$Search" "firstInBucket" "[I") (List.mem_of_getElem? (i := 12) (by decide +kernel))
  have k_4 := hts (.fieldLink RX3 19 "GrowingTiles$Search" "found" "I") (List.mem_of_getElem? (i := 2) (by decide +kernel))
  have k_5 := hts (.fieldLink RX3 26 "GrowingTiles$Search" "parents" "[I") (List.mem_of_getElem? (i := 3) (by decide +kernel))
  have k_6 := hts (.fieldLink RX3 29 "GrowingTiles$Search" "places" "[I") (List.mem_of_getElem? (i := 4) (by decide +kernel))
  have k_7 := hts (.fieldLink RX3 32 "GrowingTiles$Search" "pieces" "[I") (List.mem_of_getElem? (i := 5) (by decide +kernel))
  have k_8 := hts (.fieldLink RX3 35 "GrowingTiles$Search" "wide" "[Z") (List.mem_of_getElem? (i := 6) (by decide +kernel))
  have k_9 := hts (.fieldLink RX3 9 "GrowingTiles$Search" "sheet" "LGrowingTiles$Sheet;") (List.mem_of_getElem? (i := 7) (by decide +kernel))
  have k_10 := hts (.fieldLink RX3 133 "GrowingTiles$Sheet" "kit" "LGrowingTiles$Kit;") (List.mem_of_getElem? (i := 8) (by decide +kernel))
  have k_11 := hts (.fieldLink RX3 137 "GrowingTiles$Kit" "kinds" "[I") (List.mem_of_getElem? (i := 9) (by decide +kernel))
  have b_124 : ∀ (R_found : Int32) (R_parents : Nat → Int32) (R_places : Nat → Int32) (R_pieces : Nat → Int32) (R_wide : Nat → Int32) (R_sizes : Nat → Int32) (R_sums : Nat → Int64) (R_firstInBucket : Nat → Int32) (R_nextInBucket : Nat → Int32) (x1 : Int32) (x4 : Int64) (x6 : Int32) (x7 : Int32) (y1 : Int32) (y2 : Int32), wq_X3_addOnce_124 K_kinds S_cells S_pieces Q R_found R_parents R_places R_pieces R_wide R_sizes R_sums R_firstInBucket R_nextInBucket x1 x4 x6 x7 y1 y2 → ∀ (H : Heap) (locs : List Loc), va_P D vwCl (w_X3_addOnce cI cJ cZ cO aK aK_strengths aK_kinds aK_marks aK_faces aK_bars aK_showing aK_showingRight aK_barring aS aS_cells aS_fits aS_fitsInLine aS_stale aS_staleCells aS_seen aS_queue aR aR_start aR_parents aR_places aR_pieces aR_wide aR_sizes aR_sums aR_firstInBucket aR_nextInBucket K_warm K_count K_seeds K_blocks K_rivals K_kinds S_pieces S_grown S_fitsInAll S_staleCount S_atLeast1 S_atLeast2 S_atLeast3 S_cells R_told R_found R_ended R_cut R_largest R_here R_parents R_places R_pieces R_wide R_sizes R_sums R_firstInBucket R_nextInBucket) H → va_D A (w_X3_addOnce cI cJ cZ cO aK aK_strengths aK_kinds aK_marks aK_faces aK_bars aK_showing aK_showingRight aK_barring aS aS_cells aS_fits aS_fitsInLine aS_stale aS_staleCells aS_seen aS_queue aR aR_start aR_parents aR_places aR_pieces aR_wide aR_sizes aR_sums aR_firstInBucket aR_nextInBucket K_warm K_count K_seeds K_blocks K_rivals K_kinds S_pieces S_grown S_fitsInAll S_staleCount S_atLeast1 S_atLeast2 S_atLeast3 S_cells R_told R_found R_ended R_cut R_largest R_here R_parents R_places R_pieces R_wide R_sizes R_sums R_firstInBucket R_nextInBucket) → va_S A s.heap H locs → ∀ ls : Array Slot, lv_has ls 8 [(0, .ref aR), (1, .int x1), (4, .long x4), (6, .int x6), (7, .int x7)] → W p l e rm_X3_addOnce s m args below meth c H locs 0 0 Z (F0 m 124 ls [.int y2, .int y1, .ref aR_wide]) := by
    intro R_found R_parents R_places R_pieces R_wide R_sizes R_sums R_firstInBucket R_nextInBucket x1 x4 x6 x7 y1 y2 hw H locs hP hD hS ls hl
    unfold wq_X3_addOnce_124 at hw
    have h124 := hw.1
    have hw := hw.2
    refine va_zast hx hb hK hP hD hS 8 2 rfl rfl h124 dX3_addOnce_124 (fun H locs hP hD hS => ?_)
    have hP : va_P D vwCl (w_X3_addOnce cI cJ cZ cO aK aK_strengths aK_kinds aK_marks aK_faces aK_bars aK_showing aK_showingRight aK_barring aS aS_cells aS_fits aS_fitsInLine aS_stale aS_staleCells aS_seen aS_queue aR aR_start aR_parents aR_places aR_pieces aR_wide aR_sizes aR_sums aR_firstInBucket aR_nextInBucket K_warm K_count K_seeds K_blocks K_rivals K_kinds S_pieces S_grown S_fitsInAll S_staleCount S_atLeast1 S_atLeast2 S_atLeast3 S_cells R_told R_found R_ended R_cut R_largest R_here R_parents R_places R_pieces (upd R_wide y1.toNatClampNeg (vp_nar .boolean y2)) R_sizes R_sums R_firstInBucket R_nextInBucket) H := hP
    have hD : va_D A (w_X3_addOnce cI cJ cZ cO aK aK_strengths aK_kinds aK_marks aK_faces aK_bars aK_showing aK_showingRight aK_barring aS aS_cells aS_fits aS_fitsInLine aS_stale aS_staleCells aS_seen aS_queue aR aR_start aR_parents aR_places aR_pieces aR_wide aR_sizes aR_sums aR_firstInBucket aR_nextInBucket K_warm K_count K_seeds K_blocks K_rivals K_kinds S_pieces S_grown S_fitsInAll S_staleCount S_atLeast1 S_atLeast2 S_atLeast3 S_cells R_told R_found R_ended R_cut R_largest R_here R_parents R_places R_pieces (upd R_wide y1.toNatClampNeg (vp_nar .boolean y2)) R_sizes R_sums R_firstInBucket R_nextInBucket) := hD
    obtain ⟨R_wide_124, e124⟩ : ∃ y : Nat → Int32, y = upd R_wide y1.toNatClampNeg (vp_nar .boolean y2) := ⟨_, rfl⟩
    rw [← e124] at hP hD
    have hw := hw R_wide_124 e124
    refine lv_aload_n hx hb dX3_addOnce_125 rfl (lv_at hl 0 rfl) ?_
    refine va_get (D := D) (ci := 3) (v := .ref aR_sizes) (C := RX3) (T := TX3) (N := 16) hx hb hts in_X3_addOnce_X3 hown hK hP 4 rfl rfl 11 (by decide) k_0 (fun _ h9 => h9) rfl dX3_addOnce_126 ?_
    refine lv_iload hx hb dX3_addOnce_129 (lv_at hl 4 rfl) ?_
    refine lv_aload_n hx hb dX3_addOnce_131 rfl (lv_at hl 0 rfl) ?_
    refine va_get (D := D) (ci := 3) (v := .ref aR_sizes) (C := RX3) (T := TX3) (N := 16) hx hb hts in_X3_addOnce_X3 hown hK hP 4 rfl rfl 11 (by decide) k_0 (fun _ h9 => h9) rfl dX3_addOnce_132 ?_
    refine lv_iload_n hx hb dX3_addOnce_135 rfl (lv_at hl 1 rfl) ?_
    have h136 := hw.1
    have hw := hw.2
    refine va_iald hx hb hK hP 9 0 rfl rfl h136 dX3_addOnce_136 ?_
    refine lv_topi (fun v136 e136 => ?_)
    have hw := hw v136 e136
    refine lv_iconst (v := (1 : Int32)) hx hb dX3_addOnce_137 kI_1 ?_
    refine lv_iadd hx hb dX3_addOnce_138 ?_
    have h139 := hw.1
    have hw := hw.2
    refine va_iast hx hb hK hP hD hS 9 0 rfl rfl h139 dX3_addOnce_139 (fun H locs hP hD hS => ?_)
    have hP : va_P D vwCl (w_X3_addOnce cI cJ cZ cO aK aK_strengths aK_kinds aK_marks aK_faces aK_bars aK_showing aK_showingRight aK_barring aS aS_cells aS_fits aS_fitsInLine aS_stale aS_staleCells aS_seen aS_queue aR aR_start aR_parents aR_places aR_pieces aR_wide aR_sizes aR_sums aR_firstInBucket aR_nextInBucket K_warm K_count K_seeds K_blocks K_rivals K_kinds S_pieces S_grown S_fitsInAll S_staleCount S_atLeast1 S_atLeast2 S_atLeast3 S_cells R_told R_found R_ended R_cut R_largest R_here R_parents R_places R_pieces R_wide_124 (upd R_sizes x7.toNatClampNeg (v136 + (1 : Int32))) R_sums R_firstInBucket R_nextInBucket) H := hP
    have hD : va_D A (w_X3_addOnce cI cJ cZ cO aK aK_strengths aK_kinds aK_marks aK_faces aK_bars aK_showing aK_showingRight aK_barring aS aS_cells aS_fits aS_fitsInLine aS_stale aS_staleCells aS_seen aS_queue aR aR_start aR_parents aR_places aR_pieces aR_wide aR_sizes aR_sums aR_firstInBucket aR_nextInBucket K_warm K_count K_seeds K_blocks K_rivals K_kinds S_pieces S_grown S_fitsInAll S_staleCount S_atLeast1 S_atLeast2 S_atLeast3 S_cells R_told R_found R_ended R_cut R_largest R_here R_parents R_places R_pieces R_wide_124 (upd R_sizes x7.toNatClampNeg (v136 + (1 : Int32))) R_sums R_firstInBucket R_nextInBucket) := hD
    obtain ⟨R_sizes_139, e139⟩ : ∃ y : Nat → Int32, y = upd R_sizes x7.toNatClampNeg (v136 + (1 : Int32)) := ⟨_, rfl⟩
    rw [← e139] at hP hD
    have hw := hw R_sizes_139 e139
    refine lv_aload_n hx hb dX3_addOnce_140 rfl (lv_at hl 0 rfl) ?_
    refine va_get (D := D) (ci := 3) (v := .ref aR_sums) (C := RX3) (T := TX3) (N := 16) hx hb hts in_X3_addOnce_X3 hown hK hP 4 rfl rfl 12 (by decide) k_1 (fun _ h9 => h9) rfl dX3_addOnce_141 ?_
    refine lv_iload hx hb dX3_addOnce_144 (lv_at hl 4 rfl) ?_
    refine lv_lload hx hb dX3_addOnce_146 (lv_at hl 2 rfl) ?_
    have h148 := hw.1
    have hw := hw.2
    refine va_last hx hb hK hP hD hS 10 1 rfl rfl h148 dX3_addOnce_148 (fun H locs hP hD hS => ?_)
    have hP : va_P D vwCl (w_X3_addOnce cI cJ cZ cO aK aK_strengths aK_kinds aK_marks aK_faces aK_bars aK_showing aK_showingRight aK_barring aS aS_cells aS_fits aS_fitsInLine aS_stale aS_staleCells aS_seen aS_queue aR aR_start aR_parents aR_places aR_pieces aR_wide aR_sizes aR_sums aR_firstInBucket aR_nextInBucket K_warm K_count K_seeds K_blocks K_rivals K_kinds S_pieces S_grown S_fitsInAll S_staleCount S_atLeast1 S_atLeast2 S_atLeast3 S_cells R_told R_found R_ended R_cut R_largest R_here R_parents R_places R_pieces R_wide_124 R_sizes_139 (vp_updL R_sums x7.toNatClampNeg x4) R_firstInBucket R_nextInBucket) H := hP
    have hD : va_D A (w_X3_addOnce cI cJ cZ cO aK aK_strengths aK_kinds aK_marks aK_faces aK_bars aK_showing aK_showingRight aK_barring aS aS_cells aS_fits aS_fitsInLine aS_stale aS_staleCells aS_seen aS_queue aR aR_start aR_parents aR_places aR_pieces aR_wide aR_sizes aR_sums aR_firstInBucket aR_nextInBucket K_warm K_count K_seeds K_blocks K_rivals K_kinds S_pieces S_grown S_fitsInAll S_staleCount S_atLeast1 S_atLeast2 S_atLeast3 S_cells R_told R_found R_ended R_cut R_largest R_here R_parents R_places R_pieces R_wide_124 R_sizes_139 (vp_updL R_sums x7.toNatClampNeg x4) R_firstInBucket R_nextInBucket) := hD
    obtain ⟨R_sums_148, e148⟩ : ∃ y : Nat → Int64, y = vp_updL R_sums x7.toNatClampNeg x4 := ⟨_, rfl⟩
    rw [← e148] at hP hD
    have hw := hw R_sums_148 e148
    refine lv_aload_n hx hb dX3_addOnce_149 rfl (lv_at hl 0 rfl) ?_
    refine va_get (D := D) (ci := 3) (v := .ref aR_nextInBucket) (C := RX3) (T := TX3) (N := 16) hx hb hts in_X3_addOnce_X3 hown hK hP 4 rfl rfl 14 (by decide) k_2 (fun _ h9 => h9) rfl dX3_addOnce_150 ?_
    refine lv_iload hx hb dX3_addOnce_153 (lv_at hl 4 rfl) ?_
    refine lv_aload_n hx hb dX3_addOnce_155 rfl (lv_at hl 0 rfl) ?_
    refine va_get (D := D) (ci := 3) (v := .ref aR_firstInBucket) (C := RX3) (T := TX3) (N := 16) hx hb hts in_X3_addOnce_X3 hown hK hP 4 rfl rfl 13 (by decide) k_3 (fun _ h9 => h9) rfl dX3_addOnce_156 ?_
    refine lv_iload hx hb dX3_addOnce_159 (lv_at hl 3 rfl) ?_
    have h161 := hw.1
    have hw := hw.2
    refine va_iald hx hb hK hP 11 0 rfl rfl h161 dX3_addOnce_161 ?_
    refine lv_topi (fun v161 e161 => ?_)
    have hw := hw v161 e161
    have h162 := hw.1
    have hw := hw.2
    refine va_iast hx hb hK hP hD hS 12 0 rfl rfl h162 dX3_addOnce_162 (fun H locs hP hD hS => ?_)
    have hP : va_P D vwCl (w_X3_addOnce cI cJ cZ cO aK aK_strengths aK_kinds aK_marks aK_faces aK_bars aK_showing aK_showingRight aK_barring aS aS_cells aS_fits aS_fitsInLine aS_stale aS_staleCells aS_seen aS_queue aR aR_start aR_parents aR_places aR_pieces aR_wide aR_sizes aR_sums aR_firstInBucket aR_nextInBucket K_warm K_count K_seeds K_blocks K_rivals K_kinds S_pieces S_grown S_fitsInAll S_staleCount S_atLeast1 S_atLeast2 S_atLeast3 S_cells R_told R_found R_ended R_cut R_largest R_here R_parents R_places R_pieces R_wide_124 R_sizes_139 R_sums_148 R_firstInBucket (upd R_nextInBucket x7.toNatClampNeg v161)) H := hP
    have hD : va_D A (w_X3_addOnce cI cJ cZ cO aK aK_strengths aK_kinds aK_marks aK_faces aK_bars aK_showing aK_showingRight aK_barring aS aS_cells aS_fits aS_fitsInLine aS_stale aS_staleCells aS_seen aS_queue aR aR_start aR_parents aR_places aR_pieces aR_wide aR_sizes aR_sums aR_firstInBucket aR_nextInBucket K_warm K_count K_seeds K_blocks K_rivals K_kinds S_pieces S_grown S_fitsInAll S_staleCount S_atLeast1 S_atLeast2 S_atLeast3 S_cells R_told R_found R_ended R_cut R_largest R_here R_parents R_places R_pieces R_wide_124 R_sizes_139 R_sums_148 R_firstInBucket (upd R_nextInBucket x7.toNatClampNeg v161)) := hD
    obtain ⟨R_nextInBucket_162, e162⟩ : ∃ y : Nat → Int32, y = upd R_nextInBucket x7.toNatClampNeg v161 := ⟨_, rfl⟩
    rw [← e162] at hP hD
    have hw := hw R_nextInBucket_162 e162
    refine lv_aload_n hx hb dX3_addOnce_163 rfl (lv_at hl 0 rfl) ?_
    refine va_get (D := D) (ci := 3) (v := .ref aR_firstInBucket) (C := RX3) (T := TX3) (N := 16) hx hb hts in_X3_addOnce_X3 hown hK hP 4 rfl rfl 13 (by decide) k_3 (fun _ h9 => h9) rfl dX3_addOnce_164 ?_
    refine lv_iload hx hb dX3_addOnce_167 (lv_at hl 3 rfl) ?_
    refine lv_iload hx hb dX3_addOnce_169 (lv_at hl 4 rfl) ?_
    have h171 := hw.1
    have hw := hw.2
    refine va_iast hx hb hK hP hD hS 11 0 rfl rfl h171 dX3_addOnce_171 (fun H locs hP hD hS => ?_)
    have hP : va_P D vwCl (w_X3_addOnce cI cJ cZ cO aK aK_strengths aK_kinds aK_marks aK_faces aK_bars aK_showing aK_showingRight aK_barring aS aS_cells aS_fits aS_fitsInLine aS_stale aS_staleCells aS_seen aS_queue aR aR_start aR_parents aR_places aR_pieces aR_wide aR_sizes aR_sums aR_firstInBucket aR_nextInBucket K_warm K_count K_seeds K_blocks K_rivals K_kinds S_pieces S_grown S_fitsInAll S_staleCount S_atLeast1 S_atLeast2 S_atLeast3 S_cells R_told R_found R_ended R_cut R_largest R_here R_parents R_places R_pieces R_wide_124 R_sizes_139 R_sums_148 (upd R_firstInBucket x6.toNatClampNeg x7) R_nextInBucket_162) H := hP
    have hD : va_D A (w_X3_addOnce cI cJ cZ cO aK aK_strengths aK_kinds aK_marks aK_faces aK_bars aK_showing aK_showingRight aK_barring aS aS_cells aS_fits aS_fitsInLine aS_stale aS_staleCells aS_seen aS_queue aR aR_start aR_parents aR_places aR_pieces aR_wide aR_sizes aR_sums aR_firstInBucket aR_nextInBucket K_warm K_count K_seeds K_blocks K_rivals K_kinds S_pieces S_grown S_fitsInAll S_staleCount S_atLeast1 S_atLeast2 S_atLeast3 S_cells R_told R_found R_ended R_cut R_largest R_here R_parents R_places R_pieces R_wide_124 R_sizes_139 R_sums_148 (upd R_firstInBucket x6.toNatClampNeg x7) R_nextInBucket_162) := hD
    obtain ⟨R_firstInBucket_171, e171⟩ : ∃ y : Nat → Int32, y = upd R_firstInBucket x6.toNatClampNeg x7 := ⟨_, rfl⟩
    rw [← e171] at hP hD
    have hw := hw R_firstInBucket_171 e171
    refine lv_iconst (v := (1 : Int32)) hx hb dX3_addOnce_172 kI_1 ?_
    rw [hZ]
    exact cx_retz (R_found, R_parents, R_places, R_pieces, R_wide_124, R_sizes_139, R_sums_148, R_firstInBucket_171, R_nextInBucket_162) hx hb hr hlocks rfl hw hP hS dX3_addOnce_173
  intro H locs hP hD hS ls hl
  unfold wp_X3_addOnce at hw
  refine lv_aload_n hx hb dX3_addOnce_0 rfl (lv_at hl 0 rfl) ?_
  refine va_get (D := D) (ci := 3) (v := .ref aR_sums) (C := RX3) (T := TX3) (N := 16) hx hb hts in_X3_addOnce_X3 hown hK hP 4 rfl rfl 12 (by decide) k_1 (fun _ h9 => h9) rfl dX3_addOnce_1 ?_
  refine lv_iload_n hx hb dX3_addOnce_4 rfl (lv_at hl 1 rfl) ?_
  have h5 := hw.1
  have hw := hw.2
  refine va_lald hx hb hK hP 10 1 rfl rfl h5 dX3_addOnce_5 ?_
  refine lv_topl (fun v5 e5 => ?_)
  have hw := hw v5 e5
  refine lv_bipush (v := (64 : Int32)) hx hb dX3_addOnce_6 kB_64 ?_
  refine lv_iload_n hx hb dX3_addOnce_8 rfl (lv_at hl 2 rfl) ?_
  refine lv_imul hx hb dX3_addOnce_9 ?_
  refine lv_iload_n hx hb dX3_addOnce_10 rfl (lv_at hl 3 rfl) ?_
  refine lv_iadd hx hb dX3_addOnce_11 ?_
  refine cx_gol (va_runS (As := [.int (((64 : Int32) * p2) + p3)]) (rest := [.long v5]) ⟨hx, hb, hml, hown, hts⟩ (c_X3_scattered l D cI cJ cZ cO tS tT H.size (((64 : Int32) * p2) + p3) _ hw) (va_cwS 1 hts gX3_addOnce_X3_scattered rfl rfl rfl ps_X3_scattered ⟨Nat.le_of_ble_eq_true rfl, Nat.le_of_ble_eq_true rfl⟩) (cx_preS (wc := w_X3_scattered) hE hK hP hD hS hA [] rfl rfl) rfl rfl hl.1 rfl (lv_room (Nat.le_of_ble_eq_true rfl)) dX3_addOnce_12 ⟨Nat.le_of_ble_eq_true rfl, Nat.le_of_ble_eq_true rfl⟩) (fun (_ : Unit) => (w_X3_addOnce cI cJ cZ cO aK aK_strengths aK_kinds aK_marks aK_faces aK_bars aK_showing aK_showingRight aK_barring aS aS_cells aS_fits aS_fitsInLine aS_stale aS_staleCells aS_seen aS_queue aR aR_start aR_parents aR_places aR_pieces aR_wide aR_sizes aR_sums aR_firstInBucket aR_nextInBucket K_warm K_count K_seeds K_blocks K_rivals K_kinds S_pieces S_grown S_fitsInAll S_staleCount S_atLeast1 S_atLeast2 S_atLeast3 S_cells R_told R_found R_ended R_cut R_largest R_here R_parents R_places R_pieces R_wide R_sizes R_sums R_firstInBucket R_nextInBucket)) [] [0, 1, 2, 3, 4, 5, 6, 7, 8, 9, 10, 11, 12] (ads := []) (wr := [(aK, .inr (1, [.int K_warm, .int K_count, .ref aK_strengths, .ref aK_kinds, .ref aK_marks, .ref aK_faces, .ref aK_bars, .ref aK_showing, .ref aK_showingRight, .ref aK_barring, .long K_seeds, .long K_blocks, .long K_rivals])), (aK_kinds, .inl (cI, 40, .inl K_kinds)), (aS, .inr (4, [.ref aK, .ref aS_cells, .int S_pieces, .int S_grown, .ref aS_fits, .ref aS_fitsInLine, .int S_fitsInAll, .ref aS_stale, .ref aS_staleCells, .int S_staleCount, .long S_atLeast1, .long S_atLeast2, .long S_atLeast3, .ref aS_seen, .ref aS_queue])), (aS_cells, .inl (cI, 324, .inl S_cells)), (aR, .inr (3, [.int R_told, .int R_found, .int R_ended, .int R_cut, .int R_largest, .ref aS, .ref aR_start, .ref aR_parents, .ref aR_places, .ref aR_pieces, .ref aR_wide, .ref aR_sizes, .ref aR_sums, .ref aR_firstInBucket, .ref aR_nextInBucket, .int R_here])), (aR_parents, .inl (cI, 300, .inl R_parents)), (aR_places, .inl (cI, 300, .inl R_places)), (aR_pieces, .inl (cI, 300, .inl R_pieces)), (aR_wide, .inl (cZ, 300, .inl R_wide)), (aR_sizes, .inl (cI, 300, .inl R_sizes)), (aR_sums, .inl (cJ, 300, .inr (.inl R_sums))), (aR_firstInBucket, .inl (cI, 512, .inl R_firstInBucket)), (aR_nextInBucket, .inl (cI, 300, .inl R_nextInBucket))]) rfl rfl (fun u => rfl) (fun u => rfl) rfl (fun u => rfl) rfl (fun u => rfl) rfl hP hD hS hA (fun r12 u H locs hw hP hD hS => ?_)
  refine lv_ladd hx hb dX3_addOnce_15 ?_
  refine lv_topl (fun v16 e16 => ?_)
  have hw := hw v16 e16
  refine lv_lstore (lv' := [(4, .long v16), (0, .ref aR), (1, .int p1), (2, .int p2), (3, .int p3)]) hx hb dX3_addOnce_16 hl (by decide) rfl (fun ls hl => ?_)
  refine lv_lload hx hb dX3_addOnce_18 (lv_at hl 0 rfl) ?_
  refine lv_bipush (v := (40 : Int32)) hx hb dX3_addOnce_20 kB_40 ?_
  refine lv_lushr hx hb dX3_addOnce_22 rfl ?_
  refine lv_l2i hx hb dX3_addOnce_23 rfl ?_
  refine lv_sipush (v := (511 : Int32)) hx hb dX3_addOnce_24 kS_511 ?_
  refine lv_iand hx hb dX3_addOnce_27 ?_
  refine lv_topi (fun v28 e28 => ?_)
  have hw := hw v28 e28
  refine lv_istore (lv' := [(6, .int v28), (4, .long v16), (0, .ref aR), (1, .int p1), (2, .int p2), (3, .int p3)]) hx hb dX3_addOnce_28 hl (by decide) rfl (fun ls hl => ?_)
  refine lv_aload_n hx hb dX3_addOnce_30 rfl (lv_at hl 2 rfl) ?_
  refine lv_iload hx hb dX3_addOnce_31 (lv_at hl 0 rfl) ?_
  refine lv_lload hx hb dX3_addOnce_33 (lv_at hl 1 rfl) ?_
  refine lv_iload_n hx hb dX3_addOnce_35 rfl (lv_at hl 4 rfl) ?_
  refine lv_iload_n hx hb dX3_addOnce_36 rfl (lv_at hl 5 rfl) ?_
  refine cx_goi (va_runV (As := [.int v28, .long v16, .int p2, .int p3]) (rest := []) ⟨hx, hb, hml, hown, hts⟩ (c_X3_isKnown l D cI cJ cZ cO tS tT H.size aS aK aS_cells aS_fits aS_fitsInLine aS_stale aS_staleCells aS_seen aS_queue aR aR_start aR_parents aR_places aR_pieces aR_wide aR_sizes aR_sums aR_firstInBucket aR_nextInBucket S_pieces S_grown S_fitsInAll S_staleCount S_atLeast1 S_atLeast2 S_atLeast3 S_cells R_told R_found R_ended R_cut R_largest R_here R_parents R_places R_pieces R_sizes R_sums R_firstInBucket R_nextInBucket v28 v16 p2 p3 _ hw) (cwV 4 hts gX3_addOnce_X3_isKnown rfl rfl rfl pv_X3_isKnown ⟨Nat.le_of_ble_eq_true rfl, Nat.le_of_ble_eq_true rfl⟩) (cx_preV (wc := w_X3_isKnown cI cJ cZ cO aS aK aS_cells aS_fits aS_fitsInLine aS_stale aS_staleCells aS_seen aS_queue aR aR_start aR_parents aR_places aR_pieces aR_wide aR_sizes aR_sums aR_firstInBucket aR_nextInBucket S_pieces S_grown S_fitsInAll S_staleCount S_atLeast1 S_atLeast2 S_atLeast3 S_cells R_told R_found R_ended R_cut R_largest R_here R_parents R_places R_pieces R_sizes R_sums R_firstInBucket R_nextInBucket) hE hK hP hD hS hA [2, 3, 4, 5, 6, 7, 9, 10, 11, 12] rfl rfl (va_recv hK hP (ci := 3) (q0 := 4) rfl rfl)) rfl rfl hl.1 rfl (lv_room (Nat.le_of_ble_eq_true rfl)) dX3_addOnce_37 ⟨Nat.le_of_ble_eq_true rfl, Nat.le_of_ble_eq_true rfl⟩) (fun (_ : Unit) => (w_X3_addOnce cI cJ cZ cO aK aK_strengths aK_kinds aK_marks aK_faces aK_bars aK_showing aK_showingRight aK_barring aS aS_cells aS_fits aS_fitsInLine aS_stale aS_staleCells aS_seen aS_queue aR aR_start aR_parents aR_places aR_pieces aR_wide aR_sizes aR_sums aR_firstInBucket aR_nextInBucket K_warm K_count K_seeds K_blocks K_rivals K_kinds S_pieces S_grown S_fitsInAll S_staleCount S_atLeast1 S_atLeast2 S_atLeast3 S_cells R_told R_found R_ended R_cut R_largest R_here R_parents R_places R_pieces R_wide R_sizes R_sums R_firstInBucket R_nextInBucket)) [2, 3, 4, 5, 6, 7, 9, 10, 11, 12] [0, 1, 8] (ads := [aS, aS_cells, aR, aR_parents, aR_places, aR_pieces, aR_sizes, aR_sums, aR_firstInBucket, aR_nextInBucket]) (wr := [(aK, .inr (1, [.int K_warm, .int K_count, .ref aK_strengths, .ref aK_kinds, .ref aK_marks, .ref aK_faces, .ref aK_bars, .ref aK_showing, .ref aK_showingRight, .ref aK_barring, .long K_seeds, .long K_blocks, .long K_rivals])), (aK_kinds, .inl (cI, 40, .inl K_kinds)), (aR_wide, .inl (cZ, 300, .inl R_wide))]) rfl rfl (fun u => rfl) (fun u => rfl) rfl (fun u => rfl) rfl (fun u => rfl) rfl hP hD hS hA (fun r37 u H locs hw hP hD hS => ?_)
  have hP : va_P D vwCl (w_X3_addOnce cI cJ cZ cO aK aK_strengths aK_kinds aK_marks aK_faces aK_bars aK_showing aK_showingRight aK_barring aS aS_cells aS_fits aS_fitsInLine aS_stale aS_staleCells aS_seen aS_queue aR aR_start aR_parents aR_places aR_pieces aR_wide aR_sizes aR_sums aR_firstInBucket aR_nextInBucket K_warm K_count K_seeds K_blocks K_rivals K_kinds S_pieces S_grown S_fitsInAll S_staleCount S_atLeast1 S_atLeast2 S_atLeast3 S_cells R_told R_found R_ended R_cut R_largest R_here R_parents R_places R_pieces R_wide R_sizes R_sums R_firstInBucket R_nextInBucket) H := hP
  have hD : va_D A (w_X3_addOnce cI cJ cZ cO aK aK_strengths aK_kinds aK_marks aK_faces aK_bars aK_showing aK_showingRight aK_barring aS aS_cells aS_fits aS_fitsInLine aS_stale aS_staleCells aS_seen aS_queue aR aR_start aR_parents aR_places aR_pieces aR_wide aR_sizes aR_sums aR_firstInBucket aR_nextInBucket K_warm K_count K_seeds K_blocks K_rivals K_kinds S_pieces S_grown S_fitsInAll S_staleCount S_atLeast1 S_atLeast2 S_atLeast3 S_cells R_told R_found R_ended R_cut R_largest R_here R_parents R_places R_pieces R_wide R_sizes R_sums R_firstInBucket R_nextInBucket) := hD
  refine lv_if_eq (tgt := 45) hx hb dX3_addOnce_40 (by decide) (fun c40 => ?_) (fun c40 => ?_)
  · have hw := hw.1 c40
    refine lv_aload_n hx hb dX3_addOnce_45 rfl (lv_at hl 2 rfl) ?_
    refine va_get (D := D) (ci := 3) (v := .int R_found) (C := RX3) (T := TX3) (N := 16) hx hb hts in_X3_addOnce_X3 hown hK hP 4 rfl rfl 1 (by decide) k_4 (fun _ h9 => h9) rfl dX3_addOnce_46 ?_
    refine lv_sipush (v := (300 : Int32)) hx hb dX3_addOnce_49 kS_300 ?_
    refine lv_icmp_lt (tgt := 57) hx hb dX3_addOnce_52 (by decide) (fun c52 => ?_) (fun c52 => ?_)
    · have hw := hw.1 c52
      refine lv_aload_n hx hb dX3_addOnce_57 rfl (lv_at hl 2 rfl) ?_
      refine va_get (D := D) (ci := 3) (v := .int R_found) (C := RX3) (T := TX3) (N := 16) hx hb hts in_X3_addOnce_X3 hown hK hP 4 rfl rfl 1 (by decide) k_4 (fun _ h9 => h9) rfl dX3_addOnce_58 ?_
      refine lv_istore (lv' := [(7, .int R_found), (6, .int v28), (4, .long v16), (0, .ref aR), (1, .int p1), (2, .int p2), (3, .int p3)]) hx hb dX3_addOnce_61 hl (by decide) rfl (fun ls hl => ?_)
      refine lv_aload_n hx hb dX3_addOnce_63 rfl (lv_at hl 3 rfl) ?_
      refine lv_dup hx hb dX3_addOnce_64 rfl ?_
      refine va_get (D := D) (ci := 3) (v := .int R_found) (C := RX3) (T := TX3) (N := 16) hx hb hts in_X3_addOnce_X3 hown hK hP 4 rfl rfl 1 (by decide) k_4 (fun _ h9 => h9) rfl dX3_addOnce_65 ?_
      refine lv_iconst (v := (1 : Int32)) hx hb dX3_addOnce_68 kI_1 ?_
      refine lv_iadd hx hb dX3_addOnce_69 ?_
      refine lv_topi (fun R_found_70 e70 => ?_)
      have hw := hw R_found_70 e70
      refine va_put (D := D) (ci := 3) (v := .int R_found_70) (ty := .int) (C := RX3) (T := TX3) (N := 16) hx hb hts in_X3_addOnce_X3 tyX3 tyX3_ok nmX3 hown hK hP hD hS 4 rfl rfl 1 (by decide) k_4 (fun _ h9 => h9) rfl (tyX3_ok 1 (by decide)) rfl rfl (Nat.le_of_ble_eq_true rfl) dX3_addOnce_70 (fun H locs hP hD hS => ?_)
      have hP : va_P D vwCl (w_X3_addOnce cI cJ cZ cO aK aK_strengths aK_kinds aK_marks aK_faces aK_bars aK_showing aK_showingRight aK_barring aS aS_cells aS_fits aS_fitsInLine aS_stale aS_staleCells aS_seen aS_queue aR aR_start aR_parents aR_places aR_pieces aR_wide aR_sizes aR_sums aR_firstInBucket aR_nextInBucket K_warm K_count K_seeds K_blocks K_rivals K_kinds S_pieces S_grown S_fitsInAll S_staleCount S_atLeast1 S_atLeast2 S_atLeast3 S_cells R_told R_found_70 R_ended R_cut R_largest R_here R_parents R_places R_pieces R_wide R_sizes R_sums R_firstInBucket R_nextInBucket) H := hP
      have hD : va_D A (w_X3_addOnce cI cJ cZ cO aK aK_strengths aK_kinds aK_marks aK_faces aK_bars aK_showing aK_showingRight aK_barring aS aS_cells aS_fits aS_fitsInLine aS_stale aS_staleCells aS_seen aS_queue aR aR_start aR_parents aR_places aR_pieces aR_wide aR_sizes aR_sums aR_firstInBucket aR_nextInBucket K_warm K_count K_seeds K_blocks K_rivals K_kinds S_pieces S_grown S_fitsInAll S_staleCount S_atLeast1 S_atLeast2 S_atLeast3 S_cells R_told R_found_70 R_ended R_cut R_largest R_here R_parents R_places R_pieces R_wide R_sizes R_sums R_firstInBucket R_nextInBucket) := hD
      refine lv_aload_n hx hb dX3_addOnce_73 rfl (lv_at hl 3 rfl) ?_
      refine va_get (D := D) (ci := 3) (v := .ref aR_parents) (C := RX3) (T := TX3) (N := 16) hx hb hts in_X3_addOnce_X3 hown hK hP 4 rfl rfl 7 (by decide) k_5 (fun _ h9 => h9) rfl dX3_addOnce_74 ?_
      refine lv_iload hx hb dX3_addOnce_77 (lv_at hl 0 rfl) ?_
      refine lv_iload_n hx hb dX3_addOnce_79 rfl (lv_at hl 4 rfl) ?_
      have h80 := hw.1
      have hw := hw.2
      refine va_iast hx hb hK hP hD hS 5 0 rfl rfl h80 dX3_addOnce_80 (fun H locs hP hD hS => ?_)
      have hP : va_P D vwCl (w_X3_addOnce cI cJ cZ cO aK aK_strengths aK_kinds aK_marks aK_faces aK_bars aK_showing aK_showingRight aK_barring aS aS_cells aS_fits aS_fitsInLine aS_stale aS_staleCells aS_seen aS_queue aR aR_start aR_parents aR_places aR_pieces aR_wide aR_sizes aR_sums aR_firstInBucket aR_nextInBucket K_warm K_count K_seeds K_blocks K_rivals K_kinds S_pieces S_grown S_fitsInAll S_staleCount S_atLeast1 S_atLeast2 S_atLeast3 S_cells R_told R_found_70 R_ended R_cut R_largest R_here (upd R_parents R_found.toNatClampNeg p1) R_places R_pieces R_wide R_sizes R_sums R_firstInBucket R_nextInBucket) H := hP
      have hD : va_D A (w_X3_addOnce cI cJ cZ cO aK aK_strengths aK_kinds aK_marks aK_faces aK_bars aK_showing aK_showingRight aK_barring aS aS_cells aS_fits aS_fitsInLine aS_stale aS_staleCells aS_seen aS_queue aR aR_start aR_parents aR_places aR_pieces aR_wide aR_sizes aR_sums aR_firstInBucket aR_nextInBucket K_warm K_count K_seeds K_blocks K_rivals K_kinds S_pieces S_grown S_fitsInAll S_staleCount S_atLeast1 S_atLeast2 S_atLeast3 S_cells R_told R_found_70 R_ended R_cut R_largest R_here (upd R_parents R_found.toNatClampNeg p1) R_places R_pieces R_wide R_sizes R_sums R_firstInBucket R_nextInBucket) := hD
      obtain ⟨R_parents_80, e80⟩ : ∃ y : Nat → Int32, y = upd R_parents R_found.toNatClampNeg p1 := ⟨_, rfl⟩
      rw [← e80] at hP hD
      have hw := hw R_parents_80 e80
      refine lv_aload_n hx hb dX3_addOnce_81 rfl (lv_at hl 3 rfl) ?_
      refine va_get (D := D) (ci := 3) (v := .ref aR_places) (C := RX3) (T := TX3) (N := 16) hx hb hts in_X3_addOnce_X3 hown hK hP 4 rfl rfl 8 (by decide) k_6 (fun _ h9 => h9) rfl dX3_addOnce_82 ?_
      refine lv_iload hx hb dX3_addOnce_85 (lv_at hl 0 rfl) ?_
      refine lv_iload_n hx hb dX3_addOnce_87 rfl (lv_at hl 5 rfl) ?_
      have h88 := hw.1
      have hw := hw.2
      refine va_iast hx hb hK hP hD hS 6 0 rfl rfl h88 dX3_addOnce_88 (fun H locs hP hD hS => ?_)
      have hP : va_P D vwCl (w_X3_addOnce cI cJ cZ cO aK aK_strengths aK_kinds aK_marks aK_faces aK_bars aK_showing aK_showingRight aK_barring aS aS_cells aS_fits aS_fitsInLine aS_stale aS_staleCells aS_seen aS_queue aR aR_start aR_parents aR_places aR_pieces aR_wide aR_sizes aR_sums aR_firstInBucket aR_nextInBucket K_warm K_count K_seeds K_blocks K_rivals K_kinds S_pieces S_grown S_fitsInAll S_staleCount S_atLeast1 S_atLeast2 S_atLeast3 S_cells R_told R_found_70 R_ended R_cut R_largest R_here R_parents_80 (upd R_places R_found.toNatClampNeg p2) R_pieces R_wide R_sizes R_sums R_firstInBucket R_nextInBucket) H := hP
      have hD : va_D A (w_X3_addOnce cI cJ cZ cO aK aK_strengths aK_kinds aK_marks aK_faces aK_bars aK_showing aK_showingRight aK_barring aS aS_cells aS_fits aS_fitsInLine aS_stale aS_staleCells aS_seen aS_queue aR aR_start aR_parents aR_places aR_pieces aR_wide aR_sizes aR_sums aR_firstInBucket aR_nextInBucket K_warm K_count K_seeds K_blocks K_rivals K_kinds S_pieces S_grown S_fitsInAll S_staleCount S_atLeast1 S_atLeast2 S_atLeast3 S_cells R_told R_found_70 R_ended R_cut R_largest R_here R_parents_80 (upd R_places R_found.toNatClampNeg p2) R_pieces R_wide R_sizes R_sums R_firstInBucket R_nextInBucket) := hD
      obtain ⟨R_places_88, e88⟩ : ∃ y : Nat → Int32, y = upd R_places R_found.toNatClampNeg p2 := ⟨_, rfl⟩
      rw [← e88] at hP hD
      have hw := hw R_places_88 e88
      refine lv_aload_n hx hb dX3_addOnce_89 rfl (lv_at hl 3 rfl) ?_
      refine va_get (D := D) (ci := 3) (v := .ref aR_pieces) (C := RX3) (T := TX3) (N := 16) hx hb hts in_X3_addOnce_X3 hown hK hP 4 rfl rfl 9 (by decide) k_7 (fun _ h9 => h9) rfl dX3_addOnce_90 ?_
      refine lv_iload hx hb dX3_addOnce_93 (lv_at hl 0 rfl) ?_
      refine lv_iload_n hx hb dX3_addOnce_95 rfl (lv_at hl 6 rfl) ?_
      have h96 := hw.1
      have hw := hw.2
      refine va_iast hx hb hK hP hD hS 7 0 rfl rfl h96 dX3_addOnce_96 (fun H locs hP hD hS => ?_)
      have hP : va_P D vwCl (w_X3_addOnce cI cJ cZ cO aK aK_strengths aK_kinds aK_marks aK_faces aK_bars aK_showing aK_showingRight aK_barring aS aS_cells aS_fits aS_fitsInLine aS_stale aS_staleCells aS_seen aS_queue aR aR_start aR_parents aR_places aR_pieces aR_wide aR_sizes aR_sums aR_firstInBucket aR_nextInBucket K_warm K_count K_seeds K_blocks K_rivals K_kinds S_pieces S_grown S_fitsInAll S_staleCount S_atLeast1 S_atLeast2 S_atLeast3 S_cells R_told R_found_70 R_ended R_cut R_largest R_here R_parents_80 R_places_88 (upd R_pieces R_found.toNatClampNeg p3) R_wide R_sizes R_sums R_firstInBucket R_nextInBucket) H := hP
      have hD : va_D A (w_X3_addOnce cI cJ cZ cO aK aK_strengths aK_kinds aK_marks aK_faces aK_bars aK_showing aK_showingRight aK_barring aS aS_cells aS_fits aS_fitsInLine aS_stale aS_staleCells aS_seen aS_queue aR aR_start aR_parents aR_places aR_pieces aR_wide aR_sizes aR_sums aR_firstInBucket aR_nextInBucket K_warm K_count K_seeds K_blocks K_rivals K_kinds S_pieces S_grown S_fitsInAll S_staleCount S_atLeast1 S_atLeast2 S_atLeast3 S_cells R_told R_found_70 R_ended R_cut R_largest R_here R_parents_80 R_places_88 (upd R_pieces R_found.toNatClampNeg p3) R_wide R_sizes R_sums R_firstInBucket R_nextInBucket) := hD
      obtain ⟨R_pieces_96, e96⟩ : ∃ y : Nat → Int32, y = upd R_pieces R_found.toNatClampNeg p3 := ⟨_, rfl⟩
      rw [← e96] at hP hD
      have hw := hw R_pieces_96 e96
      refine lv_aload_n hx hb dX3_addOnce_97 rfl (lv_at hl 3 rfl) ?_
      refine va_get (D := D) (ci := 3) (v := .ref aR_wide) (C := RX3) (T := TX3) (N := 16) hx hb hts in_X3_addOnce_X3 hown hK hP 4 rfl rfl 10 (by decide) k_8 (fun _ h9 => h9) rfl dX3_addOnce_98 ?_
      refine lv_iload hx hb dX3_addOnce_101 (lv_at hl 0 rfl) ?_
      refine lv_aload_n hx hb dX3_addOnce_103 rfl (lv_at hl 3 rfl) ?_
      refine va_get (D := D) (ci := 3) (v := .ref aS) (C := RX3) (T := TX3) (N := 16) hx hb hts in_X3_addOnce_X3 hown hK hP 4 rfl rfl 5 (by decide) k_9 (fun _ h9 => h9) rfl dX3_addOnce_104 ?_
      refine va_get (D := D) (ci := 4) (v := .ref aK) (C := RX4) (T := TX4) (N := 15) hx hb hts in_X3_addOnce_X4 hown hK hP 2 rfl rfl 0 (by decide) k_10 (fun _ h9 => h9) rfl dX3_addOnce_107 ?_
      refine va_get (D := D) (ci := 1) (v := .ref aK_kinds) (C := RX1) (T := TX1) (N := 13) hx hb hts in_X3_addOnce_X1 hown hK hP 0 rfl rfl 3 (by decide) k_11 (fun _ h9 => h9) rfl dX3_addOnce_110 ?_
      refine lv_iload_n hx hb dX3_addOnce_113 rfl (lv_at hl 6 rfl) ?_
      have h114 := hw.1
      have hw := hw.2
      refine va_iald hx hb hK hP 1 0 rfl rfl h114 dX3_addOnce_114 ?_
      refine lv_topi (fun v114 e114 => ?_)
      have hw := hw v114 e114
      refine lv_iconst (v := (2 : Int32)) hx hb dX3_addOnce_115 kI_2 ?_
      refine lv_icmp_ne (tgt := 123) hx hb dX3_addOnce_116 (by decide) (fun c116 => ?_) (fun c116 => ?_)
      · have hw := hw.1 c116
        refine lv_iconst (v := (0 : Int32)) hx hb dX3_addOnce_123 kI_0 ?_
        exact b_124 R_found_70 R_parents_80 R_places_88 R_pieces_96 R_wide R_sizes R_sums R_firstInBucket R_nextInBucket p1 v16 v28 R_found R_found (0 : Int32) hw H locs hP hD hS ls (lv_sub hl [3, 4, 2, 1, 0] rfl)
      · have hw := hw.2 c116
        refine lv_iconst (v := (1 : Int32)) hx hb dX3_addOnce_119 kI_1 ?_
        refine lv_goto (tgt := 124) hx hb dX3_addOnce_120 (by decide) ?_
        exact b_124 R_found_70 R_parents_80 R_places_88 R_pieces_96 R_wide R_sizes R_sums R_firstInBucket R_nextInBucket p1 v16 v28 R_found R_found (1 : Int32) hw H locs hP hD hS ls (lv_sub hl [3, 4, 2, 1, 0] rfl)
    · have hw := hw.2 c52
      refine lv_iconst (v := (0 : Int32)) hx hb dX3_addOnce_55 kI_0 ?_
      rw [hZ]
      exact cx_retz (R_found, R_parents, R_places, R_pieces, R_wide, R_sizes, R_sums, R_firstInBucket, R_nextInBucket) hx hb hr hlocks rfl hw hP hS dX3_addOnce_56
  · have hw := hw.2 c40
    refine lv_iconst (v := (1 : Int32)) hx hb dX3_addOnce_43 kI_1 ?_
    rw [hZ]
    exact cx_retz (R_found, R_parents, R_places, R_pieces, R_wide, R_sizes, R_sums, R_firstInBucket, R_nextInBucket) hx hb hr hlocks rfl hw hP hS dX3_addOnce_44
set_option maxRecDepth 100000 in
set_option maxHeartbeats 4000000 in
theorem c_X3_goThroughLine (l : Launch) (D : va_G) (cI cJ cZ cO : ClassId) (tS tT : Nat) (sz : Nat) (aK aK_strengths aK_kinds aK_marks aK_faces aK_bars aK_showing aK_showingRight aK_barring aS aS_cells aS_fits aS_fitsInLine aS_stale aS_staleCells aS_seen aS_queue aR aR_start aR_parents aR_places aR_pieces aR_wide aR_sizes aR_sums aR_firstInBucket aR_nextInBucket : Nat) (K_warm : Int32) (K_count : Int32) (K_seeds : Int64) (K_blocks : Int64) (K_rivals : Int64) (K_kinds : Nat → Int32) (S_pieces : Int32) (S_grown : Int32) (S_fitsInAll : Int32) (S_staleCount : Int32) (S_atLeast1 : Int64) (S_atLeast2 : Int64) (S_atLeast3 : Int64) (S_cells : Nat → Int32) (S_fits : Nat → Int64) (R_told : Int32) (R_found : Int32) (R_ended : Int32) (R_cut : Int32) (R_largest : Int32) (R_here : Int32) (R_parents : Nat → Int32) (R_places : Nat → Int32) (R_pieces : Nat → Int32) (R_wide : Nat → Int32) (R_sizes : Nat → Int32) (R_sums : Nat → Int64) (R_firstInBucket : Nat → Int32) (R_nextInBucket : Nat → Int32) (p1 : Int32) (p2 : Int32) (Q : Int32 → (Int32) → (Nat → Int32) → (Nat → Int32) → (Nat → Int32) → (Nat → Int32) → (Nat → Int32) → (Nat → Int64) → (Nat → Int32) → (Nat → Int32) → Prop) (hw : wp_X3_goThroughLine K_kinds S_cells S_pieces S_fits R_found R_parents R_places R_pieces R_wide R_sizes R_sums R_firstInBucket R_nextInBucket p1 p2 Q) : Met l yX3_goThroughLine wsX3_goThroughLine rm_X3_goThroughLine (va_Pc [.ref aR, .int p1, .int p2] (cx_B tS tT cI cJ cZ cO D sz (w_X3_goThroughLine cI cJ cZ cO aK aK_strengths aK_kinds aK_marks aK_faces aK_bars aK_showing aK_showingRight aK_barring aS aS_cells aS_fits aS_fitsInLine aS_stale aS_staleCells aS_seen aS_queue aR aR_start aR_parents aR_places aR_pieces aR_wide aR_sizes aR_sums aR_firstInBucket aR_nextInBucket K_warm K_count K_seeds K_blocks K_rivals K_kinds S_pieces S_grown S_fitsInAll S_staleCount S_atLeast1 S_atLeast2 S_atLeast3 S_cells S_fits R_told R_found R_ended R_cut R_largest R_here R_parents R_places R_pieces R_wide R_sizes R_sums R_firstInBucket R_nextInBucket))) (va_Qi (fun (r : Int32) (u : (Int32) × (Nat → Int32) × (Nat → Int32) × (Nat → Int32) × (Nat → Int32) × (Nat → Int32) × (Nat → Int64) × (Nat → Int32) × (Nat → Int32)) => Q r u.1 u.2.1 u.2.2.1 u.2.2.2.1 u.2.2.2.2.1 u.2.2.2.2.2.1 u.2.2.2.2.2.2.1 u.2.2.2.2.2.2.2.1 u.2.2.2.2.2.2.2.2) (fun (u : (Int32) × (Nat → Int32) × (Nat → Int32) × (Nat → Int32) × (Nat → Int32) × (Nat → Int32) × (Nat → Int64) × (Nat → Int32) × (Nat → Int32)) t => va_P D vwCl (w_X3_goThroughLine cI cJ cZ cO aK aK_strengths aK_kinds aK_marks aK_faces aK_bars aK_showing aK_showingRight aK_barring aS aS_cells aS_fits aS_fitsInLine aS_stale aS_staleCells aS_seen aS_queue aR aR_start aR_parents aR_places aR_pieces aR_wide aR_sizes aR_sums aR_firstInBucket aR_nextInBucket K_warm K_count K_seeds K_blocks K_rivals K_kinds S_pieces S_grown S_fitsInAll S_staleCount S_atLeast1 S_atLeast2 S_atLeast3 S_cells S_fits R_told u.1 R_ended R_cut R_largest R_here u.2.1 u.2.2.1 u.2.2.2.1 u.2.2.2.2.1 u.2.2.2.2.2.1 u.2.2.2.2.2.2.1 u.2.2.2.2.2.2.2.1 u.2.2.2.2.2.2.2.2) t.heap) (va_A (w_X3_goThroughLine cI cJ cZ cO aK aK_strengths aK_kinds aK_marks aK_faces aK_bars aK_showing aK_showingRight aK_barring aS aS_cells aS_fits aS_fitsInLine aS_stale aS_staleCells aS_seen aS_queue aR aR_start aR_parents aR_places aR_pieces aR_wide aR_sizes aR_sums aR_firstInBucket aR_nextInBucket K_warm K_count K_seeds K_blocks K_rivals K_kinds S_pieces S_grown S_fitsInAll S_staleCount S_atLeast1 S_atLeast2 S_atLeast3 S_cells S_fits R_told R_found R_ended R_cut R_largest R_here R_parents R_places R_pieces R_wide R_sizes R_sums R_firstInBucket R_nextInBucket) sz)) 0 0 (va_A (w_X3_goThroughLine cI cJ cZ cO aK aK_strengths aK_kinds aK_marks aK_faces aK_bars aK_showing aK_showingRight aK_barring aS aS_cells aS_fits aS_fitsInLine aS_stale aS_staleCells aS_seen aS_queue aR aR_start aR_parents aR_places aR_pieces aR_wide aR_sizes aR_sums aR_firstInBucket aR_nextInBucket K_warm K_count K_seeds K_blocks K_rivals K_kinds S_pieces S_grown S_fitsInAll S_staleCount S_atLeast1 S_atLeast2 S_atLeast3 S_cells S_fits R_told R_found R_ended R_cut R_largest R_here R_parents R_places R_pieces R_wide R_sizes R_sums R_firstInBucket R_nextInBucket) sz) := by
  refine cx_met (cc := cX3_goThroughLine) (maxL := 8) (ret := (some .boolean)) (Qc := fun A => va_Qi (fun (r : Int32) (u : (Int32) × (Nat → Int32) × (Nat → Int32) × (Nat → Int32) × (Nat → Int32) × (Nat → Int32) × (Nat → Int64) × (Nat → Int32) × (Nat → Int32)) => Q r u.1 u.2.1 u.2.2.1 u.2.2.2.1 u.2.2.2.2.1 u.2.2.2.2.2.1 u.2.2.2.2.2.2.1 u.2.2.2.2.2.2.2.1 u.2.2.2.2.2.2.2.2) (fun (u : (Int32) × (Nat → Int32) × (Nat → Int32) × (Nat → Int32) × (Nat → Int32) × (Nat → Int32) × (Nat → Int64) × (Nat → Int32) × (Nat → Int32)) t => va_P D vwCl (w_X3_goThroughLine cI cJ cZ cO aK aK_strengths aK_kinds aK_marks aK_faces aK_bars aK_showing aK_showingRight aK_barring aS aS_cells aS_fits aS_fitsInLine aS_stale aS_staleCells aS_seen aS_queue aR aR_start aR_parents aR_places aR_pieces aR_wide aR_sizes aR_sums aR_firstInBucket aR_nextInBucket K_warm K_count K_seeds K_blocks K_rivals K_kinds S_pieces S_grown S_fitsInAll S_staleCount S_atLeast1 S_atLeast2 S_atLeast3 S_cells S_fits R_told u.1 R_ended R_cut R_largest R_here u.2.1 u.2.2.1 u.2.2.2.1 u.2.2.2.2.1 u.2.2.2.2.2.1 u.2.2.2.2.2.2.1 u.2.2.2.2.2.2.2.1 u.2.2.2.2.2.2.2.2) t.heap) A) (lv := [(0, .ref aR), (1, .int p1), (2, .int p2)]) (by decide) rfl (Nat.le_of_ble_eq_true rfl) rfl ?_
  intro p e s m args below meth c A Z hx hb hr hlocks hts hown hml hE hK hA hZ
  have hown : s.vm.findClass RX3 = some m.cls := hown
  have k_0 := hts (.initialized RX7) (List.mem_of_getElem? (i := 4) (by decide +kernel))
  have k_1 := hts (.static yX7_placeOf) (List.mem_of_getElem? (i := 3) (by decide +kernel))
  have k_2 := hts (.fieldLink RX3 9 "GrowingTiles$Search" "sheet" "LGrowingTiles$Sheet;") (List.mem_of_getElem? (i := 1) (by decide +kernel))
  have k_3 := hts (.fieldLink RX3 119 "GrowingTiles$Sheet" "fits" "[J") (List.mem_of_getElem? (i := 2) (by decide +kernel))
  have b_2 : ∀ n_2 : Nat, ∀ (R_found : Int32) (R_parents : Nat → Int32) (R_places : Nat → Int32) (R_pieces : Nat → Int32) (R_wide : Nat → Int32) (R_sizes : Nat → Int32) (R_sums : Nat → Int64) (R_firstInBucket : Nat → Int32) (R_nextInBucket : Nat → Int32) (x1 : Int32) (x2 : Int32) (x3 : Int32), wq_X3_goThroughLine_2 K_kinds S_cells S_pieces S_fits Q n_2 R_found R_parents R_places R_pieces R_wide R_sizes R_sums R_firstInBucket R_nextInBucket x1 x2 x3 → ∀ (H : Heap) (locs : List Loc), va_P D vwCl (w_X3_goThroughLine cI cJ cZ cO aK aK_strengths aK_kinds aK_marks aK_faces aK_bars aK_showing aK_showingRight aK_barring aS aS_cells aS_fits aS_fitsInLine aS_stale aS_staleCells aS_seen aS_queue aR aR_start aR_parents aR_places aR_pieces aR_wide aR_sizes aR_sums aR_firstInBucket aR_nextInBucket K_warm K_count K_seeds K_blocks K_rivals K_kinds S_pieces S_grown S_fitsInAll S_staleCount S_atLeast1 S_atLeast2 S_atLeast3 S_cells S_fits R_told R_found R_ended R_cut R_largest R_here R_parents R_places R_pieces R_wide R_sizes R_sums R_firstInBucket R_nextInBucket) H → va_D A (w_X3_goThroughLine cI cJ cZ cO aK aK_strengths aK_kinds aK_marks aK_faces aK_bars aK_showing aK_showingRight aK_barring aS aS_cells aS_fits aS_fitsInLine aS_stale aS_staleCells aS_seen aS_queue aR aR_start aR_parents aR_places aR_pieces aR_wide aR_sizes aR_sums aR_firstInBucket aR_nextInBucket K_warm K_count K_seeds K_blocks K_rivals K_kinds S_pieces S_grown S_fitsInAll S_staleCount S_atLeast1 S_atLeast2 S_atLeast3 S_cells S_fits R_told R_found R_ended R_cut R_largest R_here R_parents R_places R_pieces R_wide R_sizes R_sums R_firstInBucket R_nextInBucket) → va_S A s.heap H locs → ∀ ls : Array Slot, lv_has ls 8 [(0, .ref aR), (1, .int x1), (2, .int x2), (3, .int x3)] → W p l e rm_X3_goThroughLine s m args below meth c H locs 0 0 Z (F0 m 2 ls []) := by
    intro n_2
    induction n_2 with
    | zero => intro R_found R_parents R_places R_pieces R_wide R_sizes R_sums R_firstInBucket R_nextInBucket x1 x2 x3 hw; exact False.elim hw
    | succ n_2 ih_2 =>
      have b_30 : ∀ n_30 : Nat, ∀ (R_found : Int32) (R_parents : Nat → Int32) (R_places : Nat → Int32) (R_pieces : Nat → Int32) (R_wide : Nat → Int32) (R_sizes : Nat → Int32) (R_sums : Nat → Int64) (R_firstInBucket : Nat → Int32) (R_nextInBucket : Nat → Int32) (x1 : Int32) (x2 : Int32) (x3 : Int32) (x4 : Int32) (x5 : Int64) (x7 : Int32), wq_X3_goThroughLine_30 K_kinds S_cells S_pieces S_fits (wq_X3_goThroughLine_2 K_kinds S_cells S_pieces S_fits Q n_2) Q n_30 R_found R_parents R_places R_pieces R_wide R_sizes R_sums R_firstInBucket R_nextInBucket x1 x2 x3 x4 x5 x7 → ∀ (H : Heap) (locs : List Loc), va_P D vwCl (w_X3_goThroughLine cI cJ cZ cO aK aK_strengths aK_kinds aK_marks aK_faces aK_bars aK_showing aK_showingRight aK_barring aS aS_cells aS_fits aS_fitsInLine aS_stale aS_staleCells aS_seen aS_queue aR aR_start aR_parents aR_places aR_pieces aR_wide aR_sizes aR_sums aR_firstInBucket aR_nextInBucket K_warm K_count K_seeds K_blocks K_rivals K_kinds S_pieces S_grown S_fitsInAll S_staleCount S_atLeast1 S_atLeast2 S_atLeast3 S_cells S_fits R_told R_found R_ended R_cut R_largest R_here R_parents R_places R_pieces R_wide R_sizes R_sums R_firstInBucket R_nextInBucket) H → va_D A (w_X3_goThroughLine cI cJ cZ cO aK aK_strengths aK_kinds aK_marks aK_faces aK_bars aK_showing aK_showingRight aK_barring aS aS_cells aS_fits aS_fitsInLine aS_stale aS_staleCells aS_seen aS_queue aR aR_start aR_parents aR_places aR_pieces aR_wide aR_sizes aR_sums aR_firstInBucket aR_nextInBucket K_warm K_count K_seeds K_blocks K_rivals K_kinds S_pieces S_grown S_fitsInAll S_staleCount S_atLeast1 S_atLeast2 S_atLeast3 S_cells S_fits R_told R_found R_ended R_cut R_largest R_here R_parents R_places R_pieces R_wide R_sizes R_sums R_firstInBucket R_nextInBucket) → va_S A s.heap H locs → ∀ ls : Array Slot, lv_has ls 8 [(0, .ref aR), (1, .int x1), (2, .int x2), (3, .int x3), (4, .int x4), (5, .long x5), (7, .int x7)] → W p l e rm_X3_goThroughLine s m args below meth c H locs 0 0 Z (F0 m 30 ls []) := by
        intro n_30
        induction n_30 with
        | zero => intro R_found R_parents R_places R_pieces R_wide R_sizes R_sums R_firstInBucket R_nextInBucket x1 x2 x3 x4 x5 x7 hw; exact False.elim hw
        | succ n_30 ih_30 =>
          intro R_found R_parents R_places R_pieces R_wide R_sizes R_sums R_firstInBucket R_nextInBucket x1 x2 x3 x4 x5 x7 hw H locs hP hD hS ls hl
          have hw : wf_X3_goThroughLine_30 K_kinds S_cells S_pieces S_fits (wq_X3_goThroughLine_2 K_kinds S_cells S_pieces S_fits Q n_2) Q (wq_X3_goThroughLine_30 K_kinds S_cells S_pieces S_fits (wq_X3_goThroughLine_2 K_kinds S_cells S_pieces S_fits Q n_2) Q n_30) R_found R_parents R_places R_pieces R_wide R_sizes R_sums R_firstInBucket R_nextInBucket x1 x2 x3 x4 x5 x7 := hw
          unfold wf_X3_goThroughLine_30 at hw
          refine lv_iload hx hb dX3_goThroughLine_30 (lv_at hl 6 rfl) ?_
          refine lv_bipush (v := (40 : Int32)) hx hb dX3_goThroughLine_32 kB_40 ?_
          refine lv_icmp_ge (tgt := 79) hx hb dX3_goThroughLine_34 (by decide) (fun c34 => ?_) (fun c34 => ?_)
          · have hw := hw.1 c34
            obtain ⟨v79, e79⟩ : ∃ y : Int32, y = x3 + (1 : Int32) := ⟨_, rfl⟩
            have hw := hw v79 e79
            refine lv_iinc (v := v79) (lv' := [(3, .int v79), (0, .ref aR), (1, .int x1), (2, .int x2), (4, .int x4), (5, .long x5), (7, .int x7)]) hx hb dX3_goThroughLine_79 hl (k := 3) rfl (by rw [e79, kI_1]) (by decide) rfl (fun ls hl => ?_)
            refine lv_goto (tgt := 2) hx hb dX3_goThroughLine_82 (by decide) ?_
            exact ih_2 R_found R_parents R_places R_pieces R_wide R_sizes R_sums R_firstInBucket R_nextInBucket x1 x2 v79 hw H locs hP hD hS ls (lv_sub hl [1, 2, 3, 0] rfl)
          · have hw := hw.2 c34
            refine lv_lload hx hb dX3_goThroughLine_37 (lv_at hl 5 rfl) ?_
            refine lv_iload hx hb dX3_goThroughLine_39 (lv_at hl 6 rfl) ?_
            refine lv_lushr hx hb dX3_goThroughLine_41 rfl ?_
            refine lv_lconst (v := (0 : Int64)) hx hb dX3_goThroughLine_42 kL_0 ?_
            refine W.lcmp hx hb dX3_goThroughLine_43 ?_
            refine lv_if_eq (tgt := 79) hx hb dX3_goThroughLine_44 (by decide) (fun c44 => ?_) (fun c44 => ?_)
            · have hw := hw.1 c44
              obtain ⟨v79, e79⟩ : ∃ y : Int32, y = x3 + (1 : Int32) := ⟨_, rfl⟩
              have hw := hw v79 e79
              refine lv_iinc (v := v79) (lv' := [(3, .int v79), (0, .ref aR), (1, .int x1), (2, .int x2), (4, .int x4), (5, .long x5), (7, .int x7)]) hx hb dX3_goThroughLine_79 hl (k := 3) rfl (by rw [e79, kI_1]) (by decide) rfl (fun ls hl => ?_)
              refine lv_goto (tgt := 2) hx hb dX3_goThroughLine_82 (by decide) ?_
              exact ih_2 R_found R_parents R_places R_pieces R_wide R_sizes R_sums R_firstInBucket R_nextInBucket x1 x2 v79 hw H locs hP hD hS ls (lv_sub hl [1, 2, 3, 0] rfl)
            · have hw := hw.2 c44
              refine lv_lload hx hb dX3_goThroughLine_47 (lv_at hl 5 rfl) ?_
              refine lv_iload hx hb dX3_goThroughLine_49 (lv_at hl 6 rfl) ?_
              refine lv_lushr hx hb dX3_goThroughLine_51 rfl ?_
              refine lv_lconst (v := (1 : Int64)) hx hb dX3_goThroughLine_52 kL_1 ?_
              refine lv_land hx hb dX3_goThroughLine_53 ?_
              refine lv_lconst (v := (1 : Int64)) hx hb dX3_goThroughLine_54 kL_1 ?_
              refine W.lcmp hx hb dX3_goThroughLine_55 ?_
              refine lv_if_ne (tgt := 73) hx hb dX3_goThroughLine_56 (by decide) (fun c56 => ?_) (fun c56 => ?_)
              · have hw := hw.1 c56
                obtain ⟨v73, e73⟩ : ∃ y : Int32, y = x7 + (1 : Int32) := ⟨_, rfl⟩
                have hw := hw v73 e73
                refine lv_iinc (v := v73) (lv' := [(7, .int v73), (0, .ref aR), (1, .int x1), (2, .int x2), (3, .int x3), (4, .int x4), (5, .long x5)]) hx hb dX3_goThroughLine_73 hl (k := 6) rfl (by rw [e73, kI_1]) (by decide) rfl (fun ls hl => ?_)
                refine lv_goto (tgt := 30) hx hb dX3_goThroughLine_76 (by decide) ?_
                exact ih_30 R_found R_parents R_places R_pieces R_wide R_sizes R_sums R_firstInBucket R_nextInBucket x1 x2 x3 x4 x5 v73 hw H locs hP hD hS ls (lv_sub hl [1, 2, 3, 4, 5, 6, 0] rfl)
              · have hw := hw.2 c56
                refine lv_aload_n hx hb dX3_goThroughLine_59 rfl (lv_at hl 0 rfl) ?_
                refine lv_iload_n hx hb dX3_goThroughLine_60 rfl (lv_at hl 1 rfl) ?_
                refine lv_iload hx hb dX3_goThroughLine_61 (lv_at hl 4 rfl) ?_
                refine lv_iload hx hb dX3_goThroughLine_63 (lv_at hl 6 rfl) ?_
                refine cx_goi (va_runV (As := [.int x1, .int x4, .int x7]) (rest := []) ⟨hx, hb, hml, hown, hts⟩ (c_X3_addOnce l D cI cJ cZ cO tS tT H.size aK aK_strengths aK_kinds aK_marks aK_faces aK_bars aK_showing aK_showingRight aK_barring aS aS_cells aS_fits aS_fitsInLine aS_stale aS_staleCells aS_seen aS_queue aR aR_start aR_parents aR_places aR_pieces aR_wide aR_sizes aR_sums aR_firstInBucket aR_nextInBucket K_warm K_count K_seeds K_blocks K_rivals K_kinds S_pieces S_grown S_fitsInAll S_staleCount S_atLeast1 S_atLeast2 S_atLeast3 S_cells R_told R_found R_ended R_cut R_largest R_here R_parents R_places R_pieces R_wide R_sizes R_sums R_firstInBucket R_nextInBucket x1 x4 x7 _ hw) (cwV 3 hts gX3_goThroughLine_X3_addOnce rfl rfl rfl pv_X3_addOnce ⟨Nat.le_of_ble_eq_true rfl, Nat.le_of_ble_eq_true rfl⟩) (cx_preV (wc := w_X3_addOnce cI cJ cZ cO aK aK_strengths aK_kinds aK_marks aK_faces aK_bars aK_showing aK_showingRight aK_barring aS aS_cells aS_fits aS_fitsInLine aS_stale aS_staleCells aS_seen aS_queue aR aR_start aR_parents aR_places aR_pieces aR_wide aR_sizes aR_sums aR_firstInBucket aR_nextInBucket K_warm K_count K_seeds K_blocks K_rivals K_kinds S_pieces S_grown S_fitsInAll S_staleCount S_atLeast1 S_atLeast2 S_atLeast3 S_cells R_told R_found R_ended R_cut R_largest R_here R_parents R_places R_pieces R_wide R_sizes R_sums R_firstInBucket R_nextInBucket) hE hK hP hD hS hA [0, 1, 2, 3, 5, 6, 7, 8, 9, 10, 11, 12, 13] rfl rfl (va_recv hK hP (ci := 3) (q0 := 5) rfl rfl)) rfl rfl hl.1 rfl (lv_room (Nat.le_of_ble_eq_true rfl)) dX3_goThroughLine_65 ⟨Nat.le_of_ble_eq_true rfl, Nat.le_of_ble_eq_true rfl⟩) (fun (u : (Int32) × (Nat → Int32) × (Nat → Int32) × (Nat → Int32) × (Nat → Int32) × (Nat → Int32) × (Nat → Int64) × (Nat → Int32) × (Nat → Int32)) => (w_X3_goThroughLine cI cJ cZ cO aK aK_strengths aK_kinds aK_marks aK_faces aK_bars aK_showing aK_showingRight aK_barring aS aS_cells aS_fits aS_fitsInLine aS_stale aS_staleCells aS_seen aS_queue aR aR_start aR_parents aR_places aR_pieces aR_wide aR_sizes aR_sums aR_firstInBucket aR_nextInBucket K_warm K_count K_seeds K_blocks K_rivals K_kinds S_pieces S_grown S_fitsInAll S_staleCount S_atLeast1 S_atLeast2 S_atLeast3 S_cells S_fits R_told u.1 R_ended R_cut R_largest R_here u.2.1 u.2.2.1 u.2.2.2.1 u.2.2.2.2.1 u.2.2.2.2.2.1 u.2.2.2.2.2.2.1 u.2.2.2.2.2.2.2.1 u.2.2.2.2.2.2.2.2)) [0, 1, 2, 3, 5, 6, 7, 8, 9, 10, 11, 12, 13] [4] (ads := [aK, aK_kinds, aS, aS_cells, aR, aR_parents, aR_places, aR_pieces, aR_wide, aR_sizes, aR_sums, aR_firstInBucket, aR_nextInBucket]) (wr := [(aS_fits, .inl (cJ, 324, .inr (.inl S_fits)))]) rfl rfl (fun u => rfl) (fun u => rfl) rfl (fun u => rfl) rfl (fun u => rfl) rfl hP hD hS hA (fun r65 u H locs hw hP hD hS => ?_)
                obtain ⟨R_found_65, R_parents_65, R_places_65, R_pieces_65, R_wide_65, R_sizes_65, R_sums_65, R_firstInBucket_65, R_nextInBucket_65⟩ := u
                try dsimp only at hw
                have hP : va_P D vwCl (w_X3_goThroughLine cI cJ cZ cO aK aK_strengths aK_kinds aK_marks aK_faces aK_bars aK_showing aK_showingRight aK_barring aS aS_cells aS_fits aS_fitsInLine aS_stale aS_staleCells aS_seen aS_queue aR aR_start aR_parents aR_places aR_pieces aR_wide aR_sizes aR_sums aR_firstInBucket aR_nextInBucket K_warm K_count K_seeds K_blocks K_rivals K_kinds S_pieces S_grown S_fitsInAll S_staleCount S_atLeast1 S_atLeast2 S_atLeast3 S_cells S_fits R_told R_found_65 R_ended R_cut R_largest R_here R_parents_65 R_places_65 R_pieces_65 R_wide_65 R_sizes_65 R_sums_65 R_firstInBucket_65 R_nextInBucket_65) H := hP
                have hD : va_D A (w_X3_goThroughLine cI cJ cZ cO aK aK_strengths aK_kinds aK_marks aK_faces aK_bars aK_showing aK_showingRight aK_barring aS aS_cells aS_fits aS_fitsInLine aS_stale aS_staleCells aS_seen aS_queue aR aR_start aR_parents aR_places aR_pieces aR_wide aR_sizes aR_sums aR_firstInBucket aR_nextInBucket K_warm K_count K_seeds K_blocks K_rivals K_kinds S_pieces S_grown S_fitsInAll S_staleCount S_atLeast1 S_atLeast2 S_atLeast3 S_cells S_fits R_told R_found_65 R_ended R_cut R_largest R_here R_parents_65 R_places_65 R_pieces_65 R_wide_65 R_sizes_65 R_sums_65 R_firstInBucket_65 R_nextInBucket_65) := hD
                refine lv_if_ne (tgt := 73) hx hb dX3_goThroughLine_68 (by decide) (fun c68 => ?_) (fun c68 => ?_)
                · have hw := hw.1 c68
                  obtain ⟨v73, e73⟩ : ∃ y : Int32, y = x7 + (1 : Int32) := ⟨_, rfl⟩
                  have hw := hw v73 e73
                  refine lv_iinc (v := v73) (lv' := [(7, .int v73), (0, .ref aR), (1, .int x1), (2, .int x2), (3, .int x3), (4, .int x4), (5, .long x5)]) hx hb dX3_goThroughLine_73 hl (k := 6) rfl (by rw [e73, kI_1]) (by decide) rfl (fun ls hl => ?_)
                  refine lv_goto (tgt := 30) hx hb dX3_goThroughLine_76 (by decide) ?_
                  exact ih_30 R_found_65 R_parents_65 R_places_65 R_pieces_65 R_wide_65 R_sizes_65 R_sums_65 R_firstInBucket_65 R_nextInBucket_65 x1 x2 x3 x4 x5 v73 hw H locs hP hD hS ls (lv_sub hl [1, 2, 3, 4, 5, 6, 0] rfl)
                · have hw := hw.2 c68
                  refine lv_iconst (v := (0 : Int32)) hx hb dX3_goThroughLine_71 kI_0 ?_
                  rw [hZ]
                  exact cx_retz (R_found_65, R_parents_65, R_places_65, R_pieces_65, R_wide_65, R_sizes_65, R_sums_65, R_firstInBucket_65, R_nextInBucket_65) hx hb hr hlocks rfl hw hP hS dX3_goThroughLine_72
      intro R_found R_parents R_places R_pieces R_wide R_sizes R_sums R_firstInBucket R_nextInBucket x1 x2 x3 hw H locs hP hD hS ls hl
      have hw : wf_X3_goThroughLine_2 K_kinds S_cells S_pieces S_fits Q (wq_X3_goThroughLine_2 K_kinds S_cells S_pieces S_fits Q n_2) R_found R_parents R_places R_pieces R_wide R_sizes R_sums R_firstInBucket R_nextInBucket x1 x2 x3 := hw
      unfold wf_X3_goThroughLine_2 at hw
      refine lv_iload_n hx hb dX3_goThroughLine_2 rfl (lv_at hl 3 rfl) ?_
      refine lv_bipush (v := (16 : Int32)) hx hb dX3_goThroughLine_3 kB_16 ?_
      refine lv_icmp_ge (tgt := 85) hx hb dX3_goThroughLine_5 (by decide) (fun c5 => ?_) (fun c5 => ?_)
      · have hw := hw.1 c5
        refine lv_iconst (v := (1 : Int32)) hx hb dX3_goThroughLine_85 kI_1 ?_
        rw [hZ]
        exact cx_retz (R_found, R_parents, R_places, R_pieces, R_wide, R_sizes, R_sums, R_firstInBucket, R_nextInBucket) hx hb hr hlocks rfl hw hP hS dX3_goThroughLine_86
      · have hw := hw.2 c5
        refine lv_iload_n hx hb dX3_goThroughLine_8 rfl (lv_at hl 3 rfl) ?_
        refine lv_iload_n hx hb dX3_goThroughLine_9 rfl (lv_at hl 2 rfl) ?_
        refine cx_goi (va_runSN (As := [.int x3, .int x2]) (rest := []) ⟨hx, hb, hml, hown, hts⟩ (c_X7_placeOf l D cI cJ cZ cO tS tT H.size x3 x2 _ hw) ⟨va_cnB 2 hts gX3_goThroughLine_X7_placeOf_n116 rfl rfl rfl (hE.1.2.2.2.2.2.2.2.2.2.1) k_0 ps_X7_placeOf ⟨Nat.le_of_ble_eq_true rfl, Nat.le_of_ble_eq_true rfl⟩, k_1, trivial⟩ (cx_preS (wc := w_X7_placeOf) hE hK hP hD hS hA [] rfl rfl) rfl rfl hl.1 rfl (lv_room (Nat.le_of_ble_eq_true rfl)) dX3_goThroughLine_10 ⟨Nat.le_of_ble_eq_true rfl, Nat.le_of_ble_eq_true rfl⟩) (fun (_ : Unit) => (w_X3_goThroughLine cI cJ cZ cO aK aK_strengths aK_kinds aK_marks aK_faces aK_bars aK_showing aK_showingRight aK_barring aS aS_cells aS_fits aS_fitsInLine aS_stale aS_staleCells aS_seen aS_queue aR aR_start aR_parents aR_places aR_pieces aR_wide aR_sizes aR_sums aR_firstInBucket aR_nextInBucket K_warm K_count K_seeds K_blocks K_rivals K_kinds S_pieces S_grown S_fitsInAll S_staleCount S_atLeast1 S_atLeast2 S_atLeast3 S_cells S_fits R_told R_found R_ended R_cut R_largest R_here R_parents R_places R_pieces R_wide R_sizes R_sums R_firstInBucket R_nextInBucket)) [] [0, 1, 2, 3, 4, 5, 6, 7, 8, 9, 10, 11, 12, 13] (ads := []) (wr := [(aK, .inr (1, [.int K_warm, .int K_count, .ref aK_strengths, .ref aK_kinds, .ref aK_marks, .ref aK_faces, .ref aK_bars, .ref aK_showing, .ref aK_showingRight, .ref aK_barring, .long K_seeds, .long K_blocks, .long K_rivals])), (aK_kinds, .inl (cI, 40, .inl K_kinds)), (aS, .inr (4, [.ref aK, .ref aS_cells, .int S_pieces, .int S_grown, .ref aS_fits, .ref aS_fitsInLine, .int S_fitsInAll, .ref aS_stale, .ref aS_staleCells, .int S_staleCount, .long S_atLeast1, .long S_atLeast2, .long S_atLeast3, .ref aS_seen, .ref aS_queue])), (aS_cells, .inl (cI, 324, .inl S_cells)), (aS_fits, .inl (cJ, 324, .inr (.inl S_fits))), (aR, .inr (3, [.int R_told, .int R_found, .int R_ended, .int R_cut, .int R_largest, .ref aS, .ref aR_start, .ref aR_parents, .ref aR_places, .ref aR_pieces, .ref aR_wide, .ref aR_sizes, .ref aR_sums, .ref aR_firstInBucket, .ref aR_nextInBucket, .int R_here])), (aR_parents, .inl (cI, 300, .inl R_parents)), (aR_places, .inl (cI, 300, .inl R_places)), (aR_pieces, .inl (cI, 300, .inl R_pieces)), (aR_wide, .inl (cZ, 300, .inl R_wide)), (aR_sizes, .inl (cI, 300, .inl R_sizes)), (aR_sums, .inl (cJ, 300, .inr (.inl R_sums))), (aR_firstInBucket, .inl (cI, 512, .inl R_firstInBucket)), (aR_nextInBucket, .inl (cI, 300, .inl R_nextInBucket))]) rfl rfl (fun u => rfl) (fun u => rfl) rfl (fun u => rfl) rfl (fun u => rfl) rfl hP hD hS hA (fun r10 u H locs hw hP hD hS => ?_)
        refine lv_istore (lv' := [(4, .int r10), (0, .ref aR), (1, .int x1), (2, .int x2), (3, .int x3)]) hx hb dX3_goThroughLine_13 hl (by decide) rfl (fun ls hl => ?_)
        refine lv_aload_n hx hb dX3_goThroughLine_15 rfl (lv_at hl 1 rfl) ?_
        refine va_get (D := D) (ci := 3) (v := .ref aS) (C := RX3) (T := TX3) (N := 16) hx hb hts in_X3_goThroughLine_X3 hown hK hP 5 rfl rfl 5 (by decide) k_2 (fun _ h9 => h9) rfl dX3_goThroughLine_16 ?_
        refine va_get (D := D) (ci := 4) (v := .ref aS_fits) (C := RX4) (T := TX4) (N := 15) hx hb hts in_X3_goThroughLine_X4 hown hK hP 2 rfl rfl 4 (by decide) k_3 (fun _ h9 => h9) rfl dX3_goThroughLine_19 ?_
        refine lv_iload hx hb dX3_goThroughLine_22 (lv_at hl 0 rfl) ?_
        have h24 := hw.1
        have hw := hw.2
        refine va_lald hx hb hK hP 4 1 rfl rfl h24 dX3_goThroughLine_24 ?_
        refine lv_topl (fun v24 e24 => ?_)
        have hw := hw v24 e24
        refine lv_lstore (lv' := [(5, .long v24), (4, .int r10), (0, .ref aR), (1, .int x1), (2, .int x2), (3, .int x3)]) hx hb dX3_goThroughLine_25 hl (by decide) rfl (fun ls hl => ?_)
        refine lv_iconst (v := (0 : Int32)) hx hb dX3_goThroughLine_27 kI_0 ?_
        refine lv_istore (lv' := [(7, .int (0 : Int32)), (5, .long v24), (4, .int r10), (0, .ref aR), (1, .int x1), (2, .int x2), (3, .int x3)]) hx hb dX3_goThroughLine_28 hl (by decide) rfl (fun ls hl => ?_)
        obtain ⟨k, hw⟩ := hw
        exact b_30 k R_found R_parents R_places R_pieces R_wide R_sizes R_sums R_firstInBucket R_nextInBucket x1 x2 x3 r10 v24 (0 : Int32) hw H locs hP hD hS ls (lv_sub hl [3, 4, 5, 6, 2, 1, 0] rfl)
  intro H locs hP hD hS ls hl
  unfold wp_X3_goThroughLine at hw
  refine lv_iconst (v := (0 : Int32)) hx hb dX3_goThroughLine_0 kI_0 ?_
  refine lv_istore_n (lv' := [(3, .int (0 : Int32)), (0, .ref aR), (1, .int p1), (2, .int p2)]) hx hb dX3_goThroughLine_1 rfl hl (by decide) rfl (fun ls hl => ?_)
  obtain ⟨k, hw⟩ := hw
  exact b_2 k R_found R_parents R_places R_pieces R_wide R_sizes R_sums R_firstInBucket R_nextInBucket p1 p2 (0 : Int32) hw H locs hP hD hS ls (lv_sub hl [1, 2, 3, 0] rfl)
set_option maxRecDepth 100000 in
set_option maxHeartbeats 4000000 in
theorem c_X3_goThrough (l : Launch) (D : va_G) (cI cJ cZ cO : ClassId) (tS tT : Nat) (sz : Nat) (aK aK_strengths aK_kinds aK_marks aK_faces aK_bars aK_showing aK_showingRight aK_barring aS aS_cells aS_fits aS_fitsInLine aS_stale aS_staleCells aS_seen aS_queue aR aR_start aR_parents aR_places aR_pieces aR_wide aR_sizes aR_sums aR_firstInBucket aR_nextInBucket : Nat) (K_warm : Int32) (K_count : Int32) (K_seeds : Int64) (K_blocks : Int64) (K_rivals : Int64) (K_kinds : Nat → Int32) (S_pieces : Int32) (S_grown : Int32) (S_fitsInAll : Int32) (S_staleCount : Int32) (S_atLeast1 : Int64) (S_atLeast2 : Int64) (S_atLeast3 : Int64) (S_cells : Nat → Int32) (S_fits : Nat → Int64) (S_fitsInLine : Nat → Int32) (R_told : Int32) (R_found : Int32) (R_ended : Int32) (R_cut : Int32) (R_largest : Int32) (R_here : Int32) (R_parents : Nat → Int32) (R_places : Nat → Int32) (R_pieces : Nat → Int32) (R_wide : Nat → Int32) (R_sizes : Nat → Int32) (R_sums : Nat → Int64) (R_firstInBucket : Nat → Int32) (R_nextInBucket : Nat → Int32) (p1 : Int32) (p2 : Int32) (p3 : Int32) (Q : Int32 → (Int32) → (Int32) → (Int32) → (Nat → Int32) → (Nat → Int32) → (Nat → Int32) → (Nat → Int32) → (Nat → Int32) → (Nat → Int64) → (Nat → Int32) → (Nat → Int32) → Prop) (hw : wp_X3_goThrough K_kinds S_cells S_pieces S_fits S_fitsInLine R_found R_ended R_cut R_parents R_places R_pieces R_wide R_sizes R_sums R_firstInBucket R_nextInBucket p1 p2 p3 Q) : Met l yX3_goThrough wsX3_goThrough rm_X3_goThrough (va_Pc [.ref aR, .int p1, .int p2, .int p3] (cx_B tS tT cI cJ cZ cO D sz (w_X3_goThrough cI cJ cZ cO aK aK_strengths aK_kinds aK_marks aK_faces aK_bars aK_showing aK_showingRight aK_barring aS aS_cells aS_fits aS_fitsInLine aS_stale aS_staleCells aS_seen aS_queue aR aR_start aR_parents aR_places aR_pieces aR_wide aR_sizes aR_sums aR_firstInBucket aR_nextInBucket K_warm K_count K_seeds K_blocks K_rivals K_kinds S_pieces S_grown S_fitsInAll S_staleCount S_atLeast1 S_atLeast2 S_atLeast3 S_cells S_fits S_fitsInLine R_told R_found R_ended R_cut R_largest R_here R_parents R_places R_pieces R_wide R_sizes R_sums R_firstInBucket R_nextInBucket))) (va_Qi (fun (r : Int32) (u : (Int32) × (Int32) × (Int32) × (Nat → Int32) × (Nat → Int32) × (Nat → Int32) × (Nat → Int32) × (Nat → Int32) × (Nat → Int64) × (Nat → Int32) × (Nat → Int32)) => Q r u.1 u.2.1 u.2.2.1 u.2.2.2.1 u.2.2.2.2.1 u.2.2.2.2.2.1 u.2.2.2.2.2.2.1 u.2.2.2.2.2.2.2.1 u.2.2.2.2.2.2.2.2.1 u.2.2.2.2.2.2.2.2.2.1 u.2.2.2.2.2.2.2.2.2.2) (fun (u : (Int32) × (Int32) × (Int32) × (Nat → Int32) × (Nat → Int32) × (Nat → Int32) × (Nat → Int32) × (Nat → Int32) × (Nat → Int64) × (Nat → Int32) × (Nat → Int32)) t => va_P D vwCl (w_X3_goThrough cI cJ cZ cO aK aK_strengths aK_kinds aK_marks aK_faces aK_bars aK_showing aK_showingRight aK_barring aS aS_cells aS_fits aS_fitsInLine aS_stale aS_staleCells aS_seen aS_queue aR aR_start aR_parents aR_places aR_pieces aR_wide aR_sizes aR_sums aR_firstInBucket aR_nextInBucket K_warm K_count K_seeds K_blocks K_rivals K_kinds S_pieces S_grown S_fitsInAll S_staleCount S_atLeast1 S_atLeast2 S_atLeast3 S_cells S_fits S_fitsInLine R_told u.1 u.2.1 u.2.2.1 R_largest R_here u.2.2.2.1 u.2.2.2.2.1 u.2.2.2.2.2.1 u.2.2.2.2.2.2.1 u.2.2.2.2.2.2.2.1 u.2.2.2.2.2.2.2.2.1 u.2.2.2.2.2.2.2.2.2.1 u.2.2.2.2.2.2.2.2.2.2) t.heap) (va_A (w_X3_goThrough cI cJ cZ cO aK aK_strengths aK_kinds aK_marks aK_faces aK_bars aK_showing aK_showingRight aK_barring aS aS_cells aS_fits aS_fitsInLine aS_stale aS_staleCells aS_seen aS_queue aR aR_start aR_parents aR_places aR_pieces aR_wide aR_sizes aR_sums aR_firstInBucket aR_nextInBucket K_warm K_count K_seeds K_blocks K_rivals K_kinds S_pieces S_grown S_fitsInAll S_staleCount S_atLeast1 S_atLeast2 S_atLeast3 S_cells S_fits S_fitsInLine R_told R_found R_ended R_cut R_largest R_here R_parents R_places R_pieces R_wide R_sizes R_sums R_firstInBucket R_nextInBucket) sz)) 0 0 (va_A (w_X3_goThrough cI cJ cZ cO aK aK_strengths aK_kinds aK_marks aK_faces aK_bars aK_showing aK_showingRight aK_barring aS aS_cells aS_fits aS_fitsInLine aS_stale aS_staleCells aS_seen aS_queue aR aR_start aR_parents aR_places aR_pieces aR_wide aR_sizes aR_sums aR_firstInBucket aR_nextInBucket K_warm K_count K_seeds K_blocks K_rivals K_kinds S_pieces S_grown S_fitsInAll S_staleCount S_atLeast1 S_atLeast2 S_atLeast3 S_cells S_fits S_fitsInLine R_told R_found R_ended R_cut R_largest R_here R_parents R_places R_pieces R_wide R_sizes R_sums R_firstInBucket R_nextInBucket) sz) := by
  refine cx_met (cc := cX3_goThrough) (maxL := 5) (ret := (some .boolean)) (Qc := fun A => va_Qi (fun (r : Int32) (u : (Int32) × (Int32) × (Int32) × (Nat → Int32) × (Nat → Int32) × (Nat → Int32) × (Nat → Int32) × (Nat → Int32) × (Nat → Int64) × (Nat → Int32) × (Nat → Int32)) => Q r u.1 u.2.1 u.2.2.1 u.2.2.2.1 u.2.2.2.2.1 u.2.2.2.2.2.1 u.2.2.2.2.2.2.1 u.2.2.2.2.2.2.2.1 u.2.2.2.2.2.2.2.2.1 u.2.2.2.2.2.2.2.2.2.1 u.2.2.2.2.2.2.2.2.2.2) (fun (u : (Int32) × (Int32) × (Int32) × (Nat → Int32) × (Nat → Int32) × (Nat → Int32) × (Nat → Int32) × (Nat → Int32) × (Nat → Int64) × (Nat → Int32) × (Nat → Int32)) t => va_P D vwCl (w_X3_goThrough cI cJ cZ cO aK aK_strengths aK_kinds aK_marks aK_faces aK_bars aK_showing aK_showingRight aK_barring aS aS_cells aS_fits aS_fitsInLine aS_stale aS_staleCells aS_seen aS_queue aR aR_start aR_parents aR_places aR_pieces aR_wide aR_sizes aR_sums aR_firstInBucket aR_nextInBucket K_warm K_count K_seeds K_blocks K_rivals K_kinds S_pieces S_grown S_fitsInAll S_staleCount S_atLeast1 S_atLeast2 S_atLeast3 S_cells S_fits S_fitsInLine R_told u.1 u.2.1 u.2.2.1 R_largest R_here u.2.2.2.1 u.2.2.2.2.1 u.2.2.2.2.2.1 u.2.2.2.2.2.2.1 u.2.2.2.2.2.2.2.1 u.2.2.2.2.2.2.2.2.1 u.2.2.2.2.2.2.2.2.2.1 u.2.2.2.2.2.2.2.2.2.2) t.heap) A) (lv := [(0, .ref aR), (1, .int p1), (2, .int p2), (3, .int p3)]) (by decide) rfl (Nat.le_of_ble_eq_true rfl) rfl ?_
  intro p e s m args below meth c A Z hx hb hr hlocks hts hown hml hE hK hA hZ
  have hown : s.vm.findClass RX3 = some m.cls := hown
  have k_0 := hts (.fieldLink RX3 9 "GrowingTiles$Search" "sheet" "LGrowingTiles$Sheet;") (List.mem_of_getElem? (i := 4) (by decide +kernel))
  have k_1 := hts (.fieldLink RX3 109 "GrowingTiles$Sheet" "fitsInLine" "[I") (List.mem_of_getElem? (i := 5) (by decide +kernel))
  have k_2 := hts (.fieldLink RX3 39 "GrowingTiles$Search" "sizes" "[I") (List.mem_of_getElem? (i := 2) (by decide +kernel))
  have k_3 := hts (.fieldLink RX3 92 "GrowingTiles$Search" "cut" "I") (List.mem_of_getElem? (i := 3) (by decide +kernel))
  have k_4 := hts (.fieldLink RX3 89 "GrowingTiles$Search" "ended" "I") (List.mem_of_getElem? (i := 1) (by decide +kernel))
  have b_41 : ∀ n_41 : Nat, ∀ (R_found : Int32) (R_ended : Int32) (R_cut : Int32) (R_parents : Nat → Int32) (R_places : Nat → Int32) (R_pieces : Nat → Int32) (R_wide : Nat → Int32) (R_sizes : Nat → Int32) (R_sums : Nat → Int64) (R_firstInBucket : Nat → Int32) (R_nextInBucket : Nat → Int32) (x1 : Int32) (x4 : Int32), wq_X3_goThrough_41 K_kinds S_cells S_pieces S_fits S_fitsInLine Q n_41 R_found R_ended R_cut R_parents R_places R_pieces R_wide R_sizes R_sums R_firstInBucket R_nextInBucket x1 x4 → ∀ (H : Heap) (locs : List Loc), va_P D vwCl (w_X3_goThrough cI cJ cZ cO aK aK_strengths aK_kinds aK_marks aK_faces aK_bars aK_showing aK_showingRight aK_barring aS aS_cells aS_fits aS_fitsInLine aS_stale aS_staleCells aS_seen aS_queue aR aR_start aR_parents aR_places aR_pieces aR_wide aR_sizes aR_sums aR_firstInBucket aR_nextInBucket K_warm K_count K_seeds K_blocks K_rivals K_kinds S_pieces S_grown S_fitsInAll S_staleCount S_atLeast1 S_atLeast2 S_atLeast3 S_cells S_fits S_fitsInLine R_told R_found R_ended R_cut R_largest R_here R_parents R_places R_pieces R_wide R_sizes R_sums R_firstInBucket R_nextInBucket) H → va_D A (w_X3_goThrough cI cJ cZ cO aK aK_strengths aK_kinds aK_marks aK_faces aK_bars aK_showing aK_showingRight aK_barring aS aS_cells aS_fits aS_fitsInLine aS_stale aS_staleCells aS_seen aS_queue aR aR_start aR_parents aR_places aR_pieces aR_wide aR_sizes aR_sums aR_firstInBucket aR_nextInBucket K_warm K_count K_seeds K_blocks K_rivals K_kinds S_pieces S_grown S_fitsInAll S_staleCount S_atLeast1 S_atLeast2 S_atLeast3 S_cells S_fits S_fitsInLine R_told R_found R_ended R_cut R_largest R_here R_parents R_places R_pieces R_wide R_sizes R_sums R_firstInBucket R_nextInBucket) → va_S A s.heap H locs → ∀ ls : Array Slot, lv_has ls 5 [(0, .ref aR), (1, .int x1), (4, .int x4)] → W p l e rm_X3_goThrough s m args below meth c H locs 0 0 Z (F0 m 41 ls []) := by
    intro n_41
    induction n_41 with
    | zero => intro R_found R_ended R_cut R_parents R_places R_pieces R_wide R_sizes R_sums R_firstInBucket R_nextInBucket x1 x4 hw; exact False.elim hw
    | succ n_41 ih_41 =>
      intro R_found R_ended R_cut R_parents R_places R_pieces R_wide R_sizes R_sums R_firstInBucket R_nextInBucket x1 x4 hw H locs hP hD hS ls hl
      have hw : wf_X3_goThrough_41 K_kinds S_cells S_pieces S_fits S_fitsInLine Q (wq_X3_goThrough_41 K_kinds S_cells S_pieces S_fits S_fitsInLine Q n_41) R_found R_ended R_cut R_parents R_places R_pieces R_wide R_sizes R_sums R_firstInBucket R_nextInBucket x1 x4 := hw
      unfold wf_X3_goThrough_41 at hw
      refine lv_iload hx hb dX3_goThrough_41 (lv_at hl 2 rfl) ?_
      refine lv_bipush (v := (16 : Int32)) hx hb dX3_goThrough_43 kB_16 ?_
      refine lv_icmp_ge (tgt := 79) hx hb dX3_goThrough_45 (by decide) (fun c45 => ?_) (fun c45 => ?_)
      · have hw := hw.1 c45
        refine lv_iconst (v := (1 : Int32)) hx hb dX3_goThrough_79 kI_1 ?_
        rw [hZ]
        exact cx_retz (R_found, R_ended, R_cut, R_parents, R_places, R_pieces, R_wide, R_sizes, R_sums, R_firstInBucket, R_nextInBucket) hx hb hr hlocks rfl hw hP hS dX3_goThrough_80
      · have hw := hw.2 c45
        refine lv_aload_n hx hb dX3_goThrough_48 rfl (lv_at hl 0 rfl) ?_
        refine va_get (D := D) (ci := 3) (v := .ref aS) (C := RX3) (T := TX3) (N := 16) hx hb hts in_X3_goThrough_X3 hown hK hP 6 rfl rfl 5 (by decide) k_0 (fun _ h9 => h9) rfl dX3_goThrough_49 ?_
        refine va_get (D := D) (ci := 4) (v := .ref aS_fitsInLine) (C := RX4) (T := TX4) (N := 15) hx hb hts in_X3_goThrough_X4 hown hK hP 2 rfl rfl 5 (by decide) k_1 (fun _ h9 => h9) rfl dX3_goThrough_52 ?_
        refine lv_iload hx hb dX3_goThrough_55 (lv_at hl 2 rfl) ?_
        have h57 := hw.1
        have hw := hw.2
        refine va_iald hx hb hK hP 5 0 rfl rfl h57 dX3_goThrough_57 ?_
        refine lv_topi (fun v57 e57 => ?_)
        have hw := hw v57 e57
        refine lv_if_eq (tgt := 73) hx hb dX3_goThrough_58 (by decide) (fun c58 => ?_) (fun c58 => ?_)
        · have hw := hw.1 c58
          obtain ⟨v73, e73⟩ : ∃ y : Int32, y = x4 + (1 : Int32) := ⟨_, rfl⟩
          have hw := hw v73 e73
          refine lv_iinc (v := v73) (lv' := [(4, .int v73), (0, .ref aR), (1, .int x1)]) hx hb dX3_goThrough_73 hl (k := 2) rfl (by rw [e73, kI_1]) (by decide) rfl (fun ls hl => ?_)
          refine lv_goto (tgt := 41) hx hb dX3_goThrough_76 (by decide) ?_
          exact ih_41 R_found R_ended R_cut R_parents R_places R_pieces R_wide R_sizes R_sums R_firstInBucket R_nextInBucket x1 v73 hw H locs hP hD hS ls (lv_sub hl [1, 2, 0] rfl)
        · have hw := hw.2 c58
          refine lv_aload_n hx hb dX3_goThrough_61 rfl (lv_at hl 0 rfl) ?_
          refine lv_iload_n hx hb dX3_goThrough_62 rfl (lv_at hl 1 rfl) ?_
          refine lv_iload hx hb dX3_goThrough_63 (lv_at hl 2 rfl) ?_
          refine cx_goi (va_runV (As := [.int x1, .int x4]) (rest := []) ⟨hx, hb, hml, hown, hts⟩ (c_X3_goThroughLine l D cI cJ cZ cO tS tT H.size aK aK_strengths aK_kinds aK_marks aK_faces aK_bars aK_showing aK_showingRight aK_barring aS aS_cells aS_fits aS_fitsInLine aS_stale aS_staleCells aS_seen aS_queue aR aR_start aR_parents aR_places aR_pieces aR_wide aR_sizes aR_sums aR_firstInBucket aR_nextInBucket K_warm K_count K_seeds K_blocks K_rivals K_kinds S_pieces S_grown S_fitsInAll S_staleCount S_atLeast1 S_atLeast2 S_atLeast3 S_cells S_fits R_told R_found R_ended R_cut R_largest R_here R_parents R_places R_pieces R_wide R_sizes R_sums R_firstInBucket R_nextInBucket x1 x4 _ hw) (cwV 2 hts gX3_goThrough_X3_goThroughLine rfl rfl rfl pv_X3_goThroughLine ⟨Nat.le_of_ble_eq_true rfl, Nat.le_of_ble_eq_true rfl⟩) (cx_preV (wc := w_X3_goThroughLine cI cJ cZ cO aK aK_strengths aK_kinds aK_marks aK_faces aK_bars aK_showing aK_showingRight aK_barring aS aS_cells aS_fits aS_fitsInLine aS_stale aS_staleCells aS_seen aS_queue aR aR_start aR_parents aR_places aR_pieces aR_wide aR_sizes aR_sums aR_firstInBucket aR_nextInBucket K_warm K_count K_seeds K_blocks K_rivals K_kinds S_pieces S_grown S_fitsInAll S_staleCount S_atLeast1 S_atLeast2 S_atLeast3 S_cells S_fits R_told R_found R_ended R_cut R_largest R_here R_parents R_places R_pieces R_wide R_sizes R_sums R_firstInBucket R_nextInBucket) hE hK hP hD hS hA [0, 1, 2, 3, 4, 6, 7, 8, 9, 10, 11, 12, 13, 14] rfl rfl (va_recv hK hP (ci := 3) (q0 := 6) rfl rfl)) rfl rfl hl.1 rfl (lv_room (Nat.le_of_ble_eq_true rfl)) dX3_goThrough_65 ⟨Nat.le_of_ble_eq_true rfl, Nat.le_of_ble_eq_true rfl⟩) (fun (u : (Int32) × (Nat → Int32) × (Nat → Int32) × (Nat → Int32) × (Nat → Int32) × (Nat → Int32) × (Nat → Int64) × (Nat → Int32) × (Nat → Int32)) => (w_X3_goThrough cI cJ cZ cO aK aK_strengths aK_kinds aK_marks aK_faces aK_bars aK_showing aK_showingRight aK_barring aS aS_cells aS_fits aS_fitsInLine aS_stale aS_staleCells aS_seen aS_queue aR aR_start aR_parents aR_places aR_pieces aR_wide aR_sizes aR_sums aR_firstInBucket aR_nextInBucket K_warm K_count K_seeds K_blocks K_rivals K_kinds S_pieces S_grown S_fitsInAll S_staleCount S_atLeast1 S_atLeast2 S_atLeast3 S_cells S_fits S_fitsInLine R_told u.1 R_ended R_cut R_largest R_here u.2.1 u.2.2.1 u.2.2.2.1 u.2.2.2.2.1 u.2.2.2.2.2.1 u.2.2.2.2.2.2.1 u.2.2.2.2.2.2.2.1 u.2.2.2.2.2.2.2.2)) [0, 1, 2, 3, 4, 6, 7, 8, 9, 10, 11, 12, 13, 14] [5] (ads := [aK, aK_kinds, aS, aS_cells, aS_fits, aR, aR_parents, aR_places, aR_pieces, aR_wide, aR_sizes, aR_sums, aR_firstInBucket, aR_nextInBucket]) (wr := [(aS_fitsInLine, .inl (cI, 16, .inl S_fitsInLine))]) rfl rfl (fun u => rfl) (fun u => rfl) rfl (fun u => rfl) rfl (fun u => rfl) rfl hP hD hS hA (fun r65 u H locs hw hP hD hS => ?_)
          obtain ⟨R_found_65, R_parents_65, R_places_65, R_pieces_65, R_wide_65, R_sizes_65, R_sums_65, R_firstInBucket_65, R_nextInBucket_65⟩ := u
          try dsimp only at hw
          have hP : va_P D vwCl (w_X3_goThrough cI cJ cZ cO aK aK_strengths aK_kinds aK_marks aK_faces aK_bars aK_showing aK_showingRight aK_barring aS aS_cells aS_fits aS_fitsInLine aS_stale aS_staleCells aS_seen aS_queue aR aR_start aR_parents aR_places aR_pieces aR_wide aR_sizes aR_sums aR_firstInBucket aR_nextInBucket K_warm K_count K_seeds K_blocks K_rivals K_kinds S_pieces S_grown S_fitsInAll S_staleCount S_atLeast1 S_atLeast2 S_atLeast3 S_cells S_fits S_fitsInLine R_told R_found_65 R_ended R_cut R_largest R_here R_parents_65 R_places_65 R_pieces_65 R_wide_65 R_sizes_65 R_sums_65 R_firstInBucket_65 R_nextInBucket_65) H := hP
          have hD : va_D A (w_X3_goThrough cI cJ cZ cO aK aK_strengths aK_kinds aK_marks aK_faces aK_bars aK_showing aK_showingRight aK_barring aS aS_cells aS_fits aS_fitsInLine aS_stale aS_staleCells aS_seen aS_queue aR aR_start aR_parents aR_places aR_pieces aR_wide aR_sizes aR_sums aR_firstInBucket aR_nextInBucket K_warm K_count K_seeds K_blocks K_rivals K_kinds S_pieces S_grown S_fitsInAll S_staleCount S_atLeast1 S_atLeast2 S_atLeast3 S_cells S_fits S_fitsInLine R_told R_found_65 R_ended R_cut R_largest R_here R_parents_65 R_places_65 R_pieces_65 R_wide_65 R_sizes_65 R_sums_65 R_firstInBucket_65 R_nextInBucket_65) := hD
          refine lv_if_ne (tgt := 73) hx hb dX3_goThrough_68 (by decide) (fun c68 => ?_) (fun c68 => ?_)
          · have hw := hw.1 c68
            obtain ⟨v73, e73⟩ : ∃ y : Int32, y = x4 + (1 : Int32) := ⟨_, rfl⟩
            have hw := hw v73 e73
            refine lv_iinc (v := v73) (lv' := [(4, .int v73), (0, .ref aR), (1, .int x1)]) hx hb dX3_goThrough_73 hl (k := 2) rfl (by rw [e73, kI_1]) (by decide) rfl (fun ls hl => ?_)
            refine lv_goto (tgt := 41) hx hb dX3_goThrough_76 (by decide) ?_
            exact ih_41 R_found_65 R_ended R_cut R_parents_65 R_places_65 R_pieces_65 R_wide_65 R_sizes_65 R_sums_65 R_firstInBucket_65 R_nextInBucket_65 x1 v73 hw H locs hP hD hS ls (lv_sub hl [1, 2, 0] rfl)
          · have hw := hw.2 c68
            refine lv_iconst (v := (0 : Int32)) hx hb dX3_goThrough_71 kI_0 ?_
            rw [hZ]
            exact cx_retz (R_found_65, R_ended, R_cut, R_parents_65, R_places_65, R_pieces_65, R_wide_65, R_sizes_65, R_sums_65, R_firstInBucket_65, R_nextInBucket_65) hx hb hr hlocks rfl hw hP hS dX3_goThrough_72
  intro H locs hP hD hS ls hl
  unfold wp_X3_goThrough at hw
  refine lv_iload_n hx hb dX3_goThrough_0 rfl (lv_at hl 3 rfl) ?_
  refine lv_if_ne (tgt := 16) hx hb dX3_goThrough_1 (by decide) (fun c1 => ?_) (fun c1 => ?_)
  · have hw := hw.1 c1
    refine lv_aload_n hx hb dX3_goThrough_16 rfl (lv_at hl 0 rfl) ?_
    refine va_get (D := D) (ci := 3) (v := .ref aR_sizes) (C := RX3) (T := TX3) (N := 16) hx hb hts in_X3_goThrough_X3 hown hK hP 6 rfl rfl 11 (by decide) k_2 (fun _ h9 => h9) rfl dX3_goThrough_17 ?_
    refine lv_iload_n hx hb dX3_goThrough_20 rfl (lv_at hl 1 rfl) ?_
    have h21 := hw.1
    have hw := hw.2
    refine va_iald hx hb hK hP 11 0 rfl rfl h21 dX3_goThrough_21 ?_
    refine lv_topi (fun v21 e21 => ?_)
    have hw := hw v21 e21
    refine lv_iload_n hx hb dX3_goThrough_22 rfl (lv_at hl 2 rfl) ?_
    refine lv_icmp_lt (tgt := 38) hx hb dX3_goThrough_23 (by decide) (fun c23 => ?_) (fun c23 => ?_)
    · have hw := hw.1 c23
      refine lv_iconst (v := (0 : Int32)) hx hb dX3_goThrough_38 kI_0 ?_
      refine lv_istore (lv' := [(4, .int (0 : Int32)), (0, .ref aR), (1, .int p1), (2, .int p2), (3, .int p3)]) hx hb dX3_goThrough_39 hl (by decide) rfl (fun ls hl => ?_)
      obtain ⟨k, hw⟩ := hw
      exact b_41 k R_found R_ended R_cut R_parents R_places R_pieces R_wide R_sizes R_sums R_firstInBucket R_nextInBucket p1 (0 : Int32) hw H locs hP hD hS ls (lv_sub hl [1, 2, 0] rfl)
    · have hw := hw.2 c23
      refine lv_aload_n hx hb dX3_goThrough_26 rfl (lv_at hl 0 rfl) ?_
      refine lv_dup hx hb dX3_goThrough_27 rfl ?_
      refine va_get (D := D) (ci := 3) (v := .int R_cut) (C := RX3) (T := TX3) (N := 16) hx hb hts in_X3_goThrough_X3 hown hK hP 6 rfl rfl 3 (by decide) k_3 (fun _ h9 => h9) rfl dX3_goThrough_28 ?_
      refine lv_iconst (v := (1 : Int32)) hx hb dX3_goThrough_31 kI_1 ?_
      refine lv_iadd hx hb dX3_goThrough_32 ?_
      refine lv_topi (fun R_cut_33 e33 => ?_)
      have hw := hw R_cut_33 e33
      refine va_put (D := D) (ci := 3) (v := .int R_cut_33) (ty := .int) (C := RX3) (T := TX3) (N := 16) hx hb hts in_X3_goThrough_X3 tyX3 tyX3_ok nmX3 hown hK hP hD hS 6 rfl rfl 3 (by decide) k_3 (fun _ h9 => h9) rfl (tyX3_ok 3 (by decide)) rfl rfl (Nat.le_of_ble_eq_true rfl) dX3_goThrough_33 (fun H locs hP hD hS => ?_)
      have hP : va_P D vwCl (w_X3_goThrough cI cJ cZ cO aK aK_strengths aK_kinds aK_marks aK_faces aK_bars aK_showing aK_showingRight aK_barring aS aS_cells aS_fits aS_fitsInLine aS_stale aS_staleCells aS_seen aS_queue aR aR_start aR_parents aR_places aR_pieces aR_wide aR_sizes aR_sums aR_firstInBucket aR_nextInBucket K_warm K_count K_seeds K_blocks K_rivals K_kinds S_pieces S_grown S_fitsInAll S_staleCount S_atLeast1 S_atLeast2 S_atLeast3 S_cells S_fits S_fitsInLine R_told R_found R_ended R_cut_33 R_largest R_here R_parents R_places R_pieces R_wide R_sizes R_sums R_firstInBucket R_nextInBucket) H := hP
      have hD : va_D A (w_X3_goThrough cI cJ cZ cO aK aK_strengths aK_kinds aK_marks aK_faces aK_bars aK_showing aK_showingRight aK_barring aS aS_cells aS_fits aS_fitsInLine aS_stale aS_staleCells aS_seen aS_queue aR aR_start aR_parents aR_places aR_pieces aR_wide aR_sizes aR_sums aR_firstInBucket aR_nextInBucket K_warm K_count K_seeds K_blocks K_rivals K_kinds S_pieces S_grown S_fitsInAll S_staleCount S_atLeast1 S_atLeast2 S_atLeast3 S_cells S_fits S_fitsInLine R_told R_found R_ended R_cut_33 R_largest R_here R_parents R_places R_pieces R_wide R_sizes R_sums R_firstInBucket R_nextInBucket) := hD
      refine lv_iconst (v := (1 : Int32)) hx hb dX3_goThrough_36 kI_1 ?_
      rw [hZ]
      exact cx_retz (R_found, R_ended, R_cut_33, R_parents, R_places, R_pieces, R_wide, R_sizes, R_sums, R_firstInBucket, R_nextInBucket) hx hb hr hlocks rfl hw hP hS dX3_goThrough_37
  · have hw := hw.2 c1
    refine lv_aload_n hx hb dX3_goThrough_4 rfl (lv_at hl 0 rfl) ?_
    refine lv_dup hx hb dX3_goThrough_5 rfl ?_
    refine va_get (D := D) (ci := 3) (v := .int R_ended) (C := RX3) (T := TX3) (N := 16) hx hb hts in_X3_goThrough_X3 hown hK hP 6 rfl rfl 2 (by decide) k_4 (fun _ h9 => h9) rfl dX3_goThrough_6 ?_
    refine lv_iconst (v := (1 : Int32)) hx hb dX3_goThrough_9 kI_1 ?_
    refine lv_iadd hx hb dX3_goThrough_10 ?_
    refine lv_topi (fun R_ended_11 e11 => ?_)
    have hw := hw R_ended_11 e11
    refine va_put (D := D) (ci := 3) (v := .int R_ended_11) (ty := .int) (C := RX3) (T := TX3) (N := 16) hx hb hts in_X3_goThrough_X3 tyX3 tyX3_ok nmX3 hown hK hP hD hS 6 rfl rfl 2 (by decide) k_4 (fun _ h9 => h9) rfl (tyX3_ok 2 (by decide)) rfl rfl (Nat.le_of_ble_eq_true rfl) dX3_goThrough_11 (fun H locs hP hD hS => ?_)
    have hP : va_P D vwCl (w_X3_goThrough cI cJ cZ cO aK aK_strengths aK_kinds aK_marks aK_faces aK_bars aK_showing aK_showingRight aK_barring aS aS_cells aS_fits aS_fitsInLine aS_stale aS_staleCells aS_seen aS_queue aR aR_start aR_parents aR_places aR_pieces aR_wide aR_sizes aR_sums aR_firstInBucket aR_nextInBucket K_warm K_count K_seeds K_blocks K_rivals K_kinds S_pieces S_grown S_fitsInAll S_staleCount S_atLeast1 S_atLeast2 S_atLeast3 S_cells S_fits S_fitsInLine R_told R_found R_ended_11 R_cut R_largest R_here R_parents R_places R_pieces R_wide R_sizes R_sums R_firstInBucket R_nextInBucket) H := hP
    have hD : va_D A (w_X3_goThrough cI cJ cZ cO aK aK_strengths aK_kinds aK_marks aK_faces aK_bars aK_showing aK_showingRight aK_barring aS aS_cells aS_fits aS_fitsInLine aS_stale aS_staleCells aS_seen aS_queue aR aR_start aR_parents aR_places aR_pieces aR_wide aR_sizes aR_sums aR_firstInBucket aR_nextInBucket K_warm K_count K_seeds K_blocks K_rivals K_kinds S_pieces S_grown S_fitsInAll S_staleCount S_atLeast1 S_atLeast2 S_atLeast3 S_cells S_fits S_fitsInLine R_told R_found R_ended_11 R_cut R_largest R_here R_parents R_places R_pieces R_wide R_sizes R_sums R_firstInBucket R_nextInBucket) := hD
    refine lv_iconst (v := (1 : Int32)) hx hb dX3_goThrough_14 kI_1 ?_
    rw [hZ]
    exact cx_retz (R_found, R_ended_11, R_cut, R_parents, R_places, R_pieces, R_wide, R_sizes, R_sums, R_firstInBucket, R_nextInBucket) hx hb hr hlocks rfl hw hP hS dX3_goThrough_15
