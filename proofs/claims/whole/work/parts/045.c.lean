set_option maxRecDepth 100000 in
set_option maxHeartbeats 4000000 in
theorem c_X3_run (l : Launch) (D : va_G) (cI cJ cZ cO : ClassId) (tS tT : Nat) (sz : Nat) (aK aK_strengths aK_kinds aK_marks aK_faces aK_bars aK_showing aK_showingRight aK_barring aS aS_cells aS_fits aS_fitsInLine aS_stale aS_staleCells aS_seen aS_queue aR aR_start aR_parents aR_places aR_pieces aR_wide aR_sizes aR_sums aR_firstInBucket aR_nextInBucket : Nat) (K_warm : Int32) (K_count : Int32) (K_seeds : Int64) (K_blocks : Int64) (K_rivals : Int64) (K_strengths : Nat → Int32) (K_kinds : Nat → Int32) (K_faces : Nat → Int32) (K_bars : Nat → Int32) (K_showing : Nat → Int64) (K_showingRight : Nat → Int64) (K_barring : Nat → Int64) (S_pieces : Int32) (S_grown : Int32) (S_fitsInAll : Int32) (S_staleCount : Int32) (S_atLeast1 : Int64) (S_atLeast2 : Int64) (S_atLeast3 : Int64) (S_cells : Nat → Int32) (S_fits : Nat → Int64) (S_fitsInLine : Nat → Int32) (S_stale : Nat → Int32) (S_staleCells : Nat → Int32) (R_told : Int32) (R_found : Int32) (R_ended : Int32) (R_cut : Int32) (R_largest : Int32) (R_here : Int32) (R_start : Nat → Int32) (R_parents : Nat → Int32) (R_places : Nat → Int32) (R_pieces : Nat → Int32) (R_wide : Nat → Int32) (R_sizes : Nat → Int32) (R_sums : Nat → Int64) (R_firstInBucket : Nat → Int32) (R_nextInBucket : Nat → Int32) (p1 : Int32) (Q : Int32 → (Nat → Int32) → (Int32) → (Int32) → (Nat → Int64) → (Nat → Int32) → (Int32) → (Nat → Int32) → (Nat → Int32) → (Int32) → (Int64) → (Int64) → (Int64) → (Int32) → (Int32) → (Int32) → (Int32) → (Int32) → (Nat → Int32) → (Nat → Int32) → (Nat → Int32) → (Nat → Int32) → (Nat → Int32) → (Nat → Int32) → (Nat → Int64) → (Nat → Int32) → (Nat → Int32) → (Int32) → Prop) (hw : wp_X3_run K_warm K_strengths K_kinds K_faces K_bars K_showing K_showingRight K_barring K_seeds K_blocks S_cells S_pieces S_grown S_fits S_fitsInLine S_fitsInAll S_stale S_staleCells S_staleCount S_atLeast1 S_atLeast2 S_atLeast3 R_told R_found R_ended R_cut R_largest R_start R_parents R_places R_pieces R_wide R_sizes R_sums R_firstInBucket R_nextInBucket R_here p1 Q) : Met l yX3_run wsX3_run rm_X3_run (va_Pc [.ref aR, .int p1] (cx_B tS tT cI cJ cZ cO D sz (w_X3_run cI cJ cZ cO aK aK_strengths aK_kinds aK_marks aK_faces aK_bars aK_showing aK_showingRight aK_barring aS aS_cells aS_fits aS_fitsInLine aS_stale aS_staleCells aS_seen aS_queue aR aR_start aR_parents aR_places aR_pieces aR_wide aR_sizes aR_sums aR_firstInBucket aR_nextInBucket K_warm K_count K_seeds K_blocks K_rivals K_strengths K_kinds K_faces K_bars K_showing K_showingRight K_barring S_pieces S_grown S_fitsInAll S_staleCount S_atLeast1 S_atLeast2 S_atLeast3 S_cells S_fits S_fitsInLine S_stale S_staleCells R_told R_found R_ended R_cut R_largest R_here R_start R_parents R_places R_pieces R_wide R_sizes R_sums R_firstInBucket R_nextInBucket))) (va_Qi (fun (r : Int32) (u : (Nat → Int32) × (Int32) × (Int32) × (Nat → Int64) × (Nat → Int32) × (Int32) × (Nat → Int32) × (Nat → Int32) × (Int32) × (Int64) × (Int64) × (Int64) × (Int32) × (Int32) × (Int32) × (Int32) × (Int32) × (Nat → Int32) × (Nat → Int32) × (Nat → Int32) × (Nat → Int32) × (Nat → Int32) × (Nat → Int32) × (Nat → Int64) × (Nat → Int32) × (Nat → Int32) × (Int32)) => Q r u.1 u.2.1 u.2.2.1 u.2.2.2.1 u.2.2.2.2.1 u.2.2.2.2.2.1 u.2.2.2.2.2.2.1 u.2.2.2.2.2.2.2.1 u.2.2.2.2.2.2.2.2.1 u.2.2.2.2.2.2.2.2.2.1 u.2.2.2.2.2.2.2.2.2.2.1 u.2.2.2.2.2.2.2.2.2.2.2.1 u.2.2.2.2.2.2.2.2.2.2.2.2.1 u.2.2.2.2.2.2.2.2.2.2.2.2.2.1 u.2.2.2.2.2.2.2.2.2.2.2.2.2.2.1 u.2.2.2.2.2.2.2.2.2.2.2.2.2.2.2.1 u.2.2.2.2.2.2.2.2.2.2.2.2.2.2.2.2.1 u.2.2.2.2.2.2.2.2.2.2.2.2.2.2.2.2.2.1 u.2.2.2.2.2.2.2.2.2.2.2.2.2.2.2.2.2.2.1 u.2.2.2.2.2.2.2.2.2.2.2.2.2.2.2.2.2.2.2.1 u.2.2.2.2.2.2.2.2.2.2.2.2.2.2.2.2.2.2.2.2.1 u.2.2.2.2.2.2.2.2.2.2.2.2.2.2.2.2.2.2.2.2.2.1 u.2.2.2.2.2.2.2.2.2.2.2.2.2.2.2.2.2.2.2.2.2.2.1 u.2.2.2.2.2.2.2.2.2.2.2.2.2.2.2.2.2.2.2.2.2.2.2.1 u.2.2.2.2.2.2.2.2.2.2.2.2.2.2.2.2.2.2.2.2.2.2.2.2.1 u.2.2.2.2.2.2.2.2.2.2.2.2.2.2.2.2.2.2.2.2.2.2.2.2.2.1 u.2.2.2.2.2.2.2.2.2.2.2.2.2.2.2.2.2.2.2.2.2.2.2.2.2.2) (fun (u : (Nat → Int32) × (Int32) × (Int32) × (Nat → Int64) × (Nat → Int32) × (Int32) × (Nat → Int32) × (Nat → Int32) × (Int32) × (Int64) × (Int64) × (Int64) × (Int32) × (Int32) × (Int32) × (Int32) × (Int32) × (Nat → Int32) × (Nat → Int32) × (Nat → Int32) × (Nat → Int32) × (Nat → Int32) × (Nat → Int32) × (Nat → Int64) × (Nat → Int32) × (Nat → Int32) × (Int32)) t => va_P D vwCl (w_X3_run cI cJ cZ cO aK aK_strengths aK_kinds aK_marks aK_faces aK_bars aK_showing aK_showingRight aK_barring aS aS_cells aS_fits aS_fitsInLine aS_stale aS_staleCells aS_seen aS_queue aR aR_start aR_parents aR_places aR_pieces aR_wide aR_sizes aR_sums aR_firstInBucket aR_nextInBucket K_warm K_count K_seeds K_blocks K_rivals K_strengths K_kinds K_faces K_bars K_showing K_showingRight K_barring u.2.1 u.2.2.1 u.2.2.2.2.2.1 u.2.2.2.2.2.2.2.2.1 u.2.2.2.2.2.2.2.2.2.1 u.2.2.2.2.2.2.2.2.2.2.1 u.2.2.2.2.2.2.2.2.2.2.2.1 u.1 u.2.2.2.1 u.2.2.2.2.1 u.2.2.2.2.2.2.1 u.2.2.2.2.2.2.2.1 u.2.2.2.2.2.2.2.2.2.2.2.2.1 u.2.2.2.2.2.2.2.2.2.2.2.2.2.1 u.2.2.2.2.2.2.2.2.2.2.2.2.2.2.1 u.2.2.2.2.2.2.2.2.2.2.2.2.2.2.2.1 u.2.2.2.2.2.2.2.2.2.2.2.2.2.2.2.2.1 u.2.2.2.2.2.2.2.2.2.2.2.2.2.2.2.2.2.2.2.2.2.2.2.2.2.2 u.2.2.2.2.2.2.2.2.2.2.2.2.2.2.2.2.2.1 u.2.2.2.2.2.2.2.2.2.2.2.2.2.2.2.2.2.2.1 u.2.2.2.2.2.2.2.2.2.2.2.2.2.2.2.2.2.2.2.1 u.2.2.2.2.2.2.2.2.2.2.2.2.2.2.2.2.2.2.2.2.1 u.2.2.2.2.2.2.2.2.2.2.2.2.2.2.2.2.2.2.2.2.2.1 u.2.2.2.2.2.2.2.2.2.2.2.2.2.2.2.2.2.2.2.2.2.2.1 u.2.2.2.2.2.2.2.2.2.2.2.2.2.2.2.2.2.2.2.2.2.2.2.1 u.2.2.2.2.2.2.2.2.2.2.2.2.2.2.2.2.2.2.2.2.2.2.2.2.1 u.2.2.2.2.2.2.2.2.2.2.2.2.2.2.2.2.2.2.2.2.2.2.2.2.2.1) t.heap) (va_A (w_X3_run cI cJ cZ cO aK aK_strengths aK_kinds aK_marks aK_faces aK_bars aK_showing aK_showingRight aK_barring aS aS_cells aS_fits aS_fitsInLine aS_stale aS_staleCells aS_seen aS_queue aR aR_start aR_parents aR_places aR_pieces aR_wide aR_sizes aR_sums aR_firstInBucket aR_nextInBucket K_warm K_count K_seeds K_blocks K_rivals K_strengths K_kinds K_faces K_bars K_showing K_showingRight K_barring S_pieces S_grown S_fitsInAll S_staleCount S_atLeast1 S_atLeast2 S_atLeast3 S_cells S_fits S_fitsInLine S_stale S_staleCells R_told R_found R_ended R_cut R_largest R_here R_start R_parents R_places R_pieces R_wide R_sizes R_sums R_firstInBucket R_nextInBucket) sz)) 0 0 (va_A (w_X3_run cI cJ cZ cO aK aK_strengths aK_kinds aK_marks aK_faces aK_bars aK_showing aK_showingRight aK_barring aS aS_cells aS_fits aS_fitsInLine aS_stale aS_staleCells aS_seen aS_queue aR aR_start aR_parents aR_places aR_pieces aR_wide aR_sizes aR_sums aR_firstInBucket aR_nextInBucket K_warm K_count K_seeds K_blocks K_rivals K_strengths K_kinds K_faces K_bars K_showing K_showingRight K_barring S_pieces S_grown S_fitsInAll S_staleCount S_atLeast1 S_atLeast2 S_atLeast3 S_cells S_fits S_fitsInLine S_stale S_staleCells R_told R_found R_ended R_cut R_largest R_here R_start R_parents R_places R_pieces R_wide R_sizes R_sums R_firstInBucket R_nextInBucket) sz) := by
  refine cx_met (cc := cX3_run) (maxL := 4) (ret := (some .int)) (Qc := fun A => va_Qi (fun (r : Int32) (u : (Nat → Int32) × (Int32) × (Int32) × (Nat → Int64) × (Nat → Int32) × (Int32) × (Nat → Int32) × (Nat → Int32) × (Int32) × (Int64) × (Int64) × (Int64) × (Int32) × (Int32) × (Int32) × (Int32) × (Int32) × (Nat → Int32) × (Nat → Int32) × (Nat → Int32) × (Nat → Int32) × (Nat → Int32) × (Nat → Int32) × (Nat → Int64) × (Nat → Int32) × (Nat → Int32) × (Int32)) => Q r u.1 u.2.1 u.2.2.1 u.2.2.2.1 u.2.2.2.2.1 u.2.2.2.2.2.1 u.2.2.2.2.2.2.1 u.2.2.2.2.2.2.2.1 u.2.2.2.2.2.2.2.2.1 u.2.2.2.2.2.2.2.2.2.1 u.2.2.2.2.2.2.2.2.2.2.1 u.2.2.2.2.2.2.2.2.2.2.2.1 u.2.2.2.2.2.2.2.2.2.2.2.2.1 u.2.2.2.2.2.2.2.2.2.2.2.2.2.1 u.2.2.2.2.2.2.2.2.2.2.2.2.2.2.1 u.2.2.2.2.2.2.2.2.2.2.2.2.2.2.2.1 u.2.2.2.2.2.2.2.2.2.2.2.2.2.2.2.2.1 u.2.2.2.2.2.2.2.2.2.2.2.2.2.2.2.2.2.1 u.2.2.2.2.2.2.2.2.2.2.2.2.2.2.2.2.2.2.1 u.2.2.2.2.2.2.2.2.2.2.2.2.2.2.2.2.2.2.2.1 u.2.2.2.2.2.2.2.2.2.2.2.2.2.2.2.2.2.2.2.2.1 u.2.2.2.2.2.2.2.2.2.2.2.2.2.2.2.2.2.2.2.2.2.1 u.2.2.2.2.2.2.2.2.2.2.2.2.2.2.2.2.2.2.2.2.2.2.1 u.2.2.2.2.2.2.2.2.2.2.2.2.2.2.2.2.2.2.2.2.2.2.2.1 u.2.2.2.2.2.2.2.2.2.2.2.2.2.2.2.2.2.2.2.2.2.2.2.2.1 u.2.2.2.2.2.2.2.2.2.2.2.2.2.2.2.2.2.2.2.2.2.2.2.2.2.1 u.2.2.2.2.2.2.2.2.2.2.2.2.2.2.2.2.2.2.2.2.2.2.2.2.2.2) (fun (u : (Nat → Int32) × (Int32) × (Int32) × (Nat → Int64) × (Nat → Int32) × (Int32) × (Nat → Int32) × (Nat → Int32) × (Int32) × (Int64) × (Int64) × (Int64) × (Int32) × (Int32) × (Int32) × (Int32) × (Int32) × (Nat → Int32) × (Nat → Int32) × (Nat → Int32) × (Nat → Int32) × (Nat → Int32) × (Nat → Int32) × (Nat → Int64) × (Nat → Int32) × (Nat → Int32) × (Int32)) t => va_P D vwCl (w_X3_run cI cJ cZ cO aK aK_strengths aK_kinds aK_marks aK_faces aK_bars aK_showing aK_showingRight aK_barring aS aS_cells aS_fits aS_fitsInLine aS_stale aS_staleCells aS_seen aS_queue aR aR_start aR_parents aR_places aR_pieces aR_wide aR_sizes aR_sums aR_firstInBucket aR_nextInBucket K_warm K_count K_seeds K_blocks K_rivals K_strengths K_kinds K_faces K_bars K_showing K_showingRight K_barring u.2.1 u.2.2.1 u.2.2.2.2.2.1 u.2.2.2.2.2.2.2.2.1 u.2.2.2.2.2.2.2.2.2.1 u.2.2.2.2.2.2.2.2.2.2.1 u.2.2.2.2.2.2.2.2.2.2.2.1 u.1 u.2.2.2.1 u.2.2.2.2.1 u.2.2.2.2.2.2.1 u.2.2.2.2.2.2.2.1 u.2.2.2.2.2.2.2.2.2.2.2.2.1 u.2.2.2.2.2.2.2.2.2.2.2.2.2.1 u.2.2.2.2.2.2.2.2.2.2.2.2.2.2.1 u.2.2.2.2.2.2.2.2.2.2.2.2.2.2.2.1 u.2.2.2.2.2.2.2.2.2.2.2.2.2.2.2.2.1 u.2.2.2.2.2.2.2.2.2.2.2.2.2.2.2.2.2.2.2.2.2.2.2.2.2.2 u.2.2.2.2.2.2.2.2.2.2.2.2.2.2.2.2.2.1 u.2.2.2.2.2.2.2.2.2.2.2.2.2.2.2.2.2.2.1 u.2.2.2.2.2.2.2.2.2.2.2.2.2.2.2.2.2.2.2.1 u.2.2.2.2.2.2.2.2.2.2.2.2.2.2.2.2.2.2.2.2.1 u.2.2.2.2.2.2.2.2.2.2.2.2.2.2.2.2.2.2.2.2.2.1 u.2.2.2.2.2.2.2.2.2.2.2.2.2.2.2.2.2.2.2.2.2.2.1 u.2.2.2.2.2.2.2.2.2.2.2.2.2.2.2.2.2.2.2.2.2.2.2.1 u.2.2.2.2.2.2.2.2.2.2.2.2.2.2.2.2.2.2.2.2.2.2.2.2.1 u.2.2.2.2.2.2.2.2.2.2.2.2.2.2.2.2.2.2.2.2.2.2.2.2.2.1) t.heap) A) (lv := [(0, .ref aR), (1, .int p1)]) (by decide) rfl (Nat.le_of_ble_eq_true rfl) rfl ?_
  intro p e s m args below meth c A Z hx hb hr hlocks hts hown hml hE hK hA hZ
  have hown : s.vm.findClass RX3 = some m.cls := hown
  have k_0 := hts (.fieldLink RX3 39 "GrowingTiles$Search" "sizes" "[I") (List.mem_of_getElem? (i := 3) (by decide +kernel))
  have k_1 := hts (.fieldLink RX3 19 "GrowingTiles$Search" "found" "I") (List.mem_of_getElem? (i := 1) (by decide +kernel))
  have k_2 := hts (.fieldLink RX3 71 "GrowingTiles$Search" "largest" "I") (List.mem_of_getElem? (i := 4) (by decide +kernel))
  have k_3 := hts (.fieldLink RX3 15 "GrowingTiles$Search" "told" "I") (List.mem_of_getElem? (i := 5) (by decide +kernel))
  have k_4 := hts (.fieldLink RX3 9 "GrowingTiles$Search" "sheet" "LGrowingTiles$Sheet;") (List.mem_of_getElem? (i := 2) (by decide +kernel))
  have b_60 : ∀ (S_cells : Nat → Int32) (S_pieces : Int32) (S_grown : Int32) (S_fits : Nat → Int64) (S_fitsInLine : Nat → Int32) (S_fitsInAll : Int32) (S_stale : Nat → Int32) (S_staleCells : Nat → Int32) (S_staleCount : Int32) (S_atLeast1 : Int64) (S_atLeast2 : Int64) (S_atLeast3 : Int64) (R_told : Int32) (R_found : Int32) (R_ended : Int32) (R_cut : Int32) (R_largest : Int32) (R_start : Nat → Int32) (R_parents : Nat → Int32) (R_places : Nat → Int32) (R_pieces : Nat → Int32) (R_wide : Nat → Int32) (R_sizes : Nat → Int32) (R_sums : Nat → Int64) (R_firstInBucket : Nat → Int32) (R_nextInBucket : Nat → Int32) (R_here : Int32) (x2 : Int32), wq_X3_run_60 K_warm K_strengths K_kinds K_faces K_bars K_showing K_showingRight K_barring K_seeds K_blocks Q S_cells S_pieces S_grown S_fits S_fitsInLine S_fitsInAll S_stale S_staleCells S_staleCount S_atLeast1 S_atLeast2 S_atLeast3 R_told R_found R_ended R_cut R_largest R_start R_parents R_places R_pieces R_wide R_sizes R_sums R_firstInBucket R_nextInBucket R_here x2 → ∀ (H : Heap) (locs : List Loc), va_P D vwCl (w_X3_run cI cJ cZ cO aK aK_strengths aK_kinds aK_marks aK_faces aK_bars aK_showing aK_showingRight aK_barring aS aS_cells aS_fits aS_fitsInLine aS_stale aS_staleCells aS_seen aS_queue aR aR_start aR_parents aR_places aR_pieces aR_wide aR_sizes aR_sums aR_firstInBucket aR_nextInBucket K_warm K_count K_seeds K_blocks K_rivals K_strengths K_kinds K_faces K_bars K_showing K_showingRight K_barring S_pieces S_grown S_fitsInAll S_staleCount S_atLeast1 S_atLeast2 S_atLeast3 S_cells S_fits S_fitsInLine S_stale S_staleCells R_told R_found R_ended R_cut R_largest R_here R_start R_parents R_places R_pieces R_wide R_sizes R_sums R_firstInBucket R_nextInBucket) H → va_D A (w_X3_run cI cJ cZ cO aK aK_strengths aK_kinds aK_marks aK_faces aK_bars aK_showing aK_showingRight aK_barring aS aS_cells aS_fits aS_fitsInLine aS_stale aS_staleCells aS_seen aS_queue aR aR_start aR_parents aR_places aR_pieces aR_wide aR_sizes aR_sums aR_firstInBucket aR_nextInBucket K_warm K_count K_seeds K_blocks K_rivals K_strengths K_kinds K_faces K_bars K_showing K_showingRight K_barring S_pieces S_grown S_fitsInAll S_staleCount S_atLeast1 S_atLeast2 S_atLeast3 S_cells S_fits S_fitsInLine S_stale S_staleCells R_told R_found R_ended R_cut R_largest R_here R_start R_parents R_places R_pieces R_wide R_sizes R_sums R_firstInBucket R_nextInBucket) → va_S A s.heap H locs → ∀ ls : Array Slot, lv_has ls 4 [(0, .ref aR), (2, .int x2)] → W p l e rm_X3_run s m args below meth c H locs 0 0 Z (F0 m 60 ls []) := by
    intro S_cells S_pieces S_grown S_fits S_fitsInLine S_fitsInAll S_stale S_staleCells S_staleCount S_atLeast1 S_atLeast2 S_atLeast3 R_told R_found R_ended R_cut R_largest R_start R_parents R_places R_pieces R_wide R_sizes R_sums R_firstInBucket R_nextInBucket R_here x2 hw H locs hP hD hS ls hl
    unfold wq_X3_run_60 at hw
    refine lv_aload_n hx hb dX3_run_60 rfl (lv_at hl 0 rfl) ?_
    refine lv_iconst (v := (0 : Int32)) hx hb dX3_run_61 kI_0 ?_
    refine cx_gov (va_runV (As := [.int (0 : Int32)]) (rest := []) ⟨hx, hb, hml, hown, hts⟩ (c_X3_bringSheetTo l D cI cJ cZ cO tS tT H.size aK aK_strengths aK_kinds aK_marks aK_faces aK_bars aK_showing aK_showingRight aK_barring aS aS_cells aS_fits aS_fitsInLine aS_stale aS_staleCells aS_seen aS_queue aR aR_start aR_parents aR_places aR_pieces aR_wide aR_sizes aR_sums aR_firstInBucket aR_nextInBucket K_warm K_count K_seeds K_blocks K_rivals K_kinds S_pieces S_grown S_fitsInAll S_staleCount S_atLeast1 S_atLeast2 S_atLeast3 S_cells S_stale S_staleCells R_told R_found R_ended R_cut R_largest R_here R_parents R_places R_pieces (0 : Int32) _ hw) (cwV 1 hts gX3_run_X3_bringSheetTo rfl rfl rfl pv_X3_bringSheetTo ⟨Nat.le_of_ble_eq_true rfl, Nat.le_of_ble_eq_true rfl⟩) (cx_preV (wc := w_X3_bringSheetTo cI cJ cZ cO aK aK_strengths aK_kinds aK_marks aK_faces aK_bars aK_showing aK_showingRight aK_barring aS aS_cells aS_fits aS_fitsInLine aS_stale aS_staleCells aS_seen aS_queue aR aR_start aR_parents aR_places aR_pieces aR_wide aR_sizes aR_sums aR_firstInBucket aR_nextInBucket K_warm K_count K_seeds K_blocks K_rivals K_kinds S_pieces S_grown S_fitsInAll S_staleCount S_atLeast1 S_atLeast2 S_atLeast3 S_cells S_stale S_staleCells R_told R_found R_ended R_cut R_largest R_here R_parents R_places R_pieces) hE hK hP hD hS hA [0, 2, 8, 9, 12, 13, 14, 16, 17, 18] rfl rfl (va_recv hK hP (ci := 3) (q0 := 14) rfl rfl)) rfl rfl hl.1 rfl (lv_room (Nat.le_of_ble_eq_true rfl)) dX3_run_62 ⟨Nat.le_of_ble_eq_true rfl, Nat.le_of_ble_eq_true rfl⟩) (fun (u : (Nat → Int32) × (Int32) × (Int32) × (Nat → Int32) × (Nat → Int32) × (Int32) × (Int32)) => (w_X3_run cI cJ cZ cO aK aK_strengths aK_kinds aK_marks aK_faces aK_bars aK_showing aK_showingRight aK_barring aS aS_cells aS_fits aS_fitsInLine aS_stale aS_staleCells aS_seen aS_queue aR aR_start aR_parents aR_places aR_pieces aR_wide aR_sizes aR_sums aR_firstInBucket aR_nextInBucket K_warm K_count K_seeds K_blocks K_rivals K_strengths K_kinds K_faces K_bars K_showing K_showingRight K_barring u.2.1 u.2.2.1 S_fitsInAll u.2.2.2.2.2.1 S_atLeast1 S_atLeast2 S_atLeast3 u.1 S_fits S_fitsInLine u.2.2.2.1 u.2.2.2.2.1 R_told R_found R_ended R_cut R_largest u.2.2.2.2.2.2 R_start R_parents R_places R_pieces R_wide R_sizes R_sums R_firstInBucket R_nextInBucket)) [0, 2, 8, 9, 12, 13, 14, 16, 17, 18] [1, 3, 4, 5, 6, 7, 10, 11, 15, 19, 20, 21, 22, 23] (ads := [aK, aK_kinds, aS, aS_cells, aS_stale, aS_staleCells, aR, aR_parents, aR_places, aR_pieces]) (wr := [(aK_strengths, .inl (cI, 51, .inl K_strengths)), (aK_faces, .inl (cI, 512, .inl K_faces)), (aK_bars, .inl (cI, 128, .inl K_bars)), (aK_showing, .inl (cJ, 204, .inr (.inl K_showing))), (aK_showingRight, .inl (cJ, 204, .inr (.inl K_showingRight))), (aK_barring, .inl (cJ, 4, .inr (.inl K_barring))), (aS_fits, .inl (cJ, 324, .inr (.inl S_fits))), (aS_fitsInLine, .inl (cI, 16, .inl S_fitsInLine)), (aR_start, .inl (cI, 324, .inl R_start)), (aR_wide, .inl (cZ, 300, .inl R_wide)), (aR_sizes, .inl (cI, 300, .inl R_sizes)), (aR_sums, .inl (cJ, 300, .inr (.inl R_sums))), (aR_firstInBucket, .inl (cI, 512, .inl R_firstInBucket)), (aR_nextInBucket, .inl (cI, 300, .inl R_nextInBucket))]) rfl rfl (fun u => rfl) (fun u => rfl) rfl (fun u => rfl) rfl (fun u => rfl) rfl hP hD hS hA (fun u H locs hw hP hD hS => ?_)
    obtain ⟨S_cells_62, S_pieces_62, S_grown_62, S_stale_62, S_staleCells_62, S_staleCount_62, R_here_62⟩ := u
    try dsimp only at hw
    have hP : va_P D vwCl (w_X3_run cI cJ cZ cO aK aK_strengths aK_kinds aK_marks aK_faces aK_bars aK_showing aK_showingRight aK_barring aS aS_cells aS_fits aS_fitsInLine aS_stale aS_staleCells aS_seen aS_queue aR aR_start aR_parents aR_places aR_pieces aR_wide aR_sizes aR_sums aR_firstInBucket aR_nextInBucket K_warm K_count K_seeds K_blocks K_rivals K_strengths K_kinds K_faces K_bars K_showing K_showingRight K_barring S_pieces_62 S_grown_62 S_fitsInAll S_staleCount_62 S_atLeast1 S_atLeast2 S_atLeast3 S_cells_62 S_fits S_fitsInLine S_stale_62 S_staleCells_62 R_told R_found R_ended R_cut R_largest R_here_62 R_start R_parents R_places R_pieces R_wide R_sizes R_sums R_firstInBucket R_nextInBucket) H := hP
    have hD : va_D A (w_X3_run cI cJ cZ cO aK aK_strengths aK_kinds aK_marks aK_faces aK_bars aK_showing aK_showingRight aK_barring aS aS_cells aS_fits aS_fitsInLine aS_stale aS_staleCells aS_seen aS_queue aR aR_start aR_parents aR_places aR_pieces aR_wide aR_sizes aR_sums aR_firstInBucket aR_nextInBucket K_warm K_count K_seeds K_blocks K_rivals K_strengths K_kinds K_faces K_bars K_showing K_showingRight K_barring S_pieces_62 S_grown_62 S_fitsInAll S_staleCount_62 S_atLeast1 S_atLeast2 S_atLeast3 S_cells_62 S_fits S_fitsInLine S_stale_62 S_staleCells_62 R_told R_found R_ended R_cut R_largest R_here_62 R_start R_parents R_places R_pieces R_wide R_sizes R_sums R_firstInBucket R_nextInBucket) := hD
    refine lv_aload_n hx hb dX3_run_65 rfl (lv_at hl 0 rfl) ?_
    refine lv_aload_n hx hb dX3_run_66 rfl (lv_at hl 0 rfl) ?_
    refine va_get (D := D) (ci := 3) (v := .ref aR_sizes) (C := RX3) (T := TX3) (N := 16) hx hb hts in_X3_run_X3 hown hK hP 14 rfl rfl 11 (by decide) k_0 (fun _ h9 => h9) rfl dX3_run_67 ?_
    refine lv_aload_n hx hb dX3_run_70 rfl (lv_at hl 0 rfl) ?_
    refine va_get (D := D) (ci := 3) (v := .int R_found) (C := RX3) (T := TX3) (N := 16) hx hb hts in_X3_run_X3 hown hK hP 14 rfl rfl 1 (by decide) k_1 (fun _ h9 => h9) rfl dX3_run_71 ?_
    refine lv_iconst (v := (1 : Int32)) hx hb dX3_run_74 kI_1 ?_
    refine lv_isub hx hb dX3_run_75 ?_
    have h76 := hw.1
    have hw := hw.2
    refine va_iald hx hb hK hP 20 0 rfl rfl h76 dX3_run_76 ?_
    refine lv_topi (fun v76 e76 => ?_)
    have hw := hw v76 e76
    refine va_put (D := D) (ci := 3) (v := .int v76) (ty := .int) (C := RX3) (T := TX3) (N := 16) hx hb hts in_X3_run_X3 tyX3 tyX3_ok nmX3 hown hK hP hD hS 14 rfl rfl 4 (by decide) k_2 (fun _ h9 => h9) rfl (tyX3_ok 4 (by decide)) rfl rfl (Nat.le_of_ble_eq_true rfl) dX3_run_77 (fun H locs hP hD hS => ?_)
    have hP : va_P D vwCl (w_X3_run cI cJ cZ cO aK aK_strengths aK_kinds aK_marks aK_faces aK_bars aK_showing aK_showingRight aK_barring aS aS_cells aS_fits aS_fitsInLine aS_stale aS_staleCells aS_seen aS_queue aR aR_start aR_parents aR_places aR_pieces aR_wide aR_sizes aR_sums aR_firstInBucket aR_nextInBucket K_warm K_count K_seeds K_blocks K_rivals K_strengths K_kinds K_faces K_bars K_showing K_showingRight K_barring S_pieces_62 S_grown_62 S_fitsInAll S_staleCount_62 S_atLeast1 S_atLeast2 S_atLeast3 S_cells_62 S_fits S_fitsInLine S_stale_62 S_staleCells_62 R_told R_found R_ended R_cut v76 R_here_62 R_start R_parents R_places R_pieces R_wide R_sizes R_sums R_firstInBucket R_nextInBucket) H := hP
    have hD : va_D A (w_X3_run cI cJ cZ cO aK aK_strengths aK_kinds aK_marks aK_faces aK_bars aK_showing aK_showingRight aK_barring aS aS_cells aS_fits aS_fitsInLine aS_stale aS_staleCells aS_seen aS_queue aR aR_start aR_parents aR_places aR_pieces aR_wide aR_sizes aR_sums aR_firstInBucket aR_nextInBucket K_warm K_count K_seeds K_blocks K_rivals K_strengths K_kinds K_faces K_bars K_showing K_showingRight K_barring S_pieces_62 S_grown_62 S_fitsInAll S_staleCount_62 S_atLeast1 S_atLeast2 S_atLeast3 S_cells_62 S_fits S_fitsInLine S_stale_62 S_staleCells_62 R_told R_found R_ended R_cut v76 R_here_62 R_start R_parents R_places R_pieces R_wide R_sizes R_sums R_firstInBucket R_nextInBucket) := hD
    refine lv_aload_n hx hb dX3_run_80 rfl (lv_at hl 0 rfl) ?_
    refine lv_dup hx hb dX3_run_81 rfl ?_
    refine va_get (D := D) (ci := 3) (v := .int R_told) (C := RX3) (T := TX3) (N := 16) hx hb hts in_X3_run_X3 hown hK hP 14 rfl rfl 0 (by decide) k_3 (fun _ h9 => h9) rfl dX3_run_82 ?_
    refine lv_iconst (v := (1 : Int32)) hx hb dX3_run_85 kI_1 ?_
    refine lv_iadd hx hb dX3_run_86 ?_
    refine lv_topi (fun R_told_87 e87 => ?_)
    have hw := hw R_told_87 e87
    refine va_put (D := D) (ci := 3) (v := .int R_told_87) (ty := .int) (C := RX3) (T := TX3) (N := 16) hx hb hts in_X3_run_X3 tyX3 tyX3_ok nmX3 hown hK hP hD hS 14 rfl rfl 0 (by decide) k_3 (fun _ h9 => h9) rfl (tyX3_ok 0 (by decide)) rfl rfl (Nat.le_of_ble_eq_true rfl) dX3_run_87 (fun H locs hP hD hS => ?_)
    have hP : va_P D vwCl (w_X3_run cI cJ cZ cO aK aK_strengths aK_kinds aK_marks aK_faces aK_bars aK_showing aK_showingRight aK_barring aS aS_cells aS_fits aS_fitsInLine aS_stale aS_staleCells aS_seen aS_queue aR aR_start aR_parents aR_places aR_pieces aR_wide aR_sizes aR_sums aR_firstInBucket aR_nextInBucket K_warm K_count K_seeds K_blocks K_rivals K_strengths K_kinds K_faces K_bars K_showing K_showingRight K_barring S_pieces_62 S_grown_62 S_fitsInAll S_staleCount_62 S_atLeast1 S_atLeast2 S_atLeast3 S_cells_62 S_fits S_fitsInLine S_stale_62 S_staleCells_62 R_told_87 R_found R_ended R_cut v76 R_here_62 R_start R_parents R_places R_pieces R_wide R_sizes R_sums R_firstInBucket R_nextInBucket) H := hP
    have hD : va_D A (w_X3_run cI cJ cZ cO aK aK_strengths aK_kinds aK_marks aK_faces aK_bars aK_showing aK_showingRight aK_barring aS aS_cells aS_fits aS_fitsInLine aS_stale aS_staleCells aS_seen aS_queue aR aR_start aR_parents aR_places aR_pieces aR_wide aR_sizes aR_sums aR_firstInBucket aR_nextInBucket K_warm K_count K_seeds K_blocks K_rivals K_strengths K_kinds K_faces K_bars K_showing K_showingRight K_barring S_pieces_62 S_grown_62 S_fitsInAll S_staleCount_62 S_atLeast1 S_atLeast2 S_atLeast3 S_cells_62 S_fits S_fitsInLine S_stale_62 S_staleCells_62 R_told_87 R_found R_ended R_cut v76 R_here_62 R_start R_parents R_places R_pieces R_wide R_sizes R_sums R_firstInBucket R_nextInBucket) := hD
    refine lv_iload_n hx hb dX3_run_90 rfl (lv_at hl 1 rfl) ?_
    refine lv_if_eq (tgt := 99) hx hb dX3_run_91 (by decide) (fun c91 => ?_) (fun c91 => ?_)
    · have hw := hw.1 c91
      refine lv_aload_n hx hb dX3_run_99 rfl (lv_at hl 0 rfl) ?_
      refine va_get (D := D) (ci := 3) (v := .int R_found) (C := RX3) (T := TX3) (N := 16) hx hb hts in_X3_run_X3 hown hK hP 14 rfl rfl 1 (by decide) k_1 (fun _ h9 => h9) rfl dX3_run_100 ?_
      rw [hZ]
      exact cx_reti (S_cells_62, S_pieces_62, S_grown_62, S_fits, S_fitsInLine, S_fitsInAll, S_stale_62, S_staleCells_62, S_staleCount_62, S_atLeast1, S_atLeast2, S_atLeast3, R_told_87, R_found, R_ended, R_cut, v76, R_start, R_parents, R_places, R_pieces, R_wide, R_sizes, R_sums, R_firstInBucket, R_nextInBucket, R_here_62) hx hb hr hlocks hw hP hS dX3_run_103
    · have hw := hw.2 c91
      refine lv_bipush (v := (-2 : Int32)) hx hb dX3_run_94 kB_m2 ?_
      refine lv_goto (tgt := 103) hx hb dX3_run_96 (by decide) ?_
      rw [hZ]
      exact cx_reti (S_cells_62, S_pieces_62, S_grown_62, S_fits, S_fitsInLine, S_fitsInAll, S_stale_62, S_staleCells_62, S_staleCount_62, S_atLeast1, S_atLeast2, S_atLeast3, R_told_87, R_found, R_ended, R_cut, v76, R_start, R_parents, R_places, R_pieces, R_wide, R_sizes, R_sums, R_firstInBucket, R_nextInBucket, R_here_62) hx hb hr hlocks hw hP hS dX3_run_103
  have b_8 : ∀ n_8 : Nat, ∀ (S_cells : Nat → Int32) (S_pieces : Int32) (S_grown : Int32) (S_fits : Nat → Int64) (S_fitsInLine : Nat → Int32) (S_fitsInAll : Int32) (S_stale : Nat → Int32) (S_staleCells : Nat → Int32) (S_staleCount : Int32) (S_atLeast1 : Int64) (S_atLeast2 : Int64) (S_atLeast3 : Int64) (R_told : Int32) (R_found : Int32) (R_ended : Int32) (R_cut : Int32) (R_largest : Int32) (R_start : Nat → Int32) (R_parents : Nat → Int32) (R_places : Nat → Int32) (R_pieces : Nat → Int32) (R_wide : Nat → Int32) (R_sizes : Nat → Int32) (R_sums : Nat → Int64) (R_firstInBucket : Nat → Int32) (R_nextInBucket : Nat → Int32) (R_here : Int32) (x1 : Int32) (x2 : Int32) (x3 : Int32), wq_X3_run_8 K_warm K_strengths K_kinds K_faces K_bars K_showing K_showingRight K_barring K_seeds K_blocks Q n_8 S_cells S_pieces S_grown S_fits S_fitsInLine S_fitsInAll S_stale S_staleCells S_staleCount S_atLeast1 S_atLeast2 S_atLeast3 R_told R_found R_ended R_cut R_largest R_start R_parents R_places R_pieces R_wide R_sizes R_sums R_firstInBucket R_nextInBucket R_here x1 x2 x3 → ∀ (H : Heap) (locs : List Loc), va_P D vwCl (w_X3_run cI cJ cZ cO aK aK_strengths aK_kinds aK_marks aK_faces aK_bars aK_showing aK_showingRight aK_barring aS aS_cells aS_fits aS_fitsInLine aS_stale aS_staleCells aS_seen aS_queue aR aR_start aR_parents aR_places aR_pieces aR_wide aR_sizes aR_sums aR_firstInBucket aR_nextInBucket K_warm K_count K_seeds K_blocks K_rivals K_strengths K_kinds K_faces K_bars K_showing K_showingRight K_barring S_pieces S_grown S_fitsInAll S_staleCount S_atLeast1 S_atLeast2 S_atLeast3 S_cells S_fits S_fitsInLine S_stale S_staleCells R_told R_found R_ended R_cut R_largest R_here R_start R_parents R_places R_pieces R_wide R_sizes R_sums R_firstInBucket R_nextInBucket) H → va_D A (w_X3_run cI cJ cZ cO aK aK_strengths aK_kinds aK_marks aK_faces aK_bars aK_showing aK_showingRight aK_barring aS aS_cells aS_fits aS_fitsInLine aS_stale aS_staleCells aS_seen aS_queue aR aR_start aR_parents aR_places aR_pieces aR_wide aR_sizes aR_sums aR_firstInBucket aR_nextInBucket K_warm K_count K_seeds K_blocks K_rivals K_strengths K_kinds K_faces K_bars K_showing K_showingRight K_barring S_pieces S_grown S_fitsInAll S_staleCount S_atLeast1 S_atLeast2 S_atLeast3 S_cells S_fits S_fitsInLine S_stale S_staleCells R_told R_found R_ended R_cut R_largest R_here R_start R_parents R_places R_pieces R_wide R_sizes R_sums R_firstInBucket R_nextInBucket) → va_S A s.heap H locs → ∀ ls : Array Slot, lv_has ls 4 [(0, .ref aR), (1, .int x1), (2, .int x2), (3, .int x3)] → W p l e rm_X3_run s m args below meth c H locs 0 0 Z (F0 m 8 ls []) := by
    intro n_8
    induction n_8 with
    | zero => intro S_cells S_pieces S_grown S_fits S_fitsInLine S_fitsInAll S_stale S_staleCells S_staleCount S_atLeast1 S_atLeast2 S_atLeast3 R_told R_found R_ended R_cut R_largest R_start R_parents R_places R_pieces R_wide R_sizes R_sums R_firstInBucket R_nextInBucket R_here x1 x2 x3 hw; exact False.elim hw
    | succ n_8 ih_8 =>
      intro S_cells S_pieces S_grown S_fits S_fitsInLine S_fitsInAll S_stale S_staleCells S_staleCount S_atLeast1 S_atLeast2 S_atLeast3 R_told R_found R_ended R_cut R_largest R_start R_parents R_places R_pieces R_wide R_sizes R_sums R_firstInBucket R_nextInBucket R_here x1 x2 x3 hw H locs hP hD hS ls hl
      have hw : wf_X3_run_8 K_warm K_strengths K_kinds K_faces K_bars K_showing K_showingRight K_barring K_seeds K_blocks Q (wq_X3_run_8 K_warm K_strengths K_kinds K_faces K_bars K_showing K_showingRight K_barring K_seeds K_blocks Q n_8) S_cells S_pieces S_grown S_fits S_fitsInLine S_fitsInAll S_stale S_staleCells S_staleCount S_atLeast1 S_atLeast2 S_atLeast3 R_told R_found R_ended R_cut R_largest R_start R_parents R_places R_pieces R_wide R_sizes R_sums R_firstInBucket R_nextInBucket R_here x1 x2 x3 := hw
      unfold wf_X3_run_8 at hw
      refine lv_iload_n hx hb dX3_run_8 rfl (lv_at hl 3 rfl) ?_
      refine lv_sipush (v := (300 : Int32)) hx hb dX3_run_9 kS_300 ?_
      refine lv_icmp_ge (tgt := 60) hx hb dX3_run_12 (by decide) (fun c12 => ?_) (fun c12 => ?_)
      · have hw := hw.1 c12
        exact b_60 S_cells S_pieces S_grown S_fits S_fitsInLine S_fitsInAll S_stale S_staleCells S_staleCount S_atLeast1 S_atLeast2 S_atLeast3 R_told R_found R_ended R_cut R_largest R_start R_parents R_places R_pieces R_wide R_sizes R_sums R_firstInBucket R_nextInBucket R_here x2 hw H locs hP hD hS ls (lv_sub hl [0, 2] rfl)
      · have hw := hw.2 c12
        refine lv_iload_n hx hb dX3_run_15 rfl (lv_at hl 3 rfl) ?_
        refine lv_aload_n hx hb dX3_run_16 rfl (lv_at hl 0 rfl) ?_
        refine va_get (D := D) (ci := 3) (v := .int R_found) (C := RX3) (T := TX3) (N := 16) hx hb hts in_X3_run_X3 hown hK hP 14 rfl rfl 1 (by decide) k_1 (fun _ h9 => h9) rfl dX3_run_17 ?_
        refine lv_icmp_ge (tgt := 60) hx hb dX3_run_20 (by decide) (fun c20 => ?_) (fun c20 => ?_)
        · have hw := hw.1 c20
          exact b_60 S_cells S_pieces S_grown S_fits S_fitsInLine S_fitsInAll S_stale S_staleCells S_staleCount S_atLeast1 S_atLeast2 S_atLeast3 R_told R_found R_ended R_cut R_largest R_start R_parents R_places R_pieces R_wide R_sizes R_sums R_firstInBucket R_nextInBucket R_here x2 hw H locs hP hD hS ls (lv_sub hl [0, 2] rfl)
        · have hw := hw.2 c20
          refine lv_iload_n hx hb dX3_run_23 rfl (lv_at hl 2 rfl) ?_
          refine lv_if_ne (tgt := 60) hx hb dX3_run_24 (by decide) (fun c24 => ?_) (fun c24 => ?_)
          · have hw := hw.1 c24
            exact b_60 S_cells S_pieces S_grown S_fits S_fitsInLine S_fitsInAll S_stale S_staleCells S_staleCount S_atLeast1 S_atLeast2 S_atLeast3 R_told R_found R_ended R_cut R_largest R_start R_parents R_places R_pieces R_wide R_sizes R_sums R_firstInBucket R_nextInBucket R_here x2 hw H locs hP hD hS ls (lv_sub hl [0, 2] rfl)
          · have hw := hw.2 c24
            refine lv_aload_n hx hb dX3_run_27 rfl (lv_at hl 0 rfl) ?_
            refine lv_iload_n hx hb dX3_run_28 rfl (lv_at hl 3 rfl) ?_
            refine cx_gov (va_runV (As := [.int x3]) (rest := []) ⟨hx, hb, hml, hown, hts⟩ (c_X3_bringSheetTo l D cI cJ cZ cO tS tT H.size aK aK_strengths aK_kinds aK_marks aK_faces aK_bars aK_showing aK_showingRight aK_barring aS aS_cells aS_fits aS_fitsInLine aS_stale aS_staleCells aS_seen aS_queue aR aR_start aR_parents aR_places aR_pieces aR_wide aR_sizes aR_sums aR_firstInBucket aR_nextInBucket K_warm K_count K_seeds K_blocks K_rivals K_kinds S_pieces S_grown S_fitsInAll S_staleCount S_atLeast1 S_atLeast2 S_atLeast3 S_cells S_stale S_staleCells R_told R_found R_ended R_cut R_largest R_here R_parents R_places R_pieces x3 _ hw) (cwV 1 hts gX3_run_X3_bringSheetTo rfl rfl rfl pv_X3_bringSheetTo ⟨Nat.le_of_ble_eq_true rfl, Nat.le_of_ble_eq_true rfl⟩) (cx_preV (wc := w_X3_bringSheetTo cI cJ cZ cO aK aK_strengths aK_kinds aK_marks aK_faces aK_bars aK_showing aK_showingRight aK_barring aS aS_cells aS_fits aS_fitsInLine aS_stale aS_staleCells aS_seen aS_queue aR aR_start aR_parents aR_places aR_pieces aR_wide aR_sizes aR_sums aR_firstInBucket aR_nextInBucket K_warm K_count K_seeds K_blocks K_rivals K_kinds S_pieces S_grown S_fitsInAll S_staleCount S_atLeast1 S_atLeast2 S_atLeast3 S_cells S_stale S_staleCells R_told R_found R_ended R_cut R_largest R_here R_parents R_places R_pieces) hE hK hP hD hS hA [0, 2, 8, 9, 12, 13, 14, 16, 17, 18] rfl rfl (va_recv hK hP (ci := 3) (q0 := 14) rfl rfl)) rfl rfl hl.1 rfl (lv_room (Nat.le_of_ble_eq_true rfl)) dX3_run_29 ⟨Nat.le_of_ble_eq_true rfl, Nat.le_of_ble_eq_true rfl⟩) (fun (u : (Nat → Int32) × (Int32) × (Int32) × (Nat → Int32) × (Nat → Int32) × (Int32) × (Int32)) => (w_X3_run cI cJ cZ cO aK aK_strengths aK_kinds aK_marks aK_faces aK_bars aK_showing aK_showingRight aK_barring aS aS_cells aS_fits aS_fitsInLine aS_stale aS_staleCells aS_seen aS_queue aR aR_start aR_parents aR_places aR_pieces aR_wide aR_sizes aR_sums aR_firstInBucket aR_nextInBucket K_warm K_count K_seeds K_blocks K_rivals K_strengths K_kinds K_faces K_bars K_showing K_showingRight K_barring u.2.1 u.2.2.1 S_fitsInAll u.2.2.2.2.2.1 S_atLeast1 S_atLeast2 S_atLeast3 u.1 S_fits S_fitsInLine u.2.2.2.1 u.2.2.2.2.1 R_told R_found R_ended R_cut R_largest u.2.2.2.2.2.2 R_start R_parents R_places R_pieces R_wide R_sizes R_sums R_firstInBucket R_nextInBucket)) [0, 2, 8, 9, 12, 13, 14, 16, 17, 18] [1, 3, 4, 5, 6, 7, 10, 11, 15, 19, 20, 21, 22, 23] (ads := [aK, aK_kinds, aS, aS_cells, aS_stale, aS_staleCells, aR, aR_parents, aR_places, aR_pieces]) (wr := [(aK_strengths, .inl (cI, 51, .inl K_strengths)), (aK_faces, .inl (cI, 512, .inl K_faces)), (aK_bars, .inl (cI, 128, .inl K_bars)), (aK_showing, .inl (cJ, 204, .inr (.inl K_showing))), (aK_showingRight, .inl (cJ, 204, .inr (.inl K_showingRight))), (aK_barring, .inl (cJ, 4, .inr (.inl K_barring))), (aS_fits, .inl (cJ, 324, .inr (.inl S_fits))), (aS_fitsInLine, .inl (cI, 16, .inl S_fitsInLine)), (aR_start, .inl (cI, 324, .inl R_start)), (aR_wide, .inl (cZ, 300, .inl R_wide)), (aR_sizes, .inl (cI, 300, .inl R_sizes)), (aR_sums, .inl (cJ, 300, .inr (.inl R_sums))), (aR_firstInBucket, .inl (cI, 512, .inl R_firstInBucket)), (aR_nextInBucket, .inl (cI, 300, .inl R_nextInBucket))]) rfl rfl (fun u => rfl) (fun u => rfl) rfl (fun u => rfl) rfl (fun u => rfl) rfl hP hD hS hA (fun u H locs hw hP hD hS => ?_)
            obtain ⟨S_cells_29, S_pieces_29, S_grown_29, S_stale_29, S_staleCells_29, S_staleCount_29, R_here_29⟩ := u
            try dsimp only at hw
            have hP : va_P D vwCl (w_X3_run cI cJ cZ cO aK aK_strengths aK_kinds aK_marks aK_faces aK_bars aK_showing aK_showingRight aK_barring aS aS_cells aS_fits aS_fitsInLine aS_stale aS_staleCells aS_seen aS_queue aR aR_start aR_parents aR_places aR_pieces aR_wide aR_sizes aR_sums aR_firstInBucket aR_nextInBucket K_warm K_count K_seeds K_blocks K_rivals K_strengths K_kinds K_faces K_bars K_showing K_showingRight K_barring S_pieces_29 S_grown_29 S_fitsInAll S_staleCount_29 S_atLeast1 S_atLeast2 S_atLeast3 S_cells_29 S_fits S_fitsInLine S_stale_29 S_staleCells_29 R_told R_found R_ended R_cut R_largest R_here_29 R_start R_parents R_places R_pieces R_wide R_sizes R_sums R_firstInBucket R_nextInBucket) H := hP
            have hD : va_D A (w_X3_run cI cJ cZ cO aK aK_strengths aK_kinds aK_marks aK_faces aK_bars aK_showing aK_showingRight aK_barring aS aS_cells aS_fits aS_fitsInLine aS_stale aS_staleCells aS_seen aS_queue aR aR_start aR_parents aR_places aR_pieces aR_wide aR_sizes aR_sums aR_firstInBucket aR_nextInBucket K_warm K_count K_seeds K_blocks K_rivals K_strengths K_kinds K_faces K_bars K_showing K_showingRight K_barring S_pieces_29 S_grown_29 S_fitsInAll S_staleCount_29 S_atLeast1 S_atLeast2 S_atLeast3 S_cells_29 S_fits S_fitsInLine S_stale_29 S_staleCells_29 R_told R_found R_ended R_cut R_largest R_here_29 R_start R_parents R_places R_pieces R_wide R_sizes R_sums R_firstInBucket R_nextInBucket) := hD
            refine lv_aload_n hx hb dX3_run_32 rfl (lv_at hl 0 rfl) ?_
            refine lv_iload_n hx hb dX3_run_33 rfl (lv_at hl 3 rfl) ?_
            refine lv_iload_n hx hb dX3_run_34 rfl (lv_at hl 1 rfl) ?_
            refine lv_aload_n hx hb dX3_run_35 rfl (lv_at hl 0 rfl) ?_
            refine va_get (D := D) (ci := 3) (v := .ref aS) (C := RX3) (T := TX3) (N := 16) hx hb hts in_X3_run_X3 hown hK hP 14 rfl rfl 5 (by decide) k_4 (fun _ h9 => h9) rfl dX3_run_36 ?_
            refine cx_goi (va_runV (As := []) (rest := [.int x1, .int x3, .ref aR]) ⟨hx, hb, hml, hown, hts⟩ (c_X4_countFits l D cI cJ cZ cO tS tT H.size aK aK_strengths aK_kinds aK_marks aK_faces aK_bars aK_showing aK_showingRight aK_barring aS aS_cells aS_fits aS_fitsInLine aS_stale aS_staleCells aS_seen aS_queue K_warm K_count K_seeds K_blocks K_rivals K_strengths K_faces K_bars K_showing K_showingRight K_barring S_pieces_29 S_grown_29 S_fitsInAll S_staleCount_29 S_atLeast1 S_atLeast2 S_atLeast3 S_cells_29 S_fits S_fitsInLine S_stale_29 S_staleCells_29 _ hw) (cwV 0 hts gX3_run_X4_countFits rfl rfl rfl pv_X4_countFits ⟨Nat.le_of_ble_eq_true rfl, Nat.le_of_ble_eq_true rfl⟩) (cx_preV (wc := w_X4_countFits cI cJ cZ cO aK aK_strengths aK_kinds aK_marks aK_faces aK_bars aK_showing aK_showingRight aK_barring aS aS_cells aS_fits aS_fitsInLine aS_stale aS_staleCells aS_seen aS_queue K_warm K_count K_seeds K_blocks K_rivals K_strengths K_faces K_bars K_showing K_showingRight K_barring S_pieces_29 S_grown_29 S_fitsInAll S_staleCount_29 S_atLeast1 S_atLeast2 S_atLeast3 S_cells_29 S_fits S_fitsInLine S_stale_29 S_staleCells_29) hE hK hP hD hS hA [0, 1, 3, 4, 5, 6, 7, 8, 9, 10, 11, 12, 13] rfl rfl (va_recv hK hP (ci := 4) (q0 := 8) rfl rfl)) rfl rfl hl.1 rfl (lv_room (Nat.le_of_ble_eq_true rfl)) dX3_run_39 ⟨Nat.le_of_ble_eq_true rfl, Nat.le_of_ble_eq_true rfl⟩) (fun (u : (Nat → Int64) × (Nat → Int32) × (Int32) × (Nat → Int32) × (Int32) × (Int64) × (Int64) × (Int64)) => (w_X3_run cI cJ cZ cO aK aK_strengths aK_kinds aK_marks aK_faces aK_bars aK_showing aK_showingRight aK_barring aS aS_cells aS_fits aS_fitsInLine aS_stale aS_staleCells aS_seen aS_queue aR aR_start aR_parents aR_places aR_pieces aR_wide aR_sizes aR_sums aR_firstInBucket aR_nextInBucket K_warm K_count K_seeds K_blocks K_rivals K_strengths K_kinds K_faces K_bars K_showing K_showingRight K_barring S_pieces_29 S_grown_29 u.2.2.1 u.2.2.2.2.1 u.2.2.2.2.2.1 u.2.2.2.2.2.2.1 u.2.2.2.2.2.2.2 S_cells_29 u.1 u.2.1 u.2.2.2.1 S_staleCells_29 R_told R_found R_ended R_cut R_largest R_here_29 R_start R_parents R_places R_pieces R_wide R_sizes R_sums R_firstInBucket R_nextInBucket)) [0, 1, 3, 4, 5, 6, 7, 8, 9, 10, 11, 12, 13] [2, 14, 15, 16, 17, 18, 19, 20, 21, 22, 23] (ads := [aK, aK_strengths, aK_faces, aK_bars, aK_showing, aK_showingRight, aK_barring, aS, aS_cells, aS_fits, aS_fitsInLine, aS_stale, aS_staleCells]) (wr := [(aK_kinds, .inl (cI, 40, .inl K_kinds)), (aR, .inr (3, [.int R_told, .int R_found, .int R_ended, .int R_cut, .int R_largest, .ref aS, .ref aR_start, .ref aR_parents, .ref aR_places, .ref aR_pieces, .ref aR_wide, .ref aR_sizes, .ref aR_sums, .ref aR_firstInBucket, .ref aR_nextInBucket, .int R_here_29])), (aR_start, .inl (cI, 324, .inl R_start)), (aR_parents, .inl (cI, 300, .inl R_parents)), (aR_places, .inl (cI, 300, .inl R_places)), (aR_pieces, .inl (cI, 300, .inl R_pieces)), (aR_wide, .inl (cZ, 300, .inl R_wide)), (aR_sizes, .inl (cI, 300, .inl R_sizes)), (aR_sums, .inl (cJ, 300, .inr (.inl R_sums))), (aR_firstInBucket, .inl (cI, 512, .inl R_firstInBucket)), (aR_nextInBucket, .inl (cI, 300, .inl R_nextInBucket))]) rfl rfl (fun u => rfl) (fun u => rfl) rfl (fun u => rfl) rfl (fun u => rfl) rfl hP hD hS hA (fun r39 u H locs hw hP hD hS => ?_)
            obtain ⟨S_fits_39, S_fitsInLine_39, S_fitsInAll_39, S_stale_39, S_staleCount_39, S_atLeast1_39, S_atLeast2_39, S_atLeast3_39⟩ := u
            try dsimp only at hw
            have hP : va_P D vwCl (w_X3_run cI cJ cZ cO aK aK_strengths aK_kinds aK_marks aK_faces aK_bars aK_showing aK_showingRight aK_barring aS aS_cells aS_fits aS_fitsInLine aS_stale aS_staleCells aS_seen aS_queue aR aR_start aR_parents aR_places aR_pieces aR_wide aR_sizes aR_sums aR_firstInBucket aR_nextInBucket K_warm K_count K_seeds K_blocks K_rivals K_strengths K_kinds K_faces K_bars K_showing K_showingRight K_barring S_pieces_29 S_grown_29 S_fitsInAll_39 S_staleCount_39 S_atLeast1_39 S_atLeast2_39 S_atLeast3_39 S_cells_29 S_fits_39 S_fitsInLine_39 S_stale_39 S_staleCells_29 R_told R_found R_ended R_cut R_largest R_here_29 R_start R_parents R_places R_pieces R_wide R_sizes R_sums R_firstInBucket R_nextInBucket) H := hP
            have hD : va_D A (w_X3_run cI cJ cZ cO aK aK_strengths aK_kinds aK_marks aK_faces aK_bars aK_showing aK_showingRight aK_barring aS aS_cells aS_fits aS_fitsInLine aS_stale aS_staleCells aS_seen aS_queue aR aR_start aR_parents aR_places aR_pieces aR_wide aR_sizes aR_sums aR_firstInBucket aR_nextInBucket K_warm K_count K_seeds K_blocks K_rivals K_strengths K_kinds K_faces K_bars K_showing K_showingRight K_barring S_pieces_29 S_grown_29 S_fitsInAll_39 S_staleCount_39 S_atLeast1_39 S_atLeast2_39 S_atLeast3_39 S_cells_29 S_fits_39 S_fitsInLine_39 S_stale_39 S_staleCells_29 R_told R_found R_ended R_cut R_largest R_here_29 R_start R_parents R_places R_pieces R_wide R_sizes R_sums R_firstInBucket R_nextInBucket) := hD
            refine cx_goi (va_runV (As := [.int x3, .int x1, .int r39]) (rest := []) ⟨hx, hb, hml, hown, hts⟩ (c_X3_goThrough l D cI cJ cZ cO tS tT H.size aK aK_strengths aK_kinds aK_marks aK_faces aK_bars aK_showing aK_showingRight aK_barring aS aS_cells aS_fits aS_fitsInLine aS_stale aS_staleCells aS_seen aS_queue aR aR_start aR_parents aR_places aR_pieces aR_wide aR_sizes aR_sums aR_firstInBucket aR_nextInBucket K_warm K_count K_seeds K_blocks K_rivals K_kinds S_pieces_29 S_grown_29 S_fitsInAll_39 S_staleCount_39 S_atLeast1_39 S_atLeast2_39 S_atLeast3_39 S_cells_29 S_fits_39 S_fitsInLine_39 R_told R_found R_ended R_cut R_largest R_here_29 R_parents R_places R_pieces R_wide R_sizes R_sums R_firstInBucket R_nextInBucket x3 x1 r39 _ hw) (cwV 3 hts gX3_run_X3_goThrough rfl rfl rfl pv_X3_goThrough ⟨Nat.le_of_ble_eq_true rfl, Nat.le_of_ble_eq_true rfl⟩) (cx_preV (wc := w_X3_goThrough cI cJ cZ cO aK aK_strengths aK_kinds aK_marks aK_faces aK_bars aK_showing aK_showingRight aK_barring aS aS_cells aS_fits aS_fitsInLine aS_stale aS_staleCells aS_seen aS_queue aR aR_start aR_parents aR_places aR_pieces aR_wide aR_sizes aR_sums aR_firstInBucket aR_nextInBucket K_warm K_count K_seeds K_blocks K_rivals K_kinds S_pieces_29 S_grown_29 S_fitsInAll_39 S_staleCount_39 S_atLeast1_39 S_atLeast2_39 S_atLeast3_39 S_cells_29 S_fits_39 S_fitsInLine_39 R_told R_found R_ended R_cut R_largest R_here_29 R_parents R_places R_pieces R_wide R_sizes R_sums R_firstInBucket R_nextInBucket) hE hK hP hD hS hA [0, 2, 8, 9, 10, 11, 14, 16, 17, 18, 19, 20, 21, 22, 23] rfl rfl (va_recv hK hP (ci := 3) (q0 := 14) rfl rfl)) rfl rfl hl.1 rfl (lv_room (Nat.le_of_ble_eq_true rfl)) dX3_run_42 ⟨Nat.le_of_ble_eq_true rfl, Nat.le_of_ble_eq_true rfl⟩) (fun (u : (Int32) × (Int32) × (Int32) × (Nat → Int32) × (Nat → Int32) × (Nat → Int32) × (Nat → Int32) × (Nat → Int32) × (Nat → Int64) × (Nat → Int32) × (Nat → Int32)) => (w_X3_run cI cJ cZ cO aK aK_strengths aK_kinds aK_marks aK_faces aK_bars aK_showing aK_showingRight aK_barring aS aS_cells aS_fits aS_fitsInLine aS_stale aS_staleCells aS_seen aS_queue aR aR_start aR_parents aR_places aR_pieces aR_wide aR_sizes aR_sums aR_firstInBucket aR_nextInBucket K_warm K_count K_seeds K_blocks K_rivals K_strengths K_kinds K_faces K_bars K_showing K_showingRight K_barring S_pieces_29 S_grown_29 S_fitsInAll_39 S_staleCount_39 S_atLeast1_39 S_atLeast2_39 S_atLeast3_39 S_cells_29 S_fits_39 S_fitsInLine_39 S_stale_39 S_staleCells_29 R_told u.1 u.2.1 u.2.2.1 R_largest R_here_29 R_start u.2.2.2.1 u.2.2.2.2.1 u.2.2.2.2.2.1 u.2.2.2.2.2.2.1 u.2.2.2.2.2.2.2.1 u.2.2.2.2.2.2.2.2.1 u.2.2.2.2.2.2.2.2.2.1 u.2.2.2.2.2.2.2.2.2.2)) [0, 2, 8, 9, 10, 11, 14, 16, 17, 18, 19, 20, 21, 22, 23] [1, 3, 4, 5, 6, 7, 12, 13, 15] (ads := [aK, aK_kinds, aS, aS_cells, aS_fits, aS_fitsInLine, aR, aR_parents, aR_places, aR_pieces, aR_wide, aR_sizes, aR_sums, aR_firstInBucket, aR_nextInBucket]) (wr := [(aK_strengths, .inl (cI, 51, .inl K_strengths)), (aK_faces, .inl (cI, 512, .inl K_faces)), (aK_bars, .inl (cI, 128, .inl K_bars)), (aK_showing, .inl (cJ, 204, .inr (.inl K_showing))), (aK_showingRight, .inl (cJ, 204, .inr (.inl K_showingRight))), (aK_barring, .inl (cJ, 4, .inr (.inl K_barring))), (aS_stale, .inl (cZ, 324, .inl S_stale_39)), (aS_staleCells, .inl (cI, 256, .inl S_staleCells_29)), (aR_start, .inl (cI, 324, .inl R_start))]) rfl rfl (fun u => rfl) (fun u => rfl) rfl (fun u => rfl) rfl (fun u => rfl) rfl hP hD hS hA (fun r42 u H locs hw hP hD hS => ?_)
            obtain ⟨R_found_42, R_ended_42, R_cut_42, R_parents_42, R_places_42, R_pieces_42, R_wide_42, R_sizes_42, R_sums_42, R_firstInBucket_42, R_nextInBucket_42⟩ := u
            try dsimp only at hw
            have hP : va_P D vwCl (w_X3_run cI cJ cZ cO aK aK_strengths aK_kinds aK_marks aK_faces aK_bars aK_showing aK_showingRight aK_barring aS aS_cells aS_fits aS_fitsInLine aS_stale aS_staleCells aS_seen aS_queue aR aR_start aR_parents aR_places aR_pieces aR_wide aR_sizes aR_sums aR_firstInBucket aR_nextInBucket K_warm K_count K_seeds K_blocks K_rivals K_strengths K_kinds K_faces K_bars K_showing K_showingRight K_barring S_pieces_29 S_grown_29 S_fitsInAll_39 S_staleCount_39 S_atLeast1_39 S_atLeast2_39 S_atLeast3_39 S_cells_29 S_fits_39 S_fitsInLine_39 S_stale_39 S_staleCells_29 R_told R_found_42 R_ended_42 R_cut_42 R_largest R_here_29 R_start R_parents_42 R_places_42 R_pieces_42 R_wide_42 R_sizes_42 R_sums_42 R_firstInBucket_42 R_nextInBucket_42) H := hP
            have hD : va_D A (w_X3_run cI cJ cZ cO aK aK_strengths aK_kinds aK_marks aK_faces aK_bars aK_showing aK_showingRight aK_barring aS aS_cells aS_fits aS_fitsInLine aS_stale aS_staleCells aS_seen aS_queue aR aR_start aR_parents aR_places aR_pieces aR_wide aR_sizes aR_sums aR_firstInBucket aR_nextInBucket K_warm K_count K_seeds K_blocks K_rivals K_strengths K_kinds K_faces K_bars K_showing K_showingRight K_barring S_pieces_29 S_grown_29 S_fitsInAll_39 S_staleCount_39 S_atLeast1_39 S_atLeast2_39 S_atLeast3_39 S_cells_29 S_fits_39 S_fitsInLine_39 S_stale_39 S_staleCells_29 R_told R_found_42 R_ended_42 R_cut_42 R_largest R_here_29 R_start R_parents_42 R_places_42 R_pieces_42 R_wide_42 R_sizes_42 R_sums_42 R_firstInBucket_42 R_nextInBucket_42) := hD
            refine lv_if_ne (tgt := 52) hx hb dX3_run_45 (by decide) (fun c45 => ?_) (fun c45 => ?_)
            · have hw := hw.1 c45
              refine lv_iconst (v := (0 : Int32)) hx hb dX3_run_52 kI_0 ?_
              refine lv_istore_n (lv' := [(2, .int (0 : Int32)), (0, .ref aR), (1, .int x1), (3, .int x3)]) hx hb dX3_run_53 rfl hl (by decide) rfl (fun ls hl => ?_)
              obtain ⟨v54, e54⟩ : ∃ y : Int32, y = x3 + (1 : Int32) := ⟨_, rfl⟩
              have hw := hw v54 e54
              refine lv_iinc (v := v54) (lv' := [(3, .int v54), (2, .int (0 : Int32)), (0, .ref aR), (1, .int x1)]) hx hb dX3_run_54 hl (k := 3) rfl (by rw [e54, kI_1]) (by decide) rfl (fun ls hl => ?_)
              refine lv_goto (tgt := 8) hx hb dX3_run_57 (by decide) ?_
              exact ih_8 S_cells_29 S_pieces_29 S_grown_29 S_fits_39 S_fitsInLine_39 S_fitsInAll_39 S_stale_39 S_staleCells_29 S_staleCount_39 S_atLeast1_39 S_atLeast2_39 S_atLeast3_39 R_told R_found_42 R_ended_42 R_cut_42 R_largest R_start R_parents_42 R_places_42 R_pieces_42 R_wide_42 R_sizes_42 R_sums_42 R_firstInBucket_42 R_nextInBucket_42 R_here_29 x1 (0 : Int32) v54 hw H locs hP hD hS ls (lv_sub hl [2, 3, 1, 0] rfl)
            · have hw := hw.2 c45
              refine lv_iconst (v := (1 : Int32)) hx hb dX3_run_48 kI_1 ?_
              refine lv_goto (tgt := 53) hx hb dX3_run_49 (by decide) ?_
              refine lv_istore_n (lv' := [(2, .int (1 : Int32)), (0, .ref aR), (1, .int x1), (3, .int x3)]) hx hb dX3_run_53 rfl hl (by decide) rfl (fun ls hl => ?_)
              obtain ⟨v54, e54⟩ : ∃ y : Int32, y = x3 + (1 : Int32) := ⟨_, rfl⟩
              have hw := hw v54 e54
              refine lv_iinc (v := v54) (lv' := [(3, .int v54), (2, .int (1 : Int32)), (0, .ref aR), (1, .int x1)]) hx hb dX3_run_54 hl (k := 3) rfl (by rw [e54, kI_1]) (by decide) rfl (fun ls hl => ?_)
              refine lv_goto (tgt := 8) hx hb dX3_run_57 (by decide) ?_
              exact ih_8 S_cells_29 S_pieces_29 S_grown_29 S_fits_39 S_fitsInLine_39 S_fitsInAll_39 S_stale_39 S_staleCells_29 S_staleCount_39 S_atLeast1_39 S_atLeast2_39 S_atLeast3_39 R_told R_found_42 R_ended_42 R_cut_42 R_largest R_start R_parents_42 R_places_42 R_pieces_42 R_wide_42 R_sizes_42 R_sums_42 R_firstInBucket_42 R_nextInBucket_42 R_here_29 x1 (1 : Int32) v54 hw H locs hP hD hS ls (lv_sub hl [2, 3, 1, 0] rfl)
  intro H locs hP hD hS ls hl
  unfold wp_X3_run at hw
  refine lv_aload_n hx hb dX3_run_0 rfl (lv_at hl 0 rfl) ?_
  refine cx_gov (va_runV (As := []) (rest := []) ⟨hx, hb, hml, hown, hts⟩ (c_X3_begin l D cI cJ cZ cO tS tT H.size aS aK aS_cells aS_fits aS_fitsInLine aS_stale aS_staleCells aS_seen aS_queue aR aR_start aR_parents aR_places aR_pieces aR_wide aR_sizes aR_sums aR_firstInBucket aR_nextInBucket S_pieces S_grown S_fitsInAll S_staleCount S_atLeast1 S_atLeast2 S_atLeast3 S_cells R_told R_found R_ended R_cut R_largest R_here R_start R_parents R_sizes R_sums R_firstInBucket _ hw) (cwV 0 hts gX3_run_X3_begin rfl rfl rfl pv_X3_begin ⟨Nat.le_of_ble_eq_true rfl, Nat.le_of_ble_eq_true rfl⟩) (cx_preV (wc := w_X3_begin cI cJ cZ cO aS aK aS_cells aS_fits aS_fitsInLine aS_stale aS_staleCells aS_seen aS_queue aR aR_start aR_parents aR_places aR_pieces aR_wide aR_sizes aR_sums aR_firstInBucket aR_nextInBucket S_pieces S_grown S_fitsInAll S_staleCount S_atLeast1 S_atLeast2 S_atLeast3 S_cells R_told R_found R_ended R_cut R_largest R_here R_start R_parents R_sizes R_sums R_firstInBucket) hE hK hP hD hS hA [8, 9, 14, 15, 16, 20, 21, 22] rfl rfl (va_recv hK hP (ci := 3) (q0 := 14) rfl rfl)) rfl rfl hl.1 rfl (lv_room (Nat.le_of_ble_eq_true rfl)) dX3_run_1 ⟨Nat.le_of_ble_eq_true rfl, Nat.le_of_ble_eq_true rfl⟩) (fun (u : (Int32) × (Int32) × (Int32) × (Nat → Int32) × (Nat → Int32) × (Nat → Int32) × (Nat → Int64) × (Nat → Int32) × (Int32)) => (w_X3_run cI cJ cZ cO aK aK_strengths aK_kinds aK_marks aK_faces aK_bars aK_showing aK_showingRight aK_barring aS aS_cells aS_fits aS_fitsInLine aS_stale aS_staleCells aS_seen aS_queue aR aR_start aR_parents aR_places aR_pieces aR_wide aR_sizes aR_sums aR_firstInBucket aR_nextInBucket K_warm K_count K_seeds K_blocks K_rivals K_strengths K_kinds K_faces K_bars K_showing K_showingRight K_barring S_pieces S_grown S_fitsInAll S_staleCount S_atLeast1 S_atLeast2 S_atLeast3 S_cells S_fits S_fitsInLine S_stale S_staleCells R_told u.1 u.2.1 u.2.2.1 R_largest u.2.2.2.2.2.2.2.2 u.2.2.2.1 u.2.2.2.2.1 R_places R_pieces R_wide u.2.2.2.2.2.1 u.2.2.2.2.2.2.1 u.2.2.2.2.2.2.2.1 R_nextInBucket)) [8, 9, 14, 15, 16, 20, 21, 22] [0, 1, 2, 3, 4, 5, 6, 7, 10, 11, 12, 13, 17, 18, 19, 23] (ads := [aS, aS_cells, aR, aR_start, aR_parents, aR_sizes, aR_sums, aR_firstInBucket]) (wr := [(aK, .inr (1, [.int K_warm, .int K_count, .ref aK_strengths, .ref aK_kinds, .ref aK_marks, .ref aK_faces, .ref aK_bars, .ref aK_showing, .ref aK_showingRight, .ref aK_barring, .long K_seeds, .long K_blocks, .long K_rivals])), (aK_strengths, .inl (cI, 51, .inl K_strengths)), (aK_kinds, .inl (cI, 40, .inl K_kinds)), (aK_faces, .inl (cI, 512, .inl K_faces)), (aK_bars, .inl (cI, 128, .inl K_bars)), (aK_showing, .inl (cJ, 204, .inr (.inl K_showing))), (aK_showingRight, .inl (cJ, 204, .inr (.inl K_showingRight))), (aK_barring, .inl (cJ, 4, .inr (.inl K_barring))), (aS_fits, .inl (cJ, 324, .inr (.inl S_fits))), (aS_fitsInLine, .inl (cI, 16, .inl S_fitsInLine)), (aS_stale, .inl (cZ, 324, .inl S_stale)), (aS_staleCells, .inl (cI, 256, .inl S_staleCells)), (aR_places, .inl (cI, 300, .inl R_places)), (aR_pieces, .inl (cI, 300, .inl R_pieces)), (aR_wide, .inl (cZ, 300, .inl R_wide)), (aR_nextInBucket, .inl (cI, 300, .inl R_nextInBucket))]) rfl rfl (fun u => rfl) (fun u => rfl) rfl (fun u => rfl) rfl (fun u => rfl) rfl hP hD hS hA (fun u H locs hw hP hD hS => ?_)
  obtain ⟨R_found_1, R_ended_1, R_cut_1, R_start_1, R_parents_1, R_sizes_1, R_sums_1, R_firstInBucket_1, R_here_1⟩ := u
  try dsimp only at hw
  have hP : va_P D vwCl (w_X3_run cI cJ cZ cO aK aK_strengths aK_kinds aK_marks aK_faces aK_bars aK_showing aK_showingRight aK_barring aS aS_cells aS_fits aS_fitsInLine aS_stale aS_staleCells aS_seen aS_queue aR aR_start aR_parents aR_places aR_pieces aR_wide aR_sizes aR_sums aR_firstInBucket aR_nextInBucket K_warm K_count K_seeds K_blocks K_rivals K_strengths K_kinds K_faces K_bars K_showing K_showingRight K_barring S_pieces S_grown S_fitsInAll S_staleCount S_atLeast1 S_atLeast2 S_atLeast3 S_cells S_fits S_fitsInLine S_stale S_staleCells R_told R_found_1 R_ended_1 R_cut_1 R_largest R_here_1 R_start_1 R_parents_1 R_places R_pieces R_wide R_sizes_1 R_sums_1 R_firstInBucket_1 R_nextInBucket) H := hP
  have hD : va_D A (w_X3_run cI cJ cZ cO aK aK_strengths aK_kinds aK_marks aK_faces aK_bars aK_showing aK_showingRight aK_barring aS aS_cells aS_fits aS_fitsInLine aS_stale aS_staleCells aS_seen aS_queue aR aR_start aR_parents aR_places aR_pieces aR_wide aR_sizes aR_sums aR_firstInBucket aR_nextInBucket K_warm K_count K_seeds K_blocks K_rivals K_strengths K_kinds K_faces K_bars K_showing K_showingRight K_barring S_pieces S_grown S_fitsInAll S_staleCount S_atLeast1 S_atLeast2 S_atLeast3 S_cells S_fits S_fitsInLine S_stale S_staleCells R_told R_found_1 R_ended_1 R_cut_1 R_largest R_here_1 R_start_1 R_parents_1 R_places R_pieces R_wide R_sizes_1 R_sums_1 R_firstInBucket_1 R_nextInBucket) := hD
  refine lv_iconst (v := (0 : Int32)) hx hb dX3_run_4 kI_0 ?_
  refine lv_istore_n (lv' := [(2, .int (0 : Int32)), (0, .ref aR), (1, .int p1)]) hx hb dX3_run_5 rfl hl (by decide) rfl (fun ls hl => ?_)
  refine lv_iconst (v := (0 : Int32)) hx hb dX3_run_6 kI_0 ?_
  refine lv_istore_n (lv' := [(3, .int (0 : Int32)), (2, .int (0 : Int32)), (0, .ref aR), (1, .int p1)]) hx hb dX3_run_7 rfl hl (by decide) rfl (fun ls hl => ?_)
  obtain ⟨k, hw⟩ := hw
  exact b_8 k S_cells S_pieces S_grown S_fits S_fitsInLine S_fitsInAll S_stale S_staleCells S_staleCount S_atLeast1 S_atLeast2 S_atLeast3 R_told R_found_1 R_ended_1 R_cut_1 R_largest R_start_1 R_parents_1 R_places R_pieces R_wide R_sizes_1 R_sums_1 R_firstInBucket_1 R_nextInBucket R_here_1 p1 (0 : Int32) (0 : Int32) hw H locs hP hD hS ls (lv_sub hl [2, 3, 1, 0] rfl)
set_option maxRecDepth 100000 in
set_option maxHeartbeats 4000000 in
theorem c_X3_heldIn (l : Launch) (D : va_G) (cI cJ cZ cO : ClassId) (tS tT : Nat) (sz : Nat) (aR aS aR_start aR_parents aR_places aR_pieces aR_wide aR_sizes aR_sums aR_firstInBucket aR_nextInBucket : Nat) (R_told : Int32) (R_found : Int32) (R_ended : Int32) (R_cut : Int32) (R_largest : Int32) (R_here : Int32) (R_start : Nat → Int32) (R_parents : Nat → Int32) (R_places : Nat → Int32) (R_pieces : Nat → Int32) (R_wide : Nat → Int32) (p1 : Int32) (p2 : Int32) (Q : Int32 → Prop) (hw : wp_X3_heldIn R_start R_parents R_places R_pieces R_wide p1 p2 Q) : Met l yX3_heldIn wsX3_heldIn rm_X3_heldIn (va_Pc [.ref aR, .int p1, .int p2] (cx_B tS tT cI cJ cZ cO D sz (w_X3_heldIn cI cJ cZ cO aR aS aR_start aR_parents aR_places aR_pieces aR_wide aR_sizes aR_sums aR_firstInBucket aR_nextInBucket R_told R_found R_ended R_cut R_largest R_here R_start R_parents R_places R_pieces R_wide))) (va_Qi (fun (r : Int32) (_ : Unit) => Q r) (fun (u : Unit) t => va_P D vwCl (w_X3_heldIn cI cJ cZ cO aR aS aR_start aR_parents aR_places aR_pieces aR_wide aR_sizes aR_sums aR_firstInBucket aR_nextInBucket R_told R_found R_ended R_cut R_largest R_here R_start R_parents R_places R_pieces R_wide) t.heap) (va_A (w_X3_heldIn cI cJ cZ cO aR aS aR_start aR_parents aR_places aR_pieces aR_wide aR_sizes aR_sums aR_firstInBucket aR_nextInBucket R_told R_found R_ended R_cut R_largest R_here R_start R_parents R_places R_pieces R_wide) sz)) 0 0 (va_A (w_X3_heldIn cI cJ cZ cO aR aS aR_start aR_parents aR_places aR_pieces aR_wide aR_sizes aR_sums aR_firstInBucket aR_nextInBucket R_told R_found R_ended R_cut R_largest R_here R_start R_parents R_places R_pieces R_wide) sz) := by
  refine cx_met (cc := cX3_heldIn) (maxL := 5) (ret := (some .int)) (Qc := fun A => va_Qi (fun (r : Int32) (_ : Unit) => Q r) (fun (u : Unit) t => va_P D vwCl (w_X3_heldIn cI cJ cZ cO aR aS aR_start aR_parents aR_places aR_pieces aR_wide aR_sizes aR_sums aR_firstInBucket aR_nextInBucket R_told R_found R_ended R_cut R_largest R_here R_start R_parents R_places R_pieces R_wide) t.heap) A) (lv := [(0, .ref aR), (1, .int p1), (2, .int p2)]) (by decide) rfl (Nat.le_of_ble_eq_true rfl) rfl ?_
  intro p e s m args below meth c A Z hx hb hr hlocks hts hown hml hE hK hA hZ
  have hown : s.vm.findClass RX3 = some m.cls := hown
  have k_0 := hts (.fieldLink RX3 22 "GrowingTiles$Search" "start" "[I") (List.mem_of_getElem? (i := 5) (by decide +kernel))
  have k_1 := hts (.initialized RX7) (List.mem_of_getElem? (i := 7) (by decide +kernel))
  have k_2 := hts (.static yX7_pieceIn) (List.mem_of_getElem? (i := 6) (by decide +kernel))
  have k_3 := hts (.fieldLink RX3 26 "GrowingTiles$Search" "parents" "[I") (List.mem_of_getElem? (i := 4) (by decide +kernel))
  have k_4 := hts (.fieldLink RX3 32 "GrowingTiles$Search" "pieces" "[I") (List.mem_of_getElem? (i := 3) (by decide +kernel))
  have k_5 := hts (.fieldLink RX3 29 "GrowingTiles$Search" "places" "[I") (List.mem_of_getElem? (i := 1) (by decide +kernel))
  have k_6 := hts (.fieldLink RX3 35 "GrowingTiles$Search" "wide" "[Z") (List.mem_of_getElem? (i := 2) (by decide +kernel))
  have b_68 : ∀ (x2 : Int32), wq_X3_heldIn_68 R_start R_parents R_places R_pieces R_wide Q x2 → ∀ (H : Heap) (locs : List Loc), va_P D vwCl (w_X3_heldIn cI cJ cZ cO aR aS aR_start aR_parents aR_places aR_pieces aR_wide aR_sizes aR_sums aR_firstInBucket aR_nextInBucket R_told R_found R_ended R_cut R_largest R_here R_start R_parents R_places R_pieces R_wide) H → va_D A (w_X3_heldIn cI cJ cZ cO aR aS aR_start aR_parents aR_places aR_pieces aR_wide aR_sizes aR_sums aR_firstInBucket aR_nextInBucket R_told R_found R_ended R_cut R_largest R_here R_start R_parents R_places R_pieces R_wide) → va_S A s.heap H locs → ∀ ls : Array Slot, lv_has ls 5 [(0, .ref aR), (2, .int x2)] → W p l e rm_X3_heldIn s m args below meth c H locs 0 0 Z (F0 m 68 ls []) := by
    intro x2 hw H locs hP hD hS ls hl
    unfold wq_X3_heldIn_68 at hw
    refine lv_aload_n hx hb dX3_heldIn_68 rfl (lv_at hl 0 rfl) ?_
    refine va_get (D := D) (ci := 3) (v := .ref aR_start) (C := RX3) (T := TX3) (N := 16) hx hb hts in_X3_heldIn_X3 hown hK hP 0 rfl rfl 6 (by decide) k_0 (fun _ h9 => h9) rfl dX3_heldIn_69 ?_
    refine lv_iload_n hx hb dX3_heldIn_72 rfl (lv_at hl 1 rfl) ?_
    have h73 := hw.1
    have hw := hw.2
    refine va_iald hx hb hK hP 1 0 rfl rfl h73 dX3_heldIn_73 ?_
    refine lv_topi (fun v73 e73 => ?_)
    have hw := hw v73 e73
    refine cx_goi (va_runSN (As := [.int v73]) (rest := []) ⟨hx, hb, hml, hown, hts⟩ (c_X7_pieceIn l D cI cJ cZ cO tS tT H.size v73 _ hw) ⟨va_cnB 1 hts gX3_heldIn_X7_pieceIn_n149 rfl rfl rfl (hE.1.2.2.2.2.2.2.2.2.2.2.1) k_1 ps_X7_pieceIn ⟨Nat.le_of_ble_eq_true rfl, Nat.le_of_ble_eq_true rfl⟩, k_2, trivial⟩ (cx_preS (wc := w_X7_pieceIn) hE hK hP hD hS hA [] rfl rfl) rfl rfl hl.1 rfl (lv_room (Nat.le_of_ble_eq_true rfl)) dX3_heldIn_74 ⟨Nat.le_of_ble_eq_true rfl, Nat.le_of_ble_eq_true rfl⟩) (fun (_ : Unit) => (w_X3_heldIn cI cJ cZ cO aR aS aR_start aR_parents aR_places aR_pieces aR_wide aR_sizes aR_sums aR_firstInBucket aR_nextInBucket R_told R_found R_ended R_cut R_largest R_here R_start R_parents R_places R_pieces R_wide)) [] [0, 1, 2, 3, 4, 5] (ads := []) (wr := [(aR, .inr (3, [.int R_told, .int R_found, .int R_ended, .int R_cut, .int R_largest, .ref aS, .ref aR_start, .ref aR_parents, .ref aR_places, .ref aR_pieces, .ref aR_wide, .ref aR_sizes, .ref aR_sums, .ref aR_firstInBucket, .ref aR_nextInBucket, .int R_here])), (aR_start, .inl (cI, 324, .inl R_start)), (aR_parents, .inl (cI, 300, .inl R_parents)), (aR_places, .inl (cI, 300, .inl R_places)), (aR_pieces, .inl (cI, 300, .inl R_pieces)), (aR_wide, .inl (cZ, 300, .inl R_wide))]) rfl rfl (fun u => rfl) (fun u => rfl) rfl (fun u => rfl) rfl (fun u => rfl) rfl hP hD hS hA (fun r74 u H locs hw hP hD hS => ?_)
    rw [hZ]
    exact cx_reti () hx hb hr hlocks hw hP hS dX3_heldIn_77
  have b_48 : ∀ (x3 : Int32), wq_X3_heldIn_48 R_start R_parents R_places R_pieces R_wide Q x3 → ∀ (H : Heap) (locs : List Loc), va_P D vwCl (w_X3_heldIn cI cJ cZ cO aR aS aR_start aR_parents aR_places aR_pieces aR_wide aR_sizes aR_sums aR_firstInBucket aR_nextInBucket R_told R_found R_ended R_cut R_largest R_here R_start R_parents R_places R_pieces R_wide) H → va_D A (w_X3_heldIn cI cJ cZ cO aR aS aR_start aR_parents aR_places aR_pieces aR_wide aR_sizes aR_sums aR_firstInBucket aR_nextInBucket R_told R_found R_ended R_cut R_largest R_here R_start R_parents R_places R_pieces R_wide) → va_S A s.heap H locs → ∀ ls : Array Slot, lv_has ls 5 [(0, .ref aR), (3, .int x3)] → W p l e rm_X3_heldIn s m args below meth c H locs 0 0 Z (F0 m 48 ls []) := by
    intro x3 hw H locs hP hD hS ls hl
    unfold wq_X3_heldIn_48 at hw
    refine lv_aload_n hx hb dX3_heldIn_48 rfl (lv_at hl 0 rfl) ?_
    refine va_get (D := D) (ci := 3) (v := .ref aR_pieces) (C := RX3) (T := TX3) (N := 16) hx hb hts in_X3_heldIn_X3 hown hK hP 0 rfl rfl 9 (by decide) k_4 (fun _ h9 => h9) rfl dX3_heldIn_49 ?_
    refine lv_iload_n hx hb dX3_heldIn_52 rfl (lv_at hl 1 rfl) ?_
    have h53 := hw.1
    have hw := hw.2
    refine va_iald hx hb hK hP 4 0 rfl rfl h53 dX3_heldIn_53 ?_
    refine lv_topi (fun v53 e53 => ?_)
    have hw := hw v53 e53
    rw [hZ]
    exact cx_reti () hx hb hr hlocks hw hP hS dX3_heldIn_54
  have b_5 : ∀ n_5 : Nat, ∀ (x2 : Int32) (x3 : Int32) (x4 : Int32), wq_X3_heldIn_5 R_start R_parents R_places R_pieces R_wide Q n_5 x2 x3 x4 → ∀ (H : Heap) (locs : List Loc), va_P D vwCl (w_X3_heldIn cI cJ cZ cO aR aS aR_start aR_parents aR_places aR_pieces aR_wide aR_sizes aR_sums aR_firstInBucket aR_nextInBucket R_told R_found R_ended R_cut R_largest R_here R_start R_parents R_places R_pieces R_wide) H → va_D A (w_X3_heldIn cI cJ cZ cO aR aS aR_start aR_parents aR_places aR_pieces aR_wide aR_sizes aR_sums aR_firstInBucket aR_nextInBucket R_told R_found R_ended R_cut R_largest R_here R_start R_parents R_places R_pieces R_wide) → va_S A s.heap H locs → ∀ ls : Array Slot, lv_has ls 5 [(0, .ref aR), (2, .int x2), (3, .int x3), (4, .int x4)] → W p l e rm_X3_heldIn s m args below meth c H locs 0 0 Z (F0 m 5 ls []) := by
    intro n_5
    induction n_5 with
    | zero => intro x2 x3 x4 hw; exact False.elim hw
    | succ n_5 ih_5 =>
      have b_55 : ∀ (x2 : Int32) (x3 : Int32) (x4 : Int32), wq_X3_heldIn_55 R_start R_parents R_places R_pieces R_wide (wq_X3_heldIn_5 R_start R_parents R_places R_pieces R_wide Q n_5) Q x2 x3 x4 → ∀ (H : Heap) (locs : List Loc), va_P D vwCl (w_X3_heldIn cI cJ cZ cO aR aS aR_start aR_parents aR_places aR_pieces aR_wide aR_sizes aR_sums aR_firstInBucket aR_nextInBucket R_told R_found R_ended R_cut R_largest R_here R_start R_parents R_places R_pieces R_wide) H → va_D A (w_X3_heldIn cI cJ cZ cO aR aS aR_start aR_parents aR_places aR_pieces aR_wide aR_sizes aR_sums aR_firstInBucket aR_nextInBucket R_told R_found R_ended R_cut R_largest R_here R_start R_parents R_places R_pieces R_wide) → va_S A s.heap H locs → ∀ ls : Array Slot, lv_has ls 5 [(0, .ref aR), (2, .int x2), (3, .int x3), (4, .int x4)] → W p l e rm_X3_heldIn s m args below meth c H locs 0 0 Z (F0 m 55 ls []) := by
        intro x2 x3 x4 hw H locs hP hD hS ls hl
        unfold wq_X3_heldIn_55 at hw
        refine lv_aload_n hx hb dX3_heldIn_55 rfl (lv_at hl 0 rfl) ?_
        refine va_get (D := D) (ci := 3) (v := .ref aR_parents) (C := RX3) (T := TX3) (N := 16) hx hb hts in_X3_heldIn_X3 hown hK hP 0 rfl rfl 7 (by decide) k_3 (fun _ h9 => h9) rfl dX3_heldIn_56 ?_
        refine lv_iload_n hx hb dX3_heldIn_59 rfl (lv_at hl 2 rfl) ?_
        have h60 := hw.1
        have hw := hw.2
        refine va_iald hx hb hK hP 2 0 rfl rfl h60 dX3_heldIn_60 ?_
        refine lv_topi (fun v60 e60 => ?_)
        have hw := hw v60 e60
        refine lv_istore_n (lv' := [(3, .int v60), (0, .ref aR), (2, .int x2), (4, .int x4)]) hx hb dX3_heldIn_61 rfl hl (by decide) rfl (fun ls hl => ?_)
        obtain ⟨v62, e62⟩ : ∃ y : Int32, y = x4 + (1 : Int32) := ⟨_, rfl⟩
        have hw := hw v62 e62
        refine lv_iinc (v := v62) (lv' := [(4, .int v62), (3, .int v60), (0, .ref aR), (2, .int x2)]) hx hb dX3_heldIn_62 hl (k := 3) rfl (by rw [e62, kI_1]) (by decide) rfl (fun ls hl => ?_)
        refine lv_goto (tgt := 5) hx hb dX3_heldIn_65 (by decide) ?_
        exact ih_5 x2 v60 v62 hw H locs hP hD hS ls (lv_sub hl [2, 3, 1, 0] rfl)
      intro x2 x3 x4 hw H locs hP hD hS ls hl
      have hw : wf_X3_heldIn_5 R_start R_parents R_places R_pieces R_wide Q (wq_X3_heldIn_5 R_start R_parents R_places R_pieces R_wide Q n_5) x2 x3 x4 := hw
      unfold wf_X3_heldIn_5 at hw
      refine lv_iload hx hb dX3_heldIn_5 (lv_at hl 3 rfl) ?_
      refine lv_sipush (v := (300 : Int32)) hx hb dX3_heldIn_7 kS_300 ?_
      refine lv_icmp_ge (tgt := 68) hx hb dX3_heldIn_10 (by decide) (fun c10 => ?_) (fun c10 => ?_)
      · have hw := hw.1 c10
        exact b_68 x2 hw H locs hP hD hS ls (lv_sub hl [0, 1] rfl)
      · have hw := hw.2 c10
        refine lv_iload_n hx hb dX3_heldIn_13 rfl (lv_at hl 2 rfl) ?_
        refine lv_if_eq (tgt := 68) hx hb dX3_heldIn_14 (by decide) (fun c14 => ?_) (fun c14 => ?_)
        · have hw := hw.1 c14
          exact b_68 x2 hw H locs hP hD hS ls (lv_sub hl [0, 1] rfl)
        · have hw := hw.2 c14
          refine lv_aload_n hx hb dX3_heldIn_17 rfl (lv_at hl 0 rfl) ?_
          refine va_get (D := D) (ci := 3) (v := .ref aR_places) (C := RX3) (T := TX3) (N := 16) hx hb hts in_X3_heldIn_X3 hown hK hP 0 rfl rfl 8 (by decide) k_5 (fun _ h9 => h9) rfl dX3_heldIn_18 ?_
          refine lv_iload_n hx hb dX3_heldIn_21 rfl (lv_at hl 2 rfl) ?_
          have h22 := hw.1
          have hw := hw.2
          refine va_iald hx hb hK hP 3 0 rfl rfl h22 dX3_heldIn_22 ?_
          refine lv_topi (fun v22 e22 => ?_)
          have hw := hw v22 e22
          refine lv_iload_n hx hb dX3_heldIn_23 rfl (lv_at hl 1 rfl) ?_
          refine lv_icmp_eq (tgt := 48) hx hb dX3_heldIn_24 (by decide) (fun c24 => ?_) (fun c24 => ?_)
          · have hw := hw.1 c24
            exact b_48 x3 hw H locs hP hD hS ls (lv_sub hl [0, 2] rfl)
          · have hw := hw.2 c24
            refine lv_aload_n hx hb dX3_heldIn_27 rfl (lv_at hl 0 rfl) ?_
            refine va_get (D := D) (ci := 3) (v := .ref aR_wide) (C := RX3) (T := TX3) (N := 16) hx hb hts in_X3_heldIn_X3 hown hK hP 0 rfl rfl 10 (by decide) k_6 (fun _ h9 => h9) rfl dX3_heldIn_28 ?_
            refine lv_iload_n hx hb dX3_heldIn_31 rfl (lv_at hl 2 rfl) ?_
            have h32 := hw.1
            have hw := hw.2
            refine va_zald hx hb hK hP 5 2 rfl rfl h32 dX3_heldIn_32 ?_
            refine lv_topi (fun v32 e32 => ?_)
            have hw := hw v32 e32
            refine lv_if_eq (tgt := 55) hx hb dX3_heldIn_33 (by decide) (fun c33 => ?_) (fun c33 => ?_)
            · have hw := hw.1 c33
              exact b_55 x2 x3 x4 hw H locs hP hD hS ls (lv_sub hl [0, 1, 2, 3] rfl)
            · have hw := hw.2 c33
              refine lv_aload_n hx hb dX3_heldIn_36 rfl (lv_at hl 0 rfl) ?_
              refine va_get (D := D) (ci := 3) (v := .ref aR_places) (C := RX3) (T := TX3) (N := 16) hx hb hts in_X3_heldIn_X3 hown hK hP 0 rfl rfl 8 (by decide) k_5 (fun _ h9 => h9) rfl dX3_heldIn_37 ?_
              refine lv_iload_n hx hb dX3_heldIn_40 rfl (lv_at hl 2 rfl) ?_
              have h41 := hw.1
              have hw := hw.2
              refine va_iald hx hb hK hP 3 0 rfl rfl h41 dX3_heldIn_41 ?_
              refine lv_topi (fun v41 e41 => ?_)
              have hw := hw v41 e41
              refine lv_iconst (v := (1 : Int32)) hx hb dX3_heldIn_42 kI_1 ?_
              refine lv_iadd hx hb dX3_heldIn_43 ?_
              refine lv_iload_n hx hb dX3_heldIn_44 rfl (lv_at hl 1 rfl) ?_
              refine lv_icmp_ne (tgt := 55) hx hb dX3_heldIn_45 (by decide) (fun c45 => ?_) (fun c45 => ?_)
              · have hw := hw.1 c45
                exact b_55 x2 x3 x4 hw H locs hP hD hS ls (lv_sub hl [0, 1, 2, 3] rfl)
              · have hw := hw.2 c45
                exact b_48 x3 hw H locs hP hD hS ls (lv_sub hl [0, 2] rfl)
  intro H locs hP hD hS ls hl
  unfold wp_X3_heldIn at hw
  refine lv_iload_n hx hb dX3_heldIn_0 rfl (lv_at hl 1 rfl) ?_
  refine lv_istore_n (lv' := [(3, .int p1), (0, .ref aR), (1, .int p1), (2, .int p2)]) hx hb dX3_heldIn_1 rfl hl (by decide) rfl (fun ls hl => ?_)
  refine lv_iconst (v := (0 : Int32)) hx hb dX3_heldIn_2 kI_0 ?_
  refine lv_istore (lv' := [(4, .int (0 : Int32)), (3, .int p1), (0, .ref aR), (1, .int p1), (2, .int p2)]) hx hb dX3_heldIn_3 hl (by decide) rfl (fun ls hl => ?_)
  obtain ⟨k, hw⟩ := hw
  exact b_5 k p2 p1 (0 : Int32) hw H locs hP hD hS ls (lv_sub hl [2, 4, 1, 0] rfl)
set_option maxRecDepth 100000 in
set_option maxHeartbeats 4000000 in
theorem c_X4_hasRoomFor (l : Launch) (D : va_G) (cI cJ cZ cO : ClassId) (tS tT : Nat) (sz : Nat) (aK aK_strengths aK_kinds aK_marks aK_faces aK_bars aK_showing aK_showingRight aK_barring aS aS_cells aS_fits aS_fitsInLine aS_stale aS_staleCells aS_seen aS_queue : Nat) (K_warm : Int32) (K_count : Int32) (K_seeds : Int64) (K_blocks : Int64) (K_rivals : Int64) (K_kinds : Nat → Int32) (S_pieces : Int32) (S_grown : Int32) (S_fitsInAll : Int32) (S_staleCount : Int32) (S_atLeast1 : Int64) (S_atLeast2 : Int64) (S_atLeast3 : Int64) (S_cells : Nat → Int32) (p1 : Int32) (p2 : Int32) (Q : Int32 → Prop) (hw : wp_X4_hasRoomFor K_kinds S_cells p1 p2 Q) : Met l yX4_hasRoomFor wsX4_hasRoomFor rm_X4_hasRoomFor (va_Pc [.ref aS, .int p1, .int p2] (cx_B tS tT cI cJ cZ cO D sz (w_X4_hasRoomFor cI cJ cZ cO aK aK_strengths aK_kinds aK_marks aK_faces aK_bars aK_showing aK_showingRight aK_barring aS aS_cells aS_fits aS_fitsInLine aS_stale aS_staleCells aS_seen aS_queue K_warm K_count K_seeds K_blocks K_rivals K_kinds S_pieces S_grown S_fitsInAll S_staleCount S_atLeast1 S_atLeast2 S_atLeast3 S_cells))) (va_Qi (fun (r : Int32) (_ : Unit) => Q r) (fun (u : Unit) t => va_P D vwCl (w_X4_hasRoomFor cI cJ cZ cO aK aK_strengths aK_kinds aK_marks aK_faces aK_bars aK_showing aK_showingRight aK_barring aS aS_cells aS_fits aS_fitsInLine aS_stale aS_staleCells aS_seen aS_queue K_warm K_count K_seeds K_blocks K_rivals K_kinds S_pieces S_grown S_fitsInAll S_staleCount S_atLeast1 S_atLeast2 S_atLeast3 S_cells) t.heap) (va_A (w_X4_hasRoomFor cI cJ cZ cO aK aK_strengths aK_kinds aK_marks aK_faces aK_bars aK_showing aK_showingRight aK_barring aS aS_cells aS_fits aS_fitsInLine aS_stale aS_staleCells aS_seen aS_queue K_warm K_count K_seeds K_blocks K_rivals K_kinds S_pieces S_grown S_fitsInAll S_staleCount S_atLeast1 S_atLeast2 S_atLeast3 S_cells) sz)) 0 0 (va_A (w_X4_hasRoomFor cI cJ cZ cO aK aK_strengths aK_kinds aK_marks aK_faces aK_bars aK_showing aK_showingRight aK_barring aS aS_cells aS_fits aS_fitsInLine aS_stale aS_staleCells aS_seen aS_queue K_warm K_count K_seeds K_blocks K_rivals K_kinds S_pieces S_grown S_fitsInAll S_staleCount S_atLeast1 S_atLeast2 S_atLeast3 S_cells) sz) := by
  refine cx_met (cc := cX4_hasRoomFor) (maxL := 3) (ret := (some .boolean)) (Qc := fun A => va_Qi (fun (r : Int32) (_ : Unit) => Q r) (fun (u : Unit) t => va_P D vwCl (w_X4_hasRoomFor cI cJ cZ cO aK aK_strengths aK_kinds aK_marks aK_faces aK_bars aK_showing aK_showingRight aK_barring aS aS_cells aS_fits aS_fitsInLine aS_stale aS_staleCells aS_seen aS_queue K_warm K_count K_seeds K_blocks K_rivals K_kinds S_pieces S_grown S_fitsInAll S_staleCount S_atLeast1 S_atLeast2 S_atLeast3 S_cells) t.heap) A) (lv := [(0, .ref aS), (1, .int p1), (2, .int p2)]) (by decide) rfl (Nat.le_of_ble_eq_true rfl) rfl ?_
  intro p e s m args below meth c A Z hx hb hr hlocks hts hown hml hE hK hA hZ
  have hown : s.vm.findClass RX4 = some m.cls := hown
  have k_0 := hts (.fieldLink RX4 15 "GrowingTiles$Sheet" "cells" "[I") (List.mem_of_getElem? (i := 1) (by decide +kernel))
  have k_1 := hts (.fieldLink RX4 9 "GrowingTiles$Sheet" "kit" "LGrowingTiles$Kit;") (List.mem_of_getElem? (i := 2) (by decide +kernel))
  have k_2 := hts (.fieldLink RX4 52 "GrowingTiles$Kit" "kinds" "[I") (List.mem_of_getElem? (i := 3) (by decide +kernel))
  intro H locs hP hD hS ls hl
  unfold wp_X4_hasRoomFor at hw
  refine lv_aload_n hx hb dX4_hasRoomFor_0 rfl (lv_at hl 0 rfl) ?_
  refine va_get (D := D) (ci := 4) (v := .ref aS_cells) (C := RX4) (T := TX4) (N := 15) hx hb hts in_X4_hasRoomFor_X4 hown hK hP 2 rfl rfl 1 (by decide) k_0 (fun _ h9 => h9) rfl dX4_hasRoomFor_1 ?_
  refine lv_iload_n hx hb dX4_hasRoomFor_4 rfl (lv_at hl 2 rfl) ?_
  have h5 := hw.1
  have hw := hw.2
  refine va_iald hx hb hK hP 3 0 rfl rfl h5 dX4_hasRoomFor_5 ?_
  refine lv_topi (fun v5 e5 => ?_)
  have hw := hw v5 e5
  refine lv_if_ne (tgt := 34) hx hb dX4_hasRoomFor_6 (by decide) (fun c6 => ?_) (fun c6 => ?_)
  · have hw := hw.1 c6
    refine lv_iconst (v := (0 : Int32)) hx hb dX4_hasRoomFor_34 kI_0 ?_
    rw [hZ]
    exact cx_retz () hx hb hr hlocks rfl hw hP hS dX4_hasRoomFor_35
  · have hw := hw.2 c6
    refine lv_aload_n hx hb dX4_hasRoomFor_9 rfl (lv_at hl 0 rfl) ?_
    refine va_get (D := D) (ci := 4) (v := .ref aK) (C := RX4) (T := TX4) (N := 15) hx hb hts in_X4_hasRoomFor_X4 hown hK hP 2 rfl rfl 0 (by decide) k_1 (fun _ h9 => h9) rfl dX4_hasRoomFor_10 ?_
    refine va_get (D := D) (ci := 1) (v := .ref aK_kinds) (C := RX1) (T := TX1) (N := 13) hx hb hts in_X4_hasRoomFor_X1 hown hK hP 0 rfl rfl 3 (by decide) k_2 (fun _ h9 => h9) rfl dX4_hasRoomFor_13 ?_
    refine lv_iload_n hx hb dX4_hasRoomFor_16 rfl (lv_at hl 1 rfl) ?_
    have h17 := hw.1
    have hw := hw.2
    refine va_iald hx hb hK hP 1 0 rfl rfl h17 dX4_hasRoomFor_17 ?_
    refine lv_topi (fun v17 e17 => ?_)
    have hw := hw v17 e17
    refine lv_iconst (v := (2 : Int32)) hx hb dX4_hasRoomFor_18 kI_2 ?_
    refine lv_icmp_ne (tgt := 30) hx hb dX4_hasRoomFor_19 (by decide) (fun c19 => ?_) (fun c19 => ?_)
    · have hw := hw.1 c19
      refine lv_iconst (v := (1 : Int32)) hx hb dX4_hasRoomFor_30 kI_1 ?_
      refine lv_goto (tgt := 35) hx hb dX4_hasRoomFor_31 (by decide) ?_
      rw [hZ]
      exact cx_retz () hx hb hr hlocks rfl hw hP hS dX4_hasRoomFor_35
    · have hw := hw.2 c19
      refine lv_aload_n hx hb dX4_hasRoomFor_22 rfl (lv_at hl 0 rfl) ?_
      refine lv_iload_n hx hb dX4_hasRoomFor_23 rfl (lv_at hl 2 rfl) ?_
      refine cx_goi (va_runV (As := [.int p2]) (rest := []) ⟨hx, hb, hml, hown, hts⟩ (c_X4_isRightFree l D cI cJ cZ cO tS tT H.size aS aK aS_cells aS_fits aS_fitsInLine aS_stale aS_staleCells aS_seen aS_queue S_pieces S_grown S_fitsInAll S_staleCount S_atLeast1 S_atLeast2 S_atLeast3 S_cells p2 _ hw) (cwV 1 hts gX4_hasRoomFor_X4_isRightFree rfl rfl rfl pv_X4_isRightFree ⟨Nat.le_of_ble_eq_true rfl, Nat.le_of_ble_eq_true rfl⟩) (cx_preV (wc := w_X4_isRightFree cI cJ cZ cO aS aK aS_cells aS_fits aS_fitsInLine aS_stale aS_staleCells aS_seen aS_queue S_pieces S_grown S_fitsInAll S_staleCount S_atLeast1 S_atLeast2 S_atLeast3 S_cells) hE hK hP hD hS hA [2, 3] rfl rfl (va_recv hK hP (ci := 4) (q0 := 2) rfl rfl)) rfl rfl hl.1 rfl (lv_room (Nat.le_of_ble_eq_true rfl)) dX4_hasRoomFor_24 ⟨Nat.le_of_ble_eq_true rfl, Nat.le_of_ble_eq_true rfl⟩) (fun (_ : Unit) => (w_X4_hasRoomFor cI cJ cZ cO aK aK_strengths aK_kinds aK_marks aK_faces aK_bars aK_showing aK_showingRight aK_barring aS aS_cells aS_fits aS_fitsInLine aS_stale aS_staleCells aS_seen aS_queue K_warm K_count K_seeds K_blocks K_rivals K_kinds S_pieces S_grown S_fitsInAll S_staleCount S_atLeast1 S_atLeast2 S_atLeast3 S_cells)) [2, 3] [0, 1] (ads := [aS, aS_cells]) (wr := [(aK, .inr (1, [.int K_warm, .int K_count, .ref aK_strengths, .ref aK_kinds, .ref aK_marks, .ref aK_faces, .ref aK_bars, .ref aK_showing, .ref aK_showingRight, .ref aK_barring, .long K_seeds, .long K_blocks, .long K_rivals])), (aK_kinds, .inl (cI, 40, .inl K_kinds))]) rfl rfl (fun u => rfl) (fun u => rfl) rfl (fun u => rfl) rfl (fun u => rfl) rfl hP hD hS hA (fun r24 u H locs hw hP hD hS => ?_)
      have hP : va_P D vwCl (w_X4_hasRoomFor cI cJ cZ cO aK aK_strengths aK_kinds aK_marks aK_faces aK_bars aK_showing aK_showingRight aK_barring aS aS_cells aS_fits aS_fitsInLine aS_stale aS_staleCells aS_seen aS_queue K_warm K_count K_seeds K_blocks K_rivals K_kinds S_pieces S_grown S_fitsInAll S_staleCount S_atLeast1 S_atLeast2 S_atLeast3 S_cells) H := hP
      have hD : va_D A (w_X4_hasRoomFor cI cJ cZ cO aK aK_strengths aK_kinds aK_marks aK_faces aK_bars aK_showing aK_showingRight aK_barring aS aS_cells aS_fits aS_fitsInLine aS_stale aS_staleCells aS_seen aS_queue K_warm K_count K_seeds K_blocks K_rivals K_kinds S_pieces S_grown S_fitsInAll S_staleCount S_atLeast1 S_atLeast2 S_atLeast3 S_cells) := hD
      refine lv_if_eq (tgt := 34) hx hb dX4_hasRoomFor_27 (by decide) (fun c27 => ?_) (fun c27 => ?_)
      · have hw := hw.1 c27
        refine lv_iconst (v := (0 : Int32)) hx hb dX4_hasRoomFor_34 kI_0 ?_
        rw [hZ]
        exact cx_retz () hx hb hr hlocks rfl hw hP hS dX4_hasRoomFor_35
      · have hw := hw.2 c27
        refine lv_iconst (v := (1 : Int32)) hx hb dX4_hasRoomFor_30 kI_1 ?_
        refine lv_goto (tgt := 35) hx hb dX4_hasRoomFor_31 (by decide) ?_
        rw [hZ]
        exact cx_retz () hx hb hr hlocks rfl hw hP hS dX4_hasRoomFor_35
set_option maxRecDepth 100000 in
set_option maxHeartbeats 4000000 in
theorem c_X4_touchAll (l : Launch) (D : va_G) (cI cJ cZ cO : ClassId) (tS tT : Nat) (sz : Nat) (aS aK aS_cells aS_fits aS_fitsInLine aS_stale aS_staleCells aS_seen aS_queue : Nat) (S_pieces : Int32) (S_grown : Int32) (S_fitsInAll : Int32) (S_staleCount : Int32) (S_atLeast1 : Int64) (S_atLeast2 : Int64) (S_atLeast3 : Int64) (S_stale : Nat → Int32) (S_staleCells : Nat → Int32) (Q : (Nat → Int32) → (Nat → Int32) → (Int32) → Prop) (hw : wp_X4_touchAll S_stale S_staleCells S_staleCount Q) : Met l yX4_touchAll wsX4_touchAll rm_X4_touchAll (va_Pc [.ref aS] (cx_B tS tT cI cJ cZ cO D sz (w_X4_touchAll cI cJ cZ cO aS aK aS_cells aS_fits aS_fitsInLine aS_stale aS_staleCells aS_seen aS_queue S_pieces S_grown S_fitsInAll S_staleCount S_atLeast1 S_atLeast2 S_atLeast3 S_stale S_staleCells))) (va_Qv (fun (u : (Nat → Int32) × (Nat → Int32) × (Int32)) => Q u.1 u.2.1 u.2.2) (fun (u : (Nat → Int32) × (Nat → Int32) × (Int32)) t => va_P D vwCl (w_X4_touchAll cI cJ cZ cO aS aK aS_cells aS_fits aS_fitsInLine aS_stale aS_staleCells aS_seen aS_queue S_pieces S_grown S_fitsInAll u.2.2 S_atLeast1 S_atLeast2 S_atLeast3 u.1 u.2.1) t.heap) (va_A (w_X4_touchAll cI cJ cZ cO aS aK aS_cells aS_fits aS_fitsInLine aS_stale aS_staleCells aS_seen aS_queue S_pieces S_grown S_fitsInAll S_staleCount S_atLeast1 S_atLeast2 S_atLeast3 S_stale S_staleCells) sz)) 0 0 (va_A (w_X4_touchAll cI cJ cZ cO aS aK aS_cells aS_fits aS_fitsInLine aS_stale aS_staleCells aS_seen aS_queue S_pieces S_grown S_fitsInAll S_staleCount S_atLeast1 S_atLeast2 S_atLeast3 S_stale S_staleCells) sz) := by
  refine cx_met (cc := cX4_touchAll) (maxL := 2) (ret := none) (Qc := fun A => va_Qv (fun (u : (Nat → Int32) × (Nat → Int32) × (Int32)) => Q u.1 u.2.1 u.2.2) (fun (u : (Nat → Int32) × (Nat → Int32) × (Int32)) t => va_P D vwCl (w_X4_touchAll cI cJ cZ cO aS aK aS_cells aS_fits aS_fitsInLine aS_stale aS_staleCells aS_seen aS_queue S_pieces S_grown S_fitsInAll u.2.2 S_atLeast1 S_atLeast2 S_atLeast3 u.1 u.2.1) t.heap) A) (lv := [(0, .ref aS)]) (by decide) rfl (Nat.le_of_ble_eq_true rfl) rfl ?_
  intro p e s m args below meth c A Z hx hb hr hlocks hts hown hml hE hK hA hZ
  have hown : s.vm.findClass RX4 = some m.cls := hown
  have b_2 : ∀ n_2 : Nat, ∀ (S_stale : Nat → Int32) (S_staleCells : Nat → Int32) (S_staleCount : Int32) (x1 : Int32), wq_X4_touchAll_2  Q n_2 S_stale S_staleCells S_staleCount x1 → ∀ (H : Heap) (locs : List Loc), va_P D vwCl (w_X4_touchAll cI cJ cZ cO aS aK aS_cells aS_fits aS_fitsInLine aS_stale aS_staleCells aS_seen aS_queue S_pieces S_grown S_fitsInAll S_staleCount S_atLeast1 S_atLeast2 S_atLeast3 S_stale S_staleCells) H → va_D A (w_X4_touchAll cI cJ cZ cO aS aK aS_cells aS_fits aS_fitsInLine aS_stale aS_staleCells aS_seen aS_queue S_pieces S_grown S_fitsInAll S_staleCount S_atLeast1 S_atLeast2 S_atLeast3 S_stale S_staleCells) → va_S A s.heap H locs → ∀ ls : Array Slot, lv_has ls 2 [(0, .ref aS), (1, .int x1)] → W p l e rm_X4_touchAll s m args below meth c H locs 0 0 Z (F0 m 2 ls []) := by
    intro n_2
    induction n_2 with
    | zero => intro S_stale S_staleCells S_staleCount x1 hw; exact False.elim hw
    | succ n_2 ih_2 =>
      intro S_stale S_staleCells S_staleCount x1 hw H locs hP hD hS ls hl
      have hw : wf_X4_touchAll_2  Q (wq_X4_touchAll_2  Q n_2) S_stale S_staleCells S_staleCount x1 := hw
      unfold wf_X4_touchAll_2 at hw
      refine lv_iload_n hx hb dX4_touchAll_2 rfl (lv_at hl 1 rfl) ?_
      refine lv_sipush (v := (324 : Int32)) hx hb dX4_touchAll_3 kS_324 ?_
      refine lv_icmp_ge (tgt := 20) hx hb dX4_touchAll_6 (by decide) (fun c6 => ?_) (fun c6 => ?_)
      · have hw := hw.1 c6
        rw [hZ]
        exact cx_retv (S_stale, S_staleCells, S_staleCount) hx hb hr hlocks hw hP hS dX4_touchAll_20
      · have hw := hw.2 c6
        refine lv_aload_n hx hb dX4_touchAll_9 rfl (lv_at hl 0 rfl) ?_
        refine lv_iload_n hx hb dX4_touchAll_10 rfl (lv_at hl 1 rfl) ?_
        refine cx_gov (va_runV (As := [.int x1]) (rest := []) ⟨hx, hb, hml, hown, hts⟩ (c_X4_markStale l D cI cJ cZ cO tS tT H.size aS aK aS_cells aS_fits aS_fitsInLine aS_stale aS_staleCells aS_seen aS_queue S_pieces S_grown S_fitsInAll S_staleCount S_atLeast1 S_atLeast2 S_atLeast3 S_stale S_staleCells x1 _ hw) (cwV 1 hts gX4_touchAll_X4_markStale rfl rfl rfl pv_X4_markStale ⟨Nat.le_of_ble_eq_true rfl, Nat.le_of_ble_eq_true rfl⟩) (cx_preV (wc := w_X4_markStale cI cJ cZ cO aS aK aS_cells aS_fits aS_fitsInLine aS_stale aS_staleCells aS_seen aS_queue S_pieces S_grown S_fitsInAll S_staleCount S_atLeast1 S_atLeast2 S_atLeast3 S_stale S_staleCells) hE hK hP hD hS hA [0, 1, 2] rfl rfl (va_recv hK hP (ci := 4) (q0 := 0) rfl rfl)) rfl rfl hl.1 rfl (lv_room (Nat.le_of_ble_eq_true rfl)) dX4_touchAll_11 ⟨Nat.le_of_ble_eq_true rfl, Nat.le_of_ble_eq_true rfl⟩) (fun (u : (Nat → Int32) × (Nat → Int32) × (Int32)) => (w_X4_touchAll cI cJ cZ cO aS aK aS_cells aS_fits aS_fitsInLine aS_stale aS_staleCells aS_seen aS_queue S_pieces S_grown S_fitsInAll u.2.2 S_atLeast1 S_atLeast2 S_atLeast3 u.1 u.2.1)) [0, 1, 2] [] (ads := [aS, aS_stale, aS_staleCells]) (wr := []) rfl rfl (fun u => rfl) (fun u => rfl) rfl (fun u => rfl) rfl (fun u => rfl) rfl hP hD hS hA (fun u H locs hw hP hD hS => ?_)
        obtain ⟨S_stale_11, S_staleCells_11, S_staleCount_11⟩ := u
        try dsimp only at hw
        have hP : va_P D vwCl (w_X4_touchAll cI cJ cZ cO aS aK aS_cells aS_fits aS_fitsInLine aS_stale aS_staleCells aS_seen aS_queue S_pieces S_grown S_fitsInAll S_staleCount_11 S_atLeast1 S_atLeast2 S_atLeast3 S_stale_11 S_staleCells_11) H := hP
        have hD : va_D A (w_X4_touchAll cI cJ cZ cO aS aK aS_cells aS_fits aS_fitsInLine aS_stale aS_staleCells aS_seen aS_queue S_pieces S_grown S_fitsInAll S_staleCount_11 S_atLeast1 S_atLeast2 S_atLeast3 S_stale_11 S_staleCells_11) := hD
        obtain ⟨v14, e14⟩ : ∃ y : Int32, y = x1 + (1 : Int32) := ⟨_, rfl⟩
        have hw := hw v14 e14
        refine lv_iinc (v := v14) (lv' := [(1, .int v14), (0, .ref aS)]) hx hb dX4_touchAll_14 hl (k := 1) rfl (by rw [e14, kI_1]) (by decide) rfl (fun ls hl => ?_)
        refine lv_goto (tgt := 2) hx hb dX4_touchAll_17 (by decide) ?_
        exact ih_2 S_stale_11 S_staleCells_11 S_staleCount_11 v14 hw H locs hP hD hS ls (lv_sub hl [1, 0] rfl)
  intro H locs hP hD hS ls hl
  unfold wp_X4_touchAll at hw
  refine lv_iconst (v := (0 : Int32)) hx hb dX4_touchAll_0 kI_0 ?_
  refine lv_istore_n (lv' := [(1, .int (0 : Int32)), (0, .ref aS)]) hx hb dX4_touchAll_1 rfl hl (by decide) rfl (fun ls hl => ?_)
  obtain ⟨k, hw⟩ := hw
  exact b_2 k S_stale S_staleCells S_staleCount (0 : Int32) hw H locs hP hD hS ls (lv_sub hl [1, 0] rfl)
set_option maxRecDepth 100000 in
set_option maxHeartbeats 4000000 in
theorem c_X4_sweep (l : Launch) (D : va_G) (cI cJ cZ cO : ClassId) (tS tT : Nat) (sz : Nat) (aS aK aS_cells aS_fits aS_fitsInLine aS_stale aS_staleCells aS_seen aS_queue : Nat) (S_pieces : Int32) (S_grown : Int32) (S_fitsInAll : Int32) (S_staleCount : Int32) (S_atLeast1 : Int64) (S_atLeast2 : Int64) (S_atLeast3 : Int64) (S_cells : Nat → Int32) (S_stale : Nat → Int32) (S_staleCells : Nat → Int32) (Q : (Nat → Int32) → (Int32) → (Int32) → (Nat → Int32) → (Nat → Int32) → (Int32) → Prop) (hw : wp_X4_sweep S_cells S_pieces S_grown S_stale S_staleCells S_staleCount Q) : Met l yX4_sweep wsX4_sweep rm_X4_sweep (va_Pc [.ref aS] (cx_B tS tT cI cJ cZ cO D sz (w_X4_sweep cI cJ cZ cO aS aK aS_cells aS_fits aS_fitsInLine aS_stale aS_staleCells aS_seen aS_queue S_pieces S_grown S_fitsInAll S_staleCount S_atLeast1 S_atLeast2 S_atLeast3 S_cells S_stale S_staleCells))) (va_Qv (fun (u : (Nat → Int32) × (Int32) × (Int32) × (Nat → Int32) × (Nat → Int32) × (Int32)) => Q u.1 u.2.1 u.2.2.1 u.2.2.2.1 u.2.2.2.2.1 u.2.2.2.2.2) (fun (u : (Nat → Int32) × (Int32) × (Int32) × (Nat → Int32) × (Nat → Int32) × (Int32)) t => va_P D vwCl (w_X4_sweep cI cJ cZ cO aS aK aS_cells aS_fits aS_fitsInLine aS_stale aS_staleCells aS_seen aS_queue u.2.1 u.2.2.1 S_fitsInAll u.2.2.2.2.2 S_atLeast1 S_atLeast2 S_atLeast3 u.1 u.2.2.2.1 u.2.2.2.2.1) t.heap) (va_A (w_X4_sweep cI cJ cZ cO aS aK aS_cells aS_fits aS_fitsInLine aS_stale aS_staleCells aS_seen aS_queue S_pieces S_grown S_fitsInAll S_staleCount S_atLeast1 S_atLeast2 S_atLeast3 S_cells S_stale S_staleCells) sz)) 0 0 (va_A (w_X4_sweep cI cJ cZ cO aS aK aS_cells aS_fits aS_fitsInLine aS_stale aS_staleCells aS_seen aS_queue S_pieces S_grown S_fitsInAll S_staleCount S_atLeast1 S_atLeast2 S_atLeast3 S_cells S_stale S_staleCells) sz) := by
  refine cx_met (cc := cX4_sweep) (maxL := 1) (ret := none) (Qc := fun A => va_Qv (fun (u : (Nat → Int32) × (Int32) × (Int32) × (Nat → Int32) × (Nat → Int32) × (Int32)) => Q u.1 u.2.1 u.2.2.1 u.2.2.2.1 u.2.2.2.2.1 u.2.2.2.2.2) (fun (u : (Nat → Int32) × (Int32) × (Int32) × (Nat → Int32) × (Nat → Int32) × (Int32)) t => va_P D vwCl (w_X4_sweep cI cJ cZ cO aS aK aS_cells aS_fits aS_fitsInLine aS_stale aS_staleCells aS_seen aS_queue u.2.1 u.2.2.1 S_fitsInAll u.2.2.2.2.2 S_atLeast1 S_atLeast2 S_atLeast3 u.1 u.2.2.2.1 u.2.2.2.2.1) t.heap) A) (lv := [(0, .ref aS)]) (by decide) rfl (Nat.le_of_ble_eq_true rfl) rfl ?_
  intro p e s m args below meth c A Z hx hb hr hlocks hts hown hml hE hK hA hZ
  have hown : s.vm.findClass RX4 = some m.cls := hown
  have k_0 := hts (.fieldLink RX4 15 "GrowingTiles$Sheet" "cells" "[I") (List.mem_of_getElem? (i := 1) (by decide +kernel))
  have k_1 := hts (.fieldLink RX4 19 "GrowingTiles$Sheet" "pieces" "I") (List.mem_of_getElem? (i := 2) (by decide +kernel))
  have k_2 := hts (.fieldLink RX4 23 "GrowingTiles$Sheet" "grown" "I") (List.mem_of_getElem? (i := 3) (by decide +kernel))
  intro H locs hP hD hS ls hl
  unfold wp_X4_sweep at hw
  refine lv_aload_n hx hb dX4_sweep_0 rfl (lv_at hl 0 rfl) ?_
  refine va_get (D := D) (ci := 4) (v := .ref aS_cells) (C := RX4) (T := TX4) (N := 15) hx hb hts in_X4_sweep_X4 hown hK hP 0 rfl rfl 1 (by decide) k_0 (fun _ h9 => h9) rfl dX4_sweep_1 ?_
  refine lv_iconst (v := (0 : Int32)) hx hb dX4_sweep_4 kI_0 ?_
  refine cx_gov (va_runS (As := [.ref aS_cells, .int (0 : Int32)]) (rest := []) ⟨hx, hb, hml, hown, hts⟩ (c_J7_fill_53178 l D cI cJ cZ cO tS tT H.size aS_cells 324 S_cells (0 : Int32) _ hw) (va_cwS 2 hts gX4_sweep_J7_fill_53178 rfl rfl rfl ps_J7_fill_53178 ⟨Nat.le_of_ble_eq_true rfl, Nat.le_of_ble_eq_true rfl⟩) (cx_preS (wc := w_J7_fill_53178 cI cJ cZ cO aS_cells 324 S_cells) hE hK hP hD hS hA [1] rfl rfl) rfl rfl hl.1 rfl (lv_room (Nat.le_of_ble_eq_true rfl)) dX4_sweep_5 ⟨Nat.le_of_ble_eq_true rfl, Nat.le_of_ble_eq_true rfl⟩) (fun (u : (Nat → Int32)) => (w_X4_sweep cI cJ cZ cO aS aK aS_cells aS_fits aS_fitsInLine aS_stale aS_staleCells aS_seen aS_queue S_pieces S_grown S_fitsInAll S_staleCount S_atLeast1 S_atLeast2 S_atLeast3 u S_stale S_staleCells)) [1] [0, 2, 3] (ads := [aS_cells]) (wr := [(aS, .inr (4, [.ref aK, .ref aS_cells, .int S_pieces, .int S_grown, .ref aS_fits, .ref aS_fitsInLine, .int S_fitsInAll, .ref aS_stale, .ref aS_staleCells, .int S_staleCount, .long S_atLeast1, .long S_atLeast2, .long S_atLeast3, .ref aS_seen, .ref aS_queue])), (aS_stale, .inl (cZ, 324, .inl S_stale)), (aS_staleCells, .inl (cI, 256, .inl S_staleCells))]) rfl rfl (fun u => rfl) (fun u => rfl) rfl (fun u => rfl) rfl (fun u => rfl) rfl hP hD hS hA (fun S_cells_5 H locs hw hP hD hS => ?_)
  try dsimp only at hw
  have hP : va_P D vwCl (w_X4_sweep cI cJ cZ cO aS aK aS_cells aS_fits aS_fitsInLine aS_stale aS_staleCells aS_seen aS_queue S_pieces S_grown S_fitsInAll S_staleCount S_atLeast1 S_atLeast2 S_atLeast3 S_cells_5 S_stale S_staleCells) H := hP
  have hD : va_D A (w_X4_sweep cI cJ cZ cO aS aK aS_cells aS_fits aS_fitsInLine aS_stale aS_staleCells aS_seen aS_queue S_pieces S_grown S_fitsInAll S_staleCount S_atLeast1 S_atLeast2 S_atLeast3 S_cells_5 S_stale S_staleCells) := hD
  refine lv_aload_n hx hb dX4_sweep_8 rfl (lv_at hl 0 rfl) ?_
  refine lv_iconst (v := (0 : Int32)) hx hb dX4_sweep_9 kI_0 ?_
  refine va_put (D := D) (ci := 4) (v := .int (0 : Int32)) (ty := .int) (C := RX4) (T := TX4) (N := 15) hx hb hts in_X4_sweep_X4 tyX4 tyX4_ok nmX4 hown hK hP hD hS 0 rfl rfl 2 (by decide) k_1 (fun _ h9 => h9) rfl (tyX4_ok 2 (by decide)) rfl rfl (Nat.le_of_ble_eq_true rfl) dX4_sweep_10 (fun H locs hP hD hS => ?_)
  have hP : va_P D vwCl (w_X4_sweep cI cJ cZ cO aS aK aS_cells aS_fits aS_fitsInLine aS_stale aS_staleCells aS_seen aS_queue (0 : Int32) S_grown S_fitsInAll S_staleCount S_atLeast1 S_atLeast2 S_atLeast3 S_cells_5 S_stale S_staleCells) H := hP
  have hD : va_D A (w_X4_sweep cI cJ cZ cO aS aK aS_cells aS_fits aS_fitsInLine aS_stale aS_staleCells aS_seen aS_queue (0 : Int32) S_grown S_fitsInAll S_staleCount S_atLeast1 S_atLeast2 S_atLeast3 S_cells_5 S_stale S_staleCells) := hD
  refine lv_aload_n hx hb dX4_sweep_13 rfl (lv_at hl 0 rfl) ?_
  refine lv_iconst (v := (0 : Int32)) hx hb dX4_sweep_14 kI_0 ?_
  refine va_put (D := D) (ci := 4) (v := .int (0 : Int32)) (ty := .int) (C := RX4) (T := TX4) (N := 15) hx hb hts in_X4_sweep_X4 tyX4 tyX4_ok nmX4 hown hK hP hD hS 0 rfl rfl 3 (by decide) k_2 (fun _ h9 => h9) rfl (tyX4_ok 3 (by decide)) rfl rfl (Nat.le_of_ble_eq_true rfl) dX4_sweep_15 (fun H locs hP hD hS => ?_)
  have hP : va_P D vwCl (w_X4_sweep cI cJ cZ cO aS aK aS_cells aS_fits aS_fitsInLine aS_stale aS_staleCells aS_seen aS_queue (0 : Int32) (0 : Int32) S_fitsInAll S_staleCount S_atLeast1 S_atLeast2 S_atLeast3 S_cells_5 S_stale S_staleCells) H := hP
  have hD : va_D A (w_X4_sweep cI cJ cZ cO aS aK aS_cells aS_fits aS_fitsInLine aS_stale aS_staleCells aS_seen aS_queue (0 : Int32) (0 : Int32) S_fitsInAll S_staleCount S_atLeast1 S_atLeast2 S_atLeast3 S_cells_5 S_stale S_staleCells) := hD
  refine lv_aload_n hx hb dX4_sweep_18 rfl (lv_at hl 0 rfl) ?_
  refine cx_gov (va_runV (As := []) (rest := []) ⟨hx, hb, hml, hown, hts⟩ (c_X4_touchAll l D cI cJ cZ cO tS tT H.size aS aK aS_cells aS_fits aS_fitsInLine aS_stale aS_staleCells aS_seen aS_queue (0 : Int32) (0 : Int32) S_fitsInAll S_staleCount S_atLeast1 S_atLeast2 S_atLeast3 S_stale S_staleCells _ hw) (cwV 0 hts gX4_sweep_X4_touchAll rfl rfl rfl pv_X4_touchAll ⟨Nat.le_of_ble_eq_true rfl, Nat.le_of_ble_eq_true rfl⟩) (cx_preV (wc := w_X4_touchAll cI cJ cZ cO aS aK aS_cells aS_fits aS_fitsInLine aS_stale aS_staleCells aS_seen aS_queue (0 : Int32) (0 : Int32) S_fitsInAll S_staleCount S_atLeast1 S_atLeast2 S_atLeast3 S_stale S_staleCells) hE hK hP hD hS hA [0, 2, 3] rfl rfl (va_recv hK hP (ci := 4) (q0 := 0) rfl rfl)) rfl rfl hl.1 rfl (lv_room (Nat.le_of_ble_eq_true rfl)) dX4_sweep_19 ⟨Nat.le_of_ble_eq_true rfl, Nat.le_of_ble_eq_true rfl⟩) (fun (u : (Nat → Int32) × (Nat → Int32) × (Int32)) => (w_X4_sweep cI cJ cZ cO aS aK aS_cells aS_fits aS_fitsInLine aS_stale aS_staleCells aS_seen aS_queue (0 : Int32) (0 : Int32) S_fitsInAll u.2.2 S_atLeast1 S_atLeast2 S_atLeast3 S_cells_5 u.1 u.2.1)) [0, 2, 3] [1] (ads := [aS, aS_stale, aS_staleCells]) (wr := [(aS_cells, .inl (cI, 324, .inl S_cells_5))]) rfl rfl (fun u => rfl) (fun u => rfl) rfl (fun u => rfl) rfl (fun u => rfl) rfl hP hD hS hA (fun u H locs hw hP hD hS => ?_)
  obtain ⟨S_stale_19, S_staleCells_19, S_staleCount_19⟩ := u
  try dsimp only at hw
  have hP : va_P D vwCl (w_X4_sweep cI cJ cZ cO aS aK aS_cells aS_fits aS_fitsInLine aS_stale aS_staleCells aS_seen aS_queue (0 : Int32) (0 : Int32) S_fitsInAll S_staleCount_19 S_atLeast1 S_atLeast2 S_atLeast3 S_cells_5 S_stale_19 S_staleCells_19) H := hP
  have hD : va_D A (w_X4_sweep cI cJ cZ cO aS aK aS_cells aS_fits aS_fitsInLine aS_stale aS_staleCells aS_seen aS_queue (0 : Int32) (0 : Int32) S_fitsInAll S_staleCount_19 S_atLeast1 S_atLeast2 S_atLeast3 S_cells_5 S_stale_19 S_staleCells_19) := hD
  rw [hZ]
  exact cx_retv (S_cells_5, (0 : Int32), (0 : Int32), S_stale_19, S_staleCells_19, S_staleCount_19) hx hb hr hlocks hw hP hS dX4_sweep_22
set_option maxRecDepth 100000 in
set_option maxHeartbeats 4000000 in
theorem c_X4_layOut (l : Launch) (D : va_G) (cI cJ cZ cO : ClassId) (tS tT : Nat) (sz : Nat) (aA aK aK_strengths aK_kinds aK_marks aK_faces aK_bars aK_showing aK_showingRight aK_barring aS aS_cells aS_fits aS_fitsInLine aS_stale aS_staleCells aS_seen aS_queue : Nat) (nA : Nat) (arr : Nat → Int32) (K_warm : Int32) (K_count : Int32) (K_seeds : Int64) (K_blocks : Int64) (K_rivals : Int64) (K_kinds : Nat → Int32) (S_pieces : Int32) (S_grown : Int32) (S_fitsInAll : Int32) (S_staleCount : Int32) (S_atLeast1 : Int64) (S_atLeast2 : Int64) (S_atLeast3 : Int64) (S_cells : Nat → Int32) (S_stale : Nat → Int32) (S_staleCells : Nat → Int32) (Q : (Nat → Int32) → (Int32) → (Int32) → (Nat → Int32) → (Nat → Int32) → (Int32) → Prop) (hw : wp_X4_layOut nA arr K_kinds S_cells S_pieces S_grown S_stale S_staleCells S_staleCount Q) : Met l yX4_layOut wsX4_layOut rm_X4_layOut (va_Pc [.ref aS, .ref aA] (cx_B tS tT cI cJ cZ cO D sz (w_X4_layOut cI cJ cZ cO aA aK aK_strengths aK_kinds aK_marks aK_faces aK_bars aK_showing aK_showingRight aK_barring aS aS_cells aS_fits aS_fitsInLine aS_stale aS_staleCells aS_seen aS_queue nA arr K_warm K_count K_seeds K_blocks K_rivals K_kinds S_pieces S_grown S_fitsInAll S_staleCount S_atLeast1 S_atLeast2 S_atLeast3 S_cells S_stale S_staleCells))) (va_Qv (fun (u : (Nat → Int32) × (Int32) × (Int32) × (Nat → Int32) × (Nat → Int32) × (Int32)) => Q u.1 u.2.1 u.2.2.1 u.2.2.2.1 u.2.2.2.2.1 u.2.2.2.2.2) (fun (u : (Nat → Int32) × (Int32) × (Int32) × (Nat → Int32) × (Nat → Int32) × (Int32)) t => va_P D vwCl (w_X4_layOut cI cJ cZ cO aA aK aK_strengths aK_kinds aK_marks aK_faces aK_bars aK_showing aK_showingRight aK_barring aS aS_cells aS_fits aS_fitsInLine aS_stale aS_staleCells aS_seen aS_queue nA arr K_warm K_count K_seeds K_blocks K_rivals K_kinds u.2.1 u.2.2.1 S_fitsInAll u.2.2.2.2.2 S_atLeast1 S_atLeast2 S_atLeast3 u.1 u.2.2.2.1 u.2.2.2.2.1) t.heap) (va_A (w_X4_layOut cI cJ cZ cO aA aK aK_strengths aK_kinds aK_marks aK_faces aK_bars aK_showing aK_showingRight aK_barring aS aS_cells aS_fits aS_fitsInLine aS_stale aS_staleCells aS_seen aS_queue nA arr K_warm K_count K_seeds K_blocks K_rivals K_kinds S_pieces S_grown S_fitsInAll S_staleCount S_atLeast1 S_atLeast2 S_atLeast3 S_cells S_stale S_staleCells) sz)) 0 0 (va_A (w_X4_layOut cI cJ cZ cO aA aK aK_strengths aK_kinds aK_marks aK_faces aK_bars aK_showing aK_showingRight aK_barring aS aS_cells aS_fits aS_fitsInLine aS_stale aS_staleCells aS_seen aS_queue nA arr K_warm K_count K_seeds K_blocks K_rivals K_kinds S_pieces S_grown S_fitsInAll S_staleCount S_atLeast1 S_atLeast2 S_atLeast3 S_cells S_stale S_staleCells) sz) := by
  refine cx_met (cc := cX4_layOut) (maxL := 4) (ret := none) (Qc := fun A => va_Qv (fun (u : (Nat → Int32) × (Int32) × (Int32) × (Nat → Int32) × (Nat → Int32) × (Int32)) => Q u.1 u.2.1 u.2.2.1 u.2.2.2.1 u.2.2.2.2.1 u.2.2.2.2.2) (fun (u : (Nat → Int32) × (Int32) × (Int32) × (Nat → Int32) × (Nat → Int32) × (Int32)) t => va_P D vwCl (w_X4_layOut cI cJ cZ cO aA aK aK_strengths aK_kinds aK_marks aK_faces aK_bars aK_showing aK_showingRight aK_barring aS aS_cells aS_fits aS_fitsInLine aS_stale aS_staleCells aS_seen aS_queue nA arr K_warm K_count K_seeds K_blocks K_rivals K_kinds u.2.1 u.2.2.1 S_fitsInAll u.2.2.2.2.2 S_atLeast1 S_atLeast2 S_atLeast3 u.1 u.2.2.2.1 u.2.2.2.2.1) t.heap) A) (lv := [(0, .ref aS), (1, .ref aA)]) (by decide) rfl (Nat.le_of_ble_eq_true rfl) rfl ?_
  intro p e s m args below meth c A Z hx hb hr hlocks hts hown hml hE hK hA hZ
  have hown : s.vm.findClass RX4 = some m.cls := hown
  have k_0 := hts (.fieldLink RX4 23 "GrowingTiles$Sheet" "grown" "I") (List.mem_of_getElem? (i := 7) (by decide +kernel))
  have k_1 := hts (.fieldLink RX4 15 "GrowingTiles$Sheet" "cells" "[I") (List.mem_of_getElem? (i := 1) (by decide +kernel))
  have k_2 := hts (.fieldLink RX4 19 "GrowingTiles$Sheet" "pieces" "I") (List.mem_of_getElem? (i := 6) (by decide +kernel))
  have k_3 := hts (.fieldLink RX4 9 "GrowingTiles$Sheet" "kit" "LGrowingTiles$Kit;") (List.mem_of_getElem? (i := 8) (by decide +kernel))
  have k_4 := hts (.fieldLink RX4 52 "GrowingTiles$Kit" "kinds" "[I") (List.mem_of_getElem? (i := 9) (by decide +kernel))
  have k_5 := hts (.methodLink RX4 81 arraycopyName) (List.mem_of_getElem? (i := 2) (by decide +kernel))
  have k_6 := hts (.native arraycopyName) (List.mem_of_getElem? (i := 3) (by decide +kernel))
  have k_7 := hts (.static arraycopyName) (List.mem_of_getElem? (i := 4) (by decide +kernel))
  have k_8 := hts (.initialized "java/lang/System") (List.mem_of_getElem? (i := 5) (by decide +kernel))
  have b_25 : ∀ n_25 : Nat, ∀ (S_cells : Nat → Int32) (S_pieces : Int32) (S_grown : Int32) (S_stale : Nat → Int32) (S_staleCells : Nat → Int32) (S_staleCount : Int32) (x2 : Int32), wq_X4_layOut_25 nA arr K_kinds Q n_25 S_cells S_pieces S_grown S_stale S_staleCells S_staleCount x2 → ∀ (H : Heap) (locs : List Loc), va_P D vwCl (w_X4_layOut cI cJ cZ cO aA aK aK_strengths aK_kinds aK_marks aK_faces aK_bars aK_showing aK_showingRight aK_barring aS aS_cells aS_fits aS_fitsInLine aS_stale aS_staleCells aS_seen aS_queue nA arr K_warm K_count K_seeds K_blocks K_rivals K_kinds S_pieces S_grown S_fitsInAll S_staleCount S_atLeast1 S_atLeast2 S_atLeast3 S_cells S_stale S_staleCells) H → va_D A (w_X4_layOut cI cJ cZ cO aA aK aK_strengths aK_kinds aK_marks aK_faces aK_bars aK_showing aK_showingRight aK_barring aS aS_cells aS_fits aS_fitsInLine aS_stale aS_staleCells aS_seen aS_queue nA arr K_warm K_count K_seeds K_blocks K_rivals K_kinds S_pieces S_grown S_fitsInAll S_staleCount S_atLeast1 S_atLeast2 S_atLeast3 S_cells S_stale S_staleCells) → va_S A s.heap H locs → ∀ ls : Array Slot, lv_has ls 4 [(0, .ref aS), (2, .int x2)] → W p l e rm_X4_layOut s m args below meth c H locs 0 0 Z (F0 m 25 ls []) := by
    intro n_25
    induction n_25 with
    | zero => intro S_cells S_pieces S_grown S_stale S_staleCells S_staleCount x2 hw; exact False.elim hw
    | succ n_25 ih_25 =>
      have b_84 : ∀ (S_cells : Nat → Int32) (S_pieces : Int32) (S_grown : Int32) (S_stale : Nat → Int32) (S_staleCells : Nat → Int32) (S_staleCount : Int32) (x2 : Int32) (y1 : Int32) (y2 : Int32), wq_X4_layOut_84 nA arr K_kinds (wq_X4_layOut_25 nA arr K_kinds Q n_25) Q S_cells S_pieces S_grown S_stale S_staleCells S_staleCount x2 y1 y2 → ∀ (H : Heap) (locs : List Loc), va_P D vwCl (w_X4_layOut cI cJ cZ cO aA aK aK_strengths aK_kinds aK_marks aK_faces aK_bars aK_showing aK_showingRight aK_barring aS aS_cells aS_fits aS_fitsInLine aS_stale aS_staleCells aS_seen aS_queue nA arr K_warm K_count K_seeds K_blocks K_rivals K_kinds S_pieces S_grown S_fitsInAll S_staleCount S_atLeast1 S_atLeast2 S_atLeast3 S_cells S_stale S_staleCells) H → va_D A (w_X4_layOut cI cJ cZ cO aA aK aK_strengths aK_kinds aK_marks aK_faces aK_bars aK_showing aK_showingRight aK_barring aS aS_cells aS_fits aS_fitsInLine aS_stale aS_staleCells aS_seen aS_queue nA arr K_warm K_count K_seeds K_blocks K_rivals K_kinds S_pieces S_grown S_fitsInAll S_staleCount S_atLeast1 S_atLeast2 S_atLeast3 S_cells S_stale S_staleCells) → va_S A s.heap H locs → ∀ ls : Array Slot, lv_has ls 4 [(0, .ref aS), (2, .int x2)] → W p l e rm_X4_layOut s m args below meth c H locs 0 0 Z (F0 m 84 ls [.int y2, .int y1, .ref aS]) := by
        intro S_cells S_pieces S_grown S_stale S_staleCells S_staleCount x2 y1 y2 hw H locs hP hD hS ls hl
        unfold wq_X4_layOut_84 at hw
        refine lv_iadd hx hb dX4_layOut_84 ?_
        refine lv_topi (fun S_grown_85 e85 => ?_)
        have hw := hw S_grown_85 e85
        refine va_put (D := D) (ci := 4) (v := .int S_grown_85) (ty := .int) (C := RX4) (T := TX4) (N := 15) hx hb hts in_X4_layOut_X4 tyX4 tyX4_ok nmX4 hown hK hP hD hS 3 rfl rfl 3 (by decide) k_0 (fun _ h9 => h9) rfl (tyX4_ok 3 (by decide)) rfl rfl (Nat.le_of_ble_eq_true rfl) dX4_layOut_85 (fun H locs hP hD hS => ?_)
        have hP : va_P D vwCl (w_X4_layOut cI cJ cZ cO aA aK aK_strengths aK_kinds aK_marks aK_faces aK_bars aK_showing aK_showingRight aK_barring aS aS_cells aS_fits aS_fitsInLine aS_stale aS_staleCells aS_seen aS_queue nA arr K_warm K_count K_seeds K_blocks K_rivals K_kinds S_pieces S_grown_85 S_fitsInAll S_staleCount S_atLeast1 S_atLeast2 S_atLeast3 S_cells S_stale S_staleCells) H := hP
        have hD : va_D A (w_X4_layOut cI cJ cZ cO aA aK aK_strengths aK_kinds aK_marks aK_faces aK_bars aK_showing aK_showingRight aK_barring aS aS_cells aS_fits aS_fitsInLine aS_stale aS_staleCells aS_seen aS_queue nA arr K_warm K_count K_seeds K_blocks K_rivals K_kinds S_pieces S_grown_85 S_fitsInAll S_staleCount S_atLeast1 S_atLeast2 S_atLeast3 S_cells S_stale S_staleCells) := hD
        obtain ⟨v88, e88⟩ : ∃ y : Int32, y = x2 + (1 : Int32) := ⟨_, rfl⟩
        have hw := hw v88 e88
        refine lv_iinc (v := v88) (lv' := [(2, .int v88), (0, .ref aS)]) hx hb dX4_layOut_88 hl (k := 1) rfl (by rw [e88, kI_1]) (by decide) rfl (fun ls hl => ?_)
        refine lv_goto (tgt := 25) hx hb dX4_layOut_91 (by decide) ?_
        exact ih_25 S_cells S_pieces S_grown_85 S_stale S_staleCells S_staleCount v88 hw H locs hP hD hS ls (lv_sub hl [1, 0] rfl)
      intro S_cells S_pieces S_grown S_stale S_staleCells S_staleCount x2 hw H locs hP hD hS ls hl
      have hw : wf_X4_layOut_25 nA arr K_kinds Q (wq_X4_layOut_25 nA arr K_kinds Q n_25) S_cells S_pieces S_grown S_stale S_staleCells S_staleCount x2 := hw
      unfold wf_X4_layOut_25 at hw
      refine lv_iload_n hx hb dX4_layOut_25 rfl (lv_at hl 1 rfl) ?_
      refine lv_sipush (v := (324 : Int32)) hx hb dX4_layOut_26 kS_324 ?_
      refine lv_icmp_ge (tgt := 94) hx hb dX4_layOut_29 (by decide) (fun c29 => ?_) (fun c29 => ?_)
      · have hw := hw.1 c29
        refine lv_aload_n hx hb dX4_layOut_94 rfl (lv_at hl 0 rfl) ?_
        refine cx_gov (va_runV (As := []) (rest := []) ⟨hx, hb, hml, hown, hts⟩ (c_X4_touchAll l D cI cJ cZ cO tS tT H.size aS aK aS_cells aS_fits aS_fitsInLine aS_stale aS_staleCells aS_seen aS_queue S_pieces S_grown S_fitsInAll S_staleCount S_atLeast1 S_atLeast2 S_atLeast3 S_stale S_staleCells _ hw) (cwV 0 hts gX4_layOut_X4_touchAll rfl rfl rfl pv_X4_touchAll ⟨Nat.le_of_ble_eq_true rfl, Nat.le_of_ble_eq_true rfl⟩) (cx_preV (wc := w_X4_touchAll cI cJ cZ cO aS aK aS_cells aS_fits aS_fitsInLine aS_stale aS_staleCells aS_seen aS_queue S_pieces S_grown S_fitsInAll S_staleCount S_atLeast1 S_atLeast2 S_atLeast3 S_stale S_staleCells) hE hK hP hD hS hA [3, 5, 6] rfl rfl (va_recv hK hP (ci := 4) (q0 := 3) rfl rfl)) rfl rfl hl.1 rfl (lv_room (Nat.le_of_ble_eq_true rfl)) dX4_layOut_95 ⟨Nat.le_of_ble_eq_true rfl, Nat.le_of_ble_eq_true rfl⟩) (fun (u : (Nat → Int32) × (Nat → Int32) × (Int32)) => (w_X4_layOut cI cJ cZ cO aA aK aK_strengths aK_kinds aK_marks aK_faces aK_bars aK_showing aK_showingRight aK_barring aS aS_cells aS_fits aS_fitsInLine aS_stale aS_staleCells aS_seen aS_queue nA arr K_warm K_count K_seeds K_blocks K_rivals K_kinds S_pieces S_grown S_fitsInAll u.2.2 S_atLeast1 S_atLeast2 S_atLeast3 S_cells u.1 u.2.1)) [3, 5, 6] [0, 1, 2, 4] (ads := [aS, aS_stale, aS_staleCells]) (wr := [(aA, .inl (cI, nA, .inl arr)), (aK, .inr (1, [.int K_warm, .int K_count, .ref aK_strengths, .ref aK_kinds, .ref aK_marks, .ref aK_faces, .ref aK_bars, .ref aK_showing, .ref aK_showingRight, .ref aK_barring, .long K_seeds, .long K_blocks, .long K_rivals])), (aK_kinds, .inl (cI, 40, .inl K_kinds)), (aS_cells, .inl (cI, 324, .inl S_cells))]) rfl rfl (fun u => rfl) (fun u => rfl) rfl (fun u => rfl) rfl (fun u => rfl) rfl hP hD hS hA (fun u H locs hw hP hD hS => ?_)
        obtain ⟨S_stale_95, S_staleCells_95, S_staleCount_95⟩ := u
        try dsimp only at hw
        have hP : va_P D vwCl (w_X4_layOut cI cJ cZ cO aA aK aK_strengths aK_kinds aK_marks aK_faces aK_bars aK_showing aK_showingRight aK_barring aS aS_cells aS_fits aS_fitsInLine aS_stale aS_staleCells aS_seen aS_queue nA arr K_warm K_count K_seeds K_blocks K_rivals K_kinds S_pieces S_grown S_fitsInAll S_staleCount_95 S_atLeast1 S_atLeast2 S_atLeast3 S_cells S_stale_95 S_staleCells_95) H := hP
        have hD : va_D A (w_X4_layOut cI cJ cZ cO aA aK aK_strengths aK_kinds aK_marks aK_faces aK_bars aK_showing aK_showingRight aK_barring aS aS_cells aS_fits aS_fitsInLine aS_stale aS_staleCells aS_seen aS_queue nA arr K_warm K_count K_seeds K_blocks K_rivals K_kinds S_pieces S_grown S_fitsInAll S_staleCount_95 S_atLeast1 S_atLeast2 S_atLeast3 S_cells S_stale_95 S_staleCells_95) := hD
        rw [hZ]
        exact cx_retv (S_cells, S_pieces, S_grown, S_stale_95, S_staleCells_95, S_staleCount_95) hx hb hr hlocks hw hP hS dX4_layOut_98
      · have hw := hw.2 c29
        refine lv_aload_n hx hb dX4_layOut_32 rfl (lv_at hl 0 rfl) ?_
        refine va_get (D := D) (ci := 4) (v := .ref aS_cells) (C := RX4) (T := TX4) (N := 15) hx hb hts in_X4_layOut_X4 hown hK hP 3 rfl rfl 1 (by decide) k_1 (fun _ h9 => h9) rfl dX4_layOut_33 ?_
        refine lv_iload_n hx hb dX4_layOut_36 rfl (lv_at hl 1 rfl) ?_
        have h37 := hw.1
        have hw := hw.2
        refine va_iald hx hb hK hP 4 0 rfl rfl h37 dX4_layOut_37 ?_
        refine lv_topi (fun v37 e37 => ?_)
        have hw := hw v37 e37
        refine lv_istore_n (lv' := [(3, .int v37), (0, .ref aS), (2, .int x2)]) hx hb dX4_layOut_38 rfl hl (by decide) rfl (fun ls hl => ?_)
        refine lv_iload_n hx hb dX4_layOut_39 rfl (lv_at hl 0 rfl) ?_
        refine lv_if_eq (tgt := 88) hx hb dX4_layOut_40 (by decide) (fun c40 => ?_) (fun c40 => ?_)
        · have hw := hw.1 c40
          obtain ⟨v88, e88⟩ : ∃ y : Int32, y = x2 + (1 : Int32) := ⟨_, rfl⟩
          have hw := hw v88 e88
          refine lv_iinc (v := v88) (lv' := [(2, .int v88), (3, .int v37), (0, .ref aS)]) hx hb dX4_layOut_88 hl (k := 2) rfl (by rw [e88, kI_1]) (by decide) rfl (fun ls hl => ?_)
          refine lv_goto (tgt := 25) hx hb dX4_layOut_91 (by decide) ?_
          exact ih_25 S_cells S_pieces S_grown S_stale S_staleCells S_staleCount v88 hw H locs hP hD hS ls (lv_sub hl [2, 0] rfl)
        · have hw := hw.2 c40
          refine lv_iload_n hx hb dX4_layOut_43 rfl (lv_at hl 0 rfl) ?_
          refine lv_bipush (v := (64 : Int32)) hx hb dX4_layOut_44 kB_64 ?_
          refine lv_icmp_gt (tgt := 88) hx hb dX4_layOut_46 (by decide) (fun c46 => ?_) (fun c46 => ?_)
          · have hw := hw.1 c46
            obtain ⟨v88, e88⟩ : ∃ y : Int32, y = x2 + (1 : Int32) := ⟨_, rfl⟩
            have hw := hw v88 e88
            refine lv_iinc (v := v88) (lv' := [(2, .int v88), (3, .int v37), (0, .ref aS)]) hx hb dX4_layOut_88 hl (k := 2) rfl (by rw [e88, kI_1]) (by decide) rfl (fun ls hl => ?_)
            refine lv_goto (tgt := 25) hx hb dX4_layOut_91 (by decide) ?_
            exact ih_25 S_cells S_pieces S_grown S_stale S_staleCells S_staleCount v88 hw H locs hP hD hS ls (lv_sub hl [2, 0] rfl)
          · have hw := hw.2 c46
            refine lv_aload_n hx hb dX4_layOut_49 rfl (lv_at hl 1 rfl) ?_
            refine lv_dup hx hb dX4_layOut_50 rfl ?_
            refine va_get (D := D) (ci := 4) (v := .int S_pieces) (C := RX4) (T := TX4) (N := 15) hx hb hts in_X4_layOut_X4 hown hK hP 3 rfl rfl 2 (by decide) k_2 (fun _ h9 => h9) rfl dX4_layOut_51 ?_
            refine lv_iconst (v := (1 : Int32)) hx hb dX4_layOut_54 kI_1 ?_
            refine lv_iadd hx hb dX4_layOut_55 ?_
            refine lv_topi (fun S_pieces_56 e56 => ?_)
            have hw := hw S_pieces_56 e56
            refine va_put (D := D) (ci := 4) (v := .int S_pieces_56) (ty := .int) (C := RX4) (T := TX4) (N := 15) hx hb hts in_X4_layOut_X4 tyX4 tyX4_ok nmX4 hown hK hP hD hS 3 rfl rfl 2 (by decide) k_2 (fun _ h9 => h9) rfl (tyX4_ok 2 (by decide)) rfl rfl (Nat.le_of_ble_eq_true rfl) dX4_layOut_56 (fun H locs hP hD hS => ?_)
            have hP : va_P D vwCl (w_X4_layOut cI cJ cZ cO aA aK aK_strengths aK_kinds aK_marks aK_faces aK_bars aK_showing aK_showingRight aK_barring aS aS_cells aS_fits aS_fitsInLine aS_stale aS_staleCells aS_seen aS_queue nA arr K_warm K_count K_seeds K_blocks K_rivals K_kinds S_pieces_56 S_grown S_fitsInAll S_staleCount S_atLeast1 S_atLeast2 S_atLeast3 S_cells S_stale S_staleCells) H := hP
            have hD : va_D A (w_X4_layOut cI cJ cZ cO aA aK aK_strengths aK_kinds aK_marks aK_faces aK_bars aK_showing aK_showingRight aK_barring aS aS_cells aS_fits aS_fitsInLine aS_stale aS_staleCells aS_seen aS_queue nA arr K_warm K_count K_seeds K_blocks K_rivals K_kinds S_pieces_56 S_grown S_fitsInAll S_staleCount S_atLeast1 S_atLeast2 S_atLeast3 S_cells S_stale S_staleCells) := hD
            refine lv_aload_n hx hb dX4_layOut_59 rfl (lv_at hl 1 rfl) ?_
            refine lv_dup hx hb dX4_layOut_60 rfl ?_
            refine va_get (D := D) (ci := 4) (v := .int S_grown) (C := RX4) (T := TX4) (N := 15) hx hb hts in_X4_layOut_X4 hown hK hP 3 rfl rfl 3 (by decide) k_0 (fun _ h9 => h9) rfl dX4_layOut_61 ?_
            refine lv_aload_n hx hb dX4_layOut_64 rfl (lv_at hl 1 rfl) ?_
            refine va_get (D := D) (ci := 4) (v := .ref aK) (C := RX4) (T := TX4) (N := 15) hx hb hts in_X4_layOut_X4 hown hK hP 3 rfl rfl 0 (by decide) k_3 (fun _ h9 => h9) rfl dX4_layOut_65 ?_
            refine va_get (D := D) (ci := 1) (v := .ref aK_kinds) (C := RX1) (T := TX1) (N := 13) hx hb hts in_X4_layOut_X1 hown hK hP 1 rfl rfl 3 (by decide) k_4 (fun _ h9 => h9) rfl dX4_layOut_68 ?_
            refine lv_iload_n hx hb dX4_layOut_71 rfl (lv_at hl 0 rfl) ?_
            refine lv_iconst (v := (1 : Int32)) hx hb dX4_layOut_72 kI_1 ?_
            refine lv_isub hx hb dX4_layOut_73 ?_
            have h74 := hw.1
            have hw := hw.2
            refine va_iald hx hb hK hP 2 0 rfl rfl h74 dX4_layOut_74 ?_
            refine lv_topi (fun v74 e74 => ?_)
            have hw := hw v74 e74
            refine lv_iconst (v := (1 : Int32)) hx hb dX4_layOut_75 kI_1 ?_
            refine lv_icmp_ne (tgt := 83) hx hb dX4_layOut_76 (by decide) (fun c76 => ?_) (fun c76 => ?_)
            · have hw := hw.1 c76
              refine lv_iconst (v := (1 : Int32)) hx hb dX4_layOut_83 kI_1 ?_
              exact b_84 S_cells S_pieces_56 S_grown S_stale S_staleCells S_staleCount x2 S_grown (1 : Int32) hw H locs hP hD hS ls (lv_sub hl [1, 2] rfl)
            · have hw := hw.2 c76
              refine lv_iconst (v := (0 : Int32)) hx hb dX4_layOut_79 kI_0 ?_
              refine lv_goto (tgt := 84) hx hb dX4_layOut_80 (by decide) ?_
              exact b_84 S_cells S_pieces_56 S_grown S_stale S_staleCells S_staleCount x2 S_grown (0 : Int32) hw H locs hP hD hS ls (lv_sub hl [1, 2] rfl)
  intro H locs hP hD hS ls hl
  unfold wp_X4_layOut at hw
  refine lv_aload_n hx hb dX4_layOut_0 rfl (lv_at hl 1 rfl) ?_
  refine lv_iconst (v := (0 : Int32)) hx hb dX4_layOut_1 kI_0 ?_
  refine lv_aload_n hx hb dX4_layOut_2 rfl (lv_at hl 0 rfl) ?_
  refine va_get (D := D) (ci := 4) (v := .ref aS_cells) (C := RX4) (T := TX4) (N := 15) hx hb hts in_X4_layOut_X4 hown hK hP 3 rfl rfl 1 (by decide) k_1 (fun _ h9 => h9) rfl dX4_layOut_3 ?_
  refine lv_iconst (v := (0 : Int32)) hx hb dX4_layOut_6 kI_0 ?_
  refine lv_sipush (v := (324 : Int32)) hx hb dX4_layOut_7 kS_324 ?_
  have h10 := hw.1
  have hw := hw.2
  refine va_copyi (ty := .int) hx hb (hml.trans hl.1.symm) hown k_5 k_6 k_7 k_8 hK hP hD hS 0 4 0 0 rfl rfl rfl rfl rfl (by decide) (by decide) (by decide) h10 (by decide) (fun _ _ => rfl) (Nat.le_of_ble_eq_true rfl) (by decide) dX4_layOut_10 (fun H locs hP hD hS => ?_)
  have hP : va_P D vwCl (w_X4_layOut cI cJ cZ cO aA aK aK_strengths aK_kinds aK_marks aK_faces aK_bars aK_showing aK_showingRight aK_barring aS aS_cells aS_fits aS_fitsInLine aS_stale aS_staleCells aS_seen aS_queue nA arr K_warm K_count K_seeds K_blocks K_rivals K_kinds S_pieces S_grown S_fitsInAll S_staleCount S_atLeast1 S_atLeast2 S_atLeast3 (va_cpy arr S_cells (0 : Int32).toNatClampNeg (0 : Int32).toNatClampNeg (324 : Int32).toNatClampNeg) S_stale S_staleCells) H := hP
  have hD : va_D A (w_X4_layOut cI cJ cZ cO aA aK aK_strengths aK_kinds aK_marks aK_faces aK_bars aK_showing aK_showingRight aK_barring aS aS_cells aS_fits aS_fitsInLine aS_stale aS_staleCells aS_seen aS_queue nA arr K_warm K_count K_seeds K_blocks K_rivals K_kinds S_pieces S_grown S_fitsInAll S_staleCount S_atLeast1 S_atLeast2 S_atLeast3 (va_cpy arr S_cells (0 : Int32).toNatClampNeg (0 : Int32).toNatClampNeg (324 : Int32).toNatClampNeg) S_stale S_staleCells) := hD
  obtain ⟨S_cells_10, e10⟩ : ∃ y : Nat → Int32, y = va_cpy arr S_cells (0 : Int32).toNatClampNeg (0 : Int32).toNatClampNeg (324 : Int32).toNatClampNeg := ⟨_, rfl⟩
  rw [← e10] at hP hD
  have hw := hw S_cells_10 e10
  refine lv_aload_n hx hb dX4_layOut_13 rfl (lv_at hl 0 rfl) ?_
  refine lv_iconst (v := (0 : Int32)) hx hb dX4_layOut_14 kI_0 ?_
  refine va_put (D := D) (ci := 4) (v := .int (0 : Int32)) (ty := .int) (C := RX4) (T := TX4) (N := 15) hx hb hts in_X4_layOut_X4 tyX4 tyX4_ok nmX4 hown hK hP hD hS 3 rfl rfl 2 (by decide) k_2 (fun _ h9 => h9) rfl (tyX4_ok 2 (by decide)) rfl rfl (Nat.le_of_ble_eq_true rfl) dX4_layOut_15 (fun H locs hP hD hS => ?_)
  have hP : va_P D vwCl (w_X4_layOut cI cJ cZ cO aA aK aK_strengths aK_kinds aK_marks aK_faces aK_bars aK_showing aK_showingRight aK_barring aS aS_cells aS_fits aS_fitsInLine aS_stale aS_staleCells aS_seen aS_queue nA arr K_warm K_count K_seeds K_blocks K_rivals K_kinds (0 : Int32) S_grown S_fitsInAll S_staleCount S_atLeast1 S_atLeast2 S_atLeast3 S_cells_10 S_stale S_staleCells) H := hP
  have hD : va_D A (w_X4_layOut cI cJ cZ cO aA aK aK_strengths aK_kinds aK_marks aK_faces aK_bars aK_showing aK_showingRight aK_barring aS aS_cells aS_fits aS_fitsInLine aS_stale aS_staleCells aS_seen aS_queue nA arr K_warm K_count K_seeds K_blocks K_rivals K_kinds (0 : Int32) S_grown S_fitsInAll S_staleCount S_atLeast1 S_atLeast2 S_atLeast3 S_cells_10 S_stale S_staleCells) := hD
  refine lv_aload_n hx hb dX4_layOut_18 rfl (lv_at hl 0 rfl) ?_
  refine lv_iconst (v := (0 : Int32)) hx hb dX4_layOut_19 kI_0 ?_
  refine va_put (D := D) (ci := 4) (v := .int (0 : Int32)) (ty := .int) (C := RX4) (T := TX4) (N := 15) hx hb hts in_X4_layOut_X4 tyX4 tyX4_ok nmX4 hown hK hP hD hS 3 rfl rfl 3 (by decide) k_0 (fun _ h9 => h9) rfl (tyX4_ok 3 (by decide)) rfl rfl (Nat.le_of_ble_eq_true rfl) dX4_layOut_20 (fun H locs hP hD hS => ?_)
  have hP : va_P D vwCl (w_X4_layOut cI cJ cZ cO aA aK aK_strengths aK_kinds aK_marks aK_faces aK_bars aK_showing aK_showingRight aK_barring aS aS_cells aS_fits aS_fitsInLine aS_stale aS_staleCells aS_seen aS_queue nA arr K_warm K_count K_seeds K_blocks K_rivals K_kinds (0 : Int32) (0 : Int32) S_fitsInAll S_staleCount S_atLeast1 S_atLeast2 S_atLeast3 S_cells_10 S_stale S_staleCells) H := hP
  have hD : va_D A (w_X4_layOut cI cJ cZ cO aA aK aK_strengths aK_kinds aK_marks aK_faces aK_bars aK_showing aK_showingRight aK_barring aS aS_cells aS_fits aS_fitsInLine aS_stale aS_staleCells aS_seen aS_queue nA arr K_warm K_count K_seeds K_blocks K_rivals K_kinds (0 : Int32) (0 : Int32) S_fitsInAll S_staleCount S_atLeast1 S_atLeast2 S_atLeast3 S_cells_10 S_stale S_staleCells) := hD
  refine lv_iconst (v := (0 : Int32)) hx hb dX4_layOut_23 kI_0 ?_
  refine lv_istore_n (lv' := [(2, .int (0 : Int32)), (0, .ref aS), (1, .ref aA)]) hx hb dX4_layOut_24 rfl hl (by decide) rfl (fun ls hl => ?_)
  obtain ⟨k, hw⟩ := hw
  exact b_25 k S_cells_10 (0 : Int32) (0 : Int32) S_stale S_staleCells S_staleCount (0 : Int32) hw H locs hP hD hS ls (lv_sub hl [1, 0] rfl)
set_option maxRecDepth 100000 in
set_option maxHeartbeats 4000000 in
theorem c_X4_fitsAt (l : Launch) (D : va_G) (cI cJ cZ cO : ClassId) (tS tT : Nat) (sz : Nat) (aK aK_strengths aK_kinds aK_marks aK_faces aK_bars aK_showing aK_showingRight aK_barring aS aS_cells aS_fits aS_fitsInLine aS_stale aS_staleCells aS_seen aS_queue : Nat) (K_warm : Int32) (K_count : Int32) (K_seeds : Int64) (K_blocks : Int64) (K_rivals : Int64) (K_strengths : Nat → Int32) (K_faces : Nat → Int32) (K_bars : Nat → Int32) (K_showing : Nat → Int64) (K_showingRight : Nat → Int64) (K_barring : Nat → Int64) (S_pieces : Int32) (S_grown : Int32) (S_fitsInAll : Int32) (S_staleCount : Int32) (S_atLeast1 : Int64) (S_atLeast2 : Int64) (S_atLeast3 : Int64) (S_cells : Nat → Int32) (S_fits : Nat → Int64) (S_fitsInLine : Nat → Int32) (S_stale : Nat → Int32) (S_staleCells : Nat → Int32) (p1 : Int32) (p2 : Int32) (Q : Int32 → (Nat → Int64) → (Nat → Int32) → (Int32) → (Nat → Int32) → (Int32) → (Int64) → (Int64) → (Int64) → Prop) (hw : wp_X4_fitsAt K_warm K_strengths K_faces K_bars K_showing K_showingRight K_barring K_seeds K_blocks S_cells S_staleCells S_fits S_fitsInLine S_fitsInAll S_stale S_staleCount S_atLeast1 S_atLeast2 S_atLeast3 p1 p2 Q) : Met l yX4_fitsAt wsX4_fitsAt rm_X4_fitsAt (va_Pc [.ref aS, .int p1, .int p2] (cx_B tS tT cI cJ cZ cO D sz (w_X4_fitsAt cI cJ cZ cO aK aK_strengths aK_kinds aK_marks aK_faces aK_bars aK_showing aK_showingRight aK_barring aS aS_cells aS_fits aS_fitsInLine aS_stale aS_staleCells aS_seen aS_queue K_warm K_count K_seeds K_blocks K_rivals K_strengths K_faces K_bars K_showing K_showingRight K_barring S_pieces S_grown S_fitsInAll S_staleCount S_atLeast1 S_atLeast2 S_atLeast3 S_cells S_fits S_fitsInLine S_stale S_staleCells))) (va_Qi (fun (r : Int32) (u : (Nat → Int64) × (Nat → Int32) × (Int32) × (Nat → Int32) × (Int32) × (Int64) × (Int64) × (Int64)) => Q r u.1 u.2.1 u.2.2.1 u.2.2.2.1 u.2.2.2.2.1 u.2.2.2.2.2.1 u.2.2.2.2.2.2.1 u.2.2.2.2.2.2.2) (fun (u : (Nat → Int64) × (Nat → Int32) × (Int32) × (Nat → Int32) × (Int32) × (Int64) × (Int64) × (Int64)) t => va_P D vwCl (w_X4_fitsAt cI cJ cZ cO aK aK_strengths aK_kinds aK_marks aK_faces aK_bars aK_showing aK_showingRight aK_barring aS aS_cells aS_fits aS_fitsInLine aS_stale aS_staleCells aS_seen aS_queue K_warm K_count K_seeds K_blocks K_rivals K_strengths K_faces K_bars K_showing K_showingRight K_barring S_pieces S_grown u.2.2.1 u.2.2.2.2.1 u.2.2.2.2.2.1 u.2.2.2.2.2.2.1 u.2.2.2.2.2.2.2 S_cells u.1 u.2.1 u.2.2.2.1 S_staleCells) t.heap) (va_A (w_X4_fitsAt cI cJ cZ cO aK aK_strengths aK_kinds aK_marks aK_faces aK_bars aK_showing aK_showingRight aK_barring aS aS_cells aS_fits aS_fitsInLine aS_stale aS_staleCells aS_seen aS_queue K_warm K_count K_seeds K_blocks K_rivals K_strengths K_faces K_bars K_showing K_showingRight K_barring S_pieces S_grown S_fitsInAll S_staleCount S_atLeast1 S_atLeast2 S_atLeast3 S_cells S_fits S_fitsInLine S_stale S_staleCells) sz)) 0 0 (va_A (w_X4_fitsAt cI cJ cZ cO aK aK_strengths aK_kinds aK_marks aK_faces aK_bars aK_showing aK_showingRight aK_barring aS aS_cells aS_fits aS_fitsInLine aS_stale aS_staleCells aS_seen aS_queue K_warm K_count K_seeds K_blocks K_rivals K_strengths K_faces K_bars K_showing K_showingRight K_barring S_pieces S_grown S_fitsInAll S_staleCount S_atLeast1 S_atLeast2 S_atLeast3 S_cells S_fits S_fitsInLine S_stale S_staleCells) sz) := by
  refine cx_met (cc := cX4_fitsAt) (maxL := 3) (ret := (some .boolean)) (Qc := fun A => va_Qi (fun (r : Int32) (u : (Nat → Int64) × (Nat → Int32) × (Int32) × (Nat → Int32) × (Int32) × (Int64) × (Int64) × (Int64)) => Q r u.1 u.2.1 u.2.2.1 u.2.2.2.1 u.2.2.2.2.1 u.2.2.2.2.2.1 u.2.2.2.2.2.2.1 u.2.2.2.2.2.2.2) (fun (u : (Nat → Int64) × (Nat → Int32) × (Int32) × (Nat → Int32) × (Int32) × (Int64) × (Int64) × (Int64)) t => va_P D vwCl (w_X4_fitsAt cI cJ cZ cO aK aK_strengths aK_kinds aK_marks aK_faces aK_bars aK_showing aK_showingRight aK_barring aS aS_cells aS_fits aS_fitsInLine aS_stale aS_staleCells aS_seen aS_queue K_warm K_count K_seeds K_blocks K_rivals K_strengths K_faces K_bars K_showing K_showingRight K_barring S_pieces S_grown u.2.2.1 u.2.2.2.2.1 u.2.2.2.2.2.1 u.2.2.2.2.2.2.1 u.2.2.2.2.2.2.2 S_cells u.1 u.2.1 u.2.2.2.1 S_staleCells) t.heap) A) (lv := [(0, .ref aS), (1, .int p1), (2, .int p2)]) (by decide) rfl (Nat.le_of_ble_eq_true rfl) rfl ?_
  intro p e s m args below meth c A Z hx hb hr hlocks hts hown hml hE hK hA hZ
  have hown : s.vm.findClass RX4 = some m.cls := hown
  have k_0 := hts (.fieldLink RX4 26 "GrowingTiles$Sheet" "fits" "[J") (List.mem_of_getElem? (i := 1) (by decide +kernel))
  intro H locs hP hD hS ls hl
  unfold wp_X4_fitsAt at hw
  refine lv_aload_n hx hb dX4_fitsAt_0 rfl (lv_at hl 0 rfl) ?_
  refine cx_gov (va_runV (As := []) (rest := []) ⟨hx, hb, hml, hown, hts⟩ (c_X4_renewStale l D cI cJ cZ cO tS tT H.size aK aK_strengths aK_kinds aK_marks aK_faces aK_bars aK_showing aK_showingRight aK_barring aS aS_cells aS_fits aS_fitsInLine aS_stale aS_staleCells aS_seen aS_queue K_warm K_count K_seeds K_blocks K_rivals K_strengths K_faces K_bars K_showing K_showingRight K_barring S_pieces S_grown S_fitsInAll S_staleCount S_atLeast1 S_atLeast2 S_atLeast3 S_cells S_fits S_fitsInLine S_stale S_staleCells _ hw) (cwV 0 hts gX4_fitsAt_X4_renewStale rfl rfl rfl pv_X4_renewStale ⟨Nat.le_of_ble_eq_true rfl, Nat.le_of_ble_eq_true rfl⟩) (cx_preV (wc := w_X4_renewStale cI cJ cZ cO aK aK_strengths aK_kinds aK_marks aK_faces aK_bars aK_showing aK_showingRight aK_barring aS aS_cells aS_fits aS_fitsInLine aS_stale aS_staleCells aS_seen aS_queue K_warm K_count K_seeds K_blocks K_rivals K_strengths K_faces K_bars K_showing K_showingRight K_barring S_pieces S_grown S_fitsInAll S_staleCount S_atLeast1 S_atLeast2 S_atLeast3 S_cells S_fits S_fitsInLine S_stale S_staleCells) hE hK hP hD hS hA [0, 1, 2, 3, 4, 5, 6, 7, 8, 9, 10, 11, 12] rfl rfl (va_recv hK hP (ci := 4) (q0 := 7) rfl rfl)) rfl rfl hl.1 rfl (lv_room (Nat.le_of_ble_eq_true rfl)) dX4_fitsAt_1 ⟨Nat.le_of_ble_eq_true rfl, Nat.le_of_ble_eq_true rfl⟩) (fun (u : (Nat → Int64) × (Nat → Int32) × (Int32) × (Nat → Int32) × (Int32) × (Int64) × (Int64) × (Int64)) => (w_X4_fitsAt cI cJ cZ cO aK aK_strengths aK_kinds aK_marks aK_faces aK_bars aK_showing aK_showingRight aK_barring aS aS_cells aS_fits aS_fitsInLine aS_stale aS_staleCells aS_seen aS_queue K_warm K_count K_seeds K_blocks K_rivals K_strengths K_faces K_bars K_showing K_showingRight K_barring S_pieces S_grown u.2.2.1 u.2.2.2.2.1 u.2.2.2.2.2.1 u.2.2.2.2.2.2.1 u.2.2.2.2.2.2.2 S_cells u.1 u.2.1 u.2.2.2.1 S_staleCells)) [0, 1, 2, 3, 4, 5, 6, 7, 8, 9, 10, 11, 12] [] (ads := [aK, aK_strengths, aK_faces, aK_bars, aK_showing, aK_showingRight, aK_barring, aS, aS_cells, aS_fits, aS_fitsInLine, aS_stale, aS_staleCells]) (wr := []) rfl rfl (fun u => rfl) (fun u => rfl) rfl (fun u => rfl) rfl (fun u => rfl) rfl hP hD hS hA (fun u H locs hw hP hD hS => ?_)
  obtain ⟨S_fits_1, S_fitsInLine_1, S_fitsInAll_1, S_stale_1, S_staleCount_1, S_atLeast1_1, S_atLeast2_1, S_atLeast3_1⟩ := u
  try dsimp only at hw
  have hP : va_P D vwCl (w_X4_fitsAt cI cJ cZ cO aK aK_strengths aK_kinds aK_marks aK_faces aK_bars aK_showing aK_showingRight aK_barring aS aS_cells aS_fits aS_fitsInLine aS_stale aS_staleCells aS_seen aS_queue K_warm K_count K_seeds K_blocks K_rivals K_strengths K_faces K_bars K_showing K_showingRight K_barring S_pieces S_grown S_fitsInAll_1 S_staleCount_1 S_atLeast1_1 S_atLeast2_1 S_atLeast3_1 S_cells S_fits_1 S_fitsInLine_1 S_stale_1 S_staleCells) H := hP
  have hD : va_D A (w_X4_fitsAt cI cJ cZ cO aK aK_strengths aK_kinds aK_marks aK_faces aK_bars aK_showing aK_showingRight aK_barring aS aS_cells aS_fits aS_fitsInLine aS_stale aS_staleCells aS_seen aS_queue K_warm K_count K_seeds K_blocks K_rivals K_strengths K_faces K_bars K_showing K_showingRight K_barring S_pieces S_grown S_fitsInAll_1 S_staleCount_1 S_atLeast1_1 S_atLeast2_1 S_atLeast3_1 S_cells S_fits_1 S_fitsInLine_1 S_stale_1 S_staleCells) := hD
  refine lv_aload_n hx hb dX4_fitsAt_4 rfl (lv_at hl 0 rfl) ?_
  refine va_get (D := D) (ci := 4) (v := .ref aS_fits) (C := RX4) (T := TX4) (N := 15) hx hb hts in_X4_fitsAt_X4 hown hK hP 7 rfl rfl 4 (by decide) k_0 (fun _ h9 => h9) rfl dX4_fitsAt_5 ?_
  refine lv_iload_n hx hb dX4_fitsAt_8 rfl (lv_at hl 1 rfl) ?_
  have h9 := hw.1
  have hw := hw.2
  refine va_lald hx hb hK hP 9 1 rfl rfl h9 dX4_fitsAt_9 ?_
  refine lv_topl (fun v9 e9 => ?_)
  have hw := hw v9 e9
  refine lv_iload_n hx hb dX4_fitsAt_10 rfl (lv_at hl 2 rfl) ?_
  refine lv_lushr hx hb dX4_fitsAt_11 rfl ?_
  refine lv_lconst (v := (1 : Int64)) hx hb dX4_fitsAt_12 kL_1 ?_
  refine lv_land hx hb dX4_fitsAt_13 ?_
  refine lv_lconst (v := (1 : Int64)) hx hb dX4_fitsAt_14 kL_1 ?_
  refine W.lcmp hx hb dX4_fitsAt_15 ?_
  refine lv_if_ne (tgt := 23) hx hb dX4_fitsAt_16 (by decide) (fun c16 => ?_) (fun c16 => ?_)
  · have hw := hw.1 c16
    refine lv_iconst (v := (0 : Int32)) hx hb dX4_fitsAt_23 kI_0 ?_
    rw [hZ]
    exact cx_retz (S_fits_1, S_fitsInLine_1, S_fitsInAll_1, S_stale_1, S_staleCount_1, S_atLeast1_1, S_atLeast2_1, S_atLeast3_1) hx hb hr hlocks rfl hw hP hS dX4_fitsAt_24
  · have hw := hw.2 c16
    refine lv_iconst (v := (1 : Int32)) hx hb dX4_fitsAt_19 kI_1 ?_
    refine lv_goto (tgt := 24) hx hb dX4_fitsAt_20 (by decide) ?_
    rw [hZ]
    exact cx_retz (S_fits_1, S_fitsInLine_1, S_fitsInAll_1, S_stale_1, S_staleCount_1, S_atLeast1_1, S_atLeast2_1, S_atLeast3_1) hx hb hr hlocks rfl hw hP hS dX4_fitsAt_24
set_option maxRecDepth 100000 in
set_option maxHeartbeats 4000000 in
theorem c_J6_numberOfTrailingZeros_0f7a4 (l : Launch) (D : va_G) (cI cJ cZ cO : ClassId) (tS tT : Nat) (sz : Nat) (p1 : Int32) (Q : Int32 → Prop) (hw : wp_J6_numberOfTrailingZeros_0f7a4 p1 Q) : Met l yJ6_numberOfTrailingZeros_0f7a4 wsJ6_numberOfTrailingZeros_0f7a4 rm_J6_numberOfTrailingZeros_0f7a4 (va_Pc [.int p1] (cx_B tS tT cI cJ cZ cO D sz (w_J6_numberOfTrailingZeros_0f7a4 : va_W))) (va_Qi (fun (r : Int32) (_ : Unit) => Q r) (fun (u : Unit) t => va_P D vwCl (w_J6_numberOfTrailingZeros_0f7a4 : va_W) t.heap) (va_A (w_J6_numberOfTrailingZeros_0f7a4 : va_W) sz)) 0 0 (va_A (w_J6_numberOfTrailingZeros_0f7a4 : va_W) sz) := by
  refine cx_met (cc := cJ6_numberOfTrailingZeros_0f7a4) (maxL := 2) (ret := (some .int)) (Qc := fun A => va_Qi (fun (r : Int32) (_ : Unit) => Q r) (fun (u : Unit) t => va_P D vwCl (w_J6_numberOfTrailingZeros_0f7a4 : va_W) t.heap) A) (lv := [(0, .int p1)]) (by decide) rfl (Nat.le_of_ble_eq_true rfl) rfl ?_
  intro p e s m args below meth c A Z hx hb hr hlocks hts hown hml hE hK hA hZ
  have hown : s.vm.findClass RJ6 = some m.cls := hown
  have k_0 := hts (.constant RJ6 264 (65536 : Int32)) (List.mem_of_getElem? (i := 1) (by decide +kernel))
  have b_74 : ∀ (x0 : Int32) (x1 : Int32), wq_J6_numberOfTrailingZeros_0f7a4_74  Q x0 x1 → ∀ (H : Heap) (locs : List Loc), va_P D vwCl (w_J6_numberOfTrailingZeros_0f7a4 : va_W) H → va_D A (w_J6_numberOfTrailingZeros_0f7a4 : va_W) → va_S A s.heap H locs → ∀ ls : Array Slot, lv_has ls 2 [(0, .int x0), (1, .int x1)] → W p l e rm_J6_numberOfTrailingZeros_0f7a4 s m args below meth c H locs 0 0 Z (F0 m 74 ls []) := by
    intro x0 x1 hw H locs hP hD hS ls hl
    unfold wq_J6_numberOfTrailingZeros_0f7a4_74 at hw
    refine lv_iload_n hx hb dJ6_numberOfTrailingZeros_0f7a4_74 rfl (lv_at hl 1 rfl) ?_
    refine lv_iload_n hx hb dJ6_numberOfTrailingZeros_0f7a4_75 rfl (lv_at hl 0 rfl) ?_
    refine lv_iconst (v := (1 : Int32)) hx hb dJ6_numberOfTrailingZeros_0f7a4_76 kI_1 ?_
    refine lv_iushr hx hb dJ6_numberOfTrailingZeros_0f7a4_77 rfl ?_
    refine lv_iadd hx hb dJ6_numberOfTrailingZeros_0f7a4_78 ?_
    rw [hZ]
    exact cx_reti () hx hb hr hlocks hw hP hS dJ6_numberOfTrailingZeros_0f7a4_79
  have b_62 : ∀ (x0 : Int32) (x1 : Int32), wq_J6_numberOfTrailingZeros_0f7a4_62  Q x0 x1 → ∀ (H : Heap) (locs : List Loc), va_P D vwCl (w_J6_numberOfTrailingZeros_0f7a4 : va_W) H → va_D A (w_J6_numberOfTrailingZeros_0f7a4 : va_W) → va_S A s.heap H locs → ∀ ls : Array Slot, lv_has ls 2 [(0, .int x0), (1, .int x1)] → W p l e rm_J6_numberOfTrailingZeros_0f7a4 s m args below meth c H locs 0 0 Z (F0 m 62 ls []) := by
    intro x0 x1 hw H locs hP hD hS ls hl
    unfold wq_J6_numberOfTrailingZeros_0f7a4_62 at hw
    refine lv_iload_n hx hb dJ6_numberOfTrailingZeros_0f7a4_62 rfl (lv_at hl 0 rfl) ?_
    refine lv_iconst (v := (4 : Int32)) hx hb dJ6_numberOfTrailingZeros_0f7a4_63 kI_4 ?_
    refine lv_icmp_le (tgt := 74) hx hb dJ6_numberOfTrailingZeros_0f7a4_64 (by decide) (fun c64 => ?_) (fun c64 => ?_)
    · have hw := hw.1 c64
      exact b_74 x0 x1 hw H locs hP hD hS ls (lv_sub hl [0, 1] rfl)
    · have hw := hw.2 c64
      obtain ⟨v67, e67⟩ : ∃ y : Int32, y = x1 + (2 : Int32) := ⟨_, rfl⟩
      have hw := hw v67 e67
      refine lv_iinc (v := v67) (lv' := [(1, .int v67), (0, .int x0)]) hx hb dJ6_numberOfTrailingZeros_0f7a4_67 hl (k := 1) rfl (by rw [e67, kI_2]) (by decide) rfl (fun ls hl => ?_)
      refine lv_iload_n hx hb dJ6_numberOfTrailingZeros_0f7a4_70 rfl (lv_at hl 1 rfl) ?_
      refine lv_iconst (v := (2 : Int32)) hx hb dJ6_numberOfTrailingZeros_0f7a4_71 kI_2 ?_
      refine lv_iushr hx hb dJ6_numberOfTrailingZeros_0f7a4_72 rfl ?_
      refine lv_topi (fun v73 e73 => ?_)
      have hw := hw v73 e73
      refine lv_istore_n (lv' := [(0, .int v73), (1, .int v67)]) hx hb dJ6_numberOfTrailingZeros_0f7a4_73 rfl hl (by decide) rfl (fun ls hl => ?_)
      exact b_74 v73 v67 hw H locs hP hD hS ls (lv_sub hl [0, 1] rfl)
  have b_49 : ∀ (x0 : Int32) (x1 : Int32), wq_J6_numberOfTrailingZeros_0f7a4_49  Q x0 x1 → ∀ (H : Heap) (locs : List Loc), va_P D vwCl (w_J6_numberOfTrailingZeros_0f7a4 : va_W) H → va_D A (w_J6_numberOfTrailingZeros_0f7a4 : va_W) → va_S A s.heap H locs → ∀ ls : Array Slot, lv_has ls 2 [(0, .int x0), (1, .int x1)] → W p l e rm_J6_numberOfTrailingZeros_0f7a4 s m args below meth c H locs 0 0 Z (F0 m 49 ls []) := by
    intro x0 x1 hw H locs hP hD hS ls hl
    unfold wq_J6_numberOfTrailingZeros_0f7a4_49 at hw
    refine lv_iload_n hx hb dJ6_numberOfTrailingZeros_0f7a4_49 rfl (lv_at hl 0 rfl) ?_
    refine lv_bipush (v := (16 : Int32)) hx hb dJ6_numberOfTrailingZeros_0f7a4_50 kB_16 ?_
    refine lv_icmp_le (tgt := 62) hx hb dJ6_numberOfTrailingZeros_0f7a4_52 (by decide) (fun c52 => ?_) (fun c52 => ?_)
    · have hw := hw.1 c52
      exact b_62 x0 x1 hw H locs hP hD hS ls (lv_sub hl [0, 1] rfl)
    · have hw := hw.2 c52
      obtain ⟨v55, e55⟩ : ∃ y : Int32, y = x1 + (4 : Int32) := ⟨_, rfl⟩
      have hw := hw v55 e55
      refine lv_iinc (v := v55) (lv' := [(1, .int v55), (0, .int x0)]) hx hb dJ6_numberOfTrailingZeros_0f7a4_55 hl (k := 1) rfl (by rw [e55, kI_4]) (by decide) rfl (fun ls hl => ?_)
      refine lv_iload_n hx hb dJ6_numberOfTrailingZeros_0f7a4_58 rfl (lv_at hl 1 rfl) ?_
      refine lv_iconst (v := (4 : Int32)) hx hb dJ6_numberOfTrailingZeros_0f7a4_59 kI_4 ?_
      refine lv_iushr hx hb dJ6_numberOfTrailingZeros_0f7a4_60 rfl ?_
      refine lv_topi (fun v61 e61 => ?_)
      have hw := hw v61 e61
      refine lv_istore_n (lv' := [(0, .int v61), (1, .int v55)]) hx hb dJ6_numberOfTrailingZeros_0f7a4_61 rfl hl (by decide) rfl (fun ls hl => ?_)
      exact b_62 v61 v55 hw H locs hP hD hS ls (lv_sub hl [0, 1] rfl)
  have b_34 : ∀ (x0 : Int32) (x1 : Int32), wq_J6_numberOfTrailingZeros_0f7a4_34  Q x0 x1 → ∀ (H : Heap) (locs : List Loc), va_P D vwCl (w_J6_numberOfTrailingZeros_0f7a4 : va_W) H → va_D A (w_J6_numberOfTrailingZeros_0f7a4 : va_W) → va_S A s.heap H locs → ∀ ls : Array Slot, lv_has ls 2 [(0, .int x0), (1, .int x1)] → W p l e rm_J6_numberOfTrailingZeros_0f7a4 s m args below meth c H locs 0 0 Z (F0 m 34 ls []) := by
    intro x0 x1 hw H locs hP hD hS ls hl
    unfold wq_J6_numberOfTrailingZeros_0f7a4_34 at hw
    refine lv_iload_n hx hb dJ6_numberOfTrailingZeros_0f7a4_34 rfl (lv_at hl 0 rfl) ?_
    refine lv_sipush (v := (256 : Int32)) hx hb dJ6_numberOfTrailingZeros_0f7a4_35 kS_256 ?_
    refine lv_icmp_le (tgt := 49) hx hb dJ6_numberOfTrailingZeros_0f7a4_38 (by decide) (fun c38 => ?_) (fun c38 => ?_)
    · have hw := hw.1 c38
      exact b_49 x0 x1 hw H locs hP hD hS ls (lv_sub hl [0, 1] rfl)
    · have hw := hw.2 c38
      obtain ⟨v41, e41⟩ : ∃ y : Int32, y = x1 + (8 : Int32) := ⟨_, rfl⟩
      have hw := hw v41 e41
      refine lv_iinc (v := v41) (lv' := [(1, .int v41), (0, .int x0)]) hx hb dJ6_numberOfTrailingZeros_0f7a4_41 hl (k := 1) rfl (by rw [e41, kI_8]) (by decide) rfl (fun ls hl => ?_)
      refine lv_iload_n hx hb dJ6_numberOfTrailingZeros_0f7a4_44 rfl (lv_at hl 1 rfl) ?_
      refine lv_bipush (v := (8 : Int32)) hx hb dJ6_numberOfTrailingZeros_0f7a4_45 kB_8 ?_
      refine lv_iushr hx hb dJ6_numberOfTrailingZeros_0f7a4_47 rfl ?_
      refine lv_topi (fun v48 e48 => ?_)
      have hw := hw v48 e48
      refine lv_istore_n (lv' := [(0, .int v48), (1, .int v41)]) hx hb dJ6_numberOfTrailingZeros_0f7a4_48 rfl hl (by decide) rfl (fun ls hl => ?_)
      exact b_49 v48 v41 hw H locs hP hD hS ls (lv_sub hl [0, 1] rfl)
  intro H locs hP hD hS ls hl
  unfold wp_J6_numberOfTrailingZeros_0f7a4 at hw
  refine lv_iload_n hx hb dJ6_numberOfTrailingZeros_0f7a4_0 rfl (lv_at hl 0 rfl) ?_
  refine lv_iconst (v := (-1 : Int32)) hx hb dJ6_numberOfTrailingZeros_0f7a4_1 kI_m1 ?_
  refine lv_ixor hx hb dJ6_numberOfTrailingZeros_0f7a4_2 ?_
  refine lv_iload_n hx hb dJ6_numberOfTrailingZeros_0f7a4_3 rfl (lv_at hl 0 rfl) ?_
  refine lv_iconst (v := (1 : Int32)) hx hb dJ6_numberOfTrailingZeros_0f7a4_4 kI_1 ?_
  refine lv_isub hx hb dJ6_numberOfTrailingZeros_0f7a4_5 ?_
  refine lv_iand hx hb dJ6_numberOfTrailingZeros_0f7a4_6 ?_
  refine lv_topi (fun v7 e7 => ?_)
  have hw := hw v7 e7
  refine lv_istore_n (lv' := [(0, .int v7)]) hx hb dJ6_numberOfTrailingZeros_0f7a4_7 rfl hl (by decide) rfl (fun ls hl => ?_)
  refine lv_iload_n hx hb dJ6_numberOfTrailingZeros_0f7a4_8 rfl (lv_at hl 0 rfl) ?_
  refine lv_if_gt (tgt := 17) hx hb dJ6_numberOfTrailingZeros_0f7a4_9 (by decide) (fun c9 => ?_) (fun c9 => ?_)
  · have hw := hw.1 c9
    refine lv_iconst (v := (1 : Int32)) hx hb dJ6_numberOfTrailingZeros_0f7a4_17 kI_1 ?_
    refine lv_istore_n (lv' := [(1, .int (1 : Int32)), (0, .int v7)]) hx hb dJ6_numberOfTrailingZeros_0f7a4_18 rfl hl (by decide) rfl (fun ls hl => ?_)
    refine lv_iload_n hx hb dJ6_numberOfTrailingZeros_0f7a4_19 rfl (lv_at hl 1 rfl) ?_
    refine lv_ldcw hx hb hown k_0 dJ6_numberOfTrailingZeros_0f7a4_20 ?_
    refine lv_icmp_le (tgt := 34) hx hb dJ6_numberOfTrailingZeros_0f7a4_23 (by decide) (fun c23 => ?_) (fun c23 => ?_)
    · have hw := hw.1 c23
      exact b_34 v7 (1 : Int32) hw H locs hP hD hS ls (lv_sub hl [1, 0] rfl)
    · have hw := hw.2 c23
      obtain ⟨v26, e26⟩ : ∃ y : Int32, y = (1 : Int32) + (16 : Int32) := ⟨_, rfl⟩
      have hw := hw v26 e26
      refine lv_iinc (v := v26) (lv' := [(1, .int v26), (0, .int v7)]) hx hb dJ6_numberOfTrailingZeros_0f7a4_26 hl (k := 0) rfl (by rw [e26, kI_16]) (by decide) rfl (fun ls hl => ?_)
      refine lv_iload_n hx hb dJ6_numberOfTrailingZeros_0f7a4_29 rfl (lv_at hl 1 rfl) ?_
      refine lv_bipush (v := (16 : Int32)) hx hb dJ6_numberOfTrailingZeros_0f7a4_30 kB_16 ?_
      refine lv_iushr hx hb dJ6_numberOfTrailingZeros_0f7a4_32 rfl ?_
      refine lv_topi (fun v33 e33 => ?_)
      have hw := hw v33 e33
      refine lv_istore_n (lv' := [(0, .int v33), (1, .int v26)]) hx hb dJ6_numberOfTrailingZeros_0f7a4_33 rfl hl (by decide) rfl (fun ls hl => ?_)
      exact b_34 v33 v26 hw H locs hP hD hS ls (lv_sub hl [0, 1] rfl)
  · have hw := hw.2 c9
    refine lv_iload_n hx hb dJ6_numberOfTrailingZeros_0f7a4_12 rfl (lv_at hl 0 rfl) ?_
    refine lv_bipush (v := (32 : Int32)) hx hb dJ6_numberOfTrailingZeros_0f7a4_13 kB_32 ?_
    refine lv_iand hx hb dJ6_numberOfTrailingZeros_0f7a4_15 ?_
    rw [hZ]
    exact cx_reti () hx hb hr hlocks hw hP hS dJ6_numberOfTrailingZeros_0f7a4_16
set_option maxRecDepth 100000 in
set_option maxHeartbeats 4000000 in
theorem c_J13_numberOfTrailingZeros_95d88 (l : Launch) (D : va_G) (cI cJ cZ cO : ClassId) (tS tT : Nat) (sz : Nat) (p1 : Int64) (Q : Int32 → Prop) (hw : wp_J13_numberOfTrailingZeros_95d88 p1 Q) : Met l yJ13_numberOfTrailingZeros_95d88 wsJ13_numberOfTrailingZeros_95d88 rm_J13_numberOfTrailingZeros_95d88 (va_Pc [.long p1] (cx_B tS tT cI cJ cZ cO D sz (w_J13_numberOfTrailingZeros_95d88 : va_W))) (va_Qi (fun (r : Int32) (_ : Unit) => Q r) (fun (u : Unit) t => va_P D vwCl (w_J13_numberOfTrailingZeros_95d88 : va_W) t.heap) (va_A (w_J13_numberOfTrailingZeros_95d88 : va_W) sz)) 0 0 (va_A (w_J13_numberOfTrailingZeros_95d88 : va_W) sz) := by
  refine cx_met (cc := cJ13_numberOfTrailingZeros_95d88) (maxL := 3) (ret := (some .int)) (Qc := fun A => va_Qi (fun (r : Int32) (_ : Unit) => Q r) (fun (u : Unit) t => va_P D vwCl (w_J13_numberOfTrailingZeros_95d88 : va_W) t.heap) A) (lv := [(0, .long p1)]) (by decide) rfl (Nat.le_of_ble_eq_true rfl) rfl ?_
  intro p e s m args below meth c A Z hx hb hr hlocks hts hown hml hE hK hA hZ
  have hown : s.vm.findClass RJ13 = some m.cls := hown
  intro H locs hP hD hS ls hl
  unfold wp_J13_numberOfTrailingZeros_95d88 at hw
  refine lv_lload_n hx hb dJ13_numberOfTrailingZeros_95d88_0 rfl (lv_at hl 0 rfl) ?_
  refine lv_l2i hx hb dJ13_numberOfTrailingZeros_95d88_1 rfl ?_
  refine lv_topi (fun v2 e2 => ?_)
  have hw := hw v2 e2
  refine lv_istore_n (lv' := [(2, .int v2), (0, .long p1)]) hx hb dJ13_numberOfTrailingZeros_95d88_2 rfl hl (by decide) rfl (fun ls hl => ?_)
  refine lv_iload_n hx hb dJ13_numberOfTrailingZeros_95d88_3 rfl (lv_at hl 0 rfl) ?_
  refine lv_if_ne (tgt := 21) hx hb dJ13_numberOfTrailingZeros_95d88_4 (by decide) (fun c4 => ?_) (fun c4 => ?_)
  · have hw := hw.1 c4
    refine lv_iload_n hx hb dJ13_numberOfTrailingZeros_95d88_21 rfl (lv_at hl 0 rfl) ?_
    refine cx_goi (va_runS (As := [.int v2]) (rest := []) ⟨hx, hb, hml, hown, hts⟩ (c_J6_numberOfTrailingZeros_0f7a4 l D cI cJ cZ cO tS tT H.size v2 _ hw) (va_cwS 1 hts gJ13_numberOfTrailingZeros_95d88_J6_numberOfTrailingZeros_0f7a4 rfl rfl rfl ps_J6_numberOfTrailingZeros_0f7a4 ⟨Nat.le_of_ble_eq_true rfl, Nat.le_of_ble_eq_true rfl⟩) (cx_preS (wc := w_J6_numberOfTrailingZeros_0f7a4) hE hK hP hD hS hA [] rfl rfl) rfl rfl hl.1 rfl (lv_room (Nat.le_of_ble_eq_true rfl)) dJ13_numberOfTrailingZeros_95d88_22 ⟨Nat.le_of_ble_eq_true rfl, Nat.le_of_ble_eq_true rfl⟩) (fun (_ : Unit) => (w_J13_numberOfTrailingZeros_95d88 : va_W)) [] [] (ads := []) (wr := []) rfl rfl (fun u => rfl) (fun u => rfl) rfl (fun u => rfl) rfl (fun u => rfl) rfl hP hD hS hA (fun r22 u H locs hw hP hD hS => ?_)
    rw [hZ]
    exact cx_reti () hx hb hr hlocks hw hP hS dJ13_numberOfTrailingZeros_95d88_25
  · have hw := hw.2 c4
    refine lv_bipush (v := (32 : Int32)) hx hb dJ13_numberOfTrailingZeros_95d88_7 kB_32 ?_
    refine lv_lload_n hx hb dJ13_numberOfTrailingZeros_95d88_9 rfl (lv_at hl 1 rfl) ?_
    refine lv_bipush (v := (32 : Int32)) hx hb dJ13_numberOfTrailingZeros_95d88_10 kB_32 ?_
    refine lv_lushr hx hb dJ13_numberOfTrailingZeros_95d88_12 rfl ?_
    refine lv_l2i hx hb dJ13_numberOfTrailingZeros_95d88_13 rfl ?_
    refine cx_goi (va_runS (As := [.int (((p1.toUInt64 >>> ((32 : Int32).toInt64.toUInt64 &&& Int64.toUInt64 63)).toInt64).toInt32)]) (rest := [.int (32 : Int32)]) ⟨hx, hb, hml, hown, hts⟩ (c_J6_numberOfTrailingZeros_0f7a4 l D cI cJ cZ cO tS tT H.size (((p1.toUInt64 >>> ((32 : Int32).toInt64.toUInt64 &&& Int64.toUInt64 63)).toInt64).toInt32) _ hw) (va_cwS 1 hts gJ13_numberOfTrailingZeros_95d88_J6_numberOfTrailingZeros_0f7a4 rfl rfl rfl ps_J6_numberOfTrailingZeros_0f7a4 ⟨Nat.le_of_ble_eq_true rfl, Nat.le_of_ble_eq_true rfl⟩) (cx_preS (wc := w_J6_numberOfTrailingZeros_0f7a4) hE hK hP hD hS hA [] rfl rfl) rfl rfl hl.1 rfl (lv_room (Nat.le_of_ble_eq_true rfl)) dJ13_numberOfTrailingZeros_95d88_14 ⟨Nat.le_of_ble_eq_true rfl, Nat.le_of_ble_eq_true rfl⟩) (fun (_ : Unit) => (w_J13_numberOfTrailingZeros_95d88 : va_W)) [] [] (ads := []) (wr := []) rfl rfl (fun u => rfl) (fun u => rfl) rfl (fun u => rfl) rfl (fun u => rfl) rfl hP hD hS hA (fun r14 u H locs hw hP hD hS => ?_)
    refine lv_iadd hx hb dJ13_numberOfTrailingZeros_95d88_17 ?_
    refine lv_goto (tgt := 25) hx hb dJ13_numberOfTrailingZeros_95d88_18 (by decide) ?_
    rw [hZ]
    exact cx_reti () hx hb hr hlocks hw hP hS dJ13_numberOfTrailingZeros_95d88_25
set_option maxRecDepth 100000 in
set_option maxHeartbeats 4000000 in
theorem c_X4_lowestBitAfter (l : Launch) (D : va_G) (cI cJ cZ cO : ClassId) (tS tT : Nat) (sz : Nat) (p1 : Int64) (p2 : Int32) (Q : Int32 → Prop) (hw : wp_X4_lowestBitAfter p1 p2 Q) : Met l yX4_lowestBitAfter wsX4_lowestBitAfter rm_X4_lowestBitAfter (va_Pc [.long p1, .int p2] (cx_B tS tT cI cJ cZ cO D sz (w_X4_lowestBitAfter : va_W))) (va_Qi (fun (r : Int32) (_ : Unit) => Q r) (fun (u : Unit) t => va_P D vwCl (w_X4_lowestBitAfter : va_W) t.heap) (va_A (w_X4_lowestBitAfter : va_W) sz)) 0 0 (va_A (w_X4_lowestBitAfter : va_W) sz) := by
  refine cx_met (cc := cX4_lowestBitAfter) (maxL := 6) (ret := (some .int)) (Qc := fun A => va_Qi (fun (r : Int32) (_ : Unit) => Q r) (fun (u : Unit) t => va_P D vwCl (w_X4_lowestBitAfter : va_W) t.heap) A) (lv := [(0, .long p1), (2, .int p2)]) (by decide) rfl (Nat.le_of_ble_eq_true rfl) rfl ?_
  intro p e s m args below meth c A Z hx hb hr hlocks hts hown hml hE hK hA hZ
  have hown : s.vm.findClass RX4 = some m.cls := hown
  have b_5 : ∀ n_5 : Nat, ∀ (x2 : Int32) (x3 : Int64) (x5 : Int32), wq_X4_lowestBitAfter_5  Q n_5 x2 x3 x5 → ∀ (H : Heap) (locs : List Loc), va_P D vwCl (w_X4_lowestBitAfter : va_W) H → va_D A (w_X4_lowestBitAfter : va_W) → va_S A s.heap H locs → ∀ ls : Array Slot, lv_has ls 6 [(2, .int x2), (3, .long x3), (5, .int x5)] → W p l e rm_X4_lowestBitAfter s m args below meth c H locs 0 0 Z (F0 m 5 ls []) := by
    intro n_5
    induction n_5 with
    | zero => intro x2 x3 x5 hw; exact False.elim hw
    | succ n_5 ih_5 =>
      intro x2 x3 x5 hw H locs hP hD hS ls hl
      have hw : wf_X4_lowestBitAfter_5  Q (wq_X4_lowestBitAfter_5  Q n_5) x2 x3 x5 := hw
      unfold wf_X4_lowestBitAfter_5 at hw
      refine lv_iload hx hb dX4_lowestBitAfter_5 (lv_at hl 2 rfl) ?_
      refine lv_iload_n hx hb dX4_lowestBitAfter_7 rfl (lv_at hl 0 rfl) ?_
      refine lv_icmp_ge (tgt := 23) hx hb dX4_lowestBitAfter_8 (by decide) (fun c8 => ?_) (fun c8 => ?_)
      · have hw := hw.1 c8
        refine lv_lload_n hx hb dX4_lowestBitAfter_23 rfl (lv_at hl 1 rfl) ?_
        refine cx_goi (va_runS (As := [.long x3]) (rest := []) ⟨hx, hb, hml, hown, hts⟩ (c_J13_numberOfTrailingZeros_95d88 l D cI cJ cZ cO tS tT H.size x3 _ hw) (va_cwS 1 hts gX4_lowestBitAfter_J13_numberOfTrailingZeros_95d88 rfl rfl rfl ps_J13_numberOfTrailingZeros_95d88 ⟨Nat.le_of_ble_eq_true rfl, Nat.le_of_ble_eq_true rfl⟩) (cx_preS (wc := w_J13_numberOfTrailingZeros_95d88) hE hK hP hD hS hA [] rfl rfl) rfl rfl hl.1 rfl (lv_room (Nat.le_of_ble_eq_true rfl)) dX4_lowestBitAfter_24 ⟨Nat.le_of_ble_eq_true rfl, Nat.le_of_ble_eq_true rfl⟩) (fun (_ : Unit) => (w_X4_lowestBitAfter : va_W)) [] [] (ads := []) (wr := []) rfl rfl (fun u => rfl) (fun u => rfl) rfl (fun u => rfl) rfl (fun u => rfl) rfl hP hD hS hA (fun r24 u H locs hw hP hD hS => ?_)
        rw [hZ]
        exact cx_reti () hx hb hr hlocks hw hP hS dX4_lowestBitAfter_27
      · have hw := hw.2 c8
        refine lv_lload_n hx hb dX4_lowestBitAfter_11 rfl (lv_at hl 1 rfl) ?_
        refine lv_lload_n hx hb dX4_lowestBitAfter_12 rfl (lv_at hl 1 rfl) ?_
        refine lv_lconst (v := (1 : Int64)) hx hb dX4_lowestBitAfter_13 kL_1 ?_
        refine lv_lsub hx hb dX4_lowestBitAfter_14 ?_
        refine lv_land hx hb dX4_lowestBitAfter_15 ?_
        refine lv_topl (fun v16 e16 => ?_)
        have hw := hw v16 e16
        refine lv_lstore_n (lv' := [(3, .long v16), (2, .int x2), (5, .int x5)]) hx hb dX4_lowestBitAfter_16 rfl hl (by decide) rfl (fun ls hl => ?_)
        obtain ⟨v17, e17⟩ : ∃ y : Int32, y = x5 + (1 : Int32) := ⟨_, rfl⟩
        have hw := hw v17 e17
        refine lv_iinc (v := v17) (lv' := [(5, .int v17), (3, .long v16), (2, .int x2)]) hx hb dX4_lowestBitAfter_17 hl (k := 2) rfl (by rw [e17, kI_1]) (by decide) rfl (fun ls hl => ?_)
        refine lv_goto (tgt := 5) hx hb dX4_lowestBitAfter_20 (by decide) ?_
        exact ih_5 x2 v16 v17 hw H locs hP hD hS ls (lv_sub hl [2, 1, 0] rfl)
  intro H locs hP hD hS ls hl
  unfold wp_X4_lowestBitAfter at hw
  refine lv_lload_n hx hb dX4_lowestBitAfter_0 rfl (lv_at hl 0 rfl) ?_
  refine lv_lstore_n (lv' := [(3, .long p1), (0, .long p1), (2, .int p2)]) hx hb dX4_lowestBitAfter_1 rfl hl (by decide) rfl (fun ls hl => ?_)
  refine lv_iconst (v := (0 : Int32)) hx hb dX4_lowestBitAfter_2 kI_0 ?_
  refine lv_istore (lv' := [(5, .int (0 : Int32)), (3, .long p1), (0, .long p1), (2, .int p2)]) hx hb dX4_lowestBitAfter_3 hl (by decide) rfl (fun ls hl => ?_)
  obtain ⟨k, hw⟩ := hw
  exact b_5 k p2 p1 (0 : Int32) hw H locs hP hD hS ls (lv_sub hl [3, 1, 0] rfl)
set_option maxRecDepth 100000 in
set_option maxHeartbeats 4000000 in
theorem c_X4_findInLine (l : Launch) (D : va_G) (cI cJ cZ cO : ClassId) (tS tT : Nat) (sz : Nat) (aS aK aS_cells aS_fits aS_fitsInLine aS_stale aS_staleCells aS_seen aS_queue : Nat) (S_pieces : Int32) (S_grown : Int32) (S_fitsInAll : Int32) (S_staleCount : Int32) (S_atLeast1 : Int64) (S_atLeast2 : Int64) (S_atLeast3 : Int64) (S_fits : Nat → Int64) (p1 : Int32) (p2 : Int32) (Q : Int32 → Prop) (hw : wp_X4_findInLine S_fits p1 p2 Q) : Met l yX4_findInLine wsX4_findInLine rm_X4_findInLine (va_Pc [.ref aS, .int p1, .int p2] (cx_B tS tT cI cJ cZ cO D sz (w_X4_findInLine cI cJ cZ cO aS aK aS_cells aS_fits aS_fitsInLine aS_stale aS_staleCells aS_seen aS_queue S_pieces S_grown S_fitsInAll S_staleCount S_atLeast1 S_atLeast2 S_atLeast3 S_fits))) (va_Qi (fun (r : Int32) (_ : Unit) => Q r) (fun (u : Unit) t => va_P D vwCl (w_X4_findInLine cI cJ cZ cO aS aK aS_cells aS_fits aS_fitsInLine aS_stale aS_staleCells aS_seen aS_queue S_pieces S_grown S_fitsInAll S_staleCount S_atLeast1 S_atLeast2 S_atLeast3 S_fits) t.heap) (va_A (w_X4_findInLine cI cJ cZ cO aS aK aS_cells aS_fits aS_fitsInLine aS_stale aS_staleCells aS_seen aS_queue S_pieces S_grown S_fitsInAll S_staleCount S_atLeast1 S_atLeast2 S_atLeast3 S_fits) sz)) 0 0 (va_A (w_X4_findInLine cI cJ cZ cO aS aK aS_cells aS_fits aS_fitsInLine aS_stale aS_staleCells aS_seen aS_queue S_pieces S_grown S_fitsInAll S_staleCount S_atLeast1 S_atLeast2 S_atLeast3 S_fits) sz) := by
  refine cx_met (cc := cX4_findInLine) (maxL := 7) (ret := (some .int)) (Qc := fun A => va_Qi (fun (r : Int32) (_ : Unit) => Q r) (fun (u : Unit) t => va_P D vwCl (w_X4_findInLine cI cJ cZ cO aS aK aS_cells aS_fits aS_fitsInLine aS_stale aS_staleCells aS_seen aS_queue S_pieces S_grown S_fitsInAll S_staleCount S_atLeast1 S_atLeast2 S_atLeast3 S_fits) t.heap) A) (lv := [(0, .ref aS), (1, .int p1), (2, .int p2)]) (by decide) rfl (Nat.le_of_ble_eq_true rfl) rfl ?_
  intro p e s m args below meth c A Z hx hb hr hlocks hts hown hml hE hK hA hZ
  have hown : s.vm.findClass RX4 = some m.cls := hown
  have k_0 := hts (.initialized RX7) (List.mem_of_getElem? (i := 3) (by decide +kernel))
  have k_1 := hts (.static yX7_placeOf) (List.mem_of_getElem? (i := 2) (by decide +kernel))
  have k_2 := hts (.fieldLink RX4 26 "GrowingTiles$Sheet" "fits" "[J") (List.mem_of_getElem? (i := 1) (by decide +kernel))
  have b_5 : ∀ n_5 : Nat, ∀ (x1 : Int32) (x3 : Int32) (x4 : Int32), wq_X4_findInLine_5 S_fits Q n_5 x1 x3 x4 → ∀ (H : Heap) (locs : List Loc), va_P D vwCl (w_X4_findInLine cI cJ cZ cO aS aK aS_cells aS_fits aS_fitsInLine aS_stale aS_staleCells aS_seen aS_queue S_pieces S_grown S_fitsInAll S_staleCount S_atLeast1 S_atLeast2 S_atLeast3 S_fits) H → va_D A (w_X4_findInLine cI cJ cZ cO aS aK aS_cells aS_fits aS_fitsInLine aS_stale aS_staleCells aS_seen aS_queue S_pieces S_grown S_fitsInAll S_staleCount S_atLeast1 S_atLeast2 S_atLeast3 S_fits) → va_S A s.heap H locs → ∀ ls : Array Slot, lv_has ls 7 [(0, .ref aS), (1, .int x1), (3, .int x3), (4, .int x4)] → W p l e rm_X4_findInLine s m args below meth c H locs 0 0 Z (F0 m 5 ls []) := by
    intro n_5
    induction n_5 with
    | zero => intro x1 x3 x4 hw; exact False.elim hw
    | succ n_5 ih_5 =>
      intro x1 x3 x4 hw H locs hP hD hS ls hl
      have hw : wf_X4_findInLine_5 S_fits Q (wq_X4_findInLine_5 S_fits Q n_5) x1 x3 x4 := hw
      unfold wf_X4_findInLine_5 at hw
      refine lv_iload hx hb dX4_findInLine_5 (lv_at hl 3 rfl) ?_
      refine lv_bipush (v := (16 : Int32)) hx hb dX4_findInLine_7 kB_16 ?_
      refine lv_icmp_ge (tgt := 67) hx hb dX4_findInLine_9 (by decide) (fun c9 => ?_) (fun c9 => ?_)
      · have hw := hw.1 c9
        refine lv_iconst (v := (-1 : Int32)) hx hb dX4_findInLine_67 kI_m1 ?_
        rw [hZ]
        exact cx_reti () hx hb hr hlocks hw hP hS dX4_findInLine_68
      · have hw := hw.2 c9
        refine lv_iload hx hb dX4_findInLine_12 (lv_at hl 3 rfl) ?_
        refine lv_iload_n hx hb dX4_findInLine_14 rfl (lv_at hl 1 rfl) ?_
        refine cx_goi (va_runSN (As := [.int x4, .int x1]) (rest := []) ⟨hx, hb, hml, hown, hts⟩ (c_X7_placeOf l D cI cJ cZ cO tS tT H.size x4 x1 _ hw) ⟨va_cnB 2 hts gX4_findInLine_X7_placeOf_n116 rfl rfl rfl (hE.1.2.2.2.2.2.2.2.2.1) k_0 ps_X7_placeOf ⟨Nat.le_of_ble_eq_true rfl, Nat.le_of_ble_eq_true rfl⟩, k_1, trivial⟩ (cx_preS (wc := w_X7_placeOf) hE hK hP hD hS hA [] rfl rfl) rfl rfl hl.1 rfl (lv_room (Nat.le_of_ble_eq_true rfl)) dX4_findInLine_15 ⟨Nat.le_of_ble_eq_true rfl, Nat.le_of_ble_eq_true rfl⟩) (fun (_ : Unit) => (w_X4_findInLine cI cJ cZ cO aS aK aS_cells aS_fits aS_fitsInLine aS_stale aS_staleCells aS_seen aS_queue S_pieces S_grown S_fitsInAll S_staleCount S_atLeast1 S_atLeast2 S_atLeast3 S_fits)) [] [0, 1] (ads := []) (wr := [(aS, .inr (4, [.ref aK, .ref aS_cells, .int S_pieces, .int S_grown, .ref aS_fits, .ref aS_fitsInLine, .int S_fitsInAll, .ref aS_stale, .ref aS_staleCells, .int S_staleCount, .long S_atLeast1, .long S_atLeast2, .long S_atLeast3, .ref aS_seen, .ref aS_queue])), (aS_fits, .inl (cJ, 324, .inr (.inl S_fits)))]) rfl rfl (fun u => rfl) (fun u => rfl) rfl (fun u => rfl) rfl (fun u => rfl) rfl hP hD hS hA (fun r15 u H locs hw hP hD hS => ?_)
        refine lv_istore (lv' := [(5, .int r15), (0, .ref aS), (1, .int x1), (3, .int x3), (4, .int x4)]) hx hb dX4_findInLine_18 hl (by decide) rfl (fun ls hl => ?_)
        refine lv_aload_n hx hb dX4_findInLine_20 rfl (lv_at hl 1 rfl) ?_
        refine va_get (D := D) (ci := 4) (v := .ref aS_fits) (C := RX4) (T := TX4) (N := 15) hx hb hts in_X4_findInLine_X4 hown hK hP 0 rfl rfl 4 (by decide) k_2 (fun _ h9 => h9) rfl dX4_findInLine_21 ?_
        refine lv_iload hx hb dX4_findInLine_24 (lv_at hl 0 rfl) ?_
        have h26 := hw.1
        have hw := hw.2
        refine va_lald hx hb hK hP 1 1 rfl rfl h26 dX4_findInLine_26 ?_
        refine lv_topl (fun v26 e26 => ?_)
        have hw := hw v26 e26
        refine cx_goi (va_runS (As := [.long v26]) (rest := []) ⟨hx, hb, hml, hown, hts⟩ (c_J13_bitCount_95d88 l D cI cJ cZ cO tS tT H.size v26 _ hw) (va_cwS 1 hts gX4_findInLine_J13_bitCount_95d88 rfl rfl rfl ps_J13_bitCount_95d88 ⟨Nat.le_of_ble_eq_true rfl, Nat.le_of_ble_eq_true rfl⟩) (cx_preS (wc := w_J13_bitCount_95d88) hE hK hP hD hS hA [] rfl rfl) rfl rfl hl.1 rfl (lv_room (Nat.le_of_ble_eq_true rfl)) dX4_findInLine_27 ⟨Nat.le_of_ble_eq_true rfl, Nat.le_of_ble_eq_true rfl⟩) (fun (_ : Unit) => (w_X4_findInLine cI cJ cZ cO aS aK aS_cells aS_fits aS_fitsInLine aS_stale aS_staleCells aS_seen aS_queue S_pieces S_grown S_fitsInAll S_staleCount S_atLeast1 S_atLeast2 S_atLeast3 S_fits)) [] [0, 1] (ads := []) (wr := [(aS, .inr (4, [.ref aK, .ref aS_cells, .int S_pieces, .int S_grown, .ref aS_fits, .ref aS_fitsInLine, .int S_fitsInAll, .ref aS_stale, .ref aS_staleCells, .int S_staleCount, .long S_atLeast1, .long S_atLeast2, .long S_atLeast3, .ref aS_seen, .ref aS_queue])), (aS_fits, .inl (cJ, 324, .inr (.inl S_fits)))]) rfl rfl (fun u => rfl) (fun u => rfl) rfl (fun u => rfl) rfl (fun u => rfl) rfl hP hD hS hA (fun r27 u H locs hw hP hD hS => ?_)
        refine lv_istore (lv' := [(6, .int r27), (5, .int r15), (0, .ref aS), (1, .int x1), (3, .int x3), (4, .int x4)]) hx hb dX4_findInLine_30 hl (by decide) rfl (fun ls hl => ?_)
        refine lv_iload_n hx hb dX4_findInLine_32 rfl (lv_at hl 4 rfl) ?_
        refine lv_iload hx hb dX4_findInLine_33 (lv_at hl 0 rfl) ?_
        refine lv_icmp_ge (tgt := 56) hx hb dX4_findInLine_35 (by decide) (fun c35 => ?_) (fun c35 => ?_)
        · have hw := hw.1 c35
          refine lv_iload_n hx hb dX4_findInLine_56 rfl (lv_at hl 4 rfl) ?_
          refine lv_iload hx hb dX4_findInLine_57 (lv_at hl 0 rfl) ?_
          refine lv_isub hx hb dX4_findInLine_59 ?_
          refine lv_topi (fun v60 e60 => ?_)
          have hw := hw v60 e60
          refine lv_istore_n (lv' := [(3, .int v60), (6, .int r27), (5, .int r15), (0, .ref aS), (1, .int x1), (4, .int x4)]) hx hb dX4_findInLine_60 rfl hl (by decide) rfl (fun ls hl => ?_)
          obtain ⟨v61, e61⟩ : ∃ y : Int32, y = x4 + (1 : Int32) := ⟨_, rfl⟩
          have hw := hw v61 e61
          refine lv_iinc (v := v61) (lv' := [(4, .int v61), (3, .int v60), (6, .int r27), (5, .int r15), (0, .ref aS), (1, .int x1)]) hx hb dX4_findInLine_61 hl (k := 5) rfl (by rw [e61, kI_1]) (by decide) rfl (fun ls hl => ?_)
          refine lv_goto (tgt := 5) hx hb dX4_findInLine_64 (by decide) ?_
          exact ih_5 x1 v60 v61 hw H locs hP hD hS ls (lv_sub hl [4, 5, 1, 0] rfl)
        · have hw := hw.2 c35
          refine lv_bipush (v := (64 : Int32)) hx hb dX4_findInLine_38 kB_64 ?_
          refine lv_iload hx hb dX4_findInLine_40 (lv_at hl 1 rfl) ?_
          refine lv_imul hx hb dX4_findInLine_42 ?_
          refine lv_aload_n hx hb dX4_findInLine_43 rfl (lv_at hl 2 rfl) ?_
          refine va_get (D := D) (ci := 4) (v := .ref aS_fits) (C := RX4) (T := TX4) (N := 15) hx hb hts in_X4_findInLine_X4 hown hK hP 0 rfl rfl 4 (by decide) k_2 (fun _ h9 => h9) rfl dX4_findInLine_44 ?_
          refine lv_iload hx hb dX4_findInLine_47 (lv_at hl 1 rfl) ?_
          have h49 := hw.1
          have hw := hw.2
          refine va_lald hx hb hK hP 1 1 rfl rfl h49 dX4_findInLine_49 ?_
          refine lv_topl (fun v49 e49 => ?_)
          have hw := hw v49 e49
          refine lv_iload_n hx hb dX4_findInLine_50 rfl (lv_at hl 4 rfl) ?_
          refine cx_goi (va_runS (As := [.long v49, .int x3]) (rest := [.int ((64 : Int32) * r15)]) ⟨hx, hb, hml, hown, hts⟩ (c_X4_lowestBitAfter l D cI cJ cZ cO tS tT H.size v49 x3 _ hw) (va_cwS 2 hts gX4_findInLine_X4_lowestBitAfter rfl rfl rfl ps_X4_lowestBitAfter ⟨Nat.le_of_ble_eq_true rfl, Nat.le_of_ble_eq_true rfl⟩) (cx_preS (wc := w_X4_lowestBitAfter) hE hK hP hD hS hA [] rfl rfl) rfl rfl hl.1 rfl (lv_room (Nat.le_of_ble_eq_true rfl)) dX4_findInLine_51 ⟨Nat.le_of_ble_eq_true rfl, Nat.le_of_ble_eq_true rfl⟩) (fun (_ : Unit) => (w_X4_findInLine cI cJ cZ cO aS aK aS_cells aS_fits aS_fitsInLine aS_stale aS_staleCells aS_seen aS_queue S_pieces S_grown S_fitsInAll S_staleCount S_atLeast1 S_atLeast2 S_atLeast3 S_fits)) [] [0, 1] (ads := []) (wr := [(aS, .inr (4, [.ref aK, .ref aS_cells, .int S_pieces, .int S_grown, .ref aS_fits, .ref aS_fitsInLine, .int S_fitsInAll, .ref aS_stale, .ref aS_staleCells, .int S_staleCount, .long S_atLeast1, .long S_atLeast2, .long S_atLeast3, .ref aS_seen, .ref aS_queue])), (aS_fits, .inl (cJ, 324, .inr (.inl S_fits)))]) rfl rfl (fun u => rfl) (fun u => rfl) rfl (fun u => rfl) rfl (fun u => rfl) rfl hP hD hS hA (fun r51 u H locs hw hP hD hS => ?_)
          refine lv_iadd hx hb dX4_findInLine_54 ?_
          rw [hZ]
          exact cx_reti () hx hb hr hlocks hw hP hS dX4_findInLine_55
  intro H locs hP hD hS ls hl
  unfold wp_X4_findInLine at hw
  refine lv_iload_n hx hb dX4_findInLine_0 rfl (lv_at hl 2 rfl) ?_
  refine lv_istore_n (lv' := [(3, .int p2), (0, .ref aS), (1, .int p1), (2, .int p2)]) hx hb dX4_findInLine_1 rfl hl (by decide) rfl (fun ls hl => ?_)
  refine lv_iconst (v := (0 : Int32)) hx hb dX4_findInLine_2 kI_0 ?_
  refine lv_istore (lv' := [(4, .int (0 : Int32)), (3, .int p2), (0, .ref aS), (1, .int p1), (2, .int p2)]) hx hb dX4_findInLine_3 hl (by decide) rfl (fun ls hl => ?_)
  obtain ⟨k, hw⟩ := hw
  exact b_5 k p1 p2 (0 : Int32) hw H locs hP hD hS ls (lv_sub hl [2, 3, 1, 0] rfl)
