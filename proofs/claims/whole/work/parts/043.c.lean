set_option maxRecDepth 100000 in
set_option maxHeartbeats 4000000 in
theorem c_X4_countFits (l : Launch) (D : va_G) (cI cJ cZ cO : ClassId) (tS tT : Nat) (sz : Nat) (aK aK_strengths aK_kinds aK_marks aK_faces aK_bars aK_showing aK_showingRight aK_barring aS aS_cells aS_fits aS_fitsInLine aS_stale aS_staleCells aS_seen aS_queue : Nat) (K_warm : Int32) (K_count : Int32) (K_seeds : Int64) (K_blocks : Int64) (K_rivals : Int64) (K_strengths : Nat → Int32) (K_faces : Nat → Int32) (K_bars : Nat → Int32) (K_showing : Nat → Int64) (K_showingRight : Nat → Int64) (K_barring : Nat → Int64) (S_pieces : Int32) (S_grown : Int32) (S_fitsInAll : Int32) (S_staleCount : Int32) (S_atLeast1 : Int64) (S_atLeast2 : Int64) (S_atLeast3 : Int64) (S_cells : Nat → Int32) (S_fits : Nat → Int64) (S_fitsInLine : Nat → Int32) (S_stale : Nat → Int32) (S_staleCells : Nat → Int32) (Q : Int32 → (Nat → Int64) → (Nat → Int32) → (Int32) → (Nat → Int32) → (Int32) → (Int64) → (Int64) → (Int64) → Prop) (hw : wp_X4_countFits K_warm K_strengths K_faces K_bars K_showing K_showingRight K_barring K_seeds K_blocks S_cells S_staleCells S_fits S_fitsInLine S_fitsInAll S_stale S_staleCount S_atLeast1 S_atLeast2 S_atLeast3 Q) : Met l yX4_countFits wsX4_countFits rm_X4_countFits (va_Pc [.ref aS] (cx_B tS tT cI cJ cZ cO D sz (w_X4_countFits cI cJ cZ cO aK aK_strengths aK_kinds aK_marks aK_faces aK_bars aK_showing aK_showingRight aK_barring aS aS_cells aS_fits aS_fitsInLine aS_stale aS_staleCells aS_seen aS_queue K_warm K_count K_seeds K_blocks K_rivals K_strengths K_faces K_bars K_showing K_showingRight K_barring S_pieces S_grown S_fitsInAll S_staleCount S_atLeast1 S_atLeast2 S_atLeast3 S_cells S_fits S_fitsInLine S_stale S_staleCells))) (va_Qi (fun (r : Int32) (u : (Nat → Int64) × (Nat → Int32) × (Int32) × (Nat → Int32) × (Int32) × (Int64) × (Int64) × (Int64)) => Q r u.1 u.2.1 u.2.2.1 u.2.2.2.1 u.2.2.2.2.1 u.2.2.2.2.2.1 u.2.2.2.2.2.2.1 u.2.2.2.2.2.2.2) (fun (u : (Nat → Int64) × (Nat → Int32) × (Int32) × (Nat → Int32) × (Int32) × (Int64) × (Int64) × (Int64)) t => va_P D vwCl (w_X4_countFits cI cJ cZ cO aK aK_strengths aK_kinds aK_marks aK_faces aK_bars aK_showing aK_showingRight aK_barring aS aS_cells aS_fits aS_fitsInLine aS_stale aS_staleCells aS_seen aS_queue K_warm K_count K_seeds K_blocks K_rivals K_strengths K_faces K_bars K_showing K_showingRight K_barring S_pieces S_grown u.2.2.1 u.2.2.2.2.1 u.2.2.2.2.2.1 u.2.2.2.2.2.2.1 u.2.2.2.2.2.2.2 S_cells u.1 u.2.1 u.2.2.2.1 S_staleCells) t.heap) (va_A (w_X4_countFits cI cJ cZ cO aK aK_strengths aK_kinds aK_marks aK_faces aK_bars aK_showing aK_showingRight aK_barring aS aS_cells aS_fits aS_fitsInLine aS_stale aS_staleCells aS_seen aS_queue K_warm K_count K_seeds K_blocks K_rivals K_strengths K_faces K_bars K_showing K_showingRight K_barring S_pieces S_grown S_fitsInAll S_staleCount S_atLeast1 S_atLeast2 S_atLeast3 S_cells S_fits S_fitsInLine S_stale S_staleCells) sz)) 0 0 (va_A (w_X4_countFits cI cJ cZ cO aK aK_strengths aK_kinds aK_marks aK_faces aK_bars aK_showing aK_showingRight aK_barring aS aS_cells aS_fits aS_fitsInLine aS_stale aS_staleCells aS_seen aS_queue K_warm K_count K_seeds K_blocks K_rivals K_strengths K_faces K_bars K_showing K_showingRight K_barring S_pieces S_grown S_fitsInAll S_staleCount S_atLeast1 S_atLeast2 S_atLeast3 S_cells S_fits S_fitsInLine S_stale S_staleCells) sz) := by
  refine cx_met (cc := cX4_countFits) (maxL := 1) (ret := (some .int)) (Qc := fun A => va_Qi (fun (r : Int32) (u : (Nat → Int64) × (Nat → Int32) × (Int32) × (Nat → Int32) × (Int32) × (Int64) × (Int64) × (Int64)) => Q r u.1 u.2.1 u.2.2.1 u.2.2.2.1 u.2.2.2.2.1 u.2.2.2.2.2.1 u.2.2.2.2.2.2.1 u.2.2.2.2.2.2.2) (fun (u : (Nat → Int64) × (Nat → Int32) × (Int32) × (Nat → Int32) × (Int32) × (Int64) × (Int64) × (Int64)) t => va_P D vwCl (w_X4_countFits cI cJ cZ cO aK aK_strengths aK_kinds aK_marks aK_faces aK_bars aK_showing aK_showingRight aK_barring aS aS_cells aS_fits aS_fitsInLine aS_stale aS_staleCells aS_seen aS_queue K_warm K_count K_seeds K_blocks K_rivals K_strengths K_faces K_bars K_showing K_showingRight K_barring S_pieces S_grown u.2.2.1 u.2.2.2.2.1 u.2.2.2.2.2.1 u.2.2.2.2.2.2.1 u.2.2.2.2.2.2.2 S_cells u.1 u.2.1 u.2.2.2.1 S_staleCells) t.heap) A) (lv := [(0, .ref aS)]) (by decide) rfl (Nat.le_of_ble_eq_true rfl) rfl ?_
  intro p e s m args below meth c A Z hx hb hr hlocks hts hown hml hE hK hA hZ
  have hown : s.vm.findClass RX4 = some m.cls := hown
  have k_0 := hts (.fieldLink RX4 33 "GrowingTiles$Sheet" "fitsInAll" "I") (List.mem_of_getElem? (i := 1) (by decide +kernel))
  intro H locs hP hD hS ls hl
  unfold wp_X4_countFits at hw
  refine lv_aload_n hx hb dX4_countFits_0 rfl (lv_at hl 0 rfl) ?_
  refine cx_gov (va_runV (As := []) (rest := []) ⟨hx, hb, hml, hown, hts⟩ (c_X4_renewStale l D cI cJ cZ cO tS tT H.size aK aK_strengths aK_kinds aK_marks aK_faces aK_bars aK_showing aK_showingRight aK_barring aS aS_cells aS_fits aS_fitsInLine aS_stale aS_staleCells aS_seen aS_queue K_warm K_count K_seeds K_blocks K_rivals K_strengths K_faces K_bars K_showing K_showingRight K_barring S_pieces S_grown S_fitsInAll S_staleCount S_atLeast1 S_atLeast2 S_atLeast3 S_cells S_fits S_fitsInLine S_stale S_staleCells _ hw) (cwV 0 hts gX4_countFits_X4_renewStale rfl rfl rfl pv_X4_renewStale ⟨Nat.le_of_ble_eq_true rfl, Nat.le_of_ble_eq_true rfl⟩) (cx_preV (wc := w_X4_renewStale cI cJ cZ cO aK aK_strengths aK_kinds aK_marks aK_faces aK_bars aK_showing aK_showingRight aK_barring aS aS_cells aS_fits aS_fitsInLine aS_stale aS_staleCells aS_seen aS_queue K_warm K_count K_seeds K_blocks K_rivals K_strengths K_faces K_bars K_showing K_showingRight K_barring S_pieces S_grown S_fitsInAll S_staleCount S_atLeast1 S_atLeast2 S_atLeast3 S_cells S_fits S_fitsInLine S_stale S_staleCells) hE hK hP hD hS hA [0, 1, 2, 3, 4, 5, 6, 7, 8, 9, 10, 11, 12] rfl rfl (va_recv hK hP (ci := 4) (q0 := 7) rfl rfl)) rfl rfl hl.1 rfl (lv_room (Nat.le_of_ble_eq_true rfl)) dX4_countFits_1 ⟨Nat.le_of_ble_eq_true rfl, Nat.le_of_ble_eq_true rfl⟩) (fun (u : (Nat → Int64) × (Nat → Int32) × (Int32) × (Nat → Int32) × (Int32) × (Int64) × (Int64) × (Int64)) => (w_X4_countFits cI cJ cZ cO aK aK_strengths aK_kinds aK_marks aK_faces aK_bars aK_showing aK_showingRight aK_barring aS aS_cells aS_fits aS_fitsInLine aS_stale aS_staleCells aS_seen aS_queue K_warm K_count K_seeds K_blocks K_rivals K_strengths K_faces K_bars K_showing K_showingRight K_barring S_pieces S_grown u.2.2.1 u.2.2.2.2.1 u.2.2.2.2.2.1 u.2.2.2.2.2.2.1 u.2.2.2.2.2.2.2 S_cells u.1 u.2.1 u.2.2.2.1 S_staleCells)) [0, 1, 2, 3, 4, 5, 6, 7, 8, 9, 10, 11, 12] [] (ads := [aK, aK_strengths, aK_faces, aK_bars, aK_showing, aK_showingRight, aK_barring, aS, aS_cells, aS_fits, aS_fitsInLine, aS_stale, aS_staleCells]) (wr := []) rfl rfl (fun u => rfl) (fun u => rfl) rfl (fun u => rfl) rfl (fun u => rfl) rfl hP hD hS hA (fun u H locs hw hP hD hS => ?_)
  obtain ⟨S_fits_1, S_fitsInLine_1, S_fitsInAll_1, S_stale_1, S_staleCount_1, S_atLeast1_1, S_atLeast2_1, S_atLeast3_1⟩ := u
  try dsimp only at hw
  have hP : va_P D vwCl (w_X4_countFits cI cJ cZ cO aK aK_strengths aK_kinds aK_marks aK_faces aK_bars aK_showing aK_showingRight aK_barring aS aS_cells aS_fits aS_fitsInLine aS_stale aS_staleCells aS_seen aS_queue K_warm K_count K_seeds K_blocks K_rivals K_strengths K_faces K_bars K_showing K_showingRight K_barring S_pieces S_grown S_fitsInAll_1 S_staleCount_1 S_atLeast1_1 S_atLeast2_1 S_atLeast3_1 S_cells S_fits_1 S_fitsInLine_1 S_stale_1 S_staleCells) H := hP
  have hD : va_D A (w_X4_countFits cI cJ cZ cO aK aK_strengths aK_kinds aK_marks aK_faces aK_bars aK_showing aK_showingRight aK_barring aS aS_cells aS_fits aS_fitsInLine aS_stale aS_staleCells aS_seen aS_queue K_warm K_count K_seeds K_blocks K_rivals K_strengths K_faces K_bars K_showing K_showingRight K_barring S_pieces S_grown S_fitsInAll_1 S_staleCount_1 S_atLeast1_1 S_atLeast2_1 S_atLeast3_1 S_cells S_fits_1 S_fitsInLine_1 S_stale_1 S_staleCells) := hD
  refine lv_aload_n hx hb dX4_countFits_4 rfl (lv_at hl 0 rfl) ?_
  refine va_get (D := D) (ci := 4) (v := .int S_fitsInAll_1) (C := RX4) (T := TX4) (N := 15) hx hb hts in_X4_countFits_X4 hown hK hP 7 rfl rfl 6 (by decide) k_0 (fun _ h9 => h9) rfl dX4_countFits_5 ?_
  rw [hZ]
  exact cx_reti (S_fits_1, S_fitsInLine_1, S_fitsInAll_1, S_stale_1, S_staleCount_1, S_atLeast1_1, S_atLeast2_1, S_atLeast3_1) hx hb hr hlocks hw hP hS dX4_countFits_8
set_option maxRecDepth 100000 in
set_option maxHeartbeats 4000000 in
theorem c_X2_judge (l : Launch) (D : va_G) (cI cJ cZ cO : ClassId) (tS tT : Nat) (sz : Nat) (aK aK_strengths aK_kinds aK_marks aK_faces aK_bars aK_showing aK_showingRight aK_barring aS aS_cells aS_fits aS_fitsInLine aS_stale aS_staleCells aS_seen aS_queue aT aT_acts aT_pieces aT_places aT_before aT_since aO : Nat) (K_warm : Int32) (K_count : Int32) (K_seeds : Int64) (K_blocks : Int64) (K_rivals : Int64) (K_strengths : Nat → Int32) (K_kinds : Nat → Int32) (K_faces : Nat → Int32) (K_bars : Nat → Int32) (K_showing : Nat → Int64) (K_showingRight : Nat → Int64) (K_barring : Nat → Int64) (S_pieces : Int32) (S_grown : Int32) (S_fitsInAll : Int32) (S_staleCount : Int32) (S_atLeast1 : Int64) (S_atLeast2 : Int64) (S_atLeast3 : Int64) (S_cells : Nat → Int32) (S_fits : Nat → Int64) (S_fitsInLine : Nat → Int32) (S_stale : Nat → Int32) (S_staleCells : Nat → Int32) (T_made : Int32) (T_kept : Int32) (T_fromClear : Int32) (T_acts : Nat → Int32) (T_pieces : Nat → Int32) (T_places : Nat → Int32) (T_since : Nat → Int32) (Q : Int32 → (Nat → Int64) → (Nat → Int32) → (Int32) → (Nat → Int32) → (Int32) → (Int64) → (Int64) → (Int64) → Prop) (hw : wp_X2_judge K_warm K_strengths K_kinds K_faces K_bars K_showing K_showingRight K_barring K_seeds K_blocks K_rivals S_cells S_staleCells T_made T_kept T_fromClear T_acts T_pieces T_places T_since S_fits S_fitsInLine S_fitsInAll S_stale S_staleCount S_atLeast1 S_atLeast2 S_atLeast3 Q) : Met l yX2_judge wsX2_judge rm_X2_judge (va_Pc [.ref aO] (cx_B tS tT cI cJ cZ cO D sz (w_X2_judge cI cJ cZ cO aK aK_strengths aK_kinds aK_marks aK_faces aK_bars aK_showing aK_showingRight aK_barring aS aS_cells aS_fits aS_fitsInLine aS_stale aS_staleCells aS_seen aS_queue aT aT_acts aT_pieces aT_places aT_before aT_since aO K_warm K_count K_seeds K_blocks K_rivals K_strengths K_kinds K_faces K_bars K_showing K_showingRight K_barring S_pieces S_grown S_fitsInAll S_staleCount S_atLeast1 S_atLeast2 S_atLeast3 S_cells S_fits S_fitsInLine S_stale S_staleCells T_made T_kept T_fromClear T_acts T_pieces T_places T_since))) (va_Qi (fun (r : Int32) (u : (Nat → Int64) × (Nat → Int32) × (Int32) × (Nat → Int32) × (Int32) × (Int64) × (Int64) × (Int64)) => Q r u.1 u.2.1 u.2.2.1 u.2.2.2.1 u.2.2.2.2.1 u.2.2.2.2.2.1 u.2.2.2.2.2.2.1 u.2.2.2.2.2.2.2) (fun (u : (Nat → Int64) × (Nat → Int32) × (Int32) × (Nat → Int32) × (Int32) × (Int64) × (Int64) × (Int64)) t => va_P D vwCl (w_X2_judge cI cJ cZ cO aK aK_strengths aK_kinds aK_marks aK_faces aK_bars aK_showing aK_showingRight aK_barring aS aS_cells aS_fits aS_fitsInLine aS_stale aS_staleCells aS_seen aS_queue aT aT_acts aT_pieces aT_places aT_before aT_since aO K_warm K_count K_seeds K_blocks K_rivals K_strengths K_kinds K_faces K_bars K_showing K_showingRight K_barring S_pieces S_grown u.2.2.1 u.2.2.2.2.1 u.2.2.2.2.2.1 u.2.2.2.2.2.2.1 u.2.2.2.2.2.2.2 S_cells u.1 u.2.1 u.2.2.2.1 S_staleCells T_made T_kept T_fromClear T_acts T_pieces T_places T_since) t.heap) (va_A (w_X2_judge cI cJ cZ cO aK aK_strengths aK_kinds aK_marks aK_faces aK_bars aK_showing aK_showingRight aK_barring aS aS_cells aS_fits aS_fitsInLine aS_stale aS_staleCells aS_seen aS_queue aT aT_acts aT_pieces aT_places aT_before aT_since aO K_warm K_count K_seeds K_blocks K_rivals K_strengths K_kinds K_faces K_bars K_showing K_showingRight K_barring S_pieces S_grown S_fitsInAll S_staleCount S_atLeast1 S_atLeast2 S_atLeast3 S_cells S_fits S_fitsInLine S_stale S_staleCells T_made T_kept T_fromClear T_acts T_pieces T_places T_since) sz)) 0 0 (va_A (w_X2_judge cI cJ cZ cO aK aK_strengths aK_kinds aK_marks aK_faces aK_bars aK_showing aK_showingRight aK_barring aS aS_cells aS_fits aS_fitsInLine aS_stale aS_staleCells aS_seen aS_queue aT aT_acts aT_pieces aT_places aT_before aT_since aO K_warm K_count K_seeds K_blocks K_rivals K_strengths K_kinds K_faces K_bars K_showing K_showingRight K_barring S_pieces S_grown S_fitsInAll S_staleCount S_atLeast1 S_atLeast2 S_atLeast3 S_cells S_fits S_fitsInLine S_stale S_staleCells T_made T_kept T_fromClear T_acts T_pieces T_places T_since) sz) := by
  refine cx_met (cc := cX2_judge) (maxL := 2) (ret := (some .int)) (Qc := fun A => va_Qi (fun (r : Int32) (u : (Nat → Int64) × (Nat → Int32) × (Int32) × (Nat → Int32) × (Int32) × (Int64) × (Int64) × (Int64)) => Q r u.1 u.2.1 u.2.2.1 u.2.2.2.1 u.2.2.2.2.1 u.2.2.2.2.2.1 u.2.2.2.2.2.2.1 u.2.2.2.2.2.2.2) (fun (u : (Nat → Int64) × (Nat → Int32) × (Int32) × (Nat → Int32) × (Int32) × (Int64) × (Int64) × (Int64)) t => va_P D vwCl (w_X2_judge cI cJ cZ cO aK aK_strengths aK_kinds aK_marks aK_faces aK_bars aK_showing aK_showingRight aK_barring aS aS_cells aS_fits aS_fitsInLine aS_stale aS_staleCells aS_seen aS_queue aT aT_acts aT_pieces aT_places aT_before aT_since aO K_warm K_count K_seeds K_blocks K_rivals K_strengths K_kinds K_faces K_bars K_showing K_showingRight K_barring S_pieces S_grown u.2.2.1 u.2.2.2.2.1 u.2.2.2.2.2.1 u.2.2.2.2.2.2.1 u.2.2.2.2.2.2.2 S_cells u.1 u.2.1 u.2.2.2.1 S_staleCells T_made T_kept T_fromClear T_acts T_pieces T_places T_since) t.heap) A) (lv := [(0, .ref aO)]) (by decide) rfl (Nat.le_of_ble_eq_true rfl) rfl ?_
  intro p e s m args below meth c A Z hx hb hr hlocks hts hown hml hE hK hA hZ
  have hown : s.vm.findClass RX2 = some m.cls := hown
  have k_0 := hts (.fieldLink RX2 19 "GrowingTiles$Order" "steps" "LGrowingTiles$Steps;") (List.mem_of_getElem? (i := 1) (by decide +kernel))
  have k_1 := hts (.fieldLink RX2 27 "GrowingTiles$Steps" "made" "I") (List.mem_of_getElem? (i := 2) (by decide +kernel))
  have k_2 := hts (.fieldLink RX2 15 "GrowingTiles$Order" "sheet" "LGrowingTiles$Sheet;") (List.mem_of_getElem? (i := 5) (by decide +kernel))
  have k_3 := hts (.fieldLink RX2 33 "GrowingTiles$Steps" "acts" "[I") (List.mem_of_getElem? (i := 3) (by decide +kernel))
  have k_4 := hts (.fieldLink RX2 41 "GrowingTiles$Steps" "places" "[I") (List.mem_of_getElem? (i := 4) (by decide +kernel))
  have b_69 : ∀ n_69 : Nat, ∀ (S_fits : Nat → Int64) (S_fitsInLine : Nat → Int32) (S_fitsInAll : Int32) (S_stale : Nat → Int32) (S_staleCount : Int32) (S_atLeast1 : Int64) (S_atLeast2 : Int64) (S_atLeast3 : Int64) (x1 : Int32), wq_X2_judge_69 K_warm K_strengths K_kinds K_faces K_bars K_showing K_showingRight K_barring K_seeds K_blocks K_rivals S_cells S_staleCells T_made T_kept T_fromClear T_acts T_pieces T_places T_since Q n_69 S_fits S_fitsInLine S_fitsInAll S_stale S_staleCount S_atLeast1 S_atLeast2 S_atLeast3 x1 → ∀ (H : Heap) (locs : List Loc), va_P D vwCl (w_X2_judge cI cJ cZ cO aK aK_strengths aK_kinds aK_marks aK_faces aK_bars aK_showing aK_showingRight aK_barring aS aS_cells aS_fits aS_fitsInLine aS_stale aS_staleCells aS_seen aS_queue aT aT_acts aT_pieces aT_places aT_before aT_since aO K_warm K_count K_seeds K_blocks K_rivals K_strengths K_kinds K_faces K_bars K_showing K_showingRight K_barring S_pieces S_grown S_fitsInAll S_staleCount S_atLeast1 S_atLeast2 S_atLeast3 S_cells S_fits S_fitsInLine S_stale S_staleCells T_made T_kept T_fromClear T_acts T_pieces T_places T_since) H → va_D A (w_X2_judge cI cJ cZ cO aK aK_strengths aK_kinds aK_marks aK_faces aK_bars aK_showing aK_showingRight aK_barring aS aS_cells aS_fits aS_fitsInLine aS_stale aS_staleCells aS_seen aS_queue aT aT_acts aT_pieces aT_places aT_before aT_since aO K_warm K_count K_seeds K_blocks K_rivals K_strengths K_kinds K_faces K_bars K_showing K_showingRight K_barring S_pieces S_grown S_fitsInAll S_staleCount S_atLeast1 S_atLeast2 S_atLeast3 S_cells S_fits S_fitsInLine S_stale S_staleCells T_made T_kept T_fromClear T_acts T_pieces T_places T_since) → va_S A s.heap H locs → ∀ ls : Array Slot, lv_has ls 2 [(0, .ref aO), (1, .int x1)] → W p l e rm_X2_judge s m args below meth c H locs 0 0 Z (F0 m 69 ls []) := by
    intro n_69
    induction n_69 with
    | zero => intro S_fits S_fitsInLine S_fitsInAll S_stale S_staleCount S_atLeast1 S_atLeast2 S_atLeast3 x1 hw; exact False.elim hw
    | succ n_69 ih_69 =>
      intro S_fits S_fitsInLine S_fitsInAll S_stale S_staleCount S_atLeast1 S_atLeast2 S_atLeast3 x1 hw H locs hP hD hS ls hl
      have hw : wf_X2_judge_69 K_warm K_strengths K_kinds K_faces K_bars K_showing K_showingRight K_barring K_seeds K_blocks K_rivals S_cells S_staleCells T_made T_kept T_fromClear T_acts T_pieces T_places T_since Q (wq_X2_judge_69 K_warm K_strengths K_kinds K_faces K_bars K_showing K_showingRight K_barring K_seeds K_blocks K_rivals S_cells S_staleCells T_made T_kept T_fromClear T_acts T_pieces T_places T_since Q n_69) S_fits S_fitsInLine S_fitsInAll S_stale S_staleCount S_atLeast1 S_atLeast2 S_atLeast3 x1 := hw
      unfold wf_X2_judge_69 at hw
      refine lv_iload_n hx hb dX2_judge_69 rfl (lv_at hl 1 rfl) ?_
      refine lv_aload_n hx hb dX2_judge_70 rfl (lv_at hl 0 rfl) ?_
      refine va_get (D := D) (ci := 2) (v := .ref aT) (C := RX2) (T := TX2) (N := 3) hx hb hts in_X2_judge_X2 hown hK hP 19 rfl rfl 2 (by decide) k_0 (fun _ h9 => h9) rfl dX2_judge_71 ?_
      refine va_get (D := D) (ci := 5) (v := .int T_made) (C := RX5) (T := TX5) (N := 8) hx hb hts in_X2_judge_X5 hown hK hP 14 rfl rfl 0 (by decide) k_1 (fun _ h9 => h9) rfl dX2_judge_74 ?_
      refine lv_icmp_ge (tgt := 125) hx hb dX2_judge_77 (by decide) (fun c77 => ?_) (fun c77 => ?_)
      · have hw := hw.1 c77
        refine lv_aload_n hx hb dX2_judge_125 rfl (lv_at hl 0 rfl) ?_
        refine va_get (D := D) (ci := 2) (v := .ref aS) (C := RX2) (T := TX2) (N := 3) hx hb hts in_X2_judge_X2 hown hK hP 19 rfl rfl 1 (by decide) k_2 (fun _ h9 => h9) rfl dX2_judge_126 ?_
        refine cx_goi (va_runV (As := []) (rest := []) ⟨hx, hb, hml, hown, hts⟩ (c_X4_countFits l D cI cJ cZ cO tS tT H.size aK aK_strengths aK_kinds aK_marks aK_faces aK_bars aK_showing aK_showingRight aK_barring aS aS_cells aS_fits aS_fitsInLine aS_stale aS_staleCells aS_seen aS_queue K_warm K_count K_seeds K_blocks K_rivals K_strengths K_faces K_bars K_showing K_showingRight K_barring S_pieces S_grown S_fitsInAll S_staleCount S_atLeast1 S_atLeast2 S_atLeast3 S_cells S_fits S_fitsInLine S_stale S_staleCells _ hw) (cwV 0 hts gX2_judge_X4_countFits rfl rfl rfl pv_X4_countFits ⟨Nat.le_of_ble_eq_true rfl, Nat.le_of_ble_eq_true rfl⟩) (cx_preV (wc := w_X4_countFits cI cJ cZ cO aK aK_strengths aK_kinds aK_marks aK_faces aK_bars aK_showing aK_showingRight aK_barring aS aS_cells aS_fits aS_fitsInLine aS_stale aS_staleCells aS_seen aS_queue K_warm K_count K_seeds K_blocks K_rivals K_strengths K_faces K_bars K_showing K_showingRight K_barring S_pieces S_grown S_fitsInAll S_staleCount S_atLeast1 S_atLeast2 S_atLeast3 S_cells S_fits S_fitsInLine S_stale S_staleCells) hE hK hP hD hS hA [0, 1, 3, 4, 5, 6, 7, 8, 9, 10, 11, 12, 13] rfl rfl (va_recv hK hP (ci := 4) (q0 := 8) rfl rfl)) rfl rfl hl.1 rfl (lv_room (Nat.le_of_ble_eq_true rfl)) dX2_judge_129 ⟨Nat.le_of_ble_eq_true rfl, Nat.le_of_ble_eq_true rfl⟩) (fun (u : (Nat → Int64) × (Nat → Int32) × (Int32) × (Nat → Int32) × (Int32) × (Int64) × (Int64) × (Int64)) => (w_X2_judge cI cJ cZ cO aK aK_strengths aK_kinds aK_marks aK_faces aK_bars aK_showing aK_showingRight aK_barring aS aS_cells aS_fits aS_fitsInLine aS_stale aS_staleCells aS_seen aS_queue aT aT_acts aT_pieces aT_places aT_before aT_since aO K_warm K_count K_seeds K_blocks K_rivals K_strengths K_kinds K_faces K_bars K_showing K_showingRight K_barring S_pieces S_grown u.2.2.1 u.2.2.2.2.1 u.2.2.2.2.2.1 u.2.2.2.2.2.2.1 u.2.2.2.2.2.2.2 S_cells u.1 u.2.1 u.2.2.2.1 S_staleCells T_made T_kept T_fromClear T_acts T_pieces T_places T_since)) [0, 1, 3, 4, 5, 6, 7, 8, 9, 10, 11, 12, 13] [2, 14, 15, 16, 17, 18, 19] (ads := [aK, aK_strengths, aK_faces, aK_bars, aK_showing, aK_showingRight, aK_barring, aS, aS_cells, aS_fits, aS_fitsInLine, aS_stale, aS_staleCells]) (wr := [(aK_kinds, .inl (cI, 40, .inl K_kinds)), (aT, .inr (5, [.int T_made, .int T_kept, .int T_fromClear, .ref aT_acts, .ref aT_pieces, .ref aT_places, .ref aT_before, .ref aT_since])), (aT_acts, .inl (cI, 200, .inl T_acts)), (aT_pieces, .inl (cI, 200, .inl T_pieces)), (aT_places, .inl (cI, 200, .inl T_places)), (aT_since, .inl (cI, 324, .inl T_since)), (aO, .inr (2, [.ref aK, .ref aS, .ref aT]))]) rfl rfl (fun u => rfl) (fun u => rfl) rfl (fun u => rfl) rfl (fun u => rfl) rfl hP hD hS hA (fun r129 u H locs hw hP hD hS => ?_)
        obtain ⟨S_fits_129, S_fitsInLine_129, S_fitsInAll_129, S_stale_129, S_staleCount_129, S_atLeast1_129, S_atLeast2_129, S_atLeast3_129⟩ := u
        try dsimp only at hw
        have hP : va_P D vwCl (w_X2_judge cI cJ cZ cO aK aK_strengths aK_kinds aK_marks aK_faces aK_bars aK_showing aK_showingRight aK_barring aS aS_cells aS_fits aS_fitsInLine aS_stale aS_staleCells aS_seen aS_queue aT aT_acts aT_pieces aT_places aT_before aT_since aO K_warm K_count K_seeds K_blocks K_rivals K_strengths K_kinds K_faces K_bars K_showing K_showingRight K_barring S_pieces S_grown S_fitsInAll_129 S_staleCount_129 S_atLeast1_129 S_atLeast2_129 S_atLeast3_129 S_cells S_fits_129 S_fitsInLine_129 S_stale_129 S_staleCells T_made T_kept T_fromClear T_acts T_pieces T_places T_since) H := hP
        have hD : va_D A (w_X2_judge cI cJ cZ cO aK aK_strengths aK_kinds aK_marks aK_faces aK_bars aK_showing aK_showingRight aK_barring aS aS_cells aS_fits aS_fitsInLine aS_stale aS_staleCells aS_seen aS_queue aT aT_acts aT_pieces aT_places aT_before aT_since aO K_warm K_count K_seeds K_blocks K_rivals K_strengths K_kinds K_faces K_bars K_showing K_showingRight K_barring S_pieces S_grown S_fitsInAll_129 S_staleCount_129 S_atLeast1_129 S_atLeast2_129 S_atLeast3_129 S_cells S_fits_129 S_fitsInLine_129 S_stale_129 S_staleCells T_made T_kept T_fromClear T_acts T_pieces T_places T_since) := hD
        refine lv_if_ne (tgt := 139) hx hb dX2_judge_132 (by decide) (fun c132 => ?_) (fun c132 => ?_)
        · have hw := hw.1 c132
          refine lv_bipush (v := (-4 : Int32)) hx hb dX2_judge_139 kB_m4 ?_
          rw [hZ]
          exact cx_reti (S_fits_129, S_fitsInLine_129, S_fitsInAll_129, S_stale_129, S_staleCount_129, S_atLeast1_129, S_atLeast2_129, S_atLeast3_129) hx hb hr hlocks hw hP hS dX2_judge_141
        · have hw := hw.2 c132
          refine lv_iconst (v := (1 : Int32)) hx hb dX2_judge_135 kI_1 ?_
          refine lv_goto (tgt := 141) hx hb dX2_judge_136 (by decide) ?_
          rw [hZ]
          exact cx_reti (S_fits_129, S_fitsInLine_129, S_fitsInAll_129, S_stale_129, S_staleCount_129, S_atLeast1_129, S_atLeast2_129, S_atLeast3_129) hx hb hr hlocks hw hP hS dX2_judge_141
      · have hw := hw.2 c77
        refine lv_aload_n hx hb dX2_judge_80 rfl (lv_at hl 0 rfl) ?_
        refine va_get (D := D) (ci := 2) (v := .ref aT) (C := RX2) (T := TX2) (N := 3) hx hb hts in_X2_judge_X2 hown hK hP 19 rfl rfl 2 (by decide) k_0 (fun _ h9 => h9) rfl dX2_judge_81 ?_
        refine va_get (D := D) (ci := 5) (v := .ref aT_acts) (C := RX5) (T := TX5) (N := 8) hx hb hts in_X2_judge_X5 hown hK hP 14 rfl rfl 3 (by decide) k_3 (fun _ h9 => h9) rfl dX2_judge_84 ?_
        refine lv_iload_n hx hb dX2_judge_87 rfl (lv_at hl 1 rfl) ?_
        have h88 := hw.1
        have hw := hw.2
        refine va_iald hx hb hK hP 15 0 rfl rfl h88 dX2_judge_88 ?_
        refine lv_topi (fun v88 e88 => ?_)
        have hw := hw v88 e88
        refine lv_iconst (v := (1 : Int32)) hx hb dX2_judge_89 kI_1 ?_
        refine lv_icmp_ne (tgt := 119) hx hb dX2_judge_90 (by decide) (fun c90 => ?_) (fun c90 => ?_)
        · have hw := hw.1 c90
          obtain ⟨v119, e119⟩ : ∃ y : Int32, y = x1 + (1 : Int32) := ⟨_, rfl⟩
          have hw := hw v119 e119
          refine lv_iinc (v := v119) (lv' := [(1, .int v119), (0, .ref aO)]) hx hb dX2_judge_119 hl (k := 1) rfl (by rw [e119, kI_1]) (by decide) rfl (fun ls hl => ?_)
          refine lv_goto (tgt := 69) hx hb dX2_judge_122 (by decide) ?_
          exact ih_69 S_fits S_fitsInLine S_fitsInAll S_stale S_staleCount S_atLeast1 S_atLeast2 S_atLeast3 v119 hw H locs hP hD hS ls (lv_sub hl [1, 0] rfl)
        · have hw := hw.2 c90
          refine lv_aload_n hx hb dX2_judge_93 rfl (lv_at hl 0 rfl) ?_
          refine lv_iload_n hx hb dX2_judge_94 rfl (lv_at hl 1 rfl) ?_
          refine cx_goi (va_runV (As := [.int x1]) (rest := []) ⟨hx, hb, hml, hown, hts⟩ (c_X2_hasRival l D cI cJ cZ cO tS tT H.size aK aK_strengths aK_kinds aK_marks aK_faces aK_bars aK_showing aK_showingRight aK_barring aS aS_cells aS_fits aS_fitsInLine aS_stale aS_staleCells aS_seen aS_queue aT aT_acts aT_pieces aT_places aT_before aT_since aO K_warm K_count K_seeds K_blocks K_rivals K_strengths K_faces K_showing S_pieces S_grown S_fitsInAll S_staleCount S_atLeast1 S_atLeast2 S_atLeast3 S_cells T_made T_kept T_fromClear T_pieces T_places T_since x1 _ hw) (cwV 1 hts gX2_judge_X2_hasRival rfl rfl rfl pv_X2_hasRival ⟨Nat.le_of_ble_eq_true rfl, Nat.le_of_ble_eq_true rfl⟩) (cx_preV (wc := w_X2_hasRival cI cJ cZ cO aK aK_strengths aK_kinds aK_marks aK_faces aK_bars aK_showing aK_showingRight aK_barring aS aS_cells aS_fits aS_fitsInLine aS_stale aS_staleCells aS_seen aS_queue aT aT_acts aT_pieces aT_places aT_before aT_since aO K_warm K_count K_seeds K_blocks K_rivals K_strengths K_faces K_showing S_pieces S_grown S_fitsInAll S_staleCount S_atLeast1 S_atLeast2 S_atLeast3 S_cells T_made T_kept T_fromClear T_pieces T_places T_since) hE hK hP hD hS hA [0, 1, 3, 5, 8, 9, 14, 16, 17, 18, 19] rfl rfl (va_recv hK hP (ci := 2) (q0 := 19) rfl rfl)) rfl rfl hl.1 rfl (lv_room (Nat.le_of_ble_eq_true rfl)) dX2_judge_95 ⟨Nat.le_of_ble_eq_true rfl, Nat.le_of_ble_eq_true rfl⟩) (fun (u : (Int64) × (Int64) × (Int64)) => (w_X2_judge cI cJ cZ cO aK aK_strengths aK_kinds aK_marks aK_faces aK_bars aK_showing aK_showingRight aK_barring aS aS_cells aS_fits aS_fitsInLine aS_stale aS_staleCells aS_seen aS_queue aT aT_acts aT_pieces aT_places aT_before aT_since aO K_warm K_count K_seeds K_blocks K_rivals K_strengths K_kinds K_faces K_bars K_showing K_showingRight K_barring S_pieces S_grown S_fitsInAll S_staleCount u.1 u.2.1 u.2.2 S_cells S_fits S_fitsInLine S_stale S_staleCells T_made T_kept T_fromClear T_acts T_pieces T_places T_since)) [0, 1, 3, 5, 8, 9, 14, 16, 17, 18, 19] [2, 4, 6, 7, 10, 11, 12, 13, 15] (ads := [aK, aK_strengths, aK_faces, aK_showing, aS, aS_cells, aT, aT_pieces, aT_places, aT_since, aO]) (wr := [(aK_kinds, .inl (cI, 40, .inl K_kinds)), (aK_bars, .inl (cI, 128, .inl K_bars)), (aK_showingRight, .inl (cJ, 204, .inr (.inl K_showingRight))), (aK_barring, .inl (cJ, 4, .inr (.inl K_barring))), (aS_fits, .inl (cJ, 324, .inr (.inl S_fits))), (aS_fitsInLine, .inl (cI, 16, .inl S_fitsInLine)), (aS_stale, .inl (cZ, 324, .inl S_stale)), (aS_staleCells, .inl (cI, 256, .inl S_staleCells)), (aT_acts, .inl (cI, 200, .inl T_acts))]) rfl rfl (fun u => rfl) (fun u => rfl) rfl (fun u => rfl) rfl (fun u => rfl) rfl hP hD hS hA (fun r95 u H locs hw hP hD hS => ?_)
          obtain ⟨S_atLeast1_95, S_atLeast2_95, S_atLeast3_95⟩ := u
          try dsimp only at hw
          have hP : va_P D vwCl (w_X2_judge cI cJ cZ cO aK aK_strengths aK_kinds aK_marks aK_faces aK_bars aK_showing aK_showingRight aK_barring aS aS_cells aS_fits aS_fitsInLine aS_stale aS_staleCells aS_seen aS_queue aT aT_acts aT_pieces aT_places aT_before aT_since aO K_warm K_count K_seeds K_blocks K_rivals K_strengths K_kinds K_faces K_bars K_showing K_showingRight K_barring S_pieces S_grown S_fitsInAll S_staleCount S_atLeast1_95 S_atLeast2_95 S_atLeast3_95 S_cells S_fits S_fitsInLine S_stale S_staleCells T_made T_kept T_fromClear T_acts T_pieces T_places T_since) H := hP
          have hD : va_D A (w_X2_judge cI cJ cZ cO aK aK_strengths aK_kinds aK_marks aK_faces aK_bars aK_showing aK_showingRight aK_barring aS aS_cells aS_fits aS_fitsInLine aS_stale aS_staleCells aS_seen aS_queue aT aT_acts aT_pieces aT_places aT_before aT_since aO K_warm K_count K_seeds K_blocks K_rivals K_strengths K_kinds K_faces K_bars K_showing K_showingRight K_barring S_pieces S_grown S_fitsInAll S_staleCount S_atLeast1_95 S_atLeast2_95 S_atLeast3_95 S_cells S_fits S_fitsInLine S_stale S_staleCells T_made T_kept T_fromClear T_acts T_pieces T_places T_since) := hD
          refine lv_if_eq (tgt := 119) hx hb dX2_judge_98 (by decide) (fun c98 => ?_) (fun c98 => ?_)
          · have hw := hw.1 c98
            obtain ⟨v119, e119⟩ : ∃ y : Int32, y = x1 + (1 : Int32) := ⟨_, rfl⟩
            have hw := hw v119 e119
            refine lv_iinc (v := v119) (lv' := [(1, .int v119), (0, .ref aO)]) hx hb dX2_judge_119 hl (k := 1) rfl (by rw [e119, kI_1]) (by decide) rfl (fun ls hl => ?_)
            refine lv_goto (tgt := 69) hx hb dX2_judge_122 (by decide) ?_
            exact ih_69 S_fits S_fitsInLine S_fitsInAll S_stale S_staleCount S_atLeast1_95 S_atLeast2_95 S_atLeast3_95 v119 hw H locs hP hD hS ls (lv_sub hl [1, 0] rfl)
          · have hw := hw.2 c98
            refine lv_bipush (v := (-3 : Int32)) hx hb dX2_judge_101 kB_m3 ?_
            refine lv_iconst (v := (4 : Int32)) hx hb dX2_judge_103 kI_4 ?_
            refine lv_aload_n hx hb dX2_judge_104 rfl (lv_at hl 0 rfl) ?_
            refine va_get (D := D) (ci := 2) (v := .ref aT) (C := RX2) (T := TX2) (N := 3) hx hb hts in_X2_judge_X2 hown hK hP 19 rfl rfl 2 (by decide) k_0 (fun _ h9 => h9) rfl dX2_judge_105 ?_
            refine va_get (D := D) (ci := 5) (v := .ref aT_places) (C := RX5) (T := TX5) (N := 8) hx hb hts in_X2_judge_X5 hown hK hP 14 rfl rfl 5 (by decide) k_4 (fun _ h9 => h9) rfl dX2_judge_108 ?_
            refine lv_iload_n hx hb dX2_judge_111 rfl (lv_at hl 1 rfl) ?_
            have h112 := hw.1
            have hw := hw.2
            refine va_iald hx hb hK hP 17 0 rfl rfl h112 dX2_judge_112 ?_
            refine lv_topi (fun v112 e112 => ?_)
            have hw := hw v112 e112
            refine cx_goi (va_runS (As := [.int v112]) (rest := [.int (4 : Int32), .int (-3 : Int32)]) ⟨hx, hb, hml, hown, hts⟩ (c_X2_numberOf l D cI cJ cZ cO tS tT H.size v112 _ hw) (va_cwS 1 hts gX2_judge_X2_numberOf rfl rfl rfl ps_X2_numberOf ⟨Nat.le_of_ble_eq_true rfl, Nat.le_of_ble_eq_true rfl⟩) (cx_preS (wc := w_X2_numberOf) hE hK hP hD hS hA [] rfl rfl) rfl rfl hl.1 rfl (lv_room (Nat.le_of_ble_eq_true rfl)) dX2_judge_113 ⟨Nat.le_of_ble_eq_true rfl, Nat.le_of_ble_eq_true rfl⟩) (fun (_ : Unit) => (w_X2_judge cI cJ cZ cO aK aK_strengths aK_kinds aK_marks aK_faces aK_bars aK_showing aK_showingRight aK_barring aS aS_cells aS_fits aS_fitsInLine aS_stale aS_staleCells aS_seen aS_queue aT aT_acts aT_pieces aT_places aT_before aT_since aO K_warm K_count K_seeds K_blocks K_rivals K_strengths K_kinds K_faces K_bars K_showing K_showingRight K_barring S_pieces S_grown S_fitsInAll S_staleCount S_atLeast1_95 S_atLeast2_95 S_atLeast3_95 S_cells S_fits S_fitsInLine S_stale S_staleCells T_made T_kept T_fromClear T_acts T_pieces T_places T_since)) [] [0, 1, 2, 3, 4, 5, 6, 7, 8, 9, 10, 11, 12, 13, 14, 15, 16, 17, 18, 19] (ads := []) (wr := [(aK, .inr (1, [.int K_warm, .int K_count, .ref aK_strengths, .ref aK_kinds, .ref aK_marks, .ref aK_faces, .ref aK_bars, .ref aK_showing, .ref aK_showingRight, .ref aK_barring, .long K_seeds, .long K_blocks, .long K_rivals])), (aK_strengths, .inl (cI, 51, .inl K_strengths)), (aK_kinds, .inl (cI, 40, .inl K_kinds)), (aK_faces, .inl (cI, 512, .inl K_faces)), (aK_bars, .inl (cI, 128, .inl K_bars)), (aK_showing, .inl (cJ, 204, .inr (.inl K_showing))), (aK_showingRight, .inl (cJ, 204, .inr (.inl K_showingRight))), (aK_barring, .inl (cJ, 4, .inr (.inl K_barring))), (aS, .inr (4, [.ref aK, .ref aS_cells, .int S_pieces, .int S_grown, .ref aS_fits, .ref aS_fitsInLine, .int S_fitsInAll, .ref aS_stale, .ref aS_staleCells, .int S_staleCount, .long S_atLeast1_95, .long S_atLeast2_95, .long S_atLeast3_95, .ref aS_seen, .ref aS_queue])), (aS_cells, .inl (cI, 324, .inl S_cells)), (aS_fits, .inl (cJ, 324, .inr (.inl S_fits))), (aS_fitsInLine, .inl (cI, 16, .inl S_fitsInLine)), (aS_stale, .inl (cZ, 324, .inl S_stale)), (aS_staleCells, .inl (cI, 256, .inl S_staleCells)), (aT, .inr (5, [.int T_made, .int T_kept, .int T_fromClear, .ref aT_acts, .ref aT_pieces, .ref aT_places, .ref aT_before, .ref aT_since])), (aT_acts, .inl (cI, 200, .inl T_acts)), (aT_pieces, .inl (cI, 200, .inl T_pieces)), (aT_places, .inl (cI, 200, .inl T_places)), (aT_since, .inl (cI, 324, .inl T_since)), (aO, .inr (2, [.ref aK, .ref aS, .ref aT]))]) rfl rfl (fun u => rfl) (fun u => rfl) rfl (fun u => rfl) rfl (fun u => rfl) rfl hP hD hS hA (fun r113 u H locs hw hP hD hS => ?_)
            refine lv_imul hx hb dX2_judge_116 ?_
            refine lv_isub hx hb dX2_judge_117 ?_
            rw [hZ]
            exact cx_reti (S_fits, S_fitsInLine, S_fitsInAll, S_stale, S_staleCount, S_atLeast1_95, S_atLeast2_95, S_atLeast3_95) hx hb hr hlocks hw hP hS dX2_judge_118
  have b_11 : ∀ n_11 : Nat, ∀ (S_fits : Nat → Int64) (S_fitsInLine : Nat → Int32) (S_fitsInAll : Int32) (S_stale : Nat → Int32) (S_staleCount : Int32) (S_atLeast1 : Int64) (S_atLeast2 : Int64) (S_atLeast3 : Int64) (x1 : Int32), wq_X2_judge_11 K_warm K_strengths K_kinds K_faces K_bars K_showing K_showingRight K_barring K_seeds K_blocks K_rivals S_cells S_staleCells T_made T_kept T_fromClear T_acts T_pieces T_places T_since Q n_11 S_fits S_fitsInLine S_fitsInAll S_stale S_staleCount S_atLeast1 S_atLeast2 S_atLeast3 x1 → ∀ (H : Heap) (locs : List Loc), va_P D vwCl (w_X2_judge cI cJ cZ cO aK aK_strengths aK_kinds aK_marks aK_faces aK_bars aK_showing aK_showingRight aK_barring aS aS_cells aS_fits aS_fitsInLine aS_stale aS_staleCells aS_seen aS_queue aT aT_acts aT_pieces aT_places aT_before aT_since aO K_warm K_count K_seeds K_blocks K_rivals K_strengths K_kinds K_faces K_bars K_showing K_showingRight K_barring S_pieces S_grown S_fitsInAll S_staleCount S_atLeast1 S_atLeast2 S_atLeast3 S_cells S_fits S_fitsInLine S_stale S_staleCells T_made T_kept T_fromClear T_acts T_pieces T_places T_since) H → va_D A (w_X2_judge cI cJ cZ cO aK aK_strengths aK_kinds aK_marks aK_faces aK_bars aK_showing aK_showingRight aK_barring aS aS_cells aS_fits aS_fitsInLine aS_stale aS_staleCells aS_seen aS_queue aT aT_acts aT_pieces aT_places aT_before aT_since aO K_warm K_count K_seeds K_blocks K_rivals K_strengths K_kinds K_faces K_bars K_showing K_showingRight K_barring S_pieces S_grown S_fitsInAll S_staleCount S_atLeast1 S_atLeast2 S_atLeast3 S_cells S_fits S_fitsInLine S_stale S_staleCells T_made T_kept T_fromClear T_acts T_pieces T_places T_since) → va_S A s.heap H locs → ∀ ls : Array Slot, lv_has ls 2 [(0, .ref aO), (1, .int x1)] → W p l e rm_X2_judge s m args below meth c H locs 0 0 Z (F0 m 11 ls []) := by
    intro n_11
    induction n_11 with
    | zero => intro S_fits S_fitsInLine S_fitsInAll S_stale S_staleCount S_atLeast1 S_atLeast2 S_atLeast3 x1 hw; exact False.elim hw
    | succ n_11 ih_11 =>
      intro S_fits S_fitsInLine S_fitsInAll S_stale S_staleCount S_atLeast1 S_atLeast2 S_atLeast3 x1 hw H locs hP hD hS ls hl
      have hw : wf_X2_judge_11 K_warm K_strengths K_kinds K_faces K_bars K_showing K_showingRight K_barring K_seeds K_blocks K_rivals S_cells S_staleCells T_made T_kept T_fromClear T_acts T_pieces T_places T_since Q (wq_X2_judge_11 K_warm K_strengths K_kinds K_faces K_bars K_showing K_showingRight K_barring K_seeds K_blocks K_rivals S_cells S_staleCells T_made T_kept T_fromClear T_acts T_pieces T_places T_since Q n_11) S_fits S_fitsInLine S_fitsInAll S_stale S_staleCount S_atLeast1 S_atLeast2 S_atLeast3 x1 := hw
      unfold wf_X2_judge_11 at hw
      refine lv_iload_n hx hb dX2_judge_11 rfl (lv_at hl 1 rfl) ?_
      refine lv_aload_n hx hb dX2_judge_12 rfl (lv_at hl 0 rfl) ?_
      refine va_get (D := D) (ci := 2) (v := .ref aT) (C := RX2) (T := TX2) (N := 3) hx hb hts in_X2_judge_X2 hown hK hP 19 rfl rfl 2 (by decide) k_0 (fun _ h9 => h9) rfl dX2_judge_13 ?_
      refine va_get (D := D) (ci := 5) (v := .int T_made) (C := RX5) (T := TX5) (N := 8) hx hb hts in_X2_judge_X5 hown hK hP 14 rfl rfl 0 (by decide) k_1 (fun _ h9 => h9) rfl dX2_judge_16 ?_
      refine lv_icmp_ge (tgt := 67) hx hb dX2_judge_19 (by decide) (fun c19 => ?_) (fun c19 => ?_)
      · have hw := hw.1 c19
        refine lv_iconst (v := (0 : Int32)) hx hb dX2_judge_67 kI_0 ?_
        refine lv_istore_n (lv' := [(1, .int (0 : Int32)), (0, .ref aO)]) hx hb dX2_judge_68 rfl hl (by decide) rfl (fun ls hl => ?_)
        obtain ⟨k, hw⟩ := hw
        exact b_69 k S_fits S_fitsInLine S_fitsInAll S_stale S_staleCount S_atLeast1 S_atLeast2 S_atLeast3 (0 : Int32) hw H locs hP hD hS ls (lv_sub hl [1, 0] rfl)
      · have hw := hw.2 c19
        refine lv_aload_n hx hb dX2_judge_22 rfl (lv_at hl 0 rfl) ?_
        refine va_get (D := D) (ci := 2) (v := .ref aT) (C := RX2) (T := TX2) (N := 3) hx hb hts in_X2_judge_X2 hown hK hP 19 rfl rfl 2 (by decide) k_0 (fun _ h9 => h9) rfl dX2_judge_23 ?_
        refine va_get (D := D) (ci := 5) (v := .ref aT_acts) (C := RX5) (T := TX5) (N := 8) hx hb hts in_X2_judge_X5 hown hK hP 14 rfl rfl 3 (by decide) k_3 (fun _ h9 => h9) rfl dX2_judge_26 ?_
        refine lv_iload_n hx hb dX2_judge_29 rfl (lv_at hl 1 rfl) ?_
        have h30 := hw.1
        have hw := hw.2
        refine va_iald hx hb hK hP 15 0 rfl rfl h30 dX2_judge_30 ?_
        refine lv_topi (fun v30 e30 => ?_)
        have hw := hw v30 e30
        refine lv_iconst (v := (1 : Int32)) hx hb dX2_judge_31 kI_1 ?_
        refine lv_icmp_ne (tgt := 61) hx hb dX2_judge_32 (by decide) (fun c32 => ?_) (fun c32 => ?_)
        · have hw := hw.1 c32
          obtain ⟨v61, e61⟩ : ∃ y : Int32, y = x1 + (1 : Int32) := ⟨_, rfl⟩
          have hw := hw v61 e61
          refine lv_iinc (v := v61) (lv' := [(1, .int v61), (0, .ref aO)]) hx hb dX2_judge_61 hl (k := 1) rfl (by rw [e61, kI_1]) (by decide) rfl (fun ls hl => ?_)
          refine lv_goto (tgt := 11) hx hb dX2_judge_64 (by decide) ?_
          exact ih_11 S_fits S_fitsInLine S_fitsInAll S_stale S_staleCount S_atLeast1 S_atLeast2 S_atLeast3 v61 hw H locs hP hD hS ls (lv_sub hl [1, 0] rfl)
        · have hw := hw.2 c32
          refine lv_aload_n hx hb dX2_judge_35 rfl (lv_at hl 0 rfl) ?_
          refine lv_iload_n hx hb dX2_judge_36 rfl (lv_at hl 1 rfl) ?_
          refine cx_goi (va_runV (As := [.int x1]) (rest := []) ⟨hx, hb, hml, hown, hts⟩ (c_X2_wasJustHeld l D cI cJ cZ cO tS tT H.size aK aK_strengths aK_kinds aK_marks aK_faces aK_bars aK_showing aK_showingRight aK_barring aS aS_cells aS_fits aS_fitsInLine aS_stale aS_staleCells aS_seen aS_queue aT aT_acts aT_pieces aT_places aT_before aT_since aO K_warm K_count K_seeds K_blocks K_rivals K_strengths K_faces S_pieces S_grown S_fitsInAll S_staleCount S_atLeast1 S_atLeast2 S_atLeast3 S_cells T_made T_kept T_fromClear T_pieces T_places T_since x1 _ hw) (cwV 1 hts gX2_judge_X2_wasJustHeld rfl rfl rfl pv_X2_wasJustHeld ⟨Nat.le_of_ble_eq_true rfl, Nat.le_of_ble_eq_true rfl⟩) (cx_preV (wc := w_X2_wasJustHeld cI cJ cZ cO aK aK_strengths aK_kinds aK_marks aK_faces aK_bars aK_showing aK_showingRight aK_barring aS aS_cells aS_fits aS_fitsInLine aS_stale aS_staleCells aS_seen aS_queue aT aT_acts aT_pieces aT_places aT_before aT_since aO K_warm K_count K_seeds K_blocks K_rivals K_strengths K_faces S_pieces S_grown S_fitsInAll S_staleCount S_atLeast1 S_atLeast2 S_atLeast3 S_cells T_made T_kept T_fromClear T_pieces T_places T_since) hE hK hP hD hS hA [0, 1, 3, 8, 9, 14, 16, 17, 18, 19] rfl rfl (va_recv hK hP (ci := 2) (q0 := 19) rfl rfl)) rfl rfl hl.1 rfl (lv_room (Nat.le_of_ble_eq_true rfl)) dX2_judge_37 ⟨Nat.le_of_ble_eq_true rfl, Nat.le_of_ble_eq_true rfl⟩) (fun (_ : Unit) => (w_X2_judge cI cJ cZ cO aK aK_strengths aK_kinds aK_marks aK_faces aK_bars aK_showing aK_showingRight aK_barring aS aS_cells aS_fits aS_fitsInLine aS_stale aS_staleCells aS_seen aS_queue aT aT_acts aT_pieces aT_places aT_before aT_since aO K_warm K_count K_seeds K_blocks K_rivals K_strengths K_kinds K_faces K_bars K_showing K_showingRight K_barring S_pieces S_grown S_fitsInAll S_staleCount S_atLeast1 S_atLeast2 S_atLeast3 S_cells S_fits S_fitsInLine S_stale S_staleCells T_made T_kept T_fromClear T_acts T_pieces T_places T_since)) [0, 1, 3, 8, 9, 14, 16, 17, 18, 19] [2, 4, 5, 6, 7, 10, 11, 12, 13, 15] (ads := [aK, aK_strengths, aK_faces, aS, aS_cells, aT, aT_pieces, aT_places, aT_since, aO]) (wr := [(aK_kinds, .inl (cI, 40, .inl K_kinds)), (aK_bars, .inl (cI, 128, .inl K_bars)), (aK_showing, .inl (cJ, 204, .inr (.inl K_showing))), (aK_showingRight, .inl (cJ, 204, .inr (.inl K_showingRight))), (aK_barring, .inl (cJ, 4, .inr (.inl K_barring))), (aS_fits, .inl (cJ, 324, .inr (.inl S_fits))), (aS_fitsInLine, .inl (cI, 16, .inl S_fitsInLine)), (aS_stale, .inl (cZ, 324, .inl S_stale)), (aS_staleCells, .inl (cI, 256, .inl S_staleCells)), (aT_acts, .inl (cI, 200, .inl T_acts))]) rfl rfl (fun u => rfl) (fun u => rfl) rfl (fun u => rfl) rfl (fun u => rfl) rfl hP hD hS hA (fun r37 u H locs hw hP hD hS => ?_)
          have hP : va_P D vwCl (w_X2_judge cI cJ cZ cO aK aK_strengths aK_kinds aK_marks aK_faces aK_bars aK_showing aK_showingRight aK_barring aS aS_cells aS_fits aS_fitsInLine aS_stale aS_staleCells aS_seen aS_queue aT aT_acts aT_pieces aT_places aT_before aT_since aO K_warm K_count K_seeds K_blocks K_rivals K_strengths K_kinds K_faces K_bars K_showing K_showingRight K_barring S_pieces S_grown S_fitsInAll S_staleCount S_atLeast1 S_atLeast2 S_atLeast3 S_cells S_fits S_fitsInLine S_stale S_staleCells T_made T_kept T_fromClear T_acts T_pieces T_places T_since) H := hP
          have hD : va_D A (w_X2_judge cI cJ cZ cO aK aK_strengths aK_kinds aK_marks aK_faces aK_bars aK_showing aK_showingRight aK_barring aS aS_cells aS_fits aS_fitsInLine aS_stale aS_staleCells aS_seen aS_queue aT aT_acts aT_pieces aT_places aT_before aT_since aO K_warm K_count K_seeds K_blocks K_rivals K_strengths K_kinds K_faces K_bars K_showing K_showingRight K_barring S_pieces S_grown S_fitsInAll S_staleCount S_atLeast1 S_atLeast2 S_atLeast3 S_cells S_fits S_fitsInLine S_stale S_staleCells T_made T_kept T_fromClear T_acts T_pieces T_places T_since) := hD
          refine lv_if_ne (tgt := 61) hx hb dX2_judge_40 (by decide) (fun c40 => ?_) (fun c40 => ?_)
          · have hw := hw.1 c40
            obtain ⟨v61, e61⟩ : ∃ y : Int32, y = x1 + (1 : Int32) := ⟨_, rfl⟩
            have hw := hw v61 e61
            refine lv_iinc (v := v61) (lv' := [(1, .int v61), (0, .ref aO)]) hx hb dX2_judge_61 hl (k := 1) rfl (by rw [e61, kI_1]) (by decide) rfl (fun ls hl => ?_)
            refine lv_goto (tgt := 11) hx hb dX2_judge_64 (by decide) ?_
            exact ih_11 S_fits S_fitsInLine S_fitsInAll S_stale S_staleCount S_atLeast1 S_atLeast2 S_atLeast3 v61 hw H locs hP hD hS ls (lv_sub hl [1, 0] rfl)
          · have hw := hw.2 c40
            refine lv_bipush (v := (-2 : Int32)) hx hb dX2_judge_43 kB_m2 ?_
            refine lv_iconst (v := (4 : Int32)) hx hb dX2_judge_45 kI_4 ?_
            refine lv_aload_n hx hb dX2_judge_46 rfl (lv_at hl 0 rfl) ?_
            refine va_get (D := D) (ci := 2) (v := .ref aT) (C := RX2) (T := TX2) (N := 3) hx hb hts in_X2_judge_X2 hown hK hP 19 rfl rfl 2 (by decide) k_0 (fun _ h9 => h9) rfl dX2_judge_47 ?_
            refine va_get (D := D) (ci := 5) (v := .ref aT_places) (C := RX5) (T := TX5) (N := 8) hx hb hts in_X2_judge_X5 hown hK hP 14 rfl rfl 5 (by decide) k_4 (fun _ h9 => h9) rfl dX2_judge_50 ?_
            refine lv_iload_n hx hb dX2_judge_53 rfl (lv_at hl 1 rfl) ?_
            have h54 := hw.1
            have hw := hw.2
            refine va_iald hx hb hK hP 17 0 rfl rfl h54 dX2_judge_54 ?_
            refine lv_topi (fun v54 e54 => ?_)
            have hw := hw v54 e54
            refine cx_goi (va_runS (As := [.int v54]) (rest := [.int (4 : Int32), .int (-2 : Int32)]) ⟨hx, hb, hml, hown, hts⟩ (c_X2_numberOf l D cI cJ cZ cO tS tT H.size v54 _ hw) (va_cwS 1 hts gX2_judge_X2_numberOf rfl rfl rfl ps_X2_numberOf ⟨Nat.le_of_ble_eq_true rfl, Nat.le_of_ble_eq_true rfl⟩) (cx_preS (wc := w_X2_numberOf) hE hK hP hD hS hA [] rfl rfl) rfl rfl hl.1 rfl (lv_room (Nat.le_of_ble_eq_true rfl)) dX2_judge_55 ⟨Nat.le_of_ble_eq_true rfl, Nat.le_of_ble_eq_true rfl⟩) (fun (_ : Unit) => (w_X2_judge cI cJ cZ cO aK aK_strengths aK_kinds aK_marks aK_faces aK_bars aK_showing aK_showingRight aK_barring aS aS_cells aS_fits aS_fitsInLine aS_stale aS_staleCells aS_seen aS_queue aT aT_acts aT_pieces aT_places aT_before aT_since aO K_warm K_count K_seeds K_blocks K_rivals K_strengths K_kinds K_faces K_bars K_showing K_showingRight K_barring S_pieces S_grown S_fitsInAll S_staleCount S_atLeast1 S_atLeast2 S_atLeast3 S_cells S_fits S_fitsInLine S_stale S_staleCells T_made T_kept T_fromClear T_acts T_pieces T_places T_since)) [] [0, 1, 2, 3, 4, 5, 6, 7, 8, 9, 10, 11, 12, 13, 14, 15, 16, 17, 18, 19] (ads := []) (wr := [(aK, .inr (1, [.int K_warm, .int K_count, .ref aK_strengths, .ref aK_kinds, .ref aK_marks, .ref aK_faces, .ref aK_bars, .ref aK_showing, .ref aK_showingRight, .ref aK_barring, .long K_seeds, .long K_blocks, .long K_rivals])), (aK_strengths, .inl (cI, 51, .inl K_strengths)), (aK_kinds, .inl (cI, 40, .inl K_kinds)), (aK_faces, .inl (cI, 512, .inl K_faces)), (aK_bars, .inl (cI, 128, .inl K_bars)), (aK_showing, .inl (cJ, 204, .inr (.inl K_showing))), (aK_showingRight, .inl (cJ, 204, .inr (.inl K_showingRight))), (aK_barring, .inl (cJ, 4, .inr (.inl K_barring))), (aS, .inr (4, [.ref aK, .ref aS_cells, .int S_pieces, .int S_grown, .ref aS_fits, .ref aS_fitsInLine, .int S_fitsInAll, .ref aS_stale, .ref aS_staleCells, .int S_staleCount, .long S_atLeast1, .long S_atLeast2, .long S_atLeast3, .ref aS_seen, .ref aS_queue])), (aS_cells, .inl (cI, 324, .inl S_cells)), (aS_fits, .inl (cJ, 324, .inr (.inl S_fits))), (aS_fitsInLine, .inl (cI, 16, .inl S_fitsInLine)), (aS_stale, .inl (cZ, 324, .inl S_stale)), (aS_staleCells, .inl (cI, 256, .inl S_staleCells)), (aT, .inr (5, [.int T_made, .int T_kept, .int T_fromClear, .ref aT_acts, .ref aT_pieces, .ref aT_places, .ref aT_before, .ref aT_since])), (aT_acts, .inl (cI, 200, .inl T_acts)), (aT_pieces, .inl (cI, 200, .inl T_pieces)), (aT_places, .inl (cI, 200, .inl T_places)), (aT_since, .inl (cI, 324, .inl T_since)), (aO, .inr (2, [.ref aK, .ref aS, .ref aT]))]) rfl rfl (fun u => rfl) (fun u => rfl) rfl (fun u => rfl) rfl (fun u => rfl) rfl hP hD hS hA (fun r55 u H locs hw hP hD hS => ?_)
            refine lv_imul hx hb dX2_judge_58 ?_
            refine lv_isub hx hb dX2_judge_59 ?_
            rw [hZ]
            exact cx_reti (S_fits, S_fitsInLine, S_fitsInAll, S_stale, S_staleCount, S_atLeast1, S_atLeast2, S_atLeast3) hx hb hr hlocks hw hP hS dX2_judge_60
  intro H locs hP hD hS ls hl
  unfold wp_X2_judge at hw
  refine lv_aload_n hx hb dX2_judge_0 rfl (lv_at hl 0 rfl) ?_
  refine cx_goi (va_runV (As := []) (rest := []) ⟨hx, hb, hml, hown, hts⟩ (c_X2_canBeAsked l D cI cJ cZ cO tS tT H.size aK aK_strengths aK_kinds aK_marks aK_faces aK_bars aK_showing aK_showingRight aK_barring aT aT_acts aT_pieces aT_places aT_before aT_since aO aS K_warm K_count K_seeds K_blocks K_rivals K_kinds K_bars T_made T_kept T_fromClear T_acts T_pieces _ hw) (cwV 0 hts gX2_judge_X2_canBeAsked rfl rfl rfl pv_X2_canBeAsked ⟨Nat.le_of_ble_eq_true rfl, Nat.le_of_ble_eq_true rfl⟩) (cx_preV (wc := w_X2_canBeAsked cI cJ cZ cO aK aK_strengths aK_kinds aK_marks aK_faces aK_bars aK_showing aK_showingRight aK_barring aT aT_acts aT_pieces aT_places aT_before aT_since aO aS K_warm K_count K_seeds K_blocks K_rivals K_kinds K_bars T_made T_kept T_fromClear T_acts T_pieces) hE hK hP hD hS hA [0, 2, 4, 14, 15, 16, 19] rfl rfl (va_recv hK hP (ci := 2) (q0 := 19) rfl rfl)) rfl rfl hl.1 rfl (lv_room (Nat.le_of_ble_eq_true rfl)) dX2_judge_1 ⟨Nat.le_of_ble_eq_true rfl, Nat.le_of_ble_eq_true rfl⟩) (fun (_ : Unit) => (w_X2_judge cI cJ cZ cO aK aK_strengths aK_kinds aK_marks aK_faces aK_bars aK_showing aK_showingRight aK_barring aS aS_cells aS_fits aS_fitsInLine aS_stale aS_staleCells aS_seen aS_queue aT aT_acts aT_pieces aT_places aT_before aT_since aO K_warm K_count K_seeds K_blocks K_rivals K_strengths K_kinds K_faces K_bars K_showing K_showingRight K_barring S_pieces S_grown S_fitsInAll S_staleCount S_atLeast1 S_atLeast2 S_atLeast3 S_cells S_fits S_fitsInLine S_stale S_staleCells T_made T_kept T_fromClear T_acts T_pieces T_places T_since)) [0, 2, 4, 14, 15, 16, 19] [1, 3, 5, 6, 7, 8, 9, 10, 11, 12, 13, 17, 18] (ads := [aK, aK_kinds, aK_bars, aT, aT_acts, aT_pieces, aO]) (wr := [(aK_strengths, .inl (cI, 51, .inl K_strengths)), (aK_faces, .inl (cI, 512, .inl K_faces)), (aK_showing, .inl (cJ, 204, .inr (.inl K_showing))), (aK_showingRight, .inl (cJ, 204, .inr (.inl K_showingRight))), (aK_barring, .inl (cJ, 4, .inr (.inl K_barring))), (aS, .inr (4, [.ref aK, .ref aS_cells, .int S_pieces, .int S_grown, .ref aS_fits, .ref aS_fitsInLine, .int S_fitsInAll, .ref aS_stale, .ref aS_staleCells, .int S_staleCount, .long S_atLeast1, .long S_atLeast2, .long S_atLeast3, .ref aS_seen, .ref aS_queue])), (aS_cells, .inl (cI, 324, .inl S_cells)), (aS_fits, .inl (cJ, 324, .inr (.inl S_fits))), (aS_fitsInLine, .inl (cI, 16, .inl S_fitsInLine)), (aS_stale, .inl (cZ, 324, .inl S_stale)), (aS_staleCells, .inl (cI, 256, .inl S_staleCells)), (aT_places, .inl (cI, 200, .inl T_places)), (aT_since, .inl (cI, 324, .inl T_since))]) rfl rfl (fun u => rfl) (fun u => rfl) rfl (fun u => rfl) rfl (fun u => rfl) rfl hP hD hS hA (fun r1 u H locs hw hP hD hS => ?_)
  have hP : va_P D vwCl (w_X2_judge cI cJ cZ cO aK aK_strengths aK_kinds aK_marks aK_faces aK_bars aK_showing aK_showingRight aK_barring aS aS_cells aS_fits aS_fitsInLine aS_stale aS_staleCells aS_seen aS_queue aT aT_acts aT_pieces aT_places aT_before aT_since aO K_warm K_count K_seeds K_blocks K_rivals K_strengths K_kinds K_faces K_bars K_showing K_showingRight K_barring S_pieces S_grown S_fitsInAll S_staleCount S_atLeast1 S_atLeast2 S_atLeast3 S_cells S_fits S_fitsInLine S_stale S_staleCells T_made T_kept T_fromClear T_acts T_pieces T_places T_since) H := hP
  have hD : va_D A (w_X2_judge cI cJ cZ cO aK aK_strengths aK_kinds aK_marks aK_faces aK_bars aK_showing aK_showingRight aK_barring aS aS_cells aS_fits aS_fitsInLine aS_stale aS_staleCells aS_seen aS_queue aT aT_acts aT_pieces aT_places aT_before aT_since aO K_warm K_count K_seeds K_blocks K_rivals K_strengths K_kinds K_faces K_bars K_showing K_showingRight K_barring S_pieces S_grown S_fitsInAll S_staleCount S_atLeast1 S_atLeast2 S_atLeast3 S_cells S_fits S_fitsInLine S_stale S_staleCells T_made T_kept T_fromClear T_acts T_pieces T_places T_since) := hD
  refine lv_if_ne (tgt := 9) hx hb dX2_judge_4 (by decide) (fun c4 => ?_) (fun c4 => ?_)
  · have hw := hw.1 c4
    refine lv_iconst (v := (0 : Int32)) hx hb dX2_judge_9 kI_0 ?_
    refine lv_istore_n (lv' := [(1, .int (0 : Int32)), (0, .ref aO)]) hx hb dX2_judge_10 rfl hl (by decide) rfl (fun ls hl => ?_)
    obtain ⟨k, hw⟩ := hw
    exact b_11 k S_fits S_fitsInLine S_fitsInAll S_stale S_staleCount S_atLeast1 S_atLeast2 S_atLeast3 (0 : Int32) hw H locs hP hD hS ls (lv_sub hl [1, 0] rfl)
  · have hw := hw.2 c4
    refine lv_iconst (v := (-1 : Int32)) hx hb dX2_judge_7 kI_m1 ?_
    rw [hZ]
    exact cx_reti (S_fits, S_fitsInLine, S_fitsInAll, S_stale, S_staleCount, S_atLeast1, S_atLeast2, S_atLeast3) hx hb hr hlocks hw hP hS dX2_judge_8
set_option maxRecDepth 100000 in
set_option maxHeartbeats 4000000 in
theorem c_X3_isRefused (l : Launch) (D : va_G) (cI cJ cZ cO : ClassId) (tS tT : Nat) (sz : Nat) (aS aK aS_cells aS_fits aS_fitsInLine aS_stale aS_staleCells aS_seen aS_queue aR aR_start aR_parents aR_places aR_pieces aR_wide aR_sizes aR_sums aR_firstInBucket aR_nextInBucket : Nat) (S_pieces : Int32) (S_grown : Int32) (S_fitsInAll : Int32) (S_staleCount : Int32) (S_atLeast1 : Int64) (S_atLeast2 : Int64) (S_atLeast3 : Int64) (R_told : Int32) (R_found : Int32) (R_ended : Int32) (R_cut : Int32) (R_largest : Int32) (R_here : Int32) (p1 : Int32) (Q : Int32 → Prop) (hw : wp_X3_isRefused S_pieces R_told p1 Q) : Met l yX3_isRefused wsX3_isRefused rm_X3_isRefused (va_Pc [.ref aR, .int p1] (cx_B tS tT cI cJ cZ cO D sz (w_X3_isRefused cI cJ cZ cO aS aK aS_cells aS_fits aS_fitsInLine aS_stale aS_staleCells aS_seen aS_queue aR aR_start aR_parents aR_places aR_pieces aR_wide aR_sizes aR_sums aR_firstInBucket aR_nextInBucket S_pieces S_grown S_fitsInAll S_staleCount S_atLeast1 S_atLeast2 S_atLeast3 R_told R_found R_ended R_cut R_largest R_here))) (va_Qi (fun (r : Int32) (_ : Unit) => Q r) (fun (u : Unit) t => va_P D vwCl (w_X3_isRefused cI cJ cZ cO aS aK aS_cells aS_fits aS_fitsInLine aS_stale aS_staleCells aS_seen aS_queue aR aR_start aR_parents aR_places aR_pieces aR_wide aR_sizes aR_sums aR_firstInBucket aR_nextInBucket S_pieces S_grown S_fitsInAll S_staleCount S_atLeast1 S_atLeast2 S_atLeast3 R_told R_found R_ended R_cut R_largest R_here) t.heap) (va_A (w_X3_isRefused cI cJ cZ cO aS aK aS_cells aS_fits aS_fitsInLine aS_stale aS_staleCells aS_seen aS_queue aR aR_start aR_parents aR_places aR_pieces aR_wide aR_sizes aR_sums aR_firstInBucket aR_nextInBucket S_pieces S_grown S_fitsInAll S_staleCount S_atLeast1 S_atLeast2 S_atLeast3 R_told R_found R_ended R_cut R_largest R_here) sz)) 0 0 (va_A (w_X3_isRefused cI cJ cZ cO aS aK aS_cells aS_fits aS_fitsInLine aS_stale aS_staleCells aS_seen aS_queue aR aR_start aR_parents aR_places aR_pieces aR_wide aR_sizes aR_sums aR_firstInBucket aR_nextInBucket S_pieces S_grown S_fitsInAll S_staleCount S_atLeast1 S_atLeast2 S_atLeast3 R_told R_found R_ended R_cut R_largest R_here) sz) := by
  refine cx_met (cc := cX3_isRefused) (maxL := 2) (ret := (some .boolean)) (Qc := fun A => va_Qi (fun (r : Int32) (_ : Unit) => Q r) (fun (u : Unit) t => va_P D vwCl (w_X3_isRefused cI cJ cZ cO aS aK aS_cells aS_fits aS_fitsInLine aS_stale aS_staleCells aS_seen aS_queue aR aR_start aR_parents aR_places aR_pieces aR_wide aR_sizes aR_sums aR_firstInBucket aR_nextInBucket S_pieces S_grown S_fitsInAll S_staleCount S_atLeast1 S_atLeast2 S_atLeast3 R_told R_found R_ended R_cut R_largest R_here) t.heap) A) (lv := [(0, .ref aR), (1, .int p1)]) (by decide) rfl (Nat.le_of_ble_eq_true rfl) rfl ?_
  intro p e s m args below meth c A Z hx hb hr hlocks hts hown hml hE hK hA hZ
  have hown : s.vm.findClass RX3 = some m.cls := hown
  have k_0 := hts (.fieldLink RX3 9 "GrowingTiles$Search" "sheet" "LGrowingTiles$Sheet;") (List.mem_of_getElem? (i := 1) (by decide +kernel))
  have k_1 := hts (.fieldLink RX3 52 "GrowingTiles$Sheet" "pieces" "I") (List.mem_of_getElem? (i := 2) (by decide +kernel))
  have k_2 := hts (.fieldLink RX3 15 "GrowingTiles$Search" "told" "I") (List.mem_of_getElem? (i := 3) (by decide +kernel))
  intro H locs hP hD hS ls hl
  unfold wp_X3_isRefused at hw
  refine lv_iload_n hx hb dX3_isRefused_0 rfl (lv_at hl 1 rfl) ?_
  refine lv_iconst (v := (1 : Int32)) hx hb dX3_isRefused_1 kI_1 ?_
  refine lv_icmp_lt (tgt := 31) hx hb dX3_isRefused_2 (by decide) (fun c2 => ?_) (fun c2 => ?_)
  · have hw := hw.1 c2
    refine lv_iconst (v := (1 : Int32)) hx hb dX3_isRefused_31 kI_1 ?_
    refine lv_goto (tgt := 36) hx hb dX3_isRefused_32 (by decide) ?_
    rw [hZ]
    exact cx_retz () hx hb hr hlocks rfl hw hP hS dX3_isRefused_36
  · have hw := hw.2 c2
    refine lv_iload_n hx hb dX3_isRefused_5 rfl (lv_at hl 1 rfl) ?_
    refine lv_bipush (v := (40 : Int32)) hx hb dX3_isRefused_6 kB_40 ?_
    refine lv_icmp_gt (tgt := 31) hx hb dX3_isRefused_8 (by decide) (fun c8 => ?_) (fun c8 => ?_)
    · have hw := hw.1 c8
      refine lv_iconst (v := (1 : Int32)) hx hb dX3_isRefused_31 kI_1 ?_
      refine lv_goto (tgt := 36) hx hb dX3_isRefused_32 (by decide) ?_
      rw [hZ]
      exact cx_retz () hx hb hr hlocks rfl hw hP hS dX3_isRefused_36
    · have hw := hw.2 c8
      refine lv_aload_n hx hb dX3_isRefused_11 rfl (lv_at hl 0 rfl) ?_
      refine va_get (D := D) (ci := 3) (v := .ref aS) (C := RX3) (T := TX3) (N := 16) hx hb hts in_X3_isRefused_X3 hown hK hP 1 rfl rfl 5 (by decide) k_0 (fun _ h9 => h9) rfl dX3_isRefused_12 ?_
      refine va_get (D := D) (ci := 4) (v := .int S_pieces) (C := RX4) (T := TX4) (N := 15) hx hb hts in_X3_isRefused_X4 hown hK hP 0 rfl rfl 2 (by decide) k_1 (fun _ h9 => h9) rfl dX3_isRefused_15 ?_
      refine lv_iload_n hx hb dX3_isRefused_18 rfl (lv_at hl 1 rfl) ?_
      refine lv_icmp_gt (tgt := 31) hx hb dX3_isRefused_19 (by decide) (fun c19 => ?_) (fun c19 => ?_)
      · have hw := hw.1 c19
        refine lv_iconst (v := (1 : Int32)) hx hb dX3_isRefused_31 kI_1 ?_
        refine lv_goto (tgt := 36) hx hb dX3_isRefused_32 (by decide) ?_
        rw [hZ]
        exact cx_retz () hx hb hr hlocks rfl hw hP hS dX3_isRefused_36
      · have hw := hw.2 c19
        refine lv_aload_n hx hb dX3_isRefused_22 rfl (lv_at hl 0 rfl) ?_
        refine va_get (D := D) (ci := 3) (v := .int R_told) (C := RX3) (T := TX3) (N := 16) hx hb hts in_X3_isRefused_X3 hown hK hP 1 rfl rfl 0 (by decide) k_2 (fun _ h9 => h9) rfl dX3_isRefused_23 ?_
        refine lv_bipush (v := (60 : Int32)) hx hb dX3_isRefused_26 kB_60 ?_
        refine lv_icmp_lt (tgt := 35) hx hb dX3_isRefused_28 (by decide) (fun c28 => ?_) (fun c28 => ?_)
        · have hw := hw.1 c28
          refine lv_iconst (v := (0 : Int32)) hx hb dX3_isRefused_35 kI_0 ?_
          rw [hZ]
          exact cx_retz () hx hb hr hlocks rfl hw hP hS dX3_isRefused_36
        · have hw := hw.2 c28
          refine lv_iconst (v := (1 : Int32)) hx hb dX3_isRefused_31 kI_1 ?_
          refine lv_goto (tgt := 36) hx hb dX3_isRefused_32 (by decide) ?_
          rw [hZ]
          exact cx_retz () hx hb hr hlocks rfl hw hP hS dX3_isRefused_36
set_option maxRecDepth 100000 in
set_option maxHeartbeats 4000000 in
theorem c_X3_begin (l : Launch) (D : va_G) (cI cJ cZ cO : ClassId) (tS tT : Nat) (sz : Nat) (aS aK aS_cells aS_fits aS_fitsInLine aS_stale aS_staleCells aS_seen aS_queue aR aR_start aR_parents aR_places aR_pieces aR_wide aR_sizes aR_sums aR_firstInBucket aR_nextInBucket : Nat) (S_pieces : Int32) (S_grown : Int32) (S_fitsInAll : Int32) (S_staleCount : Int32) (S_atLeast1 : Int64) (S_atLeast2 : Int64) (S_atLeast3 : Int64) (S_cells : Nat → Int32) (R_told : Int32) (R_found : Int32) (R_ended : Int32) (R_cut : Int32) (R_largest : Int32) (R_here : Int32) (R_start : Nat → Int32) (R_parents : Nat → Int32) (R_sizes : Nat → Int32) (R_sums : Nat → Int64) (R_firstInBucket : Nat → Int32) (Q : (Int32) → (Int32) → (Int32) → (Nat → Int32) → (Nat → Int32) → (Nat → Int32) → (Nat → Int64) → (Nat → Int32) → (Int32) → Prop) (hw : wp_X3_begin S_cells S_pieces R_found R_ended R_cut R_start R_parents R_sizes R_sums R_firstInBucket R_here Q) : Met l yX3_begin wsX3_begin rm_X3_begin (va_Pc [.ref aR] (cx_B tS tT cI cJ cZ cO D sz (w_X3_begin cI cJ cZ cO aS aK aS_cells aS_fits aS_fitsInLine aS_stale aS_staleCells aS_seen aS_queue aR aR_start aR_parents aR_places aR_pieces aR_wide aR_sizes aR_sums aR_firstInBucket aR_nextInBucket S_pieces S_grown S_fitsInAll S_staleCount S_atLeast1 S_atLeast2 S_atLeast3 S_cells R_told R_found R_ended R_cut R_largest R_here R_start R_parents R_sizes R_sums R_firstInBucket))) (va_Qv (fun (u : (Int32) × (Int32) × (Int32) × (Nat → Int32) × (Nat → Int32) × (Nat → Int32) × (Nat → Int64) × (Nat → Int32) × (Int32)) => Q u.1 u.2.1 u.2.2.1 u.2.2.2.1 u.2.2.2.2.1 u.2.2.2.2.2.1 u.2.2.2.2.2.2.1 u.2.2.2.2.2.2.2.1 u.2.2.2.2.2.2.2.2) (fun (u : (Int32) × (Int32) × (Int32) × (Nat → Int32) × (Nat → Int32) × (Nat → Int32) × (Nat → Int64) × (Nat → Int32) × (Int32)) t => va_P D vwCl (w_X3_begin cI cJ cZ cO aS aK aS_cells aS_fits aS_fitsInLine aS_stale aS_staleCells aS_seen aS_queue aR aR_start aR_parents aR_places aR_pieces aR_wide aR_sizes aR_sums aR_firstInBucket aR_nextInBucket S_pieces S_grown S_fitsInAll S_staleCount S_atLeast1 S_atLeast2 S_atLeast3 S_cells R_told u.1 u.2.1 u.2.2.1 R_largest u.2.2.2.2.2.2.2.2 u.2.2.2.1 u.2.2.2.2.1 u.2.2.2.2.2.1 u.2.2.2.2.2.2.1 u.2.2.2.2.2.2.2.1) t.heap) (va_A (w_X3_begin cI cJ cZ cO aS aK aS_cells aS_fits aS_fitsInLine aS_stale aS_staleCells aS_seen aS_queue aR aR_start aR_parents aR_places aR_pieces aR_wide aR_sizes aR_sums aR_firstInBucket aR_nextInBucket S_pieces S_grown S_fitsInAll S_staleCount S_atLeast1 S_atLeast2 S_atLeast3 S_cells R_told R_found R_ended R_cut R_largest R_here R_start R_parents R_sizes R_sums R_firstInBucket) sz)) 0 0 (va_A (w_X3_begin cI cJ cZ cO aS aK aS_cells aS_fits aS_fitsInLine aS_stale aS_staleCells aS_seen aS_queue aR aR_start aR_parents aR_places aR_pieces aR_wide aR_sizes aR_sums aR_firstInBucket aR_nextInBucket S_pieces S_grown S_fitsInAll S_staleCount S_atLeast1 S_atLeast2 S_atLeast3 S_cells R_told R_found R_ended R_cut R_largest R_here R_start R_parents R_sizes R_sums R_firstInBucket) sz) := by
  refine cx_met (cc := cX3_begin) (maxL := 1) (ret := none) (Qc := fun A => va_Qv (fun (u : (Int32) × (Int32) × (Int32) × (Nat → Int32) × (Nat → Int32) × (Nat → Int32) × (Nat → Int64) × (Nat → Int32) × (Int32)) => Q u.1 u.2.1 u.2.2.1 u.2.2.2.1 u.2.2.2.2.1 u.2.2.2.2.2.1 u.2.2.2.2.2.2.1 u.2.2.2.2.2.2.2.1 u.2.2.2.2.2.2.2.2) (fun (u : (Int32) × (Int32) × (Int32) × (Nat → Int32) × (Nat → Int32) × (Nat → Int32) × (Nat → Int64) × (Nat → Int32) × (Int32)) t => va_P D vwCl (w_X3_begin cI cJ cZ cO aS aK aS_cells aS_fits aS_fitsInLine aS_stale aS_staleCells aS_seen aS_queue aR aR_start aR_parents aR_places aR_pieces aR_wide aR_sizes aR_sums aR_firstInBucket aR_nextInBucket S_pieces S_grown S_fitsInAll S_staleCount S_atLeast1 S_atLeast2 S_atLeast3 S_cells R_told u.1 u.2.1 u.2.2.1 R_largest u.2.2.2.2.2.2.2.2 u.2.2.2.1 u.2.2.2.2.1 u.2.2.2.2.2.1 u.2.2.2.2.2.2.1 u.2.2.2.2.2.2.2.1) t.heap) A) (lv := [(0, .ref aR)]) (by decide) rfl (Nat.le_of_ble_eq_true rfl) rfl ?_
  intro p e s m args below meth c A Z hx hb hr hlocks hts hown hml hE hK hA hZ
  have hown : s.vm.findClass RX3 = some m.cls := hown
  have k_0 := hts (.fieldLink RX3 9 "GrowingTiles$Search" "sheet" "LGrowingTiles$Sheet;") (List.mem_of_getElem? (i := 1) (by decide +kernel))
  have k_1 := hts (.fieldLink RX3 74 "GrowingTiles$Sheet" "cells" "[I") (List.mem_of_getElem? (i := 2) (by decide +kernel))
  have k_2 := hts (.fieldLink RX3 22 "GrowingTiles$Search" "start" "[I") (List.mem_of_getElem? (i := 3) (by decide +kernel))
  have k_3 := hts (.methodLink RX3 77 arraycopyName) (List.mem_of_getElem? (i := 4) (by decide +kernel))
  have k_4 := hts (.native arraycopyName) (List.mem_of_getElem? (i := 5) (by decide +kernel))
  have k_5 := hts (.static arraycopyName) (List.mem_of_getElem? (i := 6) (by decide +kernel))
  have k_6 := hts (.initialized "java/lang/System") (List.mem_of_getElem? (i := 7) (by decide +kernel))
  have k_7 := hts (.fieldLink RX3 46 "GrowingTiles$Search" "firstInBucket" "[I") (List.mem_of_getElem? (i := 8) (by decide +kernel))
  have k_8 := hts (.fieldLink RX3 19 "GrowingTiles$Search" "found" "I") (List.mem_of_getElem? (i := 9) (by decide +kernel))
  have k_9 := hts (.fieldLink RX3 89 "GrowingTiles$Search" "ended" "I") (List.mem_of_getElem? (i := 10) (by decide +kernel))
  have k_10 := hts (.fieldLink RX3 92 "GrowingTiles$Search" "cut" "I") (List.mem_of_getElem? (i := 11) (by decide +kernel))
  have k_11 := hts (.fieldLink RX3 95 "GrowingTiles$Search" "here" "I") (List.mem_of_getElem? (i := 12) (by decide +kernel))
  have k_12 := hts (.fieldLink RX3 26 "GrowingTiles$Search" "parents" "[I") (List.mem_of_getElem? (i := 13) (by decide +kernel))
  have k_13 := hts (.fieldLink RX3 39 "GrowingTiles$Search" "sizes" "[I") (List.mem_of_getElem? (i := 14) (by decide +kernel))
  have k_14 := hts (.fieldLink RX3 52 "GrowingTiles$Sheet" "pieces" "I") (List.mem_of_getElem? (i := 15) (by decide +kernel))
  have k_15 := hts (.fieldLink RX3 42 "GrowingTiles$Search" "sums" "[J") (List.mem_of_getElem? (i := 16) (by decide +kernel))
  intro H locs hP hD hS ls hl
  unfold wp_X3_begin at hw
  refine lv_aload_n hx hb dX3_begin_0 rfl (lv_at hl 0 rfl) ?_
  refine va_get (D := D) (ci := 3) (v := .ref aS) (C := RX3) (T := TX3) (N := 16) hx hb hts in_X3_begin_X3 hown hK hP 2 rfl rfl 5 (by decide) k_0 (fun _ h9 => h9) rfl dX3_begin_1 ?_
  refine va_get (D := D) (ci := 4) (v := .ref aS_cells) (C := RX4) (T := TX4) (N := 15) hx hb hts in_X3_begin_X4 hown hK hP 0 rfl rfl 1 (by decide) k_1 (fun _ h9 => h9) rfl dX3_begin_4 ?_
  refine lv_iconst (v := (0 : Int32)) hx hb dX3_begin_7 kI_0 ?_
  refine lv_aload_n hx hb dX3_begin_8 rfl (lv_at hl 0 rfl) ?_
  refine va_get (D := D) (ci := 3) (v := .ref aR_start) (C := RX3) (T := TX3) (N := 16) hx hb hts in_X3_begin_X3 hown hK hP 2 rfl rfl 6 (by decide) k_2 (fun _ h9 => h9) rfl dX3_begin_9 ?_
  refine lv_iconst (v := (0 : Int32)) hx hb dX3_begin_12 kI_0 ?_
  refine lv_sipush (v := (324 : Int32)) hx hb dX3_begin_13 kS_324 ?_
  refine va_copyi (ty := .int) hx hb (hml.trans hl.1.symm) hown k_3 k_4 k_5 k_6 hK hP hD hS 1 3 0 0 rfl rfl rfl rfl rfl (by decide) (by decide) (by decide) (by decide) (by decide) (fun _ _ => rfl) (Nat.le_of_ble_eq_true rfl) (by decide) dX3_begin_16 (fun H locs hP hD hS => ?_)
  have hP : va_P D vwCl (w_X3_begin cI cJ cZ cO aS aK aS_cells aS_fits aS_fitsInLine aS_stale aS_staleCells aS_seen aS_queue aR aR_start aR_parents aR_places aR_pieces aR_wide aR_sizes aR_sums aR_firstInBucket aR_nextInBucket S_pieces S_grown S_fitsInAll S_staleCount S_atLeast1 S_atLeast2 S_atLeast3 S_cells R_told R_found R_ended R_cut R_largest R_here (va_cpy S_cells R_start (0 : Int32).toNatClampNeg (0 : Int32).toNatClampNeg (324 : Int32).toNatClampNeg) R_parents R_sizes R_sums R_firstInBucket) H := hP
  have hD : va_D A (w_X3_begin cI cJ cZ cO aS aK aS_cells aS_fits aS_fitsInLine aS_stale aS_staleCells aS_seen aS_queue aR aR_start aR_parents aR_places aR_pieces aR_wide aR_sizes aR_sums aR_firstInBucket aR_nextInBucket S_pieces S_grown S_fitsInAll S_staleCount S_atLeast1 S_atLeast2 S_atLeast3 S_cells R_told R_found R_ended R_cut R_largest R_here (va_cpy S_cells R_start (0 : Int32).toNatClampNeg (0 : Int32).toNatClampNeg (324 : Int32).toNatClampNeg) R_parents R_sizes R_sums R_firstInBucket) := hD
  obtain ⟨R_start_16, e16⟩ : ∃ y : Nat → Int32, y = va_cpy S_cells R_start (0 : Int32).toNatClampNeg (0 : Int32).toNatClampNeg (324 : Int32).toNatClampNeg := ⟨_, rfl⟩
  rw [← e16] at hP hD
  have hw := hw R_start_16 e16
  refine lv_aload_n hx hb dX3_begin_19 rfl (lv_at hl 0 rfl) ?_
  refine va_get (D := D) (ci := 3) (v := .ref aR_firstInBucket) (C := RX3) (T := TX3) (N := 16) hx hb hts in_X3_begin_X3 hown hK hP 2 rfl rfl 13 (by decide) k_7 (fun _ h9 => h9) rfl dX3_begin_20 ?_
  refine lv_iconst (v := (-1 : Int32)) hx hb dX3_begin_23 kI_m1 ?_
  refine cx_gov (va_runS (As := [.ref aR_firstInBucket, .int (-1 : Int32)]) (rest := []) ⟨hx, hb, hml, hown, hts⟩ (c_J7_fill_53178 l D cI cJ cZ cO tS tT H.size aR_firstInBucket 512 R_firstInBucket (-1 : Int32) _ hw) (va_cwS 2 hts gX3_begin_J7_fill_53178 rfl rfl rfl ps_J7_fill_53178 ⟨Nat.le_of_ble_eq_true rfl, Nat.le_of_ble_eq_true rfl⟩) (cx_preS (wc := w_J7_fill_53178 cI cJ cZ cO aR_firstInBucket 512 R_firstInBucket) hE hK hP hD hS hA [7] rfl rfl) rfl rfl hl.1 rfl (lv_room (Nat.le_of_ble_eq_true rfl)) dX3_begin_24 ⟨Nat.le_of_ble_eq_true rfl, Nat.le_of_ble_eq_true rfl⟩) (fun (u : (Nat → Int32)) => (w_X3_begin cI cJ cZ cO aS aK aS_cells aS_fits aS_fitsInLine aS_stale aS_staleCells aS_seen aS_queue aR aR_start aR_parents aR_places aR_pieces aR_wide aR_sizes aR_sums aR_firstInBucket aR_nextInBucket S_pieces S_grown S_fitsInAll S_staleCount S_atLeast1 S_atLeast2 S_atLeast3 S_cells R_told R_found R_ended R_cut R_largest R_here R_start_16 R_parents R_sizes R_sums u)) [7] [0, 1, 2, 3, 4, 5, 6] (ads := [aR_firstInBucket]) (wr := [(aS, .inr (4, [.ref aK, .ref aS_cells, .int S_pieces, .int S_grown, .ref aS_fits, .ref aS_fitsInLine, .int S_fitsInAll, .ref aS_stale, .ref aS_staleCells, .int S_staleCount, .long S_atLeast1, .long S_atLeast2, .long S_atLeast3, .ref aS_seen, .ref aS_queue])), (aS_cells, .inl (cI, 324, .inl S_cells)), (aR, .inr (3, [.int R_told, .int R_found, .int R_ended, .int R_cut, .int R_largest, .ref aS, .ref aR_start, .ref aR_parents, .ref aR_places, .ref aR_pieces, .ref aR_wide, .ref aR_sizes, .ref aR_sums, .ref aR_firstInBucket, .ref aR_nextInBucket, .int R_here])), (aR_start, .inl (cI, 324, .inl R_start_16)), (aR_parents, .inl (cI, 300, .inl R_parents)), (aR_sizes, .inl (cI, 300, .inl R_sizes)), (aR_sums, .inl (cJ, 300, .inr (.inl R_sums)))]) rfl rfl (fun u => rfl) (fun u => rfl) rfl (fun u => rfl) rfl (fun u => rfl) rfl hP hD hS hA (fun R_firstInBucket_24 H locs hw hP hD hS => ?_)
  try dsimp only at hw
  have hP : va_P D vwCl (w_X3_begin cI cJ cZ cO aS aK aS_cells aS_fits aS_fitsInLine aS_stale aS_staleCells aS_seen aS_queue aR aR_start aR_parents aR_places aR_pieces aR_wide aR_sizes aR_sums aR_firstInBucket aR_nextInBucket S_pieces S_grown S_fitsInAll S_staleCount S_atLeast1 S_atLeast2 S_atLeast3 S_cells R_told R_found R_ended R_cut R_largest R_here R_start_16 R_parents R_sizes R_sums R_firstInBucket_24) H := hP
  have hD : va_D A (w_X3_begin cI cJ cZ cO aS aK aS_cells aS_fits aS_fitsInLine aS_stale aS_staleCells aS_seen aS_queue aR aR_start aR_parents aR_places aR_pieces aR_wide aR_sizes aR_sums aR_firstInBucket aR_nextInBucket S_pieces S_grown S_fitsInAll S_staleCount S_atLeast1 S_atLeast2 S_atLeast3 S_cells R_told R_found R_ended R_cut R_largest R_here R_start_16 R_parents R_sizes R_sums R_firstInBucket_24) := hD
  refine lv_aload_n hx hb dX3_begin_27 rfl (lv_at hl 0 rfl) ?_
  refine lv_iconst (v := (1 : Int32)) hx hb dX3_begin_28 kI_1 ?_
  refine va_put (D := D) (ci := 3) (v := .int (1 : Int32)) (ty := .int) (C := RX3) (T := TX3) (N := 16) hx hb hts in_X3_begin_X3 tyX3 tyX3_ok nmX3 hown hK hP hD hS 2 rfl rfl 1 (by decide) k_8 (fun _ h9 => h9) rfl (tyX3_ok 1 (by decide)) rfl rfl (Nat.le_of_ble_eq_true rfl) dX3_begin_29 (fun H locs hP hD hS => ?_)
  have hP : va_P D vwCl (w_X3_begin cI cJ cZ cO aS aK aS_cells aS_fits aS_fitsInLine aS_stale aS_staleCells aS_seen aS_queue aR aR_start aR_parents aR_places aR_pieces aR_wide aR_sizes aR_sums aR_firstInBucket aR_nextInBucket S_pieces S_grown S_fitsInAll S_staleCount S_atLeast1 S_atLeast2 S_atLeast3 S_cells R_told (1 : Int32) R_ended R_cut R_largest R_here R_start_16 R_parents R_sizes R_sums R_firstInBucket_24) H := hP
  have hD : va_D A (w_X3_begin cI cJ cZ cO aS aK aS_cells aS_fits aS_fitsInLine aS_stale aS_staleCells aS_seen aS_queue aR aR_start aR_parents aR_places aR_pieces aR_wide aR_sizes aR_sums aR_firstInBucket aR_nextInBucket S_pieces S_grown S_fitsInAll S_staleCount S_atLeast1 S_atLeast2 S_atLeast3 S_cells R_told (1 : Int32) R_ended R_cut R_largest R_here R_start_16 R_parents R_sizes R_sums R_firstInBucket_24) := hD
  refine lv_aload_n hx hb dX3_begin_32 rfl (lv_at hl 0 rfl) ?_
  refine lv_iconst (v := (0 : Int32)) hx hb dX3_begin_33 kI_0 ?_
  refine va_put (D := D) (ci := 3) (v := .int (0 : Int32)) (ty := .int) (C := RX3) (T := TX3) (N := 16) hx hb hts in_X3_begin_X3 tyX3 tyX3_ok nmX3 hown hK hP hD hS 2 rfl rfl 2 (by decide) k_9 (fun _ h9 => h9) rfl (tyX3_ok 2 (by decide)) rfl rfl (Nat.le_of_ble_eq_true rfl) dX3_begin_34 (fun H locs hP hD hS => ?_)
  have hP : va_P D vwCl (w_X3_begin cI cJ cZ cO aS aK aS_cells aS_fits aS_fitsInLine aS_stale aS_staleCells aS_seen aS_queue aR aR_start aR_parents aR_places aR_pieces aR_wide aR_sizes aR_sums aR_firstInBucket aR_nextInBucket S_pieces S_grown S_fitsInAll S_staleCount S_atLeast1 S_atLeast2 S_atLeast3 S_cells R_told (1 : Int32) (0 : Int32) R_cut R_largest R_here R_start_16 R_parents R_sizes R_sums R_firstInBucket_24) H := hP
  have hD : va_D A (w_X3_begin cI cJ cZ cO aS aK aS_cells aS_fits aS_fitsInLine aS_stale aS_staleCells aS_seen aS_queue aR aR_start aR_parents aR_places aR_pieces aR_wide aR_sizes aR_sums aR_firstInBucket aR_nextInBucket S_pieces S_grown S_fitsInAll S_staleCount S_atLeast1 S_atLeast2 S_atLeast3 S_cells R_told (1 : Int32) (0 : Int32) R_cut R_largest R_here R_start_16 R_parents R_sizes R_sums R_firstInBucket_24) := hD
  refine lv_aload_n hx hb dX3_begin_37 rfl (lv_at hl 0 rfl) ?_
  refine lv_iconst (v := (0 : Int32)) hx hb dX3_begin_38 kI_0 ?_
  refine va_put (D := D) (ci := 3) (v := .int (0 : Int32)) (ty := .int) (C := RX3) (T := TX3) (N := 16) hx hb hts in_X3_begin_X3 tyX3 tyX3_ok nmX3 hown hK hP hD hS 2 rfl rfl 3 (by decide) k_10 (fun _ h9 => h9) rfl (tyX3_ok 3 (by decide)) rfl rfl (Nat.le_of_ble_eq_true rfl) dX3_begin_39 (fun H locs hP hD hS => ?_)
  have hP : va_P D vwCl (w_X3_begin cI cJ cZ cO aS aK aS_cells aS_fits aS_fitsInLine aS_stale aS_staleCells aS_seen aS_queue aR aR_start aR_parents aR_places aR_pieces aR_wide aR_sizes aR_sums aR_firstInBucket aR_nextInBucket S_pieces S_grown S_fitsInAll S_staleCount S_atLeast1 S_atLeast2 S_atLeast3 S_cells R_told (1 : Int32) (0 : Int32) (0 : Int32) R_largest R_here R_start_16 R_parents R_sizes R_sums R_firstInBucket_24) H := hP
  have hD : va_D A (w_X3_begin cI cJ cZ cO aS aK aS_cells aS_fits aS_fitsInLine aS_stale aS_staleCells aS_seen aS_queue aR aR_start aR_parents aR_places aR_pieces aR_wide aR_sizes aR_sums aR_firstInBucket aR_nextInBucket S_pieces S_grown S_fitsInAll S_staleCount S_atLeast1 S_atLeast2 S_atLeast3 S_cells R_told (1 : Int32) (0 : Int32) (0 : Int32) R_largest R_here R_start_16 R_parents R_sizes R_sums R_firstInBucket_24) := hD
  refine lv_aload_n hx hb dX3_begin_42 rfl (lv_at hl 0 rfl) ?_
  refine lv_iconst (v := (0 : Int32)) hx hb dX3_begin_43 kI_0 ?_
  refine va_put (D := D) (ci := 3) (v := .int (0 : Int32)) (ty := .int) (C := RX3) (T := TX3) (N := 16) hx hb hts in_X3_begin_X3 tyX3 tyX3_ok nmX3 hown hK hP hD hS 2 rfl rfl 15 (by decide) k_11 (fun _ h9 => h9) rfl (tyX3_ok 15 (by decide)) rfl rfl (Nat.le_of_ble_eq_true rfl) dX3_begin_44 (fun H locs hP hD hS => ?_)
  have hP : va_P D vwCl (w_X3_begin cI cJ cZ cO aS aK aS_cells aS_fits aS_fitsInLine aS_stale aS_staleCells aS_seen aS_queue aR aR_start aR_parents aR_places aR_pieces aR_wide aR_sizes aR_sums aR_firstInBucket aR_nextInBucket S_pieces S_grown S_fitsInAll S_staleCount S_atLeast1 S_atLeast2 S_atLeast3 S_cells R_told (1 : Int32) (0 : Int32) (0 : Int32) R_largest (0 : Int32) R_start_16 R_parents R_sizes R_sums R_firstInBucket_24) H := hP
  have hD : va_D A (w_X3_begin cI cJ cZ cO aS aK aS_cells aS_fits aS_fitsInLine aS_stale aS_staleCells aS_seen aS_queue aR aR_start aR_parents aR_places aR_pieces aR_wide aR_sizes aR_sums aR_firstInBucket aR_nextInBucket S_pieces S_grown S_fitsInAll S_staleCount S_atLeast1 S_atLeast2 S_atLeast3 S_cells R_told (1 : Int32) (0 : Int32) (0 : Int32) R_largest (0 : Int32) R_start_16 R_parents R_sizes R_sums R_firstInBucket_24) := hD
  refine lv_aload_n hx hb dX3_begin_47 rfl (lv_at hl 0 rfl) ?_
  refine va_get (D := D) (ci := 3) (v := .ref aR_parents) (C := RX3) (T := TX3) (N := 16) hx hb hts in_X3_begin_X3 hown hK hP 2 rfl rfl 7 (by decide) k_12 (fun _ h9 => h9) rfl dX3_begin_48 ?_
  refine lv_iconst (v := (0 : Int32)) hx hb dX3_begin_51 kI_0 ?_
  refine lv_iconst (v := (0 : Int32)) hx hb dX3_begin_52 kI_0 ?_
  refine va_iast hx hb hK hP hD hS 4 0 rfl rfl (cx_in (by decide)) dX3_begin_53 (fun H locs hP hD hS => ?_)
  have hP : va_P D vwCl (w_X3_begin cI cJ cZ cO aS aK aS_cells aS_fits aS_fitsInLine aS_stale aS_staleCells aS_seen aS_queue aR aR_start aR_parents aR_places aR_pieces aR_wide aR_sizes aR_sums aR_firstInBucket aR_nextInBucket S_pieces S_grown S_fitsInAll S_staleCount S_atLeast1 S_atLeast2 S_atLeast3 S_cells R_told (1 : Int32) (0 : Int32) (0 : Int32) R_largest (0 : Int32) R_start_16 (upd R_parents (0 : Int32).toNatClampNeg (0 : Int32)) R_sizes R_sums R_firstInBucket_24) H := hP
  have hD : va_D A (w_X3_begin cI cJ cZ cO aS aK aS_cells aS_fits aS_fitsInLine aS_stale aS_staleCells aS_seen aS_queue aR aR_start aR_parents aR_places aR_pieces aR_wide aR_sizes aR_sums aR_firstInBucket aR_nextInBucket S_pieces S_grown S_fitsInAll S_staleCount S_atLeast1 S_atLeast2 S_atLeast3 S_cells R_told (1 : Int32) (0 : Int32) (0 : Int32) R_largest (0 : Int32) R_start_16 (upd R_parents (0 : Int32).toNatClampNeg (0 : Int32)) R_sizes R_sums R_firstInBucket_24) := hD
  obtain ⟨R_parents_53, e53⟩ : ∃ y : Nat → Int32, y = upd R_parents (0 : Int32).toNatClampNeg (0 : Int32) := ⟨_, rfl⟩
  rw [← e53] at hP hD
  have hw := hw R_parents_53 e53
  refine lv_aload_n hx hb dX3_begin_54 rfl (lv_at hl 0 rfl) ?_
  refine va_get (D := D) (ci := 3) (v := .ref aR_sizes) (C := RX3) (T := TX3) (N := 16) hx hb hts in_X3_begin_X3 hown hK hP 2 rfl rfl 11 (by decide) k_13 (fun _ h9 => h9) rfl dX3_begin_55 ?_
  refine lv_iconst (v := (0 : Int32)) hx hb dX3_begin_58 kI_0 ?_
  refine lv_aload_n hx hb dX3_begin_59 rfl (lv_at hl 0 rfl) ?_
  refine va_get (D := D) (ci := 3) (v := .ref aS) (C := RX3) (T := TX3) (N := 16) hx hb hts in_X3_begin_X3 hown hK hP 2 rfl rfl 5 (by decide) k_0 (fun _ h9 => h9) rfl dX3_begin_60 ?_
  refine va_get (D := D) (ci := 4) (v := .int S_pieces) (C := RX4) (T := TX4) (N := 15) hx hb hts in_X3_begin_X4 hown hK hP 0 rfl rfl 2 (by decide) k_14 (fun _ h9 => h9) rfl dX3_begin_63 ?_
  refine va_iast hx hb hK hP hD hS 5 0 rfl rfl (cx_in (by decide)) dX3_begin_66 (fun H locs hP hD hS => ?_)
  have hP : va_P D vwCl (w_X3_begin cI cJ cZ cO aS aK aS_cells aS_fits aS_fitsInLine aS_stale aS_staleCells aS_seen aS_queue aR aR_start aR_parents aR_places aR_pieces aR_wide aR_sizes aR_sums aR_firstInBucket aR_nextInBucket S_pieces S_grown S_fitsInAll S_staleCount S_atLeast1 S_atLeast2 S_atLeast3 S_cells R_told (1 : Int32) (0 : Int32) (0 : Int32) R_largest (0 : Int32) R_start_16 R_parents_53 (upd R_sizes (0 : Int32).toNatClampNeg S_pieces) R_sums R_firstInBucket_24) H := hP
  have hD : va_D A (w_X3_begin cI cJ cZ cO aS aK aS_cells aS_fits aS_fitsInLine aS_stale aS_staleCells aS_seen aS_queue aR aR_start aR_parents aR_places aR_pieces aR_wide aR_sizes aR_sums aR_firstInBucket aR_nextInBucket S_pieces S_grown S_fitsInAll S_staleCount S_atLeast1 S_atLeast2 S_atLeast3 S_cells R_told (1 : Int32) (0 : Int32) (0 : Int32) R_largest (0 : Int32) R_start_16 R_parents_53 (upd R_sizes (0 : Int32).toNatClampNeg S_pieces) R_sums R_firstInBucket_24) := hD
  obtain ⟨R_sizes_66, e66⟩ : ∃ y : Nat → Int32, y = upd R_sizes (0 : Int32).toNatClampNeg S_pieces := ⟨_, rfl⟩
  rw [← e66] at hP hD
  have hw := hw R_sizes_66 e66
  refine lv_aload_n hx hb dX3_begin_67 rfl (lv_at hl 0 rfl) ?_
  refine va_get (D := D) (ci := 3) (v := .ref aR_sums) (C := RX3) (T := TX3) (N := 16) hx hb hts in_X3_begin_X3 hown hK hP 2 rfl rfl 12 (by decide) k_15 (fun _ h9 => h9) rfl dX3_begin_68 ?_
  refine lv_iconst (v := (0 : Int32)) hx hb dX3_begin_71 kI_0 ?_
  refine lv_lconst (v := (0 : Int64)) hx hb dX3_begin_72 kL_0 ?_
  refine va_last hx hb hK hP hD hS 6 1 rfl rfl (cx_in (by decide)) dX3_begin_73 (fun H locs hP hD hS => ?_)
  have hP : va_P D vwCl (w_X3_begin cI cJ cZ cO aS aK aS_cells aS_fits aS_fitsInLine aS_stale aS_staleCells aS_seen aS_queue aR aR_start aR_parents aR_places aR_pieces aR_wide aR_sizes aR_sums aR_firstInBucket aR_nextInBucket S_pieces S_grown S_fitsInAll S_staleCount S_atLeast1 S_atLeast2 S_atLeast3 S_cells R_told (1 : Int32) (0 : Int32) (0 : Int32) R_largest (0 : Int32) R_start_16 R_parents_53 R_sizes_66 (vp_updL R_sums (0 : Int32).toNatClampNeg (0 : Int64)) R_firstInBucket_24) H := hP
  have hD : va_D A (w_X3_begin cI cJ cZ cO aS aK aS_cells aS_fits aS_fitsInLine aS_stale aS_staleCells aS_seen aS_queue aR aR_start aR_parents aR_places aR_pieces aR_wide aR_sizes aR_sums aR_firstInBucket aR_nextInBucket S_pieces S_grown S_fitsInAll S_staleCount S_atLeast1 S_atLeast2 S_atLeast3 S_cells R_told (1 : Int32) (0 : Int32) (0 : Int32) R_largest (0 : Int32) R_start_16 R_parents_53 R_sizes_66 (vp_updL R_sums (0 : Int32).toNatClampNeg (0 : Int64)) R_firstInBucket_24) := hD
  obtain ⟨R_sums_73, e73⟩ : ∃ y : Nat → Int64, y = vp_updL R_sums (0 : Int32).toNatClampNeg (0 : Int64) := ⟨_, rfl⟩
  rw [← e73] at hP hD
  have hw := hw R_sums_73 e73
  rw [hZ]
  exact cx_retv ((1 : Int32), (0 : Int32), (0 : Int32), R_start_16, R_parents_53, R_sizes_66, R_sums_73, R_firstInBucket_24, (0 : Int32)) hx hb hr hlocks hw hP hS dX3_begin_74
set_option maxRecDepth 100000 in
set_option maxHeartbeats 4000000 in
theorem c_X3_commonStart (l : Launch) (D : va_G) (cI cJ cZ cO : ClassId) (tS tT : Nat) (sz : Nat) (aR aS aR_start aR_parents aR_places aR_pieces aR_wide aR_sizes aR_sums aR_firstInBucket aR_nextInBucket : Nat) (R_told : Int32) (R_found : Int32) (R_ended : Int32) (R_cut : Int32) (R_largest : Int32) (R_here : Int32) (R_parents : Nat → Int32) (p1 : Int32) (p2 : Int32) (Q : Int32 → Prop) (hw : wp_X3_commonStart R_parents p1 p2 Q) : Met l yX3_commonStart wsX3_commonStart rm_X3_commonStart (va_Pc [.ref aR, .int p1, .int p2] (cx_B tS tT cI cJ cZ cO D sz (w_X3_commonStart cI cJ cZ cO aR aS aR_start aR_parents aR_places aR_pieces aR_wide aR_sizes aR_sums aR_firstInBucket aR_nextInBucket R_told R_found R_ended R_cut R_largest R_here R_parents))) (va_Qi (fun (r : Int32) (_ : Unit) => Q r) (fun (u : Unit) t => va_P D vwCl (w_X3_commonStart cI cJ cZ cO aR aS aR_start aR_parents aR_places aR_pieces aR_wide aR_sizes aR_sums aR_firstInBucket aR_nextInBucket R_told R_found R_ended R_cut R_largest R_here R_parents) t.heap) (va_A (w_X3_commonStart cI cJ cZ cO aR aS aR_start aR_parents aR_places aR_pieces aR_wide aR_sizes aR_sums aR_firstInBucket aR_nextInBucket R_told R_found R_ended R_cut R_largest R_here R_parents) sz)) 0 0 (va_A (w_X3_commonStart cI cJ cZ cO aR aS aR_start aR_parents aR_places aR_pieces aR_wide aR_sizes aR_sums aR_firstInBucket aR_nextInBucket R_told R_found R_ended R_cut R_largest R_here R_parents) sz) := by
  refine cx_met (cc := cX3_commonStart) (maxL := 6) (ret := (some .int)) (Qc := fun A => va_Qi (fun (r : Int32) (_ : Unit) => Q r) (fun (u : Unit) t => va_P D vwCl (w_X3_commonStart cI cJ cZ cO aR aS aR_start aR_parents aR_places aR_pieces aR_wide aR_sizes aR_sums aR_firstInBucket aR_nextInBucket R_told R_found R_ended R_cut R_largest R_here R_parents) t.heap) A) (lv := [(0, .ref aR), (1, .int p1), (2, .int p2)]) (by decide) rfl (Nat.le_of_ble_eq_true rfl) rfl ?_
  intro p e s m args below meth c A Z hx hb hr hlocks hts hown hml hE hK hA hZ
  have hown : s.vm.findClass RX3 = some m.cls := hown
  have k_0 := hts (.fieldLink RX3 26 "GrowingTiles$Search" "parents" "[I") (List.mem_of_getElem? (i := 1) (by decide +kernel))
  have b_8 : ∀ n_8 : Nat, ∀ (x3 : Int32) (x4 : Int32) (x5 : Int32), wq_X3_commonStart_8 R_parents Q n_8 x3 x4 x5 → ∀ (H : Heap) (locs : List Loc), va_P D vwCl (w_X3_commonStart cI cJ cZ cO aR aS aR_start aR_parents aR_places aR_pieces aR_wide aR_sizes aR_sums aR_firstInBucket aR_nextInBucket R_told R_found R_ended R_cut R_largest R_here R_parents) H → va_D A (w_X3_commonStart cI cJ cZ cO aR aS aR_start aR_parents aR_places aR_pieces aR_wide aR_sizes aR_sums aR_firstInBucket aR_nextInBucket R_told R_found R_ended R_cut R_largest R_here R_parents) → va_S A s.heap H locs → ∀ ls : Array Slot, lv_has ls 6 [(0, .ref aR), (3, .int x3), (4, .int x4), (5, .int x5)] → W p l e rm_X3_commonStart s m args below meth c H locs 0 0 Z (F0 m 8 ls []) := by
    intro n_8
    induction n_8 with
    | zero => intro x3 x4 x5 hw; exact False.elim hw
    | succ n_8 ih_8 =>
      intro x3 x4 x5 hw H locs hP hD hS ls hl
      have hw : wf_X3_commonStart_8 R_parents Q (wq_X3_commonStart_8 R_parents Q n_8) x3 x4 x5 := hw
      unfold wf_X3_commonStart_8 at hw
      refine lv_iload hx hb dX3_commonStart_8 (lv_at hl 3 rfl) ?_
      refine lv_sipush (v := (600 : Int32)) hx hb dX3_commonStart_10 kS_600 ?_
      refine lv_icmp_ge (tgt := 53) hx hb dX3_commonStart_13 (by decide) (fun c13 => ?_) (fun c13 => ?_)
      · have hw := hw.1 c13
        refine lv_iload_n hx hb dX3_commonStart_53 rfl (lv_at hl 1 rfl) ?_
        rw [hZ]
        exact cx_reti () hx hb hr hlocks hw hP hS dX3_commonStart_54
      · have hw := hw.2 c13
        refine lv_iload_n hx hb dX3_commonStart_16 rfl (lv_at hl 1 rfl) ?_
        refine lv_iload hx hb dX3_commonStart_17 (lv_at hl 2 rfl) ?_
        refine lv_icmp_eq (tgt := 53) hx hb dX3_commonStart_19 (by decide) (fun c19 => ?_) (fun c19 => ?_)
        · have hw := hw.1 c19
          refine lv_iload_n hx hb dX3_commonStart_53 rfl (lv_at hl 1 rfl) ?_
          rw [hZ]
          exact cx_reti () hx hb hr hlocks hw hP hS dX3_commonStart_54
        · have hw := hw.2 c19
          refine lv_iload_n hx hb dX3_commonStart_22 rfl (lv_at hl 1 rfl) ?_
          refine lv_iload hx hb dX3_commonStart_23 (lv_at hl 2 rfl) ?_
          refine lv_icmp_le (tgt := 38) hx hb dX3_commonStart_25 (by decide) (fun c25 => ?_) (fun c25 => ?_)
          · have hw := hw.1 c25
            refine lv_aload_n hx hb dX3_commonStart_38 rfl (lv_at hl 0 rfl) ?_
            refine va_get (D := D) (ci := 3) (v := .ref aR_parents) (C := RX3) (T := TX3) (N := 16) hx hb hts in_X3_commonStart_X3 hown hK hP 0 rfl rfl 7 (by decide) k_0 (fun _ h9 => h9) rfl dX3_commonStart_39 ?_
            refine lv_iload hx hb dX3_commonStart_42 (lv_at hl 2 rfl) ?_
            have h44 := hw.1
            have hw := hw.2
            refine va_iald hx hb hK hP 1 0 rfl rfl h44 dX3_commonStart_44 ?_
            refine lv_topi (fun v44 e44 => ?_)
            have hw := hw v44 e44
            refine lv_istore (lv' := [(4, .int v44), (0, .ref aR), (3, .int x3), (5, .int x5)]) hx hb dX3_commonStart_45 hl (by decide) rfl (fun ls hl => ?_)
            obtain ⟨v47, e47⟩ : ∃ y : Int32, y = x5 + (1 : Int32) := ⟨_, rfl⟩
            have hw := hw v47 e47
            refine lv_iinc (v := v47) (lv' := [(5, .int v47), (4, .int v44), (0, .ref aR), (3, .int x3)]) hx hb dX3_commonStart_47 hl (k := 3) rfl (by rw [e47, kI_1]) (by decide) rfl (fun ls hl => ?_)
            refine lv_goto (tgt := 8) hx hb dX3_commonStart_50 (by decide) ?_
            exact ih_8 x3 v44 v47 hw H locs hP hD hS ls (lv_sub hl [2, 3, 1, 0] rfl)
          · have hw := hw.2 c25
            refine lv_aload_n hx hb dX3_commonStart_28 rfl (lv_at hl 0 rfl) ?_
            refine va_get (D := D) (ci := 3) (v := .ref aR_parents) (C := RX3) (T := TX3) (N := 16) hx hb hts in_X3_commonStart_X3 hown hK hP 0 rfl rfl 7 (by decide) k_0 (fun _ h9 => h9) rfl dX3_commonStart_29 ?_
            refine lv_iload_n hx hb dX3_commonStart_32 rfl (lv_at hl 1 rfl) ?_
            have h33 := hw.1
            have hw := hw.2
            refine va_iald hx hb hK hP 1 0 rfl rfl h33 dX3_commonStart_33 ?_
            refine lv_topi (fun v33 e33 => ?_)
            have hw := hw v33 e33
            refine lv_istore_n (lv' := [(3, .int v33), (0, .ref aR), (4, .int x4), (5, .int x5)]) hx hb dX3_commonStart_34 rfl hl (by decide) rfl (fun ls hl => ?_)
            refine lv_goto (tgt := 47) hx hb dX3_commonStart_35 (by decide) ?_
            obtain ⟨v47, e47⟩ : ∃ y : Int32, y = x5 + (1 : Int32) := ⟨_, rfl⟩
            have hw := hw v47 e47
            refine lv_iinc (v := v47) (lv' := [(5, .int v47), (3, .int v33), (0, .ref aR), (4, .int x4)]) hx hb dX3_commonStart_47 hl (k := 3) rfl (by rw [e47, kI_1]) (by decide) rfl (fun ls hl => ?_)
            refine lv_goto (tgt := 8) hx hb dX3_commonStart_50 (by decide) ?_
            exact ih_8 v33 x4 v47 hw H locs hP hD hS ls (lv_sub hl [2, 1, 3, 0] rfl)
  intro H locs hP hD hS ls hl
  unfold wp_X3_commonStart at hw
  refine lv_iload_n hx hb dX3_commonStart_0 rfl (lv_at hl 1 rfl) ?_
  refine lv_istore_n (lv' := [(3, .int p1), (0, .ref aR), (1, .int p1), (2, .int p2)]) hx hb dX3_commonStart_1 rfl hl (by decide) rfl (fun ls hl => ?_)
  refine lv_iload_n hx hb dX3_commonStart_2 rfl (lv_at hl 3 rfl) ?_
  refine lv_istore (lv' := [(4, .int p2), (3, .int p1), (0, .ref aR), (1, .int p1), (2, .int p2)]) hx hb dX3_commonStart_3 hl (by decide) rfl (fun ls hl => ?_)
  refine lv_iconst (v := (0 : Int32)) hx hb dX3_commonStart_5 kI_0 ?_
  refine lv_istore (lv' := [(5, .int (0 : Int32)), (4, .int p2), (3, .int p1), (0, .ref aR), (1, .int p1), (2, .int p2)]) hx hb dX3_commonStart_6 hl (by decide) rfl (fun ls hl => ?_)
  obtain ⟨k, hw⟩ := hw
  exact b_8 k p1 p2 (0 : Int32) hw H locs hP hD hS ls (lv_sub hl [3, 2, 1, 0] rfl)
set_option maxRecDepth 100000 in
set_option maxHeartbeats 4000000 in
theorem c_X7_pieceIn (l : Launch) (D : va_G) (cI cJ cZ cO : ClassId) (tS tT : Nat) (sz : Nat) (p1 : Int32) (Q : Int32 → Prop) (hw : wp_X7_pieceIn p1 Q) : Met l yX7_pieceIn wsX7_pieceIn rm_X7_pieceIn (va_Pc [.int p1] (cx_B tS tT cI cJ cZ cO D sz (w_X7_pieceIn : va_W))) (va_Qi (fun (r : Int32) (_ : Unit) => Q r) (fun (u : Unit) t => va_P D vwCl (w_X7_pieceIn : va_W) t.heap) (va_A (w_X7_pieceIn : va_W) sz)) 0 0 (va_A (w_X7_pieceIn : va_W) sz) := by
  refine cx_met (cc := cX7_pieceIn) (maxL := 1) (ret := (some .int)) (Qc := fun A => va_Qi (fun (r : Int32) (_ : Unit) => Q r) (fun (u : Unit) t => va_P D vwCl (w_X7_pieceIn : va_W) t.heap) A) (lv := [(0, .int p1)]) (by decide) rfl (Nat.le_of_ble_eq_true rfl) rfl ?_
  intro p e s m args below meth c A Z hx hb hr hlocks hts hown hml hE hK hA hZ
  have hown : s.vm.findClass RX7 = some m.cls := hown
  intro H locs hP hD hS ls hl
  unfold wp_X7_pieceIn at hw
  refine lv_iload_n hx hb dX7_pieceIn_0 rfl (lv_at hl 0 rfl) ?_
  refine lv_if_ne (tgt := 8) hx hb dX7_pieceIn_1 (by decide) (fun c1 => ?_) (fun c1 => ?_)
  · have hw := hw.1 c1
    refine lv_iload_n hx hb dX7_pieceIn_8 rfl (lv_at hl 0 rfl) ?_
    refine lv_iconst (v := (1 : Int32)) hx hb dX7_pieceIn_9 kI_1 ?_
    refine lv_isub hx hb dX7_pieceIn_10 ?_
    refine lv_bipush (v := (64 : Int32)) hx hb dX7_pieceIn_11 kB_64 ?_
    refine lv_irem hx hb dX7_pieceIn_13 (by decide) ?_
    rw [hZ]
    exact cx_reti () hx hb hr hlocks hw hP hS dX7_pieceIn_14
  · have hw := hw.2 c1
    refine lv_iconst (v := (-1 : Int32)) hx hb dX7_pieceIn_4 kI_m1 ?_
    refine lv_goto (tgt := 14) hx hb dX7_pieceIn_5 (by decide) ?_
    rw [hZ]
    exact cx_reti () hx hb hr hlocks hw hP hS dX7_pieceIn_14
set_option maxRecDepth 100000 in
set_option maxHeartbeats 4000000 in
theorem c_X7_isOnSheet (l : Launch) (D : va_G) (cI cJ cZ cO : ClassId) (tS tT : Nat) (sz : Nat) (p1 : Int32) (Q : Int32 → Prop) (hw : wp_X7_isOnSheet p1 Q) : Met l yX7_isOnSheet wsX7_isOnSheet rm_X7_isOnSheet (va_Pc [.int p1] (cx_B tS tT cI cJ cZ cO D sz (w_X7_isOnSheet : va_W))) (va_Qi (fun (r : Int32) (_ : Unit) => Q r) (fun (u : Unit) t => va_P D vwCl (w_X7_isOnSheet : va_W) t.heap) (va_A (w_X7_isOnSheet : va_W) sz)) 0 0 (va_A (w_X7_isOnSheet : va_W) sz) := by
  refine cx_met (cc := cX7_isOnSheet) (maxL := 2) (ret := (some .boolean)) (Qc := fun A => va_Qi (fun (r : Int32) (_ : Unit) => Q r) (fun (u : Unit) t => va_P D vwCl (w_X7_isOnSheet : va_W) t.heap) A) (lv := [(0, .int p1)]) (by decide) rfl (Nat.le_of_ble_eq_true rfl) rfl ?_
  intro p e s m args below meth c A Z hx hb hr hlocks hts hown hml hE hK hA hZ
  have hown : s.vm.findClass RX7 = some m.cls := hown
  intro H locs hP hD hS ls hl
  unfold wp_X7_isOnSheet at hw
  refine lv_iload_n hx hb dX7_isOnSheet_0 rfl (lv_at hl 0 rfl) ?_
  refine lv_bipush (v := (18 : Int32)) hx hb dX7_isOnSheet_1 kB_18 ?_
  refine lv_irem hx hb dX7_isOnSheet_3 (by decide) ?_
  refine lv_topi (fun v4 e4 => ?_)
  have hw := hw v4 e4
  refine lv_istore_n (lv' := [(1, .int v4), (0, .int p1)]) hx hb dX7_isOnSheet_4 rfl hl (by decide) rfl (fun ls hl => ?_)
  refine lv_iload_n hx hb dX7_isOnSheet_5 rfl (lv_at hl 1 rfl) ?_
  refine lv_bipush (v := (18 : Int32)) hx hb dX7_isOnSheet_6 kB_18 ?_
  refine lv_icmp_lt (tgt := 33) hx hb dX7_isOnSheet_8 (by decide) (fun c8 => ?_) (fun c8 => ?_)
  · have hw := hw.1 c8
    refine lv_iconst (v := (0 : Int32)) hx hb dX7_isOnSheet_33 kI_0 ?_
    rw [hZ]
    exact cx_retz () hx hb hr hlocks rfl hw hP hS dX7_isOnSheet_34
  · have hw := hw.2 c8
    refine lv_iload_n hx hb dX7_isOnSheet_11 rfl (lv_at hl 1 rfl) ?_
    refine lv_sipush (v := (306 : Int32)) hx hb dX7_isOnSheet_12 kS_306 ?_
    refine lv_icmp_ge (tgt := 33) hx hb dX7_isOnSheet_15 (by decide) (fun c15 => ?_) (fun c15 => ?_)
    · have hw := hw.1 c15
      refine lv_iconst (v := (0 : Int32)) hx hb dX7_isOnSheet_33 kI_0 ?_
      rw [hZ]
      exact cx_retz () hx hb hr hlocks rfl hw hP hS dX7_isOnSheet_34
    · have hw := hw.2 c15
      refine lv_iload_n hx hb dX7_isOnSheet_18 rfl (lv_at hl 0 rfl) ?_
      refine lv_iconst (v := (1 : Int32)) hx hb dX7_isOnSheet_19 kI_1 ?_
      refine lv_icmp_lt (tgt := 33) hx hb dX7_isOnSheet_20 (by decide) (fun c20 => ?_) (fun c20 => ?_)
      · have hw := hw.1 c20
        refine lv_iconst (v := (0 : Int32)) hx hb dX7_isOnSheet_33 kI_0 ?_
        rw [hZ]
        exact cx_retz () hx hb hr hlocks rfl hw hP hS dX7_isOnSheet_34
      · have hw := hw.2 c20
        refine lv_iload_n hx hb dX7_isOnSheet_23 rfl (lv_at hl 0 rfl) ?_
        refine lv_bipush (v := (16 : Int32)) hx hb dX7_isOnSheet_24 kB_16 ?_
        refine lv_icmp_gt (tgt := 33) hx hb dX7_isOnSheet_26 (by decide) (fun c26 => ?_) (fun c26 => ?_)
        · have hw := hw.1 c26
          refine lv_iconst (v := (0 : Int32)) hx hb dX7_isOnSheet_33 kI_0 ?_
          rw [hZ]
          exact cx_retz () hx hb hr hlocks rfl hw hP hS dX7_isOnSheet_34
        · have hw := hw.2 c26
          refine lv_iconst (v := (1 : Int32)) hx hb dX7_isOnSheet_29 kI_1 ?_
          refine lv_goto (tgt := 34) hx hb dX7_isOnSheet_30 (by decide) ?_
          rw [hZ]
          exact cx_retz () hx hb hr hlocks rfl hw hP hS dX7_isOnSheet_34
set_option maxRecDepth 100000 in
set_option maxHeartbeats 4000000 in
theorem c_X4_markStale (l : Launch) (D : va_G) (cI cJ cZ cO : ClassId) (tS tT : Nat) (sz : Nat) (aS aK aS_cells aS_fits aS_fitsInLine aS_stale aS_staleCells aS_seen aS_queue : Nat) (S_pieces : Int32) (S_grown : Int32) (S_fitsInAll : Int32) (S_staleCount : Int32) (S_atLeast1 : Int64) (S_atLeast2 : Int64) (S_atLeast3 : Int64) (S_stale : Nat → Int32) (S_staleCells : Nat → Int32) (p1 : Int32) (Q : (Nat → Int32) → (Nat → Int32) → (Int32) → Prop) (hw : wp_X4_markStale S_stale S_staleCells S_staleCount p1 Q) : Met l yX4_markStale wsX4_markStale rm_X4_markStale (va_Pc [.ref aS, .int p1] (cx_B tS tT cI cJ cZ cO D sz (w_X4_markStale cI cJ cZ cO aS aK aS_cells aS_fits aS_fitsInLine aS_stale aS_staleCells aS_seen aS_queue S_pieces S_grown S_fitsInAll S_staleCount S_atLeast1 S_atLeast2 S_atLeast3 S_stale S_staleCells))) (va_Qv (fun (u : (Nat → Int32) × (Nat → Int32) × (Int32)) => Q u.1 u.2.1 u.2.2) (fun (u : (Nat → Int32) × (Nat → Int32) × (Int32)) t => va_P D vwCl (w_X4_markStale cI cJ cZ cO aS aK aS_cells aS_fits aS_fitsInLine aS_stale aS_staleCells aS_seen aS_queue S_pieces S_grown S_fitsInAll u.2.2 S_atLeast1 S_atLeast2 S_atLeast3 u.1 u.2.1) t.heap) (va_A (w_X4_markStale cI cJ cZ cO aS aK aS_cells aS_fits aS_fitsInLine aS_stale aS_staleCells aS_seen aS_queue S_pieces S_grown S_fitsInAll S_staleCount S_atLeast1 S_atLeast2 S_atLeast3 S_stale S_staleCells) sz)) 0 0 (va_A (w_X4_markStale cI cJ cZ cO aS aK aS_cells aS_fits aS_fitsInLine aS_stale aS_staleCells aS_seen aS_queue S_pieces S_grown S_fitsInAll S_staleCount S_atLeast1 S_atLeast2 S_atLeast3 S_stale S_staleCells) sz) := by
  refine cx_met (cc := cX4_markStale) (maxL := 2) (ret := none) (Qc := fun A => va_Qv (fun (u : (Nat → Int32) × (Nat → Int32) × (Int32)) => Q u.1 u.2.1 u.2.2) (fun (u : (Nat → Int32) × (Nat → Int32) × (Int32)) t => va_P D vwCl (w_X4_markStale cI cJ cZ cO aS aK aS_cells aS_fits aS_fitsInLine aS_stale aS_staleCells aS_seen aS_queue S_pieces S_grown S_fitsInAll u.2.2 S_atLeast1 S_atLeast2 S_atLeast3 u.1 u.2.1) t.heap) A) (lv := [(0, .ref aS), (1, .int p1)]) (by decide) rfl (Nat.le_of_ble_eq_true rfl) rfl ?_
  intro p e s m args below meth c A Z hx hb hr hlocks hts hown hml hE hK hA hZ
  have hown : s.vm.findClass RX4 = some m.cls := hown
  have k_0 := hts (.initialized RX7) (List.mem_of_getElem? (i := 5) (by decide +kernel))
  have k_1 := hts (.static yX7_isOnSheet) (List.mem_of_getElem? (i := 4) (by decide +kernel))
  have k_2 := hts (.fieldLink RX4 36 "GrowingTiles$Sheet" "stale" "[Z") (List.mem_of_getElem? (i := 1) (by decide +kernel))
  have k_3 := hts (.fieldLink RX4 40 "GrowingTiles$Sheet" "staleCells" "[I") (List.mem_of_getElem? (i := 2) (by decide +kernel))
  have k_4 := hts (.fieldLink RX4 43 "GrowingTiles$Sheet" "staleCount" "I") (List.mem_of_getElem? (i := 3) (by decide +kernel))
  intro H locs hP hD hS ls hl
  unfold wp_X4_markStale at hw
  refine lv_iload_n hx hb dX4_markStale_0 rfl (lv_at hl 1 rfl) ?_
  refine cx_goi (va_runSN (As := [.int p1]) (rest := []) ⟨hx, hb, hml, hown, hts⟩ (c_X7_isOnSheet l D cI cJ cZ cO tS tT H.size p1 _ hw) ⟨va_cnB 1 hts gX4_markStale_X7_isOnSheet_n93 rfl rfl rfl (hE.1.2.1) k_0 ps_X7_isOnSheet ⟨Nat.le_of_ble_eq_true rfl, Nat.le_of_ble_eq_true rfl⟩, k_1, trivial⟩ (cx_preS (wc := w_X7_isOnSheet) hE hK hP hD hS hA [] rfl rfl) rfl rfl hl.1 rfl (lv_room (Nat.le_of_ble_eq_true rfl)) dX4_markStale_1 ⟨Nat.le_of_ble_eq_true rfl, Nat.le_of_ble_eq_true rfl⟩) (fun (_ : Unit) => (w_X4_markStale cI cJ cZ cO aS aK aS_cells aS_fits aS_fitsInLine aS_stale aS_staleCells aS_seen aS_queue S_pieces S_grown S_fitsInAll S_staleCount S_atLeast1 S_atLeast2 S_atLeast3 S_stale S_staleCells)) [] [0, 1, 2] (ads := []) (wr := [(aS, .inr (4, [.ref aK, .ref aS_cells, .int S_pieces, .int S_grown, .ref aS_fits, .ref aS_fitsInLine, .int S_fitsInAll, .ref aS_stale, .ref aS_staleCells, .int S_staleCount, .long S_atLeast1, .long S_atLeast2, .long S_atLeast3, .ref aS_seen, .ref aS_queue])), (aS_stale, .inl (cZ, 324, .inl S_stale)), (aS_staleCells, .inl (cI, 256, .inl S_staleCells))]) rfl rfl (fun u => rfl) (fun u => rfl) rfl (fun u => rfl) rfl (fun u => rfl) rfl hP hD hS hA (fun r1 u H locs hw hP hD hS => ?_)
  refine lv_if_eq (tgt := 43) hx hb dX4_markStale_4 (by decide) (fun c4 => ?_) (fun c4 => ?_)
  · have hw := hw.1 c4
    rw [hZ]
    exact cx_retv (S_stale, S_staleCells, S_staleCount) hx hb hr hlocks hw hP hS dX4_markStale_43
  · have hw := hw.2 c4
    refine lv_aload_n hx hb dX4_markStale_7 rfl (lv_at hl 0 rfl) ?_
    refine va_get (D := D) (ci := 4) (v := .ref aS_stale) (C := RX4) (T := TX4) (N := 15) hx hb hts in_X4_markStale_X4 hown hK hP 0 rfl rfl 7 (by decide) k_2 (fun _ h9 => h9) rfl dX4_markStale_8 ?_
    refine lv_iload_n hx hb dX4_markStale_11 rfl (lv_at hl 1 rfl) ?_
    have h12 := hw.1
    have hw := hw.2
    refine va_zald hx hb hK hP 1 2 rfl rfl h12 dX4_markStale_12 ?_
    refine lv_topi (fun v12 e12 => ?_)
    have hw := hw v12 e12
    refine lv_if_ne (tgt := 43) hx hb dX4_markStale_13 (by decide) (fun c13 => ?_) (fun c13 => ?_)
    · have hw := hw.1 c13
      rw [hZ]
      exact cx_retv (S_stale, S_staleCells, S_staleCount) hx hb hr hlocks hw hP hS dX4_markStale_43
    · have hw := hw.2 c13
      refine lv_aload_n hx hb dX4_markStale_16 rfl (lv_at hl 0 rfl) ?_
      refine va_get (D := D) (ci := 4) (v := .ref aS_stale) (C := RX4) (T := TX4) (N := 15) hx hb hts in_X4_markStale_X4 hown hK hP 0 rfl rfl 7 (by decide) k_2 (fun _ h9 => h9) rfl dX4_markStale_17 ?_
      refine lv_iload_n hx hb dX4_markStale_20 rfl (lv_at hl 1 rfl) ?_
      refine lv_iconst (v := (1 : Int32)) hx hb dX4_markStale_21 kI_1 ?_
      have h22 := hw.1
      have hw := hw.2
      refine va_zast hx hb hK hP hD hS 1 2 rfl rfl h22 dX4_markStale_22 (fun H locs hP hD hS => ?_)
      have hP : va_P D vwCl (w_X4_markStale cI cJ cZ cO aS aK aS_cells aS_fits aS_fitsInLine aS_stale aS_staleCells aS_seen aS_queue S_pieces S_grown S_fitsInAll S_staleCount S_atLeast1 S_atLeast2 S_atLeast3 (upd S_stale p1.toNatClampNeg (vp_nar .boolean (1 : Int32))) S_staleCells) H := hP
      have hD : va_D A (w_X4_markStale cI cJ cZ cO aS aK aS_cells aS_fits aS_fitsInLine aS_stale aS_staleCells aS_seen aS_queue S_pieces S_grown S_fitsInAll S_staleCount S_atLeast1 S_atLeast2 S_atLeast3 (upd S_stale p1.toNatClampNeg (vp_nar .boolean (1 : Int32))) S_staleCells) := hD
      obtain ⟨S_stale_22, e22⟩ : ∃ y : Nat → Int32, y = upd S_stale p1.toNatClampNeg (vp_nar .boolean (1 : Int32)) := ⟨_, rfl⟩
      rw [← e22] at hP hD
      have hw := hw S_stale_22 e22
      refine lv_aload_n hx hb dX4_markStale_23 rfl (lv_at hl 0 rfl) ?_
      refine va_get (D := D) (ci := 4) (v := .ref aS_staleCells) (C := RX4) (T := TX4) (N := 15) hx hb hts in_X4_markStale_X4 hown hK hP 0 rfl rfl 8 (by decide) k_3 (fun _ h9 => h9) rfl dX4_markStale_24 ?_
      refine lv_aload_n hx hb dX4_markStale_27 rfl (lv_at hl 0 rfl) ?_
      refine va_get (D := D) (ci := 4) (v := .int S_staleCount) (C := RX4) (T := TX4) (N := 15) hx hb hts in_X4_markStale_X4 hown hK hP 0 rfl rfl 9 (by decide) k_4 (fun _ h9 => h9) rfl dX4_markStale_28 ?_
      refine lv_iload_n hx hb dX4_markStale_31 rfl (lv_at hl 1 rfl) ?_
      have h32 := hw.1
      have hw := hw.2
      refine va_iast hx hb hK hP hD hS 2 0 rfl rfl h32 dX4_markStale_32 (fun H locs hP hD hS => ?_)
      have hP : va_P D vwCl (w_X4_markStale cI cJ cZ cO aS aK aS_cells aS_fits aS_fitsInLine aS_stale aS_staleCells aS_seen aS_queue S_pieces S_grown S_fitsInAll S_staleCount S_atLeast1 S_atLeast2 S_atLeast3 S_stale_22 (upd S_staleCells S_staleCount.toNatClampNeg p1)) H := hP
      have hD : va_D A (w_X4_markStale cI cJ cZ cO aS aK aS_cells aS_fits aS_fitsInLine aS_stale aS_staleCells aS_seen aS_queue S_pieces S_grown S_fitsInAll S_staleCount S_atLeast1 S_atLeast2 S_atLeast3 S_stale_22 (upd S_staleCells S_staleCount.toNatClampNeg p1)) := hD
      obtain ⟨S_staleCells_32, e32⟩ : ∃ y : Nat → Int32, y = upd S_staleCells S_staleCount.toNatClampNeg p1 := ⟨_, rfl⟩
      rw [← e32] at hP hD
      have hw := hw S_staleCells_32 e32
      refine lv_aload_n hx hb dX4_markStale_33 rfl (lv_at hl 0 rfl) ?_
      refine lv_dup hx hb dX4_markStale_34 rfl ?_
      refine va_get (D := D) (ci := 4) (v := .int S_staleCount) (C := RX4) (T := TX4) (N := 15) hx hb hts in_X4_markStale_X4 hown hK hP 0 rfl rfl 9 (by decide) k_4 (fun _ h9 => h9) rfl dX4_markStale_35 ?_
      refine lv_iconst (v := (1 : Int32)) hx hb dX4_markStale_38 kI_1 ?_
      refine lv_iadd hx hb dX4_markStale_39 ?_
      refine lv_topi (fun S_staleCount_40 e40 => ?_)
      have hw := hw S_staleCount_40 e40
      refine va_put (D := D) (ci := 4) (v := .int S_staleCount_40) (ty := .int) (C := RX4) (T := TX4) (N := 15) hx hb hts in_X4_markStale_X4 tyX4 tyX4_ok nmX4 hown hK hP hD hS 0 rfl rfl 9 (by decide) k_4 (fun _ h9 => h9) rfl (tyX4_ok 9 (by decide)) rfl rfl (Nat.le_of_ble_eq_true rfl) dX4_markStale_40 (fun H locs hP hD hS => ?_)
      have hP : va_P D vwCl (w_X4_markStale cI cJ cZ cO aS aK aS_cells aS_fits aS_fitsInLine aS_stale aS_staleCells aS_seen aS_queue S_pieces S_grown S_fitsInAll S_staleCount_40 S_atLeast1 S_atLeast2 S_atLeast3 S_stale_22 S_staleCells_32) H := hP
      have hD : va_D A (w_X4_markStale cI cJ cZ cO aS aK aS_cells aS_fits aS_fitsInLine aS_stale aS_staleCells aS_seen aS_queue S_pieces S_grown S_fitsInAll S_staleCount_40 S_atLeast1 S_atLeast2 S_atLeast3 S_stale_22 S_staleCells_32) := hD
      rw [hZ]
      exact cx_retv (S_stale_22, S_staleCells_32, S_staleCount_40) hx hb hr hlocks hw hP hS dX4_markStale_43
set_option maxRecDepth 100000 in
set_option maxHeartbeats 4000000 in
theorem c_X4_touch (l : Launch) (D : va_G) (cI cJ cZ cO : ClassId) (tS tT : Nat) (sz : Nat) (aS aK aS_cells aS_fits aS_fitsInLine aS_stale aS_staleCells aS_seen aS_queue : Nat) (S_pieces : Int32) (S_grown : Int32) (S_fitsInAll : Int32) (S_staleCount : Int32) (S_atLeast1 : Int64) (S_atLeast2 : Int64) (S_atLeast3 : Int64) (S_stale : Nat → Int32) (S_staleCells : Nat → Int32) (p1 : Int32) (Q : (Nat → Int32) → (Nat → Int32) → (Int32) → Prop) (hw : wp_X4_touch S_stale S_staleCells S_staleCount p1 Q) : Met l yX4_touch wsX4_touch rm_X4_touch (va_Pc [.ref aS, .int p1] (cx_B tS tT cI cJ cZ cO D sz (w_X4_touch cI cJ cZ cO aS aK aS_cells aS_fits aS_fitsInLine aS_stale aS_staleCells aS_seen aS_queue S_pieces S_grown S_fitsInAll S_staleCount S_atLeast1 S_atLeast2 S_atLeast3 S_stale S_staleCells))) (va_Qv (fun (u : (Nat → Int32) × (Nat → Int32) × (Int32)) => Q u.1 u.2.1 u.2.2) (fun (u : (Nat → Int32) × (Nat → Int32) × (Int32)) t => va_P D vwCl (w_X4_touch cI cJ cZ cO aS aK aS_cells aS_fits aS_fitsInLine aS_stale aS_staleCells aS_seen aS_queue S_pieces S_grown S_fitsInAll u.2.2 S_atLeast1 S_atLeast2 S_atLeast3 u.1 u.2.1) t.heap) (va_A (w_X4_touch cI cJ cZ cO aS aK aS_cells aS_fits aS_fitsInLine aS_stale aS_staleCells aS_seen aS_queue S_pieces S_grown S_fitsInAll S_staleCount S_atLeast1 S_atLeast2 S_atLeast3 S_stale S_staleCells) sz)) 0 0 (va_A (w_X4_touch cI cJ cZ cO aS aK aS_cells aS_fits aS_fitsInLine aS_stale aS_staleCells aS_seen aS_queue S_pieces S_grown S_fitsInAll S_staleCount S_atLeast1 S_atLeast2 S_atLeast3 S_stale S_staleCells) sz) := by
  refine cx_met (cc := cX4_touch) (maxL := 3) (ret := none) (Qc := fun A => va_Qv (fun (u : (Nat → Int32) × (Nat → Int32) × (Int32)) => Q u.1 u.2.1 u.2.2) (fun (u : (Nat → Int32) × (Nat → Int32) × (Int32)) t => va_P D vwCl (w_X4_touch cI cJ cZ cO aS aK aS_cells aS_fits aS_fitsInLine aS_stale aS_staleCells aS_seen aS_queue S_pieces S_grown S_fitsInAll u.2.2 S_atLeast1 S_atLeast2 S_atLeast3 u.1 u.2.1) t.heap) A) (lv := [(0, .ref aS), (1, .int p1)]) (by decide) rfl (Nat.le_of_ble_eq_true rfl) rfl ?_
  intro p e s m args below meth c A Z hx hb hr hlocks hts hown hml hE hK hA hZ
  have hown : s.vm.findClass RX4 = some m.cls := hown
  have b_2 : ∀ n_2 : Nat, ∀ (S_stale : Nat → Int32) (S_staleCells : Nat → Int32) (S_staleCount : Int32) (x1 : Int32) (x2 : Int32), wq_X4_touch_2  Q n_2 S_stale S_staleCells S_staleCount x1 x2 → ∀ (H : Heap) (locs : List Loc), va_P D vwCl (w_X4_touch cI cJ cZ cO aS aK aS_cells aS_fits aS_fitsInLine aS_stale aS_staleCells aS_seen aS_queue S_pieces S_grown S_fitsInAll S_staleCount S_atLeast1 S_atLeast2 S_atLeast3 S_stale S_staleCells) H → va_D A (w_X4_touch cI cJ cZ cO aS aK aS_cells aS_fits aS_fitsInLine aS_stale aS_staleCells aS_seen aS_queue S_pieces S_grown S_fitsInAll S_staleCount S_atLeast1 S_atLeast2 S_atLeast3 S_stale S_staleCells) → va_S A s.heap H locs → ∀ ls : Array Slot, lv_has ls 3 [(0, .ref aS), (1, .int x1), (2, .int x2)] → W p l e rm_X4_touch s m args below meth c H locs 0 0 Z (F0 m 2 ls []) := by
    intro n_2
    induction n_2 with
    | zero => intro S_stale S_staleCells S_staleCount x1 x2 hw; exact False.elim hw
    | succ n_2 ih_2 =>
      intro S_stale S_staleCells S_staleCount x1 x2 hw H locs hP hD hS ls hl
      have hw : wf_X4_touch_2  Q (wq_X4_touch_2  Q n_2) S_stale S_staleCells S_staleCount x1 x2 := hw
      unfold wf_X4_touch_2 at hw
      refine lv_iload_n hx hb dX4_touch_2 rfl (lv_at hl 2 rfl) ?_
      refine va_getsN hx hb hE.2.2.2.1 hS hown (va_Nw.use rfl (hE.1.2.2.1)) (fun _ h9 => h9) dX4_touch_3 ?_
      refine va_tlen (v := (8 : Int32)) hx hb hE.2.2.2.2 hS (by decide) dX4_touch_6 ?_
      refine lv_icmp_ge (tgt := 27) hx hb dX4_touch_7 (by decide) (fun c7 => ?_) (fun c7 => ?_)
      · have hw := hw.1 c7
        rw [hZ]
        exact cx_retv (S_stale, S_staleCells, S_staleCount) hx hb hr hlocks hw hP hS dX4_touch_27
      · have hw := hw.2 c7
        refine lv_aload_n hx hb dX4_touch_10 rfl (lv_at hl 0 rfl) ?_
        refine lv_iload_n hx hb dX4_touch_11 rfl (lv_at hl 1 rfl) ?_
        refine va_getsN hx hb hE.2.2.2.1 hS hown (va_Nw.use rfl (hE.1.2.2.1)) (fun _ h9 => h9) dX4_touch_12 ?_
        refine lv_iload_n hx hb dX4_touch_15 rfl (lv_at hl 2 rfl) ?_
        have h16 := hw.1
        have hw := hw.2
        refine va_ti hx hb hE.2.2.2.2 hS h16 rfl dX4_touch_16 ?_
        refine lv_topi (fun v16 e16 => ?_)
        have hw := hw v16 e16
        refine lv_iadd hx hb dX4_touch_17 ?_
        refine cx_gov (va_runV (As := [.int (x1 + v16)]) (rest := []) ⟨hx, hb, hml, hown, hts⟩ (c_X4_markStale l D cI cJ cZ cO tS tT H.size aS aK aS_cells aS_fits aS_fitsInLine aS_stale aS_staleCells aS_seen aS_queue S_pieces S_grown S_fitsInAll S_staleCount S_atLeast1 S_atLeast2 S_atLeast3 S_stale S_staleCells (x1 + v16) _ hw) (cwV 1 hts gX4_touch_X4_markStale rfl rfl rfl pv_X4_markStale ⟨Nat.le_of_ble_eq_true rfl, Nat.le_of_ble_eq_true rfl⟩) (cx_preV (wc := w_X4_markStale cI cJ cZ cO aS aK aS_cells aS_fits aS_fitsInLine aS_stale aS_staleCells aS_seen aS_queue S_pieces S_grown S_fitsInAll S_staleCount S_atLeast1 S_atLeast2 S_atLeast3 S_stale S_staleCells) hE hK hP hD hS hA [0, 1, 2] rfl rfl (va_recv hK hP (ci := 4) (q0 := 0) rfl rfl)) rfl rfl hl.1 rfl (lv_room (Nat.le_of_ble_eq_true rfl)) dX4_touch_18 ⟨Nat.le_of_ble_eq_true rfl, Nat.le_of_ble_eq_true rfl⟩) (fun (u : (Nat → Int32) × (Nat → Int32) × (Int32)) => (w_X4_touch cI cJ cZ cO aS aK aS_cells aS_fits aS_fitsInLine aS_stale aS_staleCells aS_seen aS_queue S_pieces S_grown S_fitsInAll u.2.2 S_atLeast1 S_atLeast2 S_atLeast3 u.1 u.2.1)) [0, 1, 2] [] (ads := [aS, aS_stale, aS_staleCells]) (wr := []) rfl rfl (fun u => rfl) (fun u => rfl) rfl (fun u => rfl) rfl (fun u => rfl) rfl hP hD hS hA (fun u H locs hw hP hD hS => ?_)
        obtain ⟨S_stale_18, S_staleCells_18, S_staleCount_18⟩ := u
        try dsimp only at hw
        have hP : va_P D vwCl (w_X4_touch cI cJ cZ cO aS aK aS_cells aS_fits aS_fitsInLine aS_stale aS_staleCells aS_seen aS_queue S_pieces S_grown S_fitsInAll S_staleCount_18 S_atLeast1 S_atLeast2 S_atLeast3 S_stale_18 S_staleCells_18) H := hP
        have hD : va_D A (w_X4_touch cI cJ cZ cO aS aK aS_cells aS_fits aS_fitsInLine aS_stale aS_staleCells aS_seen aS_queue S_pieces S_grown S_fitsInAll S_staleCount_18 S_atLeast1 S_atLeast2 S_atLeast3 S_stale_18 S_staleCells_18) := hD
        obtain ⟨v21, e21⟩ : ∃ y : Int32, y = x2 + (1 : Int32) := ⟨_, rfl⟩
        have hw := hw v21 e21
        refine lv_iinc (v := v21) (lv' := [(2, .int v21), (0, .ref aS), (1, .int x1)]) hx hb dX4_touch_21 hl (k := 2) rfl (by rw [e21, kI_1]) (by decide) rfl (fun ls hl => ?_)
        refine lv_goto (tgt := 2) hx hb dX4_touch_24 (by decide) ?_
        exact ih_2 S_stale_18 S_staleCells_18 S_staleCount_18 x1 v21 hw H locs hP hD hS ls (lv_sub hl [1, 2, 0] rfl)
  intro H locs hP hD hS ls hl
  unfold wp_X4_touch at hw
  refine lv_iconst (v := (0 : Int32)) hx hb dX4_touch_0 kI_0 ?_
  refine lv_istore_n (lv' := [(2, .int (0 : Int32)), (0, .ref aS), (1, .int p1)]) hx hb dX4_touch_1 rfl hl (by decide) rfl (fun ls hl => ?_)
  obtain ⟨k, hw⟩ := hw
  exact b_2 k S_stale S_staleCells S_staleCount p1 (0 : Int32) hw H locs hP hD hS ls (lv_sub hl [1, 2, 0] rfl)
set_option maxRecDepth 100000 in
set_option maxHeartbeats 4000000 in
theorem c_X4_lift (l : Launch) (D : va_G) (cI cJ cZ cO : ClassId) (tS tT : Nat) (sz : Nat) (aK aK_strengths aK_kinds aK_marks aK_faces aK_bars aK_showing aK_showingRight aK_barring aS aS_cells aS_fits aS_fitsInLine aS_stale aS_staleCells aS_seen aS_queue : Nat) (K_warm : Int32) (K_count : Int32) (K_seeds : Int64) (K_blocks : Int64) (K_rivals : Int64) (K_kinds : Nat → Int32) (S_pieces : Int32) (S_grown : Int32) (S_fitsInAll : Int32) (S_staleCount : Int32) (S_atLeast1 : Int64) (S_atLeast2 : Int64) (S_atLeast3 : Int64) (S_cells : Nat → Int32) (S_stale : Nat → Int32) (S_staleCells : Nat → Int32) (p1 : Int32) (Q : (Nat → Int32) → (Int32) → (Int32) → (Nat → Int32) → (Nat → Int32) → (Int32) → Prop) (hw : wp_X4_lift K_kinds S_cells S_pieces S_grown S_stale S_staleCells S_staleCount p1 Q) : Met l yX4_lift wsX4_lift rm_X4_lift (va_Pc [.ref aS, .int p1] (cx_B tS tT cI cJ cZ cO D sz (w_X4_lift cI cJ cZ cO aK aK_strengths aK_kinds aK_marks aK_faces aK_bars aK_showing aK_showingRight aK_barring aS aS_cells aS_fits aS_fitsInLine aS_stale aS_staleCells aS_seen aS_queue K_warm K_count K_seeds K_blocks K_rivals K_kinds S_pieces S_grown S_fitsInAll S_staleCount S_atLeast1 S_atLeast2 S_atLeast3 S_cells S_stale S_staleCells))) (va_Qv (fun (u : (Nat → Int32) × (Int32) × (Int32) × (Nat → Int32) × (Nat → Int32) × (Int32)) => Q u.1 u.2.1 u.2.2.1 u.2.2.2.1 u.2.2.2.2.1 u.2.2.2.2.2) (fun (u : (Nat → Int32) × (Int32) × (Int32) × (Nat → Int32) × (Nat → Int32) × (Int32)) t => va_P D vwCl (w_X4_lift cI cJ cZ cO aK aK_strengths aK_kinds aK_marks aK_faces aK_bars aK_showing aK_showingRight aK_barring aS aS_cells aS_fits aS_fitsInLine aS_stale aS_staleCells aS_seen aS_queue K_warm K_count K_seeds K_blocks K_rivals K_kinds u.2.1 u.2.2.1 S_fitsInAll u.2.2.2.2.2 S_atLeast1 S_atLeast2 S_atLeast3 u.1 u.2.2.2.1 u.2.2.2.2.1) t.heap) (va_A (w_X4_lift cI cJ cZ cO aK aK_strengths aK_kinds aK_marks aK_faces aK_bars aK_showing aK_showingRight aK_barring aS aS_cells aS_fits aS_fitsInLine aS_stale aS_staleCells aS_seen aS_queue K_warm K_count K_seeds K_blocks K_rivals K_kinds S_pieces S_grown S_fitsInAll S_staleCount S_atLeast1 S_atLeast2 S_atLeast3 S_cells S_stale S_staleCells) sz)) 0 0 (va_A (w_X4_lift cI cJ cZ cO aK aK_strengths aK_kinds aK_marks aK_faces aK_bars aK_showing aK_showingRight aK_barring aS aS_cells aS_fits aS_fitsInLine aS_stale aS_staleCells aS_seen aS_queue K_warm K_count K_seeds K_blocks K_rivals K_kinds S_pieces S_grown S_fitsInAll S_staleCount S_atLeast1 S_atLeast2 S_atLeast3 S_cells S_stale S_staleCells) sz) := by
  refine cx_met (cc := cX4_lift) (maxL := 3) (ret := none) (Qc := fun A => va_Qv (fun (u : (Nat → Int32) × (Int32) × (Int32) × (Nat → Int32) × (Nat → Int32) × (Int32)) => Q u.1 u.2.1 u.2.2.1 u.2.2.2.1 u.2.2.2.2.1 u.2.2.2.2.2) (fun (u : (Nat → Int32) × (Int32) × (Int32) × (Nat → Int32) × (Nat → Int32) × (Int32)) t => va_P D vwCl (w_X4_lift cI cJ cZ cO aK aK_strengths aK_kinds aK_marks aK_faces aK_bars aK_showing aK_showingRight aK_barring aS aS_cells aS_fits aS_fitsInLine aS_stale aS_staleCells aS_seen aS_queue K_warm K_count K_seeds K_blocks K_rivals K_kinds u.2.1 u.2.2.1 S_fitsInAll u.2.2.2.2.2 S_atLeast1 S_atLeast2 S_atLeast3 u.1 u.2.2.2.1 u.2.2.2.2.1) t.heap) A) (lv := [(0, .ref aS), (1, .int p1)]) (by decide) rfl (Nat.le_of_ble_eq_true rfl) rfl ?_
  intro p e s m args below meth c A Z hx hb hr hlocks hts hown hml hE hK hA hZ
  have hown : s.vm.findClass RX4 = some m.cls := hown
  have k_0 := hts (.fieldLink RX4 23 "GrowingTiles$Sheet" "grown" "I") (List.mem_of_getElem? (i := 5) (by decide +kernel))
  have k_1 := hts (.fieldLink RX4 19 "GrowingTiles$Sheet" "pieces" "I") (List.mem_of_getElem? (i := 4) (by decide +kernel))
  have k_2 := hts (.fieldLink RX4 9 "GrowingTiles$Sheet" "kit" "LGrowingTiles$Kit;") (List.mem_of_getElem? (i := 2) (by decide +kernel))
  have k_3 := hts (.fieldLink RX4 52 "GrowingTiles$Kit" "kinds" "[I") (List.mem_of_getElem? (i := 3) (by decide +kernel))
  have k_4 := hts (.fieldLink RX4 15 "GrowingTiles$Sheet" "cells" "[I") (List.mem_of_getElem? (i := 1) (by decide +kernel))
  have k_5 := hts (.initialized RX7) (List.mem_of_getElem? (i := 7) (by decide +kernel))
  have k_6 := hts (.static yX7_pieceIn) (List.mem_of_getElem? (i := 6) (by decide +kernel))
  have b_90 : ∀ (S_cells : Nat → Int32) (S_pieces : Int32) (S_grown : Int32) (S_stale : Nat → Int32) (S_staleCells : Nat → Int32) (S_staleCount : Int32) (y1 : Int32) (y2 : Int32), wq_X4_lift_90 K_kinds Q S_cells S_pieces S_grown S_stale S_staleCells S_staleCount y1 y2 → ∀ (H : Heap) (locs : List Loc), va_P D vwCl (w_X4_lift cI cJ cZ cO aK aK_strengths aK_kinds aK_marks aK_faces aK_bars aK_showing aK_showingRight aK_barring aS aS_cells aS_fits aS_fitsInLine aS_stale aS_staleCells aS_seen aS_queue K_warm K_count K_seeds K_blocks K_rivals K_kinds S_pieces S_grown S_fitsInAll S_staleCount S_atLeast1 S_atLeast2 S_atLeast3 S_cells S_stale S_staleCells) H → va_D A (w_X4_lift cI cJ cZ cO aK aK_strengths aK_kinds aK_marks aK_faces aK_bars aK_showing aK_showingRight aK_barring aS aS_cells aS_fits aS_fitsInLine aS_stale aS_staleCells aS_seen aS_queue K_warm K_count K_seeds K_blocks K_rivals K_kinds S_pieces S_grown S_fitsInAll S_staleCount S_atLeast1 S_atLeast2 S_atLeast3 S_cells S_stale S_staleCells) → va_S A s.heap H locs → ∀ ls : Array Slot, lv_has ls 3 [] → W p l e rm_X4_lift s m args below meth c H locs 0 0 Z (F0 m 90 ls [.int y2, .int y1, .ref aS]) := by
    intro S_cells S_pieces S_grown S_stale S_staleCells S_staleCount y1 y2 hw H locs hP hD hS ls hl
    unfold wq_X4_lift_90 at hw
    refine lv_isub hx hb dX4_lift_90 ?_
    refine lv_topi (fun S_grown_91 e91 => ?_)
    have hw := hw S_grown_91 e91
    refine va_put (D := D) (ci := 4) (v := .int S_grown_91) (ty := .int) (C := RX4) (T := TX4) (N := 15) hx hb hts in_X4_lift_X4 tyX4 tyX4_ok nmX4 hown hK hP hD hS 2 rfl rfl 3 (by decide) k_0 (fun _ h9 => h9) rfl (tyX4_ok 3 (by decide)) rfl rfl (Nat.le_of_ble_eq_true rfl) dX4_lift_91 (fun H locs hP hD hS => ?_)
    have hP : va_P D vwCl (w_X4_lift cI cJ cZ cO aK aK_strengths aK_kinds aK_marks aK_faces aK_bars aK_showing aK_showingRight aK_barring aS aS_cells aS_fits aS_fitsInLine aS_stale aS_staleCells aS_seen aS_queue K_warm K_count K_seeds K_blocks K_rivals K_kinds S_pieces S_grown_91 S_fitsInAll S_staleCount S_atLeast1 S_atLeast2 S_atLeast3 S_cells S_stale S_staleCells) H := hP
    have hD : va_D A (w_X4_lift cI cJ cZ cO aK aK_strengths aK_kinds aK_marks aK_faces aK_bars aK_showing aK_showingRight aK_barring aS aS_cells aS_fits aS_fitsInLine aS_stale aS_staleCells aS_seen aS_queue K_warm K_count K_seeds K_blocks K_rivals K_kinds S_pieces S_grown_91 S_fitsInAll S_staleCount S_atLeast1 S_atLeast2 S_atLeast3 S_cells S_stale S_staleCells) := hD
    rw [hZ]
    exact cx_retv (S_cells, S_pieces, S_grown_91, S_stale, S_staleCells, S_staleCount) hx hb hr hlocks hw hP hS dX4_lift_94
  have b_57 : ∀ (S_cells : Nat → Int32) (S_pieces : Int32) (S_grown : Int32) (S_stale : Nat → Int32) (S_staleCells : Nat → Int32) (S_staleCount : Int32) (x2 : Int32), wq_X4_lift_57 K_kinds Q S_cells S_pieces S_grown S_stale S_staleCells S_staleCount x2 → ∀ (H : Heap) (locs : List Loc), va_P D vwCl (w_X4_lift cI cJ cZ cO aK aK_strengths aK_kinds aK_marks aK_faces aK_bars aK_showing aK_showingRight aK_barring aS aS_cells aS_fits aS_fitsInLine aS_stale aS_staleCells aS_seen aS_queue K_warm K_count K_seeds K_blocks K_rivals K_kinds S_pieces S_grown S_fitsInAll S_staleCount S_atLeast1 S_atLeast2 S_atLeast3 S_cells S_stale S_staleCells) H → va_D A (w_X4_lift cI cJ cZ cO aK aK_strengths aK_kinds aK_marks aK_faces aK_bars aK_showing aK_showingRight aK_barring aS aS_cells aS_fits aS_fitsInLine aS_stale aS_staleCells aS_seen aS_queue K_warm K_count K_seeds K_blocks K_rivals K_kinds S_pieces S_grown S_fitsInAll S_staleCount S_atLeast1 S_atLeast2 S_atLeast3 S_cells S_stale S_staleCells) → va_S A s.heap H locs → ∀ ls : Array Slot, lv_has ls 3 [(0, .ref aS), (2, .int x2)] → W p l e rm_X4_lift s m args below meth c H locs 0 0 Z (F0 m 57 ls []) := by
    intro S_cells S_pieces S_grown S_stale S_staleCells S_staleCount x2 hw H locs hP hD hS ls hl
    unfold wq_X4_lift_57 at hw
    refine lv_aload_n hx hb dX4_lift_57 rfl (lv_at hl 0 rfl) ?_
    refine lv_dup hx hb dX4_lift_58 rfl ?_
    refine va_get (D := D) (ci := 4) (v := .int S_pieces) (C := RX4) (T := TX4) (N := 15) hx hb hts in_X4_lift_X4 hown hK hP 2 rfl rfl 2 (by decide) k_1 (fun _ h9 => h9) rfl dX4_lift_59 ?_
    refine lv_iconst (v := (1 : Int32)) hx hb dX4_lift_62 kI_1 ?_
    refine lv_isub hx hb dX4_lift_63 ?_
    refine lv_topi (fun S_pieces_64 e64 => ?_)
    have hw := hw S_pieces_64 e64
    refine va_put (D := D) (ci := 4) (v := .int S_pieces_64) (ty := .int) (C := RX4) (T := TX4) (N := 15) hx hb hts in_X4_lift_X4 tyX4 tyX4_ok nmX4 hown hK hP hD hS 2 rfl rfl 2 (by decide) k_1 (fun _ h9 => h9) rfl (tyX4_ok 2 (by decide)) rfl rfl (Nat.le_of_ble_eq_true rfl) dX4_lift_64 (fun H locs hP hD hS => ?_)
    have hP : va_P D vwCl (w_X4_lift cI cJ cZ cO aK aK_strengths aK_kinds aK_marks aK_faces aK_bars aK_showing aK_showingRight aK_barring aS aS_cells aS_fits aS_fitsInLine aS_stale aS_staleCells aS_seen aS_queue K_warm K_count K_seeds K_blocks K_rivals K_kinds S_pieces_64 S_grown S_fitsInAll S_staleCount S_atLeast1 S_atLeast2 S_atLeast3 S_cells S_stale S_staleCells) H := hP
    have hD : va_D A (w_X4_lift cI cJ cZ cO aK aK_strengths aK_kinds aK_marks aK_faces aK_bars aK_showing aK_showingRight aK_barring aS aS_cells aS_fits aS_fitsInLine aS_stale aS_staleCells aS_seen aS_queue K_warm K_count K_seeds K_blocks K_rivals K_kinds S_pieces_64 S_grown S_fitsInAll S_staleCount S_atLeast1 S_atLeast2 S_atLeast3 S_cells S_stale S_staleCells) := hD
    refine lv_aload_n hx hb dX4_lift_67 rfl (lv_at hl 0 rfl) ?_
    refine lv_dup hx hb dX4_lift_68 rfl ?_
    refine va_get (D := D) (ci := 4) (v := .int S_grown) (C := RX4) (T := TX4) (N := 15) hx hb hts in_X4_lift_X4 hown hK hP 2 rfl rfl 3 (by decide) k_0 (fun _ h9 => h9) rfl dX4_lift_69 ?_
    refine lv_aload_n hx hb dX4_lift_72 rfl (lv_at hl 0 rfl) ?_
    refine va_get (D := D) (ci := 4) (v := .ref aK) (C := RX4) (T := TX4) (N := 15) hx hb hts in_X4_lift_X4 hown hK hP 2 rfl rfl 0 (by decide) k_2 (fun _ h9 => h9) rfl dX4_lift_73 ?_
    refine va_get (D := D) (ci := 1) (v := .ref aK_kinds) (C := RX1) (T := TX1) (N := 13) hx hb hts in_X4_lift_X1 hown hK hP 0 rfl rfl 3 (by decide) k_3 (fun _ h9 => h9) rfl dX4_lift_76 ?_
    refine lv_iload_n hx hb dX4_lift_79 rfl (lv_at hl 1 rfl) ?_
    have h80 := hw.1
    have hw := hw.2
    refine va_iald hx hb hK hP 1 0 rfl rfl h80 dX4_lift_80 ?_
    refine lv_topi (fun v80 e80 => ?_)
    have hw := hw v80 e80
    refine lv_iconst (v := (1 : Int32)) hx hb dX4_lift_81 kI_1 ?_
    refine lv_icmp_ne (tgt := 89) hx hb dX4_lift_82 (by decide) (fun c82 => ?_) (fun c82 => ?_)
    · have hw := hw.1 c82
      refine lv_iconst (v := (1 : Int32)) hx hb dX4_lift_89 kI_1 ?_
      exact b_90 S_cells S_pieces_64 S_grown S_stale S_staleCells S_staleCount S_grown (1 : Int32) hw H locs hP hD hS ls (lv_sub hl [] rfl)
    · have hw := hw.2 c82
      refine lv_iconst (v := (0 : Int32)) hx hb dX4_lift_85 kI_0 ?_
      refine lv_goto (tgt := 90) hx hb dX4_lift_86 (by decide) ?_
      exact b_90 S_cells S_pieces_64 S_grown S_stale S_staleCells S_staleCount S_grown (0 : Int32) hw H locs hP hD hS ls (lv_sub hl [] rfl)
  intro H locs hP hD hS ls hl
  unfold wp_X4_lift at hw
  refine lv_aload_n hx hb dX4_lift_0 rfl (lv_at hl 0 rfl) ?_
  refine va_get (D := D) (ci := 4) (v := .ref aS_cells) (C := RX4) (T := TX4) (N := 15) hx hb hts in_X4_lift_X4 hown hK hP 2 rfl rfl 1 (by decide) k_4 (fun _ h9 => h9) rfl dX4_lift_1 ?_
  refine lv_iload_n hx hb dX4_lift_4 rfl (lv_at hl 1 rfl) ?_
  have h5 := hw.1
  have hw := hw.2
  refine va_iald hx hb hK hP 3 0 rfl rfl h5 dX4_lift_5 ?_
  refine lv_topi (fun v5 e5 => ?_)
  have hw := hw v5 e5
  refine cx_goi (va_runSN (As := [.int v5]) (rest := []) ⟨hx, hb, hml, hown, hts⟩ (c_X7_pieceIn l D cI cJ cZ cO tS tT H.size v5 _ hw) ⟨va_cnB 1 hts gX4_lift_X7_pieceIn_n69 rfl rfl rfl (hE.1.2.2.2.2.2.2.2.1) k_5 ps_X7_pieceIn ⟨Nat.le_of_ble_eq_true rfl, Nat.le_of_ble_eq_true rfl⟩, k_6, trivial⟩ (cx_preS (wc := w_X7_pieceIn) hE hK hP hD hS hA [] rfl rfl) rfl rfl hl.1 rfl (lv_room (Nat.le_of_ble_eq_true rfl)) dX4_lift_6 ⟨Nat.le_of_ble_eq_true rfl, Nat.le_of_ble_eq_true rfl⟩) (fun (_ : Unit) => (w_X4_lift cI cJ cZ cO aK aK_strengths aK_kinds aK_marks aK_faces aK_bars aK_showing aK_showingRight aK_barring aS aS_cells aS_fits aS_fitsInLine aS_stale aS_staleCells aS_seen aS_queue K_warm K_count K_seeds K_blocks K_rivals K_kinds S_pieces S_grown S_fitsInAll S_staleCount S_atLeast1 S_atLeast2 S_atLeast3 S_cells S_stale S_staleCells)) [] [0, 1, 2, 3, 4, 5] (ads := []) (wr := [(aK, .inr (1, [.int K_warm, .int K_count, .ref aK_strengths, .ref aK_kinds, .ref aK_marks, .ref aK_faces, .ref aK_bars, .ref aK_showing, .ref aK_showingRight, .ref aK_barring, .long K_seeds, .long K_blocks, .long K_rivals])), (aK_kinds, .inl (cI, 40, .inl K_kinds)), (aS, .inr (4, [.ref aK, .ref aS_cells, .int S_pieces, .int S_grown, .ref aS_fits, .ref aS_fitsInLine, .int S_fitsInAll, .ref aS_stale, .ref aS_staleCells, .int S_staleCount, .long S_atLeast1, .long S_atLeast2, .long S_atLeast3, .ref aS_seen, .ref aS_queue])), (aS_cells, .inl (cI, 324, .inl S_cells)), (aS_stale, .inl (cZ, 324, .inl S_stale)), (aS_staleCells, .inl (cI, 256, .inl S_staleCells))]) rfl rfl (fun u => rfl) (fun u => rfl) rfl (fun u => rfl) rfl (fun u => rfl) rfl hP hD hS hA (fun r6 u H locs hw hP hD hS => ?_)
  refine lv_istore_n (lv' := [(2, .int r6), (0, .ref aS), (1, .int p1)]) hx hb dX4_lift_9 rfl hl (by decide) rfl (fun ls hl => ?_)
  refine lv_iload_n hx hb dX4_lift_10 rfl (lv_at hl 0 rfl) ?_
  refine lv_iconst (v := (-1 : Int32)) hx hb dX4_lift_11 kI_m1 ?_
  refine lv_icmp_ne (tgt := 16) hx hb dX4_lift_12 (by decide) (fun c12 => ?_) (fun c12 => ?_)
  · have hw := hw.1 c12
    refine lv_aload_n hx hb dX4_lift_16 rfl (lv_at hl 1 rfl) ?_
    refine va_get (D := D) (ci := 4) (v := .ref aS_cells) (C := RX4) (T := TX4) (N := 15) hx hb hts in_X4_lift_X4 hown hK hP 2 rfl rfl 1 (by decide) k_4 (fun _ h9 => h9) rfl dX4_lift_17 ?_
    refine lv_iload_n hx hb dX4_lift_20 rfl (lv_at hl 2 rfl) ?_
    refine lv_iconst (v := (0 : Int32)) hx hb dX4_lift_21 kI_0 ?_
    have h22 := hw.1
    have hw := hw.2
    refine va_iast hx hb hK hP hD hS 3 0 rfl rfl h22 dX4_lift_22 (fun H locs hP hD hS => ?_)
    have hP : va_P D vwCl (w_X4_lift cI cJ cZ cO aK aK_strengths aK_kinds aK_marks aK_faces aK_bars aK_showing aK_showingRight aK_barring aS aS_cells aS_fits aS_fitsInLine aS_stale aS_staleCells aS_seen aS_queue K_warm K_count K_seeds K_blocks K_rivals K_kinds S_pieces S_grown S_fitsInAll S_staleCount S_atLeast1 S_atLeast2 S_atLeast3 (upd S_cells p1.toNatClampNeg (0 : Int32)) S_stale S_staleCells) H := hP
    have hD : va_D A (w_X4_lift cI cJ cZ cO aK aK_strengths aK_kinds aK_marks aK_faces aK_bars aK_showing aK_showingRight aK_barring aS aS_cells aS_fits aS_fitsInLine aS_stale aS_staleCells aS_seen aS_queue K_warm K_count K_seeds K_blocks K_rivals K_kinds S_pieces S_grown S_fitsInAll S_staleCount S_atLeast1 S_atLeast2 S_atLeast3 (upd S_cells p1.toNatClampNeg (0 : Int32)) S_stale S_staleCells) := hD
    obtain ⟨S_cells_22, e22⟩ : ∃ y : Nat → Int32, y = upd S_cells p1.toNatClampNeg (0 : Int32) := ⟨_, rfl⟩
    rw [← e22] at hP hD
    have hw := hw S_cells_22 e22
    refine lv_aload_n hx hb dX4_lift_23 rfl (lv_at hl 1 rfl) ?_
    refine lv_iload_n hx hb dX4_lift_24 rfl (lv_at hl 2 rfl) ?_
    refine cx_gov (va_runV (As := [.int p1]) (rest := []) ⟨hx, hb, hml, hown, hts⟩ (c_X4_touch l D cI cJ cZ cO tS tT H.size aS aK aS_cells aS_fits aS_fitsInLine aS_stale aS_staleCells aS_seen aS_queue S_pieces S_grown S_fitsInAll S_staleCount S_atLeast1 S_atLeast2 S_atLeast3 S_stale S_staleCells p1 _ hw) (cwV 1 hts gX4_lift_X4_touch rfl rfl rfl pv_X4_touch ⟨Nat.le_of_ble_eq_true rfl, Nat.le_of_ble_eq_true rfl⟩) (cx_preV (wc := w_X4_touch cI cJ cZ cO aS aK aS_cells aS_fits aS_fitsInLine aS_stale aS_staleCells aS_seen aS_queue S_pieces S_grown S_fitsInAll S_staleCount S_atLeast1 S_atLeast2 S_atLeast3 S_stale S_staleCells) hE hK hP hD hS hA [2, 4, 5] rfl rfl (va_recv hK hP (ci := 4) (q0 := 2) rfl rfl)) rfl rfl hl.1 rfl (lv_room (Nat.le_of_ble_eq_true rfl)) dX4_lift_25 ⟨Nat.le_of_ble_eq_true rfl, Nat.le_of_ble_eq_true rfl⟩) (fun (u : (Nat → Int32) × (Nat → Int32) × (Int32)) => (w_X4_lift cI cJ cZ cO aK aK_strengths aK_kinds aK_marks aK_faces aK_bars aK_showing aK_showingRight aK_barring aS aS_cells aS_fits aS_fitsInLine aS_stale aS_staleCells aS_seen aS_queue K_warm K_count K_seeds K_blocks K_rivals K_kinds S_pieces S_grown S_fitsInAll u.2.2 S_atLeast1 S_atLeast2 S_atLeast3 S_cells_22 u.1 u.2.1)) [2, 4, 5] [0, 1, 3] (ads := [aS, aS_stale, aS_staleCells]) (wr := [(aK, .inr (1, [.int K_warm, .int K_count, .ref aK_strengths, .ref aK_kinds, .ref aK_marks, .ref aK_faces, .ref aK_bars, .ref aK_showing, .ref aK_showingRight, .ref aK_barring, .long K_seeds, .long K_blocks, .long K_rivals])), (aK_kinds, .inl (cI, 40, .inl K_kinds)), (aS_cells, .inl (cI, 324, .inl S_cells_22))]) rfl rfl (fun u => rfl) (fun u => rfl) rfl (fun u => rfl) rfl (fun u => rfl) rfl hP hD hS hA (fun u H locs hw hP hD hS => ?_)
    obtain ⟨S_stale_25, S_staleCells_25, S_staleCount_25⟩ := u
    try dsimp only at hw
    have hP : va_P D vwCl (w_X4_lift cI cJ cZ cO aK aK_strengths aK_kinds aK_marks aK_faces aK_bars aK_showing aK_showingRight aK_barring aS aS_cells aS_fits aS_fitsInLine aS_stale aS_staleCells aS_seen aS_queue K_warm K_count K_seeds K_blocks K_rivals K_kinds S_pieces S_grown S_fitsInAll S_staleCount_25 S_atLeast1 S_atLeast2 S_atLeast3 S_cells_22 S_stale_25 S_staleCells_25) H := hP
    have hD : va_D A (w_X4_lift cI cJ cZ cO aK aK_strengths aK_kinds aK_marks aK_faces aK_bars aK_showing aK_showingRight aK_barring aS aS_cells aS_fits aS_fitsInLine aS_stale aS_staleCells aS_seen aS_queue K_warm K_count K_seeds K_blocks K_rivals K_kinds S_pieces S_grown S_fitsInAll S_staleCount_25 S_atLeast1 S_atLeast2 S_atLeast3 S_cells_22 S_stale_25 S_staleCells_25) := hD
    refine lv_aload_n hx hb dX4_lift_28 rfl (lv_at hl 1 rfl) ?_
    refine va_get (D := D) (ci := 4) (v := .ref aK) (C := RX4) (T := TX4) (N := 15) hx hb hts in_X4_lift_X4 hown hK hP 2 rfl rfl 0 (by decide) k_2 (fun _ h9 => h9) rfl dX4_lift_29 ?_
    refine va_get (D := D) (ci := 1) (v := .ref aK_kinds) (C := RX1) (T := TX1) (N := 13) hx hb hts in_X4_lift_X1 hown hK hP 0 rfl rfl 3 (by decide) k_3 (fun _ h9 => h9) rfl dX4_lift_32 ?_
    refine lv_iload_n hx hb dX4_lift_35 rfl (lv_at hl 0 rfl) ?_
    have h36 := hw.1
    have hw := hw.2
    refine va_iald hx hb hK hP 1 0 rfl rfl h36 dX4_lift_36 ?_
    refine lv_topi (fun v36 e36 => ?_)
    have hw := hw v36 e36
    refine lv_iconst (v := (2 : Int32)) hx hb dX4_lift_37 kI_2 ?_
    refine lv_icmp_ne (tgt := 57) hx hb dX4_lift_38 (by decide) (fun c38 => ?_) (fun c38 => ?_)
    · have hw := hw.1 c38
      exact b_57 S_cells_22 S_pieces S_grown S_stale_25 S_staleCells_25 S_staleCount_25 r6 hw H locs hP hD hS ls (lv_sub hl [1, 0] rfl)
    · have hw := hw.2 c38
      refine lv_aload_n hx hb dX4_lift_41 rfl (lv_at hl 1 rfl) ?_
      refine va_get (D := D) (ci := 4) (v := .ref aS_cells) (C := RX4) (T := TX4) (N := 15) hx hb hts in_X4_lift_X4 hown hK hP 2 rfl rfl 1 (by decide) k_4 (fun _ h9 => h9) rfl dX4_lift_42 ?_
      refine lv_iload_n hx hb dX4_lift_45 rfl (lv_at hl 2 rfl) ?_
      refine lv_iconst (v := (1 : Int32)) hx hb dX4_lift_46 kI_1 ?_
      refine lv_iadd hx hb dX4_lift_47 ?_
      refine lv_iconst (v := (0 : Int32)) hx hb dX4_lift_48 kI_0 ?_
      have h49 := hw.1
      have hw := hw.2
      refine va_iast hx hb hK hP hD hS 3 0 rfl rfl h49 dX4_lift_49 (fun H locs hP hD hS => ?_)
      have hP : va_P D vwCl (w_X4_lift cI cJ cZ cO aK aK_strengths aK_kinds aK_marks aK_faces aK_bars aK_showing aK_showingRight aK_barring aS aS_cells aS_fits aS_fitsInLine aS_stale aS_staleCells aS_seen aS_queue K_warm K_count K_seeds K_blocks K_rivals K_kinds S_pieces S_grown S_fitsInAll S_staleCount_25 S_atLeast1 S_atLeast2 S_atLeast3 (upd S_cells_22 (p1 + (1 : Int32)).toNatClampNeg (0 : Int32)) S_stale_25 S_staleCells_25) H := hP
      have hD : va_D A (w_X4_lift cI cJ cZ cO aK aK_strengths aK_kinds aK_marks aK_faces aK_bars aK_showing aK_showingRight aK_barring aS aS_cells aS_fits aS_fitsInLine aS_stale aS_staleCells aS_seen aS_queue K_warm K_count K_seeds K_blocks K_rivals K_kinds S_pieces S_grown S_fitsInAll S_staleCount_25 S_atLeast1 S_atLeast2 S_atLeast3 (upd S_cells_22 (p1 + (1 : Int32)).toNatClampNeg (0 : Int32)) S_stale_25 S_staleCells_25) := hD
      obtain ⟨S_cells_49, e49⟩ : ∃ y : Nat → Int32, y = upd S_cells_22 (p1 + (1 : Int32)).toNatClampNeg (0 : Int32) := ⟨_, rfl⟩
      rw [← e49] at hP hD
      have hw := hw S_cells_49 e49
      refine lv_aload_n hx hb dX4_lift_50 rfl (lv_at hl 1 rfl) ?_
      refine lv_iload_n hx hb dX4_lift_51 rfl (lv_at hl 2 rfl) ?_
      refine lv_iconst (v := (1 : Int32)) hx hb dX4_lift_52 kI_1 ?_
      refine lv_iadd hx hb dX4_lift_53 ?_
      refine cx_gov (va_runV (As := [.int (p1 + (1 : Int32))]) (rest := []) ⟨hx, hb, hml, hown, hts⟩ (c_X4_touch l D cI cJ cZ cO tS tT H.size aS aK aS_cells aS_fits aS_fitsInLine aS_stale aS_staleCells aS_seen aS_queue S_pieces S_grown S_fitsInAll S_staleCount_25 S_atLeast1 S_atLeast2 S_atLeast3 S_stale_25 S_staleCells_25 (p1 + (1 : Int32)) _ hw) (cwV 1 hts gX4_lift_X4_touch rfl rfl rfl pv_X4_touch ⟨Nat.le_of_ble_eq_true rfl, Nat.le_of_ble_eq_true rfl⟩) (cx_preV (wc := w_X4_touch cI cJ cZ cO aS aK aS_cells aS_fits aS_fitsInLine aS_stale aS_staleCells aS_seen aS_queue S_pieces S_grown S_fitsInAll S_staleCount_25 S_atLeast1 S_atLeast2 S_atLeast3 S_stale_25 S_staleCells_25) hE hK hP hD hS hA [2, 4, 5] rfl rfl (va_recv hK hP (ci := 4) (q0 := 2) rfl rfl)) rfl rfl hl.1 rfl (lv_room (Nat.le_of_ble_eq_true rfl)) dX4_lift_54 ⟨Nat.le_of_ble_eq_true rfl, Nat.le_of_ble_eq_true rfl⟩) (fun (u : (Nat → Int32) × (Nat → Int32) × (Int32)) => (w_X4_lift cI cJ cZ cO aK aK_strengths aK_kinds aK_marks aK_faces aK_bars aK_showing aK_showingRight aK_barring aS aS_cells aS_fits aS_fitsInLine aS_stale aS_staleCells aS_seen aS_queue K_warm K_count K_seeds K_blocks K_rivals K_kinds S_pieces S_grown S_fitsInAll u.2.2 S_atLeast1 S_atLeast2 S_atLeast3 S_cells_49 u.1 u.2.1)) [2, 4, 5] [0, 1, 3] (ads := [aS, aS_stale, aS_staleCells]) (wr := [(aK, .inr (1, [.int K_warm, .int K_count, .ref aK_strengths, .ref aK_kinds, .ref aK_marks, .ref aK_faces, .ref aK_bars, .ref aK_showing, .ref aK_showingRight, .ref aK_barring, .long K_seeds, .long K_blocks, .long K_rivals])), (aK_kinds, .inl (cI, 40, .inl K_kinds)), (aS_cells, .inl (cI, 324, .inl S_cells_49))]) rfl rfl (fun u => rfl) (fun u => rfl) rfl (fun u => rfl) rfl (fun u => rfl) rfl hP hD hS hA (fun u H locs hw hP hD hS => ?_)
      obtain ⟨S_stale_54, S_staleCells_54, S_staleCount_54⟩ := u
      try dsimp only at hw
      have hP : va_P D vwCl (w_X4_lift cI cJ cZ cO aK aK_strengths aK_kinds aK_marks aK_faces aK_bars aK_showing aK_showingRight aK_barring aS aS_cells aS_fits aS_fitsInLine aS_stale aS_staleCells aS_seen aS_queue K_warm K_count K_seeds K_blocks K_rivals K_kinds S_pieces S_grown S_fitsInAll S_staleCount_54 S_atLeast1 S_atLeast2 S_atLeast3 S_cells_49 S_stale_54 S_staleCells_54) H := hP
      have hD : va_D A (w_X4_lift cI cJ cZ cO aK aK_strengths aK_kinds aK_marks aK_faces aK_bars aK_showing aK_showingRight aK_barring aS aS_cells aS_fits aS_fitsInLine aS_stale aS_staleCells aS_seen aS_queue K_warm K_count K_seeds K_blocks K_rivals K_kinds S_pieces S_grown S_fitsInAll S_staleCount_54 S_atLeast1 S_atLeast2 S_atLeast3 S_cells_49 S_stale_54 S_staleCells_54) := hD
      exact b_57 S_cells_49 S_pieces S_grown S_stale_54 S_staleCells_54 S_staleCount_54 r6 hw H locs hP hD hS ls (lv_sub hl [1, 0] rfl)
  · have hw := hw.2 c12
    rw [hZ]
    exact cx_retv (S_cells, S_pieces, S_grown, S_stale, S_staleCells, S_staleCount) hx hb hr hlocks hw hP hS dX4_lift_15
set_option maxRecDepth 100000 in
set_option maxHeartbeats 4000000 in
theorem c_X4_putDown (l : Launch) (D : va_G) (cI cJ cZ cO : ClassId) (tS tT : Nat) (sz : Nat) (aK aK_strengths aK_kinds aK_marks aK_faces aK_bars aK_showing aK_showingRight aK_barring aS aS_cells aS_fits aS_fitsInLine aS_stale aS_staleCells aS_seen aS_queue : Nat) (K_warm : Int32) (K_count : Int32) (K_seeds : Int64) (K_blocks : Int64) (K_rivals : Int64) (K_kinds : Nat → Int32) (S_pieces : Int32) (S_grown : Int32) (S_fitsInAll : Int32) (S_staleCount : Int32) (S_atLeast1 : Int64) (S_atLeast2 : Int64) (S_atLeast3 : Int64) (S_cells : Nat → Int32) (S_stale : Nat → Int32) (S_staleCells : Nat → Int32) (p1 : Int32) (p2 : Int32) (Q : (Nat → Int32) → (Int32) → (Int32) → (Nat → Int32) → (Nat → Int32) → (Int32) → Prop) (hw : wp_X4_putDown K_kinds S_cells S_pieces S_grown S_stale S_staleCells S_staleCount p1 p2 Q) : Met l yX4_putDown wsX4_putDown rm_X4_putDown (va_Pc [.ref aS, .int p1, .int p2] (cx_B tS tT cI cJ cZ cO D sz (w_X4_putDown cI cJ cZ cO aK aK_strengths aK_kinds aK_marks aK_faces aK_bars aK_showing aK_showingRight aK_barring aS aS_cells aS_fits aS_fitsInLine aS_stale aS_staleCells aS_seen aS_queue K_warm K_count K_seeds K_blocks K_rivals K_kinds S_pieces S_grown S_fitsInAll S_staleCount S_atLeast1 S_atLeast2 S_atLeast3 S_cells S_stale S_staleCells))) (va_Qv (fun (u : (Nat → Int32) × (Int32) × (Int32) × (Nat → Int32) × (Nat → Int32) × (Int32)) => Q u.1 u.2.1 u.2.2.1 u.2.2.2.1 u.2.2.2.2.1 u.2.2.2.2.2) (fun (u : (Nat → Int32) × (Int32) × (Int32) × (Nat → Int32) × (Nat → Int32) × (Int32)) t => va_P D vwCl (w_X4_putDown cI cJ cZ cO aK aK_strengths aK_kinds aK_marks aK_faces aK_bars aK_showing aK_showingRight aK_barring aS aS_cells aS_fits aS_fitsInLine aS_stale aS_staleCells aS_seen aS_queue K_warm K_count K_seeds K_blocks K_rivals K_kinds u.2.1 u.2.2.1 S_fitsInAll u.2.2.2.2.2 S_atLeast1 S_atLeast2 S_atLeast3 u.1 u.2.2.2.1 u.2.2.2.2.1) t.heap) (va_A (w_X4_putDown cI cJ cZ cO aK aK_strengths aK_kinds aK_marks aK_faces aK_bars aK_showing aK_showingRight aK_barring aS aS_cells aS_fits aS_fitsInLine aS_stale aS_staleCells aS_seen aS_queue K_warm K_count K_seeds K_blocks K_rivals K_kinds S_pieces S_grown S_fitsInAll S_staleCount S_atLeast1 S_atLeast2 S_atLeast3 S_cells S_stale S_staleCells) sz)) 0 0 (va_A (w_X4_putDown cI cJ cZ cO aK aK_strengths aK_kinds aK_marks aK_faces aK_bars aK_showing aK_showingRight aK_barring aS aS_cells aS_fits aS_fitsInLine aS_stale aS_staleCells aS_seen aS_queue K_warm K_count K_seeds K_blocks K_rivals K_kinds S_pieces S_grown S_fitsInAll S_staleCount S_atLeast1 S_atLeast2 S_atLeast3 S_cells S_stale S_staleCells) sz) := by
  refine cx_met (cc := cX4_putDown) (maxL := 3) (ret := none) (Qc := fun A => va_Qv (fun (u : (Nat → Int32) × (Int32) × (Int32) × (Nat → Int32) × (Nat → Int32) × (Int32)) => Q u.1 u.2.1 u.2.2.1 u.2.2.2.1 u.2.2.2.2.1 u.2.2.2.2.2) (fun (u : (Nat → Int32) × (Int32) × (Int32) × (Nat → Int32) × (Nat → Int32) × (Int32)) t => va_P D vwCl (w_X4_putDown cI cJ cZ cO aK aK_strengths aK_kinds aK_marks aK_faces aK_bars aK_showing aK_showingRight aK_barring aS aS_cells aS_fits aS_fitsInLine aS_stale aS_staleCells aS_seen aS_queue K_warm K_count K_seeds K_blocks K_rivals K_kinds u.2.1 u.2.2.1 S_fitsInAll u.2.2.2.2.2 S_atLeast1 S_atLeast2 S_atLeast3 u.1 u.2.2.2.1 u.2.2.2.2.1) t.heap) A) (lv := [(0, .ref aS), (1, .int p1), (2, .int p2)]) (by decide) rfl (Nat.le_of_ble_eq_true rfl) rfl ?_
  intro p e s m args below meth c A Z hx hb hr hlocks hts hown hml hE hK hA hZ
  have hown : s.vm.findClass RX4 = some m.cls := hown
  have k_0 := hts (.fieldLink RX4 23 "GrowingTiles$Sheet" "grown" "I") (List.mem_of_getElem? (i := 5) (by decide +kernel))
  have k_1 := hts (.fieldLink RX4 19 "GrowingTiles$Sheet" "pieces" "I") (List.mem_of_getElem? (i := 4) (by decide +kernel))
  have k_2 := hts (.fieldLink RX4 9 "GrowingTiles$Sheet" "kit" "LGrowingTiles$Kit;") (List.mem_of_getElem? (i := 2) (by decide +kernel))
  have k_3 := hts (.fieldLink RX4 52 "GrowingTiles$Kit" "kinds" "[I") (List.mem_of_getElem? (i := 3) (by decide +kernel))
  have k_4 := hts (.fieldLink RX4 15 "GrowingTiles$Sheet" "cells" "[I") (List.mem_of_getElem? (i := 1) (by decide +kernel))
  have b_81 : ∀ (S_cells : Nat → Int32) (S_pieces : Int32) (S_grown : Int32) (S_stale : Nat → Int32) (S_staleCells : Nat → Int32) (S_staleCount : Int32) (y1 : Int32) (y2 : Int32), wq_X4_putDown_81 K_kinds Q S_cells S_pieces S_grown S_stale S_staleCells S_staleCount y1 y2 → ∀ (H : Heap) (locs : List Loc), va_P D vwCl (w_X4_putDown cI cJ cZ cO aK aK_strengths aK_kinds aK_marks aK_faces aK_bars aK_showing aK_showingRight aK_barring aS aS_cells aS_fits aS_fitsInLine aS_stale aS_staleCells aS_seen aS_queue K_warm K_count K_seeds K_blocks K_rivals K_kinds S_pieces S_grown S_fitsInAll S_staleCount S_atLeast1 S_atLeast2 S_atLeast3 S_cells S_stale S_staleCells) H → va_D A (w_X4_putDown cI cJ cZ cO aK aK_strengths aK_kinds aK_marks aK_faces aK_bars aK_showing aK_showingRight aK_barring aS aS_cells aS_fits aS_fitsInLine aS_stale aS_staleCells aS_seen aS_queue K_warm K_count K_seeds K_blocks K_rivals K_kinds S_pieces S_grown S_fitsInAll S_staleCount S_atLeast1 S_atLeast2 S_atLeast3 S_cells S_stale S_staleCells) → va_S A s.heap H locs → ∀ ls : Array Slot, lv_has ls 3 [] → W p l e rm_X4_putDown s m args below meth c H locs 0 0 Z (F0 m 81 ls [.int y2, .int y1, .ref aS]) := by
    intro S_cells S_pieces S_grown S_stale S_staleCells S_staleCount y1 y2 hw H locs hP hD hS ls hl
    unfold wq_X4_putDown_81 at hw
    refine lv_iadd hx hb dX4_putDown_81 ?_
    refine lv_topi (fun S_grown_82 e82 => ?_)
    have hw := hw S_grown_82 e82
    refine va_put (D := D) (ci := 4) (v := .int S_grown_82) (ty := .int) (C := RX4) (T := TX4) (N := 15) hx hb hts in_X4_putDown_X4 tyX4 tyX4_ok nmX4 hown hK hP hD hS 2 rfl rfl 3 (by decide) k_0 (fun _ h9 => h9) rfl (tyX4_ok 3 (by decide)) rfl rfl (Nat.le_of_ble_eq_true rfl) dX4_putDown_82 (fun H locs hP hD hS => ?_)
    have hP : va_P D vwCl (w_X4_putDown cI cJ cZ cO aK aK_strengths aK_kinds aK_marks aK_faces aK_bars aK_showing aK_showingRight aK_barring aS aS_cells aS_fits aS_fitsInLine aS_stale aS_staleCells aS_seen aS_queue K_warm K_count K_seeds K_blocks K_rivals K_kinds S_pieces S_grown_82 S_fitsInAll S_staleCount S_atLeast1 S_atLeast2 S_atLeast3 S_cells S_stale S_staleCells) H := hP
    have hD : va_D A (w_X4_putDown cI cJ cZ cO aK aK_strengths aK_kinds aK_marks aK_faces aK_bars aK_showing aK_showingRight aK_barring aS aS_cells aS_fits aS_fitsInLine aS_stale aS_staleCells aS_seen aS_queue K_warm K_count K_seeds K_blocks K_rivals K_kinds S_pieces S_grown_82 S_fitsInAll S_staleCount S_atLeast1 S_atLeast2 S_atLeast3 S_cells S_stale S_staleCells) := hD
    rw [hZ]
    exact cx_retv (S_cells, S_pieces, S_grown_82, S_stale, S_staleCells, S_staleCount) hx hb hr hlocks hw hP hS dX4_putDown_85
  have b_48 : ∀ (S_cells : Nat → Int32) (S_pieces : Int32) (S_grown : Int32) (S_stale : Nat → Int32) (S_staleCells : Nat → Int32) (S_staleCount : Int32) (x1 : Int32), wq_X4_putDown_48 K_kinds Q S_cells S_pieces S_grown S_stale S_staleCells S_staleCount x1 → ∀ (H : Heap) (locs : List Loc), va_P D vwCl (w_X4_putDown cI cJ cZ cO aK aK_strengths aK_kinds aK_marks aK_faces aK_bars aK_showing aK_showingRight aK_barring aS aS_cells aS_fits aS_fitsInLine aS_stale aS_staleCells aS_seen aS_queue K_warm K_count K_seeds K_blocks K_rivals K_kinds S_pieces S_grown S_fitsInAll S_staleCount S_atLeast1 S_atLeast2 S_atLeast3 S_cells S_stale S_staleCells) H → va_D A (w_X4_putDown cI cJ cZ cO aK aK_strengths aK_kinds aK_marks aK_faces aK_bars aK_showing aK_showingRight aK_barring aS aS_cells aS_fits aS_fitsInLine aS_stale aS_staleCells aS_seen aS_queue K_warm K_count K_seeds K_blocks K_rivals K_kinds S_pieces S_grown S_fitsInAll S_staleCount S_atLeast1 S_atLeast2 S_atLeast3 S_cells S_stale S_staleCells) → va_S A s.heap H locs → ∀ ls : Array Slot, lv_has ls 3 [(0, .ref aS), (1, .int x1)] → W p l e rm_X4_putDown s m args below meth c H locs 0 0 Z (F0 m 48 ls []) := by
    intro S_cells S_pieces S_grown S_stale S_staleCells S_staleCount x1 hw H locs hP hD hS ls hl
    unfold wq_X4_putDown_48 at hw
    refine lv_aload_n hx hb dX4_putDown_48 rfl (lv_at hl 0 rfl) ?_
    refine lv_dup hx hb dX4_putDown_49 rfl ?_
    refine va_get (D := D) (ci := 4) (v := .int S_pieces) (C := RX4) (T := TX4) (N := 15) hx hb hts in_X4_putDown_X4 hown hK hP 2 rfl rfl 2 (by decide) k_1 (fun _ h9 => h9) rfl dX4_putDown_50 ?_
    refine lv_iconst (v := (1 : Int32)) hx hb dX4_putDown_53 kI_1 ?_
    refine lv_iadd hx hb dX4_putDown_54 ?_
    refine lv_topi (fun S_pieces_55 e55 => ?_)
    have hw := hw S_pieces_55 e55
    refine va_put (D := D) (ci := 4) (v := .int S_pieces_55) (ty := .int) (C := RX4) (T := TX4) (N := 15) hx hb hts in_X4_putDown_X4 tyX4 tyX4_ok nmX4 hown hK hP hD hS 2 rfl rfl 2 (by decide) k_1 (fun _ h9 => h9) rfl (tyX4_ok 2 (by decide)) rfl rfl (Nat.le_of_ble_eq_true rfl) dX4_putDown_55 (fun H locs hP hD hS => ?_)
    have hP : va_P D vwCl (w_X4_putDown cI cJ cZ cO aK aK_strengths aK_kinds aK_marks aK_faces aK_bars aK_showing aK_showingRight aK_barring aS aS_cells aS_fits aS_fitsInLine aS_stale aS_staleCells aS_seen aS_queue K_warm K_count K_seeds K_blocks K_rivals K_kinds S_pieces_55 S_grown S_fitsInAll S_staleCount S_atLeast1 S_atLeast2 S_atLeast3 S_cells S_stale S_staleCells) H := hP
    have hD : va_D A (w_X4_putDown cI cJ cZ cO aK aK_strengths aK_kinds aK_marks aK_faces aK_bars aK_showing aK_showingRight aK_barring aS aS_cells aS_fits aS_fitsInLine aS_stale aS_staleCells aS_seen aS_queue K_warm K_count K_seeds K_blocks K_rivals K_kinds S_pieces_55 S_grown S_fitsInAll S_staleCount S_atLeast1 S_atLeast2 S_atLeast3 S_cells S_stale S_staleCells) := hD
    refine lv_aload_n hx hb dX4_putDown_58 rfl (lv_at hl 0 rfl) ?_
    refine lv_dup hx hb dX4_putDown_59 rfl ?_
    refine va_get (D := D) (ci := 4) (v := .int S_grown) (C := RX4) (T := TX4) (N := 15) hx hb hts in_X4_putDown_X4 hown hK hP 2 rfl rfl 3 (by decide) k_0 (fun _ h9 => h9) rfl dX4_putDown_60 ?_
    refine lv_aload_n hx hb dX4_putDown_63 rfl (lv_at hl 0 rfl) ?_
    refine va_get (D := D) (ci := 4) (v := .ref aK) (C := RX4) (T := TX4) (N := 15) hx hb hts in_X4_putDown_X4 hown hK hP 2 rfl rfl 0 (by decide) k_2 (fun _ h9 => h9) rfl dX4_putDown_64 ?_
    refine va_get (D := D) (ci := 1) (v := .ref aK_kinds) (C := RX1) (T := TX1) (N := 13) hx hb hts in_X4_putDown_X1 hown hK hP 0 rfl rfl 3 (by decide) k_3 (fun _ h9 => h9) rfl dX4_putDown_67 ?_
    refine lv_iload_n hx hb dX4_putDown_70 rfl (lv_at hl 1 rfl) ?_
    have h71 := hw.1
    have hw := hw.2
    refine va_iald hx hb hK hP 1 0 rfl rfl h71 dX4_putDown_71 ?_
    refine lv_topi (fun v71 e71 => ?_)
    have hw := hw v71 e71
    refine lv_iconst (v := (1 : Int32)) hx hb dX4_putDown_72 kI_1 ?_
    refine lv_icmp_ne (tgt := 80) hx hb dX4_putDown_73 (by decide) (fun c73 => ?_) (fun c73 => ?_)
    · have hw := hw.1 c73
      refine lv_iconst (v := (1 : Int32)) hx hb dX4_putDown_80 kI_1 ?_
      exact b_81 S_cells S_pieces_55 S_grown S_stale S_staleCells S_staleCount S_grown (1 : Int32) hw H locs hP hD hS ls (lv_sub hl [] rfl)
    · have hw := hw.2 c73
      refine lv_iconst (v := (0 : Int32)) hx hb dX4_putDown_76 kI_0 ?_
      refine lv_goto (tgt := 81) hx hb dX4_putDown_77 (by decide) ?_
      exact b_81 S_cells S_pieces_55 S_grown S_stale S_staleCells S_staleCount S_grown (0 : Int32) hw H locs hP hD hS ls (lv_sub hl [] rfl)
  intro H locs hP hD hS ls hl
  unfold wp_X4_putDown at hw
  refine lv_aload_n hx hb dX4_putDown_0 rfl (lv_at hl 0 rfl) ?_
  refine va_get (D := D) (ci := 4) (v := .ref aS_cells) (C := RX4) (T := TX4) (N := 15) hx hb hts in_X4_putDown_X4 hown hK hP 2 rfl rfl 1 (by decide) k_4 (fun _ h9 => h9) rfl dX4_putDown_1 ?_
  refine lv_iload_n hx hb dX4_putDown_4 rfl (lv_at hl 2 rfl) ?_
  refine lv_iconst (v := (1 : Int32)) hx hb dX4_putDown_5 kI_1 ?_
  refine lv_iload_n hx hb dX4_putDown_6 rfl (lv_at hl 1 rfl) ?_
  refine lv_iadd hx hb dX4_putDown_7 ?_
  have h8 := hw.1
  have hw := hw.2
  refine va_iast hx hb hK hP hD hS 3 0 rfl rfl h8 dX4_putDown_8 (fun H locs hP hD hS => ?_)
  have hP : va_P D vwCl (w_X4_putDown cI cJ cZ cO aK aK_strengths aK_kinds aK_marks aK_faces aK_bars aK_showing aK_showingRight aK_barring aS aS_cells aS_fits aS_fitsInLine aS_stale aS_staleCells aS_seen aS_queue K_warm K_count K_seeds K_blocks K_rivals K_kinds S_pieces S_grown S_fitsInAll S_staleCount S_atLeast1 S_atLeast2 S_atLeast3 (upd S_cells p2.toNatClampNeg ((1 : Int32) + p1)) S_stale S_staleCells) H := hP
  have hD : va_D A (w_X4_putDown cI cJ cZ cO aK aK_strengths aK_kinds aK_marks aK_faces aK_bars aK_showing aK_showingRight aK_barring aS aS_cells aS_fits aS_fitsInLine aS_stale aS_staleCells aS_seen aS_queue K_warm K_count K_seeds K_blocks K_rivals K_kinds S_pieces S_grown S_fitsInAll S_staleCount S_atLeast1 S_atLeast2 S_atLeast3 (upd S_cells p2.toNatClampNeg ((1 : Int32) + p1)) S_stale S_staleCells) := hD
  obtain ⟨S_cells_8, e8⟩ : ∃ y : Nat → Int32, y = upd S_cells p2.toNatClampNeg ((1 : Int32) + p1) := ⟨_, rfl⟩
  rw [← e8] at hP hD
  have hw := hw S_cells_8 e8
  refine lv_aload_n hx hb dX4_putDown_9 rfl (lv_at hl 0 rfl) ?_
  refine lv_iload_n hx hb dX4_putDown_10 rfl (lv_at hl 2 rfl) ?_
  refine cx_gov (va_runV (As := [.int p2]) (rest := []) ⟨hx, hb, hml, hown, hts⟩ (c_X4_touch l D cI cJ cZ cO tS tT H.size aS aK aS_cells aS_fits aS_fitsInLine aS_stale aS_staleCells aS_seen aS_queue S_pieces S_grown S_fitsInAll S_staleCount S_atLeast1 S_atLeast2 S_atLeast3 S_stale S_staleCells p2 _ hw) (cwV 1 hts gX4_putDown_X4_touch rfl rfl rfl pv_X4_touch ⟨Nat.le_of_ble_eq_true rfl, Nat.le_of_ble_eq_true rfl⟩) (cx_preV (wc := w_X4_touch cI cJ cZ cO aS aK aS_cells aS_fits aS_fitsInLine aS_stale aS_staleCells aS_seen aS_queue S_pieces S_grown S_fitsInAll S_staleCount S_atLeast1 S_atLeast2 S_atLeast3 S_stale S_staleCells) hE hK hP hD hS hA [2, 4, 5] rfl rfl (va_recv hK hP (ci := 4) (q0 := 2) rfl rfl)) rfl rfl hl.1 rfl (lv_room (Nat.le_of_ble_eq_true rfl)) dX4_putDown_11 ⟨Nat.le_of_ble_eq_true rfl, Nat.le_of_ble_eq_true rfl⟩) (fun (u : (Nat → Int32) × (Nat → Int32) × (Int32)) => (w_X4_putDown cI cJ cZ cO aK aK_strengths aK_kinds aK_marks aK_faces aK_bars aK_showing aK_showingRight aK_barring aS aS_cells aS_fits aS_fitsInLine aS_stale aS_staleCells aS_seen aS_queue K_warm K_count K_seeds K_blocks K_rivals K_kinds S_pieces S_grown S_fitsInAll u.2.2 S_atLeast1 S_atLeast2 S_atLeast3 S_cells_8 u.1 u.2.1)) [2, 4, 5] [0, 1, 3] (ads := [aS, aS_stale, aS_staleCells]) (wr := [(aK, .inr (1, [.int K_warm, .int K_count, .ref aK_strengths, .ref aK_kinds, .ref aK_marks, .ref aK_faces, .ref aK_bars, .ref aK_showing, .ref aK_showingRight, .ref aK_barring, .long K_seeds, .long K_blocks, .long K_rivals])), (aK_kinds, .inl (cI, 40, .inl K_kinds)), (aS_cells, .inl (cI, 324, .inl S_cells_8))]) rfl rfl (fun u => rfl) (fun u => rfl) rfl (fun u => rfl) rfl (fun u => rfl) rfl hP hD hS hA (fun u H locs hw hP hD hS => ?_)
  obtain ⟨S_stale_11, S_staleCells_11, S_staleCount_11⟩ := u
  try dsimp only at hw
  have hP : va_P D vwCl (w_X4_putDown cI cJ cZ cO aK aK_strengths aK_kinds aK_marks aK_faces aK_bars aK_showing aK_showingRight aK_barring aS aS_cells aS_fits aS_fitsInLine aS_stale aS_staleCells aS_seen aS_queue K_warm K_count K_seeds K_blocks K_rivals K_kinds S_pieces S_grown S_fitsInAll S_staleCount_11 S_atLeast1 S_atLeast2 S_atLeast3 S_cells_8 S_stale_11 S_staleCells_11) H := hP
  have hD : va_D A (w_X4_putDown cI cJ cZ cO aK aK_strengths aK_kinds aK_marks aK_faces aK_bars aK_showing aK_showingRight aK_barring aS aS_cells aS_fits aS_fitsInLine aS_stale aS_staleCells aS_seen aS_queue K_warm K_count K_seeds K_blocks K_rivals K_kinds S_pieces S_grown S_fitsInAll S_staleCount_11 S_atLeast1 S_atLeast2 S_atLeast3 S_cells_8 S_stale_11 S_staleCells_11) := hD
  refine lv_aload_n hx hb dX4_putDown_14 rfl (lv_at hl 0 rfl) ?_
  refine va_get (D := D) (ci := 4) (v := .ref aK) (C := RX4) (T := TX4) (N := 15) hx hb hts in_X4_putDown_X4 hown hK hP 2 rfl rfl 0 (by decide) k_2 (fun _ h9 => h9) rfl dX4_putDown_15 ?_
  refine va_get (D := D) (ci := 1) (v := .ref aK_kinds) (C := RX1) (T := TX1) (N := 13) hx hb hts in_X4_putDown_X1 hown hK hP 0 rfl rfl 3 (by decide) k_3 (fun _ h9 => h9) rfl dX4_putDown_18 ?_
  refine lv_iload_n hx hb dX4_putDown_21 rfl (lv_at hl 1 rfl) ?_
  have h22 := hw.1
  have hw := hw.2
  refine va_iald hx hb hK hP 1 0 rfl rfl h22 dX4_putDown_22 ?_
  refine lv_topi (fun v22 e22 => ?_)
  have hw := hw v22 e22
  refine lv_iconst (v := (2 : Int32)) hx hb dX4_putDown_23 kI_2 ?_
  refine lv_icmp_ne (tgt := 48) hx hb dX4_putDown_24 (by decide) (fun c24 => ?_) (fun c24 => ?_)
  · have hw := hw.1 c24
    exact b_48 S_cells_8 S_pieces S_grown S_stale_11 S_staleCells_11 S_staleCount_11 p1 hw H locs hP hD hS ls (lv_sub hl [0, 1] rfl)
  · have hw := hw.2 c24
    refine lv_aload_n hx hb dX4_putDown_27 rfl (lv_at hl 0 rfl) ?_
    refine va_get (D := D) (ci := 4) (v := .ref aS_cells) (C := RX4) (T := TX4) (N := 15) hx hb hts in_X4_putDown_X4 hown hK hP 2 rfl rfl 1 (by decide) k_4 (fun _ h9 => h9) rfl dX4_putDown_28 ?_
    refine lv_iload_n hx hb dX4_putDown_31 rfl (lv_at hl 2 rfl) ?_
    refine lv_iconst (v := (1 : Int32)) hx hb dX4_putDown_32 kI_1 ?_
    refine lv_iadd hx hb dX4_putDown_33 ?_
    refine lv_iconst (v := (1 : Int32)) hx hb dX4_putDown_34 kI_1 ?_
    refine lv_iload_n hx hb dX4_putDown_35 rfl (lv_at hl 1 rfl) ?_
    refine lv_iadd hx hb dX4_putDown_36 ?_
    refine lv_bipush (v := (64 : Int32)) hx hb dX4_putDown_37 kB_64 ?_
    refine lv_iadd hx hb dX4_putDown_39 ?_
    have h40 := hw.1
    have hw := hw.2
    refine va_iast hx hb hK hP hD hS 3 0 rfl rfl h40 dX4_putDown_40 (fun H locs hP hD hS => ?_)
    have hP : va_P D vwCl (w_X4_putDown cI cJ cZ cO aK aK_strengths aK_kinds aK_marks aK_faces aK_bars aK_showing aK_showingRight aK_barring aS aS_cells aS_fits aS_fitsInLine aS_stale aS_staleCells aS_seen aS_queue K_warm K_count K_seeds K_blocks K_rivals K_kinds S_pieces S_grown S_fitsInAll S_staleCount_11 S_atLeast1 S_atLeast2 S_atLeast3 (upd S_cells_8 (p2 + (1 : Int32)).toNatClampNeg (((1 : Int32) + p1) + (64 : Int32))) S_stale_11 S_staleCells_11) H := hP
    have hD : va_D A (w_X4_putDown cI cJ cZ cO aK aK_strengths aK_kinds aK_marks aK_faces aK_bars aK_showing aK_showingRight aK_barring aS aS_cells aS_fits aS_fitsInLine aS_stale aS_staleCells aS_seen aS_queue K_warm K_count K_seeds K_blocks K_rivals K_kinds S_pieces S_grown S_fitsInAll S_staleCount_11 S_atLeast1 S_atLeast2 S_atLeast3 (upd S_cells_8 (p2 + (1 : Int32)).toNatClampNeg (((1 : Int32) + p1) + (64 : Int32))) S_stale_11 S_staleCells_11) := hD
    obtain ⟨S_cells_40, e40⟩ : ∃ y : Nat → Int32, y = upd S_cells_8 (p2 + (1 : Int32)).toNatClampNeg (((1 : Int32) + p1) + (64 : Int32)) := ⟨_, rfl⟩
    rw [← e40] at hP hD
    have hw := hw S_cells_40 e40
    refine lv_aload_n hx hb dX4_putDown_41 rfl (lv_at hl 0 rfl) ?_
    refine lv_iload_n hx hb dX4_putDown_42 rfl (lv_at hl 2 rfl) ?_
    refine lv_iconst (v := (1 : Int32)) hx hb dX4_putDown_43 kI_1 ?_
    refine lv_iadd hx hb dX4_putDown_44 ?_
    refine cx_gov (va_runV (As := [.int (p2 + (1 : Int32))]) (rest := []) ⟨hx, hb, hml, hown, hts⟩ (c_X4_touch l D cI cJ cZ cO tS tT H.size aS aK aS_cells aS_fits aS_fitsInLine aS_stale aS_staleCells aS_seen aS_queue S_pieces S_grown S_fitsInAll S_staleCount_11 S_atLeast1 S_atLeast2 S_atLeast3 S_stale_11 S_staleCells_11 (p2 + (1 : Int32)) _ hw) (cwV 1 hts gX4_putDown_X4_touch rfl rfl rfl pv_X4_touch ⟨Nat.le_of_ble_eq_true rfl, Nat.le_of_ble_eq_true rfl⟩) (cx_preV (wc := w_X4_touch cI cJ cZ cO aS aK aS_cells aS_fits aS_fitsInLine aS_stale aS_staleCells aS_seen aS_queue S_pieces S_grown S_fitsInAll S_staleCount_11 S_atLeast1 S_atLeast2 S_atLeast3 S_stale_11 S_staleCells_11) hE hK hP hD hS hA [2, 4, 5] rfl rfl (va_recv hK hP (ci := 4) (q0 := 2) rfl rfl)) rfl rfl hl.1 rfl (lv_room (Nat.le_of_ble_eq_true rfl)) dX4_putDown_45 ⟨Nat.le_of_ble_eq_true rfl, Nat.le_of_ble_eq_true rfl⟩) (fun (u : (Nat → Int32) × (Nat → Int32) × (Int32)) => (w_X4_putDown cI cJ cZ cO aK aK_strengths aK_kinds aK_marks aK_faces aK_bars aK_showing aK_showingRight aK_barring aS aS_cells aS_fits aS_fitsInLine aS_stale aS_staleCells aS_seen aS_queue K_warm K_count K_seeds K_blocks K_rivals K_kinds S_pieces S_grown S_fitsInAll u.2.2 S_atLeast1 S_atLeast2 S_atLeast3 S_cells_40 u.1 u.2.1)) [2, 4, 5] [0, 1, 3] (ads := [aS, aS_stale, aS_staleCells]) (wr := [(aK, .inr (1, [.int K_warm, .int K_count, .ref aK_strengths, .ref aK_kinds, .ref aK_marks, .ref aK_faces, .ref aK_bars, .ref aK_showing, .ref aK_showingRight, .ref aK_barring, .long K_seeds, .long K_blocks, .long K_rivals])), (aK_kinds, .inl (cI, 40, .inl K_kinds)), (aS_cells, .inl (cI, 324, .inl S_cells_40))]) rfl rfl (fun u => rfl) (fun u => rfl) rfl (fun u => rfl) rfl (fun u => rfl) rfl hP hD hS hA (fun u H locs hw hP hD hS => ?_)
    obtain ⟨S_stale_45, S_staleCells_45, S_staleCount_45⟩ := u
    try dsimp only at hw
    have hP : va_P D vwCl (w_X4_putDown cI cJ cZ cO aK aK_strengths aK_kinds aK_marks aK_faces aK_bars aK_showing aK_showingRight aK_barring aS aS_cells aS_fits aS_fitsInLine aS_stale aS_staleCells aS_seen aS_queue K_warm K_count K_seeds K_blocks K_rivals K_kinds S_pieces S_grown S_fitsInAll S_staleCount_45 S_atLeast1 S_atLeast2 S_atLeast3 S_cells_40 S_stale_45 S_staleCells_45) H := hP
    have hD : va_D A (w_X4_putDown cI cJ cZ cO aK aK_strengths aK_kinds aK_marks aK_faces aK_bars aK_showing aK_showingRight aK_barring aS aS_cells aS_fits aS_fitsInLine aS_stale aS_staleCells aS_seen aS_queue K_warm K_count K_seeds K_blocks K_rivals K_kinds S_pieces S_grown S_fitsInAll S_staleCount_45 S_atLeast1 S_atLeast2 S_atLeast3 S_cells_40 S_stale_45 S_staleCells_45) := hD
    exact b_48 S_cells_40 S_pieces S_grown S_stale_45 S_staleCells_45 S_staleCount_45 p1 hw H locs hP hD hS ls (lv_sub hl [0, 1] rfl)
