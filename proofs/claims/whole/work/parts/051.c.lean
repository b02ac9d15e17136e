set_option maxRecDepth 100000 in
set_option maxHeartbeats 4000000 in
theorem c_X7_about (l : Launch) (D : va_G) (cI cJ cZ cO : ClassId) (tS tT : Nat) (sz : Nat) (aG aK aS aT aP aR aO aG_images aK_strengths aK_kinds aK_marks aK_faces aK_bars aK_showing aK_showingRight aK_barring aS_cells aS_fits aS_fitsInLine aS_stale aS_staleCells aS_seen aS_queue aT_acts aT_pieces aT_places aT_before aT_since aP_bytes : Nat) (G_s : Int64) (K_warm : Int32) (K_count : Int32) (K_seeds : Int64) (K_blocks : Int64) (K_rivals : Int64) (S_pieces : Int32) (S_grown : Int32) (S_fitsInAll : Int32) (S_staleCount : Int32) (S_atLeast1 : Int64) (S_atLeast2 : Int64) (S_atLeast3 : Int64) (T_made : Int32) (T_kept : Int32) (T_fromClear : Int32) (P_length : Int32) (p1 : Int32) (Q : Int32 → Prop) (hw : wp_X7_about K_warm K_count S_pieces T_made T_kept P_length p1 Q) : Met l yX7_about wsX7_about rm_X7_about (va_Pc [.ref aG, .int p1] (cx_B tS tT cI cJ cZ cO D sz (w_X7_about cI cJ cZ cO aG aK aS aT aP aR aO aG_images aK_strengths aK_kinds aK_marks aK_faces aK_bars aK_showing aK_showingRight aK_barring aS_cells aS_fits aS_fitsInLine aS_stale aS_staleCells aS_seen aS_queue aT_acts aT_pieces aT_places aT_before aT_since aP_bytes G_s K_warm K_count K_seeds K_blocks K_rivals S_pieces S_grown S_fitsInAll S_staleCount S_atLeast1 S_atLeast2 S_atLeast3 T_made T_kept T_fromClear P_length))) (va_Qi (fun (r : Int32) (_ : Unit) => Q r) (fun (u : Unit) t => va_P D vwCl (w_X7_about cI cJ cZ cO aG aK aS aT aP aR aO aG_images aK_strengths aK_kinds aK_marks aK_faces aK_bars aK_showing aK_showingRight aK_barring aS_cells aS_fits aS_fitsInLine aS_stale aS_staleCells aS_seen aS_queue aT_acts aT_pieces aT_places aT_before aT_since aP_bytes G_s K_warm K_count K_seeds K_blocks K_rivals S_pieces S_grown S_fitsInAll S_staleCount S_atLeast1 S_atLeast2 S_atLeast3 T_made T_kept T_fromClear P_length) t.heap) (va_A (w_X7_about cI cJ cZ cO aG aK aS aT aP aR aO aG_images aK_strengths aK_kinds aK_marks aK_faces aK_bars aK_showing aK_showingRight aK_barring aS_cells aS_fits aS_fitsInLine aS_stale aS_staleCells aS_seen aS_queue aT_acts aT_pieces aT_places aT_before aT_since aP_bytes G_s K_warm K_count K_seeds K_blocks K_rivals S_pieces S_grown S_fitsInAll S_staleCount S_atLeast1 S_atLeast2 S_atLeast3 T_made T_kept T_fromClear P_length) sz)) 0 0 (va_A (w_X7_about cI cJ cZ cO aG aK aS aT aP aR aO aG_images aK_strengths aK_kinds aK_marks aK_faces aK_bars aK_showing aK_showingRight aK_barring aS_cells aS_fits aS_fitsInLine aS_stale aS_staleCells aS_seen aS_queue aT_acts aT_pieces aT_places aT_before aT_since aP_bytes G_s K_warm K_count K_seeds K_blocks K_rivals S_pieces S_grown S_fitsInAll S_staleCount S_atLeast1 S_atLeast2 S_atLeast3 T_made T_kept T_fromClear P_length) sz) := by
  refine cx_met (cc := cX7_about) (maxL := 2) (ret := (some .int)) (Qc := fun A => va_Qi (fun (r : Int32) (_ : Unit) => Q r) (fun (u : Unit) t => va_P D vwCl (w_X7_about cI cJ cZ cO aG aK aS aT aP aR aO aG_images aK_strengths aK_kinds aK_marks aK_faces aK_bars aK_showing aK_showingRight aK_barring aS_cells aS_fits aS_fitsInLine aS_stale aS_staleCells aS_seen aS_queue aT_acts aT_pieces aT_places aT_before aT_since aP_bytes G_s K_warm K_count K_seeds K_blocks K_rivals S_pieces S_grown S_fitsInAll S_staleCount S_atLeast1 S_atLeast2 S_atLeast3 T_made T_kept T_fromClear P_length) t.heap) A) (lv := [(0, .ref aG), (1, .int p1)]) (by decide) rfl (Nat.le_of_ble_eq_true rfl) rfl ?_
  intro p e s m args below meth c A Z hx hb hr hlocks hts hown hml hE hK hA hZ
  have hown : s.vm.findClass RX7 = some m.cls := hown
  have k_0 := hts (.fieldLink RX7 12 "GrowingTiles" "kit" "LGrowingTiles$Kit;") (List.mem_of_getElem? (i := 1) (by decide +kernel))
  have k_1 := hts (.fieldLink RX7 237 "GrowingTiles$Kit" "count" "I") (List.mem_of_getElem? (i := 2) (by decide +kernel))
  have k_2 := hts (.fieldLink RX7 21 "GrowingTiles" "sheet" "LGrowingTiles$Sheet;") (List.mem_of_getElem? (i := 3) (by decide +kernel))
  have k_3 := hts (.fieldLink RX7 68 "GrowingTiles$Sheet" "pieces" "I") (List.mem_of_getElem? (i := 4) (by decide +kernel))
  have k_4 := hts (.fieldLink RX7 98 "GrowingTiles$Kit" "warm" "I") (List.mem_of_getElem? (i := 5) (by decide +kernel))
  have k_5 := hts (.fieldLink RX7 28 "GrowingTiles" "steps" "LGrowingTiles$Steps;") (List.mem_of_getElem? (i := 6) (by decide +kernel))
  have k_6 := hts (.fieldLink RX7 240 "GrowingTiles$Steps" "made" "I") (List.mem_of_getElem? (i := 7) (by decide +kernel))
  have k_7 := hts (.fieldLink RX7 217 "GrowingTiles$Steps" "kept" "I") (List.mem_of_getElem? (i := 8) (by decide +kernel))
  have k_8 := hts (.fieldLink RX7 35 "GrowingTiles" "tape" "LGrowingTiles$Tape;") (List.mem_of_getElem? (i := 9) (by decide +kernel))
  have k_9 := hts (.fieldLink RX7 91 "GrowingTiles$Tape" "length" "I") (List.mem_of_getElem? (i := 10) (by decide +kernel))
  intro H locs hP hD hS ls hl
  unfold wp_X7_about at hw
  refine lv_iload_n hx hb dX7_about_0 rfl (lv_at hl 1 rfl) ?_
  by_cases c1_0 : p1 = (0 : Int32)
  · have hw := hw.1 c1_0
    refine lv_tableIn (tgt := 40) hx hb dX7_about_1 (by rw [c1_0]; decide) (by rw [c1_0]; decide) (by rw [c1_0]; rfl) (by decide) ?_
    refine lv_aload_n hx hb dX7_about_40 rfl (lv_at hl 0 rfl) ?_
    refine va_get (D := D) (ci := 7) (v := .ref aK) (C := RX7) (T := TX7) (N := 8) hx hb hts in_X7_about_X7 hown hK hP 0 rfl rfl 0 (by decide) k_0 (fun _ h9 => h9) rfl dX7_about_41 ?_
    refine va_get (D := D) (ci := 1) (v := .int K_count) (C := RX1) (T := TX1) (N := 13) hx hb hts in_X7_about_X1 hown hK hP 1 rfl rfl 1 (by decide) k_1 (fun _ h9 => h9) rfl dX7_about_44 ?_
    rw [hZ]
    exact cx_reti () hx hb hr hlocks hw hP hS dX7_about_47
  by_cases c1_1 : p1 = (1 : Int32)
  · have hw := hw.2.1 c1_1
    refine lv_tableIn (tgt := 48) hx hb dX7_about_1 (by rw [c1_1]; decide) (by rw [c1_1]; decide) (by rw [c1_1]; rfl) (by decide) ?_
    refine lv_aload_n hx hb dX7_about_48 rfl (lv_at hl 0 rfl) ?_
    refine va_get (D := D) (ci := 7) (v := .ref aS) (C := RX7) (T := TX7) (N := 8) hx hb hts in_X7_about_X7 hown hK hP 0 rfl rfl 1 (by decide) k_2 (fun _ h9 => h9) rfl dX7_about_49 ?_
    refine va_get (D := D) (ci := 4) (v := .int S_pieces) (C := RX4) (T := TX4) (N := 15) hx hb hts in_X7_about_X4 hown hK hP 2 rfl rfl 2 (by decide) k_3 (fun _ h9 => h9) rfl dX7_about_52 ?_
    rw [hZ]
    exact cx_reti () hx hb hr hlocks hw hP hS dX7_about_55
  by_cases c1_2 : p1 = (2 : Int32)
  · have hw := hw.2.2.1 c1_2
    refine lv_tableIn (tgt := 56) hx hb dX7_about_1 (by rw [c1_2]; decide) (by rw [c1_2]; decide) (by rw [c1_2]; rfl) (by decide) ?_
    refine lv_aload_n hx hb dX7_about_56 rfl (lv_at hl 0 rfl) ?_
    refine va_get (D := D) (ci := 7) (v := .ref aK) (C := RX7) (T := TX7) (N := 8) hx hb hts in_X7_about_X7 hown hK hP 0 rfl rfl 0 (by decide) k_0 (fun _ h9 => h9) rfl dX7_about_57 ?_
    refine va_get (D := D) (ci := 1) (v := .int K_warm) (C := RX1) (T := TX1) (N := 13) hx hb hts in_X7_about_X1 hown hK hP 1 rfl rfl 0 (by decide) k_4 (fun _ h9 => h9) rfl dX7_about_60 ?_
    rw [hZ]
    exact cx_reti () hx hb hr hlocks hw hP hS dX7_about_63
  by_cases c1_3 : p1 = (3 : Int32)
  · have hw := hw.2.2.2.1 c1_3
    refine lv_tableIn (tgt := 64) hx hb dX7_about_1 (by rw [c1_3]; decide) (by rw [c1_3]; decide) (by rw [c1_3]; rfl) (by decide) ?_
    refine lv_aload_n hx hb dX7_about_64 rfl (lv_at hl 0 rfl) ?_
    refine va_get (D := D) (ci := 7) (v := .ref aT) (C := RX7) (T := TX7) (N := 8) hx hb hts in_X7_about_X7 hown hK hP 0 rfl rfl 2 (by decide) k_5 (fun _ h9 => h9) rfl dX7_about_65 ?_
    refine va_get (D := D) (ci := 5) (v := .int T_made) (C := RX5) (T := TX5) (N := 8) hx hb hts in_X7_about_X5 hown hK hP 3 rfl rfl 0 (by decide) k_6 (fun _ h9 => h9) rfl dX7_about_68 ?_
    rw [hZ]
    exact cx_reti () hx hb hr hlocks hw hP hS dX7_about_71
  by_cases c1_4 : p1 = (4 : Int32)
  · have hw := hw.2.2.2.2.1 c1_4
    refine lv_tableIn (tgt := 72) hx hb dX7_about_1 (by rw [c1_4]; decide) (by rw [c1_4]; decide) (by rw [c1_4]; rfl) (by decide) ?_
    refine lv_aload_n hx hb dX7_about_72 rfl (lv_at hl 0 rfl) ?_
    refine va_get (D := D) (ci := 7) (v := .ref aT) (C := RX7) (T := TX7) (N := 8) hx hb hts in_X7_about_X7 hown hK hP 0 rfl rfl 2 (by decide) k_5 (fun _ h9 => h9) rfl dX7_about_73 ?_
    refine va_get (D := D) (ci := 5) (v := .int T_kept) (C := RX5) (T := TX5) (N := 8) hx hb hts in_X7_about_X5 hown hK hP 3 rfl rfl 1 (by decide) k_7 (fun _ h9 => h9) rfl dX7_about_76 ?_
    rw [hZ]
    exact cx_reti () hx hb hr hlocks hw hP hS dX7_about_79
  by_cases c1_5 : p1 = (5 : Int32)
  · have hw := hw.2.2.2.2.2.1 c1_5
    refine lv_tableIn (tgt := 80) hx hb dX7_about_1 (by rw [c1_5]; decide) (by rw [c1_5]; decide) (by rw [c1_5]; rfl) (by decide) ?_
    refine lv_aload_n hx hb dX7_about_80 rfl (lv_at hl 0 rfl) ?_
    refine va_get (D := D) (ci := 7) (v := .ref aP) (C := RX7) (T := TX7) (N := 8) hx hb hts in_X7_about_X7 hown hK hP 0 rfl rfl 3 (by decide) k_8 (fun _ h9 => h9) rfl dX7_about_81 ?_
    refine va_get (D := D) (ci := 6) (v := .int P_length) (C := RX6) (T := TX6) (N := 2) hx hb hts in_X7_about_X6 hown hK hP 4 rfl rfl 0 (by decide) k_9 (fun _ h9 => h9) rfl dX7_about_84 ?_
    rw [hZ]
    exact cx_reti () hx hb hr hlocks hw hP hS dX7_about_87
  have hw := hw.2.2.2.2.2.2 c1_0 c1_1 c1_2 c1_3 c1_4 c1_5
  refine lv_tableOut (tgt := 88) hx hb dX7_about_1 (cx_sw6 p1 c1_0 c1_1 c1_2 c1_3 c1_4 c1_5) (by decide) ?_
  refine lv_iconst (v := (-1 : Int32)) hx hb dX7_about_88 kI_m1 ?_
  rw [hZ]
  exact cx_reti () hx hb hr hlocks hw hP hS dX7_about_89
set_option maxRecDepth 100000 in
set_option maxHeartbeats 4000000 in
theorem c_X8_isOn (l : Launch) (D : va_G) (cI cJ cZ cO : ClassId) (tS tT : Nat) (sz : Nat) (p1 : Int32) (p2 : Int32) (Q : Int32 → Prop) (hw : wp_X8_isOn p1 p2 Q) : Met l yX8_isOn wsX8_isOn rm_X8_isOn (va_Pc [.int p1, .int p2] (cx_B tS tT cI cJ cZ cO D sz (w_X8_isOn : va_W))) (va_Qi (fun (r : Int32) (_ : Unit) => Q r) (fun (u : Unit) t => va_P D vwCl (w_X8_isOn : va_W) t.heap) (va_A (w_X8_isOn : va_W) sz)) 0 0 (va_A (w_X8_isOn : va_W) sz) := by
  refine cx_met (cc := cX8_isOn) (maxL := 2) (ret := (some .boolean)) (Qc := fun A => va_Qi (fun (r : Int32) (_ : Unit) => Q r) (fun (u : Unit) t => va_P D vwCl (w_X8_isOn : va_W) t.heap) A) (lv := [(0, .int p1), (1, .int p2)]) (by decide) rfl (Nat.le_of_ble_eq_true rfl) rfl ?_
  intro p e s m args below meth c A Z hx hb hr hlocks hts hown hml hE hK hA hZ
  have hown : s.vm.findClass RX8 = some m.cls := hown
  intro H locs hP hD hS ls hl
  unfold wp_X8_isOn at hw
  refine lv_iload_n hx hb dX8_isOn_0 rfl (lv_at hl 0 rfl) ?_
  refine lv_if_lt (tgt := 24) hx hb dX8_isOn_1 (by decide) (fun c1 => ?_) (fun c1 => ?_)
  · have hw := hw.1 c1
    refine lv_iconst (v := (0 : Int32)) hx hb dX8_isOn_24 kI_0 ?_
    rw [hZ]
    exact cx_retz () hx hb hr hlocks rfl hw hP hS dX8_isOn_25
  · have hw := hw.2 c1
    refine lv_iload_n hx hb dX8_isOn_4 rfl (lv_at hl 0 rfl) ?_
    refine lv_bipush (v := (16 : Int32)) hx hb dX8_isOn_5 kB_16 ?_
    refine lv_icmp_ge (tgt := 24) hx hb dX8_isOn_7 (by decide) (fun c7 => ?_) (fun c7 => ?_)
    · have hw := hw.1 c7
      refine lv_iconst (v := (0 : Int32)) hx hb dX8_isOn_24 kI_0 ?_
      rw [hZ]
      exact cx_retz () hx hb hr hlocks rfl hw hP hS dX8_isOn_25
    · have hw := hw.2 c7
      refine lv_iload_n hx hb dX8_isOn_10 rfl (lv_at hl 1 rfl) ?_
      refine lv_if_lt (tgt := 24) hx hb dX8_isOn_11 (by decide) (fun c11 => ?_) (fun c11 => ?_)
      · have hw := hw.1 c11
        refine lv_iconst (v := (0 : Int32)) hx hb dX8_isOn_24 kI_0 ?_
        rw [hZ]
        exact cx_retz () hx hb hr hlocks rfl hw hP hS dX8_isOn_25
      · have hw := hw.2 c11
        refine lv_iload_n hx hb dX8_isOn_14 rfl (lv_at hl 1 rfl) ?_
        refine lv_bipush (v := (16 : Int32)) hx hb dX8_isOn_15 kB_16 ?_
        refine lv_icmp_ge (tgt := 24) hx hb dX8_isOn_17 (by decide) (fun c17 => ?_) (fun c17 => ?_)
        · have hw := hw.1 c17
          refine lv_iconst (v := (0 : Int32)) hx hb dX8_isOn_24 kI_0 ?_
          rw [hZ]
          exact cx_retz () hx hb hr hlocks rfl hw hP hS dX8_isOn_25
        · have hw := hw.2 c17
          refine lv_iconst (v := (1 : Int32)) hx hb dX8_isOn_20 kI_1 ?_
          refine lv_goto (tgt := 25) hx hb dX8_isOn_21 (by decide) ?_
          rw [hZ]
          exact cx_retz () hx hb hr hlocks rfl hw hP hS dX8_isOn_25
set_option maxRecDepth 100000 in
set_option maxHeartbeats 4000000 in
theorem c_X8_isPiece (l : Launch) (D : va_G) (cI cJ cZ cO : ClassId) (tS tT : Nat) (sz : Nat) (aM aM_strength aM_kind aM_more aM_glues aM_sheet aM_since aM_imageStrength aM_imageKind aM_imageMore aM_imageGlues aM_imagePieces aM_imageWarmth aM_imageSheet aM_imageDraw aM_stepWhat aM_stepPiece aM_stepPlace aM_stepSince aM_tape aM_shapes aM_pile aM_met aM_next aM_inputs aM_then : Nat) (M_pieces : Int32) (M_warmth : Int32) (M_draw : Int64) (M_steps : Int32) (M_undoable : Int32) (M_brought : Int32) (M_taped : Int32) (M_shapeMany : Int32) (M_ended : Int32) (M_cut : Int32) (M_mostPieces : Int32) (M_walks : Int32) (M_walked : Int32) (p1 : Int32) (Q : Int32 → Prop) (hw : wp_X8_isPiece M_pieces p1 Q) : Met l yX8_isPiece wsX8_isPiece rm_X8_isPiece (va_Pc [.ref aM, .int p1] (cx_B tS tT cI cJ cZ cO D sz (w_X8_isPiece cI cJ cZ cO aM aM_strength aM_kind aM_more aM_glues aM_sheet aM_since aM_imageStrength aM_imageKind aM_imageMore aM_imageGlues aM_imagePieces aM_imageWarmth aM_imageSheet aM_imageDraw aM_stepWhat aM_stepPiece aM_stepPlace aM_stepSince aM_tape aM_shapes aM_pile aM_met aM_next aM_inputs aM_then M_pieces M_warmth M_draw M_steps M_undoable M_brought M_taped M_shapeMany M_ended M_cut M_mostPieces M_walks M_walked))) (va_Qi (fun (r : Int32) (_ : Unit) => Q r) (fun (u : Unit) t => va_P D vwCl (w_X8_isPiece cI cJ cZ cO aM aM_strength aM_kind aM_more aM_glues aM_sheet aM_since aM_imageStrength aM_imageKind aM_imageMore aM_imageGlues aM_imagePieces aM_imageWarmth aM_imageSheet aM_imageDraw aM_stepWhat aM_stepPiece aM_stepPlace aM_stepSince aM_tape aM_shapes aM_pile aM_met aM_next aM_inputs aM_then M_pieces M_warmth M_draw M_steps M_undoable M_brought M_taped M_shapeMany M_ended M_cut M_mostPieces M_walks M_walked) t.heap) (va_A (w_X8_isPiece cI cJ cZ cO aM aM_strength aM_kind aM_more aM_glues aM_sheet aM_since aM_imageStrength aM_imageKind aM_imageMore aM_imageGlues aM_imagePieces aM_imageWarmth aM_imageSheet aM_imageDraw aM_stepWhat aM_stepPiece aM_stepPlace aM_stepSince aM_tape aM_shapes aM_pile aM_met aM_next aM_inputs aM_then M_pieces M_warmth M_draw M_steps M_undoable M_brought M_taped M_shapeMany M_ended M_cut M_mostPieces M_walks M_walked) sz)) 0 0 (va_A (w_X8_isPiece cI cJ cZ cO aM aM_strength aM_kind aM_more aM_glues aM_sheet aM_since aM_imageStrength aM_imageKind aM_imageMore aM_imageGlues aM_imagePieces aM_imageWarmth aM_imageSheet aM_imageDraw aM_stepWhat aM_stepPiece aM_stepPlace aM_stepSince aM_tape aM_shapes aM_pile aM_met aM_next aM_inputs aM_then M_pieces M_warmth M_draw M_steps M_undoable M_brought M_taped M_shapeMany M_ended M_cut M_mostPieces M_walks M_walked) sz) := by
  refine cx_met (cc := cX8_isPiece) (maxL := 2) (ret := (some .boolean)) (Qc := fun A => va_Qi (fun (r : Int32) (_ : Unit) => Q r) (fun (u : Unit) t => va_P D vwCl (w_X8_isPiece cI cJ cZ cO aM aM_strength aM_kind aM_more aM_glues aM_sheet aM_since aM_imageStrength aM_imageKind aM_imageMore aM_imageGlues aM_imagePieces aM_imageWarmth aM_imageSheet aM_imageDraw aM_stepWhat aM_stepPiece aM_stepPlace aM_stepSince aM_tape aM_shapes aM_pile aM_met aM_next aM_inputs aM_then M_pieces M_warmth M_draw M_steps M_undoable M_brought M_taped M_shapeMany M_ended M_cut M_mostPieces M_walks M_walked) t.heap) A) (lv := [(0, .ref aM), (1, .int p1)]) (by decide) rfl (Nat.le_of_ble_eq_true rfl) rfl ?_
  intro p e s m args below meth c A Z hx hb hr hlocks hts hown hml hE hK hA hZ
  have hown : s.vm.findClass RX8 = some m.cls := hown
  have k_0 := hts (.fieldLink RX8 92 "GrowingTilesModel" "pieces" "I") (List.mem_of_getElem? (i := 1) (by decide +kernel))
  intro H locs hP hD hS ls hl
  unfold wp_X8_isPiece at hw
  refine lv_iload_n hx hb dX8_isPiece_0 rfl (lv_at hl 1 rfl) ?_
  refine lv_if_lt (tgt := 16) hx hb dX8_isPiece_1 (by decide) (fun c1 => ?_) (fun c1 => ?_)
  · have hw := hw.1 c1
    refine lv_iconst (v := (0 : Int32)) hx hb dX8_isPiece_16 kI_0 ?_
    rw [hZ]
    exact cx_retz () hx hb hr hlocks rfl hw hP hS dX8_isPiece_17
  · have hw := hw.2 c1
    refine lv_iload_n hx hb dX8_isPiece_4 rfl (lv_at hl 1 rfl) ?_
    refine lv_aload_n hx hb dX8_isPiece_5 rfl (lv_at hl 0 rfl) ?_
    refine va_get (D := D) (ci := 8) (v := .int M_pieces) (C := RX8) (T := TX8) (N := 38) hx hb hts in_X8_isPiece_X8 hown hK hP 0 rfl rfl 4 (by decide) k_0 (fun _ h9 => h9) rfl dX8_isPiece_6 ?_
    refine lv_icmp_ge (tgt := 16) hx hb dX8_isPiece_9 (by decide) (fun c9 => ?_) (fun c9 => ?_)
    · have hw := hw.1 c9
      refine lv_iconst (v := (0 : Int32)) hx hb dX8_isPiece_16 kI_0 ?_
      rw [hZ]
      exact cx_retz () hx hb hr hlocks rfl hw hP hS dX8_isPiece_17
    · have hw := hw.2 c9
      refine lv_iconst (v := (1 : Int32)) hx hb dX8_isPiece_12 kI_1 ?_
      refine lv_goto (tgt := 17) hx hb dX8_isPiece_13 (by decide) ?_
      rw [hZ]
      exact cx_retz () hx hb hr hlocks rfl hw hP hS dX8_isPiece_17
set_option maxRecDepth 100000 in
set_option maxHeartbeats 4000000 in
theorem c_X8_isClear (l : Launch) (D : va_G) (cI cJ cZ cO : ClassId) (tS tT : Nat) (sz : Nat) (aM aM_strength aM_kind aM_more aM_glues aM_sheet aM_since aM_imageStrength aM_imageKind aM_imageMore aM_imageGlues aM_imagePieces aM_imageWarmth aM_imageSheet aM_imageDraw aM_stepWhat aM_stepPiece aM_stepPlace aM_stepSince aM_tape aM_shapes aM_pile aM_met aM_next aM_inputs aM_then : Nat) (M_pieces : Int32) (M_warmth : Int32) (M_draw : Int64) (M_steps : Int32) (M_undoable : Int32) (M_brought : Int32) (M_taped : Int32) (M_shapeMany : Int32) (M_ended : Int32) (M_cut : Int32) (M_mostPieces : Int32) (M_walks : Int32) (M_walked : Int32) (M_sheet : Nat → Int32) (Q : Int32 → Prop) (hw : wp_X8_isClear M_sheet Q) : Met l yX8_isClear wsX8_isClear rm_X8_isClear (va_Pc [.ref aM] (cx_B tS tT cI cJ cZ cO D sz (w_X8_isClear cI cJ cZ cO aM aM_strength aM_kind aM_more aM_glues aM_sheet aM_since aM_imageStrength aM_imageKind aM_imageMore aM_imageGlues aM_imagePieces aM_imageWarmth aM_imageSheet aM_imageDraw aM_stepWhat aM_stepPiece aM_stepPlace aM_stepSince aM_tape aM_shapes aM_pile aM_met aM_next aM_inputs aM_then M_pieces M_warmth M_draw M_steps M_undoable M_brought M_taped M_shapeMany M_ended M_cut M_mostPieces M_walks M_walked M_sheet))) (va_Qi (fun (r : Int32) (_ : Unit) => Q r) (fun (u : Unit) t => va_P D vwCl (w_X8_isClear cI cJ cZ cO aM aM_strength aM_kind aM_more aM_glues aM_sheet aM_since aM_imageStrength aM_imageKind aM_imageMore aM_imageGlues aM_imagePieces aM_imageWarmth aM_imageSheet aM_imageDraw aM_stepWhat aM_stepPiece aM_stepPlace aM_stepSince aM_tape aM_shapes aM_pile aM_met aM_next aM_inputs aM_then M_pieces M_warmth M_draw M_steps M_undoable M_brought M_taped M_shapeMany M_ended M_cut M_mostPieces M_walks M_walked M_sheet) t.heap) (va_A (w_X8_isClear cI cJ cZ cO aM aM_strength aM_kind aM_more aM_glues aM_sheet aM_since aM_imageStrength aM_imageKind aM_imageMore aM_imageGlues aM_imagePieces aM_imageWarmth aM_imageSheet aM_imageDraw aM_stepWhat aM_stepPiece aM_stepPlace aM_stepSince aM_tape aM_shapes aM_pile aM_met aM_next aM_inputs aM_then M_pieces M_warmth M_draw M_steps M_undoable M_brought M_taped M_shapeMany M_ended M_cut M_mostPieces M_walks M_walked M_sheet) sz)) 0 0 (va_A (w_X8_isClear cI cJ cZ cO aM aM_strength aM_kind aM_more aM_glues aM_sheet aM_since aM_imageStrength aM_imageKind aM_imageMore aM_imageGlues aM_imagePieces aM_imageWarmth aM_imageSheet aM_imageDraw aM_stepWhat aM_stepPiece aM_stepPlace aM_stepSince aM_tape aM_shapes aM_pile aM_met aM_next aM_inputs aM_then M_pieces M_warmth M_draw M_steps M_undoable M_brought M_taped M_shapeMany M_ended M_cut M_mostPieces M_walks M_walked M_sheet) sz) := by
  refine cx_met (cc := cX8_isClear) (maxL := 3) (ret := (some .boolean)) (Qc := fun A => va_Qi (fun (r : Int32) (_ : Unit) => Q r) (fun (u : Unit) t => va_P D vwCl (w_X8_isClear cI cJ cZ cO aM aM_strength aM_kind aM_more aM_glues aM_sheet aM_since aM_imageStrength aM_imageKind aM_imageMore aM_imageGlues aM_imagePieces aM_imageWarmth aM_imageSheet aM_imageDraw aM_stepWhat aM_stepPiece aM_stepPlace aM_stepSince aM_tape aM_shapes aM_pile aM_met aM_next aM_inputs aM_then M_pieces M_warmth M_draw M_steps M_undoable M_brought M_taped M_shapeMany M_ended M_cut M_mostPieces M_walks M_walked M_sheet) t.heap) A) (lv := [(0, .ref aM)]) (by decide) rfl (Nat.le_of_ble_eq_true rfl) rfl ?_
  intro p e s m args below meth c A Z hx hb hr hlocks hts hown hml hE hK hA hZ
  have hown : s.vm.findClass RX8 = some m.cls := hown
  have k_0 := hts (.fieldLink RX8 26 "GrowingTilesModel" "sheet" "[I") (List.mem_of_getElem? (i := 1) (by decide +kernel))
  have b_4 : ∀ n_4 : Nat, ∀ (x1 : Int32) (x2 : Int32), wq_X8_isClear_4 M_sheet Q n_4 x1 x2 → ∀ (H : Heap) (locs : List Loc), va_P D vwCl (w_X8_isClear cI cJ cZ cO aM aM_strength aM_kind aM_more aM_glues aM_sheet aM_since aM_imageStrength aM_imageKind aM_imageMore aM_imageGlues aM_imagePieces aM_imageWarmth aM_imageSheet aM_imageDraw aM_stepWhat aM_stepPiece aM_stepPlace aM_stepSince aM_tape aM_shapes aM_pile aM_met aM_next aM_inputs aM_then M_pieces M_warmth M_draw M_steps M_undoable M_brought M_taped M_shapeMany M_ended M_cut M_mostPieces M_walks M_walked M_sheet) H → va_D A (w_X8_isClear cI cJ cZ cO aM aM_strength aM_kind aM_more aM_glues aM_sheet aM_since aM_imageStrength aM_imageKind aM_imageMore aM_imageGlues aM_imagePieces aM_imageWarmth aM_imageSheet aM_imageDraw aM_stepWhat aM_stepPiece aM_stepPlace aM_stepSince aM_tape aM_shapes aM_pile aM_met aM_next aM_inputs aM_then M_pieces M_warmth M_draw M_steps M_undoable M_brought M_taped M_shapeMany M_ended M_cut M_mostPieces M_walks M_walked M_sheet) → va_S A s.heap H locs → ∀ ls : Array Slot, lv_has ls 3 [(0, .ref aM), (1, .int x1), (2, .int x2)] → W p l e rm_X8_isClear s m args below meth c H locs 0 0 Z (F0 m 4 ls []) := by
    intro n_4
    induction n_4 with
    | zero => intro x1 x2 hw; exact False.elim hw
    | succ n_4 ih_4 =>
      intro x1 x2 hw H locs hP hD hS ls hl
      have hw : wf_X8_isClear_4 M_sheet Q (wq_X8_isClear_4 M_sheet Q n_4) x1 x2 := hw
      unfold wf_X8_isClear_4 at hw
      refine lv_iload_n hx hb dX8_isClear_4 rfl (lv_at hl 2 rfl) ?_
      refine lv_sipush (v := (256 : Int32)) hx hb dX8_isClear_5 kS_256 ?_
      refine lv_icmp_ge (tgt := 36) hx hb dX8_isClear_8 (by decide) (fun c8 => ?_) (fun c8 => ?_)
      · have hw := hw.1 c8
        refine lv_iload_n hx hb dX8_isClear_36 rfl (lv_at hl 1 rfl) ?_
        rw [hZ]
        exact cx_retz () hx hb hr hlocks (cx_bool hw.1).1 hw.2 hP hS dX8_isClear_37
      · have hw := hw.2 c8
        refine lv_iload_n hx hb dX8_isClear_11 rfl (lv_at hl 1 rfl) ?_
        refine lv_if_eq (tgt := 36) hx hb dX8_isClear_12 (by decide) (fun c12 => ?_) (fun c12 => ?_)
        · have hw := hw.1 c12
          refine lv_iload_n hx hb dX8_isClear_36 rfl (lv_at hl 1 rfl) ?_
          rw [hZ]
          exact cx_retz () hx hb hr hlocks (cx_bool hw.1).1 hw.2 hP hS dX8_isClear_37
        · have hw := hw.2 c12
          refine lv_aload_n hx hb dX8_isClear_15 rfl (lv_at hl 0 rfl) ?_
          refine va_get (D := D) (ci := 8) (v := .ref aM_sheet) (C := RX8) (T := TX8) (N := 38) hx hb hts in_X8_isClear_X8 hown hK hP 0 rfl rfl 7 (by decide) k_0 (fun _ h9 => h9) rfl dX8_isClear_16 ?_
          refine lv_iload_n hx hb dX8_isClear_19 rfl (lv_at hl 2 rfl) ?_
          have h20 := hw.1
          have hw := hw.2
          refine va_iald hx hb hK hP 1 0 rfl rfl h20 dX8_isClear_20 ?_
          refine lv_topi (fun v20 e20 => ?_)
          have hw := hw v20 e20
          refine lv_if_ne (tgt := 28) hx hb dX8_isClear_21 (by decide) (fun c21 => ?_) (fun c21 => ?_)
          · have hw := hw.1 c21
            refine lv_iconst (v := (0 : Int32)) hx hb dX8_isClear_28 kI_0 ?_
            refine lv_istore_n (lv' := [(1, .int (0 : Int32)), (0, .ref aM), (2, .int x2)]) hx hb dX8_isClear_29 rfl hl (by decide) rfl (fun ls hl => ?_)
            obtain ⟨v30, e30⟩ : ∃ y : Int32, y = x2 + (1 : Int32) := ⟨_, rfl⟩
            have hw := hw v30 e30
            refine lv_iinc (v := v30) (lv' := [(2, .int v30), (1, .int (0 : Int32)), (0, .ref aM)]) hx hb dX8_isClear_30 hl (k := 2) rfl (by rw [e30, kI_1]) (by decide) rfl (fun ls hl => ?_)
            refine lv_goto (tgt := 4) hx hb dX8_isClear_33 (by decide) ?_
            exact ih_4 (0 : Int32) v30 hw H locs hP hD hS ls (lv_sub hl [2, 1, 0] rfl)
          · have hw := hw.2 c21
            refine lv_iconst (v := (1 : Int32)) hx hb dX8_isClear_24 kI_1 ?_
            refine lv_goto (tgt := 29) hx hb dX8_isClear_25 (by decide) ?_
            refine lv_istore_n (lv' := [(1, .int (1 : Int32)), (0, .ref aM), (2, .int x2)]) hx hb dX8_isClear_29 rfl hl (by decide) rfl (fun ls hl => ?_)
            obtain ⟨v30, e30⟩ : ∃ y : Int32, y = x2 + (1 : Int32) := ⟨_, rfl⟩
            have hw := hw v30 e30
            refine lv_iinc (v := v30) (lv' := [(2, .int v30), (1, .int (1 : Int32)), (0, .ref aM)]) hx hb dX8_isClear_30 hl (k := 2) rfl (by rw [e30, kI_1]) (by decide) rfl (fun ls hl => ?_)
            refine lv_goto (tgt := 4) hx hb dX8_isClear_33 (by decide) ?_
            exact ih_4 (1 : Int32) v30 hw H locs hP hD hS ls (lv_sub hl [2, 1, 0] rfl)
  intro H locs hP hD hS ls hl
  unfold wp_X8_isClear at hw
  refine lv_iconst (v := (1 : Int32)) hx hb dX8_isClear_0 kI_1 ?_
  refine lv_istore_n (lv' := [(1, .int (1 : Int32)), (0, .ref aM)]) hx hb dX8_isClear_1 rfl hl (by decide) rfl (fun ls hl => ?_)
  refine lv_iconst (v := (0 : Int32)) hx hb dX8_isClear_2 kI_0 ?_
  refine lv_istore_n (lv' := [(2, .int (0 : Int32)), (1, .int (1 : Int32)), (0, .ref aM)]) hx hb dX8_isClear_3 rfl hl (by decide) rfl (fun ls hl => ?_)
  obtain ⟨k, hw⟩ := hw
  exact b_4 k (1 : Int32) (0 : Int32) hw H locs hP hD hS ls (lv_sub hl [2, 1, 0] rfl)
set_option maxRecDepth 100000 in
set_option maxHeartbeats 4000000 in
theorem c_X8_glue (l : Launch) (D : va_G) (cI cJ cZ cO : ClassId) (tS tT : Nat) (sz : Nat) (aM aM_strength aM_kind aM_more aM_glues aM_sheet aM_since aM_imageStrength aM_imageKind aM_imageMore aM_imageGlues aM_imagePieces aM_imageWarmth aM_imageSheet aM_imageDraw aM_stepWhat aM_stepPiece aM_stepPlace aM_stepSince aM_tape aM_shapes aM_pile aM_met aM_next aM_inputs aM_then : Nat) (M_pieces : Int32) (M_warmth : Int32) (M_draw : Int64) (M_steps : Int32) (M_undoable : Int32) (M_brought : Int32) (M_taped : Int32) (M_shapeMany : Int32) (M_ended : Int32) (M_cut : Int32) (M_mostPieces : Int32) (M_walks : Int32) (M_walked : Int32) (M_strength : Nat → Int32) (M_sheet : Nat → Int32) (p1 : Int32) (p2 : Int32) (Q : Int32 → (Nat → Int32) → Prop) (hw : wp_X8_glue M_sheet M_strength p1 p2 Q) : Met l yX8_glue wsX8_glue rm_X8_glue (va_Pc [.ref aM, .int p1, .int p2] (cx_B tS tT cI cJ cZ cO D sz (w_X8_glue cI cJ cZ cO aM aM_strength aM_kind aM_more aM_glues aM_sheet aM_since aM_imageStrength aM_imageKind aM_imageMore aM_imageGlues aM_imagePieces aM_imageWarmth aM_imageSheet aM_imageDraw aM_stepWhat aM_stepPiece aM_stepPlace aM_stepSince aM_tape aM_shapes aM_pile aM_met aM_next aM_inputs aM_then M_pieces M_warmth M_draw M_steps M_undoable M_brought M_taped M_shapeMany M_ended M_cut M_mostPieces M_walks M_walked M_strength M_sheet))) (va_Qi (fun (r : Int32) (u : (Nat → Int32)) => Q r u) (fun (u : (Nat → Int32)) t => va_P D vwCl (w_X8_glue cI cJ cZ cO aM aM_strength aM_kind aM_more aM_glues aM_sheet aM_since aM_imageStrength aM_imageKind aM_imageMore aM_imageGlues aM_imagePieces aM_imageWarmth aM_imageSheet aM_imageDraw aM_stepWhat aM_stepPiece aM_stepPlace aM_stepSince aM_tape aM_shapes aM_pile aM_met aM_next aM_inputs aM_then M_pieces M_warmth M_draw M_steps M_undoable M_brought M_taped M_shapeMany M_ended M_cut M_mostPieces M_walks M_walked u M_sheet) t.heap) (va_A (w_X8_glue cI cJ cZ cO aM aM_strength aM_kind aM_more aM_glues aM_sheet aM_since aM_imageStrength aM_imageKind aM_imageMore aM_imageGlues aM_imagePieces aM_imageWarmth aM_imageSheet aM_imageDraw aM_stepWhat aM_stepPiece aM_stepPlace aM_stepSince aM_tape aM_shapes aM_pile aM_met aM_next aM_inputs aM_then M_pieces M_warmth M_draw M_steps M_undoable M_brought M_taped M_shapeMany M_ended M_cut M_mostPieces M_walks M_walked M_strength M_sheet) sz)) 0 0 (va_A (w_X8_glue cI cJ cZ cO aM aM_strength aM_kind aM_more aM_glues aM_sheet aM_since aM_imageStrength aM_imageKind aM_imageMore aM_imageGlues aM_imagePieces aM_imageWarmth aM_imageSheet aM_imageDraw aM_stepWhat aM_stepPiece aM_stepPlace aM_stepSince aM_tape aM_shapes aM_pile aM_met aM_next aM_inputs aM_then M_pieces M_warmth M_draw M_steps M_undoable M_brought M_taped M_shapeMany M_ended M_cut M_mostPieces M_walks M_walked M_strength M_sheet) sz) := by
  refine cx_met (cc := cX8_glue) (maxL := 3) (ret := (some .boolean)) (Qc := fun A => va_Qi (fun (r : Int32) (u : (Nat → Int32)) => Q r u) (fun (u : (Nat → Int32)) t => va_P D vwCl (w_X8_glue cI cJ cZ cO aM aM_strength aM_kind aM_more aM_glues aM_sheet aM_since aM_imageStrength aM_imageKind aM_imageMore aM_imageGlues aM_imagePieces aM_imageWarmth aM_imageSheet aM_imageDraw aM_stepWhat aM_stepPiece aM_stepPlace aM_stepSince aM_tape aM_shapes aM_pile aM_met aM_next aM_inputs aM_then M_pieces M_warmth M_draw M_steps M_undoable M_brought M_taped M_shapeMany M_ended M_cut M_mostPieces M_walks M_walked u M_sheet) t.heap) A) (lv := [(0, .ref aM), (1, .int p1), (2, .int p2)]) (by decide) rfl (Nat.le_of_ble_eq_true rfl) rfl ?_
  intro p e s m args below meth c A Z hx hb hr hlocks hts hown hml hE hK hA hZ
  have hown : s.vm.findClass RX8 = some m.cls := hown
  have k_0 := hts (.fieldLink RX8 7 "GrowingTilesModel" "strength" "[I") (List.mem_of_getElem? (i := 1) (by decide +kernel))
  intro H locs hP hD hS ls hl
  unfold wp_X8_glue at hw
  refine lv_iload_n hx hb dX8_glue_0 rfl (lv_at hl 1 rfl) ?_
  refine lv_iconst (v := (1 : Int32)) hx hb dX8_glue_1 kI_1 ?_
  refine lv_icmp_lt (tgt := 27) hx hb dX8_glue_2 (by decide) (fun c2 => ?_) (fun c2 => ?_)
  · have hw := hw.1 c2
    refine lv_iconst (v := (0 : Int32)) hx hb dX8_glue_27 kI_0 ?_
    rw [hZ]
    exact cx_retz M_strength hx hb hr hlocks rfl hw hP hS dX8_glue_28
  · have hw := hw.2 c2
    refine lv_iload_n hx hb dX8_glue_5 rfl (lv_at hl 1 rfl) ?_
    refine lv_bipush (v := (50 : Int32)) hx hb dX8_glue_6 kB_50 ?_
    refine lv_icmp_gt (tgt := 27) hx hb dX8_glue_8 (by decide) (fun c8 => ?_) (fun c8 => ?_)
    · have hw := hw.1 c8
      refine lv_iconst (v := (0 : Int32)) hx hb dX8_glue_27 kI_0 ?_
      rw [hZ]
      exact cx_retz M_strength hx hb hr hlocks rfl hw hP hS dX8_glue_28
    · have hw := hw.2 c8
      refine lv_iload_n hx hb dX8_glue_11 rfl (lv_at hl 2 rfl) ?_
      refine lv_if_lt (tgt := 27) hx hb dX8_glue_12 (by decide) (fun c12 => ?_) (fun c12 => ?_)
      · have hw := hw.1 c12
        refine lv_iconst (v := (0 : Int32)) hx hb dX8_glue_27 kI_0 ?_
        rw [hZ]
        exact cx_retz M_strength hx hb hr hlocks rfl hw hP hS dX8_glue_28
      · have hw := hw.2 c12
        refine lv_iload_n hx hb dX8_glue_15 rfl (lv_at hl 2 rfl) ?_
        refine lv_iconst (v := (3 : Int32)) hx hb dX8_glue_16 kI_3 ?_
        refine lv_icmp_gt (tgt := 27) hx hb dX8_glue_17 (by decide) (fun c17 => ?_) (fun c17 => ?_)
        · have hw := hw.1 c17
          refine lv_iconst (v := (0 : Int32)) hx hb dX8_glue_27 kI_0 ?_
          rw [hZ]
          exact cx_retz M_strength hx hb hr hlocks rfl hw hP hS dX8_glue_28
        · have hw := hw.2 c17
          refine lv_aload_n hx hb dX8_glue_20 rfl (lv_at hl 0 rfl) ?_
          refine cx_goi (va_runV (As := []) (rest := []) ⟨hx, hb, hml, hown, hts⟩ (c_X8_isClear l D cI cJ cZ cO tS tT H.size aM aM_strength aM_kind aM_more aM_glues aM_sheet aM_since aM_imageStrength aM_imageKind aM_imageMore aM_imageGlues aM_imagePieces aM_imageWarmth aM_imageSheet aM_imageDraw aM_stepWhat aM_stepPiece aM_stepPlace aM_stepSince aM_tape aM_shapes aM_pile aM_met aM_next aM_inputs aM_then M_pieces M_warmth M_draw M_steps M_undoable M_brought M_taped M_shapeMany M_ended M_cut M_mostPieces M_walks M_walked M_sheet _ hw) (cwV 0 hts gX8_glue_X8_isClear rfl rfl rfl pv_X8_isClear ⟨Nat.le_of_ble_eq_true rfl, Nat.le_of_ble_eq_true rfl⟩) (cx_preV (wc := w_X8_isClear cI cJ cZ cO aM aM_strength aM_kind aM_more aM_glues aM_sheet aM_since aM_imageStrength aM_imageKind aM_imageMore aM_imageGlues aM_imagePieces aM_imageWarmth aM_imageSheet aM_imageDraw aM_stepWhat aM_stepPiece aM_stepPlace aM_stepSince aM_tape aM_shapes aM_pile aM_met aM_next aM_inputs aM_then M_pieces M_warmth M_draw M_steps M_undoable M_brought M_taped M_shapeMany M_ended M_cut M_mostPieces M_walks M_walked M_sheet) hE hK hP hD hS hA [0, 2] rfl rfl (va_recv hK hP (ci := 8) (q0 := 0) rfl rfl)) rfl rfl hl.1 rfl (lv_room (Nat.le_of_ble_eq_true rfl)) dX8_glue_21 ⟨Nat.le_of_ble_eq_true rfl, Nat.le_of_ble_eq_true rfl⟩) (fun (_ : Unit) => (w_X8_glue cI cJ cZ cO aM aM_strength aM_kind aM_more aM_glues aM_sheet aM_since aM_imageStrength aM_imageKind aM_imageMore aM_imageGlues aM_imagePieces aM_imageWarmth aM_imageSheet aM_imageDraw aM_stepWhat aM_stepPiece aM_stepPlace aM_stepSince aM_tape aM_shapes aM_pile aM_met aM_next aM_inputs aM_then M_pieces M_warmth M_draw M_steps M_undoable M_brought M_taped M_shapeMany M_ended M_cut M_mostPieces M_walks M_walked M_strength M_sheet)) [0, 2] [1] (ads := [aM, aM_sheet]) (wr := [(aM_strength, .inl (cI, 51, .inl M_strength))]) rfl rfl (fun u => rfl) (fun u => rfl) rfl (fun u => rfl) rfl (fun u => rfl) rfl hP hD hS hA (fun r21 u H locs hw hP hD hS => ?_)
          have hP : va_P D vwCl (w_X8_glue cI cJ cZ cO aM aM_strength aM_kind aM_more aM_glues aM_sheet aM_since aM_imageStrength aM_imageKind aM_imageMore aM_imageGlues aM_imagePieces aM_imageWarmth aM_imageSheet aM_imageDraw aM_stepWhat aM_stepPiece aM_stepPlace aM_stepSince aM_tape aM_shapes aM_pile aM_met aM_next aM_inputs aM_then M_pieces M_warmth M_draw M_steps M_undoable M_brought M_taped M_shapeMany M_ended M_cut M_mostPieces M_walks M_walked M_strength M_sheet) H := hP
          have hD : va_D A (w_X8_glue cI cJ cZ cO aM aM_strength aM_kind aM_more aM_glues aM_sheet aM_since aM_imageStrength aM_imageKind aM_imageMore aM_imageGlues aM_imagePieces aM_imageWarmth aM_imageSheet aM_imageDraw aM_stepWhat aM_stepPiece aM_stepPlace aM_stepSince aM_tape aM_shapes aM_pile aM_met aM_next aM_inputs aM_then M_pieces M_warmth M_draw M_steps M_undoable M_brought M_taped M_shapeMany M_ended M_cut M_mostPieces M_walks M_walked M_strength M_sheet) := hD
          refine lv_if_ne (tgt := 29) hx hb dX8_glue_24 (by decide) (fun c24 => ?_) (fun c24 => ?_)
          · have hw := hw.1 c24
            refine lv_aload_n hx hb dX8_glue_29 rfl (lv_at hl 0 rfl) ?_
            refine va_get (D := D) (ci := 8) (v := .ref aM_strength) (C := RX8) (T := TX8) (N := 38) hx hb hts in_X8_glue_X8 hown hK hP 0 rfl rfl 0 (by decide) k_0 (fun _ h9 => h9) rfl dX8_glue_30 ?_
            refine lv_iload_n hx hb dX8_glue_33 rfl (lv_at hl 1 rfl) ?_
            refine lv_iload_n hx hb dX8_glue_34 rfl (lv_at hl 2 rfl) ?_
            have h35 := hw.1
            have hw := hw.2
            refine va_iast hx hb hK hP hD hS 1 0 rfl rfl h35 dX8_glue_35 (fun H locs hP hD hS => ?_)
            have hP : va_P D vwCl (w_X8_glue cI cJ cZ cO aM aM_strength aM_kind aM_more aM_glues aM_sheet aM_since aM_imageStrength aM_imageKind aM_imageMore aM_imageGlues aM_imagePieces aM_imageWarmth aM_imageSheet aM_imageDraw aM_stepWhat aM_stepPiece aM_stepPlace aM_stepSince aM_tape aM_shapes aM_pile aM_met aM_next aM_inputs aM_then M_pieces M_warmth M_draw M_steps M_undoable M_brought M_taped M_shapeMany M_ended M_cut M_mostPieces M_walks M_walked (upd M_strength p1.toNatClampNeg p2) M_sheet) H := hP
            have hD : va_D A (w_X8_glue cI cJ cZ cO aM aM_strength aM_kind aM_more aM_glues aM_sheet aM_since aM_imageStrength aM_imageKind aM_imageMore aM_imageGlues aM_imagePieces aM_imageWarmth aM_imageSheet aM_imageDraw aM_stepWhat aM_stepPiece aM_stepPlace aM_stepSince aM_tape aM_shapes aM_pile aM_met aM_next aM_inputs aM_then M_pieces M_warmth M_draw M_steps M_undoable M_brought M_taped M_shapeMany M_ended M_cut M_mostPieces M_walks M_walked (upd M_strength p1.toNatClampNeg p2) M_sheet) := hD
            obtain ⟨M_strength_35, e35⟩ : ∃ y : Nat → Int32, y = upd M_strength p1.toNatClampNeg p2 := ⟨_, rfl⟩
            rw [← e35] at hP hD
            have hw := hw M_strength_35 e35
            refine lv_iconst (v := (1 : Int32)) hx hb dX8_glue_36 kI_1 ?_
            rw [hZ]
            exact cx_retz M_strength_35 hx hb hr hlocks rfl hw hP hS dX8_glue_37
          · have hw := hw.2 c24
            refine lv_iconst (v := (0 : Int32)) hx hb dX8_glue_27 kI_0 ?_
            rw [hZ]
            exact cx_retz M_strength hx hb hr hlocks rfl hw hP hS dX8_glue_28
set_option maxRecDepth 100000 in
set_option maxHeartbeats 4000000 in
theorem c_X8_isGlue (l : Launch) (D : va_G) (cI cJ cZ cO : ClassId) (tS tT : Nat) (sz : Nat) (p1 : Int32) (Q : Int32 → Prop) (hw : wp_X8_isGlue p1 Q) : Met l yX8_isGlue wsX8_isGlue rm_X8_isGlue (va_Pc [.int p1] (cx_B tS tT cI cJ cZ cO D sz (w_X8_isGlue : va_W))) (va_Qi (fun (r : Int32) (_ : Unit) => Q r) (fun (u : Unit) t => va_P D vwCl (w_X8_isGlue : va_W) t.heap) (va_A (w_X8_isGlue : va_W) sz)) 0 0 (va_A (w_X8_isGlue : va_W) sz) := by
  refine cx_met (cc := cX8_isGlue) (maxL := 1) (ret := (some .boolean)) (Qc := fun A => va_Qi (fun (r : Int32) (_ : Unit) => Q r) (fun (u : Unit) t => va_P D vwCl (w_X8_isGlue : va_W) t.heap) A) (lv := [(0, .int p1)]) (by decide) rfl (Nat.le_of_ble_eq_true rfl) rfl ?_
  intro p e s m args below meth c A Z hx hb hr hlocks hts hown hml hE hK hA hZ
  have hown : s.vm.findClass RX8 = some m.cls := hown
  intro H locs hP hD hS ls hl
  unfold wp_X8_isGlue at hw
  refine lv_iload_n hx hb dX8_isGlue_0 rfl (lv_at hl 0 rfl) ?_
  refine lv_if_lt (tgt := 14) hx hb dX8_isGlue_1 (by decide) (fun c1 => ?_) (fun c1 => ?_)
  · have hw := hw.1 c1
    refine lv_iconst (v := (0 : Int32)) hx hb dX8_isGlue_14 kI_0 ?_
    rw [hZ]
    exact cx_retz () hx hb hr hlocks rfl hw hP hS dX8_isGlue_15
  · have hw := hw.2 c1
    refine lv_iload_n hx hb dX8_isGlue_4 rfl (lv_at hl 0 rfl) ?_
    refine lv_bipush (v := (50 : Int32)) hx hb dX8_isGlue_5 kB_50 ?_
    refine lv_icmp_gt (tgt := 14) hx hb dX8_isGlue_7 (by decide) (fun c7 => ?_) (fun c7 => ?_)
    · have hw := hw.1 c7
      refine lv_iconst (v := (0 : Int32)) hx hb dX8_isGlue_14 kI_0 ?_
      rw [hZ]
      exact cx_retz () hx hb hr hlocks rfl hw hP hS dX8_isGlue_15
    · have hw := hw.2 c7
      refine lv_iconst (v := (1 : Int32)) hx hb dX8_isGlue_10 kI_1 ?_
      refine lv_goto (tgt := 15) hx hb dX8_isGlue_11 (by decide) ?_
      rw [hZ]
      exact cx_retz () hx hb hr hlocks rfl hw hP hS dX8_isGlue_15
set_option maxRecDepth 100000 in
set_option maxHeartbeats 4000000 in
theorem c_X8_isMore (l : Launch) (D : va_G) (cI cJ cZ cO : ClassId) (tS tT : Nat) (sz : Nat) (p1 : Int32) (p2 : Int32) (Q : Int32 → Prop) (hw : wp_X8_isMore p1 p2 Q) : Met l yX8_isMore wsX8_isMore rm_X8_isMore (va_Pc [.int p1, .int p2] (cx_B tS tT cI cJ cZ cO D sz (w_X8_isMore : va_W))) (va_Qi (fun (r : Int32) (_ : Unit) => Q r) (fun (u : Unit) t => va_P D vwCl (w_X8_isMore : va_W) t.heap) (va_A (w_X8_isMore : va_W) sz)) 0 0 (va_A (w_X8_isMore : va_W) sz) := by
  refine cx_met (cc := cX8_isMore) (maxL := 2) (ret := (some .boolean)) (Qc := fun A => va_Qi (fun (r : Int32) (_ : Unit) => Q r) (fun (u : Unit) t => va_P D vwCl (w_X8_isMore : va_W) t.heap) A) (lv := [(0, .int p1), (1, .int p2)]) (by decide) rfl (Nat.le_of_ble_eq_true rfl) rfl ?_
  intro p e s m args below meth c A Z hx hb hr hlocks hts hown hml hE hK hA hZ
  have hown : s.vm.findClass RX8 = some m.cls := hown
  intro H locs hP hD hS ls hl
  unfold wp_X8_isMore at hw
  refine lv_iload_n hx hb dX8_isMore_0 rfl (lv_at hl 0 rfl) ?_
  by_cases c1_0 : p1 = (0 : Int32)
  · have hw := hw.1 c1_0
    refine lv_tableIn (tgt := 40) hx hb dX8_isMore_1 (by rw [c1_0]; decide) (by rw [c1_0]; decide) (by rw [c1_0]; rfl) (by decide) ?_
    refine lv_iload_n hx hb dX8_isMore_40 rfl (lv_at hl 1 rfl) ?_
    refine lv_if_ne (tgt := 48) hx hb dX8_isMore_41 (by decide) (fun c41 => ?_) (fun c41 => ?_)
    · have hw := hw.1 c41
      refine lv_iconst (v := (0 : Int32)) hx hb dX8_isMore_48 kI_0 ?_
      rw [hZ]
      exact cx_retz () hx hb hr hlocks rfl hw hP hS dX8_isMore_49
    · have hw := hw.2 c41
      refine lv_iconst (v := (1 : Int32)) hx hb dX8_isMore_44 kI_1 ?_
      refine lv_goto (tgt := 49) hx hb dX8_isMore_45 (by decide) ?_
      rw [hZ]
      exact cx_retz () hx hb hr hlocks rfl hw hP hS dX8_isMore_49
  by_cases c1_1 : p1 = (1 : Int32)
  · have hw := hw.2.1 c1_1
    refine lv_tableIn (tgt := 40) hx hb dX8_isMore_1 (by rw [c1_1]; decide) (by rw [c1_1]; decide) (by rw [c1_1]; rfl) (by decide) ?_
    refine lv_iload_n hx hb dX8_isMore_40 rfl (lv_at hl 1 rfl) ?_
    refine lv_if_ne (tgt := 48) hx hb dX8_isMore_41 (by decide) (fun c41 => ?_) (fun c41 => ?_)
    · have hw := hw.1 c41
      refine lv_iconst (v := (0 : Int32)) hx hb dX8_isMore_48 kI_0 ?_
      rw [hZ]
      exact cx_retz () hx hb hr hlocks rfl hw hP hS dX8_isMore_49
    · have hw := hw.2 c41
      refine lv_iconst (v := (1 : Int32)) hx hb dX8_isMore_44 kI_1 ?_
      refine lv_goto (tgt := 49) hx hb dX8_isMore_45 (by decide) ?_
      rw [hZ]
      exact cx_retz () hx hb hr hlocks rfl hw hP hS dX8_isMore_49
  by_cases c1_2 : p1 = (2 : Int32)
  · have hw := hw.2.2.1 c1_2
    refine lv_tableIn (tgt := 50) hx hb dX8_isMore_1 (by rw [c1_2]; decide) (by rw [c1_2]; decide) (by rw [c1_2]; rfl) (by decide) ?_
    refine lv_iload_n hx hb dX8_isMore_50 rfl (lv_at hl 1 rfl) ?_
    refine lv_if_lt (tgt := 76) hx hb dX8_isMore_51 (by decide) (fun c51 => ?_) (fun c51 => ?_)
    · have hw := hw.1 c51
      refine lv_iconst (v := (0 : Int32)) hx hb dX8_isMore_76 kI_0 ?_
      rw [hZ]
      exact cx_retz () hx hb hr hlocks rfl hw hP hS dX8_isMore_77
    · have hw := hw.2 c51
      refine lv_iload_n hx hb dX8_isMore_54 rfl (lv_at hl 1 rfl) ?_
      refine lv_bipush (v := (64 : Int32)) hx hb dX8_isMore_55 kB_64 ?_
      refine lv_irem hx hb dX8_isMore_57 (by decide) ?_
      refine lv_bipush (v := (50 : Int32)) hx hb dX8_isMore_58 kB_50 ?_
      refine lv_icmp_gt (tgt := 76) hx hb dX8_isMore_60 (by decide) (fun c60 => ?_) (fun c60 => ?_)
      · have hw := hw.1 c60
        refine lv_iconst (v := (0 : Int32)) hx hb dX8_isMore_76 kI_0 ?_
        rw [hZ]
        exact cx_retz () hx hb hr hlocks rfl hw hP hS dX8_isMore_77
      · have hw := hw.2 c60
        refine lv_iload_n hx hb dX8_isMore_63 rfl (lv_at hl 1 rfl) ?_
        refine lv_bipush (v := (64 : Int32)) hx hb dX8_isMore_64 kB_64 ?_
        refine lv_idiv hx hb dX8_isMore_66 (by decide) ?_
        refine lv_bipush (v := (50 : Int32)) hx hb dX8_isMore_67 kB_50 ?_
        refine lv_icmp_gt (tgt := 76) hx hb dX8_isMore_69 (by decide) (fun c69 => ?_) (fun c69 => ?_)
        · have hw := hw.1 c69
          refine lv_iconst (v := (0 : Int32)) hx hb dX8_isMore_76 kI_0 ?_
          rw [hZ]
          exact cx_retz () hx hb hr hlocks rfl hw hP hS dX8_isMore_77
        · have hw := hw.2 c69
          refine lv_iconst (v := (1 : Int32)) hx hb dX8_isMore_72 kI_1 ?_
          refine lv_goto (tgt := 77) hx hb dX8_isMore_73 (by decide) ?_
          rw [hZ]
          exact cx_retz () hx hb hr hlocks rfl hw hP hS dX8_isMore_77
  by_cases c1_3 : p1 = (3 : Int32)
  · have hw := hw.2.2.2.1 c1_3
    refine lv_tableIn (tgt := 40) hx hb dX8_isMore_1 (by rw [c1_3]; decide) (by rw [c1_3]; decide) (by rw [c1_3]; rfl) (by decide) ?_
    refine lv_iload_n hx hb dX8_isMore_40 rfl (lv_at hl 1 rfl) ?_
    refine lv_if_ne (tgt := 48) hx hb dX8_isMore_41 (by decide) (fun c41 => ?_) (fun c41 => ?_)
    · have hw := hw.1 c41
      refine lv_iconst (v := (0 : Int32)) hx hb dX8_isMore_48 kI_0 ?_
      rw [hZ]
      exact cx_retz () hx hb hr hlocks rfl hw hP hS dX8_isMore_49
    · have hw := hw.2 c41
      refine lv_iconst (v := (1 : Int32)) hx hb dX8_isMore_44 kI_1 ?_
      refine lv_goto (tgt := 49) hx hb dX8_isMore_45 (by decide) ?_
      rw [hZ]
      exact cx_retz () hx hb hr hlocks rfl hw hP hS dX8_isMore_49
  by_cases c1_4 : p1 = (4 : Int32)
  · have hw := hw.2.2.2.2.1 c1_4
    refine lv_tableIn (tgt := 78) hx hb dX8_isMore_1 (by rw [c1_4]; decide) (by rw [c1_4]; decide) (by rw [c1_4]; rfl) (by decide) ?_
    refine lv_iload_n hx hb dX8_isMore_78 rfl (lv_at hl 1 rfl) ?_
    refine lv_if_lt (tgt := 92) hx hb dX8_isMore_79 (by decide) (fun c79 => ?_) (fun c79 => ?_)
    · have hw := hw.1 c79
      refine lv_iconst (v := (0 : Int32)) hx hb dX8_isMore_92 kI_0 ?_
      rw [hZ]
      exact cx_retz () hx hb hr hlocks rfl hw hP hS dX8_isMore_93
    · have hw := hw.2 c79
      refine lv_iload_n hx hb dX8_isMore_82 rfl (lv_at hl 1 rfl) ?_
      refine lv_bipush (v := (15 : Int32)) hx hb dX8_isMore_83 kB_15 ?_
      refine lv_icmp_gt (tgt := 92) hx hb dX8_isMore_85 (by decide) (fun c85 => ?_) (fun c85 => ?_)
      · have hw := hw.1 c85
        refine lv_iconst (v := (0 : Int32)) hx hb dX8_isMore_92 kI_0 ?_
        rw [hZ]
        exact cx_retz () hx hb hr hlocks rfl hw hP hS dX8_isMore_93
      · have hw := hw.2 c85
        refine lv_iconst (v := (1 : Int32)) hx hb dX8_isMore_88 kI_1 ?_
        refine lv_goto (tgt := 93) hx hb dX8_isMore_89 (by decide) ?_
        rw [hZ]
        exact cx_retz () hx hb hr hlocks rfl hw hP hS dX8_isMore_93
  by_cases c1_5 : p1 = (5 : Int32)
  · have hw := hw.2.2.2.2.2.1 c1_5
    refine lv_tableIn (tgt := 94) hx hb dX8_isMore_1 (by rw [c1_5]; decide) (by rw [c1_5]; decide) (by rw [c1_5]; rfl) (by decide) ?_
    refine lv_iload_n hx hb dX8_isMore_94 rfl (lv_at hl 1 rfl) ?_
    refine lv_bipush (v := (16 : Int32)) hx hb dX8_isMore_95 kB_16 ?_
    refine lv_icmp_lt (tgt := 111) hx hb dX8_isMore_97 (by decide) (fun c97 => ?_) (fun c97 => ?_)
    · have hw := hw.1 c97
      refine lv_iconst (v := (0 : Int32)) hx hb dX8_isMore_111 kI_0 ?_
      rw [hZ]
      exact cx_retz () hx hb hr hlocks rfl hw hP hS dX8_isMore_112
    · have hw := hw.2 c97
      refine lv_iload_n hx hb dX8_isMore_100 rfl (lv_at hl 1 rfl) ?_
      refine lv_sipush (v := (255 : Int32)) hx hb dX8_isMore_101 kS_255 ?_
      refine lv_icmp_gt (tgt := 111) hx hb dX8_isMore_104 (by decide) (fun c104 => ?_) (fun c104 => ?_)
      · have hw := hw.1 c104
        refine lv_iconst (v := (0 : Int32)) hx hb dX8_isMore_111 kI_0 ?_
        rw [hZ]
        exact cx_retz () hx hb hr hlocks rfl hw hP hS dX8_isMore_112
      · have hw := hw.2 c104
        refine lv_iconst (v := (1 : Int32)) hx hb dX8_isMore_107 kI_1 ?_
        refine lv_goto (tgt := 112) hx hb dX8_isMore_108 (by decide) ?_
        rw [hZ]
        exact cx_retz () hx hb hr hlocks rfl hw hP hS dX8_isMore_112
  have hw := hw.2.2.2.2.2.2 c1_0 c1_1 c1_2 c1_3 c1_4 c1_5
  refine lv_tableOut (tgt := 113) hx hb dX8_isMore_1 (cx_sw6 p1 c1_0 c1_1 c1_2 c1_3 c1_4 c1_5) (by decide) ?_
  refine lv_iconst (v := (0 : Int32)) hx hb dX8_isMore_113 kI_0 ?_
  rw [hZ]
  exact cx_retz () hx hb hr hlocks rfl hw hP hS dX8_isMore_114
set_option maxRecDepth 100000 in
set_option maxHeartbeats 4000000 in
theorem c_X8_piece (l : Launch) (D : va_G) (cI cJ cZ cO : ClassId) (tS tT : Nat) (sz : Nat) (aM aM_strength aM_kind aM_more aM_glues aM_sheet aM_since aM_imageStrength aM_imageKind aM_imageMore aM_imageGlues aM_imagePieces aM_imageWarmth aM_imageSheet aM_imageDraw aM_stepWhat aM_stepPiece aM_stepPlace aM_stepSince aM_tape aM_shapes aM_pile aM_met aM_next aM_inputs aM_then : Nat) (M_pieces : Int32) (M_warmth : Int32) (M_draw : Int64) (M_steps : Int32) (M_undoable : Int32) (M_brought : Int32) (M_taped : Int32) (M_shapeMany : Int32) (M_ended : Int32) (M_cut : Int32) (M_mostPieces : Int32) (M_walks : Int32) (M_walked : Int32) (M_kind : Nat → Int32) (M_more : Nat → Int32) (M_glues : Nat → Int32) (p1 : Int32) (p2 : Int32) (p3 : Int32) (p4 : Int32) (p5 : Int32) (p6 : Int32) (Q : Int32 → (Nat → Int32) → (Nat → Int32) → (Nat → Int32) → (Int32) → Prop) (hw : wp_X8_piece M_kind M_more M_glues M_pieces p1 p2 p3 p4 p5 p6 Q) : Met l yX8_piece wsX8_piece rm_X8_piece (va_Pc [.ref aM, .int p1, .int p2, .int p3, .int p4, .int p5, .int p6] (cx_B tS tT cI cJ cZ cO D sz (w_X8_piece cI cJ cZ cO aM aM_strength aM_kind aM_more aM_glues aM_sheet aM_since aM_imageStrength aM_imageKind aM_imageMore aM_imageGlues aM_imagePieces aM_imageWarmth aM_imageSheet aM_imageDraw aM_stepWhat aM_stepPiece aM_stepPlace aM_stepSince aM_tape aM_shapes aM_pile aM_met aM_next aM_inputs aM_then M_pieces M_warmth M_draw M_steps M_undoable M_brought M_taped M_shapeMany M_ended M_cut M_mostPieces M_walks M_walked M_kind M_more M_glues))) (va_Qi (fun (r : Int32) (u : (Nat → Int32) × (Nat → Int32) × (Nat → Int32) × (Int32)) => Q r u.1 u.2.1 u.2.2.1 u.2.2.2) (fun (u : (Nat → Int32) × (Nat → Int32) × (Nat → Int32) × (Int32)) t => va_P D vwCl (w_X8_piece cI cJ cZ cO aM aM_strength aM_kind aM_more aM_glues aM_sheet aM_since aM_imageStrength aM_imageKind aM_imageMore aM_imageGlues aM_imagePieces aM_imageWarmth aM_imageSheet aM_imageDraw aM_stepWhat aM_stepPiece aM_stepPlace aM_stepSince aM_tape aM_shapes aM_pile aM_met aM_next aM_inputs aM_then u.2.2.2 M_warmth M_draw M_steps M_undoable M_brought M_taped M_shapeMany M_ended M_cut M_mostPieces M_walks M_walked u.1 u.2.1 u.2.2.1) t.heap) (va_A (w_X8_piece cI cJ cZ cO aM aM_strength aM_kind aM_more aM_glues aM_sheet aM_since aM_imageStrength aM_imageKind aM_imageMore aM_imageGlues aM_imagePieces aM_imageWarmth aM_imageSheet aM_imageDraw aM_stepWhat aM_stepPiece aM_stepPlace aM_stepSince aM_tape aM_shapes aM_pile aM_met aM_next aM_inputs aM_then M_pieces M_warmth M_draw M_steps M_undoable M_brought M_taped M_shapeMany M_ended M_cut M_mostPieces M_walks M_walked M_kind M_more M_glues) sz)) 0 0 (va_A (w_X8_piece cI cJ cZ cO aM aM_strength aM_kind aM_more aM_glues aM_sheet aM_since aM_imageStrength aM_imageKind aM_imageMore aM_imageGlues aM_imagePieces aM_imageWarmth aM_imageSheet aM_imageDraw aM_stepWhat aM_stepPiece aM_stepPlace aM_stepSince aM_tape aM_shapes aM_pile aM_met aM_next aM_inputs aM_then M_pieces M_warmth M_draw M_steps M_undoable M_brought M_taped M_shapeMany M_ended M_cut M_mostPieces M_walks M_walked M_kind M_more M_glues) sz) := by
  refine cx_met (cc := cX8_piece) (maxL := 7) (ret := (some .int)) (Qc := fun A => va_Qi (fun (r : Int32) (u : (Nat → Int32) × (Nat → Int32) × (Nat → Int32) × (Int32)) => Q r u.1 u.2.1 u.2.2.1 u.2.2.2) (fun (u : (Nat → Int32) × (Nat → Int32) × (Nat → Int32) × (Int32)) t => va_P D vwCl (w_X8_piece cI cJ cZ cO aM aM_strength aM_kind aM_more aM_glues aM_sheet aM_since aM_imageStrength aM_imageKind aM_imageMore aM_imageGlues aM_imagePieces aM_imageWarmth aM_imageSheet aM_imageDraw aM_stepWhat aM_stepPiece aM_stepPlace aM_stepSince aM_tape aM_shapes aM_pile aM_met aM_next aM_inputs aM_then u.2.2.2 M_warmth M_draw M_steps M_undoable M_brought M_taped M_shapeMany M_ended M_cut M_mostPieces M_walks M_walked u.1 u.2.1 u.2.2.1) t.heap) A) (lv := [(0, .ref aM), (1, .int p1), (2, .int p2), (3, .int p3), (4, .int p4), (5, .int p5), (6, .int p6)]) (by decide) rfl (Nat.le_of_ble_eq_true rfl) rfl ?_
  intro p e s m args below meth c A Z hx hb hr hlocks hts hown hml hE hK hA hZ
  have hown : s.vm.findClass RX8 = some m.cls := hown
  have k_0 := hts (.fieldLink RX8 92 "GrowingTilesModel" "pieces" "I") (List.mem_of_getElem? (i := 1) (by decide +kernel))
  have k_1 := hts (.fieldLink RX8 13 "GrowingTilesModel" "kind" "[I") (List.mem_of_getElem? (i := 2) (by decide +kernel))
  have k_2 := hts (.fieldLink RX8 16 "GrowingTilesModel" "more" "[I") (List.mem_of_getElem? (i := 3) (by decide +kernel))
  have k_3 := hts (.fieldLink RX8 19 "GrowingTilesModel" "glues" "[I") (List.mem_of_getElem? (i := 4) (by decide +kernel))
  intro H locs hP hD hS ls hl
  unfold wp_X8_piece at hw
  refine lv_aload_n hx hb dX8_piece_0 rfl (lv_at hl 0 rfl) ?_
  refine va_get (D := D) (ci := 8) (v := .int M_pieces) (C := RX8) (T := TX8) (N := 38) hx hb hts in_X8_piece_X8 hown hK hP 0 rfl rfl 4 (by decide) k_0 (fun _ h9 => h9) rfl dX8_piece_1 ?_
  refine lv_bipush (v := (40 : Int32)) hx hb dX8_piece_4 kB_40 ?_
  refine lv_icmp_eq (tgt := 48) hx hb dX8_piece_6 (by decide) (fun c6 => ?_) (fun c6 => ?_)
  · have hw := hw.1 c6
    refine lv_iconst (v := (-1 : Int32)) hx hb dX8_piece_48 kI_m1 ?_
    rw [hZ]
    exact cx_reti (M_kind, M_more, M_glues, M_pieces) hx hb hr hlocks hw hP hS dX8_piece_49
  · have hw := hw.2 c6
    refine lv_iload_n hx hb dX8_piece_9 rfl (lv_at hl 2 rfl) ?_
    refine cx_goi (va_runS (As := [.int p2]) (rest := []) ⟨hx, hb, hml, hown, hts⟩ (c_X8_isGlue l D cI cJ cZ cO tS tT H.size p2 _ hw) (va_cwS 1 hts gX8_piece_X8_isGlue rfl rfl rfl ps_X8_isGlue ⟨Nat.le_of_ble_eq_true rfl, Nat.le_of_ble_eq_true rfl⟩) (cx_preS (wc := w_X8_isGlue) hE hK hP hD hS hA [] rfl rfl) rfl rfl hl.1 rfl (lv_room (Nat.le_of_ble_eq_true rfl)) dX8_piece_10 ⟨Nat.le_of_ble_eq_true rfl, Nat.le_of_ble_eq_true rfl⟩) (fun (_ : Unit) => (w_X8_piece cI cJ cZ cO aM aM_strength aM_kind aM_more aM_glues aM_sheet aM_since aM_imageStrength aM_imageKind aM_imageMore aM_imageGlues aM_imagePieces aM_imageWarmth aM_imageSheet aM_imageDraw aM_stepWhat aM_stepPiece aM_stepPlace aM_stepSince aM_tape aM_shapes aM_pile aM_met aM_next aM_inputs aM_then M_pieces M_warmth M_draw M_steps M_undoable M_brought M_taped M_shapeMany M_ended M_cut M_mostPieces M_walks M_walked M_kind M_more M_glues)) [] [0, 1, 2, 3] (ads := []) (wr := [(aM, .inr (8, [.ref aM_strength, .ref aM_kind, .ref aM_more, .ref aM_glues, .int M_pieces, .int M_warmth, .long M_draw, .ref aM_sheet, .ref aM_since, .ref aM_imageStrength, .ref aM_imageKind, .ref aM_imageMore, .ref aM_imageGlues, .ref aM_imagePieces, .ref aM_imageWarmth, .ref aM_imageSheet, .ref aM_imageDraw, .ref aM_stepWhat, .ref aM_stepPiece, .ref aM_stepPlace, .ref aM_stepSince, .int M_steps, .int M_undoable, .int M_brought, .ref aM_tape, .int M_taped, .ref aM_shapes, .int M_shapeMany, .int M_ended, .int M_cut, .int M_mostPieces, .int M_walks, .int M_walked, .ref aM_pile, .ref aM_met, .ref aM_next, .ref aM_inputs, .ref aM_then])), (aM_kind, .inl (cI, 40, .inl M_kind)), (aM_more, .inl (cI, 40, .inl M_more)), (aM_glues, .inl (cI, 160, .inl M_glues))]) rfl rfl (fun u => rfl) (fun u => rfl) rfl (fun u => rfl) rfl (fun u => rfl) rfl hP hD hS hA (fun r10 u H locs hw hP hD hS => ?_)
    refine lv_if_eq (tgt := 48) hx hb dX8_piece_13 (by decide) (fun c13 => ?_) (fun c13 => ?_)
    · have hw := hw.1 c13
      refine lv_iconst (v := (-1 : Int32)) hx hb dX8_piece_48 kI_m1 ?_
      rw [hZ]
      exact cx_reti (M_kind, M_more, M_glues, M_pieces) hx hb hr hlocks hw hP hS dX8_piece_49
    · have hw := hw.2 c13
      refine lv_iload_n hx hb dX8_piece_16 rfl (lv_at hl 3 rfl) ?_
      refine cx_goi (va_runS (As := [.int p3]) (rest := []) ⟨hx, hb, hml, hown, hts⟩ (c_X8_isGlue l D cI cJ cZ cO tS tT H.size p3 _ hw) (va_cwS 1 hts gX8_piece_X8_isGlue rfl rfl rfl ps_X8_isGlue ⟨Nat.le_of_ble_eq_true rfl, Nat.le_of_ble_eq_true rfl⟩) (cx_preS (wc := w_X8_isGlue) hE hK hP hD hS hA [] rfl rfl) rfl rfl hl.1 rfl (lv_room (Nat.le_of_ble_eq_true rfl)) dX8_piece_17 ⟨Nat.le_of_ble_eq_true rfl, Nat.le_of_ble_eq_true rfl⟩) (fun (_ : Unit) => (w_X8_piece cI cJ cZ cO aM aM_strength aM_kind aM_more aM_glues aM_sheet aM_since aM_imageStrength aM_imageKind aM_imageMore aM_imageGlues aM_imagePieces aM_imageWarmth aM_imageSheet aM_imageDraw aM_stepWhat aM_stepPiece aM_stepPlace aM_stepSince aM_tape aM_shapes aM_pile aM_met aM_next aM_inputs aM_then M_pieces M_warmth M_draw M_steps M_undoable M_brought M_taped M_shapeMany M_ended M_cut M_mostPieces M_walks M_walked M_kind M_more M_glues)) [] [0, 1, 2, 3] (ads := []) (wr := [(aM, .inr (8, [.ref aM_strength, .ref aM_kind, .ref aM_more, .ref aM_glues, .int M_pieces, .int M_warmth, .long M_draw, .ref aM_sheet, .ref aM_since, .ref aM_imageStrength, .ref aM_imageKind, .ref aM_imageMore, .ref aM_imageGlues, .ref aM_imagePieces, .ref aM_imageWarmth, .ref aM_imageSheet, .ref aM_imageDraw, .ref aM_stepWhat, .ref aM_stepPiece, .ref aM_stepPlace, .ref aM_stepSince, .int M_steps, .int M_undoable, .int M_brought, .ref aM_tape, .int M_taped, .ref aM_shapes, .int M_shapeMany, .int M_ended, .int M_cut, .int M_mostPieces, .int M_walks, .int M_walked, .ref aM_pile, .ref aM_met, .ref aM_next, .ref aM_inputs, .ref aM_then])), (aM_kind, .inl (cI, 40, .inl M_kind)), (aM_more, .inl (cI, 40, .inl M_more)), (aM_glues, .inl (cI, 160, .inl M_glues))]) rfl rfl (fun u => rfl) (fun u => rfl) rfl (fun u => rfl) rfl (fun u => rfl) rfl hP hD hS hA (fun r17 u H locs hw hP hD hS => ?_)
      refine lv_if_eq (tgt := 48) hx hb dX8_piece_20 (by decide) (fun c20 => ?_) (fun c20 => ?_)
      · have hw := hw.1 c20
        refine lv_iconst (v := (-1 : Int32)) hx hb dX8_piece_48 kI_m1 ?_
        rw [hZ]
        exact cx_reti (M_kind, M_more, M_glues, M_pieces) hx hb hr hlocks hw hP hS dX8_piece_49
      · have hw := hw.2 c20
        refine lv_iload hx hb dX8_piece_23 (lv_at hl 4 rfl) ?_
        refine cx_goi (va_runS (As := [.int p4]) (rest := []) ⟨hx, hb, hml, hown, hts⟩ (c_X8_isGlue l D cI cJ cZ cO tS tT H.size p4 _ hw) (va_cwS 1 hts gX8_piece_X8_isGlue rfl rfl rfl ps_X8_isGlue ⟨Nat.le_of_ble_eq_true rfl, Nat.le_of_ble_eq_true rfl⟩) (cx_preS (wc := w_X8_isGlue) hE hK hP hD hS hA [] rfl rfl) rfl rfl hl.1 rfl (lv_room (Nat.le_of_ble_eq_true rfl)) dX8_piece_25 ⟨Nat.le_of_ble_eq_true rfl, Nat.le_of_ble_eq_true rfl⟩) (fun (_ : Unit) => (w_X8_piece cI cJ cZ cO aM aM_strength aM_kind aM_more aM_glues aM_sheet aM_since aM_imageStrength aM_imageKind aM_imageMore aM_imageGlues aM_imagePieces aM_imageWarmth aM_imageSheet aM_imageDraw aM_stepWhat aM_stepPiece aM_stepPlace aM_stepSince aM_tape aM_shapes aM_pile aM_met aM_next aM_inputs aM_then M_pieces M_warmth M_draw M_steps M_undoable M_brought M_taped M_shapeMany M_ended M_cut M_mostPieces M_walks M_walked M_kind M_more M_glues)) [] [0, 1, 2, 3] (ads := []) (wr := [(aM, .inr (8, [.ref aM_strength, .ref aM_kind, .ref aM_more, .ref aM_glues, .int M_pieces, .int M_warmth, .long M_draw, .ref aM_sheet, .ref aM_since, .ref aM_imageStrength, .ref aM_imageKind, .ref aM_imageMore, .ref aM_imageGlues, .ref aM_imagePieces, .ref aM_imageWarmth, .ref aM_imageSheet, .ref aM_imageDraw, .ref aM_stepWhat, .ref aM_stepPiece, .ref aM_stepPlace, .ref aM_stepSince, .int M_steps, .int M_undoable, .int M_brought, .ref aM_tape, .int M_taped, .ref aM_shapes, .int M_shapeMany, .int M_ended, .int M_cut, .int M_mostPieces, .int M_walks, .int M_walked, .ref aM_pile, .ref aM_met, .ref aM_next, .ref aM_inputs, .ref aM_then])), (aM_kind, .inl (cI, 40, .inl M_kind)), (aM_more, .inl (cI, 40, .inl M_more)), (aM_glues, .inl (cI, 160, .inl M_glues))]) rfl rfl (fun u => rfl) (fun u => rfl) rfl (fun u => rfl) rfl (fun u => rfl) rfl hP hD hS hA (fun r25 u H locs hw hP hD hS => ?_)
        refine lv_if_eq (tgt := 48) hx hb dX8_piece_28 (by decide) (fun c28 => ?_) (fun c28 => ?_)
        · have hw := hw.1 c28
          refine lv_iconst (v := (-1 : Int32)) hx hb dX8_piece_48 kI_m1 ?_
          rw [hZ]
          exact cx_reti (M_kind, M_more, M_glues, M_pieces) hx hb hr hlocks hw hP hS dX8_piece_49
        · have hw := hw.2 c28
          refine lv_iload hx hb dX8_piece_31 (lv_at hl 5 rfl) ?_
          refine cx_goi (va_runS (As := [.int p5]) (rest := []) ⟨hx, hb, hml, hown, hts⟩ (c_X8_isGlue l D cI cJ cZ cO tS tT H.size p5 _ hw) (va_cwS 1 hts gX8_piece_X8_isGlue rfl rfl rfl ps_X8_isGlue ⟨Nat.le_of_ble_eq_true rfl, Nat.le_of_ble_eq_true rfl⟩) (cx_preS (wc := w_X8_isGlue) hE hK hP hD hS hA [] rfl rfl) rfl rfl hl.1 rfl (lv_room (Nat.le_of_ble_eq_true rfl)) dX8_piece_33 ⟨Nat.le_of_ble_eq_true rfl, Nat.le_of_ble_eq_true rfl⟩) (fun (_ : Unit) => (w_X8_piece cI cJ cZ cO aM aM_strength aM_kind aM_more aM_glues aM_sheet aM_since aM_imageStrength aM_imageKind aM_imageMore aM_imageGlues aM_imagePieces aM_imageWarmth aM_imageSheet aM_imageDraw aM_stepWhat aM_stepPiece aM_stepPlace aM_stepSince aM_tape aM_shapes aM_pile aM_met aM_next aM_inputs aM_then M_pieces M_warmth M_draw M_steps M_undoable M_brought M_taped M_shapeMany M_ended M_cut M_mostPieces M_walks M_walked M_kind M_more M_glues)) [] [0, 1, 2, 3] (ads := []) (wr := [(aM, .inr (8, [.ref aM_strength, .ref aM_kind, .ref aM_more, .ref aM_glues, .int M_pieces, .int M_warmth, .long M_draw, .ref aM_sheet, .ref aM_since, .ref aM_imageStrength, .ref aM_imageKind, .ref aM_imageMore, .ref aM_imageGlues, .ref aM_imagePieces, .ref aM_imageWarmth, .ref aM_imageSheet, .ref aM_imageDraw, .ref aM_stepWhat, .ref aM_stepPiece, .ref aM_stepPlace, .ref aM_stepSince, .int M_steps, .int M_undoable, .int M_brought, .ref aM_tape, .int M_taped, .ref aM_shapes, .int M_shapeMany, .int M_ended, .int M_cut, .int M_mostPieces, .int M_walks, .int M_walked, .ref aM_pile, .ref aM_met, .ref aM_next, .ref aM_inputs, .ref aM_then])), (aM_kind, .inl (cI, 40, .inl M_kind)), (aM_more, .inl (cI, 40, .inl M_more)), (aM_glues, .inl (cI, 160, .inl M_glues))]) rfl rfl (fun u => rfl) (fun u => rfl) rfl (fun u => rfl) rfl (fun u => rfl) rfl hP hD hS hA (fun r33 u H locs hw hP hD hS => ?_)
          refine lv_if_eq (tgt := 48) hx hb dX8_piece_36 (by decide) (fun c36 => ?_) (fun c36 => ?_)
          · have hw := hw.1 c36
            refine lv_iconst (v := (-1 : Int32)) hx hb dX8_piece_48 kI_m1 ?_
            rw [hZ]
            exact cx_reti (M_kind, M_more, M_glues, M_pieces) hx hb hr hlocks hw hP hS dX8_piece_49
          · have hw := hw.2 c36
            refine lv_iload_n hx hb dX8_piece_39 rfl (lv_at hl 1 rfl) ?_
            refine lv_iload hx hb dX8_piece_40 (lv_at hl 6 rfl) ?_
            refine cx_goi (va_runS (As := [.int p1, .int p6]) (rest := []) ⟨hx, hb, hml, hown, hts⟩ (c_X8_isMore l D cI cJ cZ cO tS tT H.size p1 p6 _ hw) (va_cwS 2 hts gX8_piece_X8_isMore rfl rfl rfl ps_X8_isMore ⟨Nat.le_of_ble_eq_true rfl, Nat.le_of_ble_eq_true rfl⟩) (cx_preS (wc := w_X8_isMore) hE hK hP hD hS hA [] rfl rfl) rfl rfl hl.1 rfl (lv_room (Nat.le_of_ble_eq_true rfl)) dX8_piece_42 ⟨Nat.le_of_ble_eq_true rfl, Nat.le_of_ble_eq_true rfl⟩) (fun (_ : Unit) => (w_X8_piece cI cJ cZ cO aM aM_strength aM_kind aM_more aM_glues aM_sheet aM_since aM_imageStrength aM_imageKind aM_imageMore aM_imageGlues aM_imagePieces aM_imageWarmth aM_imageSheet aM_imageDraw aM_stepWhat aM_stepPiece aM_stepPlace aM_stepSince aM_tape aM_shapes aM_pile aM_met aM_next aM_inputs aM_then M_pieces M_warmth M_draw M_steps M_undoable M_brought M_taped M_shapeMany M_ended M_cut M_mostPieces M_walks M_walked M_kind M_more M_glues)) [] [0, 1, 2, 3] (ads := []) (wr := [(aM, .inr (8, [.ref aM_strength, .ref aM_kind, .ref aM_more, .ref aM_glues, .int M_pieces, .int M_warmth, .long M_draw, .ref aM_sheet, .ref aM_since, .ref aM_imageStrength, .ref aM_imageKind, .ref aM_imageMore, .ref aM_imageGlues, .ref aM_imagePieces, .ref aM_imageWarmth, .ref aM_imageSheet, .ref aM_imageDraw, .ref aM_stepWhat, .ref aM_stepPiece, .ref aM_stepPlace, .ref aM_stepSince, .int M_steps, .int M_undoable, .int M_brought, .ref aM_tape, .int M_taped, .ref aM_shapes, .int M_shapeMany, .int M_ended, .int M_cut, .int M_mostPieces, .int M_walks, .int M_walked, .ref aM_pile, .ref aM_met, .ref aM_next, .ref aM_inputs, .ref aM_then])), (aM_kind, .inl (cI, 40, .inl M_kind)), (aM_more, .inl (cI, 40, .inl M_more)), (aM_glues, .inl (cI, 160, .inl M_glues))]) rfl rfl (fun u => rfl) (fun u => rfl) rfl (fun u => rfl) rfl (fun u => rfl) rfl hP hD hS hA (fun r42 u H locs hw hP hD hS => ?_)
            refine lv_if_ne (tgt := 50) hx hb dX8_piece_45 (by decide) (fun c45 => ?_) (fun c45 => ?_)
            · have hw := hw.1 c45
              refine lv_aload_n hx hb dX8_piece_50 rfl (lv_at hl 0 rfl) ?_
              refine va_get (D := D) (ci := 8) (v := .ref aM_kind) (C := RX8) (T := TX8) (N := 38) hx hb hts in_X8_piece_X8 hown hK hP 0 rfl rfl 1 (by decide) k_1 (fun _ h9 => h9) rfl dX8_piece_51 ?_
              refine lv_aload_n hx hb dX8_piece_54 rfl (lv_at hl 0 rfl) ?_
              refine va_get (D := D) (ci := 8) (v := .int M_pieces) (C := RX8) (T := TX8) (N := 38) hx hb hts in_X8_piece_X8 hown hK hP 0 rfl rfl 4 (by decide) k_0 (fun _ h9 => h9) rfl dX8_piece_55 ?_
              refine lv_iload_n hx hb dX8_piece_58 rfl (lv_at hl 1 rfl) ?_
              have h59 := hw.1
              have hw := hw.2
              refine va_iast hx hb hK hP hD hS 1 0 rfl rfl h59 dX8_piece_59 (fun H locs hP hD hS => ?_)
              have hP : va_P D vwCl (w_X8_piece cI cJ cZ cO aM aM_strength aM_kind aM_more aM_glues aM_sheet aM_since aM_imageStrength aM_imageKind aM_imageMore aM_imageGlues aM_imagePieces aM_imageWarmth aM_imageSheet aM_imageDraw aM_stepWhat aM_stepPiece aM_stepPlace aM_stepSince aM_tape aM_shapes aM_pile aM_met aM_next aM_inputs aM_then M_pieces M_warmth M_draw M_steps M_undoable M_brought M_taped M_shapeMany M_ended M_cut M_mostPieces M_walks M_walked (upd M_kind M_pieces.toNatClampNeg p1) M_more M_glues) H := hP
              have hD : va_D A (w_X8_piece cI cJ cZ cO aM aM_strength aM_kind aM_more aM_glues aM_sheet aM_since aM_imageStrength aM_imageKind aM_imageMore aM_imageGlues aM_imagePieces aM_imageWarmth aM_imageSheet aM_imageDraw aM_stepWhat aM_stepPiece aM_stepPlace aM_stepSince aM_tape aM_shapes aM_pile aM_met aM_next aM_inputs aM_then M_pieces M_warmth M_draw M_steps M_undoable M_brought M_taped M_shapeMany M_ended M_cut M_mostPieces M_walks M_walked (upd M_kind M_pieces.toNatClampNeg p1) M_more M_glues) := hD
              obtain ⟨M_kind_59, e59⟩ : ∃ y : Nat → Int32, y = upd M_kind M_pieces.toNatClampNeg p1 := ⟨_, rfl⟩
              rw [← e59] at hP hD
              have hw := hw M_kind_59 e59
              refine lv_aload_n hx hb dX8_piece_60 rfl (lv_at hl 0 rfl) ?_
              refine va_get (D := D) (ci := 8) (v := .ref aM_more) (C := RX8) (T := TX8) (N := 38) hx hb hts in_X8_piece_X8 hown hK hP 0 rfl rfl 2 (by decide) k_2 (fun _ h9 => h9) rfl dX8_piece_61 ?_
              refine lv_aload_n hx hb dX8_piece_64 rfl (lv_at hl 0 rfl) ?_
              refine va_get (D := D) (ci := 8) (v := .int M_pieces) (C := RX8) (T := TX8) (N := 38) hx hb hts in_X8_piece_X8 hown hK hP 0 rfl rfl 4 (by decide) k_0 (fun _ h9 => h9) rfl dX8_piece_65 ?_
              refine lv_iload hx hb dX8_piece_68 (lv_at hl 6 rfl) ?_
              have h70 := hw.1
              have hw := hw.2
              refine va_iast hx hb hK hP hD hS 2 0 rfl rfl h70 dX8_piece_70 (fun H locs hP hD hS => ?_)
              have hP : va_P D vwCl (w_X8_piece cI cJ cZ cO aM aM_strength aM_kind aM_more aM_glues aM_sheet aM_since aM_imageStrength aM_imageKind aM_imageMore aM_imageGlues aM_imagePieces aM_imageWarmth aM_imageSheet aM_imageDraw aM_stepWhat aM_stepPiece aM_stepPlace aM_stepSince aM_tape aM_shapes aM_pile aM_met aM_next aM_inputs aM_then M_pieces M_warmth M_draw M_steps M_undoable M_brought M_taped M_shapeMany M_ended M_cut M_mostPieces M_walks M_walked M_kind_59 (upd M_more M_pieces.toNatClampNeg p6) M_glues) H := hP
              have hD : va_D A (w_X8_piece cI cJ cZ cO aM aM_strength aM_kind aM_more aM_glues aM_sheet aM_since aM_imageStrength aM_imageKind aM_imageMore aM_imageGlues aM_imagePieces aM_imageWarmth aM_imageSheet aM_imageDraw aM_stepWhat aM_stepPiece aM_stepPlace aM_stepSince aM_tape aM_shapes aM_pile aM_met aM_next aM_inputs aM_then M_pieces M_warmth M_draw M_steps M_undoable M_brought M_taped M_shapeMany M_ended M_cut M_mostPieces M_walks M_walked M_kind_59 (upd M_more M_pieces.toNatClampNeg p6) M_glues) := hD
              obtain ⟨M_more_70, e70⟩ : ∃ y : Nat → Int32, y = upd M_more M_pieces.toNatClampNeg p6 := ⟨_, rfl⟩
              rw [← e70] at hP hD
              have hw := hw M_more_70 e70
              refine lv_aload_n hx hb dX8_piece_71 rfl (lv_at hl 0 rfl) ?_
              refine va_get (D := D) (ci := 8) (v := .ref aM_glues) (C := RX8) (T := TX8) (N := 38) hx hb hts in_X8_piece_X8 hown hK hP 0 rfl rfl 3 (by decide) k_3 (fun _ h9 => h9) rfl dX8_piece_72 ?_
              refine lv_iconst (v := (4 : Int32)) hx hb dX8_piece_75 kI_4 ?_
              refine lv_aload_n hx hb dX8_piece_76 rfl (lv_at hl 0 rfl) ?_
              refine va_get (D := D) (ci := 8) (v := .int M_pieces) (C := RX8) (T := TX8) (N := 38) hx hb hts in_X8_piece_X8 hown hK hP 0 rfl rfl 4 (by decide) k_0 (fun _ h9 => h9) rfl dX8_piece_77 ?_
              refine lv_imul hx hb dX8_piece_80 ?_
              refine lv_iload_n hx hb dX8_piece_81 rfl (lv_at hl 2 rfl) ?_
              have h82 := hw.1
              have hw := hw.2
              refine va_iast hx hb hK hP hD hS 3 0 rfl rfl h82 dX8_piece_82 (fun H locs hP hD hS => ?_)
              have hP : va_P D vwCl (w_X8_piece cI cJ cZ cO aM aM_strength aM_kind aM_more aM_glues aM_sheet aM_since aM_imageStrength aM_imageKind aM_imageMore aM_imageGlues aM_imagePieces aM_imageWarmth aM_imageSheet aM_imageDraw aM_stepWhat aM_stepPiece aM_stepPlace aM_stepSince aM_tape aM_shapes aM_pile aM_met aM_next aM_inputs aM_then M_pieces M_warmth M_draw M_steps M_undoable M_brought M_taped M_shapeMany M_ended M_cut M_mostPieces M_walks M_walked M_kind_59 M_more_70 (upd M_glues ((4 : Int32) * M_pieces).toNatClampNeg p2)) H := hP
              have hD : va_D A (w_X8_piece cI cJ cZ cO aM aM_strength aM_kind aM_more aM_glues aM_sheet aM_since aM_imageStrength aM_imageKind aM_imageMore aM_imageGlues aM_imagePieces aM_imageWarmth aM_imageSheet aM_imageDraw aM_stepWhat aM_stepPiece aM_stepPlace aM_stepSince aM_tape aM_shapes aM_pile aM_met aM_next aM_inputs aM_then M_pieces M_warmth M_draw M_steps M_undoable M_brought M_taped M_shapeMany M_ended M_cut M_mostPieces M_walks M_walked M_kind_59 M_more_70 (upd M_glues ((4 : Int32) * M_pieces).toNatClampNeg p2)) := hD
              obtain ⟨M_glues_82, e82⟩ : ∃ y : Nat → Int32, y = upd M_glues ((4 : Int32) * M_pieces).toNatClampNeg p2 := ⟨_, rfl⟩
              rw [← e82] at hP hD
              have hw := hw M_glues_82 e82
              refine lv_aload_n hx hb dX8_piece_83 rfl (lv_at hl 0 rfl) ?_
              refine va_get (D := D) (ci := 8) (v := .ref aM_glues) (C := RX8) (T := TX8) (N := 38) hx hb hts in_X8_piece_X8 hown hK hP 0 rfl rfl 3 (by decide) k_3 (fun _ h9 => h9) rfl dX8_piece_84 ?_
              refine lv_iconst (v := (4 : Int32)) hx hb dX8_piece_87 kI_4 ?_
              refine lv_aload_n hx hb dX8_piece_88 rfl (lv_at hl 0 rfl) ?_
              refine va_get (D := D) (ci := 8) (v := .int M_pieces) (C := RX8) (T := TX8) (N := 38) hx hb hts in_X8_piece_X8 hown hK hP 0 rfl rfl 4 (by decide) k_0 (fun _ h9 => h9) rfl dX8_piece_89 ?_
              refine lv_imul hx hb dX8_piece_92 ?_
              refine lv_iconst (v := (1 : Int32)) hx hb dX8_piece_93 kI_1 ?_
              refine lv_iadd hx hb dX8_piece_94 ?_
              refine lv_iload_n hx hb dX8_piece_95 rfl (lv_at hl 3 rfl) ?_
              have h96 := hw.1
              have hw := hw.2
              refine va_iast hx hb hK hP hD hS 3 0 rfl rfl h96 dX8_piece_96 (fun H locs hP hD hS => ?_)
              have hP : va_P D vwCl (w_X8_piece cI cJ cZ cO aM aM_strength aM_kind aM_more aM_glues aM_sheet aM_since aM_imageStrength aM_imageKind aM_imageMore aM_imageGlues aM_imagePieces aM_imageWarmth aM_imageSheet aM_imageDraw aM_stepWhat aM_stepPiece aM_stepPlace aM_stepSince aM_tape aM_shapes aM_pile aM_met aM_next aM_inputs aM_then M_pieces M_warmth M_draw M_steps M_undoable M_brought M_taped M_shapeMany M_ended M_cut M_mostPieces M_walks M_walked M_kind_59 M_more_70 (upd M_glues_82 (((4 : Int32) * M_pieces) + (1 : Int32)).toNatClampNeg p3)) H := hP
              have hD : va_D A (w_X8_piece cI cJ cZ cO aM aM_strength aM_kind aM_more aM_glues aM_sheet aM_since aM_imageStrength aM_imageKind aM_imageMore aM_imageGlues aM_imagePieces aM_imageWarmth aM_imageSheet aM_imageDraw aM_stepWhat aM_stepPiece aM_stepPlace aM_stepSince aM_tape aM_shapes aM_pile aM_met aM_next aM_inputs aM_then M_pieces M_warmth M_draw M_steps M_undoable M_brought M_taped M_shapeMany M_ended M_cut M_mostPieces M_walks M_walked M_kind_59 M_more_70 (upd M_glues_82 (((4 : Int32) * M_pieces) + (1 : Int32)).toNatClampNeg p3)) := hD
              obtain ⟨M_glues_96, e96⟩ : ∃ y : Nat → Int32, y = upd M_glues_82 (((4 : Int32) * M_pieces) + (1 : Int32)).toNatClampNeg p3 := ⟨_, rfl⟩
              rw [← e96] at hP hD
              have hw := hw M_glues_96 e96
              refine lv_aload_n hx hb dX8_piece_97 rfl (lv_at hl 0 rfl) ?_
              refine va_get (D := D) (ci := 8) (v := .ref aM_glues) (C := RX8) (T := TX8) (N := 38) hx hb hts in_X8_piece_X8 hown hK hP 0 rfl rfl 3 (by decide) k_3 (fun _ h9 => h9) rfl dX8_piece_98 ?_
              refine lv_iconst (v := (4 : Int32)) hx hb dX8_piece_101 kI_4 ?_
              refine lv_aload_n hx hb dX8_piece_102 rfl (lv_at hl 0 rfl) ?_
              refine va_get (D := D) (ci := 8) (v := .int M_pieces) (C := RX8) (T := TX8) (N := 38) hx hb hts in_X8_piece_X8 hown hK hP 0 rfl rfl 4 (by decide) k_0 (fun _ h9 => h9) rfl dX8_piece_103 ?_
              refine lv_imul hx hb dX8_piece_106 ?_
              refine lv_iconst (v := (2 : Int32)) hx hb dX8_piece_107 kI_2 ?_
              refine lv_iadd hx hb dX8_piece_108 ?_
              refine lv_iload hx hb dX8_piece_109 (lv_at hl 4 rfl) ?_
              have h111 := hw.1
              have hw := hw.2
              refine va_iast hx hb hK hP hD hS 3 0 rfl rfl h111 dX8_piece_111 (fun H locs hP hD hS => ?_)
              have hP : va_P D vwCl (w_X8_piece cI cJ cZ cO aM aM_strength aM_kind aM_more aM_glues aM_sheet aM_since aM_imageStrength aM_imageKind aM_imageMore aM_imageGlues aM_imagePieces aM_imageWarmth aM_imageSheet aM_imageDraw aM_stepWhat aM_stepPiece aM_stepPlace aM_stepSince aM_tape aM_shapes aM_pile aM_met aM_next aM_inputs aM_then M_pieces M_warmth M_draw M_steps M_undoable M_brought M_taped M_shapeMany M_ended M_cut M_mostPieces M_walks M_walked M_kind_59 M_more_70 (upd M_glues_96 (((4 : Int32) * M_pieces) + (2 : Int32)).toNatClampNeg p4)) H := hP
              have hD : va_D A (w_X8_piece cI cJ cZ cO aM aM_strength aM_kind aM_more aM_glues aM_sheet aM_since aM_imageStrength aM_imageKind aM_imageMore aM_imageGlues aM_imagePieces aM_imageWarmth aM_imageSheet aM_imageDraw aM_stepWhat aM_stepPiece aM_stepPlace aM_stepSince aM_tape aM_shapes aM_pile aM_met aM_next aM_inputs aM_then M_pieces M_warmth M_draw M_steps M_undoable M_brought M_taped M_shapeMany M_ended M_cut M_mostPieces M_walks M_walked M_kind_59 M_more_70 (upd M_glues_96 (((4 : Int32) * M_pieces) + (2 : Int32)).toNatClampNeg p4)) := hD
              obtain ⟨M_glues_111, e111⟩ : ∃ y : Nat → Int32, y = upd M_glues_96 (((4 : Int32) * M_pieces) + (2 : Int32)).toNatClampNeg p4 := ⟨_, rfl⟩
              rw [← e111] at hP hD
              have hw := hw M_glues_111 e111
              refine lv_aload_n hx hb dX8_piece_112 rfl (lv_at hl 0 rfl) ?_
              refine va_get (D := D) (ci := 8) (v := .ref aM_glues) (C := RX8) (T := TX8) (N := 38) hx hb hts in_X8_piece_X8 hown hK hP 0 rfl rfl 3 (by decide) k_3 (fun _ h9 => h9) rfl dX8_piece_113 ?_
              refine lv_iconst (v := (4 : Int32)) hx hb dX8_piece_116 kI_4 ?_
              refine lv_aload_n hx hb dX8_piece_117 rfl (lv_at hl 0 rfl) ?_
              refine va_get (D := D) (ci := 8) (v := .int M_pieces) (C := RX8) (T := TX8) (N := 38) hx hb hts in_X8_piece_X8 hown hK hP 0 rfl rfl 4 (by decide) k_0 (fun _ h9 => h9) rfl dX8_piece_118 ?_
              refine lv_imul hx hb dX8_piece_121 ?_
              refine lv_iconst (v := (3 : Int32)) hx hb dX8_piece_122 kI_3 ?_
              refine lv_iadd hx hb dX8_piece_123 ?_
              refine lv_iload hx hb dX8_piece_124 (lv_at hl 5 rfl) ?_
              have h126 := hw.1
              have hw := hw.2
              refine va_iast hx hb hK hP hD hS 3 0 rfl rfl h126 dX8_piece_126 (fun H locs hP hD hS => ?_)
              have hP : va_P D vwCl (w_X8_piece cI cJ cZ cO aM aM_strength aM_kind aM_more aM_glues aM_sheet aM_since aM_imageStrength aM_imageKind aM_imageMore aM_imageGlues aM_imagePieces aM_imageWarmth aM_imageSheet aM_imageDraw aM_stepWhat aM_stepPiece aM_stepPlace aM_stepSince aM_tape aM_shapes aM_pile aM_met aM_next aM_inputs aM_then M_pieces M_warmth M_draw M_steps M_undoable M_brought M_taped M_shapeMany M_ended M_cut M_mostPieces M_walks M_walked M_kind_59 M_more_70 (upd M_glues_111 (((4 : Int32) * M_pieces) + (3 : Int32)).toNatClampNeg p5)) H := hP
              have hD : va_D A (w_X8_piece cI cJ cZ cO aM aM_strength aM_kind aM_more aM_glues aM_sheet aM_since aM_imageStrength aM_imageKind aM_imageMore aM_imageGlues aM_imagePieces aM_imageWarmth aM_imageSheet aM_imageDraw aM_stepWhat aM_stepPiece aM_stepPlace aM_stepSince aM_tape aM_shapes aM_pile aM_met aM_next aM_inputs aM_then M_pieces M_warmth M_draw M_steps M_undoable M_brought M_taped M_shapeMany M_ended M_cut M_mostPieces M_walks M_walked M_kind_59 M_more_70 (upd M_glues_111 (((4 : Int32) * M_pieces) + (3 : Int32)).toNatClampNeg p5)) := hD
              obtain ⟨M_glues_126, e126⟩ : ∃ y : Nat → Int32, y = upd M_glues_111 (((4 : Int32) * M_pieces) + (3 : Int32)).toNatClampNeg p5 := ⟨_, rfl⟩
              rw [← e126] at hP hD
              have hw := hw M_glues_126 e126
              refine lv_aload_n hx hb dX8_piece_127 rfl (lv_at hl 0 rfl) ?_
              refine lv_dup hx hb dX8_piece_128 rfl ?_
              refine va_get (D := D) (ci := 8) (v := .int M_pieces) (C := RX8) (T := TX8) (N := 38) hx hb hts in_X8_piece_X8 hown hK hP 0 rfl rfl 4 (by decide) k_0 (fun _ h9 => h9) rfl dX8_piece_129 ?_
              refine lv_iconst (v := (1 : Int32)) hx hb dX8_piece_132 kI_1 ?_
              refine lv_iadd hx hb dX8_piece_133 ?_
              refine lv_topi (fun M_pieces_134 e134 => ?_)
              have hw := hw M_pieces_134 e134
              refine va_put (D := D) (ci := 8) (v := .int M_pieces_134) (ty := .int) (C := RX8) (T := TX8) (N := 38) hx hb hts in_X8_piece_X8 tyX8 tyX8_ok nmX8 hown hK hP hD hS 0 rfl rfl 4 (by decide) k_0 (fun _ h9 => h9) rfl (tyX8_ok 4 (by decide)) rfl rfl (Nat.le_of_ble_eq_true rfl) dX8_piece_134 (fun H locs hP hD hS => ?_)
              have hP : va_P D vwCl (w_X8_piece cI cJ cZ cO aM aM_strength aM_kind aM_more aM_glues aM_sheet aM_since aM_imageStrength aM_imageKind aM_imageMore aM_imageGlues aM_imagePieces aM_imageWarmth aM_imageSheet aM_imageDraw aM_stepWhat aM_stepPiece aM_stepPlace aM_stepSince aM_tape aM_shapes aM_pile aM_met aM_next aM_inputs aM_then M_pieces_134 M_warmth M_draw M_steps M_undoable M_brought M_taped M_shapeMany M_ended M_cut M_mostPieces M_walks M_walked M_kind_59 M_more_70 M_glues_126) H := hP
              have hD : va_D A (w_X8_piece cI cJ cZ cO aM aM_strength aM_kind aM_more aM_glues aM_sheet aM_since aM_imageStrength aM_imageKind aM_imageMore aM_imageGlues aM_imagePieces aM_imageWarmth aM_imageSheet aM_imageDraw aM_stepWhat aM_stepPiece aM_stepPlace aM_stepSince aM_tape aM_shapes aM_pile aM_met aM_next aM_inputs aM_then M_pieces_134 M_warmth M_draw M_steps M_undoable M_brought M_taped M_shapeMany M_ended M_cut M_mostPieces M_walks M_walked M_kind_59 M_more_70 M_glues_126) := hD
              refine lv_aload_n hx hb dX8_piece_137 rfl (lv_at hl 0 rfl) ?_
              refine va_get (D := D) (ci := 8) (v := .int M_pieces_134) (C := RX8) (T := TX8) (N := 38) hx hb hts in_X8_piece_X8 hown hK hP 0 rfl rfl 4 (by decide) k_0 (fun _ h9 => h9) rfl dX8_piece_138 ?_
              refine lv_iconst (v := (1 : Int32)) hx hb dX8_piece_141 kI_1 ?_
              refine lv_isub hx hb dX8_piece_142 ?_
              rw [hZ]
              exact cx_reti (M_kind_59, M_more_70, M_glues_126, M_pieces_134) hx hb hr hlocks hw hP hS dX8_piece_143
            · have hw := hw.2 c45
              refine lv_iconst (v := (-1 : Int32)) hx hb dX8_piece_48 kI_m1 ?_
              rw [hZ]
              exact cx_reti (M_kind, M_more, M_glues, M_pieces) hx hb hr hlocks hw hP hS dX8_piece_49
set_option maxRecDepth 100000 in
set_option maxHeartbeats 4000000 in
theorem c_X8_four (l : Launch) (D : va_G) (cI cJ cZ cO : ClassId) (tS tT : Nat) (sz : Nat) (aM aM_strength aM_kind aM_more aM_glues aM_sheet aM_since aM_imageStrength aM_imageKind aM_imageMore aM_imageGlues aM_imagePieces aM_imageWarmth aM_imageSheet aM_imageDraw aM_stepWhat aM_stepPiece aM_stepPlace aM_stepSince aM_tape aM_shapes aM_pile aM_met aM_next aM_inputs aM_then : Nat) (M_pieces : Int32) (M_warmth : Int32) (M_draw : Int64) (M_steps : Int32) (M_undoable : Int32) (M_brought : Int32) (M_taped : Int32) (M_shapeMany : Int32) (M_ended : Int32) (M_cut : Int32) (M_mostPieces : Int32) (M_walks : Int32) (M_walked : Int32) (M_tape : Nat → Int32) (p1 : Int32) (Q : (Nat → Int32) → (Int32) → Prop) (hw : wp_X8_four M_tape M_taped p1 Q) : Met l yX8_four wsX8_four rm_X8_four (va_Pc [.ref aM, .int p1] (cx_B tS tT cI cJ cZ cO D sz (w_X8_four cI cJ cZ cO aM aM_strength aM_kind aM_more aM_glues aM_sheet aM_since aM_imageStrength aM_imageKind aM_imageMore aM_imageGlues aM_imagePieces aM_imageWarmth aM_imageSheet aM_imageDraw aM_stepWhat aM_stepPiece aM_stepPlace aM_stepSince aM_tape aM_shapes aM_pile aM_met aM_next aM_inputs aM_then M_pieces M_warmth M_draw M_steps M_undoable M_brought M_taped M_shapeMany M_ended M_cut M_mostPieces M_walks M_walked M_tape))) (va_Qv (fun (u : (Nat → Int32) × (Int32)) => Q u.1 u.2) (fun (u : (Nat → Int32) × (Int32)) t => va_P D vwCl (w_X8_four cI cJ cZ cO aM aM_strength aM_kind aM_more aM_glues aM_sheet aM_since aM_imageStrength aM_imageKind aM_imageMore aM_imageGlues aM_imagePieces aM_imageWarmth aM_imageSheet aM_imageDraw aM_stepWhat aM_stepPiece aM_stepPlace aM_stepSince aM_tape aM_shapes aM_pile aM_met aM_next aM_inputs aM_then M_pieces M_warmth M_draw M_steps M_undoable M_brought u.2 M_shapeMany M_ended M_cut M_mostPieces M_walks M_walked u.1) t.heap) (va_A (w_X8_four cI cJ cZ cO aM aM_strength aM_kind aM_more aM_glues aM_sheet aM_since aM_imageStrength aM_imageKind aM_imageMore aM_imageGlues aM_imagePieces aM_imageWarmth aM_imageSheet aM_imageDraw aM_stepWhat aM_stepPiece aM_stepPlace aM_stepSince aM_tape aM_shapes aM_pile aM_met aM_next aM_inputs aM_then M_pieces M_warmth M_draw M_steps M_undoable M_brought M_taped M_shapeMany M_ended M_cut M_mostPieces M_walks M_walked M_tape) sz)) 0 0 (va_A (w_X8_four cI cJ cZ cO aM aM_strength aM_kind aM_more aM_glues aM_sheet aM_since aM_imageStrength aM_imageKind aM_imageMore aM_imageGlues aM_imagePieces aM_imageWarmth aM_imageSheet aM_imageDraw aM_stepWhat aM_stepPiece aM_stepPlace aM_stepSince aM_tape aM_shapes aM_pile aM_met aM_next aM_inputs aM_then M_pieces M_warmth M_draw M_steps M_undoable M_brought M_taped M_shapeMany M_ended M_cut M_mostPieces M_walks M_walked M_tape) sz) := by
  refine cx_met (cc := cX8_four) (maxL := 3) (ret := none) (Qc := fun A => va_Qv (fun (u : (Nat → Int32) × (Int32)) => Q u.1 u.2) (fun (u : (Nat → Int32) × (Int32)) t => va_P D vwCl (w_X8_four cI cJ cZ cO aM aM_strength aM_kind aM_more aM_glues aM_sheet aM_since aM_imageStrength aM_imageKind aM_imageMore aM_imageGlues aM_imagePieces aM_imageWarmth aM_imageSheet aM_imageDraw aM_stepWhat aM_stepPiece aM_stepPlace aM_stepSince aM_tape aM_shapes aM_pile aM_met aM_next aM_inputs aM_then M_pieces M_warmth M_draw M_steps M_undoable M_brought u.2 M_shapeMany M_ended M_cut M_mostPieces M_walks M_walked u.1) t.heap) A) (lv := [(0, .ref aM), (1, .int p1)]) (by decide) rfl (Nat.le_of_ble_eq_true rfl) rfl ?_
  intro p e s m args below meth c A Z hx hb hr hlocks hts hown hml hE hK hA hZ
  have hown : s.vm.findClass RX8 = some m.cls := hown
  have k_0 := hts (.fieldLink RX8 69 "GrowingTilesModel" "tape" "[I") (List.mem_of_getElem? (i := 1) (by decide +kernel))
  have k_1 := hts (.fieldLink RX8 107 "GrowingTilesModel" "taped" "I") (List.mem_of_getElem? (i := 2) (by decide +kernel))
  have b_3 : ∀ n_3 : Nat, ∀ (M_tape : Nat → Int32) (M_taped : Int32) (x1 : Int32) (x2 : Int32), wq_X8_four_3  Q n_3 M_tape M_taped x1 x2 → ∀ (H : Heap) (locs : List Loc), va_P D vwCl (w_X8_four cI cJ cZ cO aM aM_strength aM_kind aM_more aM_glues aM_sheet aM_since aM_imageStrength aM_imageKind aM_imageMore aM_imageGlues aM_imagePieces aM_imageWarmth aM_imageSheet aM_imageDraw aM_stepWhat aM_stepPiece aM_stepPlace aM_stepSince aM_tape aM_shapes aM_pile aM_met aM_next aM_inputs aM_then M_pieces M_warmth M_draw M_steps M_undoable M_brought M_taped M_shapeMany M_ended M_cut M_mostPieces M_walks M_walked M_tape) H → va_D A (w_X8_four cI cJ cZ cO aM aM_strength aM_kind aM_more aM_glues aM_sheet aM_since aM_imageStrength aM_imageKind aM_imageMore aM_imageGlues aM_imagePieces aM_imageWarmth aM_imageSheet aM_imageDraw aM_stepWhat aM_stepPiece aM_stepPlace aM_stepSince aM_tape aM_shapes aM_pile aM_met aM_next aM_inputs aM_then M_pieces M_warmth M_draw M_steps M_undoable M_brought M_taped M_shapeMany M_ended M_cut M_mostPieces M_walks M_walked M_tape) → va_S A s.heap H locs → ∀ ls : Array Slot, lv_has ls 3 [(0, .ref aM), (1, .int x1), (2, .int x2)] → W p l e rm_X8_four s m args below meth c H locs 0 0 Z (F0 m 3 ls []) := by
    intro n_3
    induction n_3 with
    | zero => intro M_tape M_taped x1 x2 hw; exact False.elim hw
    | succ n_3 ih_3 =>
      intro M_tape M_taped x1 x2 hw H locs hP hD hS ls hl
      have hw : wf_X8_four_3  Q (wq_X8_four_3  Q n_3) M_tape M_taped x1 x2 := hw
      unfold wf_X8_four_3 at hw
      refine lv_iload_n hx hb dX8_four_3 rfl (lv_at hl 2 rfl) ?_
      refine lv_if_lt (tgt := 39) hx hb dX8_four_4 (by decide) (fun c4 => ?_) (fun c4 => ?_)
      · have hw := hw.1 c4
        rw [hZ]
        exact cx_retv (M_tape, M_taped) hx hb hr hlocks hw hP hS dX8_four_39
      · have hw := hw.2 c4
        refine lv_aload_n hx hb dX8_four_7 rfl (lv_at hl 0 rfl) ?_
        refine va_get (D := D) (ci := 8) (v := .ref aM_tape) (C := RX8) (T := TX8) (N := 38) hx hb hts in_X8_four_X8 hown hK hP 0 rfl rfl 24 (by decide) k_0 (fun _ h9 => h9) rfl dX8_four_8 ?_
        refine lv_aload_n hx hb dX8_four_11 rfl (lv_at hl 0 rfl) ?_
        refine va_get (D := D) (ci := 8) (v := .int M_taped) (C := RX8) (T := TX8) (N := 38) hx hb hts in_X8_four_X8 hown hK hP 0 rfl rfl 25 (by decide) k_1 (fun _ h9 => h9) rfl dX8_four_12 ?_
        refine lv_iload_n hx hb dX8_four_15 rfl (lv_at hl 1 rfl) ?_
        refine lv_iload_n hx hb dX8_four_16 rfl (lv_at hl 2 rfl) ?_
        refine lv_ishr hx hb dX8_four_17 ?_
        refine lv_sipush (v := (255 : Int32)) hx hb dX8_four_18 kS_255 ?_
        refine lv_iand hx hb dX8_four_21 ?_
        have h22 := hw.1
        have hw := hw.2
        refine va_iast hx hb hK hP hD hS 1 0 rfl rfl h22 dX8_four_22 (fun H locs hP hD hS => ?_)
        have hP : va_P D vwCl (w_X8_four cI cJ cZ cO aM aM_strength aM_kind aM_more aM_glues aM_sheet aM_since aM_imageStrength aM_imageKind aM_imageMore aM_imageGlues aM_imagePieces aM_imageWarmth aM_imageSheet aM_imageDraw aM_stepWhat aM_stepPiece aM_stepPlace aM_stepSince aM_tape aM_shapes aM_pile aM_met aM_next aM_inputs aM_then M_pieces M_warmth M_draw M_steps M_undoable M_brought M_taped M_shapeMany M_ended M_cut M_mostPieces M_walks M_walked (upd M_tape M_taped.toNatClampNeg ((x1 >>> (x2 &&& 31)) &&& (255 : Int32)))) H := hP
        have hD : va_D A (w_X8_four cI cJ cZ cO aM aM_strength aM_kind aM_more aM_glues aM_sheet aM_since aM_imageStrength aM_imageKind aM_imageMore aM_imageGlues aM_imagePieces aM_imageWarmth aM_imageSheet aM_imageDraw aM_stepWhat aM_stepPiece aM_stepPlace aM_stepSince aM_tape aM_shapes aM_pile aM_met aM_next aM_inputs aM_then M_pieces M_warmth M_draw M_steps M_undoable M_brought M_taped M_shapeMany M_ended M_cut M_mostPieces M_walks M_walked (upd M_tape M_taped.toNatClampNeg ((x1 >>> (x2 &&& 31)) &&& (255 : Int32)))) := hD
        obtain ⟨M_tape_22, e22⟩ : ∃ y : Nat → Int32, y = upd M_tape M_taped.toNatClampNeg ((x1 >>> (x2 &&& 31)) &&& (255 : Int32)) := ⟨_, rfl⟩
        rw [← e22] at hP hD
        have hw := hw M_tape_22 e22
        refine lv_aload_n hx hb dX8_four_23 rfl (lv_at hl 0 rfl) ?_
        refine lv_dup hx hb dX8_four_24 rfl ?_
        refine va_get (D := D) (ci := 8) (v := .int M_taped) (C := RX8) (T := TX8) (N := 38) hx hb hts in_X8_four_X8 hown hK hP 0 rfl rfl 25 (by decide) k_1 (fun _ h9 => h9) rfl dX8_four_25 ?_
        refine lv_iconst (v := (1 : Int32)) hx hb dX8_four_28 kI_1 ?_
        refine lv_iadd hx hb dX8_four_29 ?_
        refine lv_topi (fun M_taped_30 e30 => ?_)
        have hw := hw M_taped_30 e30
        refine va_put (D := D) (ci := 8) (v := .int M_taped_30) (ty := .int) (C := RX8) (T := TX8) (N := 38) hx hb hts in_X8_four_X8 tyX8 tyX8_ok nmX8 hown hK hP hD hS 0 rfl rfl 25 (by decide) k_1 (fun _ h9 => h9) rfl (tyX8_ok 25 (by decide)) rfl rfl (Nat.le_of_ble_eq_true rfl) dX8_four_30 (fun H locs hP hD hS => ?_)
        have hP : va_P D vwCl (w_X8_four cI cJ cZ cO aM aM_strength aM_kind aM_more aM_glues aM_sheet aM_since aM_imageStrength aM_imageKind aM_imageMore aM_imageGlues aM_imagePieces aM_imageWarmth aM_imageSheet aM_imageDraw aM_stepWhat aM_stepPiece aM_stepPlace aM_stepSince aM_tape aM_shapes aM_pile aM_met aM_next aM_inputs aM_then M_pieces M_warmth M_draw M_steps M_undoable M_brought M_taped_30 M_shapeMany M_ended M_cut M_mostPieces M_walks M_walked M_tape_22) H := hP
        have hD : va_D A (w_X8_four cI cJ cZ cO aM aM_strength aM_kind aM_more aM_glues aM_sheet aM_since aM_imageStrength aM_imageKind aM_imageMore aM_imageGlues aM_imagePieces aM_imageWarmth aM_imageSheet aM_imageDraw aM_stepWhat aM_stepPiece aM_stepPlace aM_stepSince aM_tape aM_shapes aM_pile aM_met aM_next aM_inputs aM_then M_pieces M_warmth M_draw M_steps M_undoable M_brought M_taped_30 M_shapeMany M_ended M_cut M_mostPieces M_walks M_walked M_tape_22) := hD
        obtain ⟨v33, e33⟩ : ∃ y : Int32, y = x2 + (-8 : Int32) := ⟨_, rfl⟩
        have hw := hw v33 e33
        refine lv_iinc (v := v33) (lv' := [(2, .int v33), (0, .ref aM), (1, .int x1)]) hx hb dX8_four_33 hl (k := 2) rfl (by rw [e33, kI_m8]) (by decide) rfl (fun ls hl => ?_)
        refine lv_goto (tgt := 3) hx hb dX8_four_36 (by decide) ?_
        exact ih_3 M_tape_22 M_taped_30 x1 v33 hw H locs hP hD hS ls (lv_sub hl [1, 2, 0] rfl)
  intro H locs hP hD hS ls hl
  unfold wp_X8_four at hw
  refine lv_bipush (v := (24 : Int32)) hx hb dX8_four_0 kB_24 ?_
  refine lv_istore_n (lv' := [(2, .int (24 : Int32)), (0, .ref aM), (1, .int p1)]) hx hb dX8_four_2 rfl hl (by decide) rfl (fun ls hl => ?_)
  obtain ⟨k, hw⟩ := hw
  exact b_3 k M_tape M_taped p1 (24 : Int32) hw H locs hP hD hS ls (lv_sub hl [1, 2, 0] rfl)
set_option maxRecDepth 100000 in
set_option maxHeartbeats 4000000 in
theorem c_X8_feed (l : Launch) (D : va_G) (cI cJ cZ cO : ClassId) (tS tT : Nat) (sz : Nat) (aM aM_strength aM_kind aM_more aM_glues aM_sheet aM_since aM_imageStrength aM_imageKind aM_imageMore aM_imageGlues aM_imagePieces aM_imageWarmth aM_imageSheet aM_imageDraw aM_stepWhat aM_stepPiece aM_stepPlace aM_stepSince aM_tape aM_shapes aM_pile aM_met aM_next aM_inputs aM_then : Nat) (M_pieces : Int32) (M_warmth : Int32) (M_draw : Int64) (M_steps : Int32) (M_undoable : Int32) (M_brought : Int32) (M_taped : Int32) (M_shapeMany : Int32) (M_ended : Int32) (M_cut : Int32) (M_mostPieces : Int32) (M_walks : Int32) (M_walked : Int32) (M_tape : Nat → Int32) (p1 : Int32) (p2 : Int32) (p3 : Int32) (p4 : Int32) (p5 : Int32) (Q : Int32 → (Nat → Int32) → (Int32) → Prop) (hw : wp_X8_feed M_tape M_taped p1 p2 p3 p4 p5 Q) : Met l yX8_feed wsX8_feed rm_X8_feed (va_Pc [.ref aM, .int p1, .int p2, .int p3, .int p4, .int p5] (cx_B tS tT cI cJ cZ cO D sz (w_X8_feed cI cJ cZ cO aM aM_strength aM_kind aM_more aM_glues aM_sheet aM_since aM_imageStrength aM_imageKind aM_imageMore aM_imageGlues aM_imagePieces aM_imageWarmth aM_imageSheet aM_imageDraw aM_stepWhat aM_stepPiece aM_stepPlace aM_stepSince aM_tape aM_shapes aM_pile aM_met aM_next aM_inputs aM_then M_pieces M_warmth M_draw M_steps M_undoable M_brought M_taped M_shapeMany M_ended M_cut M_mostPieces M_walks M_walked M_tape))) (va_Qi (fun (r : Int32) (u : (Nat → Int32) × (Int32)) => Q r u.1 u.2) (fun (u : (Nat → Int32) × (Int32)) t => va_P D vwCl (w_X8_feed cI cJ cZ cO aM aM_strength aM_kind aM_more aM_glues aM_sheet aM_since aM_imageStrength aM_imageKind aM_imageMore aM_imageGlues aM_imagePieces aM_imageWarmth aM_imageSheet aM_imageDraw aM_stepWhat aM_stepPiece aM_stepPlace aM_stepSince aM_tape aM_shapes aM_pile aM_met aM_next aM_inputs aM_then M_pieces M_warmth M_draw M_steps M_undoable M_brought u.2 M_shapeMany M_ended M_cut M_mostPieces M_walks M_walked u.1) t.heap) (va_A (w_X8_feed cI cJ cZ cO aM aM_strength aM_kind aM_more aM_glues aM_sheet aM_since aM_imageStrength aM_imageKind aM_imageMore aM_imageGlues aM_imagePieces aM_imageWarmth aM_imageSheet aM_imageDraw aM_stepWhat aM_stepPiece aM_stepPlace aM_stepSince aM_tape aM_shapes aM_pile aM_met aM_next aM_inputs aM_then M_pieces M_warmth M_draw M_steps M_undoable M_brought M_taped M_shapeMany M_ended M_cut M_mostPieces M_walks M_walked M_tape) sz)) 0 0 (va_A (w_X8_feed cI cJ cZ cO aM aM_strength aM_kind aM_more aM_glues aM_sheet aM_since aM_imageStrength aM_imageKind aM_imageMore aM_imageGlues aM_imagePieces aM_imageWarmth aM_imageSheet aM_imageDraw aM_stepWhat aM_stepPiece aM_stepPlace aM_stepSince aM_tape aM_shapes aM_pile aM_met aM_next aM_inputs aM_then M_pieces M_warmth M_draw M_steps M_undoable M_brought M_taped M_shapeMany M_ended M_cut M_mostPieces M_walks M_walked M_tape) sz) := by
  refine cx_met (cc := cX8_feed) (maxL := 6) (ret := (some .int)) (Qc := fun A => va_Qi (fun (r : Int32) (u : (Nat → Int32) × (Int32)) => Q r u.1 u.2) (fun (u : (Nat → Int32) × (Int32)) t => va_P D vwCl (w_X8_feed cI cJ cZ cO aM aM_strength aM_kind aM_more aM_glues aM_sheet aM_since aM_imageStrength aM_imageKind aM_imageMore aM_imageGlues aM_imagePieces aM_imageWarmth aM_imageSheet aM_imageDraw aM_stepWhat aM_stepPiece aM_stepPlace aM_stepSince aM_tape aM_shapes aM_pile aM_met aM_next aM_inputs aM_then M_pieces M_warmth M_draw M_steps M_undoable M_brought u.2 M_shapeMany M_ended M_cut M_mostPieces M_walks M_walked u.1) t.heap) A) (lv := [(0, .ref aM), (1, .int p1), (2, .int p2), (3, .int p3), (4, .int p4), (5, .int p5)]) (by decide) rfl (Nat.le_of_ble_eq_true rfl) rfl ?_
  intro p e s m args below meth c A Z hx hb hr hlocks hts hown hml hE hK hA hZ
  have hown : s.vm.findClass RX8 = some m.cls := hown
  have k_0 := hts (.fieldLink RX8 107 "GrowingTilesModel" "taped" "I") (List.mem_of_getElem? (i := 1) (by decide +kernel))
  intro H locs hP hD hS ls hl
  unfold wp_X8_feed at hw
  refine lv_aload_n hx hb dX8_feed_0 rfl (lv_at hl 0 rfl) ?_
  refine va_get (D := D) (ci := 8) (v := .int M_taped) (C := RX8) (T := TX8) (N := 38) hx hb hts in_X8_feed_X8 hown hK hP 0 rfl rfl 25 (by decide) k_0 (fun _ h9 => h9) rfl dX8_feed_1 ?_
  refine lv_bipush (v := (20 : Int32)) hx hb dX8_feed_4 kB_20 ?_
  refine lv_iadd hx hb dX8_feed_6 ?_
  refine lv_sipush (v := (400 : Int32)) hx hb dX8_feed_7 kS_400 ?_
  refine lv_icmp_le (tgt := 15) hx hb dX8_feed_10 (by decide) (fun c10 => ?_) (fun c10 => ?_)
  · have hw := hw.1 c10
    refine lv_aload_n hx hb dX8_feed_15 rfl (lv_at hl 0 rfl) ?_
    refine lv_iload_n hx hb dX8_feed_16 rfl (lv_at hl 1 rfl) ?_
    refine cx_gov (va_runV (As := [.int p1]) (rest := []) ⟨hx, hb, hml, hown, hts⟩ (c_X8_four l D cI cJ cZ cO tS tT H.size aM aM_strength aM_kind aM_more aM_glues aM_sheet aM_since aM_imageStrength aM_imageKind aM_imageMore aM_imageGlues aM_imagePieces aM_imageWarmth aM_imageSheet aM_imageDraw aM_stepWhat aM_stepPiece aM_stepPlace aM_stepSince aM_tape aM_shapes aM_pile aM_met aM_next aM_inputs aM_then M_pieces M_warmth M_draw M_steps M_undoable M_brought M_taped M_shapeMany M_ended M_cut M_mostPieces M_walks M_walked M_tape p1 _ hw) (cwV 1 hts gX8_feed_X8_four rfl rfl rfl pv_X8_four ⟨Nat.le_of_ble_eq_true rfl, Nat.le_of_ble_eq_true rfl⟩) (cx_preV (wc := w_X8_four cI cJ cZ cO aM aM_strength aM_kind aM_more aM_glues aM_sheet aM_since aM_imageStrength aM_imageKind aM_imageMore aM_imageGlues aM_imagePieces aM_imageWarmth aM_imageSheet aM_imageDraw aM_stepWhat aM_stepPiece aM_stepPlace aM_stepSince aM_tape aM_shapes aM_pile aM_met aM_next aM_inputs aM_then M_pieces M_warmth M_draw M_steps M_undoable M_brought M_taped M_shapeMany M_ended M_cut M_mostPieces M_walks M_walked M_tape) hE hK hP hD hS hA [0, 1] rfl rfl (va_recv hK hP (ci := 8) (q0 := 0) rfl rfl)) rfl rfl hl.1 rfl (lv_room (Nat.le_of_ble_eq_true rfl)) dX8_feed_17 ⟨Nat.le_of_ble_eq_true rfl, Nat.le_of_ble_eq_true rfl⟩) (fun (u : (Nat → Int32) × (Int32)) => (w_X8_feed cI cJ cZ cO aM aM_strength aM_kind aM_more aM_glues aM_sheet aM_since aM_imageStrength aM_imageKind aM_imageMore aM_imageGlues aM_imagePieces aM_imageWarmth aM_imageSheet aM_imageDraw aM_stepWhat aM_stepPiece aM_stepPlace aM_stepSince aM_tape aM_shapes aM_pile aM_met aM_next aM_inputs aM_then M_pieces M_warmth M_draw M_steps M_undoable M_brought u.2 M_shapeMany M_ended M_cut M_mostPieces M_walks M_walked u.1)) [0, 1] [] (ads := [aM, aM_tape]) (wr := []) rfl rfl (fun u => rfl) (fun u => rfl) rfl (fun u => rfl) rfl (fun u => rfl) rfl hP hD hS hA (fun u H locs hw hP hD hS => ?_)
    obtain ⟨M_tape_17, M_taped_17⟩ := u
    try dsimp only at hw
    have hP : va_P D vwCl (w_X8_feed cI cJ cZ cO aM aM_strength aM_kind aM_more aM_glues aM_sheet aM_since aM_imageStrength aM_imageKind aM_imageMore aM_imageGlues aM_imagePieces aM_imageWarmth aM_imageSheet aM_imageDraw aM_stepWhat aM_stepPiece aM_stepPlace aM_stepSince aM_tape aM_shapes aM_pile aM_met aM_next aM_inputs aM_then M_pieces M_warmth M_draw M_steps M_undoable M_brought M_taped_17 M_shapeMany M_ended M_cut M_mostPieces M_walks M_walked M_tape_17) H := hP
    have hD : va_D A (w_X8_feed cI cJ cZ cO aM aM_strength aM_kind aM_more aM_glues aM_sheet aM_since aM_imageStrength aM_imageKind aM_imageMore aM_imageGlues aM_imagePieces aM_imageWarmth aM_imageSheet aM_imageDraw aM_stepWhat aM_stepPiece aM_stepPlace aM_stepSince aM_tape aM_shapes aM_pile aM_met aM_next aM_inputs aM_then M_pieces M_warmth M_draw M_steps M_undoable M_brought M_taped_17 M_shapeMany M_ended M_cut M_mostPieces M_walks M_walked M_tape_17) := hD
    refine lv_aload_n hx hb dX8_feed_20 rfl (lv_at hl 0 rfl) ?_
    refine lv_iload_n hx hb dX8_feed_21 rfl (lv_at hl 2 rfl) ?_
    refine cx_gov (va_runV (As := [.int p2]) (rest := []) ⟨hx, hb, hml, hown, hts⟩ (c_X8_four l D cI cJ cZ cO tS tT H.size aM aM_strength aM_kind aM_more aM_glues aM_sheet aM_since aM_imageStrength aM_imageKind aM_imageMore aM_imageGlues aM_imagePieces aM_imageWarmth aM_imageSheet aM_imageDraw aM_stepWhat aM_stepPiece aM_stepPlace aM_stepSince aM_tape aM_shapes aM_pile aM_met aM_next aM_inputs aM_then M_pieces M_warmth M_draw M_steps M_undoable M_brought M_taped_17 M_shapeMany M_ended M_cut M_mostPieces M_walks M_walked M_tape_17 p2 _ hw) (cwV 1 hts gX8_feed_X8_four rfl rfl rfl pv_X8_four ⟨Nat.le_of_ble_eq_true rfl, Nat.le_of_ble_eq_true rfl⟩) (cx_preV (wc := w_X8_four cI cJ cZ cO aM aM_strength aM_kind aM_more aM_glues aM_sheet aM_since aM_imageStrength aM_imageKind aM_imageMore aM_imageGlues aM_imagePieces aM_imageWarmth aM_imageSheet aM_imageDraw aM_stepWhat aM_stepPiece aM_stepPlace aM_stepSince aM_tape aM_shapes aM_pile aM_met aM_next aM_inputs aM_then M_pieces M_warmth M_draw M_steps M_undoable M_brought M_taped_17 M_shapeMany M_ended M_cut M_mostPieces M_walks M_walked M_tape_17) hE hK hP hD hS hA [0, 1] rfl rfl (va_recv hK hP (ci := 8) (q0 := 0) rfl rfl)) rfl rfl hl.1 rfl (lv_room (Nat.le_of_ble_eq_true rfl)) dX8_feed_22 ⟨Nat.le_of_ble_eq_true rfl, Nat.le_of_ble_eq_true rfl⟩) (fun (u : (Nat → Int32) × (Int32)) => (w_X8_feed cI cJ cZ cO aM aM_strength aM_kind aM_more aM_glues aM_sheet aM_since aM_imageStrength aM_imageKind aM_imageMore aM_imageGlues aM_imagePieces aM_imageWarmth aM_imageSheet aM_imageDraw aM_stepWhat aM_stepPiece aM_stepPlace aM_stepSince aM_tape aM_shapes aM_pile aM_met aM_next aM_inputs aM_then M_pieces M_warmth M_draw M_steps M_undoable M_brought u.2 M_shapeMany M_ended M_cut M_mostPieces M_walks M_walked u.1)) [0, 1] [] (ads := [aM, aM_tape]) (wr := []) rfl rfl (fun u => rfl) (fun u => rfl) rfl (fun u => rfl) rfl (fun u => rfl) rfl hP hD hS hA (fun u H locs hw hP hD hS => ?_)
    obtain ⟨M_tape_22, M_taped_22⟩ := u
    try dsimp only at hw
    have hP : va_P D vwCl (w_X8_feed cI cJ cZ cO aM aM_strength aM_kind aM_more aM_glues aM_sheet aM_since aM_imageStrength aM_imageKind aM_imageMore aM_imageGlues aM_imagePieces aM_imageWarmth aM_imageSheet aM_imageDraw aM_stepWhat aM_stepPiece aM_stepPlace aM_stepSince aM_tape aM_shapes aM_pile aM_met aM_next aM_inputs aM_then M_pieces M_warmth M_draw M_steps M_undoable M_brought M_taped_22 M_shapeMany M_ended M_cut M_mostPieces M_walks M_walked M_tape_22) H := hP
    have hD : va_D A (w_X8_feed cI cJ cZ cO aM aM_strength aM_kind aM_more aM_glues aM_sheet aM_since aM_imageStrength aM_imageKind aM_imageMore aM_imageGlues aM_imagePieces aM_imageWarmth aM_imageSheet aM_imageDraw aM_stepWhat aM_stepPiece aM_stepPlace aM_stepSince aM_tape aM_shapes aM_pile aM_met aM_next aM_inputs aM_then M_pieces M_warmth M_draw M_steps M_undoable M_brought M_taped_22 M_shapeMany M_ended M_cut M_mostPieces M_walks M_walked M_tape_22) := hD
    refine lv_aload_n hx hb dX8_feed_25 rfl (lv_at hl 0 rfl) ?_
    refine lv_iload_n hx hb dX8_feed_26 rfl (lv_at hl 3 rfl) ?_
    refine cx_gov (va_runV (As := [.int p3]) (rest := []) ⟨hx, hb, hml, hown, hts⟩ (c_X8_four l D cI cJ cZ cO tS tT H.size aM aM_strength aM_kind aM_more aM_glues aM_sheet aM_since aM_imageStrength aM_imageKind aM_imageMore aM_imageGlues aM_imagePieces aM_imageWarmth aM_imageSheet aM_imageDraw aM_stepWhat aM_stepPiece aM_stepPlace aM_stepSince aM_tape aM_shapes aM_pile aM_met aM_next aM_inputs aM_then M_pieces M_warmth M_draw M_steps M_undoable M_brought M_taped_22 M_shapeMany M_ended M_cut M_mostPieces M_walks M_walked M_tape_22 p3 _ hw) (cwV 1 hts gX8_feed_X8_four rfl rfl rfl pv_X8_four ⟨Nat.le_of_ble_eq_true rfl, Nat.le_of_ble_eq_true rfl⟩) (cx_preV (wc := w_X8_four cI cJ cZ cO aM aM_strength aM_kind aM_more aM_glues aM_sheet aM_since aM_imageStrength aM_imageKind aM_imageMore aM_imageGlues aM_imagePieces aM_imageWarmth aM_imageSheet aM_imageDraw aM_stepWhat aM_stepPiece aM_stepPlace aM_stepSince aM_tape aM_shapes aM_pile aM_met aM_next aM_inputs aM_then M_pieces M_warmth M_draw M_steps M_undoable M_brought M_taped_22 M_shapeMany M_ended M_cut M_mostPieces M_walks M_walked M_tape_22) hE hK hP hD hS hA [0, 1] rfl rfl (va_recv hK hP (ci := 8) (q0 := 0) rfl rfl)) rfl rfl hl.1 rfl (lv_room (Nat.le_of_ble_eq_true rfl)) dX8_feed_27 ⟨Nat.le_of_ble_eq_true rfl, Nat.le_of_ble_eq_true rfl⟩) (fun (u : (Nat → Int32) × (Int32)) => (w_X8_feed cI cJ cZ cO aM aM_strength aM_kind aM_more aM_glues aM_sheet aM_since aM_imageStrength aM_imageKind aM_imageMore aM_imageGlues aM_imagePieces aM_imageWarmth aM_imageSheet aM_imageDraw aM_stepWhat aM_stepPiece aM_stepPlace aM_stepSince aM_tape aM_shapes aM_pile aM_met aM_next aM_inputs aM_then M_pieces M_warmth M_draw M_steps M_undoable M_brought u.2 M_shapeMany M_ended M_cut M_mostPieces M_walks M_walked u.1)) [0, 1] [] (ads := [aM, aM_tape]) (wr := []) rfl rfl (fun u => rfl) (fun u => rfl) rfl (fun u => rfl) rfl (fun u => rfl) rfl hP hD hS hA (fun u H locs hw hP hD hS => ?_)
    obtain ⟨M_tape_27, M_taped_27⟩ := u
    try dsimp only at hw
    have hP : va_P D vwCl (w_X8_feed cI cJ cZ cO aM aM_strength aM_kind aM_more aM_glues aM_sheet aM_since aM_imageStrength aM_imageKind aM_imageMore aM_imageGlues aM_imagePieces aM_imageWarmth aM_imageSheet aM_imageDraw aM_stepWhat aM_stepPiece aM_stepPlace aM_stepSince aM_tape aM_shapes aM_pile aM_met aM_next aM_inputs aM_then M_pieces M_warmth M_draw M_steps M_undoable M_brought M_taped_27 M_shapeMany M_ended M_cut M_mostPieces M_walks M_walked M_tape_27) H := hP
    have hD : va_D A (w_X8_feed cI cJ cZ cO aM aM_strength aM_kind aM_more aM_glues aM_sheet aM_since aM_imageStrength aM_imageKind aM_imageMore aM_imageGlues aM_imagePieces aM_imageWarmth aM_imageSheet aM_imageDraw aM_stepWhat aM_stepPiece aM_stepPlace aM_stepSince aM_tape aM_shapes aM_pile aM_met aM_next aM_inputs aM_then M_pieces M_warmth M_draw M_steps M_undoable M_brought M_taped_27 M_shapeMany M_ended M_cut M_mostPieces M_walks M_walked M_tape_27) := hD
    refine lv_aload_n hx hb dX8_feed_30 rfl (lv_at hl 0 rfl) ?_
    refine lv_iload hx hb dX8_feed_31 (lv_at hl 4 rfl) ?_
    refine cx_gov (va_runV (As := [.int p4]) (rest := []) ⟨hx, hb, hml, hown, hts⟩ (c_X8_four l D cI cJ cZ cO tS tT H.size aM aM_strength aM_kind aM_more aM_glues aM_sheet aM_since aM_imageStrength aM_imageKind aM_imageMore aM_imageGlues aM_imagePieces aM_imageWarmth aM_imageSheet aM_imageDraw aM_stepWhat aM_stepPiece aM_stepPlace aM_stepSince aM_tape aM_shapes aM_pile aM_met aM_next aM_inputs aM_then M_pieces M_warmth M_draw M_steps M_undoable M_brought M_taped_27 M_shapeMany M_ended M_cut M_mostPieces M_walks M_walked M_tape_27 p4 _ hw) (cwV 1 hts gX8_feed_X8_four rfl rfl rfl pv_X8_four ⟨Nat.le_of_ble_eq_true rfl, Nat.le_of_ble_eq_true rfl⟩) (cx_preV (wc := w_X8_four cI cJ cZ cO aM aM_strength aM_kind aM_more aM_glues aM_sheet aM_since aM_imageStrength aM_imageKind aM_imageMore aM_imageGlues aM_imagePieces aM_imageWarmth aM_imageSheet aM_imageDraw aM_stepWhat aM_stepPiece aM_stepPlace aM_stepSince aM_tape aM_shapes aM_pile aM_met aM_next aM_inputs aM_then M_pieces M_warmth M_draw M_steps M_undoable M_brought M_taped_27 M_shapeMany M_ended M_cut M_mostPieces M_walks M_walked M_tape_27) hE hK hP hD hS hA [0, 1] rfl rfl (va_recv hK hP (ci := 8) (q0 := 0) rfl rfl)) rfl rfl hl.1 rfl (lv_room (Nat.le_of_ble_eq_true rfl)) dX8_feed_33 ⟨Nat.le_of_ble_eq_true rfl, Nat.le_of_ble_eq_true rfl⟩) (fun (u : (Nat → Int32) × (Int32)) => (w_X8_feed cI cJ cZ cO aM aM_strength aM_kind aM_more aM_glues aM_sheet aM_since aM_imageStrength aM_imageKind aM_imageMore aM_imageGlues aM_imagePieces aM_imageWarmth aM_imageSheet aM_imageDraw aM_stepWhat aM_stepPiece aM_stepPlace aM_stepSince aM_tape aM_shapes aM_pile aM_met aM_next aM_inputs aM_then M_pieces M_warmth M_draw M_steps M_undoable M_brought u.2 M_shapeMany M_ended M_cut M_mostPieces M_walks M_walked u.1)) [0, 1] [] (ads := [aM, aM_tape]) (wr := []) rfl rfl (fun u => rfl) (fun u => rfl) rfl (fun u => rfl) rfl (fun u => rfl) rfl hP hD hS hA (fun u H locs hw hP hD hS => ?_)
    obtain ⟨M_tape_33, M_taped_33⟩ := u
    try dsimp only at hw
    have hP : va_P D vwCl (w_X8_feed cI cJ cZ cO aM aM_strength aM_kind aM_more aM_glues aM_sheet aM_since aM_imageStrength aM_imageKind aM_imageMore aM_imageGlues aM_imagePieces aM_imageWarmth aM_imageSheet aM_imageDraw aM_stepWhat aM_stepPiece aM_stepPlace aM_stepSince aM_tape aM_shapes aM_pile aM_met aM_next aM_inputs aM_then M_pieces M_warmth M_draw M_steps M_undoable M_brought M_taped_33 M_shapeMany M_ended M_cut M_mostPieces M_walks M_walked M_tape_33) H := hP
    have hD : va_D A (w_X8_feed cI cJ cZ cO aM aM_strength aM_kind aM_more aM_glues aM_sheet aM_since aM_imageStrength aM_imageKind aM_imageMore aM_imageGlues aM_imagePieces aM_imageWarmth aM_imageSheet aM_imageDraw aM_stepWhat aM_stepPiece aM_stepPlace aM_stepSince aM_tape aM_shapes aM_pile aM_met aM_next aM_inputs aM_then M_pieces M_warmth M_draw M_steps M_undoable M_brought M_taped_33 M_shapeMany M_ended M_cut M_mostPieces M_walks M_walked M_tape_33) := hD
    refine lv_aload_n hx hb dX8_feed_36 rfl (lv_at hl 0 rfl) ?_
    refine lv_iload hx hb dX8_feed_37 (lv_at hl 5 rfl) ?_
    refine cx_gov (va_runV (As := [.int p5]) (rest := []) ⟨hx, hb, hml, hown, hts⟩ (c_X8_four l D cI cJ cZ cO tS tT H.size aM aM_strength aM_kind aM_more aM_glues aM_sheet aM_since aM_imageStrength aM_imageKind aM_imageMore aM_imageGlues aM_imagePieces aM_imageWarmth aM_imageSheet aM_imageDraw aM_stepWhat aM_stepPiece aM_stepPlace aM_stepSince aM_tape aM_shapes aM_pile aM_met aM_next aM_inputs aM_then M_pieces M_warmth M_draw M_steps M_undoable M_brought M_taped_33 M_shapeMany M_ended M_cut M_mostPieces M_walks M_walked M_tape_33 p5 _ hw) (cwV 1 hts gX8_feed_X8_four rfl rfl rfl pv_X8_four ⟨Nat.le_of_ble_eq_true rfl, Nat.le_of_ble_eq_true rfl⟩) (cx_preV (wc := w_X8_four cI cJ cZ cO aM aM_strength aM_kind aM_more aM_glues aM_sheet aM_since aM_imageStrength aM_imageKind aM_imageMore aM_imageGlues aM_imagePieces aM_imageWarmth aM_imageSheet aM_imageDraw aM_stepWhat aM_stepPiece aM_stepPlace aM_stepSince aM_tape aM_shapes aM_pile aM_met aM_next aM_inputs aM_then M_pieces M_warmth M_draw M_steps M_undoable M_brought M_taped_33 M_shapeMany M_ended M_cut M_mostPieces M_walks M_walked M_tape_33) hE hK hP hD hS hA [0, 1] rfl rfl (va_recv hK hP (ci := 8) (q0 := 0) rfl rfl)) rfl rfl hl.1 rfl (lv_room (Nat.le_of_ble_eq_true rfl)) dX8_feed_39 ⟨Nat.le_of_ble_eq_true rfl, Nat.le_of_ble_eq_true rfl⟩) (fun (u : (Nat → Int32) × (Int32)) => (w_X8_feed cI cJ cZ cO aM aM_strength aM_kind aM_more aM_glues aM_sheet aM_since aM_imageStrength aM_imageKind aM_imageMore aM_imageGlues aM_imagePieces aM_imageWarmth aM_imageSheet aM_imageDraw aM_stepWhat aM_stepPiece aM_stepPlace aM_stepSince aM_tape aM_shapes aM_pile aM_met aM_next aM_inputs aM_then M_pieces M_warmth M_draw M_steps M_undoable M_brought u.2 M_shapeMany M_ended M_cut M_mostPieces M_walks M_walked u.1)) [0, 1] [] (ads := [aM, aM_tape]) (wr := []) rfl rfl (fun u => rfl) (fun u => rfl) rfl (fun u => rfl) rfl (fun u => rfl) rfl hP hD hS hA (fun u H locs hw hP hD hS => ?_)
    obtain ⟨M_tape_39, M_taped_39⟩ := u
    try dsimp only at hw
    have hP : va_P D vwCl (w_X8_feed cI cJ cZ cO aM aM_strength aM_kind aM_more aM_glues aM_sheet aM_since aM_imageStrength aM_imageKind aM_imageMore aM_imageGlues aM_imagePieces aM_imageWarmth aM_imageSheet aM_imageDraw aM_stepWhat aM_stepPiece aM_stepPlace aM_stepSince aM_tape aM_shapes aM_pile aM_met aM_next aM_inputs aM_then M_pieces M_warmth M_draw M_steps M_undoable M_brought M_taped_39 M_shapeMany M_ended M_cut M_mostPieces M_walks M_walked M_tape_39) H := hP
    have hD : va_D A (w_X8_feed cI cJ cZ cO aM aM_strength aM_kind aM_more aM_glues aM_sheet aM_since aM_imageStrength aM_imageKind aM_imageMore aM_imageGlues aM_imagePieces aM_imageWarmth aM_imageSheet aM_imageDraw aM_stepWhat aM_stepPiece aM_stepPlace aM_stepSince aM_tape aM_shapes aM_pile aM_met aM_next aM_inputs aM_then M_pieces M_warmth M_draw M_steps M_undoable M_brought M_taped_39 M_shapeMany M_ended M_cut M_mostPieces M_walks M_walked M_tape_39) := hD
    refine lv_aload_n hx hb dX8_feed_42 rfl (lv_at hl 0 rfl) ?_
    refine va_get (D := D) (ci := 8) (v := .int M_taped_39) (C := RX8) (T := TX8) (N := 38) hx hb hts in_X8_feed_X8 hown hK hP 0 rfl rfl 25 (by decide) k_0 (fun _ h9 => h9) rfl dX8_feed_43 ?_
    rw [hZ]
    exact cx_reti (M_tape_39, M_taped_39) hx hb hr hlocks hw hP hS dX8_feed_46
  · have hw := hw.2 c10
    refine lv_iconst (v := (-1 : Int32)) hx hb dX8_feed_13 kI_m1 ?_
    rw [hZ]
    exact cx_reti (M_tape, M_taped) hx hb hr hlocks hw hP hS dX8_feed_14
set_option maxRecDepth 100000 in
set_option maxHeartbeats 4000000 in
theorem c_X8_set (l : Launch) (D : va_G) (cI cJ cZ cO : ClassId) (tS tT : Nat) (sz : Nat) (aM aM_strength aM_kind aM_more aM_glues aM_sheet aM_since aM_imageStrength aM_imageKind aM_imageMore aM_imageGlues aM_imagePieces aM_imageWarmth aM_imageSheet aM_imageDraw aM_stepWhat aM_stepPiece aM_stepPlace aM_stepSince aM_tape aM_shapes aM_pile aM_met aM_next aM_inputs aM_then : Nat) (M_pieces : Int32) (M_warmth : Int32) (M_draw : Int64) (M_steps : Int32) (M_undoable : Int32) (M_brought : Int32) (M_taped : Int32) (M_shapeMany : Int32) (M_ended : Int32) (M_cut : Int32) (M_mostPieces : Int32) (M_walks : Int32) (M_walked : Int32) (M_kind : Nat → Int32) (M_more : Nat → Int32) (M_glues : Nat → Int32) (M_tape : Nat → Int32) (p1 : Int32) (Q : Int32 → (Nat → Int32) → (Nat → Int32) → (Nat → Int32) → (Int32) → (Int32) → Prop) (hw : wp_X8_set M_tape M_kind M_more M_glues M_pieces M_taped p1 Q) : Met l yX8_set wsX8_set rm_X8_set (va_Pc [.ref aM, .int p1] (cx_B tS tT cI cJ cZ cO D sz (w_X8_set cI cJ cZ cO aM aM_strength aM_kind aM_more aM_glues aM_sheet aM_since aM_imageStrength aM_imageKind aM_imageMore aM_imageGlues aM_imagePieces aM_imageWarmth aM_imageSheet aM_imageDraw aM_stepWhat aM_stepPiece aM_stepPlace aM_stepSince aM_tape aM_shapes aM_pile aM_met aM_next aM_inputs aM_then M_pieces M_warmth M_draw M_steps M_undoable M_brought M_taped M_shapeMany M_ended M_cut M_mostPieces M_walks M_walked M_kind M_more M_glues M_tape))) (va_Qi (fun (r : Int32) (u : (Nat → Int32) × (Nat → Int32) × (Nat → Int32) × (Int32) × (Int32)) => Q r u.1 u.2.1 u.2.2.1 u.2.2.2.1 u.2.2.2.2) (fun (u : (Nat → Int32) × (Nat → Int32) × (Nat → Int32) × (Int32) × (Int32)) t => va_P D vwCl (w_X8_set cI cJ cZ cO aM aM_strength aM_kind aM_more aM_glues aM_sheet aM_since aM_imageStrength aM_imageKind aM_imageMore aM_imageGlues aM_imagePieces aM_imageWarmth aM_imageSheet aM_imageDraw aM_stepWhat aM_stepPiece aM_stepPlace aM_stepSince aM_tape aM_shapes aM_pile aM_met aM_next aM_inputs aM_then u.2.2.2.1 M_warmth M_draw M_steps M_undoable M_brought u.2.2.2.2 M_shapeMany M_ended M_cut M_mostPieces M_walks M_walked u.1 u.2.1 u.2.2.1 M_tape) t.heap) (va_A (w_X8_set cI cJ cZ cO aM aM_strength aM_kind aM_more aM_glues aM_sheet aM_since aM_imageStrength aM_imageKind aM_imageMore aM_imageGlues aM_imagePieces aM_imageWarmth aM_imageSheet aM_imageDraw aM_stepWhat aM_stepPiece aM_stepPlace aM_stepSince aM_tape aM_shapes aM_pile aM_met aM_next aM_inputs aM_then M_pieces M_warmth M_draw M_steps M_undoable M_brought M_taped M_shapeMany M_ended M_cut M_mostPieces M_walks M_walked M_kind M_more M_glues M_tape) sz)) 0 0 (va_A (w_X8_set cI cJ cZ cO aM aM_strength aM_kind aM_more aM_glues aM_sheet aM_since aM_imageStrength aM_imageKind aM_imageMore aM_imageGlues aM_imagePieces aM_imageWarmth aM_imageSheet aM_imageDraw aM_stepWhat aM_stepPiece aM_stepPlace aM_stepSince aM_tape aM_shapes aM_pile aM_met aM_next aM_inputs aM_then M_pieces M_warmth M_draw M_steps M_undoable M_brought M_taped M_shapeMany M_ended M_cut M_mostPieces M_walks M_walked M_kind M_more M_glues M_tape) sz) := by
  refine cx_met (cc := cX8_set) (maxL := 5) (ret := (some .int)) (Qc := fun A => va_Qi (fun (r : Int32) (u : (Nat → Int32) × (Nat → Int32) × (Nat → Int32) × (Int32) × (Int32)) => Q r u.1 u.2.1 u.2.2.1 u.2.2.2.1 u.2.2.2.2) (fun (u : (Nat → Int32) × (Nat → Int32) × (Nat → Int32) × (Int32) × (Int32)) t => va_P D vwCl (w_X8_set cI cJ cZ cO aM aM_strength aM_kind aM_more aM_glues aM_sheet aM_since aM_imageStrength aM_imageKind aM_imageMore aM_imageGlues aM_imagePieces aM_imageWarmth aM_imageSheet aM_imageDraw aM_stepWhat aM_stepPiece aM_stepPlace aM_stepSince aM_tape aM_shapes aM_pile aM_met aM_next aM_inputs aM_then u.2.2.2.1 M_warmth M_draw M_steps M_undoable M_brought u.2.2.2.2 M_shapeMany M_ended M_cut M_mostPieces M_walks M_walked u.1 u.2.1 u.2.2.1 M_tape) t.heap) A) (lv := [(0, .ref aM), (1, .int p1)]) (by decide) rfl (Nat.le_of_ble_eq_true rfl) rfl ?_
  intro p e s m args below meth c A Z hx hb hr hlocks hts hown hml hE hK hA hZ
  have hown : s.vm.findClass RX8 = some m.cls := hown
  have k_0 := hts (.fieldLink RX8 69 "GrowingTilesModel" "tape" "[I") (List.mem_of_getElem? (i := 2) (by decide +kernel))
  have k_1 := hts (.fieldLink RX8 107 "GrowingTilesModel" "taped" "I") (List.mem_of_getElem? (i := 1) (by decide +kernel))
  have b_26 : ∀ n_26 : Nat, ∀ (M_kind : Nat → Int32) (M_more : Nat → Int32) (M_glues : Nat → Int32) (M_pieces : Int32) (M_taped : Int32) (x1 : Int32) (x2 : Int32) (x3 : Int32) (x4 : Int32), wq_X8_set_26 M_tape Q n_26 M_kind M_more M_glues M_pieces M_taped x1 x2 x3 x4 → ∀ (H : Heap) (locs : List Loc), va_P D vwCl (w_X8_set cI cJ cZ cO aM aM_strength aM_kind aM_more aM_glues aM_sheet aM_since aM_imageStrength aM_imageKind aM_imageMore aM_imageGlues aM_imagePieces aM_imageWarmth aM_imageSheet aM_imageDraw aM_stepWhat aM_stepPiece aM_stepPlace aM_stepSince aM_tape aM_shapes aM_pile aM_met aM_next aM_inputs aM_then M_pieces M_warmth M_draw M_steps M_undoable M_brought M_taped M_shapeMany M_ended M_cut M_mostPieces M_walks M_walked M_kind M_more M_glues M_tape) H → va_D A (w_X8_set cI cJ cZ cO aM aM_strength aM_kind aM_more aM_glues aM_sheet aM_since aM_imageStrength aM_imageKind aM_imageMore aM_imageGlues aM_imagePieces aM_imageWarmth aM_imageSheet aM_imageDraw aM_stepWhat aM_stepPiece aM_stepPlace aM_stepSince aM_tape aM_shapes aM_pile aM_met aM_next aM_inputs aM_then M_pieces M_warmth M_draw M_steps M_undoable M_brought M_taped M_shapeMany M_ended M_cut M_mostPieces M_walks M_walked M_kind M_more M_glues M_tape) → va_S A s.heap H locs → ∀ ls : Array Slot, lv_has ls 5 [(0, .ref aM), (1, .int x1), (2, .int x2), (3, .int x3), (4, .int x4)] → W p l e rm_X8_set s m args below meth c H locs 0 0 Z (F0 m 26 ls []) := by
    intro n_26
    induction n_26 with
    | zero => intro M_kind M_more M_glues M_pieces M_taped x1 x2 x3 x4 hw; exact False.elim hw
    | succ n_26 ih_26 =>
      have b_119 : ∀ (M_kind : Nat → Int32) (M_more : Nat → Int32) (M_glues : Nat → Int32) (M_pieces : Int32) (M_taped : Int32) (x1 : Int32) (x2 : Int32) (x4 : Int32) (y0 : Int32), wq_X8_set_119 M_tape (wq_X8_set_26 M_tape Q n_26) Q M_kind M_more M_glues M_pieces M_taped x1 x2 x4 y0 → ∀ (H : Heap) (locs : List Loc), va_P D vwCl (w_X8_set cI cJ cZ cO aM aM_strength aM_kind aM_more aM_glues aM_sheet aM_since aM_imageStrength aM_imageKind aM_imageMore aM_imageGlues aM_imagePieces aM_imageWarmth aM_imageSheet aM_imageDraw aM_stepWhat aM_stepPiece aM_stepPlace aM_stepSince aM_tape aM_shapes aM_pile aM_met aM_next aM_inputs aM_then M_pieces M_warmth M_draw M_steps M_undoable M_brought M_taped M_shapeMany M_ended M_cut M_mostPieces M_walks M_walked M_kind M_more M_glues M_tape) H → va_D A (w_X8_set cI cJ cZ cO aM aM_strength aM_kind aM_more aM_glues aM_sheet aM_since aM_imageStrength aM_imageKind aM_imageMore aM_imageGlues aM_imagePieces aM_imageWarmth aM_imageSheet aM_imageDraw aM_stepWhat aM_stepPiece aM_stepPlace aM_stepSince aM_tape aM_shapes aM_pile aM_met aM_next aM_inputs aM_then M_pieces M_warmth M_draw M_steps M_undoable M_brought M_taped M_shapeMany M_ended M_cut M_mostPieces M_walks M_walked M_kind M_more M_glues M_tape) → va_S A s.heap H locs → ∀ ls : Array Slot, lv_has ls 5 [(0, .ref aM), (1, .int x1), (2, .int x2), (4, .int x4)] → W p l e rm_X8_set s m args below meth c H locs 0 0 Z (F0 m 119 ls [.int y0]) := by
        intro M_kind M_more M_glues M_pieces M_taped x1 x2 x4 y0 hw H locs hP hD hS ls hl
        unfold wq_X8_set_119 at hw
        refine lv_istore_n (lv' := [(3, .int y0), (0, .ref aM), (1, .int x1), (2, .int x2), (4, .int x4)]) hx hb dX8_set_119 rfl hl (by decide) rfl (fun ls hl => ?_)
        refine lv_iload_n hx hb dX8_set_120 rfl (lv_at hl 0 rfl) ?_
        refine lv_if_eq (tgt := 127) hx hb dX8_set_121 (by decide) (fun c121 => ?_) (fun c121 => ?_)
        · have hw := hw.1 c121
          obtain ⟨v127, e127⟩ : ∃ y : Int32, y = x4 + (8 : Int32) := ⟨_, rfl⟩
          have hw := hw v127 e127
          refine lv_iinc (v := v127) (lv' := [(4, .int v127), (3, .int y0), (0, .ref aM), (1, .int x1), (2, .int x2)]) hx hb dX8_set_127 hl (k := 4) rfl (by rw [e127, kI_8]) (by decide) rfl (fun ls hl => ?_)
          refine lv_goto (tgt := 26) hx hb dX8_set_130 (by decide) ?_
          exact ih_26 M_kind M_more M_glues M_pieces M_taped x1 x2 y0 v127 hw H locs hP hD hS ls (lv_sub hl [2, 3, 4, 1, 0] rfl)
        · have hw := hw.2 c121
          obtain ⟨v124, e124⟩ : ∃ y : Int32, y = x2 + (1 : Int32) := ⟨_, rfl⟩
          have hw := hw v124 e124
          refine lv_iinc (v := v124) (lv' := [(2, .int v124), (3, .int y0), (0, .ref aM), (1, .int x1), (4, .int x4)]) hx hb dX8_set_124 hl (k := 3) rfl (by rw [e124, kI_1]) (by decide) rfl (fun ls hl => ?_)
          obtain ⟨v127, e127⟩ : ∃ y : Int32, y = x4 + (8 : Int32) := ⟨_, rfl⟩
          have hw := hw v127 e127
          refine lv_iinc (v := v127) (lv' := [(4, .int v127), (2, .int v124), (3, .int y0), (0, .ref aM), (1, .int x1)]) hx hb dX8_set_127 hl (k := 4) rfl (by rw [e127, kI_8]) (by decide) rfl (fun ls hl => ?_)
          refine lv_goto (tgt := 26) hx hb dX8_set_130 (by decide) ?_
          exact ih_26 M_kind M_more M_glues M_pieces M_taped x1 v124 y0 v127 hw H locs hP hD hS ls (lv_sub hl [3, 4, 1, 2, 0] rfl)
      intro M_kind M_more M_glues M_pieces M_taped x1 x2 x3 x4 hw H locs hP hD hS ls hl
      have hw : wf_X8_set_26 M_tape Q (wq_X8_set_26 M_tape Q n_26) M_kind M_more M_glues M_pieces M_taped x1 x2 x3 x4 := hw
      unfold wf_X8_set_26 at hw
      refine lv_iload hx hb dX8_set_26 (lv_at hl 4 rfl) ?_
      refine lv_bipush (v := (8 : Int32)) hx hb dX8_set_28 kB_8 ?_
      refine lv_iadd hx hb dX8_set_30 ?_
      refine lv_iload_n hx hb dX8_set_31 rfl (lv_at hl 1 rfl) ?_
      refine lv_icmp_gt (tgt := 133) hx hb dX8_set_32 (by decide) (fun c32 => ?_) (fun c32 => ?_)
      · have hw := hw.1 c32
        refine lv_iload_n hx hb dX8_set_133 rfl (lv_at hl 2 rfl) ?_
        rw [hZ]
        exact cx_reti (M_kind, M_more, M_glues, M_pieces, M_taped) hx hb hr hlocks hw hP hS dX8_set_134
      · have hw := hw.2 c32
        refine lv_iload_n hx hb dX8_set_35 rfl (lv_at hl 3 rfl) ?_
        refine lv_if_eq (tgt := 133) hx hb dX8_set_36 (by decide) (fun c36 => ?_) (fun c36 => ?_)
        · have hw := hw.1 c36
          refine lv_iload_n hx hb dX8_set_133 rfl (lv_at hl 2 rfl) ?_
          rw [hZ]
          exact cx_reti (M_kind, M_more, M_glues, M_pieces, M_taped) hx hb hr hlocks hw hP hS dX8_set_134
        · have hw := hw.2 c36
          refine lv_aload_n hx hb dX8_set_39 rfl (lv_at hl 0 rfl) ?_
          refine lv_aload_n hx hb dX8_set_40 rfl (lv_at hl 0 rfl) ?_
          refine va_get (D := D) (ci := 8) (v := .ref aM_tape) (C := RX8) (T := TX8) (N := 38) hx hb hts in_X8_set_X8 hown hK hP 0 rfl rfl 24 (by decide) k_0 (fun _ h9 => h9) rfl dX8_set_41 ?_
          refine lv_iload hx hb dX8_set_44 (lv_at hl 4 rfl) ?_
          have h46 := hw.1
          have hw := hw.2
          refine va_iald hx hb hK hP 4 0 rfl rfl h46 dX8_set_46 ?_
          refine lv_topi (fun v46 e46 => ?_)
          have hw := hw v46 e46
          refine lv_aload_n hx hb dX8_set_47 rfl (lv_at hl 0 rfl) ?_
          refine va_get (D := D) (ci := 8) (v := .ref aM_tape) (C := RX8) (T := TX8) (N := 38) hx hb hts in_X8_set_X8 hown hK hP 0 rfl rfl 24 (by decide) k_0 (fun _ h9 => h9) rfl dX8_set_48 ?_
          refine lv_iload hx hb dX8_set_51 (lv_at hl 4 rfl) ?_
          refine lv_iconst (v := (1 : Int32)) hx hb dX8_set_53 kI_1 ?_
          refine lv_iadd hx hb dX8_set_54 ?_
          have h55 := hw.1
          have hw := hw.2
          refine va_iald hx hb hK hP 4 0 rfl rfl h55 dX8_set_55 ?_
          refine lv_topi (fun v55 e55 => ?_)
          have hw := hw v55 e55
          refine lv_aload_n hx hb dX8_set_56 rfl (lv_at hl 0 rfl) ?_
          refine va_get (D := D) (ci := 8) (v := .ref aM_tape) (C := RX8) (T := TX8) (N := 38) hx hb hts in_X8_set_X8 hown hK hP 0 rfl rfl 24 (by decide) k_0 (fun _ h9 => h9) rfl dX8_set_57 ?_
          refine lv_iload hx hb dX8_set_60 (lv_at hl 4 rfl) ?_
          refine lv_iconst (v := (2 : Int32)) hx hb dX8_set_62 kI_2 ?_
          refine lv_iadd hx hb dX8_set_63 ?_
          have h64 := hw.1
          have hw := hw.2
          refine va_iald hx hb hK hP 4 0 rfl rfl h64 dX8_set_64 ?_
          refine lv_topi (fun v64 e64 => ?_)
          have hw := hw v64 e64
          refine lv_aload_n hx hb dX8_set_65 rfl (lv_at hl 0 rfl) ?_
          refine va_get (D := D) (ci := 8) (v := .ref aM_tape) (C := RX8) (T := TX8) (N := 38) hx hb hts in_X8_set_X8 hown hK hP 0 rfl rfl 24 (by decide) k_0 (fun _ h9 => h9) rfl dX8_set_66 ?_
          refine lv_iload hx hb dX8_set_69 (lv_at hl 4 rfl) ?_
          refine lv_iconst (v := (3 : Int32)) hx hb dX8_set_71 kI_3 ?_
          refine lv_iadd hx hb dX8_set_72 ?_
          have h73 := hw.1
          have hw := hw.2
          refine va_iald hx hb hK hP 4 0 rfl rfl h73 dX8_set_73 ?_
          refine lv_topi (fun v73 e73 => ?_)
          have hw := hw v73 e73
          refine lv_aload_n hx hb dX8_set_74 rfl (lv_at hl 0 rfl) ?_
          refine va_get (D := D) (ci := 8) (v := .ref aM_tape) (C := RX8) (T := TX8) (N := 38) hx hb hts in_X8_set_X8 hown hK hP 0 rfl rfl 24 (by decide) k_0 (fun _ h9 => h9) rfl dX8_set_75 ?_
          refine lv_iload hx hb dX8_set_78 (lv_at hl 4 rfl) ?_
          refine lv_iconst (v := (4 : Int32)) hx hb dX8_set_80 kI_4 ?_
          refine lv_iadd hx hb dX8_set_81 ?_
          have h82 := hw.1
          have hw := hw.2
          refine va_iald hx hb hK hP 4 0 rfl rfl h82 dX8_set_82 ?_
          refine lv_topi (fun v82 e82 => ?_)
          have hw := hw v82 e82
          refine lv_sipush (v := (256 : Int32)) hx hb dX8_set_83 kS_256 ?_
          refine lv_aload_n hx hb dX8_set_86 rfl (lv_at hl 0 rfl) ?_
          refine va_get (D := D) (ci := 8) (v := .ref aM_tape) (C := RX8) (T := TX8) (N := 38) hx hb hts in_X8_set_X8 hown hK hP 0 rfl rfl 24 (by decide) k_0 (fun _ h9 => h9) rfl dX8_set_87 ?_
          refine lv_iload hx hb dX8_set_90 (lv_at hl 4 rfl) ?_
          refine lv_bipush (v := (6 : Int32)) hx hb dX8_set_92 kB_6 ?_
          refine lv_iadd hx hb dX8_set_94 ?_
          have h95 := hw.1
          have hw := hw.2
          refine va_iald hx hb hK hP 4 0 rfl rfl h95 dX8_set_95 ?_
          refine lv_topi (fun v95 e95 => ?_)
          have hw := hw v95 e95
          refine lv_imul hx hb dX8_set_96 ?_
          refine lv_aload_n hx hb dX8_set_97 rfl (lv_at hl 0 rfl) ?_
          refine va_get (D := D) (ci := 8) (v := .ref aM_tape) (C := RX8) (T := TX8) (N := 38) hx hb hts in_X8_set_X8 hown hK hP 0 rfl rfl 24 (by decide) k_0 (fun _ h9 => h9) rfl dX8_set_98 ?_
          refine lv_iload hx hb dX8_set_101 (lv_at hl 4 rfl) ?_
          refine lv_bipush (v := (7 : Int32)) hx hb dX8_set_103 kB_7 ?_
          refine lv_iadd hx hb dX8_set_105 ?_
          have h106 := hw.1
          have hw := hw.2
          refine va_iald hx hb hK hP 4 0 rfl rfl h106 dX8_set_106 ?_
          refine lv_topi (fun v106 e106 => ?_)
          have hw := hw v106 e106
          refine lv_iadd hx hb dX8_set_107 ?_
          refine cx_goi (va_runV (As := [.int v46, .int v55, .int v64, .int v73, .int v82, .int (((256 : Int32) * v95) + v106)]) (rest := []) ⟨hx, hb, hml, hown, hts⟩ (c_X8_piece l D cI cJ cZ cO tS tT H.size aM aM_strength aM_kind aM_more aM_glues aM_sheet aM_since aM_imageStrength aM_imageKind aM_imageMore aM_imageGlues aM_imagePieces aM_imageWarmth aM_imageSheet aM_imageDraw aM_stepWhat aM_stepPiece aM_stepPlace aM_stepSince aM_tape aM_shapes aM_pile aM_met aM_next aM_inputs aM_then M_pieces M_warmth M_draw M_steps M_undoable M_brought M_taped M_shapeMany M_ended M_cut M_mostPieces M_walks M_walked M_kind M_more M_glues v46 v55 v64 v73 v82 (((256 : Int32) * v95) + v106) _ hw) (cwV 6 hts gX8_set_X8_piece rfl rfl rfl pv_X8_piece ⟨Nat.le_of_ble_eq_true rfl, Nat.le_of_ble_eq_true rfl⟩) (cx_preV (wc := w_X8_piece cI cJ cZ cO aM aM_strength aM_kind aM_more aM_glues aM_sheet aM_since aM_imageStrength aM_imageKind aM_imageMore aM_imageGlues aM_imagePieces aM_imageWarmth aM_imageSheet aM_imageDraw aM_stepWhat aM_stepPiece aM_stepPlace aM_stepSince aM_tape aM_shapes aM_pile aM_met aM_next aM_inputs aM_then M_pieces M_warmth M_draw M_steps M_undoable M_brought M_taped M_shapeMany M_ended M_cut M_mostPieces M_walks M_walked M_kind M_more M_glues) hE hK hP hD hS hA [0, 1, 2, 3] rfl rfl (va_recv hK hP (ci := 8) (q0 := 0) rfl rfl)) rfl rfl hl.1 rfl (lv_room (Nat.le_of_ble_eq_true rfl)) dX8_set_108 ⟨Nat.le_of_ble_eq_true rfl, Nat.le_of_ble_eq_true rfl⟩) (fun (u : (Nat → Int32) × (Nat → Int32) × (Nat → Int32) × (Int32)) => (w_X8_set cI cJ cZ cO aM aM_strength aM_kind aM_more aM_glues aM_sheet aM_since aM_imageStrength aM_imageKind aM_imageMore aM_imageGlues aM_imagePieces aM_imageWarmth aM_imageSheet aM_imageDraw aM_stepWhat aM_stepPiece aM_stepPlace aM_stepSince aM_tape aM_shapes aM_pile aM_met aM_next aM_inputs aM_then u.2.2.2 M_warmth M_draw M_steps M_undoable M_brought M_taped M_shapeMany M_ended M_cut M_mostPieces M_walks M_walked u.1 u.2.1 u.2.2.1 M_tape)) [0, 1, 2, 3] [4] (ads := [aM, aM_kind, aM_more, aM_glues]) (wr := [(aM_tape, .inl (cI, 400, .inl M_tape))]) rfl rfl (fun u => rfl) (fun u => rfl) rfl (fun u => rfl) rfl (fun u => rfl) rfl hP hD hS hA (fun r108 u H locs hw hP hD hS => ?_)
          obtain ⟨M_kind_108, M_more_108, M_glues_108, M_pieces_108⟩ := u
          try dsimp only at hw
          have hP : va_P D vwCl (w_X8_set cI cJ cZ cO aM aM_strength aM_kind aM_more aM_glues aM_sheet aM_since aM_imageStrength aM_imageKind aM_imageMore aM_imageGlues aM_imagePieces aM_imageWarmth aM_imageSheet aM_imageDraw aM_stepWhat aM_stepPiece aM_stepPlace aM_stepSince aM_tape aM_shapes aM_pile aM_met aM_next aM_inputs aM_then M_pieces_108 M_warmth M_draw M_steps M_undoable M_brought M_taped M_shapeMany M_ended M_cut M_mostPieces M_walks M_walked M_kind_108 M_more_108 M_glues_108 M_tape) H := hP
          have hD : va_D A (w_X8_set cI cJ cZ cO aM aM_strength aM_kind aM_more aM_glues aM_sheet aM_since aM_imageStrength aM_imageKind aM_imageMore aM_imageGlues aM_imagePieces aM_imageWarmth aM_imageSheet aM_imageDraw aM_stepWhat aM_stepPiece aM_stepPlace aM_stepSince aM_tape aM_shapes aM_pile aM_met aM_next aM_inputs aM_then M_pieces_108 M_warmth M_draw M_steps M_undoable M_brought M_taped M_shapeMany M_ended M_cut M_mostPieces M_walks M_walked M_kind_108 M_more_108 M_glues_108 M_tape) := hD
          refine lv_if_lt (tgt := 118) hx hb dX8_set_111 (by decide) (fun c111 => ?_) (fun c111 => ?_)
          · have hw := hw.1 c111
            refine lv_iconst (v := (0 : Int32)) hx hb dX8_set_118 kI_0 ?_
            exact b_119 M_kind_108 M_more_108 M_glues_108 M_pieces_108 M_taped x1 x2 x4 (0 : Int32) hw H locs hP hD hS ls (lv_sub hl [0, 1, 2, 4] rfl)
          · have hw := hw.2 c111
            refine lv_iconst (v := (1 : Int32)) hx hb dX8_set_114 kI_1 ?_
            refine lv_goto (tgt := 119) hx hb dX8_set_115 (by decide) ?_
            exact b_119 M_kind_108 M_more_108 M_glues_108 M_pieces_108 M_taped x1 x2 x4 (1 : Int32) hw H locs hP hD hS ls (lv_sub hl [0, 1, 2, 4] rfl)
  intro H locs hP hD hS ls hl
  unfold wp_X8_set at hw
  refine lv_iload_n hx hb dX8_set_0 rfl (lv_at hl 1 rfl) ?_
  refine lv_if_lt (tgt := 12) hx hb dX8_set_1 (by decide) (fun c1 => ?_) (fun c1 => ?_)
  · have hw := hw.1 c1
    refine lv_iconst (v := (-1 : Int32)) hx hb dX8_set_12 kI_m1 ?_
    rw [hZ]
    exact cx_reti (M_kind, M_more, M_glues, M_pieces, M_taped) hx hb hr hlocks hw hP hS dX8_set_13
  · have hw := hw.2 c1
    refine lv_iload_n hx hb dX8_set_4 rfl (lv_at hl 1 rfl) ?_
    refine lv_aload_n hx hb dX8_set_5 rfl (lv_at hl 0 rfl) ?_
    refine va_get (D := D) (ci := 8) (v := .int M_taped) (C := RX8) (T := TX8) (N := 38) hx hb hts in_X8_set_X8 hown hK hP 0 rfl rfl 25 (by decide) k_1 (fun _ h9 => h9) rfl dX8_set_6 ?_
    refine lv_icmp_le (tgt := 14) hx hb dX8_set_9 (by decide) (fun c9 => ?_) (fun c9 => ?_)
    · have hw := hw.1 c9
      refine lv_aload_n hx hb dX8_set_14 rfl (lv_at hl 0 rfl) ?_
      refine lv_iconst (v := (0 : Int32)) hx hb dX8_set_15 kI_0 ?_
      refine va_put (D := D) (ci := 8) (v := .int (0 : Int32)) (ty := .int) (C := RX8) (T := TX8) (N := 38) hx hb hts in_X8_set_X8 tyX8 tyX8_ok nmX8 hown hK hP hD hS 0 rfl rfl 25 (by decide) k_1 (fun _ h9 => h9) rfl (tyX8_ok 25 (by decide)) rfl rfl (Nat.le_of_ble_eq_true rfl) dX8_set_16 (fun H locs hP hD hS => ?_)
      have hP : va_P D vwCl (w_X8_set cI cJ cZ cO aM aM_strength aM_kind aM_more aM_glues aM_sheet aM_since aM_imageStrength aM_imageKind aM_imageMore aM_imageGlues aM_imagePieces aM_imageWarmth aM_imageSheet aM_imageDraw aM_stepWhat aM_stepPiece aM_stepPlace aM_stepSince aM_tape aM_shapes aM_pile aM_met aM_next aM_inputs aM_then M_pieces M_warmth M_draw M_steps M_undoable M_brought (0 : Int32) M_shapeMany M_ended M_cut M_mostPieces M_walks M_walked M_kind M_more M_glues M_tape) H := hP
      have hD : va_D A (w_X8_set cI cJ cZ cO aM aM_strength aM_kind aM_more aM_glues aM_sheet aM_since aM_imageStrength aM_imageKind aM_imageMore aM_imageGlues aM_imagePieces aM_imageWarmth aM_imageSheet aM_imageDraw aM_stepWhat aM_stepPiece aM_stepPlace aM_stepSince aM_tape aM_shapes aM_pile aM_met aM_next aM_inputs aM_then M_pieces M_warmth M_draw M_steps M_undoable M_brought (0 : Int32) M_shapeMany M_ended M_cut M_mostPieces M_walks M_walked M_kind M_more M_glues M_tape) := hD
      refine lv_iconst (v := (0 : Int32)) hx hb dX8_set_19 kI_0 ?_
      refine lv_istore_n (lv' := [(2, .int (0 : Int32)), (0, .ref aM), (1, .int p1)]) hx hb dX8_set_20 rfl hl (by decide) rfl (fun ls hl => ?_)
      refine lv_iconst (v := (1 : Int32)) hx hb dX8_set_21 kI_1 ?_
      refine lv_istore_n (lv' := [(3, .int (1 : Int32)), (2, .int (0 : Int32)), (0, .ref aM), (1, .int p1)]) hx hb dX8_set_22 rfl hl (by decide) rfl (fun ls hl => ?_)
      refine lv_iconst (v := (0 : Int32)) hx hb dX8_set_23 kI_0 ?_
      refine lv_istore (lv' := [(4, .int (0 : Int32)), (3, .int (1 : Int32)), (2, .int (0 : Int32)), (0, .ref aM), (1, .int p1)]) hx hb dX8_set_24 hl (by decide) rfl (fun ls hl => ?_)
      obtain ⟨k, hw⟩ := hw
      exact b_26 k M_kind M_more M_glues M_pieces (0 : Int32) p1 (0 : Int32) (1 : Int32) (0 : Int32) hw H locs hP hD hS ls (lv_sub hl [3, 4, 2, 1, 0] rfl)
    · have hw := hw.2 c9
      refine lv_iconst (v := (-1 : Int32)) hx hb dX8_set_12 kI_m1 ?_
      rw [hZ]
      exact cx_reti (M_kind, M_more, M_glues, M_pieces, M_taped) hx hb hr hlocks hw hP hS dX8_set_13
set_option maxRecDepth 100000 in
set_option maxHeartbeats 4000000 in
theorem c_X8_warmth (l : Launch) (D : va_G) (cI cJ cZ cO : ClassId) (tS tT : Nat) (sz : Nat) (aM aM_strength aM_kind aM_more aM_glues aM_sheet aM_since aM_imageStrength aM_imageKind aM_imageMore aM_imageGlues aM_imagePieces aM_imageWarmth aM_imageSheet aM_imageDraw aM_stepWhat aM_stepPiece aM_stepPlace aM_stepSince aM_tape aM_shapes aM_pile aM_met aM_next aM_inputs aM_then : Nat) (M_pieces : Int32) (M_warmth : Int32) (M_draw : Int64) (M_steps : Int32) (M_undoable : Int32) (M_brought : Int32) (M_taped : Int32) (M_shapeMany : Int32) (M_ended : Int32) (M_cut : Int32) (M_mostPieces : Int32) (M_walks : Int32) (M_walked : Int32) (M_sheet : Nat → Int32) (p1 : Int32) (Q : Int32 → (Int32) → Prop) (hw : wp_X8_warmth M_sheet M_warmth p1 Q) : Met l yX8_warmth wsX8_warmth rm_X8_warmth (va_Pc [.ref aM, .int p1] (cx_B tS tT cI cJ cZ cO D sz (w_X8_warmth cI cJ cZ cO aM aM_strength aM_kind aM_more aM_glues aM_sheet aM_since aM_imageStrength aM_imageKind aM_imageMore aM_imageGlues aM_imagePieces aM_imageWarmth aM_imageSheet aM_imageDraw aM_stepWhat aM_stepPiece aM_stepPlace aM_stepSince aM_tape aM_shapes aM_pile aM_met aM_next aM_inputs aM_then M_pieces M_warmth M_draw M_steps M_undoable M_brought M_taped M_shapeMany M_ended M_cut M_mostPieces M_walks M_walked M_sheet))) (va_Qi (fun (r : Int32) (u : (Int32)) => Q r u) (fun (u : (Int32)) t => va_P D vwCl (w_X8_warmth cI cJ cZ cO aM aM_strength aM_kind aM_more aM_glues aM_sheet aM_since aM_imageStrength aM_imageKind aM_imageMore aM_imageGlues aM_imagePieces aM_imageWarmth aM_imageSheet aM_imageDraw aM_stepWhat aM_stepPiece aM_stepPlace aM_stepSince aM_tape aM_shapes aM_pile aM_met aM_next aM_inputs aM_then M_pieces u M_draw M_steps M_undoable M_brought M_taped M_shapeMany M_ended M_cut M_mostPieces M_walks M_walked M_sheet) t.heap) (va_A (w_X8_warmth cI cJ cZ cO aM aM_strength aM_kind aM_more aM_glues aM_sheet aM_since aM_imageStrength aM_imageKind aM_imageMore aM_imageGlues aM_imagePieces aM_imageWarmth aM_imageSheet aM_imageDraw aM_stepWhat aM_stepPiece aM_stepPlace aM_stepSince aM_tape aM_shapes aM_pile aM_met aM_next aM_inputs aM_then M_pieces M_warmth M_draw M_steps M_undoable M_brought M_taped M_shapeMany M_ended M_cut M_mostPieces M_walks M_walked M_sheet) sz)) 0 0 (va_A (w_X8_warmth cI cJ cZ cO aM aM_strength aM_kind aM_more aM_glues aM_sheet aM_since aM_imageStrength aM_imageKind aM_imageMore aM_imageGlues aM_imagePieces aM_imageWarmth aM_imageSheet aM_imageDraw aM_stepWhat aM_stepPiece aM_stepPlace aM_stepSince aM_tape aM_shapes aM_pile aM_met aM_next aM_inputs aM_then M_pieces M_warmth M_draw M_steps M_undoable M_brought M_taped M_shapeMany M_ended M_cut M_mostPieces M_walks M_walked M_sheet) sz) := by
  refine cx_met (cc := cX8_warmth) (maxL := 2) (ret := (some .boolean)) (Qc := fun A => va_Qi (fun (r : Int32) (u : (Int32)) => Q r u) (fun (u : (Int32)) t => va_P D vwCl (w_X8_warmth cI cJ cZ cO aM aM_strength aM_kind aM_more aM_glues aM_sheet aM_since aM_imageStrength aM_imageKind aM_imageMore aM_imageGlues aM_imagePieces aM_imageWarmth aM_imageSheet aM_imageDraw aM_stepWhat aM_stepPiece aM_stepPlace aM_stepSince aM_tape aM_shapes aM_pile aM_met aM_next aM_inputs aM_then M_pieces u M_draw M_steps M_undoable M_brought M_taped M_shapeMany M_ended M_cut M_mostPieces M_walks M_walked M_sheet) t.heap) A) (lv := [(0, .ref aM), (1, .int p1)]) (by decide) rfl (Nat.le_of_ble_eq_true rfl) rfl ?_
  intro p e s m args below meth c A Z hx hb hr hlocks hts hown hml hE hK hA hZ
  have hown : s.vm.findClass RX8 = some m.cls := hown
  have k_0 := hts (.fieldLink RX8 22 "GrowingTilesModel" "warmth" "I") (List.mem_of_getElem? (i := 1) (by decide +kernel))
  intro H locs hP hD hS ls hl
  unfold wp_X8_warmth at hw
  refine lv_iload_n hx hb dX8_warmth_0 rfl (lv_at hl 1 rfl) ?_
  refine lv_iconst (v := (1 : Int32)) hx hb dX8_warmth_1 kI_1 ?_
  refine lv_icmp_lt (tgt := 17) hx hb dX8_warmth_2 (by decide) (fun c2 => ?_) (fun c2 => ?_)
  · have hw := hw.1 c2
    refine lv_iconst (v := (0 : Int32)) hx hb dX8_warmth_17 kI_0 ?_
    rw [hZ]
    exact cx_retz M_warmth hx hb hr hlocks rfl hw hP hS dX8_warmth_18
  · have hw := hw.2 c2
    refine lv_iload_n hx hb dX8_warmth_5 rfl (lv_at hl 1 rfl) ?_
    refine lv_iconst (v := (3 : Int32)) hx hb dX8_warmth_6 kI_3 ?_
    refine lv_icmp_gt (tgt := 17) hx hb dX8_warmth_7 (by decide) (fun c7 => ?_) (fun c7 => ?_)
    · have hw := hw.1 c7
      refine lv_iconst (v := (0 : Int32)) hx hb dX8_warmth_17 kI_0 ?_
      rw [hZ]
      exact cx_retz M_warmth hx hb hr hlocks rfl hw hP hS dX8_warmth_18
    · have hw := hw.2 c7
      refine lv_aload_n hx hb dX8_warmth_10 rfl (lv_at hl 0 rfl) ?_
      refine cx_goi (va_runV (As := []) (rest := []) ⟨hx, hb, hml, hown, hts⟩ (c_X8_isClear l D cI cJ cZ cO tS tT H.size aM aM_strength aM_kind aM_more aM_glues aM_sheet aM_since aM_imageStrength aM_imageKind aM_imageMore aM_imageGlues aM_imagePieces aM_imageWarmth aM_imageSheet aM_imageDraw aM_stepWhat aM_stepPiece aM_stepPlace aM_stepSince aM_tape aM_shapes aM_pile aM_met aM_next aM_inputs aM_then M_pieces M_warmth M_draw M_steps M_undoable M_brought M_taped M_shapeMany M_ended M_cut M_mostPieces M_walks M_walked M_sheet _ hw) (cwV 0 hts gX8_warmth_X8_isClear rfl rfl rfl pv_X8_isClear ⟨Nat.le_of_ble_eq_true rfl, Nat.le_of_ble_eq_true rfl⟩) (cx_preV (wc := w_X8_isClear cI cJ cZ cO aM aM_strength aM_kind aM_more aM_glues aM_sheet aM_since aM_imageStrength aM_imageKind aM_imageMore aM_imageGlues aM_imagePieces aM_imageWarmth aM_imageSheet aM_imageDraw aM_stepWhat aM_stepPiece aM_stepPlace aM_stepSince aM_tape aM_shapes aM_pile aM_met aM_next aM_inputs aM_then M_pieces M_warmth M_draw M_steps M_undoable M_brought M_taped M_shapeMany M_ended M_cut M_mostPieces M_walks M_walked M_sheet) hE hK hP hD hS hA [0, 1] rfl rfl (va_recv hK hP (ci := 8) (q0 := 0) rfl rfl)) rfl rfl hl.1 rfl (lv_room (Nat.le_of_ble_eq_true rfl)) dX8_warmth_11 ⟨Nat.le_of_ble_eq_true rfl, Nat.le_of_ble_eq_true rfl⟩) (fun (_ : Unit) => (w_X8_warmth cI cJ cZ cO aM aM_strength aM_kind aM_more aM_glues aM_sheet aM_since aM_imageStrength aM_imageKind aM_imageMore aM_imageGlues aM_imagePieces aM_imageWarmth aM_imageSheet aM_imageDraw aM_stepWhat aM_stepPiece aM_stepPlace aM_stepSince aM_tape aM_shapes aM_pile aM_met aM_next aM_inputs aM_then M_pieces M_warmth M_draw M_steps M_undoable M_brought M_taped M_shapeMany M_ended M_cut M_mostPieces M_walks M_walked M_sheet)) [0, 1] [] (ads := [aM, aM_sheet]) (wr := []) rfl rfl (fun u => rfl) (fun u => rfl) rfl (fun u => rfl) rfl (fun u => rfl) rfl hP hD hS hA (fun r11 u H locs hw hP hD hS => ?_)
      have hP : va_P D vwCl (w_X8_warmth cI cJ cZ cO aM aM_strength aM_kind aM_more aM_glues aM_sheet aM_since aM_imageStrength aM_imageKind aM_imageMore aM_imageGlues aM_imagePieces aM_imageWarmth aM_imageSheet aM_imageDraw aM_stepWhat aM_stepPiece aM_stepPlace aM_stepSince aM_tape aM_shapes aM_pile aM_met aM_next aM_inputs aM_then M_pieces M_warmth M_draw M_steps M_undoable M_brought M_taped M_shapeMany M_ended M_cut M_mostPieces M_walks M_walked M_sheet) H := hP
      have hD : va_D A (w_X8_warmth cI cJ cZ cO aM aM_strength aM_kind aM_more aM_glues aM_sheet aM_since aM_imageStrength aM_imageKind aM_imageMore aM_imageGlues aM_imagePieces aM_imageWarmth aM_imageSheet aM_imageDraw aM_stepWhat aM_stepPiece aM_stepPlace aM_stepSince aM_tape aM_shapes aM_pile aM_met aM_next aM_inputs aM_then M_pieces M_warmth M_draw M_steps M_undoable M_brought M_taped M_shapeMany M_ended M_cut M_mostPieces M_walks M_walked M_sheet) := hD
      refine lv_if_ne (tgt := 19) hx hb dX8_warmth_14 (by decide) (fun c14 => ?_) (fun c14 => ?_)
      · have hw := hw.1 c14
        refine lv_aload_n hx hb dX8_warmth_19 rfl (lv_at hl 0 rfl) ?_
        refine lv_iload_n hx hb dX8_warmth_20 rfl (lv_at hl 1 rfl) ?_
        refine va_put (D := D) (ci := 8) (v := .int p1) (ty := .int) (C := RX8) (T := TX8) (N := 38) hx hb hts in_X8_warmth_X8 tyX8 tyX8_ok nmX8 hown hK hP hD hS 0 rfl rfl 5 (by decide) k_0 (fun _ h9 => h9) rfl (tyX8_ok 5 (by decide)) rfl rfl (Nat.le_of_ble_eq_true rfl) dX8_warmth_21 (fun H locs hP hD hS => ?_)
        have hP : va_P D vwCl (w_X8_warmth cI cJ cZ cO aM aM_strength aM_kind aM_more aM_glues aM_sheet aM_since aM_imageStrength aM_imageKind aM_imageMore aM_imageGlues aM_imagePieces aM_imageWarmth aM_imageSheet aM_imageDraw aM_stepWhat aM_stepPiece aM_stepPlace aM_stepSince aM_tape aM_shapes aM_pile aM_met aM_next aM_inputs aM_then M_pieces p1 M_draw M_steps M_undoable M_brought M_taped M_shapeMany M_ended M_cut M_mostPieces M_walks M_walked M_sheet) H := hP
        have hD : va_D A (w_X8_warmth cI cJ cZ cO aM aM_strength aM_kind aM_more aM_glues aM_sheet aM_since aM_imageStrength aM_imageKind aM_imageMore aM_imageGlues aM_imagePieces aM_imageWarmth aM_imageSheet aM_imageDraw aM_stepWhat aM_stepPiece aM_stepPlace aM_stepSince aM_tape aM_shapes aM_pile aM_met aM_next aM_inputs aM_then M_pieces p1 M_draw M_steps M_undoable M_brought M_taped M_shapeMany M_ended M_cut M_mostPieces M_walks M_walked M_sheet) := hD
        refine lv_iconst (v := (1 : Int32)) hx hb dX8_warmth_24 kI_1 ?_
        rw [hZ]
        exact cx_retz p1 hx hb hr hlocks rfl hw hP hS dX8_warmth_25
      · have hw := hw.2 c14
        refine lv_iconst (v := (0 : Int32)) hx hb dX8_warmth_17 kI_0 ?_
        rw [hZ]
        exact cx_retz M_warmth hx hb hr hlocks rfl hw hP hS dX8_warmth_18
set_option maxRecDepth 100000 in
set_option maxHeartbeats 4000000 in
theorem c_X8_xAt (l : Launch) (D : va_G) (cI cJ cZ cO : ClassId) (tS tT : Nat) (sz : Nat) (p1 : Int32) (Q : Int32 → Prop) (hw : wp_X8_xAt p1 Q) : Met l yX8_xAt wsX8_xAt rm_X8_xAt (va_Pc [.int p1] (cx_B tS tT cI cJ cZ cO D sz (w_X8_xAt : va_W))) (va_Qi (fun (r : Int32) (_ : Unit) => Q r) (fun (u : Unit) t => va_P D vwCl (w_X8_xAt : va_W) t.heap) (va_A (w_X8_xAt : va_W) sz)) 0 0 (va_A (w_X8_xAt : va_W) sz) := by
  refine cx_met (cc := cX8_xAt) (maxL := 1) (ret := (some .int)) (Qc := fun A => va_Qi (fun (r : Int32) (_ : Unit) => Q r) (fun (u : Unit) t => va_P D vwCl (w_X8_xAt : va_W) t.heap) A) (lv := [(0, .int p1)]) (by decide) rfl (Nat.le_of_ble_eq_true rfl) rfl ?_
  intro p e s m args below meth c A Z hx hb hr hlocks hts hown hml hE hK hA hZ
  have hown : s.vm.findClass RX8 = some m.cls := hown
  intro H locs hP hD hS ls hl
  unfold wp_X8_xAt at hw
  refine lv_iload_n hx hb dX8_xAt_0 rfl (lv_at hl 0 rfl) ?_
  refine lv_iconst (v := (1 : Int32)) hx hb dX8_xAt_1 kI_1 ?_
  refine lv_icmp_ne (tgt := 9) hx hb dX8_xAt_2 (by decide) (fun c2 => ?_) (fun c2 => ?_)
  · have hw := hw.1 c2
    refine lv_iload_n hx hb dX8_xAt_9 rfl (lv_at hl 0 rfl) ?_
    refine lv_iconst (v := (3 : Int32)) hx hb dX8_xAt_10 kI_3 ?_
    refine lv_icmp_ne (tgt := 18) hx hb dX8_xAt_11 (by decide) (fun c11 => ?_) (fun c11 => ?_)
    · have hw := hw.1 c11
      refine lv_iconst (v := (0 : Int32)) hx hb dX8_xAt_18 kI_0 ?_
      rw [hZ]
      exact cx_reti () hx hb hr hlocks hw hP hS dX8_xAt_19
    · have hw := hw.2 c11
      refine lv_iconst (v := (-1 : Int32)) hx hb dX8_xAt_14 kI_m1 ?_
      refine lv_goto (tgt := 19) hx hb dX8_xAt_15 (by decide) ?_
      rw [hZ]
      exact cx_reti () hx hb hr hlocks hw hP hS dX8_xAt_19
  · have hw := hw.2 c2
    refine lv_iconst (v := (1 : Int32)) hx hb dX8_xAt_5 kI_1 ?_
    refine lv_goto (tgt := 19) hx hb dX8_xAt_6 (by decide) ?_
    rw [hZ]
    exact cx_reti () hx hb hr hlocks hw hP hS dX8_xAt_19
set_option maxRecDepth 100000 in
set_option maxHeartbeats 4000000 in
theorem c_X8_yAt (l : Launch) (D : va_G) (cI cJ cZ cO : ClassId) (tS tT : Nat) (sz : Nat) (p1 : Int32) (Q : Int32 → Prop) (hw : wp_X8_yAt p1 Q) : Met l yX8_yAt wsX8_yAt rm_X8_yAt (va_Pc [.int p1] (cx_B tS tT cI cJ cZ cO D sz (w_X8_yAt : va_W))) (va_Qi (fun (r : Int32) (_ : Unit) => Q r) (fun (u : Unit) t => va_P D vwCl (w_X8_yAt : va_W) t.heap) (va_A (w_X8_yAt : va_W) sz)) 0 0 (va_A (w_X8_yAt : va_W) sz) := by
  refine cx_met (cc := cX8_yAt) (maxL := 1) (ret := (some .int)) (Qc := fun A => va_Qi (fun (r : Int32) (_ : Unit) => Q r) (fun (u : Unit) t => va_P D vwCl (w_X8_yAt : va_W) t.heap) A) (lv := [(0, .int p1)]) (by decide) rfl (Nat.le_of_ble_eq_true rfl) rfl ?_
  intro p e s m args below meth c A Z hx hb hr hlocks hts hown hml hE hK hA hZ
  have hown : s.vm.findClass RX8 = some m.cls := hown
  intro H locs hP hD hS ls hl
  unfold wp_X8_yAt at hw
  refine lv_iload_n hx hb dX8_yAt_0 rfl (lv_at hl 0 rfl) ?_
  refine lv_if_ne (tgt := 8) hx hb dX8_yAt_1 (by decide) (fun c1 => ?_) (fun c1 => ?_)
  · have hw := hw.1 c1
    refine lv_iload_n hx hb dX8_yAt_8 rfl (lv_at hl 0 rfl) ?_
    refine lv_iconst (v := (2 : Int32)) hx hb dX8_yAt_9 kI_2 ?_
    refine lv_icmp_ne (tgt := 17) hx hb dX8_yAt_10 (by decide) (fun c10 => ?_) (fun c10 => ?_)
    · have hw := hw.1 c10
      refine lv_iconst (v := (0 : Int32)) hx hb dX8_yAt_17 kI_0 ?_
      rw [hZ]
      exact cx_reti () hx hb hr hlocks hw hP hS dX8_yAt_18
    · have hw := hw.2 c10
      refine lv_iconst (v := (1 : Int32)) hx hb dX8_yAt_13 kI_1 ?_
      refine lv_goto (tgt := 18) hx hb dX8_yAt_14 (by decide) ?_
      rw [hZ]
      exact cx_reti () hx hb hr hlocks hw hP hS dX8_yAt_18
  · have hw := hw.2 c1
    refine lv_iconst (v := (-1 : Int32)) hx hb dX8_yAt_4 kI_m1 ?_
    refine lv_goto (tgt := 18) hx hb dX8_yAt_5 (by decide) ?_
    rw [hZ]
    exact cx_reti () hx hb hr hlocks hw hP hS dX8_yAt_18
set_option maxRecDepth 100000 in
set_option maxHeartbeats 4000000 in
theorem c_X8_glueOf (l : Launch) (D : va_G) (cI cJ cZ cO : ClassId) (tS tT : Nat) (sz : Nat) (aM aM_strength aM_kind aM_more aM_glues aM_sheet aM_since aM_imageStrength aM_imageKind aM_imageMore aM_imageGlues aM_imagePieces aM_imageWarmth aM_imageSheet aM_imageDraw aM_stepWhat aM_stepPiece aM_stepPlace aM_stepSince aM_tape aM_shapes aM_pile aM_met aM_next aM_inputs aM_then : Nat) (M_pieces : Int32) (M_warmth : Int32) (M_draw : Int64) (M_steps : Int32) (M_undoable : Int32) (M_brought : Int32) (M_taped : Int32) (M_shapeMany : Int32) (M_ended : Int32) (M_cut : Int32) (M_mostPieces : Int32) (M_walks : Int32) (M_walked : Int32) (M_kind : Nat → Int32) (M_more : Nat → Int32) (M_glues : Nat → Int32) (p1 : Int32) (p2 : Int32) (p3 : Int32) (Q : Int32 → Prop) (hw : wp_X8_glueOf M_kind M_more M_glues p1 p2 p3 Q) : Met l yX8_glueOf wsX8_glueOf rm_X8_glueOf (va_Pc [.ref aM, .int p1, .int p2, .int p3] (cx_B tS tT cI cJ cZ cO D sz (w_X8_glueOf cI cJ cZ cO aM aM_strength aM_kind aM_more aM_glues aM_sheet aM_since aM_imageStrength aM_imageKind aM_imageMore aM_imageGlues aM_imagePieces aM_imageWarmth aM_imageSheet aM_imageDraw aM_stepWhat aM_stepPiece aM_stepPlace aM_stepSince aM_tape aM_shapes aM_pile aM_met aM_next aM_inputs aM_then M_pieces M_warmth M_draw M_steps M_undoable M_brought M_taped M_shapeMany M_ended M_cut M_mostPieces M_walks M_walked M_kind M_more M_glues))) (va_Qi (fun (r : Int32) (_ : Unit) => Q r) (fun (u : Unit) t => va_P D vwCl (w_X8_glueOf cI cJ cZ cO aM aM_strength aM_kind aM_more aM_glues aM_sheet aM_since aM_imageStrength aM_imageKind aM_imageMore aM_imageGlues aM_imagePieces aM_imageWarmth aM_imageSheet aM_imageDraw aM_stepWhat aM_stepPiece aM_stepPlace aM_stepSince aM_tape aM_shapes aM_pile aM_met aM_next aM_inputs aM_then M_pieces M_warmth M_draw M_steps M_undoable M_brought M_taped M_shapeMany M_ended M_cut M_mostPieces M_walks M_walked M_kind M_more M_glues) t.heap) (va_A (w_X8_glueOf cI cJ cZ cO aM aM_strength aM_kind aM_more aM_glues aM_sheet aM_since aM_imageStrength aM_imageKind aM_imageMore aM_imageGlues aM_imagePieces aM_imageWarmth aM_imageSheet aM_imageDraw aM_stepWhat aM_stepPiece aM_stepPlace aM_stepSince aM_tape aM_shapes aM_pile aM_met aM_next aM_inputs aM_then M_pieces M_warmth M_draw M_steps M_undoable M_brought M_taped M_shapeMany M_ended M_cut M_mostPieces M_walks M_walked M_kind M_more M_glues) sz)) 0 0 (va_A (w_X8_glueOf cI cJ cZ cO aM aM_strength aM_kind aM_more aM_glues aM_sheet aM_since aM_imageStrength aM_imageKind aM_imageMore aM_imageGlues aM_imagePieces aM_imageWarmth aM_imageSheet aM_imageDraw aM_stepWhat aM_stepPiece aM_stepPlace aM_stepSince aM_tape aM_shapes aM_pile aM_met aM_next aM_inputs aM_then M_pieces M_warmth M_draw M_steps M_undoable M_brought M_taped M_shapeMany M_ended M_cut M_mostPieces M_walks M_walked M_kind M_more M_glues) sz) := by
  refine cx_met (cc := cX8_glueOf) (maxL := 4) (ret := (some .int)) (Qc := fun A => va_Qi (fun (r : Int32) (_ : Unit) => Q r) (fun (u : Unit) t => va_P D vwCl (w_X8_glueOf cI cJ cZ cO aM aM_strength aM_kind aM_more aM_glues aM_sheet aM_since aM_imageStrength aM_imageKind aM_imageMore aM_imageGlues aM_imagePieces aM_imageWarmth aM_imageSheet aM_imageDraw aM_stepWhat aM_stepPiece aM_stepPlace aM_stepSince aM_tape aM_shapes aM_pile aM_met aM_next aM_inputs aM_then M_pieces M_warmth M_draw M_steps M_undoable M_brought M_taped M_shapeMany M_ended M_cut M_mostPieces M_walks M_walked M_kind M_more M_glues) t.heap) A) (lv := [(0, .ref aM), (1, .int p1), (2, .int p2), (3, .int p3)]) (by decide) rfl (Nat.le_of_ble_eq_true rfl) rfl ?_
  intro p e s m args below meth c A Z hx hb hr hlocks hts hown hml hE hK hA hZ
  have hown : s.vm.findClass RX8 = some m.cls := hown
  have k_0 := hts (.fieldLink RX8 13 "GrowingTilesModel" "kind" "[I") (List.mem_of_getElem? (i := 1) (by decide +kernel))
  have k_1 := hts (.fieldLink RX8 16 "GrowingTilesModel" "more" "[I") (List.mem_of_getElem? (i := 3) (by decide +kernel))
  have k_2 := hts (.fieldLink RX8 19 "GrowingTilesModel" "glues" "[I") (List.mem_of_getElem? (i := 2) (by decide +kernel))
  intro H locs hP hD hS ls hl
  unfold wp_X8_glueOf at hw
  refine lv_aload_n hx hb dX8_glueOf_0 rfl (lv_at hl 0 rfl) ?_
  refine va_get (D := D) (ci := 8) (v := .ref aM_kind) (C := RX8) (T := TX8) (N := 38) hx hb hts in_X8_glueOf_X8 hown hK hP 0 rfl rfl 1 (by decide) k_0 (fun _ h9 => h9) rfl dX8_glueOf_1 ?_
  refine lv_iload_n hx hb dX8_glueOf_4 rfl (lv_at hl 1 rfl) ?_
  have h5 := hw.1
  have hw := hw.2
  refine va_iald hx hb hK hP 1 0 rfl rfl h5 dX8_glueOf_5 ?_
  refine lv_topi (fun v5 e5 => ?_)
  have hw := hw v5 e5
  refine lv_iconst (v := (2 : Int32)) hx hb dX8_glueOf_6 kI_2 ?_
  refine lv_icmp_eq (tgt := 21) hx hb dX8_glueOf_7 (by decide) (fun c7 => ?_) (fun c7 => ?_)
  · have hw := hw.1 c7
    refine lv_iload_n hx hb dX8_glueOf_21 rfl (lv_at hl 2 rfl) ?_
    refine lv_if_ne (tgt := 45) hx hb dX8_glueOf_22 (by decide) (fun c22 => ?_) (fun c22 => ?_)
    · have hw := hw.1 c22
      refine lv_iload_n hx hb dX8_glueOf_45 rfl (lv_at hl 3 rfl) ?_
      refine lv_if_ne (tgt := 61) hx hb dX8_glueOf_46 (by decide) (fun c46 => ?_) (fun c46 => ?_)
      · have hw := hw.1 c46
        refine lv_iload_n hx hb dX8_glueOf_61 rfl (lv_at hl 3 rfl) ?_
        refine lv_iconst (v := (1 : Int32)) hx hb dX8_glueOf_62 kI_1 ?_
        refine lv_icmp_ne (tgt := 79) hx hb dX8_glueOf_63 (by decide) (fun c63 => ?_) (fun c63 => ?_)
        · have hw := hw.1 c63
          refine lv_iload_n hx hb dX8_glueOf_79 rfl (lv_at hl 3 rfl) ?_
          refine lv_iconst (v := (2 : Int32)) hx hb dX8_glueOf_80 kI_2 ?_
          refine lv_icmp_ne (tgt := 96) hx hb dX8_glueOf_81 (by decide) (fun c81 => ?_) (fun c81 => ?_)
          · have hw := hw.1 c81
            refine lv_iconst (v := (0 : Int32)) hx hb dX8_glueOf_96 kI_0 ?_
            rw [hZ]
            exact cx_reti () hx hb hr hlocks hw hP hS dX8_glueOf_97
          · have hw := hw.2 c81
            refine lv_aload_n hx hb dX8_glueOf_84 rfl (lv_at hl 0 rfl) ?_
            refine va_get (D := D) (ci := 8) (v := .ref aM_more) (C := RX8) (T := TX8) (N := 38) hx hb hts in_X8_glueOf_X8 hown hK hP 0 rfl rfl 2 (by decide) k_1 (fun _ h9 => h9) rfl dX8_glueOf_85 ?_
            refine lv_iload_n hx hb dX8_glueOf_88 rfl (lv_at hl 1 rfl) ?_
            have h89 := hw.1
            have hw := hw.2
            refine va_iald hx hb hK hP 2 0 rfl rfl h89 dX8_glueOf_89 ?_
            refine lv_topi (fun v89 e89 => ?_)
            have hw := hw v89 e89
            refine lv_bipush (v := (64 : Int32)) hx hb dX8_glueOf_90 kB_64 ?_
            refine lv_idiv hx hb dX8_glueOf_92 (by decide) ?_
            refine lv_goto (tgt := 97) hx hb dX8_glueOf_93 (by decide) ?_
            rw [hZ]
            exact cx_reti () hx hb hr hlocks hw hP hS dX8_glueOf_97
        · have hw := hw.2 c63
          refine lv_aload_n hx hb dX8_glueOf_66 rfl (lv_at hl 0 rfl) ?_
          refine va_get (D := D) (ci := 8) (v := .ref aM_glues) (C := RX8) (T := TX8) (N := 38) hx hb hts in_X8_glueOf_X8 hown hK hP 0 rfl rfl 3 (by decide) k_2 (fun _ h9 => h9) rfl dX8_glueOf_67 ?_
          refine lv_iconst (v := (4 : Int32)) hx hb dX8_glueOf_70 kI_4 ?_
          refine lv_iload_n hx hb dX8_glueOf_71 rfl (lv_at hl 1 rfl) ?_
          refine lv_imul hx hb dX8_glueOf_72 ?_
          refine lv_iconst (v := (1 : Int32)) hx hb dX8_glueOf_73 kI_1 ?_
          refine lv_iadd hx hb dX8_glueOf_74 ?_
          have h75 := hw.1
          have hw := hw.2
          refine va_iald hx hb hK hP 3 0 rfl rfl h75 dX8_glueOf_75 ?_
          refine lv_topi (fun v75 e75 => ?_)
          have hw := hw v75 e75
          refine lv_goto (tgt := 97) hx hb dX8_glueOf_76 (by decide) ?_
          rw [hZ]
          exact cx_reti () hx hb hr hlocks hw hP hS dX8_glueOf_97
      · have hw := hw.2 c46
        refine lv_aload_n hx hb dX8_glueOf_49 rfl (lv_at hl 0 rfl) ?_
        refine va_get (D := D) (ci := 8) (v := .ref aM_more) (C := RX8) (T := TX8) (N := 38) hx hb hts in_X8_glueOf_X8 hown hK hP 0 rfl rfl 2 (by decide) k_1 (fun _ h9 => h9) rfl dX8_glueOf_50 ?_
        refine lv_iload_n hx hb dX8_glueOf_53 rfl (lv_at hl 1 rfl) ?_
        have h54 := hw.1
        have hw := hw.2
        refine va_iald hx hb hK hP 2 0 rfl rfl h54 dX8_glueOf_54 ?_
        refine lv_topi (fun v54 e54 => ?_)
        have hw := hw v54 e54
        refine lv_bipush (v := (64 : Int32)) hx hb dX8_glueOf_55 kB_64 ?_
        refine lv_irem hx hb dX8_glueOf_57 (by decide) ?_
        refine lv_goto (tgt := 97) hx hb dX8_glueOf_58 (by decide) ?_
        rw [hZ]
        exact cx_reti () hx hb hr hlocks hw hP hS dX8_glueOf_97
    · have hw := hw.2 c22
      refine lv_iload_n hx hb dX8_glueOf_25 rfl (lv_at hl 3 rfl) ?_
      refine lv_iconst (v := (1 : Int32)) hx hb dX8_glueOf_26 kI_1 ?_
      refine lv_icmp_ne (tgt := 34) hx hb dX8_glueOf_27 (by decide) (fun c27 => ?_) (fun c27 => ?_)
      · have hw := hw.1 c27
        refine lv_aload_n hx hb dX8_glueOf_34 rfl (lv_at hl 0 rfl) ?_
        refine va_get (D := D) (ci := 8) (v := .ref aM_glues) (C := RX8) (T := TX8) (N := 38) hx hb hts in_X8_glueOf_X8 hown hK hP 0 rfl rfl 3 (by decide) k_2 (fun _ h9 => h9) rfl dX8_glueOf_35 ?_
        refine lv_iconst (v := (4 : Int32)) hx hb dX8_glueOf_38 kI_4 ?_
        refine lv_iload_n hx hb dX8_glueOf_39 rfl (lv_at hl 1 rfl) ?_
        refine lv_imul hx hb dX8_glueOf_40 ?_
        refine lv_iload_n hx hb dX8_glueOf_41 rfl (lv_at hl 3 rfl) ?_
        refine lv_iadd hx hb dX8_glueOf_42 ?_
        have h43 := hw.1
        have hw := hw.2
        refine va_iald hx hb hK hP 3 0 rfl rfl h43 dX8_glueOf_43 ?_
        refine lv_topi (fun v43 e43 => ?_)
        have hw := hw v43 e43
        rw [hZ]
        exact cx_reti () hx hb hr hlocks hw hP hS dX8_glueOf_44
      · have hw := hw.2 c27
        refine lv_iconst (v := (0 : Int32)) hx hb dX8_glueOf_30 kI_0 ?_
        refine lv_goto (tgt := 44) hx hb dX8_glueOf_31 (by decide) ?_
        rw [hZ]
        exact cx_reti () hx hb hr hlocks hw hP hS dX8_glueOf_44
  · have hw := hw.2 c7
    refine lv_aload_n hx hb dX8_glueOf_10 rfl (lv_at hl 0 rfl) ?_
    refine va_get (D := D) (ci := 8) (v := .ref aM_glues) (C := RX8) (T := TX8) (N := 38) hx hb hts in_X8_glueOf_X8 hown hK hP 0 rfl rfl 3 (by decide) k_2 (fun _ h9 => h9) rfl dX8_glueOf_11 ?_
    refine lv_iconst (v := (4 : Int32)) hx hb dX8_glueOf_14 kI_4 ?_
    refine lv_iload_n hx hb dX8_glueOf_15 rfl (lv_at hl 1 rfl) ?_
    refine lv_imul hx hb dX8_glueOf_16 ?_
    refine lv_iload_n hx hb dX8_glueOf_17 rfl (lv_at hl 3 rfl) ?_
    refine lv_iadd hx hb dX8_glueOf_18 ?_
    have h19 := hw.1
    have hw := hw.2
    refine va_iald hx hb hK hP 3 0 rfl rfl h19 dX8_glueOf_19 ?_
    refine lv_topi (fun v19 e19 => ?_)
    have hw := hw v19 e19
    rw [hZ]
    exact cx_reti () hx hb hr hlocks hw hP hS dX8_glueOf_20
