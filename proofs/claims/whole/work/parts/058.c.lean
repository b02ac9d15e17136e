set_option maxRecDepth 100000 in
set_option maxHeartbeats 4000000 in
theorem c_X8_about (l : Launch) (D : va_G) (cI cJ cZ cO : ClassId) (tS tT : Nat) (sz : Nat) (aM aM_strength aM_kind aM_more aM_glues aM_sheet aM_since aM_imageStrength aM_imageKind aM_imageMore aM_imageGlues aM_imagePieces aM_imageWarmth aM_imageSheet aM_imageDraw aM_stepWhat aM_stepPiece aM_stepPlace aM_stepSince aM_tape aM_shapes aM_pile aM_met aM_next aM_inputs aM_then : Nat) (M_pieces : Int32) (M_warmth : Int32) (M_draw : Int64) (M_steps : Int32) (M_undoable : Int32) (M_brought : Int32) (M_taped : Int32) (M_shapeMany : Int32) (M_ended : Int32) (M_cut : Int32) (M_mostPieces : Int32) (M_walks : Int32) (M_walked : Int32) (M_sheet : Nat → Int32) (p1 : Int32) (Q : Int32 → Prop) (hw : wp_X8_about M_pieces M_warmth M_sheet M_steps M_undoable M_taped p1 Q) : Met l yX8_about wsX8_about rm_X8_about (va_Pc [.ref aM, .int p1] (cx_B tS tT cI cJ cZ cO D sz (w_X8_about cI cJ cZ cO aM aM_strength aM_kind aM_more aM_glues aM_sheet aM_since aM_imageStrength aM_imageKind aM_imageMore aM_imageGlues aM_imagePieces aM_imageWarmth aM_imageSheet aM_imageDraw aM_stepWhat aM_stepPiece aM_stepPlace aM_stepSince aM_tape aM_shapes aM_pile aM_met aM_next aM_inputs aM_then M_pieces M_warmth M_draw M_steps M_undoable M_brought M_taped M_shapeMany M_ended M_cut M_mostPieces M_walks M_walked M_sheet))) (va_Qi (fun (r : Int32) (_ : Unit) => Q r) (fun (u : Unit) t => va_P D vwCl (w_X8_about cI cJ cZ cO aM aM_strength aM_kind aM_more aM_glues aM_sheet aM_since aM_imageStrength aM_imageKind aM_imageMore aM_imageGlues aM_imagePieces aM_imageWarmth aM_imageSheet aM_imageDraw aM_stepWhat aM_stepPiece aM_stepPlace aM_stepSince aM_tape aM_shapes aM_pile aM_met aM_next aM_inputs aM_then M_pieces M_warmth M_draw M_steps M_undoable M_brought M_taped M_shapeMany M_ended M_cut M_mostPieces M_walks M_walked M_sheet) t.heap) (va_A (w_X8_about cI cJ cZ cO aM aM_strength aM_kind aM_more aM_glues aM_sheet aM_since aM_imageStrength aM_imageKind aM_imageMore aM_imageGlues aM_imagePieces aM_imageWarmth aM_imageSheet aM_imageDraw aM_stepWhat aM_stepPiece aM_stepPlace aM_stepSince aM_tape aM_shapes aM_pile aM_met aM_next aM_inputs aM_then M_pieces M_warmth M_draw M_steps M_undoable M_brought M_taped M_shapeMany M_ended M_cut M_mostPieces M_walks M_walked M_sheet) sz)) 0 0 (va_A (w_X8_about cI cJ cZ cO aM aM_strength aM_kind aM_more aM_glues aM_sheet aM_since aM_imageStrength aM_imageKind aM_imageMore aM_imageGlues aM_imagePieces aM_imageWarmth aM_imageSheet aM_imageDraw aM_stepWhat aM_stepPiece aM_stepPlace aM_stepSince aM_tape aM_shapes aM_pile aM_met aM_next aM_inputs aM_then M_pieces M_warmth M_draw M_steps M_undoable M_brought M_taped M_shapeMany M_ended M_cut M_mostPieces M_walks M_walked M_sheet) sz) := by
  refine cx_met (cc := cX8_about) (maxL := 2) (ret := (some .int)) (Qc := fun A => va_Qi (fun (r : Int32) (_ : Unit) => Q r) (fun (u : Unit) t => va_P D vwCl (w_X8_about cI cJ cZ cO aM aM_strength aM_kind aM_more aM_glues aM_sheet aM_since aM_imageStrength aM_imageKind aM_imageMore aM_imageGlues aM_imagePieces aM_imageWarmth aM_imageSheet aM_imageDraw aM_stepWhat aM_stepPiece aM_stepPlace aM_stepSince aM_tape aM_shapes aM_pile aM_met aM_next aM_inputs aM_then M_pieces M_warmth M_draw M_steps M_undoable M_brought M_taped M_shapeMany M_ended M_cut M_mostPieces M_walks M_walked M_sheet) t.heap) A) (lv := [(0, .ref aM), (1, .int p1)]) (by decide) rfl (Nat.le_of_ble_eq_true rfl) rfl ?_
  intro p e s m args below meth c A Z hx hb hr hlocks hts hown hml hE hK hA hZ
  have hown : s.vm.findClass RX8 = some m.cls := hown
  have k_0 := hts (.fieldLink RX8 92 "GrowingTilesModel" "pieces" "I") (List.mem_of_getElem? (i := 1) (by decide +kernel))
  have k_1 := hts (.fieldLink RX8 26 "GrowingTilesModel" "sheet" "[I") (List.mem_of_getElem? (i := 2) (by decide +kernel))
  have k_2 := hts (.fieldLink RX8 22 "GrowingTilesModel" "warmth" "I") (List.mem_of_getElem? (i := 3) (by decide +kernel))
  have k_3 := hts (.fieldLink RX8 159 "GrowingTilesModel" "steps" "I") (List.mem_of_getElem? (i := 4) (by decide +kernel))
  have k_4 := hts (.fieldLink RX8 156 "GrowingTilesModel" "undoable" "I") (List.mem_of_getElem? (i := 5) (by decide +kernel))
  have k_5 := hts (.fieldLink RX8 107 "GrowingTilesModel" "taped" "I") (List.mem_of_getElem? (i := 6) (by decide +kernel))
  intro H locs hP hD hS ls hl
  unfold wp_X8_about at hw
  refine lv_iload_n hx hb dX8_about_0 rfl (lv_at hl 1 rfl) ?_
  by_cases c1_0 : p1 = (0 : Int32)
  · have hw := hw.1 c1_0
    refine lv_tableIn (tgt := 40) hx hb dX8_about_1 (by rw [c1_0]; decide) (by rw [c1_0]; decide) (by rw [c1_0]; rfl) (by decide) ?_
    refine lv_aload_n hx hb dX8_about_40 rfl (lv_at hl 0 rfl) ?_
    refine va_get (D := D) (ci := 8) (v := .int M_pieces) (C := RX8) (T := TX8) (N := 38) hx hb hts in_X8_about_X8 hown hK hP 0 rfl rfl 4 (by decide) k_0 (fun _ h9 => h9) rfl dX8_about_41 ?_
    rw [hZ]
    exact cx_reti () hx hb hr hlocks hw hP hS dX8_about_44
  by_cases c1_1 : p1 = (1 : Int32)
  · have hw := hw.2.1 c1_1
    refine lv_tableIn (tgt := 45) hx hb dX8_about_1 (by rw [c1_1]; decide) (by rw [c1_1]; decide) (by rw [c1_1]; rfl) (by decide) ?_
    refine lv_aload_n hx hb dX8_about_45 rfl (lv_at hl 0 rfl) ?_
    refine lv_aload_n hx hb dX8_about_46 rfl (lv_at hl 0 rfl) ?_
    refine va_get (D := D) (ci := 8) (v := .ref aM_sheet) (C := RX8) (T := TX8) (N := 38) hx hb hts in_X8_about_X8 hown hK hP 0 rfl rfl 7 (by decide) k_1 (fun _ h9 => h9) rfl dX8_about_47 ?_
    refine lv_iconst (v := (0 : Int32)) hx hb dX8_about_50 kI_0 ?_
    refine cx_goi (va_runV (As := [.ref aM_sheet, .int (0 : Int32)]) (rest := []) ⟨hx, hb, hml, hown, hts⟩ (c_X8_piecesOn l D cI cJ cZ cO tS tT H.size aM_sheet aM aM_strength aM_kind aM_more aM_glues aM_sheet aM_since aM_imageStrength aM_imageKind aM_imageMore aM_imageGlues aM_imagePieces aM_imageWarmth aM_imageSheet aM_imageDraw aM_stepWhat aM_stepPiece aM_stepPlace aM_stepSince aM_tape aM_shapes aM_pile aM_met aM_next aM_inputs aM_then 256 M_sheet M_pieces M_warmth M_draw M_steps M_undoable M_brought M_taped M_shapeMany M_ended M_cut M_mostPieces M_walks M_walked (0 : Int32) _ hw) (cwV 2 hts gX8_about_X8_piecesOn rfl rfl rfl pv_X8_piecesOn ⟨Nat.le_of_ble_eq_true rfl, Nat.le_of_ble_eq_true rfl⟩) (cx_preV (wc := w_X8_piecesOn cI cJ cZ cO aM_sheet aM aM_strength aM_kind aM_more aM_glues aM_sheet aM_since aM_imageStrength aM_imageKind aM_imageMore aM_imageGlues aM_imagePieces aM_imageWarmth aM_imageSheet aM_imageDraw aM_stepWhat aM_stepPiece aM_stepPlace aM_stepSince aM_tape aM_shapes aM_pile aM_met aM_next aM_inputs aM_then 256 M_sheet M_pieces M_warmth M_draw M_steps M_undoable M_brought M_taped M_shapeMany M_ended M_cut M_mostPieces M_walks M_walked) hE hK hP hD hS hA [1, 0] rfl rfl (va_recv hK hP (ci := 8) (q0 := 0) rfl rfl)) rfl rfl hl.1 rfl (lv_room (Nat.le_of_ble_eq_true rfl)) dX8_about_51 ⟨Nat.le_of_ble_eq_true rfl, Nat.le_of_ble_eq_true rfl⟩) (fun (_ : Unit) => (w_X8_about cI cJ cZ cO aM aM_strength aM_kind aM_more aM_glues aM_sheet aM_since aM_imageStrength aM_imageKind aM_imageMore aM_imageGlues aM_imagePieces aM_imageWarmth aM_imageSheet aM_imageDraw aM_stepWhat aM_stepPiece aM_stepPlace aM_stepSince aM_tape aM_shapes aM_pile aM_met aM_next aM_inputs aM_then M_pieces M_warmth M_draw M_steps M_undoable M_brought M_taped M_shapeMany M_ended M_cut M_mostPieces M_walks M_walked M_sheet)) [1, 0] [] (ads := [aM_sheet, aM]) (wr := []) rfl rfl (fun u => rfl) (fun u => rfl) rfl (fun u => rfl) rfl (fun u => rfl) rfl hP hD hS hA (fun r51 u H locs hw hP hD hS => ?_)
    have hP : va_P D vwCl (w_X8_about cI cJ cZ cO aM aM_strength aM_kind aM_more aM_glues aM_sheet aM_since aM_imageStrength aM_imageKind aM_imageMore aM_imageGlues aM_imagePieces aM_imageWarmth aM_imageSheet aM_imageDraw aM_stepWhat aM_stepPiece aM_stepPlace aM_stepSince aM_tape aM_shapes aM_pile aM_met aM_next aM_inputs aM_then M_pieces M_warmth M_draw M_steps M_undoable M_brought M_taped M_shapeMany M_ended M_cut M_mostPieces M_walks M_walked M_sheet) H := hP
    have hD : va_D A (w_X8_about cI cJ cZ cO aM aM_strength aM_kind aM_more aM_glues aM_sheet aM_since aM_imageStrength aM_imageKind aM_imageMore aM_imageGlues aM_imagePieces aM_imageWarmth aM_imageSheet aM_imageDraw aM_stepWhat aM_stepPiece aM_stepPlace aM_stepSince aM_tape aM_shapes aM_pile aM_met aM_next aM_inputs aM_then M_pieces M_warmth M_draw M_steps M_undoable M_brought M_taped M_shapeMany M_ended M_cut M_mostPieces M_walks M_walked M_sheet) := hD
    rw [hZ]
    exact cx_reti () hx hb hr hlocks hw hP hS dX8_about_54
  by_cases c1_2 : p1 = (2 : Int32)
  · have hw := hw.2.2.1 c1_2
    refine lv_tableIn (tgt := 55) hx hb dX8_about_1 (by rw [c1_2]; decide) (by rw [c1_2]; decide) (by rw [c1_2]; rfl) (by decide) ?_
    refine lv_aload_n hx hb dX8_about_55 rfl (lv_at hl 0 rfl) ?_
    refine va_get (D := D) (ci := 8) (v := .int M_warmth) (C := RX8) (T := TX8) (N := 38) hx hb hts in_X8_about_X8 hown hK hP 0 rfl rfl 5 (by decide) k_2 (fun _ h9 => h9) rfl dX8_about_56 ?_
    rw [hZ]
    exact cx_reti () hx hb hr hlocks hw hP hS dX8_about_59
  by_cases c1_3 : p1 = (3 : Int32)
  · have hw := hw.2.2.2.1 c1_3
    refine lv_tableIn (tgt := 60) hx hb dX8_about_1 (by rw [c1_3]; decide) (by rw [c1_3]; decide) (by rw [c1_3]; rfl) (by decide) ?_
    refine lv_aload_n hx hb dX8_about_60 rfl (lv_at hl 0 rfl) ?_
    refine va_get (D := D) (ci := 8) (v := .int M_steps) (C := RX8) (T := TX8) (N := 38) hx hb hts in_X8_about_X8 hown hK hP 0 rfl rfl 21 (by decide) k_3 (fun _ h9 => h9) rfl dX8_about_61 ?_
    rw [hZ]
    exact cx_reti () hx hb hr hlocks hw hP hS dX8_about_64
  by_cases c1_4 : p1 = (4 : Int32)
  · have hw := hw.2.2.2.2.1 c1_4
    refine lv_tableIn (tgt := 65) hx hb dX8_about_1 (by rw [c1_4]; decide) (by rw [c1_4]; decide) (by rw [c1_4]; rfl) (by decide) ?_
    refine lv_aload_n hx hb dX8_about_65 rfl (lv_at hl 0 rfl) ?_
    refine va_get (D := D) (ci := 8) (v := .int M_undoable) (C := RX8) (T := TX8) (N := 38) hx hb hts in_X8_about_X8 hown hK hP 0 rfl rfl 22 (by decide) k_4 (fun _ h9 => h9) rfl dX8_about_66 ?_
    rw [hZ]
    exact cx_reti () hx hb hr hlocks hw hP hS dX8_about_69
  by_cases c1_5 : p1 = (5 : Int32)
  · have hw := hw.2.2.2.2.2.1 c1_5
    refine lv_tableIn (tgt := 70) hx hb dX8_about_1 (by rw [c1_5]; decide) (by rw [c1_5]; decide) (by rw [c1_5]; rfl) (by decide) ?_
    refine lv_aload_n hx hb dX8_about_70 rfl (lv_at hl 0 rfl) ?_
    refine va_get (D := D) (ci := 8) (v := .int M_taped) (C := RX8) (T := TX8) (N := 38) hx hb hts in_X8_about_X8 hown hK hP 0 rfl rfl 25 (by decide) k_5 (fun _ h9 => h9) rfl dX8_about_71 ?_
    rw [hZ]
    exact cx_reti () hx hb hr hlocks hw hP hS dX8_about_74
  have hw := hw.2.2.2.2.2.2 c1_0 c1_1 c1_2 c1_3 c1_4 c1_5
  refine lv_tableOut (tgt := 75) hx hb dX8_about_1 (cx_sw6 p1 c1_0 c1_1 c1_2 c1_3 c1_4 c1_5) (by decide) ?_
  refine lv_iconst (v := (-1 : Int32)) hx hb dX8_about_75 kI_m1 ?_
  rw [hZ]
  exact cx_reti () hx hb hr hlocks hw hP hS dX8_about_76
