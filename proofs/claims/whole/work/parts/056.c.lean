set_option maxRecDepth 100000 in
set_option maxHeartbeats 4000000 in
theorem c_X8_ways (l : Launch) (D : va_G) (cI cJ cZ cO : ClassId) (tS tT : Nat) (sz : Nat) (aM aM_strength aM_kind aM_more aM_glues aM_sheet aM_since aM_imageStrength aM_imageKind aM_imageMore aM_imageGlues aM_imagePieces aM_imageWarmth aM_imageSheet aM_imageDraw aM_stepWhat aM_stepPiece aM_stepPlace aM_stepSince aM_tape aM_shapes aM_pile aM_met aM_next aM_inputs aM_then : Nat) (M_pieces : Int32) (M_warmth : Int32) (M_draw : Int64) (M_steps : Int32) (M_undoable : Int32) (M_brought : Int32) (M_taped : Int32) (M_shapeMany : Int32) (M_ended : Int32) (M_cut : Int32) (M_mostPieces : Int32) (M_walks : Int32) (M_walked : Int32) (p1 : Int32) (Q : Int32 → Prop) (hw : wp_X8_ways M_shapeMany M_ended M_cut M_mostPieces M_walked p1 Q) : Met l yX8_ways wsX8_ways rm_X8_ways (va_Pc [.ref aM, .int p1] (cx_B tS tT cI cJ cZ cO D sz (w_X8_ways cI cJ cZ cO aM aM_strength aM_kind aM_more aM_glues aM_sheet aM_since aM_imageStrength aM_imageKind aM_imageMore aM_imageGlues aM_imagePieces aM_imageWarmth aM_imageSheet aM_imageDraw aM_stepWhat aM_stepPiece aM_stepPlace aM_stepSince aM_tape aM_shapes aM_pile aM_met aM_next aM_inputs aM_then M_pieces M_warmth M_draw M_steps M_undoable M_brought M_taped M_shapeMany M_ended M_cut M_mostPieces M_walks M_walked))) (va_Qi (fun (r : Int32) (_ : Unit) => Q r) (fun (u : Unit) t => va_P D vwCl (w_X8_ways cI cJ cZ cO aM aM_strength aM_kind aM_more aM_glues aM_sheet aM_since aM_imageStrength aM_imageKind aM_imageMore aM_imageGlues aM_imagePieces aM_imageWarmth aM_imageSheet aM_imageDraw aM_stepWhat aM_stepPiece aM_stepPlace aM_stepSince aM_tape aM_shapes aM_pile aM_met aM_next aM_inputs aM_then M_pieces M_warmth M_draw M_steps M_undoable M_brought M_taped M_shapeMany M_ended M_cut M_mostPieces M_walks M_walked) t.heap) (va_A (w_X8_ways cI cJ cZ cO aM aM_strength aM_kind aM_more aM_glues aM_sheet aM_since aM_imageStrength aM_imageKind aM_imageMore aM_imageGlues aM_imagePieces aM_imageWarmth aM_imageSheet aM_imageDraw aM_stepWhat aM_stepPiece aM_stepPlace aM_stepSince aM_tape aM_shapes aM_pile aM_met aM_next aM_inputs aM_then M_pieces M_warmth M_draw M_steps M_undoable M_brought M_taped M_shapeMany M_ended M_cut M_mostPieces M_walks M_walked) sz)) 0 0 (va_A (w_X8_ways cI cJ cZ cO aM aM_strength aM_kind aM_more aM_glues aM_sheet aM_since aM_imageStrength aM_imageKind aM_imageMore aM_imageGlues aM_imagePieces aM_imageWarmth aM_imageSheet aM_imageDraw aM_stepWhat aM_stepPiece aM_stepPlace aM_stepSince aM_tape aM_shapes aM_pile aM_met aM_next aM_inputs aM_then M_pieces M_warmth M_draw M_steps M_undoable M_brought M_taped M_shapeMany M_ended M_cut M_mostPieces M_walks M_walked) sz) := by
  refine cx_met (cc := cX8_ways) (maxL := 2) (ret := (some .int)) (Qc := fun A => va_Qi (fun (r : Int32) (_ : Unit) => Q r) (fun (u : Unit) t => va_P D vwCl (w_X8_ways cI cJ cZ cO aM aM_strength aM_kind aM_more aM_glues aM_sheet aM_since aM_imageStrength aM_imageKind aM_imageMore aM_imageGlues aM_imagePieces aM_imageWarmth aM_imageSheet aM_imageDraw aM_stepWhat aM_stepPiece aM_stepPlace aM_stepSince aM_tape aM_shapes aM_pile aM_met aM_next aM_inputs aM_then M_pieces M_warmth M_draw M_steps M_undoable M_brought M_taped M_shapeMany M_ended M_cut M_mostPieces M_walks M_walked) t.heap) A) (lv := [(0, .ref aM), (1, .int p1)]) (by decide) rfl (Nat.le_of_ble_eq_true rfl) rfl ?_
  intro p e s m args below meth c A Z hx hb hr hlocks hts hown hml hE hK hA hZ
  have hown : s.vm.findClass RX8 = some m.cls := hown
  have k_0 := hts (.fieldLink RX8 216 "GrowingTilesModel" "walked" "Z") (List.mem_of_getElem? (i := 1) (by decide +kernel))
  have k_1 := hts (.fieldLink RX8 210 "GrowingTilesModel" "shapeMany" "I") (List.mem_of_getElem? (i := 2) (by decide +kernel))
  have k_2 := hts (.fieldLink RX8 219 "GrowingTilesModel" "ended" "I") (List.mem_of_getElem? (i := 3) (by decide +kernel))
  have k_3 := hts (.fieldLink RX8 222 "GrowingTilesModel" "cut" "I") (List.mem_of_getElem? (i := 4) (by decide +kernel))
  have k_4 := hts (.fieldLink RX8 225 "GrowingTilesModel" "mostPieces" "I") (List.mem_of_getElem? (i := 5) (by decide +kernel))
  intro H locs hP hD hS ls hl
  unfold wp_X8_ways at hw
  refine lv_aload_n hx hb dX8_ways_0 rfl (lv_at hl 0 rfl) ?_
  refine va_get (D := D) (ci := 8) (v := .int M_walked) (C := RX8) (T := TX8) (N := 38) hx hb hts in_X8_ways_X8 hown hK hP 0 rfl rfl 32 (by decide) k_0 (fun _ h9 => h9) rfl dX8_ways_1 ?_
  refine lv_if_ne (tgt := 9) hx hb dX8_ways_4 (by decide) (fun c4 => ?_) (fun c4 => ?_)
  · have hw := hw.1 c4
    refine lv_iload_n hx hb dX8_ways_9 rfl (lv_at hl 1 rfl) ?_
    by_cases c10_0 : p1 = (0 : Int32)
    · have hw := hw.1 c10_0
      refine lv_tableIn (tgt := 40) hx hb dX8_ways_10 (by rw [c10_0]; decide) (by rw [c10_0]; decide) (by rw [c10_0]; rfl) (by decide) ?_
      refine lv_aload_n hx hb dX8_ways_40 rfl (lv_at hl 0 rfl) ?_
      refine va_get (D := D) (ci := 8) (v := .int M_shapeMany) (C := RX8) (T := TX8) (N := 38) hx hb hts in_X8_ways_X8 hown hK hP 0 rfl rfl 27 (by decide) k_1 (fun _ h9 => h9) rfl dX8_ways_41 ?_
      rw [hZ]
      exact cx_reti () hx hb hr hlocks hw hP hS dX8_ways_44
    by_cases c10_1 : p1 = (1 : Int32)
    · have hw := hw.2.1 c10_1
      refine lv_tableIn (tgt := 45) hx hb dX8_ways_10 (by rw [c10_1]; decide) (by rw [c10_1]; decide) (by rw [c10_1]; rfl) (by decide) ?_
      refine lv_aload_n hx hb dX8_ways_45 rfl (lv_at hl 0 rfl) ?_
      refine va_get (D := D) (ci := 8) (v := .int M_ended) (C := RX8) (T := TX8) (N := 38) hx hb hts in_X8_ways_X8 hown hK hP 0 rfl rfl 28 (by decide) k_2 (fun _ h9 => h9) rfl dX8_ways_46 ?_
      rw [hZ]
      exact cx_reti () hx hb hr hlocks hw hP hS dX8_ways_49
    by_cases c10_2 : p1 = (2 : Int32)
    · have hw := hw.2.2.1 c10_2
      refine lv_tableIn (tgt := 50) hx hb dX8_ways_10 (by rw [c10_2]; decide) (by rw [c10_2]; decide) (by rw [c10_2]; rfl) (by decide) ?_
      refine lv_aload_n hx hb dX8_ways_50 rfl (lv_at hl 0 rfl) ?_
      refine va_get (D := D) (ci := 8) (v := .int M_cut) (C := RX8) (T := TX8) (N := 38) hx hb hts in_X8_ways_X8 hown hK hP 0 rfl rfl 29 (by decide) k_3 (fun _ h9 => h9) rfl dX8_ways_51 ?_
      rw [hZ]
      exact cx_reti () hx hb hr hlocks hw hP hS dX8_ways_54
    by_cases c10_3 : p1 = (3 : Int32)
    · have hw := hw.2.2.2.1 c10_3
      refine lv_tableIn (tgt := 55) hx hb dX8_ways_10 (by rw [c10_3]; decide) (by rw [c10_3]; decide) (by rw [c10_3]; rfl) (by decide) ?_
      refine lv_aload_n hx hb dX8_ways_55 rfl (lv_at hl 0 rfl) ?_
      refine va_get (D := D) (ci := 8) (v := .int M_mostPieces) (C := RX8) (T := TX8) (N := 38) hx hb hts in_X8_ways_X8 hown hK hP 0 rfl rfl 30 (by decide) k_4 (fun _ h9 => h9) rfl dX8_ways_56 ?_
      rw [hZ]
      exact cx_reti () hx hb hr hlocks hw hP hS dX8_ways_59
    have hw := hw.2.2.2.2 c10_0 c10_1 c10_2 c10_3
    refine lv_tableOut (tgt := 60) hx hb dX8_ways_10 (cx_sw4 p1 c10_0 c10_1 c10_2 c10_3) (by decide) ?_
    refine lv_iconst (v := (-1 : Int32)) hx hb dX8_ways_60 kI_m1 ?_
    rw [hZ]
    exact cx_reti () hx hb hr hlocks hw hP hS dX8_ways_61
  · have hw := hw.2 c4
    refine lv_iconst (v := (-1 : Int32)) hx hb dX8_ways_7 kI_m1 ?_
    rw [hZ]
    exact cx_reti () hx hb hr hlocks hw hP hS dX8_ways_8
set_option maxRecDepth 100000 in
set_option maxHeartbeats 4000000 in
theorem c_X8_way (l : Launch) (D : va_G) (cI cJ cZ cO : ClassId) (tS tT : Nat) (sz : Nat) (aM aM_strength aM_kind aM_more aM_glues aM_sheet aM_since aM_imageStrength aM_imageKind aM_imageMore aM_imageGlues aM_imagePieces aM_imageWarmth aM_imageSheet aM_imageDraw aM_stepWhat aM_stepPiece aM_stepPlace aM_stepSince aM_tape aM_shapes aM_pile aM_met aM_next aM_inputs aM_then : Nat) (M_pieces : Int32) (M_warmth : Int32) (M_draw : Int64) (M_steps : Int32) (M_undoable : Int32) (M_brought : Int32) (M_taped : Int32) (M_shapeMany : Int32) (M_ended : Int32) (M_cut : Int32) (M_mostPieces : Int32) (M_walks : Int32) (M_walked : Int32) (M_shapes : Nat → Int32) (p1 : Int32) (p2 : Int32) (p3 : Int32) (Q : Int32 → Prop) (hw : wp_X8_way M_shapes M_shapeMany M_walked p1 p2 p3 Q) : Met l yX8_way wsX8_way rm_X8_way (va_Pc [.ref aM, .int p1, .int p2, .int p3] (cx_B tS tT cI cJ cZ cO D sz (w_X8_way cI cJ cZ cO aM aM_strength aM_kind aM_more aM_glues aM_sheet aM_since aM_imageStrength aM_imageKind aM_imageMore aM_imageGlues aM_imagePieces aM_imageWarmth aM_imageSheet aM_imageDraw aM_stepWhat aM_stepPiece aM_stepPlace aM_stepSince aM_tape aM_shapes aM_pile aM_met aM_next aM_inputs aM_then M_pieces M_warmth M_draw M_steps M_undoable M_brought M_taped M_shapeMany M_ended M_cut M_mostPieces M_walks M_walked M_shapes))) (va_Qi (fun (r : Int32) (_ : Unit) => Q r) (fun (u : Unit) t => va_P D vwCl (w_X8_way cI cJ cZ cO aM aM_strength aM_kind aM_more aM_glues aM_sheet aM_since aM_imageStrength aM_imageKind aM_imageMore aM_imageGlues aM_imagePieces aM_imageWarmth aM_imageSheet aM_imageDraw aM_stepWhat aM_stepPiece aM_stepPlace aM_stepSince aM_tape aM_shapes aM_pile aM_met aM_next aM_inputs aM_then M_pieces M_warmth M_draw M_steps M_undoable M_brought M_taped M_shapeMany M_ended M_cut M_mostPieces M_walks M_walked M_shapes) t.heap) (va_A (w_X8_way cI cJ cZ cO aM aM_strength aM_kind aM_more aM_glues aM_sheet aM_since aM_imageStrength aM_imageKind aM_imageMore aM_imageGlues aM_imagePieces aM_imageWarmth aM_imageSheet aM_imageDraw aM_stepWhat aM_stepPiece aM_stepPlace aM_stepSince aM_tape aM_shapes aM_pile aM_met aM_next aM_inputs aM_then M_pieces M_warmth M_draw M_steps M_undoable M_brought M_taped M_shapeMany M_ended M_cut M_mostPieces M_walks M_walked M_shapes) sz)) 0 0 (va_A (w_X8_way cI cJ cZ cO aM aM_strength aM_kind aM_more aM_glues aM_sheet aM_since aM_imageStrength aM_imageKind aM_imageMore aM_imageGlues aM_imagePieces aM_imageWarmth aM_imageSheet aM_imageDraw aM_stepWhat aM_stepPiece aM_stepPlace aM_stepSince aM_tape aM_shapes aM_pile aM_met aM_next aM_inputs aM_then M_pieces M_warmth M_draw M_steps M_undoable M_brought M_taped M_shapeMany M_ended M_cut M_mostPieces M_walks M_walked M_shapes) sz) := by
  refine cx_met (cc := cX8_way) (maxL := 5) (ret := (some .int)) (Qc := fun A => va_Qi (fun (r : Int32) (_ : Unit) => Q r) (fun (u : Unit) t => va_P D vwCl (w_X8_way cI cJ cZ cO aM aM_strength aM_kind aM_more aM_glues aM_sheet aM_since aM_imageStrength aM_imageKind aM_imageMore aM_imageGlues aM_imagePieces aM_imageWarmth aM_imageSheet aM_imageDraw aM_stepWhat aM_stepPiece aM_stepPlace aM_stepSince aM_tape aM_shapes aM_pile aM_met aM_next aM_inputs aM_then M_pieces M_warmth M_draw M_steps M_undoable M_brought M_taped M_shapeMany M_ended M_cut M_mostPieces M_walks M_walked M_shapes) t.heap) A) (lv := [(0, .ref aM), (1, .int p1), (2, .int p2), (3, .int p3)]) (by decide) rfl (Nat.le_of_ble_eq_true rfl) rfl ?_
  intro p e s m args below meth c A Z hx hb hr hlocks hts hown hml hE hK hA hZ
  have hown : s.vm.findClass RX8 = some m.cls := hown
  have k_0 := hts (.fieldLink RX8 216 "GrowingTilesModel" "walked" "Z") (List.mem_of_getElem? (i := 1) (by decide +kernel))
  have k_1 := hts (.fieldLink RX8 210 "GrowingTilesModel" "shapeMany" "I") (List.mem_of_getElem? (i := 2) (by decide +kernel))
  have k_2 := hts (.fieldLink RX8 73 "GrowingTilesModel" "shapes" "[I") (List.mem_of_getElem? (i := 3) (by decide +kernel))
  intro H locs hP hD hS ls hl
  unfold wp_X8_way at hw
  refine lv_aload_n hx hb dX8_way_0 rfl (lv_at hl 0 rfl) ?_
  refine va_get (D := D) (ci := 8) (v := .int M_walked) (C := RX8) (T := TX8) (N := 38) hx hb hts in_X8_way_X8 hown hK hP 0 rfl rfl 32 (by decide) k_0 (fun _ h9 => h9) rfl dX8_way_1 ?_
  refine lv_if_eq (tgt := 27) hx hb dX8_way_4 (by decide) (fun c4 => ?_) (fun c4 => ?_)
  · have hw := hw.1 c4
    refine lv_iconst (v := (-1 : Int32)) hx hb dX8_way_27 kI_m1 ?_
    rw [hZ]
    exact cx_reti () hx hb hr hlocks hw hP hS dX8_way_28
  · have hw := hw.2 c4
    refine lv_iload_n hx hb dX8_way_7 rfl (lv_at hl 1 rfl) ?_
    refine lv_if_lt (tgt := 27) hx hb dX8_way_8 (by decide) (fun c8 => ?_) (fun c8 => ?_)
    · have hw := hw.1 c8
      refine lv_iconst (v := (-1 : Int32)) hx hb dX8_way_27 kI_m1 ?_
      rw [hZ]
      exact cx_reti () hx hb hr hlocks hw hP hS dX8_way_28
    · have hw := hw.2 c8
      refine lv_iload_n hx hb dX8_way_11 rfl (lv_at hl 1 rfl) ?_
      refine lv_aload_n hx hb dX8_way_12 rfl (lv_at hl 0 rfl) ?_
      refine va_get (D := D) (ci := 8) (v := .int M_shapeMany) (C := RX8) (T := TX8) (N := 38) hx hb hts in_X8_way_X8 hown hK hP 0 rfl rfl 27 (by decide) k_1 (fun _ h9 => h9) rfl dX8_way_13 ?_
      refine lv_icmp_ge (tgt := 27) hx hb dX8_way_16 (by decide) (fun c16 => ?_) (fun c16 => ?_)
      · have hw := hw.1 c16
        refine lv_iconst (v := (-1 : Int32)) hx hb dX8_way_27 kI_m1 ?_
        rw [hZ]
        exact cx_reti () hx hb hr hlocks hw hP hS dX8_way_28
      · have hw := hw.2 c16
        refine lv_iload_n hx hb dX8_way_19 rfl (lv_at hl 2 rfl) ?_
        refine lv_iload_n hx hb dX8_way_20 rfl (lv_at hl 3 rfl) ?_
        refine cx_goi (va_runS (As := [.int p2, .int p3]) (rest := []) ⟨hx, hb, hml, hown, hts⟩ (c_X8_isOn l D cI cJ cZ cO tS tT H.size p2 p3 _ hw) (va_cwS 2 hts gX8_way_X8_isOn rfl rfl rfl ps_X8_isOn ⟨Nat.le_of_ble_eq_true rfl, Nat.le_of_ble_eq_true rfl⟩) (cx_preS (wc := w_X8_isOn) hE hK hP hD hS hA [] rfl rfl) rfl rfl hl.1 rfl (lv_room (Nat.le_of_ble_eq_true rfl)) dX8_way_21 ⟨Nat.le_of_ble_eq_true rfl, Nat.le_of_ble_eq_true rfl⟩) (fun (_ : Unit) => (w_X8_way cI cJ cZ cO aM aM_strength aM_kind aM_more aM_glues aM_sheet aM_since aM_imageStrength aM_imageKind aM_imageMore aM_imageGlues aM_imagePieces aM_imageWarmth aM_imageSheet aM_imageDraw aM_stepWhat aM_stepPiece aM_stepPlace aM_stepSince aM_tape aM_shapes aM_pile aM_met aM_next aM_inputs aM_then M_pieces M_warmth M_draw M_steps M_undoable M_brought M_taped M_shapeMany M_ended M_cut M_mostPieces M_walks M_walked M_shapes)) [] [0, 1] (ads := []) (wr := [(aM, .inr (8, [.ref aM_strength, .ref aM_kind, .ref aM_more, .ref aM_glues, .int M_pieces, .int M_warmth, .long M_draw, .ref aM_sheet, .ref aM_since, .ref aM_imageStrength, .ref aM_imageKind, .ref aM_imageMore, .ref aM_imageGlues, .ref aM_imagePieces, .ref aM_imageWarmth, .ref aM_imageSheet, .ref aM_imageDraw, .ref aM_stepWhat, .ref aM_stepPiece, .ref aM_stepPlace, .ref aM_stepSince, .int M_steps, .int M_undoable, .int M_brought, .ref aM_tape, .int M_taped, .ref aM_shapes, .int M_shapeMany, .int M_ended, .int M_cut, .int M_mostPieces, .int M_walks, .int M_walked, .ref aM_pile, .ref aM_met, .ref aM_next, .ref aM_inputs, .ref aM_then])), (aM_shapes, .inl (cI, 76800, .inl M_shapes))]) rfl rfl (fun u => rfl) (fun u => rfl) rfl (fun u => rfl) rfl (fun u => rfl) rfl hP hD hS hA (fun r21 u H locs hw hP hD hS => ?_)
        refine lv_if_ne (tgt := 29) hx hb dX8_way_24 (by decide) (fun c24 => ?_) (fun c24 => ?_)
        · have hw := hw.1 c24
          refine lv_aload_n hx hb dX8_way_29 rfl (lv_at hl 0 rfl) ?_
          refine va_get (D := D) (ci := 8) (v := .ref aM_shapes) (C := RX8) (T := TX8) (N := 38) hx hb hts in_X8_way_X8 hown hK hP 0 rfl rfl 26 (by decide) k_2 (fun _ h9 => h9) rfl dX8_way_30 ?_
          refine lv_sipush (v := (256 : Int32)) hx hb dX8_way_33 kS_256 ?_
          refine lv_iload_n hx hb dX8_way_36 rfl (lv_at hl 1 rfl) ?_
          refine lv_imul hx hb dX8_way_37 ?_
          refine lv_iload_n hx hb dX8_way_38 rfl (lv_at hl 2 rfl) ?_
          refine lv_iadd hx hb dX8_way_39 ?_
          refine lv_bipush (v := (16 : Int32)) hx hb dX8_way_40 kB_16 ?_
          refine lv_iload_n hx hb dX8_way_42 rfl (lv_at hl 3 rfl) ?_
          refine lv_imul hx hb dX8_way_43 ?_
          refine lv_iadd hx hb dX8_way_44 ?_
          have h45 := hw.1
          have hw := hw.2
          refine va_iald hx hb hK hP 1 0 rfl rfl h45 dX8_way_45 ?_
          refine lv_topi (fun v45 e45 => ?_)
          have hw := hw v45 e45
          refine lv_istore (lv' := [(4, .int v45), (0, .ref aM), (1, .int p1), (2, .int p2), (3, .int p3)]) hx hb dX8_way_46 hl (by decide) rfl (fun ls hl => ?_)
          refine lv_iload hx hb dX8_way_48 (lv_at hl 0 rfl) ?_
          refine lv_if_ne (tgt := 57) hx hb dX8_way_50 (by decide) (fun c50 => ?_) (fun c50 => ?_)
          · have hw := hw.1 c50
            refine lv_iload hx hb dX8_way_57 (lv_at hl 0 rfl) ?_
            refine lv_iconst (v := (1 : Int32)) hx hb dX8_way_59 kI_1 ?_
            refine lv_isub hx hb dX8_way_60 ?_
            refine lv_iconst (v := (2 : Int32)) hx hb dX8_way_61 kI_2 ?_
            refine lv_idiv hx hb dX8_way_62 (by decide) ?_
            rw [hZ]
            exact cx_reti () hx hb hr hlocks hw hP hS dX8_way_63
          · have hw := hw.2 c50
            refine lv_iconst (v := (-1 : Int32)) hx hb dX8_way_53 kI_m1 ?_
            refine lv_goto (tgt := 63) hx hb dX8_way_54 (by decide) ?_
            rw [hZ]
            exact cx_reti () hx hb hr hlocks hw hP hS dX8_way_63
        · have hw := hw.2 c24
          refine lv_iconst (v := (-1 : Int32)) hx hb dX8_way_27 kI_m1 ?_
          rw [hZ]
          exact cx_reti () hx hb hr hlocks hw hP hS dX8_way_28
set_option maxRecDepth 100000 in
set_option maxHeartbeats 4000000 in
theorem c_X8_canBeAsked (l : Launch) (D : va_G) (cI cJ cZ cO : ClassId) (tS tT : Nat) (sz : Nat) (aM aM_strength aM_kind aM_more aM_glues aM_sheet aM_since aM_imageStrength aM_imageKind aM_imageMore aM_imageGlues aM_imagePieces aM_imageWarmth aM_imageSheet aM_imageDraw aM_stepWhat aM_stepPiece aM_stepPlace aM_stepSince aM_tape aM_shapes aM_pile aM_met aM_next aM_inputs aM_then : Nat) (M_pieces : Int32) (M_warmth : Int32) (M_draw : Int64) (M_steps : Int32) (M_undoable : Int32) (M_brought : Int32) (M_taped : Int32) (M_shapeMany : Int32) (M_ended : Int32) (M_cut : Int32) (M_mostPieces : Int32) (M_walks : Int32) (M_walked : Int32) (M_kind : Nat → Int32) (M_more : Nat → Int32) (M_sheet : Nat → Int32) (M_stepWhat : Nat → Int32) (Q : Int32 → Prop) (hw : wp_X8_canBeAsked M_kind M_more M_sheet M_stepWhat M_steps M_undoable M_brought Q) : Met l yX8_canBeAsked wsX8_canBeAsked rm_X8_canBeAsked (va_Pc [.ref aM] (cx_B tS tT cI cJ cZ cO D sz (w_X8_canBeAsked cI cJ cZ cO aM aM_strength aM_kind aM_more aM_glues aM_sheet aM_since aM_imageStrength aM_imageKind aM_imageMore aM_imageGlues aM_imagePieces aM_imageWarmth aM_imageSheet aM_imageDraw aM_stepWhat aM_stepPiece aM_stepPlace aM_stepSince aM_tape aM_shapes aM_pile aM_met aM_next aM_inputs aM_then M_pieces M_warmth M_draw M_steps M_undoable M_brought M_taped M_shapeMany M_ended M_cut M_mostPieces M_walks M_walked M_kind M_more M_sheet M_stepWhat))) (va_Qi (fun (r : Int32) (_ : Unit) => Q r) (fun (u : Unit) t => va_P D vwCl (w_X8_canBeAsked cI cJ cZ cO aM aM_strength aM_kind aM_more aM_glues aM_sheet aM_since aM_imageStrength aM_imageKind aM_imageMore aM_imageGlues aM_imagePieces aM_imageWarmth aM_imageSheet aM_imageDraw aM_stepWhat aM_stepPiece aM_stepPlace aM_stepSince aM_tape aM_shapes aM_pile aM_met aM_next aM_inputs aM_then M_pieces M_warmth M_draw M_steps M_undoable M_brought M_taped M_shapeMany M_ended M_cut M_mostPieces M_walks M_walked M_kind M_more M_sheet M_stepWhat) t.heap) (va_A (w_X8_canBeAsked cI cJ cZ cO aM aM_strength aM_kind aM_more aM_glues aM_sheet aM_since aM_imageStrength aM_imageKind aM_imageMore aM_imageGlues aM_imagePieces aM_imageWarmth aM_imageSheet aM_imageDraw aM_stepWhat aM_stepPiece aM_stepPlace aM_stepSince aM_tape aM_shapes aM_pile aM_met aM_next aM_inputs aM_then M_pieces M_warmth M_draw M_steps M_undoable M_brought M_taped M_shapeMany M_ended M_cut M_mostPieces M_walks M_walked M_kind M_more M_sheet M_stepWhat) sz)) 0 0 (va_A (w_X8_canBeAsked cI cJ cZ cO aM aM_strength aM_kind aM_more aM_glues aM_sheet aM_since aM_imageStrength aM_imageKind aM_imageMore aM_imageGlues aM_imagePieces aM_imageWarmth aM_imageSheet aM_imageDraw aM_stepWhat aM_stepPiece aM_stepPlace aM_stepSince aM_tape aM_shapes aM_pile aM_met aM_next aM_inputs aM_then M_pieces M_warmth M_draw M_steps M_undoable M_brought M_taped M_shapeMany M_ended M_cut M_mostPieces M_walks M_walked M_kind M_more M_sheet M_stepWhat) sz) := by
  refine cx_met (cc := cX8_canBeAsked) (maxL := 3) (ret := (some .boolean)) (Qc := fun A => va_Qi (fun (r : Int32) (_ : Unit) => Q r) (fun (u : Unit) t => va_P D vwCl (w_X8_canBeAsked cI cJ cZ cO aM aM_strength aM_kind aM_more aM_glues aM_sheet aM_since aM_imageStrength aM_imageKind aM_imageMore aM_imageGlues aM_imagePieces aM_imageWarmth aM_imageSheet aM_imageDraw aM_stepWhat aM_stepPiece aM_stepPlace aM_stepSince aM_tape aM_shapes aM_pile aM_met aM_next aM_inputs aM_then M_pieces M_warmth M_draw M_steps M_undoable M_brought M_taped M_shapeMany M_ended M_cut M_mostPieces M_walks M_walked M_kind M_more M_sheet M_stepWhat) t.heap) A) (lv := [(0, .ref aM)]) (by decide) rfl (Nat.le_of_ble_eq_true rfl) rfl ?_
  intro p e s m args below meth c A Z hx hb hr hlocks hts hown hml hE hK hA hZ
  have hown : s.vm.findClass RX8 = some m.cls := hown
  have k_0 := hts (.fieldLink RX8 156 "GrowingTilesModel" "undoable" "I") (List.mem_of_getElem? (i := 3) (by decide +kernel))
  have k_1 := hts (.fieldLink RX8 57 "GrowingTilesModel" "stepWhat" "[I") (List.mem_of_getElem? (i := 7) (by decide +kernel))
  have k_2 := hts (.fieldLink RX8 26 "GrowingTilesModel" "sheet" "[I") (List.mem_of_getElem? (i := 4) (by decide +kernel))
  have k_3 := hts (.fieldLink RX8 13 "GrowingTilesModel" "kind" "[I") (List.mem_of_getElem? (i := 5) (by decide +kernel))
  have k_4 := hts (.fieldLink RX8 16 "GrowingTilesModel" "more" "[I") (List.mem_of_getElem? (i := 6) (by decide +kernel))
  have k_5 := hts (.fieldLink RX8 181 "GrowingTilesModel" "brought" "Z") (List.mem_of_getElem? (i := 1) (by decide +kernel))
  have k_6 := hts (.fieldLink RX8 159 "GrowingTilesModel" "steps" "I") (List.mem_of_getElem? (i := 2) (by decide +kernel))
  have b_103 : ∀ n_103 : Nat, ∀ (x1 : Int32), wq_X8_canBeAsked_103 M_kind M_more M_sheet M_stepWhat M_steps M_undoable M_brought Q n_103 x1 → ∀ (H : Heap) (locs : List Loc), va_P D vwCl (w_X8_canBeAsked cI cJ cZ cO aM aM_strength aM_kind aM_more aM_glues aM_sheet aM_since aM_imageStrength aM_imageKind aM_imageMore aM_imageGlues aM_imagePieces aM_imageWarmth aM_imageSheet aM_imageDraw aM_stepWhat aM_stepPiece aM_stepPlace aM_stepSince aM_tape aM_shapes aM_pile aM_met aM_next aM_inputs aM_then M_pieces M_warmth M_draw M_steps M_undoable M_brought M_taped M_shapeMany M_ended M_cut M_mostPieces M_walks M_walked M_kind M_more M_sheet M_stepWhat) H → va_D A (w_X8_canBeAsked cI cJ cZ cO aM aM_strength aM_kind aM_more aM_glues aM_sheet aM_since aM_imageStrength aM_imageKind aM_imageMore aM_imageGlues aM_imagePieces aM_imageWarmth aM_imageSheet aM_imageDraw aM_stepWhat aM_stepPiece aM_stepPlace aM_stepSince aM_tape aM_shapes aM_pile aM_met aM_next aM_inputs aM_then M_pieces M_warmth M_draw M_steps M_undoable M_brought M_taped M_shapeMany M_ended M_cut M_mostPieces M_walks M_walked M_kind M_more M_sheet M_stepWhat) → va_S A s.heap H locs → ∀ ls : Array Slot, lv_has ls 3 [(0, .ref aM), (1, .int x1)] → W p l e rm_X8_canBeAsked s m args below meth c H locs 0 0 Z (F0 m 103 ls []) := by
    intro n_103
    induction n_103 with
    | zero => intro x1 hw; exact False.elim hw
    | succ n_103 ih_103 =>
      intro x1 hw H locs hP hD hS ls hl
      have hw : wf_X8_canBeAsked_103 M_kind M_more M_sheet M_stepWhat M_steps M_undoable M_brought Q (wq_X8_canBeAsked_103 M_kind M_more M_sheet M_stepWhat M_steps M_undoable M_brought Q n_103) x1 := hw
      unfold wf_X8_canBeAsked_103 at hw
      refine lv_iload_n hx hb dX8_canBeAsked_103 rfl (lv_at hl 1 rfl) ?_
      refine lv_aload_n hx hb dX8_canBeAsked_104 rfl (lv_at hl 0 rfl) ?_
      refine va_get (D := D) (ci := 8) (v := .int M_undoable) (C := RX8) (T := TX8) (N := 38) hx hb hts in_X8_canBeAsked_X8 hown hK hP 0 rfl rfl 22 (by decide) k_0 (fun _ h9 => h9) rfl dX8_canBeAsked_105 ?_
      refine lv_icmp_ge (tgt := 129) hx hb dX8_canBeAsked_108 (by decide) (fun c108 => ?_) (fun c108 => ?_)
      · have hw := hw.1 c108
        refine lv_iconst (v := (1 : Int32)) hx hb dX8_canBeAsked_129 kI_1 ?_
        rw [hZ]
        exact cx_retz () hx hb hr hlocks rfl hw hP hS dX8_canBeAsked_130
      · have hw := hw.2 c108
        refine lv_aload_n hx hb dX8_canBeAsked_111 rfl (lv_at hl 0 rfl) ?_
        refine va_get (D := D) (ci := 8) (v := .ref aM_stepWhat) (C := RX8) (T := TX8) (N := 38) hx hb hts in_X8_canBeAsked_X8 hown hK hP 0 rfl rfl 17 (by decide) k_1 (fun _ h9 => h9) rfl dX8_canBeAsked_112 ?_
        refine lv_iload_n hx hb dX8_canBeAsked_115 rfl (lv_at hl 1 rfl) ?_
        have h116 := hw.1
        have hw := hw.2
        refine va_iald hx hb hK hP 4 0 rfl rfl h116 dX8_canBeAsked_116 ?_
        refine lv_topi (fun v116 e116 => ?_)
        have hw := hw v116 e116
        refine lv_iconst (v := (1 : Int32)) hx hb dX8_canBeAsked_117 kI_1 ?_
        refine lv_icmp_le (tgt := 123) hx hb dX8_canBeAsked_118 (by decide) (fun c118 => ?_) (fun c118 => ?_)
        · have hw := hw.1 c118
          obtain ⟨v123, e123⟩ : ∃ y : Int32, y = x1 + (1 : Int32) := ⟨_, rfl⟩
          have hw := hw v123 e123
          refine lv_iinc (v := v123) (lv' := [(1, .int v123), (0, .ref aM)]) hx hb dX8_canBeAsked_123 hl (k := 1) rfl (by rw [e123, kI_1]) (by decide) rfl (fun ls hl => ?_)
          refine lv_goto (tgt := 103) hx hb dX8_canBeAsked_126 (by decide) ?_
          exact ih_103 v123 hw H locs hP hD hS ls (lv_sub hl [1, 0] rfl)
        · have hw := hw.2 c118
          refine lv_iconst (v := (0 : Int32)) hx hb dX8_canBeAsked_121 kI_0 ?_
          rw [hZ]
          exact cx_retz () hx hb hr hlocks rfl hw hP hS dX8_canBeAsked_122
  have b_22 : ∀ n_22 : Nat, ∀ (x1 : Int32), wq_X8_canBeAsked_22 M_kind M_more M_sheet M_stepWhat M_steps M_undoable M_brought Q n_22 x1 → ∀ (H : Heap) (locs : List Loc), va_P D vwCl (w_X8_canBeAsked cI cJ cZ cO aM aM_strength aM_kind aM_more aM_glues aM_sheet aM_since aM_imageStrength aM_imageKind aM_imageMore aM_imageGlues aM_imagePieces aM_imageWarmth aM_imageSheet aM_imageDraw aM_stepWhat aM_stepPiece aM_stepPlace aM_stepSince aM_tape aM_shapes aM_pile aM_met aM_next aM_inputs aM_then M_pieces M_warmth M_draw M_steps M_undoable M_brought M_taped M_shapeMany M_ended M_cut M_mostPieces M_walks M_walked M_kind M_more M_sheet M_stepWhat) H → va_D A (w_X8_canBeAsked cI cJ cZ cO aM aM_strength aM_kind aM_more aM_glues aM_sheet aM_since aM_imageStrength aM_imageKind aM_imageMore aM_imageGlues aM_imagePieces aM_imageWarmth aM_imageSheet aM_imageDraw aM_stepWhat aM_stepPiece aM_stepPlace aM_stepSince aM_tape aM_shapes aM_pile aM_met aM_next aM_inputs aM_then M_pieces M_warmth M_draw M_steps M_undoable M_brought M_taped M_shapeMany M_ended M_cut M_mostPieces M_walks M_walked M_kind M_more M_sheet M_stepWhat) → va_S A s.heap H locs → ∀ ls : Array Slot, lv_has ls 3 [(0, .ref aM), (1, .int x1)] → W p l e rm_X8_canBeAsked s m args below meth c H locs 0 0 Z (F0 m 22 ls []) := by
    intro n_22
    induction n_22 with
    | zero => intro x1 hw; exact False.elim hw
    | succ n_22 ih_22 =>
      intro x1 hw H locs hP hD hS ls hl
      have hw : wf_X8_canBeAsked_22 M_kind M_more M_sheet M_stepWhat M_steps M_undoable M_brought Q (wq_X8_canBeAsked_22 M_kind M_more M_sheet M_stepWhat M_steps M_undoable M_brought Q n_22) x1 := hw
      unfold wf_X8_canBeAsked_22 at hw
      refine lv_iload_n hx hb dX8_canBeAsked_22 rfl (lv_at hl 1 rfl) ?_
      refine lv_sipush (v := (256 : Int32)) hx hb dX8_canBeAsked_23 kS_256 ?_
      refine lv_icmp_ge (tgt := 101) hx hb dX8_canBeAsked_26 (by decide) (fun c26 => ?_) (fun c26 => ?_)
      · have hw := hw.1 c26
        refine lv_iconst (v := (0 : Int32)) hx hb dX8_canBeAsked_101 kI_0 ?_
        refine lv_istore_n (lv' := [(1, .int (0 : Int32)), (0, .ref aM)]) hx hb dX8_canBeAsked_102 rfl hl (by decide) rfl (fun ls hl => ?_)
        obtain ⟨k, hw⟩ := hw
        exact b_103 k (0 : Int32) hw H locs hP hD hS ls (lv_sub hl [1, 0] rfl)
      · have hw := hw.2 c26
        refine lv_aload_n hx hb dX8_canBeAsked_29 rfl (lv_at hl 0 rfl) ?_
        refine va_get (D := D) (ci := 8) (v := .ref aM_sheet) (C := RX8) (T := TX8) (N := 38) hx hb hts in_X8_canBeAsked_X8 hown hK hP 0 rfl rfl 7 (by decide) k_2 (fun _ h9 => h9) rfl dX8_canBeAsked_30 ?_
        refine lv_iload_n hx hb dX8_canBeAsked_33 rfl (lv_at hl 1 rfl) ?_
        have h34 := hw.1
        have hw := hw.2
        refine va_iald hx hb hK hP 3 0 rfl rfl h34 dX8_canBeAsked_34 ?_
        refine lv_topi (fun v34 e34 => ?_)
        have hw := hw v34 e34
        refine lv_if_ne (tgt := 41) hx hb dX8_canBeAsked_35 (by decide) (fun c35 => ?_) (fun c35 => ?_)
        · have hw := hw.1 c35
          refine lv_aload_n hx hb dX8_canBeAsked_41 rfl (lv_at hl 0 rfl) ?_
          refine va_get (D := D) (ci := 8) (v := .ref aM_sheet) (C := RX8) (T := TX8) (N := 38) hx hb hts in_X8_canBeAsked_X8 hown hK hP 0 rfl rfl 7 (by decide) k_2 (fun _ h9 => h9) rfl dX8_canBeAsked_42 ?_
          refine lv_iload_n hx hb dX8_canBeAsked_45 rfl (lv_at hl 1 rfl) ?_
          have h46 := hw.1
          have hw := hw.2
          refine va_iald hx hb hK hP 3 0 rfl rfl h46 dX8_canBeAsked_46 ?_
          refine lv_topi (fun v46 e46 => ?_)
          have hw := hw v46 e46
          refine lv_iconst (v := (1 : Int32)) hx hb dX8_canBeAsked_47 kI_1 ?_
          refine lv_isub hx hb dX8_canBeAsked_48 ?_
          refine lv_iconst (v := (2 : Int32)) hx hb dX8_canBeAsked_49 kI_2 ?_
          refine lv_idiv hx hb dX8_canBeAsked_50 (by decide) ?_
          refine lv_topi (fun v51 e51 => ?_)
          have hw := hw v51 e51
          refine lv_istore_n (lv' := [(2, .int v51), (0, .ref aM), (1, .int x1)]) hx hb dX8_canBeAsked_51 rfl hl (by decide) rfl (fun ls hl => ?_)
          refine lv_aload_n hx hb dX8_canBeAsked_52 rfl (lv_at hl 1 rfl) ?_
          refine va_get (D := D) (ci := 8) (v := .ref aM_kind) (C := RX8) (T := TX8) (N := 38) hx hb hts in_X8_canBeAsked_X8 hown hK hP 0 rfl rfl 1 (by decide) k_3 (fun _ h9 => h9) rfl dX8_canBeAsked_53 ?_
          refine lv_iload_n hx hb dX8_canBeAsked_56 rfl (lv_at hl 0 rfl) ?_
          have h57 := hw.1
          have hw := hw.2
          refine va_iald hx hb hK hP 1 0 rfl rfl h57 dX8_canBeAsked_57 ?_
          refine lv_topi (fun v57 e57 => ?_)
          have hw := hw v57 e57
          refine lv_if_eq (tgt := 95) hx hb dX8_canBeAsked_58 (by decide) (fun c58 => ?_) (fun c58 => ?_)
          · have hw := hw.1 c58
            obtain ⟨v95, e95⟩ : ∃ y : Int32, y = x1 + (1 : Int32) := ⟨_, rfl⟩
            have hw := hw v95 e95
            refine lv_iinc (v := v95) (lv' := [(1, .int v95), (2, .int v51), (0, .ref aM)]) hx hb dX8_canBeAsked_95 hl (k := 2) rfl (by rw [e95, kI_1]) (by decide) rfl (fun ls hl => ?_)
            refine lv_goto (tgt := 22) hx hb dX8_canBeAsked_98 (by decide) ?_
            exact ih_22 v95 hw H locs hP hD hS ls (lv_sub hl [2, 0] rfl)
          · have hw := hw.2 c58
            refine lv_aload_n hx hb dX8_canBeAsked_61 rfl (lv_at hl 1 rfl) ?_
            refine va_get (D := D) (ci := 8) (v := .ref aM_kind) (C := RX8) (T := TX8) (N := 38) hx hb hts in_X8_canBeAsked_X8 hown hK hP 0 rfl rfl 1 (by decide) k_3 (fun _ h9 => h9) rfl dX8_canBeAsked_62 ?_
            refine lv_iload_n hx hb dX8_canBeAsked_65 rfl (lv_at hl 0 rfl) ?_
            have h66 := hw.1
            have hw := hw.2
            refine va_iald hx hb hK hP 1 0 rfl rfl h66 dX8_canBeAsked_66 ?_
            refine lv_topi (fun v66 e66 => ?_)
            have hw := hw v66 e66
            refine lv_iconst (v := (1 : Int32)) hx hb dX8_canBeAsked_67 kI_1 ?_
            refine lv_icmp_eq (tgt := 95) hx hb dX8_canBeAsked_68 (by decide) (fun c68 => ?_) (fun c68 => ?_)
            · have hw := hw.1 c68
              obtain ⟨v95, e95⟩ : ∃ y : Int32, y = x1 + (1 : Int32) := ⟨_, rfl⟩
              have hw := hw v95 e95
              refine lv_iinc (v := v95) (lv' := [(1, .int v95), (2, .int v51), (0, .ref aM)]) hx hb dX8_canBeAsked_95 hl (k := 2) rfl (by rw [e95, kI_1]) (by decide) rfl (fun ls hl => ?_)
              refine lv_goto (tgt := 22) hx hb dX8_canBeAsked_98 (by decide) ?_
              exact ih_22 v95 hw H locs hP hD hS ls (lv_sub hl [2, 0] rfl)
            · have hw := hw.2 c68
              refine lv_aload_n hx hb dX8_canBeAsked_71 rfl (lv_at hl 1 rfl) ?_
              refine va_get (D := D) (ci := 8) (v := .ref aM_kind) (C := RX8) (T := TX8) (N := 38) hx hb hts in_X8_canBeAsked_X8 hown hK hP 0 rfl rfl 1 (by decide) k_3 (fun _ h9 => h9) rfl dX8_canBeAsked_72 ?_
              refine lv_iload_n hx hb dX8_canBeAsked_75 rfl (lv_at hl 0 rfl) ?_
              have h76 := hw.1
              have hw := hw.2
              refine va_iald hx hb hK hP 1 0 rfl rfl h76 dX8_canBeAsked_76 ?_
              refine lv_topi (fun v76 e76 => ?_)
              have hw := hw v76 e76
              refine lv_iconst (v := (5 : Int32)) hx hb dX8_canBeAsked_77 kI_5 ?_
              refine lv_icmp_ne (tgt := 93) hx hb dX8_canBeAsked_78 (by decide) (fun c78 => ?_) (fun c78 => ?_)
              · have hw := hw.1 c78
                refine lv_iconst (v := (0 : Int32)) hx hb dX8_canBeAsked_93 kI_0 ?_
                rw [hZ]
                exact cx_retz () hx hb hr hlocks rfl hw hP hS dX8_canBeAsked_94
              · have hw := hw.2 c78
                refine lv_aload_n hx hb dX8_canBeAsked_81 rfl (lv_at hl 1 rfl) ?_
                refine va_get (D := D) (ci := 8) (v := .ref aM_more) (C := RX8) (T := TX8) (N := 38) hx hb hts in_X8_canBeAsked_X8 hown hK hP 0 rfl rfl 2 (by decide) k_4 (fun _ h9 => h9) rfl dX8_canBeAsked_82 ?_
                refine lv_iload_n hx hb dX8_canBeAsked_85 rfl (lv_at hl 0 rfl) ?_
                have h86 := hw.1
                have hw := hw.2
                refine va_iald hx hb hK hP 2 0 rfl rfl h86 dX8_canBeAsked_86 ?_
                refine lv_topi (fun v86 e86 => ?_)
                have hw := hw v86 e86
                refine lv_bipush (v := (16 : Int32)) hx hb dX8_canBeAsked_87 kB_16 ?_
                refine lv_irem hx hb dX8_canBeAsked_89 (by decide) ?_
                refine lv_if_eq (tgt := 95) hx hb dX8_canBeAsked_90 (by decide) (fun c90 => ?_) (fun c90 => ?_)
                · have hw := hw.1 c90
                  obtain ⟨v95, e95⟩ : ∃ y : Int32, y = x1 + (1 : Int32) := ⟨_, rfl⟩
                  have hw := hw v95 e95
                  refine lv_iinc (v := v95) (lv' := [(1, .int v95), (2, .int v51), (0, .ref aM)]) hx hb dX8_canBeAsked_95 hl (k := 2) rfl (by rw [e95, kI_1]) (by decide) rfl (fun ls hl => ?_)
                  refine lv_goto (tgt := 22) hx hb dX8_canBeAsked_98 (by decide) ?_
                  exact ih_22 v95 hw H locs hP hD hS ls (lv_sub hl [2, 0] rfl)
                · have hw := hw.2 c90
                  refine lv_iconst (v := (0 : Int32)) hx hb dX8_canBeAsked_93 kI_0 ?_
                  rw [hZ]
                  exact cx_retz () hx hb hr hlocks rfl hw hP hS dX8_canBeAsked_94
        · have hw := hw.2 c35
          refine lv_goto (tgt := 95) hx hb dX8_canBeAsked_38 (by decide) ?_
          obtain ⟨v95, e95⟩ : ∃ y : Int32, y = x1 + (1 : Int32) := ⟨_, rfl⟩
          have hw := hw v95 e95
          refine lv_iinc (v := v95) (lv' := [(1, .int v95), (0, .ref aM)]) hx hb dX8_canBeAsked_95 hl (k := 1) rfl (by rw [e95, kI_1]) (by decide) rfl (fun ls hl => ?_)
          refine lv_goto (tgt := 22) hx hb dX8_canBeAsked_98 (by decide) ?_
          exact ih_22 v95 hw H locs hP hD hS ls (lv_sub hl [1, 0] rfl)
  intro H locs hP hD hS ls hl
  unfold wp_X8_canBeAsked at hw
  refine lv_aload_n hx hb dX8_canBeAsked_0 rfl (lv_at hl 0 rfl) ?_
  refine va_get (D := D) (ci := 8) (v := .int M_brought) (C := RX8) (T := TX8) (N := 38) hx hb hts in_X8_canBeAsked_X8 hown hK hP 0 rfl rfl 23 (by decide) k_5 (fun _ h9 => h9) rfl dX8_canBeAsked_1 ?_
  refine lv_if_ne (tgt := 18) hx hb dX8_canBeAsked_4 (by decide) (fun c4 => ?_) (fun c4 => ?_)
  · have hw := hw.1 c4
    refine lv_iconst (v := (0 : Int32)) hx hb dX8_canBeAsked_18 kI_0 ?_
    rw [hZ]
    exact cx_retz () hx hb hr hlocks rfl hw hP hS dX8_canBeAsked_19
  · have hw := hw.2 c4
    refine lv_aload_n hx hb dX8_canBeAsked_7 rfl (lv_at hl 0 rfl) ?_
    refine va_get (D := D) (ci := 8) (v := .int M_steps) (C := RX8) (T := TX8) (N := 38) hx hb hts in_X8_canBeAsked_X8 hown hK hP 0 rfl rfl 21 (by decide) k_6 (fun _ h9 => h9) rfl dX8_canBeAsked_8 ?_
    refine lv_aload_n hx hb dX8_canBeAsked_11 rfl (lv_at hl 0 rfl) ?_
    refine va_get (D := D) (ci := 8) (v := .int M_undoable) (C := RX8) (T := TX8) (N := 38) hx hb hts in_X8_canBeAsked_X8 hown hK hP 0 rfl rfl 22 (by decide) k_0 (fun _ h9 => h9) rfl dX8_canBeAsked_12 ?_
    refine lv_icmp_le (tgt := 20) hx hb dX8_canBeAsked_15 (by decide) (fun c15 => ?_) (fun c15 => ?_)
    · have hw := hw.1 c15
      refine lv_iconst (v := (0 : Int32)) hx hb dX8_canBeAsked_20 kI_0 ?_
      refine lv_istore_n (lv' := [(1, .int (0 : Int32)), (0, .ref aM)]) hx hb dX8_canBeAsked_21 rfl hl (by decide) rfl (fun ls hl => ?_)
      obtain ⟨k, hw⟩ := hw
      exact b_22 k (0 : Int32) hw H locs hP hD hS ls (lv_sub hl [1, 0] rfl)
    · have hw := hw.2 c15
      refine lv_iconst (v := (0 : Int32)) hx hb dX8_canBeAsked_18 kI_0 ?_
      rw [hZ]
      exact cx_retz () hx hb hr hlocks rfl hw hP hS dX8_canBeAsked_19
set_option maxRecDepth 100000 in
set_option maxHeartbeats 4000000 in
theorem c_X8_isAlone (l : Launch) (D : va_G) (cI cJ cZ cO : ClassId) (tS tT : Nat) (sz : Nat) (aM aM_strength aM_kind aM_more aM_glues aM_sheet aM_since aM_imageStrength aM_imageKind aM_imageMore aM_imageGlues aM_imagePieces aM_imageWarmth aM_imageSheet aM_imageDraw aM_stepWhat aM_stepPiece aM_stepPlace aM_stepSince aM_tape aM_shapes aM_pile aM_met aM_next aM_inputs aM_then : Nat) (M_pieces : Int32) (M_warmth : Int32) (M_draw : Int64) (M_steps : Int32) (M_undoable : Int32) (M_brought : Int32) (M_taped : Int32) (M_shapeMany : Int32) (M_ended : Int32) (M_cut : Int32) (M_mostPieces : Int32) (M_walks : Int32) (M_walked : Int32) (M_strength : Nat → Int32) (M_kind : Nat → Int32) (M_more : Nat → Int32) (M_glues : Nat → Int32) (M_sheet : Nat → Int32) (M_inputs : Nat → Int32) (M_then : Nat → Int32) (p1 : Int32) (p2 : Int32) (Q : Int32 → (Nat → Int32) → Prop) (hw : wp_X8_isAlone M_strength M_kind M_more M_glues M_pieces M_warmth M_sheet M_inputs M_then p1 p2 Q) : Met l yX8_isAlone wsX8_isAlone rm_X8_isAlone (va_Pc [.ref aM, .int p1, .int p2] (cx_B tS tT cI cJ cZ cO D sz (w_X8_isAlone cI cJ cZ cO aM aM_strength aM_kind aM_more aM_glues aM_sheet aM_since aM_imageStrength aM_imageKind aM_imageMore aM_imageGlues aM_imagePieces aM_imageWarmth aM_imageSheet aM_imageDraw aM_stepWhat aM_stepPiece aM_stepPlace aM_stepSince aM_tape aM_shapes aM_pile aM_met aM_next aM_inputs aM_then M_pieces M_warmth M_draw M_steps M_undoable M_brought M_taped M_shapeMany M_ended M_cut M_mostPieces M_walks M_walked M_strength M_kind M_more M_glues M_sheet M_inputs M_then))) (va_Qi (fun (r : Int32) (u : (Nat → Int32)) => Q r u) (fun (u : (Nat → Int32)) t => va_P D vwCl (w_X8_isAlone cI cJ cZ cO aM aM_strength aM_kind aM_more aM_glues aM_sheet aM_since aM_imageStrength aM_imageKind aM_imageMore aM_imageGlues aM_imagePieces aM_imageWarmth aM_imageSheet aM_imageDraw aM_stepWhat aM_stepPiece aM_stepPlace aM_stepSince aM_tape aM_shapes aM_pile aM_met aM_next aM_inputs aM_then M_pieces M_warmth M_draw M_steps M_undoable M_brought M_taped M_shapeMany M_ended M_cut M_mostPieces M_walks M_walked M_strength M_kind M_more M_glues M_sheet M_inputs u) t.heap) (va_A (w_X8_isAlone cI cJ cZ cO aM aM_strength aM_kind aM_more aM_glues aM_sheet aM_since aM_imageStrength aM_imageKind aM_imageMore aM_imageGlues aM_imagePieces aM_imageWarmth aM_imageSheet aM_imageDraw aM_stepWhat aM_stepPiece aM_stepPlace aM_stepSince aM_tape aM_shapes aM_pile aM_met aM_next aM_inputs aM_then M_pieces M_warmth M_draw M_steps M_undoable M_brought M_taped M_shapeMany M_ended M_cut M_mostPieces M_walks M_walked M_strength M_kind M_more M_glues M_sheet M_inputs M_then) sz)) 0 0 (va_A (w_X8_isAlone cI cJ cZ cO aM aM_strength aM_kind aM_more aM_glues aM_sheet aM_since aM_imageStrength aM_imageKind aM_imageMore aM_imageGlues aM_imagePieces aM_imageWarmth aM_imageSheet aM_imageDraw aM_stepWhat aM_stepPiece aM_stepPlace aM_stepSince aM_tape aM_shapes aM_pile aM_met aM_next aM_inputs aM_then M_pieces M_warmth M_draw M_steps M_undoable M_brought M_taped M_shapeMany M_ended M_cut M_mostPieces M_walks M_walked M_strength M_kind M_more M_glues M_sheet M_inputs M_then) sz) := by
  refine cx_met (cc := cX8_isAlone) (maxL := 8) (ret := (some .boolean)) (Qc := fun A => va_Qi (fun (r : Int32) (u : (Nat → Int32)) => Q r u) (fun (u : (Nat → Int32)) t => va_P D vwCl (w_X8_isAlone cI cJ cZ cO aM aM_strength aM_kind aM_more aM_glues aM_sheet aM_since aM_imageStrength aM_imageKind aM_imageMore aM_imageGlues aM_imagePieces aM_imageWarmth aM_imageSheet aM_imageDraw aM_stepWhat aM_stepPiece aM_stepPlace aM_stepSince aM_tape aM_shapes aM_pile aM_met aM_next aM_inputs aM_then M_pieces M_warmth M_draw M_steps M_undoable M_brought M_taped M_shapeMany M_ended M_cut M_mostPieces M_walks M_walked M_strength M_kind M_more M_glues M_sheet M_inputs u) t.heap) A) (lv := [(0, .ref aM), (1, .int p1), (2, .int p2)]) (by decide) rfl (Nat.le_of_ble_eq_true rfl) rfl ?_
  intro p e s m args below meth c A Z hx hb hr hlocks hts hown hml hE hK hA hZ
  have hown : s.vm.findClass RX8 = some m.cls := hown
  have k_0 := hts (.fieldLink RX8 89 "GrowingTilesModel" "then" "[I") (List.mem_of_getElem? (i := 1) (by decide +kernel))
  have k_1 := hts (.fieldLink RX8 22 "GrowingTilesModel" "warmth" "I") (List.mem_of_getElem? (i := 6) (by decide +kernel))
  have k_2 := hts (.fieldLink RX8 92 "GrowingTilesModel" "pieces" "I") (List.mem_of_getElem? (i := 4) (by decide +kernel))
  have k_3 := hts (.fieldLink RX8 13 "GrowingTilesModel" "kind" "[I") (List.mem_of_getElem? (i := 5) (by decide +kernel))
  have k_4 := hts (.fieldLink RX8 26 "GrowingTilesModel" "sheet" "[I") (List.mem_of_getElem? (i := 2) (by decide +kernel))
  have k_5 := hts (.fieldLink RX8 86 "GrowingTilesModel" "inputs" "[I") (List.mem_of_getElem? (i := 3) (by decide +kernel))
  have b_152 : ∀ n_152 : Nat, ∀ (M_then : Nat → Int32) (x2 : Int32) (x3 : Int32) (x4 : Int32) (x5 : Int32), wq_X8_isAlone_152 M_strength M_kind M_more M_glues M_pieces M_warmth M_sheet M_inputs Q n_152 M_then x2 x3 x4 x5 → ∀ (H : Heap) (locs : List Loc), va_P D vwCl (w_X8_isAlone cI cJ cZ cO aM aM_strength aM_kind aM_more aM_glues aM_sheet aM_since aM_imageStrength aM_imageKind aM_imageMore aM_imageGlues aM_imagePieces aM_imageWarmth aM_imageSheet aM_imageDraw aM_stepWhat aM_stepPiece aM_stepPlace aM_stepSince aM_tape aM_shapes aM_pile aM_met aM_next aM_inputs aM_then M_pieces M_warmth M_draw M_steps M_undoable M_brought M_taped M_shapeMany M_ended M_cut M_mostPieces M_walks M_walked M_strength M_kind M_more M_glues M_sheet M_inputs M_then) H → va_D A (w_X8_isAlone cI cJ cZ cO aM aM_strength aM_kind aM_more aM_glues aM_sheet aM_since aM_imageStrength aM_imageKind aM_imageMore aM_imageGlues aM_imagePieces aM_imageWarmth aM_imageSheet aM_imageDraw aM_stepWhat aM_stepPiece aM_stepPlace aM_stepSince aM_tape aM_shapes aM_pile aM_met aM_next aM_inputs aM_then M_pieces M_warmth M_draw M_steps M_undoable M_brought M_taped M_shapeMany M_ended M_cut M_mostPieces M_walks M_walked M_strength M_kind M_more M_glues M_sheet M_inputs M_then) → va_S A s.heap H locs → ∀ ls : Array Slot, lv_has ls 8 [(0, .ref aM), (2, .int x2), (3, .int x3), (4, .int x4), (5, .int x5)] → W p l e rm_X8_isAlone s m args below meth c H locs 0 0 Z (F0 m 152 ls []) := by
    intro n_152
    induction n_152 with
    | zero => intro M_then x2 x3 x4 x5 hw; exact False.elim hw
    | succ n_152 ih_152 =>
      have b_204 : ∀ (M_then : Nat → Int32) (x2 : Int32) (x3 : Int32) (x4 : Int32) (x5 : Int32) (y0 : Int32), wq_X8_isAlone_204 M_strength M_kind M_more M_glues M_pieces M_warmth M_sheet M_inputs (wq_X8_isAlone_152 M_strength M_kind M_more M_glues M_pieces M_warmth M_sheet M_inputs Q n_152) Q M_then x2 x3 x4 x5 y0 → ∀ (H : Heap) (locs : List Loc), va_P D vwCl (w_X8_isAlone cI cJ cZ cO aM aM_strength aM_kind aM_more aM_glues aM_sheet aM_since aM_imageStrength aM_imageKind aM_imageMore aM_imageGlues aM_imagePieces aM_imageWarmth aM_imageSheet aM_imageDraw aM_stepWhat aM_stepPiece aM_stepPlace aM_stepSince aM_tape aM_shapes aM_pile aM_met aM_next aM_inputs aM_then M_pieces M_warmth M_draw M_steps M_undoable M_brought M_taped M_shapeMany M_ended M_cut M_mostPieces M_walks M_walked M_strength M_kind M_more M_glues M_sheet M_inputs M_then) H → va_D A (w_X8_isAlone cI cJ cZ cO aM aM_strength aM_kind aM_more aM_glues aM_sheet aM_since aM_imageStrength aM_imageKind aM_imageMore aM_imageGlues aM_imagePieces aM_imageWarmth aM_imageSheet aM_imageDraw aM_stepWhat aM_stepPiece aM_stepPlace aM_stepSince aM_tape aM_shapes aM_pile aM_met aM_next aM_inputs aM_then M_pieces M_warmth M_draw M_steps M_undoable M_brought M_taped M_shapeMany M_ended M_cut M_mostPieces M_walks M_walked M_strength M_kind M_more M_glues M_sheet M_inputs M_then) → va_S A s.heap H locs → ∀ ls : Array Slot, lv_has ls 8 [(0, .ref aM), (2, .int x2), (3, .int x3), (4, .int x4), (5, .int x5)] → W p l e rm_X8_isAlone s m args below meth c H locs 0 0 Z (F0 m 204 ls [.int y0]) := by
        intro M_then x2 x3 x4 x5 y0 hw H locs hP hD hS ls hl
        unfold wq_X8_isAlone_204 at hw
        refine lv_istore (lv' := [(6, .int y0), (0, .ref aM), (2, .int x2), (3, .int x3), (4, .int x4), (5, .int x5)]) hx hb dX8_isAlone_204 hl (by decide) rfl (fun ls hl => ?_)
        refine lv_iload hx hb dX8_isAlone_206 (lv_at hl 0 rfl) ?_
        refine lv_if_eq (tgt := 234) hx hb dX8_isAlone_208 (by decide) (fun c208 => ?_) (fun c208 => ?_)
        · have hw := hw.1 c208
          obtain ⟨v234, e234⟩ : ∃ y : Int32, y = x5 + (1 : Int32) := ⟨_, rfl⟩
          have hw := hw v234 e234
          refine lv_iinc (v := v234) (lv' := [(5, .int v234), (6, .int y0), (0, .ref aM), (2, .int x2), (3, .int x3), (4, .int x4)]) hx hb dX8_isAlone_234 hl (k := 5) rfl (by rw [e234, kI_1]) (by decide) rfl (fun ls hl => ?_)
          refine lv_goto (tgt := 152) hx hb dX8_isAlone_237 (by decide) ?_
          exact ih_152 M_then x2 x3 x4 v234 hw H locs hP hD hS ls (lv_sub hl [2, 3, 4, 5, 0] rfl)
        · have hw := hw.2 c208
          refine lv_aload_n hx hb dX8_isAlone_211 rfl (lv_at hl 1 rfl) ?_
          refine lv_aload_n hx hb dX8_isAlone_212 rfl (lv_at hl 1 rfl) ?_
          refine va_get (D := D) (ci := 8) (v := .ref aM_then) (C := RX8) (T := TX8) (N := 38) hx hb hts in_X8_isAlone_X8 hown hK hP 0 rfl rfl 37 (by decide) k_0 (fun _ h9 => h9) rfl dX8_isAlone_213 ?_
          refine lv_iconst (v := (0 : Int32)) hx hb dX8_isAlone_216 kI_0 ?_
          refine lv_iload hx hb dX8_isAlone_217 (lv_at hl 5 rfl) ?_
          refine lv_iload_n hx hb dX8_isAlone_219 rfl (lv_at hl 3 rfl) ?_
          refine lv_iload hx hb dX8_isAlone_220 (lv_at hl 4 rfl) ?_
          refine cx_goi (va_runV (As := [.ref aM_then, .int (0 : Int32), .int x5, .int x3, .int x4]) (rest := []) ⟨hx, hb, hml, hown, hts⟩ (c_X8_holdOf l D cI cJ cZ cO tS tT H.size aM_then aM aM_strength aM_kind aM_more aM_glues aM_sheet aM_since aM_imageStrength aM_imageKind aM_imageMore aM_imageGlues aM_imagePieces aM_imageWarmth aM_imageSheet aM_imageDraw aM_stepWhat aM_stepPiece aM_stepPlace aM_stepSince aM_tape aM_shapes aM_pile aM_met aM_next aM_inputs aM_then 256 M_then M_pieces M_warmth M_draw M_steps M_undoable M_brought M_taped M_shapeMany M_ended M_cut M_mostPieces M_walks M_walked M_strength M_kind M_more M_glues (0 : Int32) x5 x3 x4 _ hw) (cwV 5 hts gX8_isAlone_X8_holdOf rfl rfl rfl pv_X8_holdOf ⟨Nat.le_of_ble_eq_true rfl, Nat.le_of_ble_eq_true rfl⟩) (cx_preV (wc := w_X8_holdOf cI cJ cZ cO aM_then aM aM_strength aM_kind aM_more aM_glues aM_sheet aM_since aM_imageStrength aM_imageKind aM_imageMore aM_imageGlues aM_imagePieces aM_imageWarmth aM_imageSheet aM_imageDraw aM_stepWhat aM_stepPiece aM_stepPlace aM_stepSince aM_tape aM_shapes aM_pile aM_met aM_next aM_inputs aM_then 256 M_then M_pieces M_warmth M_draw M_steps M_undoable M_brought M_taped M_shapeMany M_ended M_cut M_mostPieces M_walks M_walked M_strength M_kind M_more M_glues) hE hK hP hD hS hA [7, 0, 1, 2, 3, 4] rfl rfl (va_recv hK hP (ci := 8) (q0 := 0) rfl rfl)) rfl rfl hl.1 rfl (lv_room (Nat.le_of_ble_eq_true rfl)) dX8_isAlone_222 ⟨Nat.le_of_ble_eq_true rfl, Nat.le_of_ble_eq_true rfl⟩) (fun (_ : Unit) => (w_X8_isAlone cI cJ cZ cO aM aM_strength aM_kind aM_more aM_glues aM_sheet aM_since aM_imageStrength aM_imageKind aM_imageMore aM_imageGlues aM_imagePieces aM_imageWarmth aM_imageSheet aM_imageDraw aM_stepWhat aM_stepPiece aM_stepPlace aM_stepSince aM_tape aM_shapes aM_pile aM_met aM_next aM_inputs aM_then M_pieces M_warmth M_draw M_steps M_undoable M_brought M_taped M_shapeMany M_ended M_cut M_mostPieces M_walks M_walked M_strength M_kind M_more M_glues M_sheet M_inputs M_then)) [7, 0, 1, 2, 3, 4] [5, 6] (ads := [aM_then, aM, aM_strength, aM_kind, aM_more, aM_glues]) (wr := [(aM_sheet, .inl (cI, 256, .inl M_sheet)), (aM_inputs, .inl (cI, 256, .inl M_inputs))]) rfl rfl (fun u => rfl) (fun u => rfl) rfl (fun u => rfl) rfl (fun u => rfl) rfl hP hD hS hA (fun r222 u H locs hw hP hD hS => ?_)
          have hP : va_P D vwCl (w_X8_isAlone cI cJ cZ cO aM aM_strength aM_kind aM_more aM_glues aM_sheet aM_since aM_imageStrength aM_imageKind aM_imageMore aM_imageGlues aM_imagePieces aM_imageWarmth aM_imageSheet aM_imageDraw aM_stepWhat aM_stepPiece aM_stepPlace aM_stepSince aM_tape aM_shapes aM_pile aM_met aM_next aM_inputs aM_then M_pieces M_warmth M_draw M_steps M_undoable M_brought M_taped M_shapeMany M_ended M_cut M_mostPieces M_walks M_walked M_strength M_kind M_more M_glues M_sheet M_inputs M_then) H := hP
          have hD : va_D A (w_X8_isAlone cI cJ cZ cO aM aM_strength aM_kind aM_more aM_glues aM_sheet aM_since aM_imageStrength aM_imageKind aM_imageMore aM_imageGlues aM_imagePieces aM_imageWarmth aM_imageSheet aM_imageDraw aM_stepWhat aM_stepPiece aM_stepPlace aM_stepSince aM_tape aM_shapes aM_pile aM_met aM_next aM_inputs aM_then M_pieces M_warmth M_draw M_steps M_undoable M_brought M_taped M_shapeMany M_ended M_cut M_mostPieces M_walks M_walked M_strength M_kind M_more M_glues M_sheet M_inputs M_then) := hD
          refine lv_aload_n hx hb dX8_isAlone_225 rfl (lv_at hl 1 rfl) ?_
          refine va_get (D := D) (ci := 8) (v := .int M_warmth) (C := RX8) (T := TX8) (N := 38) hx hb hts in_X8_isAlone_X8 hown hK hP 0 rfl rfl 5 (by decide) k_1 (fun _ h9 => h9) rfl dX8_isAlone_226 ?_
          refine lv_icmp_lt (tgt := 234) hx hb dX8_isAlone_229 (by decide) (fun c229 => ?_) (fun c229 => ?_)
          · have hw := hw.1 c229
            obtain ⟨v234, e234⟩ : ∃ y : Int32, y = x5 + (1 : Int32) := ⟨_, rfl⟩
            have hw := hw v234 e234
            refine lv_iinc (v := v234) (lv' := [(5, .int v234), (6, .int y0), (0, .ref aM), (2, .int x2), (3, .int x3), (4, .int x4)]) hx hb dX8_isAlone_234 hl (k := 5) rfl (by rw [e234, kI_1]) (by decide) rfl (fun ls hl => ?_)
            refine lv_goto (tgt := 152) hx hb dX8_isAlone_237 (by decide) ?_
            exact ih_152 M_then x2 x3 x4 v234 hw H locs hP hD hS ls (lv_sub hl [2, 3, 4, 5, 0] rfl)
          · have hw := hw.2 c229
            refine lv_iconst (v := (0 : Int32)) hx hb dX8_isAlone_232 kI_0 ?_
            rw [hZ]
            exact cx_retz M_then hx hb hr hlocks rfl hw hP hS dX8_isAlone_233
      have b_203 : ∀ (M_then : Nat → Int32) (x2 : Int32) (x3 : Int32) (x4 : Int32) (x5 : Int32), wq_X8_isAlone_203 M_strength M_kind M_more M_glues M_pieces M_warmth M_sheet M_inputs (wq_X8_isAlone_152 M_strength M_kind M_more M_glues M_pieces M_warmth M_sheet M_inputs Q n_152) Q M_then x2 x3 x4 x5 → ∀ (H : Heap) (locs : List Loc), va_P D vwCl (w_X8_isAlone cI cJ cZ cO aM aM_strength aM_kind aM_more aM_glues aM_sheet aM_since aM_imageStrength aM_imageKind aM_imageMore aM_imageGlues aM_imagePieces aM_imageWarmth aM_imageSheet aM_imageDraw aM_stepWhat aM_stepPiece aM_stepPlace aM_stepSince aM_tape aM_shapes aM_pile aM_met aM_next aM_inputs aM_then M_pieces M_warmth M_draw M_steps M_undoable M_brought M_taped M_shapeMany M_ended M_cut M_mostPieces M_walks M_walked M_strength M_kind M_more M_glues M_sheet M_inputs M_then) H → va_D A (w_X8_isAlone cI cJ cZ cO aM aM_strength aM_kind aM_more aM_glues aM_sheet aM_since aM_imageStrength aM_imageKind aM_imageMore aM_imageGlues aM_imagePieces aM_imageWarmth aM_imageSheet aM_imageDraw aM_stepWhat aM_stepPiece aM_stepPlace aM_stepSince aM_tape aM_shapes aM_pile aM_met aM_next aM_inputs aM_then M_pieces M_warmth M_draw M_steps M_undoable M_brought M_taped M_shapeMany M_ended M_cut M_mostPieces M_walks M_walked M_strength M_kind M_more M_glues M_sheet M_inputs M_then) → va_S A s.heap H locs → ∀ ls : Array Slot, lv_has ls 8 [(0, .ref aM), (2, .int x2), (3, .int x3), (4, .int x4), (5, .int x5)] → W p l e rm_X8_isAlone s m args below meth c H locs 0 0 Z (F0 m 203 ls []) := by
        intro M_then x2 x3 x4 x5 hw H locs hP hD hS ls hl
        unfold wq_X8_isAlone_203 at hw
        refine lv_iconst (v := (0 : Int32)) hx hb dX8_isAlone_203 kI_0 ?_
        exact b_204 M_then x2 x3 x4 x5 (0 : Int32) hw H locs hP hD hS ls (lv_sub hl [0, 1, 2, 3, 4] rfl)
      have b_199 : ∀ (M_then : Nat → Int32) (x2 : Int32) (x3 : Int32) (x4 : Int32) (x5 : Int32), wq_X8_isAlone_199 M_strength M_kind M_more M_glues M_pieces M_warmth M_sheet M_inputs (wq_X8_isAlone_152 M_strength M_kind M_more M_glues M_pieces M_warmth M_sheet M_inputs Q n_152) Q M_then x2 x3 x4 x5 → ∀ (H : Heap) (locs : List Loc), va_P D vwCl (w_X8_isAlone cI cJ cZ cO aM aM_strength aM_kind aM_more aM_glues aM_sheet aM_since aM_imageStrength aM_imageKind aM_imageMore aM_imageGlues aM_imagePieces aM_imageWarmth aM_imageSheet aM_imageDraw aM_stepWhat aM_stepPiece aM_stepPlace aM_stepSince aM_tape aM_shapes aM_pile aM_met aM_next aM_inputs aM_then M_pieces M_warmth M_draw M_steps M_undoable M_brought M_taped M_shapeMany M_ended M_cut M_mostPieces M_walks M_walked M_strength M_kind M_more M_glues M_sheet M_inputs M_then) H → va_D A (w_X8_isAlone cI cJ cZ cO aM aM_strength aM_kind aM_more aM_glues aM_sheet aM_since aM_imageStrength aM_imageKind aM_imageMore aM_imageGlues aM_imagePieces aM_imageWarmth aM_imageSheet aM_imageDraw aM_stepWhat aM_stepPiece aM_stepPlace aM_stepSince aM_tape aM_shapes aM_pile aM_met aM_next aM_inputs aM_then M_pieces M_warmth M_draw M_steps M_undoable M_brought M_taped M_shapeMany M_ended M_cut M_mostPieces M_walks M_walked M_strength M_kind M_more M_glues M_sheet M_inputs M_then) → va_S A s.heap H locs → ∀ ls : Array Slot, lv_has ls 8 [(0, .ref aM), (2, .int x2), (3, .int x3), (4, .int x4), (5, .int x5)] → W p l e rm_X8_isAlone s m args below meth c H locs 0 0 Z (F0 m 199 ls []) := by
        intro M_then x2 x3 x4 x5 hw H locs hP hD hS ls hl
        unfold wq_X8_isAlone_199 at hw
        refine lv_iconst (v := (1 : Int32)) hx hb dX8_isAlone_199 kI_1 ?_
        refine lv_goto (tgt := 204) hx hb dX8_isAlone_200 (by decide) ?_
        exact b_204 M_then x2 x3 x4 x5 (1 : Int32) hw H locs hP hD hS ls (lv_sub hl [0, 1, 2, 3, 4] rfl)
      intro M_then x2 x3 x4 x5 hw H locs hP hD hS ls hl
      have hw : wf_X8_isAlone_152 M_strength M_kind M_more M_glues M_pieces M_warmth M_sheet M_inputs Q (wq_X8_isAlone_152 M_strength M_kind M_more M_glues M_pieces M_warmth M_sheet M_inputs Q n_152) M_then x2 x3 x4 x5 := hw
      unfold wf_X8_isAlone_152 at hw
      refine lv_iload hx hb dX8_isAlone_152 (lv_at hl 4 rfl) ?_
      refine lv_aload_n hx hb dX8_isAlone_154 rfl (lv_at hl 0 rfl) ?_
      refine va_get (D := D) (ci := 8) (v := .int M_pieces) (C := RX8) (T := TX8) (N := 38) hx hb hts in_X8_isAlone_X8 hown hK hP 0 rfl rfl 4 (by decide) k_2 (fun _ h9 => h9) rfl dX8_isAlone_155 ?_
      refine lv_icmp_ge (tgt := 240) hx hb dX8_isAlone_158 (by decide) (fun c158 => ?_) (fun c158 => ?_)
      · have hw := hw.1 c158
        refine lv_iconst (v := (1 : Int32)) hx hb dX8_isAlone_240 kI_1 ?_
        rw [hZ]
        exact cx_retz M_then hx hb hr hlocks rfl hw hP hS dX8_isAlone_241
      · have hw := hw.2 c158
        refine lv_iload hx hb dX8_isAlone_161 (lv_at hl 4 rfl) ?_
        refine lv_iload_n hx hb dX8_isAlone_163 rfl (lv_at hl 1 rfl) ?_
        refine lv_icmp_eq (tgt := 203) hx hb dX8_isAlone_164 (by decide) (fun c164 => ?_) (fun c164 => ?_)
        · have hw := hw.1 c164
          exact b_203 M_then x2 x3 x4 x5 hw H locs hP hD hS ls (lv_sub hl [0, 1, 2, 3, 4] rfl)
        · have hw := hw.2 c164
          refine lv_aload_n hx hb dX8_isAlone_167 rfl (lv_at hl 0 rfl) ?_
          refine va_get (D := D) (ci := 8) (v := .ref aM_kind) (C := RX8) (T := TX8) (N := 38) hx hb hts in_X8_isAlone_X8 hown hK hP 0 rfl rfl 1 (by decide) k_3 (fun _ h9 => h9) rfl dX8_isAlone_168 ?_
          refine lv_iload hx hb dX8_isAlone_171 (lv_at hl 4 rfl) ?_
          have h173 := hw.1
          have hw := hw.2
          refine va_iald hx hb hK hP 2 0 rfl rfl h173 dX8_isAlone_173 ?_
          refine lv_topi (fun v173 e173 => ?_)
          have hw := hw v173 e173
          refine lv_if_eq (tgt := 199) hx hb dX8_isAlone_174 (by decide) (fun c174 => ?_) (fun c174 => ?_)
          · have hw := hw.1 c174
            exact b_199 M_then x2 x3 x4 x5 hw H locs hP hD hS ls (lv_sub hl [0, 1, 2, 3, 4] rfl)
          · have hw := hw.2 c174
            refine lv_aload_n hx hb dX8_isAlone_177 rfl (lv_at hl 0 rfl) ?_
            refine va_get (D := D) (ci := 8) (v := .ref aM_kind) (C := RX8) (T := TX8) (N := 38) hx hb hts in_X8_isAlone_X8 hown hK hP 0 rfl rfl 1 (by decide) k_3 (fun _ h9 => h9) rfl dX8_isAlone_178 ?_
            refine lv_iload hx hb dX8_isAlone_181 (lv_at hl 4 rfl) ?_
            have h183 := hw.1
            have hw := hw.2
            refine va_iald hx hb hK hP 2 0 rfl rfl h183 dX8_isAlone_183 ?_
            refine lv_topi (fun v183 e183 => ?_)
            have hw := hw v183 e183
            refine lv_iconst (v := (3 : Int32)) hx hb dX8_isAlone_184 kI_3 ?_
            refine lv_icmp_eq (tgt := 199) hx hb dX8_isAlone_185 (by decide) (fun c185 => ?_) (fun c185 => ?_)
            · have hw := hw.1 c185
              exact b_199 M_then x2 x3 x4 x5 hw H locs hP hD hS ls (lv_sub hl [0, 1, 2, 3, 4] rfl)
            · have hw := hw.2 c185
              refine lv_aload_n hx hb dX8_isAlone_188 rfl (lv_at hl 0 rfl) ?_
              refine va_get (D := D) (ci := 8) (v := .ref aM_kind) (C := RX8) (T := TX8) (N := 38) hx hb hts in_X8_isAlone_X8 hown hK hP 0 rfl rfl 1 (by decide) k_3 (fun _ h9 => h9) rfl dX8_isAlone_189 ?_
              refine lv_iload hx hb dX8_isAlone_192 (lv_at hl 4 rfl) ?_
              have h194 := hw.1
              have hw := hw.2
              refine va_iald hx hb hK hP 2 0 rfl rfl h194 dX8_isAlone_194 ?_
              refine lv_topi (fun v194 e194 => ?_)
              have hw := hw v194 e194
              refine lv_iconst (v := (5 : Int32)) hx hb dX8_isAlone_195 kI_5 ?_
              refine lv_icmp_ne (tgt := 203) hx hb dX8_isAlone_196 (by decide) (fun c196 => ?_) (fun c196 => ?_)
              · have hw := hw.1 c196
                exact b_203 M_then x2 x3 x4 x5 hw H locs hP hD hS ls (lv_sub hl [0, 1, 2, 3, 4] rfl)
              · have hw := hw.2 c196
                exact b_199 M_then x2 x3 x4 x5 hw H locs hP hD hS ls (lv_sub hl [0, 1, 2, 3, 4] rfl)
  have b_52 : ∀ n_52 : Nat, ∀ (M_then : Nat → Int32) (x2 : Int32) (x3 : Int32) (x4 : Int32) (x5 : Int32), wq_X8_isAlone_52 M_strength M_kind M_more M_glues M_pieces M_warmth M_sheet M_inputs Q n_52 M_then x2 x3 x4 x5 → ∀ (H : Heap) (locs : List Loc), va_P D vwCl (w_X8_isAlone cI cJ cZ cO aM aM_strength aM_kind aM_more aM_glues aM_sheet aM_since aM_imageStrength aM_imageKind aM_imageMore aM_imageGlues aM_imagePieces aM_imageWarmth aM_imageSheet aM_imageDraw aM_stepWhat aM_stepPiece aM_stepPlace aM_stepSince aM_tape aM_shapes aM_pile aM_met aM_next aM_inputs aM_then M_pieces M_warmth M_draw M_steps M_undoable M_brought M_taped M_shapeMany M_ended M_cut M_mostPieces M_walks M_walked M_strength M_kind M_more M_glues M_sheet M_inputs M_then) H → va_D A (w_X8_isAlone cI cJ cZ cO aM aM_strength aM_kind aM_more aM_glues aM_sheet aM_since aM_imageStrength aM_imageKind aM_imageMore aM_imageGlues aM_imagePieces aM_imageWarmth aM_imageSheet aM_imageDraw aM_stepWhat aM_stepPiece aM_stepPlace aM_stepSince aM_tape aM_shapes aM_pile aM_met aM_next aM_inputs aM_then M_pieces M_warmth M_draw M_steps M_undoable M_brought M_taped M_shapeMany M_ended M_cut M_mostPieces M_walks M_walked M_strength M_kind M_more M_glues M_sheet M_inputs M_then) → va_S A s.heap H locs → ∀ ls : Array Slot, lv_has ls 8 [(0, .ref aM), (2, .int x2), (3, .int x3), (4, .int x4), (5, .int x5)] → W p l e rm_X8_isAlone s m args below meth c H locs 0 0 Z (F0 m 52 ls []) := by
    intro n_52
    induction n_52 with
    | zero => intro M_then x2 x3 x4 x5 hw; exact False.elim hw
    | succ n_52 ih_52 =>
      intro M_then x2 x3 x4 x5 hw H locs hP hD hS ls hl
      have hw : wf_X8_isAlone_52 M_strength M_kind M_more M_glues M_pieces M_warmth M_sheet M_inputs Q (wq_X8_isAlone_52 M_strength M_kind M_more M_glues M_pieces M_warmth M_sheet M_inputs Q n_52) M_then x2 x3 x4 x5 := hw
      unfold wf_X8_isAlone_52 at hw
      refine lv_iload hx hb dX8_isAlone_52 (lv_at hl 4 rfl) ?_
      refine lv_iconst (v := (4 : Int32)) hx hb dX8_isAlone_54 kI_4 ?_
      refine lv_icmp_ge (tgt := 149) hx hb dX8_isAlone_55 (by decide) (fun c55 => ?_) (fun c55 => ?_)
      · have hw := hw.1 c55
        refine lv_iconst (v := (0 : Int32)) hx hb dX8_isAlone_149 kI_0 ?_
        refine lv_istore (lv' := [(5, .int (0 : Int32)), (0, .ref aM), (2, .int x2), (3, .int x3), (4, .int x4)]) hx hb dX8_isAlone_150 hl (by decide) rfl (fun ls hl => ?_)
        obtain ⟨k, hw⟩ := hw
        exact b_152 k M_then x2 x3 x4 (0 : Int32) hw H locs hP hD hS ls (lv_sub hl [1, 2, 3, 4, 0] rfl)
      · have hw := hw.2 c55
        refine lv_iload_n hx hb dX8_isAlone_58 rfl (lv_at hl 2 rfl) ?_
        refine lv_iload hx hb dX8_isAlone_59 (lv_at hl 4 rfl) ?_
        refine cx_goi (va_runS (As := [.int x5]) (rest := [.int x3]) ⟨hx, hb, hml, hown, hts⟩ (c_X8_xAt l D cI cJ cZ cO tS tT H.size x5 _ hw) (va_cwS 1 hts gX8_isAlone_X8_xAt rfl rfl rfl ps_X8_xAt ⟨Nat.le_of_ble_eq_true rfl, Nat.le_of_ble_eq_true rfl⟩) (cx_preS (wc := w_X8_xAt) hE hK hP hD hS hA [] rfl rfl) rfl rfl hl.1 rfl (lv_room (Nat.le_of_ble_eq_true rfl)) dX8_isAlone_61 ⟨Nat.le_of_ble_eq_true rfl, Nat.le_of_ble_eq_true rfl⟩) (fun (_ : Unit) => (w_X8_isAlone cI cJ cZ cO aM aM_strength aM_kind aM_more aM_glues aM_sheet aM_since aM_imageStrength aM_imageKind aM_imageMore aM_imageGlues aM_imagePieces aM_imageWarmth aM_imageSheet aM_imageDraw aM_stepWhat aM_stepPiece aM_stepPlace aM_stepSince aM_tape aM_shapes aM_pile aM_met aM_next aM_inputs aM_then M_pieces M_warmth M_draw M_steps M_undoable M_brought M_taped M_shapeMany M_ended M_cut M_mostPieces M_walks M_walked M_strength M_kind M_more M_glues M_sheet M_inputs M_then)) [] [0, 1, 2, 3, 4, 5, 6, 7] (ads := []) (wr := [(aM, .inr (8, [.ref aM_strength, .ref aM_kind, .ref aM_more, .ref aM_glues, .int M_pieces, .int M_warmth, .long M_draw, .ref aM_sheet, .ref aM_since, .ref aM_imageStrength, .ref aM_imageKind, .ref aM_imageMore, .ref aM_imageGlues, .ref aM_imagePieces, .ref aM_imageWarmth, .ref aM_imageSheet, .ref aM_imageDraw, .ref aM_stepWhat, .ref aM_stepPiece, .ref aM_stepPlace, .ref aM_stepSince, .int M_steps, .int M_undoable, .int M_brought, .ref aM_tape, .int M_taped, .ref aM_shapes, .int M_shapeMany, .int M_ended, .int M_cut, .int M_mostPieces, .int M_walks, .int M_walked, .ref aM_pile, .ref aM_met, .ref aM_next, .ref aM_inputs, .ref aM_then])), (aM_strength, .inl (cI, 51, .inl M_strength)), (aM_kind, .inl (cI, 40, .inl M_kind)), (aM_more, .inl (cI, 40, .inl M_more)), (aM_glues, .inl (cI, 160, .inl M_glues)), (aM_sheet, .inl (cI, 256, .inl M_sheet)), (aM_inputs, .inl (cI, 256, .inl M_inputs)), (aM_then, .inl (cI, 256, .inl M_then))]) rfl rfl (fun u => rfl) (fun u => rfl) rfl (fun u => rfl) rfl (fun u => rfl) rfl hP hD hS hA (fun r61 u H locs hw hP hD hS => ?_)
        refine lv_iadd hx hb dX8_isAlone_64 ?_
        refine lv_topi (fun v65 e65 => ?_)
        have hw := hw v65 e65
        refine lv_istore (lv' := [(6, .int v65), (0, .ref aM), (2, .int x2), (3, .int x3), (4, .int x4), (5, .int x5)]) hx hb dX8_isAlone_65 hl (by decide) rfl (fun ls hl => ?_)
        refine lv_iload hx hb dX8_isAlone_67 (lv_at hl 4 rfl) ?_
        refine lv_iload hx hb dX8_isAlone_69 (lv_at hl 5 rfl) ?_
        refine cx_goi (va_runS (As := [.int x5]) (rest := [.int x4]) ⟨hx, hb, hml, hown, hts⟩ (c_X8_yAt l D cI cJ cZ cO tS tT H.size x5 _ hw) (va_cwS 1 hts gX8_isAlone_X8_yAt rfl rfl rfl ps_X8_yAt ⟨Nat.le_of_ble_eq_true rfl, Nat.le_of_ble_eq_true rfl⟩) (cx_preS (wc := w_X8_yAt) hE hK hP hD hS hA [] rfl rfl) rfl rfl hl.1 rfl (lv_room (Nat.le_of_ble_eq_true rfl)) dX8_isAlone_71 ⟨Nat.le_of_ble_eq_true rfl, Nat.le_of_ble_eq_true rfl⟩) (fun (_ : Unit) => (w_X8_isAlone cI cJ cZ cO aM aM_strength aM_kind aM_more aM_glues aM_sheet aM_since aM_imageStrength aM_imageKind aM_imageMore aM_imageGlues aM_imagePieces aM_imageWarmth aM_imageSheet aM_imageDraw aM_stepWhat aM_stepPiece aM_stepPlace aM_stepSince aM_tape aM_shapes aM_pile aM_met aM_next aM_inputs aM_then M_pieces M_warmth M_draw M_steps M_undoable M_brought M_taped M_shapeMany M_ended M_cut M_mostPieces M_walks M_walked M_strength M_kind M_more M_glues M_sheet M_inputs M_then)) [] [0, 1, 2, 3, 4, 5, 6, 7] (ads := []) (wr := [(aM, .inr (8, [.ref aM_strength, .ref aM_kind, .ref aM_more, .ref aM_glues, .int M_pieces, .int M_warmth, .long M_draw, .ref aM_sheet, .ref aM_since, .ref aM_imageStrength, .ref aM_imageKind, .ref aM_imageMore, .ref aM_imageGlues, .ref aM_imagePieces, .ref aM_imageWarmth, .ref aM_imageSheet, .ref aM_imageDraw, .ref aM_stepWhat, .ref aM_stepPiece, .ref aM_stepPlace, .ref aM_stepSince, .int M_steps, .int M_undoable, .int M_brought, .ref aM_tape, .int M_taped, .ref aM_shapes, .int M_shapeMany, .int M_ended, .int M_cut, .int M_mostPieces, .int M_walks, .int M_walked, .ref aM_pile, .ref aM_met, .ref aM_next, .ref aM_inputs, .ref aM_then])), (aM_strength, .inl (cI, 51, .inl M_strength)), (aM_kind, .inl (cI, 40, .inl M_kind)), (aM_more, .inl (cI, 40, .inl M_more)), (aM_glues, .inl (cI, 160, .inl M_glues)), (aM_sheet, .inl (cI, 256, .inl M_sheet)), (aM_inputs, .inl (cI, 256, .inl M_inputs)), (aM_then, .inl (cI, 256, .inl M_then))]) rfl rfl (fun u => rfl) (fun u => rfl) rfl (fun u => rfl) rfl (fun u => rfl) rfl hP hD hS hA (fun r71 u H locs hw hP hD hS => ?_)
        refine lv_iadd hx hb dX8_isAlone_74 ?_
        refine lv_topi (fun v75 e75 => ?_)
        have hw := hw v75 e75
        refine lv_istore (lv' := [(7, .int v75), (6, .int v65), (0, .ref aM), (2, .int x2), (3, .int x3), (4, .int x4), (5, .int x5)]) hx hb dX8_isAlone_75 hl (by decide) rfl (fun ls hl => ?_)
        refine lv_iload hx hb dX8_isAlone_77 (lv_at hl 1 rfl) ?_
        refine lv_iload hx hb dX8_isAlone_79 (lv_at hl 0 rfl) ?_
        refine cx_goi (va_runS (As := [.int v65, .int v75]) (rest := []) ⟨hx, hb, hml, hown, hts⟩ (c_X8_isOn l D cI cJ cZ cO tS tT H.size v65 v75 _ hw) (va_cwS 2 hts gX8_isAlone_X8_isOn rfl rfl rfl ps_X8_isOn ⟨Nat.le_of_ble_eq_true rfl, Nat.le_of_ble_eq_true rfl⟩) (cx_preS (wc := w_X8_isOn) hE hK hP hD hS hA [] rfl rfl) rfl rfl hl.1 rfl (lv_room (Nat.le_of_ble_eq_true rfl)) dX8_isAlone_81 ⟨Nat.le_of_ble_eq_true rfl, Nat.le_of_ble_eq_true rfl⟩) (fun (_ : Unit) => (w_X8_isAlone cI cJ cZ cO aM aM_strength aM_kind aM_more aM_glues aM_sheet aM_since aM_imageStrength aM_imageKind aM_imageMore aM_imageGlues aM_imagePieces aM_imageWarmth aM_imageSheet aM_imageDraw aM_stepWhat aM_stepPiece aM_stepPlace aM_stepSince aM_tape aM_shapes aM_pile aM_met aM_next aM_inputs aM_then M_pieces M_warmth M_draw M_steps M_undoable M_brought M_taped M_shapeMany M_ended M_cut M_mostPieces M_walks M_walked M_strength M_kind M_more M_glues M_sheet M_inputs M_then)) [] [0, 1, 2, 3, 4, 5, 6, 7] (ads := []) (wr := [(aM, .inr (8, [.ref aM_strength, .ref aM_kind, .ref aM_more, .ref aM_glues, .int M_pieces, .int M_warmth, .long M_draw, .ref aM_sheet, .ref aM_since, .ref aM_imageStrength, .ref aM_imageKind, .ref aM_imageMore, .ref aM_imageGlues, .ref aM_imagePieces, .ref aM_imageWarmth, .ref aM_imageSheet, .ref aM_imageDraw, .ref aM_stepWhat, .ref aM_stepPiece, .ref aM_stepPlace, .ref aM_stepSince, .int M_steps, .int M_undoable, .int M_brought, .ref aM_tape, .int M_taped, .ref aM_shapes, .int M_shapeMany, .int M_ended, .int M_cut, .int M_mostPieces, .int M_walks, .int M_walked, .ref aM_pile, .ref aM_met, .ref aM_next, .ref aM_inputs, .ref aM_then])), (aM_strength, .inl (cI, 51, .inl M_strength)), (aM_kind, .inl (cI, 40, .inl M_kind)), (aM_more, .inl (cI, 40, .inl M_more)), (aM_glues, .inl (cI, 160, .inl M_glues)), (aM_sheet, .inl (cI, 256, .inl M_sheet)), (aM_inputs, .inl (cI, 256, .inl M_inputs)), (aM_then, .inl (cI, 256, .inl M_then))]) rfl rfl (fun u => rfl) (fun u => rfl) rfl (fun u => rfl) rfl (fun u => rfl) rfl hP hD hS hA (fun r81 u H locs hw hP hD hS => ?_)
        refine lv_if_eq (tgt := 143) hx hb dX8_isAlone_84 (by decide) (fun c84 => ?_) (fun c84 => ?_)
        · have hw := hw.1 c84
          obtain ⟨v143, e143⟩ : ∃ y : Int32, y = x5 + (1 : Int32) := ⟨_, rfl⟩
          have hw := hw v143 e143
          refine lv_iinc (v := v143) (lv' := [(5, .int v143), (7, .int v75), (6, .int v65), (0, .ref aM), (2, .int x2), (3, .int x3), (4, .int x4)]) hx hb dX8_isAlone_143 hl (k := 6) rfl (by rw [e143, kI_1]) (by decide) rfl (fun ls hl => ?_)
          refine lv_goto (tgt := 52) hx hb dX8_isAlone_146 (by decide) ?_
          exact ih_52 M_then x2 x3 x4 v143 hw H locs hP hD hS ls (lv_sub hl [3, 4, 5, 6, 0] rfl)
        · have hw := hw.2 c84
          refine lv_aload_n hx hb dX8_isAlone_87 rfl (lv_at hl 2 rfl) ?_
          refine va_get (D := D) (ci := 8) (v := .ref aM_sheet) (C := RX8) (T := TX8) (N := 38) hx hb hts in_X8_isAlone_X8 hown hK hP 0 rfl rfl 7 (by decide) k_4 (fun _ h9 => h9) rfl dX8_isAlone_88 ?_
          refine lv_iload hx hb dX8_isAlone_91 (lv_at hl 1 rfl) ?_
          refine lv_bipush (v := (16 : Int32)) hx hb dX8_isAlone_93 kB_16 ?_
          refine lv_iload hx hb dX8_isAlone_95 (lv_at hl 0 rfl) ?_
          refine lv_imul hx hb dX8_isAlone_97 ?_
          refine lv_iadd hx hb dX8_isAlone_98 ?_
          have h99 := hw.1
          have hw := hw.2
          refine va_iald hx hb hK hP 5 0 rfl rfl h99 dX8_isAlone_99 ?_
          refine lv_topi (fun v99 e99 => ?_)
          have hw := hw v99 e99
          refine lv_if_eq (tgt := 143) hx hb dX8_isAlone_100 (by decide) (fun c100 => ?_) (fun c100 => ?_)
          · have hw := hw.1 c100
            obtain ⟨v143, e143⟩ : ∃ y : Int32, y = x5 + (1 : Int32) := ⟨_, rfl⟩
            have hw := hw v143 e143
            refine lv_iinc (v := v143) (lv' := [(5, .int v143), (7, .int v75), (6, .int v65), (0, .ref aM), (2, .int x2), (3, .int x3), (4, .int x4)]) hx hb dX8_isAlone_143 hl (k := 6) rfl (by rw [e143, kI_1]) (by decide) rfl (fun ls hl => ?_)
            refine lv_goto (tgt := 52) hx hb dX8_isAlone_146 (by decide) ?_
            exact ih_52 M_then x2 x3 x4 v143 hw H locs hP hD hS ls (lv_sub hl [3, 4, 5, 6, 0] rfl)
          · have hw := hw.2 c100
            refine lv_aload_n hx hb dX8_isAlone_103 rfl (lv_at hl 2 rfl) ?_
            refine va_get (D := D) (ci := 8) (v := .ref aM_inputs) (C := RX8) (T := TX8) (N := 38) hx hb hts in_X8_isAlone_X8 hown hK hP 0 rfl rfl 36 (by decide) k_5 (fun _ h9 => h9) rfl dX8_isAlone_104 ?_
            refine lv_iload hx hb dX8_isAlone_107 (lv_at hl 1 rfl) ?_
            refine lv_bipush (v := (16 : Int32)) hx hb dX8_isAlone_109 kB_16 ?_
            refine lv_iload hx hb dX8_isAlone_111 (lv_at hl 0 rfl) ?_
            refine lv_imul hx hb dX8_isAlone_113 ?_
            refine lv_iadd hx hb dX8_isAlone_114 ?_
            have h115 := hw.1
            have hw := hw.2
            refine va_iald hx hb hK hP 6 0 rfl rfl h115 dX8_isAlone_115 ?_
            refine lv_topi (fun v115 e115 => ?_)
            have hw := hw v115 e115
            refine lv_iload hx hb dX8_isAlone_116 (lv_at hl 6 rfl) ?_
            refine lv_iconst (v := (2 : Int32)) hx hb dX8_isAlone_118 kI_2 ?_
            refine lv_iadd hx hb dX8_isAlone_119 ?_
            refine lv_iconst (v := (4 : Int32)) hx hb dX8_isAlone_120 kI_4 ?_
            refine lv_irem hx hb dX8_isAlone_121 (by decide) ?_
            refine lv_ishr hx hb dX8_isAlone_122 ?_
            refine lv_iconst (v := (1 : Int32)) hx hb dX8_isAlone_123 kI_1 ?_
            refine lv_iand hx hb dX8_isAlone_124 ?_
            refine lv_iconst (v := (1 : Int32)) hx hb dX8_isAlone_125 kI_1 ?_
            refine lv_icmp_ne (tgt := 143) hx hb dX8_isAlone_126 (by decide) (fun c126 => ?_) (fun c126 => ?_)
            · have hw := hw.1 c126
              obtain ⟨v143, e143⟩ : ∃ y : Int32, y = x5 + (1 : Int32) := ⟨_, rfl⟩
              have hw := hw v143 e143
              refine lv_iinc (v := v143) (lv' := [(5, .int v143), (7, .int v75), (6, .int v65), (0, .ref aM), (2, .int x2), (3, .int x3), (4, .int x4)]) hx hb dX8_isAlone_143 hl (k := 6) rfl (by rw [e143, kI_1]) (by decide) rfl (fun ls hl => ?_)
              refine lv_goto (tgt := 52) hx hb dX8_isAlone_146 (by decide) ?_
              exact ih_52 M_then x2 x3 x4 v143 hw H locs hP hD hS ls (lv_sub hl [3, 4, 5, 6, 0] rfl)
            · have hw := hw.2 c126
              refine lv_aload_n hx hb dX8_isAlone_129 rfl (lv_at hl 2 rfl) ?_
              refine va_get (D := D) (ci := 8) (v := .ref aM_then) (C := RX8) (T := TX8) (N := 38) hx hb hts in_X8_isAlone_X8 hown hK hP 0 rfl rfl 37 (by decide) k_0 (fun _ h9 => h9) rfl dX8_isAlone_130 ?_
              refine lv_iload hx hb dX8_isAlone_133 (lv_at hl 1 rfl) ?_
              refine lv_bipush (v := (16 : Int32)) hx hb dX8_isAlone_135 kB_16 ?_
              refine lv_iload hx hb dX8_isAlone_137 (lv_at hl 0 rfl) ?_
              refine lv_imul hx hb dX8_isAlone_139 ?_
              refine lv_iadd hx hb dX8_isAlone_140 ?_
              refine lv_iconst (v := (0 : Int32)) hx hb dX8_isAlone_141 kI_0 ?_
              have h142 := hw.1
              have hw := hw.2
              refine va_iast hx hb hK hP hD hS 7 0 rfl rfl h142 dX8_isAlone_142 (fun H locs hP hD hS => ?_)
              have hP : va_P D vwCl (w_X8_isAlone cI cJ cZ cO aM aM_strength aM_kind aM_more aM_glues aM_sheet aM_since aM_imageStrength aM_imageKind aM_imageMore aM_imageGlues aM_imagePieces aM_imageWarmth aM_imageSheet aM_imageDraw aM_stepWhat aM_stepPiece aM_stepPlace aM_stepSince aM_tape aM_shapes aM_pile aM_met aM_next aM_inputs aM_then M_pieces M_warmth M_draw M_steps M_undoable M_brought M_taped M_shapeMany M_ended M_cut M_mostPieces M_walks M_walked M_strength M_kind M_more M_glues M_sheet M_inputs (upd M_then (v65 + ((16 : Int32) * v75)).toNatClampNeg (0 : Int32))) H := hP
              have hD : va_D A (w_X8_isAlone cI cJ cZ cO aM aM_strength aM_kind aM_more aM_glues aM_sheet aM_since aM_imageStrength aM_imageKind aM_imageMore aM_imageGlues aM_imagePieces aM_imageWarmth aM_imageSheet aM_imageDraw aM_stepWhat aM_stepPiece aM_stepPlace aM_stepSince aM_tape aM_shapes aM_pile aM_met aM_next aM_inputs aM_then M_pieces M_warmth M_draw M_steps M_undoable M_brought M_taped M_shapeMany M_ended M_cut M_mostPieces M_walks M_walked M_strength M_kind M_more M_glues M_sheet M_inputs (upd M_then (v65 + ((16 : Int32) * v75)).toNatClampNeg (0 : Int32))) := hD
              obtain ⟨M_then_142, e142⟩ : ∃ y : Nat → Int32, y = upd M_then (v65 + ((16 : Int32) * v75)).toNatClampNeg (0 : Int32) := ⟨_, rfl⟩
              rw [← e142] at hP hD
              have hw := hw M_then_142 e142
              obtain ⟨v143, e143⟩ : ∃ y : Int32, y = x5 + (1 : Int32) := ⟨_, rfl⟩
              have hw := hw v143 e143
              refine lv_iinc (v := v143) (lv' := [(5, .int v143), (7, .int v75), (6, .int v65), (0, .ref aM), (2, .int x2), (3, .int x3), (4, .int x4)]) hx hb dX8_isAlone_143 hl (k := 6) rfl (by rw [e143, kI_1]) (by decide) rfl (fun ls hl => ?_)
              refine lv_goto (tgt := 52) hx hb dX8_isAlone_146 (by decide) ?_
              exact ih_52 M_then_142 x2 x3 x4 v143 hw H locs hP hD hS ls (lv_sub hl [3, 4, 5, 6, 0] rfl)
  have b_14 : ∀ n_14 : Nat, ∀ (M_then : Nat → Int32) (x1 : Int32) (x2 : Int32) (x3 : Int32) (x4 : Int32) (x5 : Int32), wq_X8_isAlone_14 M_strength M_kind M_more M_glues M_pieces M_warmth M_sheet M_inputs Q n_14 M_then x1 x2 x3 x4 x5 → ∀ (H : Heap) (locs : List Loc), va_P D vwCl (w_X8_isAlone cI cJ cZ cO aM aM_strength aM_kind aM_more aM_glues aM_sheet aM_since aM_imageStrength aM_imageKind aM_imageMore aM_imageGlues aM_imagePieces aM_imageWarmth aM_imageSheet aM_imageDraw aM_stepWhat aM_stepPiece aM_stepPlace aM_stepSince aM_tape aM_shapes aM_pile aM_met aM_next aM_inputs aM_then M_pieces M_warmth M_draw M_steps M_undoable M_brought M_taped M_shapeMany M_ended M_cut M_mostPieces M_walks M_walked M_strength M_kind M_more M_glues M_sheet M_inputs M_then) H → va_D A (w_X8_isAlone cI cJ cZ cO aM aM_strength aM_kind aM_more aM_glues aM_sheet aM_since aM_imageStrength aM_imageKind aM_imageMore aM_imageGlues aM_imagePieces aM_imageWarmth aM_imageSheet aM_imageDraw aM_stepWhat aM_stepPiece aM_stepPlace aM_stepSince aM_tape aM_shapes aM_pile aM_met aM_next aM_inputs aM_then M_pieces M_warmth M_draw M_steps M_undoable M_brought M_taped M_shapeMany M_ended M_cut M_mostPieces M_walks M_walked M_strength M_kind M_more M_glues M_sheet M_inputs M_then) → va_S A s.heap H locs → ∀ ls : Array Slot, lv_has ls 8 [(0, .ref aM), (1, .int x1), (2, .int x2), (3, .int x3), (4, .int x4), (5, .int x5)] → W p l e rm_X8_isAlone s m args below meth c H locs 0 0 Z (F0 m 14 ls []) := by
    intro n_14
    induction n_14 with
    | zero => intro M_then x1 x2 x3 x4 x5 hw; exact False.elim hw
    | succ n_14 ih_14 =>
      intro M_then x1 x2 x3 x4 x5 hw H locs hP hD hS ls hl
      have hw : wf_X8_isAlone_14 M_strength M_kind M_more M_glues M_pieces M_warmth M_sheet M_inputs Q (wq_X8_isAlone_14 M_strength M_kind M_more M_glues M_pieces M_warmth M_sheet M_inputs Q n_14) M_then x1 x2 x3 x4 x5 := hw
      unfold wf_X8_isAlone_14 at hw
      refine lv_iload hx hb dX8_isAlone_14 (lv_at hl 5 rfl) ?_
      refine lv_sipush (v := (256 : Int32)) hx hb dX8_isAlone_16 kS_256 ?_
      refine lv_icmp_ge (tgt := 42) hx hb dX8_isAlone_19 (by decide) (fun c19 => ?_) (fun c19 => ?_)
      · have hw := hw.1 c19
        refine lv_aload_n hx hb dX8_isAlone_42 rfl (lv_at hl 0 rfl) ?_
        refine va_get (D := D) (ci := 8) (v := .ref aM_then) (C := RX8) (T := TX8) (N := 38) hx hb hts in_X8_isAlone_X8 hown hK hP 0 rfl rfl 37 (by decide) k_0 (fun _ h9 => h9) rfl dX8_isAlone_43 ?_
        refine lv_iload_n hx hb dX8_isAlone_46 rfl (lv_at hl 1 rfl) ?_
        refine lv_iconst (v := (0 : Int32)) hx hb dX8_isAlone_47 kI_0 ?_
        have h48 := hw.1
        have hw := hw.2
        refine va_iast hx hb hK hP hD hS 7 0 rfl rfl h48 dX8_isAlone_48 (fun H locs hP hD hS => ?_)
        have hP : va_P D vwCl (w_X8_isAlone cI cJ cZ cO aM aM_strength aM_kind aM_more aM_glues aM_sheet aM_since aM_imageStrength aM_imageKind aM_imageMore aM_imageGlues aM_imagePieces aM_imageWarmth aM_imageSheet aM_imageDraw aM_stepWhat aM_stepPiece aM_stepPlace aM_stepSince aM_tape aM_shapes aM_pile aM_met aM_next aM_inputs aM_then M_pieces M_warmth M_draw M_steps M_undoable M_brought M_taped M_shapeMany M_ended M_cut M_mostPieces M_walks M_walked M_strength M_kind M_more M_glues M_sheet M_inputs (upd M_then x1.toNatClampNeg (0 : Int32))) H := hP
        have hD : va_D A (w_X8_isAlone cI cJ cZ cO aM aM_strength aM_kind aM_more aM_glues aM_sheet aM_since aM_imageStrength aM_imageKind aM_imageMore aM_imageGlues aM_imagePieces aM_imageWarmth aM_imageSheet aM_imageDraw aM_stepWhat aM_stepPiece aM_stepPlace aM_stepSince aM_tape aM_shapes aM_pile aM_met aM_next aM_inputs aM_then M_pieces M_warmth M_draw M_steps M_undoable M_brought M_taped M_shapeMany M_ended M_cut M_mostPieces M_walks M_walked M_strength M_kind M_more M_glues M_sheet M_inputs (upd M_then x1.toNatClampNeg (0 : Int32))) := hD
        obtain ⟨M_then_48, e48⟩ : ∃ y : Nat → Int32, y = upd M_then x1.toNatClampNeg (0 : Int32) := ⟨_, rfl⟩
        rw [← e48] at hP hD
        have hw := hw M_then_48 e48
        refine lv_iconst (v := (0 : Int32)) hx hb dX8_isAlone_49 kI_0 ?_
        refine lv_istore (lv' := [(5, .int (0 : Int32)), (0, .ref aM), (1, .int x1), (2, .int x2), (3, .int x3), (4, .int x4)]) hx hb dX8_isAlone_50 hl (by decide) rfl (fun ls hl => ?_)
        obtain ⟨k, hw⟩ := hw
        exact b_52 k M_then_48 x2 x3 x4 (0 : Int32) hw H locs hP hD hS ls (lv_sub hl [1, 3, 4, 5, 0] rfl)
      · have hw := hw.2 c19
        refine lv_aload_n hx hb dX8_isAlone_22 rfl (lv_at hl 0 rfl) ?_
        refine va_get (D := D) (ci := 8) (v := .ref aM_then) (C := RX8) (T := TX8) (N := 38) hx hb hts in_X8_isAlone_X8 hown hK hP 0 rfl rfl 37 (by decide) k_0 (fun _ h9 => h9) rfl dX8_isAlone_23 ?_
        refine lv_iload hx hb dX8_isAlone_26 (lv_at hl 5 rfl) ?_
        refine lv_aload_n hx hb dX8_isAlone_28 rfl (lv_at hl 0 rfl) ?_
        refine va_get (D := D) (ci := 8) (v := .ref aM_sheet) (C := RX8) (T := TX8) (N := 38) hx hb hts in_X8_isAlone_X8 hown hK hP 0 rfl rfl 7 (by decide) k_4 (fun _ h9 => h9) rfl dX8_isAlone_29 ?_
        refine lv_iload hx hb dX8_isAlone_32 (lv_at hl 5 rfl) ?_
        have h34 := hw.1
        have hw := hw.2
        refine va_iald hx hb hK hP 5 0 rfl rfl h34 dX8_isAlone_34 ?_
        refine lv_topi (fun v34 e34 => ?_)
        have hw := hw v34 e34
        have h35 := hw.1
        have hw := hw.2
        refine va_iast hx hb hK hP hD hS 7 0 rfl rfl h35 dX8_isAlone_35 (fun H locs hP hD hS => ?_)
        have hP : va_P D vwCl (w_X8_isAlone cI cJ cZ cO aM aM_strength aM_kind aM_more aM_glues aM_sheet aM_since aM_imageStrength aM_imageKind aM_imageMore aM_imageGlues aM_imagePieces aM_imageWarmth aM_imageSheet aM_imageDraw aM_stepWhat aM_stepPiece aM_stepPlace aM_stepSince aM_tape aM_shapes aM_pile aM_met aM_next aM_inputs aM_then M_pieces M_warmth M_draw M_steps M_undoable M_brought M_taped M_shapeMany M_ended M_cut M_mostPieces M_walks M_walked M_strength M_kind M_more M_glues M_sheet M_inputs (upd M_then x5.toNatClampNeg v34)) H := hP
        have hD : va_D A (w_X8_isAlone cI cJ cZ cO aM aM_strength aM_kind aM_more aM_glues aM_sheet aM_since aM_imageStrength aM_imageKind aM_imageMore aM_imageGlues aM_imagePieces aM_imageWarmth aM_imageSheet aM_imageDraw aM_stepWhat aM_stepPiece aM_stepPlace aM_stepSince aM_tape aM_shapes aM_pile aM_met aM_next aM_inputs aM_then M_pieces M_warmth M_draw M_steps M_undoable M_brought M_taped M_shapeMany M_ended M_cut M_mostPieces M_walks M_walked M_strength M_kind M_more M_glues M_sheet M_inputs (upd M_then x5.toNatClampNeg v34)) := hD
        obtain ⟨M_then_35, e35⟩ : ∃ y : Nat → Int32, y = upd M_then x5.toNatClampNeg v34 := ⟨_, rfl⟩
        rw [← e35] at hP hD
        have hw := hw M_then_35 e35
        obtain ⟨v36, e36⟩ : ∃ y : Int32, y = x5 + (1 : Int32) := ⟨_, rfl⟩
        have hw := hw v36 e36
        refine lv_iinc (v := v36) (lv' := [(5, .int v36), (0, .ref aM), (1, .int x1), (2, .int x2), (3, .int x3), (4, .int x4)]) hx hb dX8_isAlone_36 hl (k := 5) rfl (by rw [e36, kI_1]) (by decide) rfl (fun ls hl => ?_)
        refine lv_goto (tgt := 14) hx hb dX8_isAlone_39 (by decide) ?_
        exact ih_14 M_then_35 x1 x2 x3 x4 v36 hw H locs hP hD hS ls (lv_sub hl [1, 2, 3, 4, 5, 0] rfl)
  intro H locs hP hD hS ls hl
  unfold wp_X8_isAlone at hw
  refine lv_iload_n hx hb dX8_isAlone_0 rfl (lv_at hl 1 rfl) ?_
  refine lv_bipush (v := (16 : Int32)) hx hb dX8_isAlone_1 kB_16 ?_
  refine lv_irem hx hb dX8_isAlone_3 (by decide) ?_
  refine lv_topi (fun v4 e4 => ?_)
  have hw := hw v4 e4
  refine lv_istore_n (lv' := [(3, .int v4), (0, .ref aM), (1, .int p1), (2, .int p2)]) hx hb dX8_isAlone_4 rfl hl (by decide) rfl (fun ls hl => ?_)
  refine lv_iload_n hx hb dX8_isAlone_5 rfl (lv_at hl 2 rfl) ?_
  refine lv_bipush (v := (16 : Int32)) hx hb dX8_isAlone_6 kB_16 ?_
  refine lv_idiv hx hb dX8_isAlone_8 (by decide) ?_
  refine lv_topi (fun v9 e9 => ?_)
  have hw := hw v9 e9
  refine lv_istore (lv' := [(4, .int v9), (3, .int v4), (0, .ref aM), (1, .int p1), (2, .int p2)]) hx hb dX8_isAlone_9 hl (by decide) rfl (fun ls hl => ?_)
  refine lv_iconst (v := (0 : Int32)) hx hb dX8_isAlone_11 kI_0 ?_
  refine lv_istore (lv' := [(5, .int (0 : Int32)), (4, .int v9), (3, .int v4), (0, .ref aM), (1, .int p1), (2, .int p2)]) hx hb dX8_isAlone_12 hl (by decide) rfl (fun ls hl => ?_)
  obtain ⟨k, hw⟩ := hw
  exact b_14 k M_then p1 p2 v4 v9 (0 : Int32) hw H locs hP hD hS ls (lv_sub hl [3, 4, 5, 2, 1, 0] rfl)
set_option maxRecDepth 100000 in
set_option maxHeartbeats 4000000 in
theorem c_X8_orderly (l : Launch) (D : va_G) (cI cJ cZ cO : ClassId) (tS tT : Nat) (sz : Nat) (aM aM_strength aM_kind aM_more aM_glues aM_sheet aM_since aM_imageStrength aM_imageKind aM_imageMore aM_imageGlues aM_imagePieces aM_imageWarmth aM_imageSheet aM_imageDraw aM_stepWhat aM_stepPiece aM_stepPlace aM_stepSince aM_tape aM_shapes aM_pile aM_met aM_next aM_inputs aM_then : Nat) (M_pieces : Int32) (M_warmth : Int32) (M_draw : Int64) (M_steps : Int32) (M_undoable : Int32) (M_brought : Int32) (M_taped : Int32) (M_shapeMany : Int32) (M_ended : Int32) (M_cut : Int32) (M_mostPieces : Int32) (M_walks : Int32) (M_walked : Int32) (M_strength : Nat → Int32) (M_kind : Nat → Int32) (M_more : Nat → Int32) (M_glues : Nat → Int32) (M_sheet : Nat → Int32) (M_stepWhat : Nat → Int32) (M_stepPiece : Nat → Int32) (M_stepPlace : Nat → Int32) (M_inputs : Nat → Int32) (M_then : Nat → Int32) (Q : Int32 → (Nat → Int32) → (Nat → Int32) → Prop) (hw : wp_X8_orderly M_strength M_kind M_more M_glues M_pieces M_warmth M_sheet M_stepWhat M_stepPiece M_stepPlace M_steps M_undoable M_brought M_inputs M_then Q) : Met l yX8_orderly wsX8_orderly rm_X8_orderly (va_Pc [.ref aM] (cx_B tS tT cI cJ cZ cO D sz (w_X8_orderly cI cJ cZ cO aM aM_strength aM_kind aM_more aM_glues aM_sheet aM_since aM_imageStrength aM_imageKind aM_imageMore aM_imageGlues aM_imagePieces aM_imageWarmth aM_imageSheet aM_imageDraw aM_stepWhat aM_stepPiece aM_stepPlace aM_stepSince aM_tape aM_shapes aM_pile aM_met aM_next aM_inputs aM_then M_pieces M_warmth M_draw M_steps M_undoable M_brought M_taped M_shapeMany M_ended M_cut M_mostPieces M_walks M_walked M_strength M_kind M_more M_glues M_sheet M_stepWhat M_stepPiece M_stepPlace M_inputs M_then))) (va_Qi (fun (r : Int32) (u : (Nat → Int32) × (Nat → Int32)) => Q r u.1 u.2) (fun (u : (Nat → Int32) × (Nat → Int32)) t => va_P D vwCl (w_X8_orderly cI cJ cZ cO aM aM_strength aM_kind aM_more aM_glues aM_sheet aM_since aM_imageStrength aM_imageKind aM_imageMore aM_imageGlues aM_imagePieces aM_imageWarmth aM_imageSheet aM_imageDraw aM_stepWhat aM_stepPiece aM_stepPlace aM_stepSince aM_tape aM_shapes aM_pile aM_met aM_next aM_inputs aM_then M_pieces M_warmth M_draw M_steps M_undoable M_brought M_taped M_shapeMany M_ended M_cut M_mostPieces M_walks M_walked M_strength M_kind M_more M_glues M_sheet M_stepWhat M_stepPiece M_stepPlace u.1 u.2) t.heap) (va_A (w_X8_orderly cI cJ cZ cO aM aM_strength aM_kind aM_more aM_glues aM_sheet aM_since aM_imageStrength aM_imageKind aM_imageMore aM_imageGlues aM_imagePieces aM_imageWarmth aM_imageSheet aM_imageDraw aM_stepWhat aM_stepPiece aM_stepPlace aM_stepSince aM_tape aM_shapes aM_pile aM_met aM_next aM_inputs aM_then M_pieces M_warmth M_draw M_steps M_undoable M_brought M_taped M_shapeMany M_ended M_cut M_mostPieces M_walks M_walked M_strength M_kind M_more M_glues M_sheet M_stepWhat M_stepPiece M_stepPlace M_inputs M_then) sz)) 0 0 (va_A (w_X8_orderly cI cJ cZ cO aM aM_strength aM_kind aM_more aM_glues aM_sheet aM_since aM_imageStrength aM_imageKind aM_imageMore aM_imageGlues aM_imagePieces aM_imageWarmth aM_imageSheet aM_imageDraw aM_stepWhat aM_stepPiece aM_stepPlace aM_stepSince aM_tape aM_shapes aM_pile aM_met aM_next aM_inputs aM_then M_pieces M_warmth M_draw M_steps M_undoable M_brought M_taped M_shapeMany M_ended M_cut M_mostPieces M_walks M_walked M_strength M_kind M_more M_glues M_sheet M_stepWhat M_stepPiece M_stepPlace M_inputs M_then) sz) := by
  refine cx_met (cc := cX8_orderly) (maxL := 5) (ret := (some .int)) (Qc := fun A => va_Qi (fun (r : Int32) (u : (Nat → Int32) × (Nat → Int32)) => Q r u.1 u.2) (fun (u : (Nat → Int32) × (Nat → Int32)) t => va_P D vwCl (w_X8_orderly cI cJ cZ cO aM aM_strength aM_kind aM_more aM_glues aM_sheet aM_since aM_imageStrength aM_imageKind aM_imageMore aM_imageGlues aM_imagePieces aM_imageWarmth aM_imageSheet aM_imageDraw aM_stepWhat aM_stepPiece aM_stepPlace aM_stepSince aM_tape aM_shapes aM_pile aM_met aM_next aM_inputs aM_then M_pieces M_warmth M_draw M_steps M_undoable M_brought M_taped M_shapeMany M_ended M_cut M_mostPieces M_walks M_walked M_strength M_kind M_more M_glues M_sheet M_stepWhat M_stepPiece M_stepPlace u.1 u.2) t.heap) A) (lv := [(0, .ref aM)]) (by decide) rfl (Nat.le_of_ble_eq_true rfl) rfl ?_
  intro p e s m args below meth c A Z hx hb hr hlocks hts hown hml hE hK hA hZ
  have hown : s.vm.findClass RX8 = some m.cls := hown
  have k_0 := hts (.fieldLink RX8 156 "GrowingTilesModel" "undoable" "I") (List.mem_of_getElem? (i := 2) (by decide +kernel))
  have k_1 := hts (.fieldLink RX8 57 "GrowingTilesModel" "stepWhat" "[I") (List.mem_of_getElem? (i := 6) (by decide +kernel))
  have k_2 := hts (.fieldLink RX8 63 "GrowingTilesModel" "stepPlace" "[I") (List.mem_of_getElem? (i := 3) (by decide +kernel))
  have k_3 := hts (.fieldLink RX8 60 "GrowingTilesModel" "stepPiece" "[I") (List.mem_of_getElem? (i := 4) (by decide +kernel))
  have k_4 := hts (.fieldLink RX8 89 "GrowingTilesModel" "then" "[I") (List.mem_of_getElem? (i := 1) (by decide +kernel))
  have k_5 := hts (.fieldLink RX8 22 "GrowingTilesModel" "warmth" "I") (List.mem_of_getElem? (i := 7) (by decide +kernel))
  have k_6 := hts (.fieldLink RX8 86 "GrowingTilesModel" "inputs" "[I") (List.mem_of_getElem? (i := 5) (by decide +kernel))
  have b_185 : ∀ n_185 : Nat, ∀ (M_inputs : Nat → Int32) (M_then : Nat → Int32) (x1 : Int32), wq_X8_orderly_185 M_strength M_kind M_more M_glues M_pieces M_warmth M_sheet M_stepWhat M_stepPiece M_stepPlace M_steps M_undoable M_brought Q n_185 M_inputs M_then x1 → ∀ (H : Heap) (locs : List Loc), va_P D vwCl (w_X8_orderly cI cJ cZ cO aM aM_strength aM_kind aM_more aM_glues aM_sheet aM_since aM_imageStrength aM_imageKind aM_imageMore aM_imageGlues aM_imagePieces aM_imageWarmth aM_imageSheet aM_imageDraw aM_stepWhat aM_stepPiece aM_stepPlace aM_stepSince aM_tape aM_shapes aM_pile aM_met aM_next aM_inputs aM_then M_pieces M_warmth M_draw M_steps M_undoable M_brought M_taped M_shapeMany M_ended M_cut M_mostPieces M_walks M_walked M_strength M_kind M_more M_glues M_sheet M_stepWhat M_stepPiece M_stepPlace M_inputs M_then) H → va_D A (w_X8_orderly cI cJ cZ cO aM aM_strength aM_kind aM_more aM_glues aM_sheet aM_since aM_imageStrength aM_imageKind aM_imageMore aM_imageGlues aM_imagePieces aM_imageWarmth aM_imageSheet aM_imageDraw aM_stepWhat aM_stepPiece aM_stepPlace aM_stepSince aM_tape aM_shapes aM_pile aM_met aM_next aM_inputs aM_then M_pieces M_warmth M_draw M_steps M_undoable M_brought M_taped M_shapeMany M_ended M_cut M_mostPieces M_walks M_walked M_strength M_kind M_more M_glues M_sheet M_stepWhat M_stepPiece M_stepPlace M_inputs M_then) → va_S A s.heap H locs → ∀ ls : Array Slot, lv_has ls 5 [(0, .ref aM), (1, .int x1)] → W p l e rm_X8_orderly s m args below meth c H locs 0 0 Z (F0 m 185 ls []) := by
    intro n_185
    induction n_185 with
    | zero => intro M_inputs M_then x1 hw; exact False.elim hw
    | succ n_185 ih_185 =>
      intro M_inputs M_then x1 hw H locs hP hD hS ls hl
      have hw : wf_X8_orderly_185 M_strength M_kind M_more M_glues M_pieces M_warmth M_sheet M_stepWhat M_stepPiece M_stepPlace M_steps M_undoable M_brought Q (wq_X8_orderly_185 M_strength M_kind M_more M_glues M_pieces M_warmth M_sheet M_stepWhat M_stepPiece M_stepPlace M_steps M_undoable M_brought Q n_185) M_inputs M_then x1 := hw
      unfold wf_X8_orderly_185 at hw
      refine lv_iload_n hx hb dX8_orderly_185 rfl (lv_at hl 1 rfl) ?_
      refine lv_aload_n hx hb dX8_orderly_186 rfl (lv_at hl 0 rfl) ?_
      refine va_get (D := D) (ci := 8) (v := .int M_undoable) (C := RX8) (T := TX8) (N := 38) hx hb hts in_X8_orderly_X8 hown hK hP 0 rfl rfl 22 (by decide) k_0 (fun _ h9 => h9) rfl dX8_orderly_187 ?_
      refine lv_icmp_ge (tgt := 240) hx hb dX8_orderly_190 (by decide) (fun c190 => ?_) (fun c190 => ?_)
      · have hw := hw.1 c190
        refine lv_aload_n hx hb dX8_orderly_240 rfl (lv_at hl 0 rfl) ?_
        refine cx_goi (va_runV (As := []) (rest := []) ⟨hx, hb, hml, hown, hts⟩ (c_X8_choices l D cI cJ cZ cO tS tT H.size aM aM_strength aM_kind aM_more aM_glues aM_sheet aM_since aM_imageStrength aM_imageKind aM_imageMore aM_imageGlues aM_imagePieces aM_imageWarmth aM_imageSheet aM_imageDraw aM_stepWhat aM_stepPiece aM_stepPlace aM_stepSince aM_tape aM_shapes aM_pile aM_met aM_next aM_inputs aM_then M_pieces M_warmth M_draw M_steps M_undoable M_brought M_taped M_shapeMany M_ended M_cut M_mostPieces M_walks M_walked M_strength M_kind M_more M_glues M_sheet _ hw) (cwV 0 hts gX8_orderly_X8_choices rfl rfl rfl pv_X8_choices ⟨Nat.le_of_ble_eq_true rfl, Nat.le_of_ble_eq_true rfl⟩) (cx_preV (wc := w_X8_choices cI cJ cZ cO aM aM_strength aM_kind aM_more aM_glues aM_sheet aM_since aM_imageStrength aM_imageKind aM_imageMore aM_imageGlues aM_imagePieces aM_imageWarmth aM_imageSheet aM_imageDraw aM_stepWhat aM_stepPiece aM_stepPlace aM_stepSince aM_tape aM_shapes aM_pile aM_met aM_next aM_inputs aM_then M_pieces M_warmth M_draw M_steps M_undoable M_brought M_taped M_shapeMany M_ended M_cut M_mostPieces M_walks M_walked M_strength M_kind M_more M_glues M_sheet) hE hK hP hD hS hA [0, 1, 2, 3, 4, 5] rfl rfl (va_recv hK hP (ci := 8) (q0 := 0) rfl rfl)) rfl rfl hl.1 rfl (lv_room (Nat.le_of_ble_eq_true rfl)) dX8_orderly_241 ⟨Nat.le_of_ble_eq_true rfl, Nat.le_of_ble_eq_true rfl⟩) (fun (_ : Unit) => (w_X8_orderly cI cJ cZ cO aM aM_strength aM_kind aM_more aM_glues aM_sheet aM_since aM_imageStrength aM_imageKind aM_imageMore aM_imageGlues aM_imagePieces aM_imageWarmth aM_imageSheet aM_imageDraw aM_stepWhat aM_stepPiece aM_stepPlace aM_stepSince aM_tape aM_shapes aM_pile aM_met aM_next aM_inputs aM_then M_pieces M_warmth M_draw M_steps M_undoable M_brought M_taped M_shapeMany M_ended M_cut M_mostPieces M_walks M_walked M_strength M_kind M_more M_glues M_sheet M_stepWhat M_stepPiece M_stepPlace M_inputs M_then)) [0, 1, 2, 3, 4, 5] [6, 7, 8, 9, 10] (ads := [aM, aM_strength, aM_kind, aM_more, aM_glues, aM_sheet]) (wr := [(aM_stepWhat, .inl (cI, 200, .inl M_stepWhat)), (aM_stepPiece, .inl (cI, 200, .inl M_stepPiece)), (aM_stepPlace, .inl (cI, 200, .inl M_stepPlace)), (aM_inputs, .inl (cI, 256, .inl M_inputs)), (aM_then, .inl (cI, 256, .inl M_then))]) rfl rfl (fun u => rfl) (fun u => rfl) rfl (fun u => rfl) rfl (fun u => rfl) rfl hP hD hS hA (fun r241 u H locs hw hP hD hS => ?_)
        have hP : va_P D vwCl (w_X8_orderly cI cJ cZ cO aM aM_strength aM_kind aM_more aM_glues aM_sheet aM_since aM_imageStrength aM_imageKind aM_imageMore aM_imageGlues aM_imagePieces aM_imageWarmth aM_imageSheet aM_imageDraw aM_stepWhat aM_stepPiece aM_stepPlace aM_stepSince aM_tape aM_shapes aM_pile aM_met aM_next aM_inputs aM_then M_pieces M_warmth M_draw M_steps M_undoable M_brought M_taped M_shapeMany M_ended M_cut M_mostPieces M_walks M_walked M_strength M_kind M_more M_glues M_sheet M_stepWhat M_stepPiece M_stepPlace M_inputs M_then) H := hP
        have hD : va_D A (w_X8_orderly cI cJ cZ cO aM aM_strength aM_kind aM_more aM_glues aM_sheet aM_since aM_imageStrength aM_imageKind aM_imageMore aM_imageGlues aM_imagePieces aM_imageWarmth aM_imageSheet aM_imageDraw aM_stepWhat aM_stepPiece aM_stepPlace aM_stepSince aM_tape aM_shapes aM_pile aM_met aM_next aM_inputs aM_then M_pieces M_warmth M_draw M_steps M_undoable M_brought M_taped M_shapeMany M_ended M_cut M_mostPieces M_walks M_walked M_strength M_kind M_more M_glues M_sheet M_stepWhat M_stepPiece M_stepPlace M_inputs M_then) := hD
        refine lv_if_ne (tgt := 251) hx hb dX8_orderly_244 (by decide) (fun c244 => ?_) (fun c244 => ?_)
        · have hw := hw.1 c244
          refine lv_bipush (v := (-4 : Int32)) hx hb dX8_orderly_251 kB_m4 ?_
          rw [hZ]
          exact cx_reti (M_inputs, M_then) hx hb hr hlocks hw hP hS dX8_orderly_253
        · have hw := hw.2 c244
          refine lv_iconst (v := (1 : Int32)) hx hb dX8_orderly_247 kI_1 ?_
          refine lv_goto (tgt := 253) hx hb dX8_orderly_248 (by decide) ?_
          rw [hZ]
          exact cx_reti (M_inputs, M_then) hx hb hr hlocks hw hP hS dX8_orderly_253
      · have hw := hw.2 c190
        refine lv_aload_n hx hb dX8_orderly_193 rfl (lv_at hl 0 rfl) ?_
        refine va_get (D := D) (ci := 8) (v := .ref aM_stepWhat) (C := RX8) (T := TX8) (N := 38) hx hb hts in_X8_orderly_X8 hown hK hP 0 rfl rfl 17 (by decide) k_1 (fun _ h9 => h9) rfl dX8_orderly_194 ?_
        refine lv_iload_n hx hb dX8_orderly_197 rfl (lv_at hl 1 rfl) ?_
        have h198 := hw.1
        have hw := hw.2
        refine va_iald hx hb hK hP 6 0 rfl rfl h198 dX8_orderly_198 ?_
        refine lv_topi (fun v198 e198 => ?_)
        have hw := hw v198 e198
        refine lv_iconst (v := (1 : Int32)) hx hb dX8_orderly_199 kI_1 ?_
        refine lv_icmp_ne (tgt := 234) hx hb dX8_orderly_200 (by decide) (fun c200 => ?_) (fun c200 => ?_)
        · have hw := hw.1 c200
          obtain ⟨v234, e234⟩ : ∃ y : Int32, y = x1 + (1 : Int32) := ⟨_, rfl⟩
          have hw := hw v234 e234
          refine lv_iinc (v := v234) (lv' := [(1, .int v234), (0, .ref aM)]) hx hb dX8_orderly_234 hl (k := 1) rfl (by rw [e234, kI_1]) (by decide) rfl (fun ls hl => ?_)
          refine lv_goto (tgt := 185) hx hb dX8_orderly_237 (by decide) ?_
          exact ih_185 M_inputs M_then v234 hw H locs hP hD hS ls (lv_sub hl [1, 0] rfl)
        · have hw := hw.2 c200
          refine lv_aload_n hx hb dX8_orderly_203 rfl (lv_at hl 0 rfl) ?_
          refine lv_aload_n hx hb dX8_orderly_204 rfl (lv_at hl 0 rfl) ?_
          refine va_get (D := D) (ci := 8) (v := .ref aM_stepPlace) (C := RX8) (T := TX8) (N := 38) hx hb hts in_X8_orderly_X8 hown hK hP 0 rfl rfl 19 (by decide) k_2 (fun _ h9 => h9) rfl dX8_orderly_205 ?_
          refine lv_iload_n hx hb dX8_orderly_208 rfl (lv_at hl 1 rfl) ?_
          have h209 := hw.1
          have hw := hw.2
          refine va_iald hx hb hK hP 8 0 rfl rfl h209 dX8_orderly_209 ?_
          refine lv_topi (fun v209 e209 => ?_)
          have hw := hw v209 e209
          refine lv_aload_n hx hb dX8_orderly_210 rfl (lv_at hl 0 rfl) ?_
          refine va_get (D := D) (ci := 8) (v := .ref aM_stepPiece) (C := RX8) (T := TX8) (N := 38) hx hb hts in_X8_orderly_X8 hown hK hP 0 rfl rfl 18 (by decide) k_3 (fun _ h9 => h9) rfl dX8_orderly_211 ?_
          refine lv_iload_n hx hb dX8_orderly_214 rfl (lv_at hl 1 rfl) ?_
          have h215 := hw.1
          have hw := hw.2
          refine va_iald hx hb hK hP 7 0 rfl rfl h215 dX8_orderly_215 ?_
          refine lv_topi (fun v215 e215 => ?_)
          have hw := hw v215 e215
          refine cx_goi (va_runV (As := [.int v209, .int v215]) (rest := []) ⟨hx, hb, hml, hown, hts⟩ (c_X8_isAlone l D cI cJ cZ cO tS tT H.size aM aM_strength aM_kind aM_more aM_glues aM_sheet aM_since aM_imageStrength aM_imageKind aM_imageMore aM_imageGlues aM_imagePieces aM_imageWarmth aM_imageSheet aM_imageDraw aM_stepWhat aM_stepPiece aM_stepPlace aM_stepSince aM_tape aM_shapes aM_pile aM_met aM_next aM_inputs aM_then M_pieces M_warmth M_draw M_steps M_undoable M_brought M_taped M_shapeMany M_ended M_cut M_mostPieces M_walks M_walked M_strength M_kind M_more M_glues M_sheet M_inputs M_then v209 v215 _ hw) (cwV 2 hts gX8_orderly_X8_isAlone rfl rfl rfl pv_X8_isAlone ⟨Nat.le_of_ble_eq_true rfl, Nat.le_of_ble_eq_true rfl⟩) (cx_preV (wc := w_X8_isAlone cI cJ cZ cO aM aM_strength aM_kind aM_more aM_glues aM_sheet aM_since aM_imageStrength aM_imageKind aM_imageMore aM_imageGlues aM_imagePieces aM_imageWarmth aM_imageSheet aM_imageDraw aM_stepWhat aM_stepPiece aM_stepPlace aM_stepSince aM_tape aM_shapes aM_pile aM_met aM_next aM_inputs aM_then M_pieces M_warmth M_draw M_steps M_undoable M_brought M_taped M_shapeMany M_ended M_cut M_mostPieces M_walks M_walked M_strength M_kind M_more M_glues M_sheet M_inputs M_then) hE hK hP hD hS hA [0, 1, 2, 3, 4, 5, 9, 10] rfl rfl (va_recv hK hP (ci := 8) (q0 := 0) rfl rfl)) rfl rfl hl.1 rfl (lv_room (Nat.le_of_ble_eq_true rfl)) dX8_orderly_216 ⟨Nat.le_of_ble_eq_true rfl, Nat.le_of_ble_eq_true rfl⟩) (fun (u : (Nat → Int32)) => (w_X8_orderly cI cJ cZ cO aM aM_strength aM_kind aM_more aM_glues aM_sheet aM_since aM_imageStrength aM_imageKind aM_imageMore aM_imageGlues aM_imagePieces aM_imageWarmth aM_imageSheet aM_imageDraw aM_stepWhat aM_stepPiece aM_stepPlace aM_stepSince aM_tape aM_shapes aM_pile aM_met aM_next aM_inputs aM_then M_pieces M_warmth M_draw M_steps M_undoable M_brought M_taped M_shapeMany M_ended M_cut M_mostPieces M_walks M_walked M_strength M_kind M_more M_glues M_sheet M_stepWhat M_stepPiece M_stepPlace M_inputs u)) [0, 1, 2, 3, 4, 5, 9, 10] [6, 7, 8] (ads := [aM, aM_strength, aM_kind, aM_more, aM_glues, aM_sheet, aM_inputs, aM_then]) (wr := [(aM_stepWhat, .inl (cI, 200, .inl M_stepWhat)), (aM_stepPiece, .inl (cI, 200, .inl M_stepPiece)), (aM_stepPlace, .inl (cI, 200, .inl M_stepPlace))]) rfl rfl (fun u => rfl) (fun u => rfl) rfl (fun u => rfl) rfl (fun u => rfl) rfl hP hD hS hA (fun r216 M_then_216 H locs hw hP hD hS => ?_)
          try dsimp only at hw
          have hP : va_P D vwCl (w_X8_orderly cI cJ cZ cO aM aM_strength aM_kind aM_more aM_glues aM_sheet aM_since aM_imageStrength aM_imageKind aM_imageMore aM_imageGlues aM_imagePieces aM_imageWarmth aM_imageSheet aM_imageDraw aM_stepWhat aM_stepPiece aM_stepPlace aM_stepSince aM_tape aM_shapes aM_pile aM_met aM_next aM_inputs aM_then M_pieces M_warmth M_draw M_steps M_undoable M_brought M_taped M_shapeMany M_ended M_cut M_mostPieces M_walks M_walked M_strength M_kind M_more M_glues M_sheet M_stepWhat M_stepPiece M_stepPlace M_inputs M_then_216) H := hP
          have hD : va_D A (w_X8_orderly cI cJ cZ cO aM aM_strength aM_kind aM_more aM_glues aM_sheet aM_since aM_imageStrength aM_imageKind aM_imageMore aM_imageGlues aM_imagePieces aM_imageWarmth aM_imageSheet aM_imageDraw aM_stepWhat aM_stepPiece aM_stepPlace aM_stepSince aM_tape aM_shapes aM_pile aM_met aM_next aM_inputs aM_then M_pieces M_warmth M_draw M_steps M_undoable M_brought M_taped M_shapeMany M_ended M_cut M_mostPieces M_walks M_walked M_strength M_kind M_more M_glues M_sheet M_stepWhat M_stepPiece M_stepPlace M_inputs M_then_216) := hD
          refine lv_if_ne (tgt := 234) hx hb dX8_orderly_219 (by decide) (fun c219 => ?_) (fun c219 => ?_)
          · have hw := hw.1 c219
            obtain ⟨v234, e234⟩ : ∃ y : Int32, y = x1 + (1 : Int32) := ⟨_, rfl⟩
            have hw := hw v234 e234
            refine lv_iinc (v := v234) (lv' := [(1, .int v234), (0, .ref aM)]) hx hb dX8_orderly_234 hl (k := 1) rfl (by rw [e234, kI_1]) (by decide) rfl (fun ls hl => ?_)
            refine lv_goto (tgt := 185) hx hb dX8_orderly_237 (by decide) ?_
            exact ih_185 M_inputs M_then_216 v234 hw H locs hP hD hS ls (lv_sub hl [1, 0] rfl)
          · have hw := hw.2 c219
            refine lv_bipush (v := (-3 : Int32)) hx hb dX8_orderly_222 kB_m3 ?_
            refine lv_iconst (v := (4 : Int32)) hx hb dX8_orderly_224 kI_4 ?_
            refine lv_aload_n hx hb dX8_orderly_225 rfl (lv_at hl 0 rfl) ?_
            refine va_get (D := D) (ci := 8) (v := .ref aM_stepPlace) (C := RX8) (T := TX8) (N := 38) hx hb hts in_X8_orderly_X8 hown hK hP 0 rfl rfl 19 (by decide) k_2 (fun _ h9 => h9) rfl dX8_orderly_226 ?_
            refine lv_iload_n hx hb dX8_orderly_229 rfl (lv_at hl 1 rfl) ?_
            have h230 := hw.1
            have hw := hw.2
            refine va_iald hx hb hK hP 8 0 rfl rfl h230 dX8_orderly_230 ?_
            refine lv_topi (fun v230 e230 => ?_)
            have hw := hw v230 e230
            refine lv_imul hx hb dX8_orderly_231 ?_
            refine lv_isub hx hb dX8_orderly_232 ?_
            rw [hZ]
            exact cx_reti (M_inputs, M_then_216) hx hb hr hlocks hw hP hS dX8_orderly_233
  have b_33 : ∀ n_33 : Nat, ∀ (M_inputs : Nat → Int32) (M_then : Nat → Int32) (x1 : Int32), wq_X8_orderly_33 M_strength M_kind M_more M_glues M_pieces M_warmth M_sheet M_stepWhat M_stepPiece M_stepPlace M_steps M_undoable M_brought Q n_33 M_inputs M_then x1 → ∀ (H : Heap) (locs : List Loc), va_P D vwCl (w_X8_orderly cI cJ cZ cO aM aM_strength aM_kind aM_more aM_glues aM_sheet aM_since aM_imageStrength aM_imageKind aM_imageMore aM_imageGlues aM_imagePieces aM_imageWarmth aM_imageSheet aM_imageDraw aM_stepWhat aM_stepPiece aM_stepPlace aM_stepSince aM_tape aM_shapes aM_pile aM_met aM_next aM_inputs aM_then M_pieces M_warmth M_draw M_steps M_undoable M_brought M_taped M_shapeMany M_ended M_cut M_mostPieces M_walks M_walked M_strength M_kind M_more M_glues M_sheet M_stepWhat M_stepPiece M_stepPlace M_inputs M_then) H → va_D A (w_X8_orderly cI cJ cZ cO aM aM_strength aM_kind aM_more aM_glues aM_sheet aM_since aM_imageStrength aM_imageKind aM_imageMore aM_imageGlues aM_imagePieces aM_imageWarmth aM_imageSheet aM_imageDraw aM_stepWhat aM_stepPiece aM_stepPlace aM_stepSince aM_tape aM_shapes aM_pile aM_met aM_next aM_inputs aM_then M_pieces M_warmth M_draw M_steps M_undoable M_brought M_taped M_shapeMany M_ended M_cut M_mostPieces M_walks M_walked M_strength M_kind M_more M_glues M_sheet M_stepWhat M_stepPiece M_stepPlace M_inputs M_then) → va_S A s.heap H locs → ∀ ls : Array Slot, lv_has ls 5 [(0, .ref aM), (1, .int x1)] → W p l e rm_X8_orderly s m args below meth c H locs 0 0 Z (F0 m 33 ls []) := by
    intro n_33
    induction n_33 with
    | zero => intro M_inputs M_then x1 hw; exact False.elim hw
    | succ n_33 ih_33 =>
      have b_166 : ∀ (M_inputs : Nat → Int32) (M_then : Nat → Int32) (x1 : Int32) (x2 : Int32) (x3 : Int32), wq_X8_orderly_166 M_strength M_kind M_more M_glues M_pieces M_warmth M_sheet M_stepWhat M_stepPiece M_stepPlace M_steps M_undoable M_brought (wq_X8_orderly_33 M_strength M_kind M_more M_glues M_pieces M_warmth M_sheet M_stepWhat M_stepPiece M_stepPlace M_steps M_undoable M_brought Q n_33) Q M_inputs M_then x1 x2 x3 → ∀ (H : Heap) (locs : List Loc), va_P D vwCl (w_X8_orderly cI cJ cZ cO aM aM_strength aM_kind aM_more aM_glues aM_sheet aM_since aM_imageStrength aM_imageKind aM_imageMore aM_imageGlues aM_imagePieces aM_imageWarmth aM_imageSheet aM_imageDraw aM_stepWhat aM_stepPiece aM_stepPlace aM_stepSince aM_tape aM_shapes aM_pile aM_met aM_next aM_inputs aM_then M_pieces M_warmth M_draw M_steps M_undoable M_brought M_taped M_shapeMany M_ended M_cut M_mostPieces M_walks M_walked M_strength M_kind M_more M_glues M_sheet M_stepWhat M_stepPiece M_stepPlace M_inputs M_then) H → va_D A (w_X8_orderly cI cJ cZ cO aM aM_strength aM_kind aM_more aM_glues aM_sheet aM_since aM_imageStrength aM_imageKind aM_imageMore aM_imageGlues aM_imagePieces aM_imageWarmth aM_imageSheet aM_imageDraw aM_stepWhat aM_stepPiece aM_stepPlace aM_stepSince aM_tape aM_shapes aM_pile aM_met aM_next aM_inputs aM_then M_pieces M_warmth M_draw M_steps M_undoable M_brought M_taped M_shapeMany M_ended M_cut M_mostPieces M_walks M_walked M_strength M_kind M_more M_glues M_sheet M_stepWhat M_stepPiece M_stepPlace M_inputs M_then) → va_S A s.heap H locs → ∀ ls : Array Slot, lv_has ls 5 [(0, .ref aM), (1, .int x1), (2, .int x2), (3, .int x3)] → W p l e rm_X8_orderly s m args below meth c H locs 0 0 Z (F0 m 166 ls []) := by
        intro M_inputs M_then x1 x2 x3 hw H locs hP hD hS ls hl
        unfold wq_X8_orderly_166 at hw
        refine lv_aload_n hx hb dX8_orderly_166 rfl (lv_at hl 0 rfl) ?_
        refine lv_aload_n hx hb dX8_orderly_167 rfl (lv_at hl 0 rfl) ?_
        refine va_get (D := D) (ci := 8) (v := .ref aM_then) (C := RX8) (T := TX8) (N := 38) hx hb hts in_X8_orderly_X8 hown hK hP 0 rfl rfl 37 (by decide) k_4 (fun _ h9 => h9) rfl dX8_orderly_168 ?_
        refine lv_iconst (v := (0 : Int32)) hx hb dX8_orderly_171 kI_0 ?_
        refine lv_iload_n hx hb dX8_orderly_172 rfl (lv_at hl 3 rfl) ?_
        refine lv_iload_n hx hb dX8_orderly_173 rfl (lv_at hl 2 rfl) ?_
        refine cx_gov (va_runV (As := [.ref aM_then, .int (0 : Int32), .int x3, .int x2]) (rest := []) ⟨hx, hb, hml, hown, hts⟩ (c_X8_lay l D cI cJ cZ cO tS tT H.size aM_then aM aM_strength aM_kind aM_more aM_glues aM_sheet aM_since aM_imageStrength aM_imageKind aM_imageMore aM_imageGlues aM_imagePieces aM_imageWarmth aM_imageSheet aM_imageDraw aM_stepWhat aM_stepPiece aM_stepPlace aM_stepSince aM_tape aM_shapes aM_pile aM_met aM_next aM_inputs aM_then 256 M_then M_pieces M_warmth M_draw M_steps M_undoable M_brought M_taped M_shapeMany M_ended M_cut M_mostPieces M_walks M_walked M_kind (0 : Int32) x3 x2 _ hw) (cwV 4 hts gX8_orderly_X8_lay rfl rfl rfl pv_X8_lay ⟨Nat.le_of_ble_eq_true rfl, Nat.le_of_ble_eq_true rfl⟩) (cx_preV (wc := w_X8_lay cI cJ cZ cO aM_then aM aM_strength aM_kind aM_more aM_glues aM_sheet aM_since aM_imageStrength aM_imageKind aM_imageMore aM_imageGlues aM_imagePieces aM_imageWarmth aM_imageSheet aM_imageDraw aM_stepWhat aM_stepPiece aM_stepPlace aM_stepSince aM_tape aM_shapes aM_pile aM_met aM_next aM_inputs aM_then 256 M_then M_pieces M_warmth M_draw M_steps M_undoable M_brought M_taped M_shapeMany M_ended M_cut M_mostPieces M_walks M_walked M_kind) hE hK hP hD hS hA [10, 0, 2] rfl rfl (va_recv hK hP (ci := 8) (q0 := 0) rfl rfl)) rfl rfl hl.1 rfl (lv_room (Nat.le_of_ble_eq_true rfl)) dX8_orderly_174 ⟨Nat.le_of_ble_eq_true rfl, Nat.le_of_ble_eq_true rfl⟩) (fun (u : (Nat → Int32)) => (w_X8_orderly cI cJ cZ cO aM aM_strength aM_kind aM_more aM_glues aM_sheet aM_since aM_imageStrength aM_imageKind aM_imageMore aM_imageGlues aM_imagePieces aM_imageWarmth aM_imageSheet aM_imageDraw aM_stepWhat aM_stepPiece aM_stepPlace aM_stepSince aM_tape aM_shapes aM_pile aM_met aM_next aM_inputs aM_then M_pieces M_warmth M_draw M_steps M_undoable M_brought M_taped M_shapeMany M_ended M_cut M_mostPieces M_walks M_walked M_strength M_kind M_more M_glues M_sheet M_stepWhat M_stepPiece M_stepPlace M_inputs u)) [10, 0, 2] [1, 3, 4, 5, 6, 7, 8, 9] (ads := [aM_then, aM, aM_kind]) (wr := [(aM_strength, .inl (cI, 51, .inl M_strength)), (aM_more, .inl (cI, 40, .inl M_more)), (aM_glues, .inl (cI, 160, .inl M_glues)), (aM_sheet, .inl (cI, 256, .inl M_sheet)), (aM_stepWhat, .inl (cI, 200, .inl M_stepWhat)), (aM_stepPiece, .inl (cI, 200, .inl M_stepPiece)), (aM_stepPlace, .inl (cI, 200, .inl M_stepPlace)), (aM_inputs, .inl (cI, 256, .inl M_inputs))]) rfl rfl (fun u => rfl) (fun u => rfl) rfl (fun u => rfl) rfl (fun u => rfl) rfl hP hD hS hA (fun M_then_174 H locs hw hP hD hS => ?_)
        try dsimp only at hw
        have hP : va_P D vwCl (w_X8_orderly cI cJ cZ cO aM aM_strength aM_kind aM_more aM_glues aM_sheet aM_since aM_imageStrength aM_imageKind aM_imageMore aM_imageGlues aM_imagePieces aM_imageWarmth aM_imageSheet aM_imageDraw aM_stepWhat aM_stepPiece aM_stepPlace aM_stepSince aM_tape aM_shapes aM_pile aM_met aM_next aM_inputs aM_then M_pieces M_warmth M_draw M_steps M_undoable M_brought M_taped M_shapeMany M_ended M_cut M_mostPieces M_walks M_walked M_strength M_kind M_more M_glues M_sheet M_stepWhat M_stepPiece M_stepPlace M_inputs M_then_174) H := hP
        have hD : va_D A (w_X8_orderly cI cJ cZ cO aM aM_strength aM_kind aM_more aM_glues aM_sheet aM_since aM_imageStrength aM_imageKind aM_imageMore aM_imageGlues aM_imagePieces aM_imageWarmth aM_imageSheet aM_imageDraw aM_stepWhat aM_stepPiece aM_stepPlace aM_stepSince aM_tape aM_shapes aM_pile aM_met aM_next aM_inputs aM_then M_pieces M_warmth M_draw M_steps M_undoable M_brought M_taped M_shapeMany M_ended M_cut M_mostPieces M_walks M_walked M_strength M_kind M_more M_glues M_sheet M_stepWhat M_stepPiece M_stepPlace M_inputs M_then_174) := hD
        obtain ⟨v177, e177⟩ : ∃ y : Int32, y = x1 + (1 : Int32) := ⟨_, rfl⟩
        have hw := hw v177 e177
        refine lv_iinc (v := v177) (lv' := [(1, .int v177), (0, .ref aM), (2, .int x2), (3, .int x3)]) hx hb dX8_orderly_177 hl (k := 1) rfl (by rw [e177, kI_1]) (by decide) rfl (fun ls hl => ?_)
        refine lv_goto (tgt := 33) hx hb dX8_orderly_180 (by decide) ?_
        exact ih_33 M_inputs M_then_174 v177 hw H locs hP hD hS ls (lv_sub hl [1, 0] rfl)
      have b_124 : ∀ (M_inputs : Nat → Int32) (M_then : Nat → Int32) (x1 : Int32) (x2 : Int32) (x3 : Int32), wq_X8_orderly_124 M_strength M_kind M_more M_glues M_pieces M_warmth M_sheet M_stepWhat M_stepPiece M_stepPlace M_steps M_undoable M_brought (wq_X8_orderly_33 M_strength M_kind M_more M_glues M_pieces M_warmth M_sheet M_stepWhat M_stepPiece M_stepPlace M_steps M_undoable M_brought Q n_33) Q M_inputs M_then x1 x2 x3 → ∀ (H : Heap) (locs : List Loc), va_P D vwCl (w_X8_orderly cI cJ cZ cO aM aM_strength aM_kind aM_more aM_glues aM_sheet aM_since aM_imageStrength aM_imageKind aM_imageMore aM_imageGlues aM_imagePieces aM_imageWarmth aM_imageSheet aM_imageDraw aM_stepWhat aM_stepPiece aM_stepPlace aM_stepSince aM_tape aM_shapes aM_pile aM_met aM_next aM_inputs aM_then M_pieces M_warmth M_draw M_steps M_undoable M_brought M_taped M_shapeMany M_ended M_cut M_mostPieces M_walks M_walked M_strength M_kind M_more M_glues M_sheet M_stepWhat M_stepPiece M_stepPlace M_inputs M_then) H → va_D A (w_X8_orderly cI cJ cZ cO aM aM_strength aM_kind aM_more aM_glues aM_sheet aM_since aM_imageStrength aM_imageKind aM_imageMore aM_imageGlues aM_imagePieces aM_imageWarmth aM_imageSheet aM_imageDraw aM_stepWhat aM_stepPiece aM_stepPlace aM_stepSince aM_tape aM_shapes aM_pile aM_met aM_next aM_inputs aM_then M_pieces M_warmth M_draw M_steps M_undoable M_brought M_taped M_shapeMany M_ended M_cut M_mostPieces M_walks M_walked M_strength M_kind M_more M_glues M_sheet M_stepWhat M_stepPiece M_stepPlace M_inputs M_then) → va_S A s.heap H locs → ∀ ls : Array Slot, lv_has ls 5 [(0, .ref aM), (1, .int x1), (2, .int x2), (3, .int x3)] → W p l e rm_X8_orderly s m args below meth c H locs 0 0 Z (F0 m 124 ls []) := by
        intro M_inputs M_then x1 x2 x3 hw H locs hP hD hS ls hl
        unfold wq_X8_orderly_124 at hw
        refine lv_aload_n hx hb dX8_orderly_124 rfl (lv_at hl 0 rfl) ?_
        refine va_get (D := D) (ci := 8) (v := .ref aM_stepWhat) (C := RX8) (T := TX8) (N := 38) hx hb hts in_X8_orderly_X8 hown hK hP 0 rfl rfl 17 (by decide) k_1 (fun _ h9 => h9) rfl dX8_orderly_125 ?_
        refine lv_iload_n hx hb dX8_orderly_128 rfl (lv_at hl 1 rfl) ?_
        have h129 := hw.1
        have hw := hw.2
        refine va_iald hx hb hK hP 6 0 rfl rfl h129 dX8_orderly_129 ?_
        refine lv_topi (fun v129 e129 => ?_)
        have hw := hw v129 e129
        refine lv_iconst (v := (1 : Int32)) hx hb dX8_orderly_130 kI_1 ?_
        refine lv_icmp_ne (tgt := 166) hx hb dX8_orderly_131 (by decide) (fun c131 => ?_) (fun c131 => ?_)
        · have hw := hw.1 c131
          exact b_166 M_inputs M_then x1 x2 x3 hw H locs hP hD hS ls (lv_sub hl [0, 1, 2, 3] rfl)
        · have hw := hw.2 c131
          refine lv_aload_n hx hb dX8_orderly_134 rfl (lv_at hl 0 rfl) ?_
          refine lv_aload_n hx hb dX8_orderly_135 rfl (lv_at hl 0 rfl) ?_
          refine va_get (D := D) (ci := 8) (v := .ref aM_then) (C := RX8) (T := TX8) (N := 38) hx hb hts in_X8_orderly_X8 hown hK hP 0 rfl rfl 37 (by decide) k_4 (fun _ h9 => h9) rfl dX8_orderly_136 ?_
          refine lv_iconst (v := (0 : Int32)) hx hb dX8_orderly_139 kI_0 ?_
          refine lv_iload_n hx hb dX8_orderly_140 rfl (lv_at hl 3 rfl) ?_
          refine lv_iload_n hx hb dX8_orderly_141 rfl (lv_at hl 2 rfl) ?_
          refine lv_bipush (v := (16 : Int32)) hx hb dX8_orderly_142 kB_16 ?_
          refine lv_irem hx hb dX8_orderly_144 (by decide) ?_
          refine lv_iload_n hx hb dX8_orderly_145 rfl (lv_at hl 2 rfl) ?_
          refine lv_bipush (v := (16 : Int32)) hx hb dX8_orderly_146 kB_16 ?_
          refine lv_idiv hx hb dX8_orderly_148 (by decide) ?_
          refine cx_goi (va_runV (As := [.ref aM_then, .int (0 : Int32), .int x3, .int (x2 - x2 / (16 : Int32) * (16 : Int32)), .int (x2 / (16 : Int32))]) (rest := []) ⟨hx, hb, hml, hown, hts⟩ (c_X8_holdOf l D cI cJ cZ cO tS tT H.size aM_then aM aM_strength aM_kind aM_more aM_glues aM_sheet aM_since aM_imageStrength aM_imageKind aM_imageMore aM_imageGlues aM_imagePieces aM_imageWarmth aM_imageSheet aM_imageDraw aM_stepWhat aM_stepPiece aM_stepPlace aM_stepSince aM_tape aM_shapes aM_pile aM_met aM_next aM_inputs aM_then 256 M_then M_pieces M_warmth M_draw M_steps M_undoable M_brought M_taped M_shapeMany M_ended M_cut M_mostPieces M_walks M_walked M_strength M_kind M_more M_glues (0 : Int32) x3 (x2 - x2 / (16 : Int32) * (16 : Int32)) (x2 / (16 : Int32)) _ hw) (cwV 5 hts gX8_orderly_X8_holdOf rfl rfl rfl pv_X8_holdOf ⟨Nat.le_of_ble_eq_true rfl, Nat.le_of_ble_eq_true rfl⟩) (cx_preV (wc := w_X8_holdOf cI cJ cZ cO aM_then aM aM_strength aM_kind aM_more aM_glues aM_sheet aM_since aM_imageStrength aM_imageKind aM_imageMore aM_imageGlues aM_imagePieces aM_imageWarmth aM_imageSheet aM_imageDraw aM_stepWhat aM_stepPiece aM_stepPlace aM_stepSince aM_tape aM_shapes aM_pile aM_met aM_next aM_inputs aM_then 256 M_then M_pieces M_warmth M_draw M_steps M_undoable M_brought M_taped M_shapeMany M_ended M_cut M_mostPieces M_walks M_walked M_strength M_kind M_more M_glues) hE hK hP hD hS hA [10, 0, 1, 2, 3, 4] rfl rfl (va_recv hK hP (ci := 8) (q0 := 0) rfl rfl)) rfl rfl hl.1 rfl (lv_room (Nat.le_of_ble_eq_true rfl)) dX8_orderly_149 ⟨Nat.le_of_ble_eq_true rfl, Nat.le_of_ble_eq_true rfl⟩) (fun (_ : Unit) => (w_X8_orderly cI cJ cZ cO aM aM_strength aM_kind aM_more aM_glues aM_sheet aM_since aM_imageStrength aM_imageKind aM_imageMore aM_imageGlues aM_imagePieces aM_imageWarmth aM_imageSheet aM_imageDraw aM_stepWhat aM_stepPiece aM_stepPlace aM_stepSince aM_tape aM_shapes aM_pile aM_met aM_next aM_inputs aM_then M_pieces M_warmth M_draw M_steps M_undoable M_brought M_taped M_shapeMany M_ended M_cut M_mostPieces M_walks M_walked M_strength M_kind M_more M_glues M_sheet M_stepWhat M_stepPiece M_stepPlace M_inputs M_then)) [10, 0, 1, 2, 3, 4] [5, 6, 7, 8, 9] (ads := [aM_then, aM, aM_strength, aM_kind, aM_more, aM_glues]) (wr := [(aM_sheet, .inl (cI, 256, .inl M_sheet)), (aM_stepWhat, .inl (cI, 200, .inl M_stepWhat)), (aM_stepPiece, .inl (cI, 200, .inl M_stepPiece)), (aM_stepPlace, .inl (cI, 200, .inl M_stepPlace)), (aM_inputs, .inl (cI, 256, .inl M_inputs))]) rfl rfl (fun u => rfl) (fun u => rfl) rfl (fun u => rfl) rfl (fun u => rfl) rfl hP hD hS hA (fun r149 u H locs hw hP hD hS => ?_)
          have hP : va_P D vwCl (w_X8_orderly cI cJ cZ cO aM aM_strength aM_kind aM_more aM_glues aM_sheet aM_since aM_imageStrength aM_imageKind aM_imageMore aM_imageGlues aM_imagePieces aM_imageWarmth aM_imageSheet aM_imageDraw aM_stepWhat aM_stepPiece aM_stepPlace aM_stepSince aM_tape aM_shapes aM_pile aM_met aM_next aM_inputs aM_then M_pieces M_warmth M_draw M_steps M_undoable M_brought M_taped M_shapeMany M_ended M_cut M_mostPieces M_walks M_walked M_strength M_kind M_more M_glues M_sheet M_stepWhat M_stepPiece M_stepPlace M_inputs M_then) H := hP
          have hD : va_D A (w_X8_orderly cI cJ cZ cO aM aM_strength aM_kind aM_more aM_glues aM_sheet aM_since aM_imageStrength aM_imageKind aM_imageMore aM_imageGlues aM_imagePieces aM_imageWarmth aM_imageSheet aM_imageDraw aM_stepWhat aM_stepPiece aM_stepPlace aM_stepSince aM_tape aM_shapes aM_pile aM_met aM_next aM_inputs aM_then M_pieces M_warmth M_draw M_steps M_undoable M_brought M_taped M_shapeMany M_ended M_cut M_mostPieces M_walks M_walked M_strength M_kind M_more M_glues M_sheet M_stepWhat M_stepPiece M_stepPlace M_inputs M_then) := hD
          refine lv_aload_n hx hb dX8_orderly_152 rfl (lv_at hl 0 rfl) ?_
          refine va_get (D := D) (ci := 8) (v := .int M_warmth) (C := RX8) (T := TX8) (N := 38) hx hb hts in_X8_orderly_X8 hown hK hP 0 rfl rfl 5 (by decide) k_5 (fun _ h9 => h9) rfl dX8_orderly_153 ?_
          refine lv_icmp_eq (tgt := 166) hx hb dX8_orderly_156 (by decide) (fun c156 => ?_) (fun c156 => ?_)
          · have hw := hw.1 c156
            exact b_166 M_inputs M_then x1 x2 x3 hw H locs hP hD hS ls (lv_sub hl [0, 1, 2, 3] rfl)
          · have hw := hw.2 c156
            refine lv_bipush (v := (-2 : Int32)) hx hb dX8_orderly_159 kB_m2 ?_
            refine lv_iconst (v := (4 : Int32)) hx hb dX8_orderly_161 kI_4 ?_
            refine lv_iload_n hx hb dX8_orderly_162 rfl (lv_at hl 2 rfl) ?_
            refine lv_imul hx hb dX8_orderly_163 ?_
            refine lv_isub hx hb dX8_orderly_164 ?_
            rw [hZ]
            exact cx_reti (M_inputs, M_then) hx hb hr hlocks hw hP hS dX8_orderly_165
      have b_65 : ∀ n_65 : Nat, ∀ (M_inputs : Nat → Int32) (M_then : Nat → Int32) (x1 : Int32) (x2 : Int32) (x3 : Int32) (x4 : Int32), wq_X8_orderly_65 M_strength M_kind M_more M_glues M_pieces M_warmth M_sheet M_stepWhat M_stepPiece M_stepPlace M_steps M_undoable M_brought (wq_X8_orderly_33 M_strength M_kind M_more M_glues M_pieces M_warmth M_sheet M_stepWhat M_stepPiece M_stepPlace M_steps M_undoable M_brought Q n_33) Q n_65 M_inputs M_then x1 x2 x3 x4 → ∀ (H : Heap) (locs : List Loc), va_P D vwCl (w_X8_orderly cI cJ cZ cO aM aM_strength aM_kind aM_more aM_glues aM_sheet aM_since aM_imageStrength aM_imageKind aM_imageMore aM_imageGlues aM_imagePieces aM_imageWarmth aM_imageSheet aM_imageDraw aM_stepWhat aM_stepPiece aM_stepPlace aM_stepSince aM_tape aM_shapes aM_pile aM_met aM_next aM_inputs aM_then M_pieces M_warmth M_draw M_steps M_undoable M_brought M_taped M_shapeMany M_ended M_cut M_mostPieces M_walks M_walked M_strength M_kind M_more M_glues M_sheet M_stepWhat M_stepPiece M_stepPlace M_inputs M_then) H → va_D A (w_X8_orderly cI cJ cZ cO aM aM_strength aM_kind aM_more aM_glues aM_sheet aM_since aM_imageStrength aM_imageKind aM_imageMore aM_imageGlues aM_imagePieces aM_imageWarmth aM_imageSheet aM_imageDraw aM_stepWhat aM_stepPiece aM_stepPlace aM_stepSince aM_tape aM_shapes aM_pile aM_met aM_next aM_inputs aM_then M_pieces M_warmth M_draw M_steps M_undoable M_brought M_taped M_shapeMany M_ended M_cut M_mostPieces M_walks M_walked M_strength M_kind M_more M_glues M_sheet M_stepWhat M_stepPiece M_stepPlace M_inputs M_then) → va_S A s.heap H locs → ∀ ls : Array Slot, lv_has ls 5 [(0, .ref aM), (1, .int x1), (2, .int x2), (3, .int x3), (4, .int x4)] → W p l e rm_X8_orderly s m args below meth c H locs 0 0 Z (F0 m 65 ls []) := by
        intro n_65
        induction n_65 with
        | zero => intro M_inputs M_then x1 x2 x3 x4 hw; exact False.elim hw
        | succ n_65 ih_65 =>
          intro M_inputs M_then x1 x2 x3 x4 hw H locs hP hD hS ls hl
          have hw : wf_X8_orderly_65 M_strength M_kind M_more M_glues M_pieces M_warmth M_sheet M_stepWhat M_stepPiece M_stepPlace M_steps M_undoable M_brought (wq_X8_orderly_33 M_strength M_kind M_more M_glues M_pieces M_warmth M_sheet M_stepWhat M_stepPiece M_stepPlace M_steps M_undoable M_brought Q n_33) Q (wq_X8_orderly_65 M_strength M_kind M_more M_glues M_pieces M_warmth M_sheet M_stepWhat M_stepPiece M_stepPlace M_steps M_undoable M_brought (wq_X8_orderly_33 M_strength M_kind M_more M_glues M_pieces M_warmth M_sheet M_stepWhat M_stepPiece M_stepPlace M_steps M_undoable M_brought Q n_33) Q n_65) M_inputs M_then x1 x2 x3 x4 := hw
          unfold wf_X8_orderly_65 at hw
          refine lv_iload hx hb dX8_orderly_65 (lv_at hl 4 rfl) ?_
          refine lv_iconst (v := (4 : Int32)) hx hb dX8_orderly_67 kI_4 ?_
          refine lv_icmp_ge (tgt := 124) hx hb dX8_orderly_68 (by decide) (fun c68 => ?_) (fun c68 => ?_)
          · have hw := hw.1 c68
            exact b_124 M_inputs M_then x1 x2 x3 hw H locs hP hD hS ls (lv_sub hl [0, 1, 2, 3] rfl)
          · have hw := hw.2 c68
            refine lv_aload_n hx hb dX8_orderly_71 rfl (lv_at hl 0 rfl) ?_
            refine va_get (D := D) (ci := 8) (v := .ref aM_stepWhat) (C := RX8) (T := TX8) (N := 38) hx hb hts in_X8_orderly_X8 hown hK hP 0 rfl rfl 17 (by decide) k_1 (fun _ h9 => h9) rfl dX8_orderly_72 ?_
            refine lv_iload_n hx hb dX8_orderly_75 rfl (lv_at hl 1 rfl) ?_
            have h76 := hw.1
            have hw := hw.2
            refine va_iald hx hb hK hP 6 0 rfl rfl h76 dX8_orderly_76 ?_
            refine lv_topi (fun v76 e76 => ?_)
            have hw := hw v76 e76
            refine lv_iconst (v := (1 : Int32)) hx hb dX8_orderly_77 kI_1 ?_
            refine lv_icmp_ne (tgt := 124) hx hb dX8_orderly_78 (by decide) (fun c78 => ?_) (fun c78 => ?_)
            · have hw := hw.1 c78
              exact b_124 M_inputs M_then x1 x2 x3 hw H locs hP hD hS ls (lv_sub hl [0, 1, 2, 3] rfl)
            · have hw := hw.2 c78
              refine lv_aload_n hx hb dX8_orderly_81 rfl (lv_at hl 0 rfl) ?_
              refine lv_aload_n hx hb dX8_orderly_82 rfl (lv_at hl 0 rfl) ?_
              refine va_get (D := D) (ci := 8) (v := .ref aM_then) (C := RX8) (T := TX8) (N := 38) hx hb hts in_X8_orderly_X8 hown hK hP 0 rfl rfl 37 (by decide) k_4 (fun _ h9 => h9) rfl dX8_orderly_83 ?_
              refine lv_iconst (v := (0 : Int32)) hx hb dX8_orderly_86 kI_0 ?_
              refine lv_iload_n hx hb dX8_orderly_87 rfl (lv_at hl 3 rfl) ?_
              refine lv_iconst (v := (0 : Int32)) hx hb dX8_orderly_88 kI_0 ?_
              refine lv_iload_n hx hb dX8_orderly_89 rfl (lv_at hl 2 rfl) ?_
              refine lv_bipush (v := (16 : Int32)) hx hb dX8_orderly_90 kB_16 ?_
              refine lv_irem hx hb dX8_orderly_92 (by decide) ?_
              refine lv_iload_n hx hb dX8_orderly_93 rfl (lv_at hl 2 rfl) ?_
              refine lv_bipush (v := (16 : Int32)) hx hb dX8_orderly_94 kB_16 ?_
              refine lv_idiv hx hb dX8_orderly_96 (by decide) ?_
              refine lv_iload hx hb dX8_orderly_97 (lv_at hl 4 rfl) ?_
              refine cx_goi (va_runV (As := [.ref aM_then, .int (0 : Int32), .int x3, .int (0 : Int32), .int (x2 - x2 / (16 : Int32) * (16 : Int32)), .int (x2 / (16 : Int32)), .int x4]) (rest := []) ⟨hx, hb, hml, hown, hts⟩ (c_X8_holdAt l D cI cJ cZ cO tS tT H.size aM_then aM aM_strength aM_kind aM_more aM_glues aM_sheet aM_since aM_imageStrength aM_imageKind aM_imageMore aM_imageGlues aM_imagePieces aM_imageWarmth aM_imageSheet aM_imageDraw aM_stepWhat aM_stepPiece aM_stepPlace aM_stepSince aM_tape aM_shapes aM_pile aM_met aM_next aM_inputs aM_then 256 M_then M_pieces M_warmth M_draw M_steps M_undoable M_brought M_taped M_shapeMany M_ended M_cut M_mostPieces M_walks M_walked M_strength M_kind M_more M_glues (0 : Int32) x3 (0 : Int32) (x2 - x2 / (16 : Int32) * (16 : Int32)) (x2 / (16 : Int32)) x4 _ hw) (cwV 7 hts gX8_orderly_X8_holdAt rfl rfl rfl pv_X8_holdAt ⟨Nat.le_of_ble_eq_true rfl, Nat.le_of_ble_eq_true rfl⟩) (cx_preV (wc := w_X8_holdAt cI cJ cZ cO aM_then aM aM_strength aM_kind aM_more aM_glues aM_sheet aM_since aM_imageStrength aM_imageKind aM_imageMore aM_imageGlues aM_imagePieces aM_imageWarmth aM_imageSheet aM_imageDraw aM_stepWhat aM_stepPiece aM_stepPlace aM_stepSince aM_tape aM_shapes aM_pile aM_met aM_next aM_inputs aM_then 256 M_then M_pieces M_warmth M_draw M_steps M_undoable M_brought M_taped M_shapeMany M_ended M_cut M_mostPieces M_walks M_walked M_strength M_kind M_more M_glues) hE hK hP hD hS hA [10, 0, 1, 2, 3, 4] rfl rfl (va_recv hK hP (ci := 8) (q0 := 0) rfl rfl)) rfl rfl hl.1 rfl (lv_room (Nat.le_of_ble_eq_true rfl)) dX8_orderly_99 ⟨Nat.le_of_ble_eq_true rfl, Nat.le_of_ble_eq_true rfl⟩) (fun (_ : Unit) => (w_X8_orderly cI cJ cZ cO aM aM_strength aM_kind aM_more aM_glues aM_sheet aM_since aM_imageStrength aM_imageKind aM_imageMore aM_imageGlues aM_imagePieces aM_imageWarmth aM_imageSheet aM_imageDraw aM_stepWhat aM_stepPiece aM_stepPlace aM_stepSince aM_tape aM_shapes aM_pile aM_met aM_next aM_inputs aM_then M_pieces M_warmth M_draw M_steps M_undoable M_brought M_taped M_shapeMany M_ended M_cut M_mostPieces M_walks M_walked M_strength M_kind M_more M_glues M_sheet M_stepWhat M_stepPiece M_stepPlace M_inputs M_then)) [10, 0, 1, 2, 3, 4] [5, 6, 7, 8, 9] (ads := [aM_then, aM, aM_strength, aM_kind, aM_more, aM_glues]) (wr := [(aM_sheet, .inl (cI, 256, .inl M_sheet)), (aM_stepWhat, .inl (cI, 200, .inl M_stepWhat)), (aM_stepPiece, .inl (cI, 200, .inl M_stepPiece)), (aM_stepPlace, .inl (cI, 200, .inl M_stepPlace)), (aM_inputs, .inl (cI, 256, .inl M_inputs))]) rfl rfl (fun u => rfl) (fun u => rfl) rfl (fun u => rfl) rfl (fun u => rfl) rfl hP hD hS hA (fun r99 u H locs hw hP hD hS => ?_)
              have hP : va_P D vwCl (w_X8_orderly cI cJ cZ cO aM aM_strength aM_kind aM_more aM_glues aM_sheet aM_since aM_imageStrength aM_imageKind aM_imageMore aM_imageGlues aM_imagePieces aM_imageWarmth aM_imageSheet aM_imageDraw aM_stepWhat aM_stepPiece aM_stepPlace aM_stepSince aM_tape aM_shapes aM_pile aM_met aM_next aM_inputs aM_then M_pieces M_warmth M_draw M_steps M_undoable M_brought M_taped M_shapeMany M_ended M_cut M_mostPieces M_walks M_walked M_strength M_kind M_more M_glues M_sheet M_stepWhat M_stepPiece M_stepPlace M_inputs M_then) H := hP
              have hD : va_D A (w_X8_orderly cI cJ cZ cO aM aM_strength aM_kind aM_more aM_glues aM_sheet aM_since aM_imageStrength aM_imageKind aM_imageMore aM_imageGlues aM_imagePieces aM_imageWarmth aM_imageSheet aM_imageDraw aM_stepWhat aM_stepPiece aM_stepPlace aM_stepSince aM_tape aM_shapes aM_pile aM_met aM_next aM_inputs aM_then M_pieces M_warmth M_draw M_steps M_undoable M_brought M_taped M_shapeMany M_ended M_cut M_mostPieces M_walks M_walked M_strength M_kind M_more M_glues M_sheet M_stepWhat M_stepPiece M_stepPlace M_inputs M_then) := hD
              refine lv_if_le (tgt := 118) hx hb dX8_orderly_102 (by decide) (fun c102 => ?_) (fun c102 => ?_)
              · have hw := hw.1 c102
                obtain ⟨v118, e118⟩ : ∃ y : Int32, y = x4 + (1 : Int32) := ⟨_, rfl⟩
                have hw := hw v118 e118
                refine lv_iinc (v := v118) (lv' := [(4, .int v118), (0, .ref aM), (1, .int x1), (2, .int x2), (3, .int x3)]) hx hb dX8_orderly_118 hl (k := 4) rfl (by rw [e118, kI_1]) (by decide) rfl (fun ls hl => ?_)
                refine lv_goto (tgt := 65) hx hb dX8_orderly_121 (by decide) ?_
                exact ih_65 M_inputs M_then x1 x2 x3 v118 hw H locs hP hD hS ls (lv_sub hl [1, 2, 3, 4, 0] rfl)
              · have hw := hw.2 c102
                refine lv_aload_n hx hb dX8_orderly_105 rfl (lv_at hl 0 rfl) ?_
                refine va_get (D := D) (ci := 8) (v := .ref aM_inputs) (C := RX8) (T := TX8) (N := 38) hx hb hts in_X8_orderly_X8 hown hK hP 0 rfl rfl 36 (by decide) k_6 (fun _ h9 => h9) rfl dX8_orderly_106 ?_
                refine lv_iload_n hx hb dX8_orderly_109 rfl (lv_at hl 2 rfl) ?_
                refine lv_dup2_11 hx hb dX8_orderly_110 rfl rfl ?_
                have h111 := hw.1
                have hw := hw.2
                refine va_iald hx hb hK hP 9 0 rfl rfl h111 dX8_orderly_111 ?_
                refine lv_topi (fun v111 e111 => ?_)
                have hw := hw v111 e111
                refine lv_iconst (v := (1 : Int32)) hx hb dX8_orderly_112 kI_1 ?_
                refine lv_iload hx hb dX8_orderly_113 (lv_at hl 4 rfl) ?_
                refine lv_ishl hx hb dX8_orderly_115 ?_
                refine lv_ior hx hb dX8_orderly_116 ?_
                have h117 := hw.1
                have hw := hw.2
                refine va_iast hx hb hK hP hD hS 9 0 rfl rfl h117 dX8_orderly_117 (fun H locs hP hD hS => ?_)
                have hP : va_P D vwCl (w_X8_orderly cI cJ cZ cO aM aM_strength aM_kind aM_more aM_glues aM_sheet aM_since aM_imageStrength aM_imageKind aM_imageMore aM_imageGlues aM_imagePieces aM_imageWarmth aM_imageSheet aM_imageDraw aM_stepWhat aM_stepPiece aM_stepPlace aM_stepSince aM_tape aM_shapes aM_pile aM_met aM_next aM_inputs aM_then M_pieces M_warmth M_draw M_steps M_undoable M_brought M_taped M_shapeMany M_ended M_cut M_mostPieces M_walks M_walked M_strength M_kind M_more M_glues M_sheet M_stepWhat M_stepPiece M_stepPlace (upd M_inputs x2.toNatClampNeg (v111 ||| ((1 : Int32) <<< (x4 &&& 31)))) M_then) H := hP
                have hD : va_D A (w_X8_orderly cI cJ cZ cO aM aM_strength aM_kind aM_more aM_glues aM_sheet aM_since aM_imageStrength aM_imageKind aM_imageMore aM_imageGlues aM_imagePieces aM_imageWarmth aM_imageSheet aM_imageDraw aM_stepWhat aM_stepPiece aM_stepPlace aM_stepSince aM_tape aM_shapes aM_pile aM_met aM_next aM_inputs aM_then M_pieces M_warmth M_draw M_steps M_undoable M_brought M_taped M_shapeMany M_ended M_cut M_mostPieces M_walks M_walked M_strength M_kind M_more M_glues M_sheet M_stepWhat M_stepPiece M_stepPlace (upd M_inputs x2.toNatClampNeg (v111 ||| ((1 : Int32) <<< (x4 &&& 31)))) M_then) := hD
                obtain ⟨M_inputs_117, e117⟩ : ∃ y : Nat → Int32, y = upd M_inputs x2.toNatClampNeg (v111 ||| ((1 : Int32) <<< (x4 &&& 31))) := ⟨_, rfl⟩
                rw [← e117] at hP hD
                have hw := hw M_inputs_117 e117
                obtain ⟨v118, e118⟩ : ∃ y : Int32, y = x4 + (1 : Int32) := ⟨_, rfl⟩
                have hw := hw v118 e118
                refine lv_iinc (v := v118) (lv' := [(4, .int v118), (0, .ref aM), (1, .int x1), (2, .int x2), (3, .int x3)]) hx hb dX8_orderly_118 hl (k := 4) rfl (by rw [e118, kI_1]) (by decide) rfl (fun ls hl => ?_)
                refine lv_goto (tgt := 65) hx hb dX8_orderly_121 (by decide) ?_
                exact ih_65 M_inputs_117 M_then x1 x2 x3 v118 hw H locs hP hD hS ls (lv_sub hl [1, 2, 3, 4, 0] rfl)
      intro M_inputs M_then x1 hw H locs hP hD hS ls hl
      have hw : wf_X8_orderly_33 M_strength M_kind M_more M_glues M_pieces M_warmth M_sheet M_stepWhat M_stepPiece M_stepPlace M_steps M_undoable M_brought Q (wq_X8_orderly_33 M_strength M_kind M_more M_glues M_pieces M_warmth M_sheet M_stepWhat M_stepPiece M_stepPlace M_steps M_undoable M_brought Q n_33) M_inputs M_then x1 := hw
      unfold wf_X8_orderly_33 at hw
      refine lv_iload_n hx hb dX8_orderly_33 rfl (lv_at hl 1 rfl) ?_
      refine lv_aload_n hx hb dX8_orderly_34 rfl (lv_at hl 0 rfl) ?_
      refine va_get (D := D) (ci := 8) (v := .int M_undoable) (C := RX8) (T := TX8) (N := 38) hx hb hts in_X8_orderly_X8 hown hK hP 0 rfl rfl 22 (by decide) k_0 (fun _ h9 => h9) rfl dX8_orderly_35 ?_
      refine lv_icmp_ge (tgt := 183) hx hb dX8_orderly_38 (by decide) (fun c38 => ?_) (fun c38 => ?_)
      · have hw := hw.1 c38
        refine lv_iconst (v := (0 : Int32)) hx hb dX8_orderly_183 kI_0 ?_
        refine lv_istore_n (lv' := [(1, .int (0 : Int32)), (0, .ref aM)]) hx hb dX8_orderly_184 rfl hl (by decide) rfl (fun ls hl => ?_)
        obtain ⟨k, hw⟩ := hw
        exact b_185 k M_inputs M_then (0 : Int32) hw H locs hP hD hS ls (lv_sub hl [1, 0] rfl)
      · have hw := hw.2 c38
        refine lv_aload_n hx hb dX8_orderly_41 rfl (lv_at hl 0 rfl) ?_
        refine va_get (D := D) (ci := 8) (v := .ref aM_stepPlace) (C := RX8) (T := TX8) (N := 38) hx hb hts in_X8_orderly_X8 hown hK hP 0 rfl rfl 19 (by decide) k_2 (fun _ h9 => h9) rfl dX8_orderly_42 ?_
        refine lv_iload_n hx hb dX8_orderly_45 rfl (lv_at hl 1 rfl) ?_
        have h46 := hw.1
        have hw := hw.2
        refine va_iald hx hb hK hP 8 0 rfl rfl h46 dX8_orderly_46 ?_
        refine lv_topi (fun v46 e46 => ?_)
        have hw := hw v46 e46
        refine lv_istore_n (lv' := [(2, .int v46), (0, .ref aM), (1, .int x1)]) hx hb dX8_orderly_47 rfl hl (by decide) rfl (fun ls hl => ?_)
        refine lv_aload_n hx hb dX8_orderly_48 rfl (lv_at hl 1 rfl) ?_
        refine va_get (D := D) (ci := 8) (v := .ref aM_stepPiece) (C := RX8) (T := TX8) (N := 38) hx hb hts in_X8_orderly_X8 hown hK hP 0 rfl rfl 18 (by decide) k_3 (fun _ h9 => h9) rfl dX8_orderly_49 ?_
        refine lv_iload_n hx hb dX8_orderly_52 rfl (lv_at hl 2 rfl) ?_
        have h53 := hw.1
        have hw := hw.2
        refine va_iald hx hb hK hP 7 0 rfl rfl h53 dX8_orderly_53 ?_
        refine lv_topi (fun v53 e53 => ?_)
        have hw := hw v53 e53
        refine lv_istore_n (lv' := [(3, .int v53), (2, .int v46), (0, .ref aM), (1, .int x1)]) hx hb dX8_orderly_54 rfl hl (by decide) rfl (fun ls hl => ?_)
        refine lv_aload_n hx hb dX8_orderly_55 rfl (lv_at hl 2 rfl) ?_
        refine va_get (D := D) (ci := 8) (v := .ref aM_inputs) (C := RX8) (T := TX8) (N := 38) hx hb hts in_X8_orderly_X8 hown hK hP 0 rfl rfl 36 (by decide) k_6 (fun _ h9 => h9) rfl dX8_orderly_56 ?_
        refine lv_iload_n hx hb dX8_orderly_59 rfl (lv_at hl 1 rfl) ?_
        refine lv_iconst (v := (0 : Int32)) hx hb dX8_orderly_60 kI_0 ?_
        have h61 := hw.1
        have hw := hw.2
        refine va_iast hx hb hK hP hD hS 9 0 rfl rfl h61 dX8_orderly_61 (fun H locs hP hD hS => ?_)
        have hP : va_P D vwCl (w_X8_orderly cI cJ cZ cO aM aM_strength aM_kind aM_more aM_glues aM_sheet aM_since aM_imageStrength aM_imageKind aM_imageMore aM_imageGlues aM_imagePieces aM_imageWarmth aM_imageSheet aM_imageDraw aM_stepWhat aM_stepPiece aM_stepPlace aM_stepSince aM_tape aM_shapes aM_pile aM_met aM_next aM_inputs aM_then M_pieces M_warmth M_draw M_steps M_undoable M_brought M_taped M_shapeMany M_ended M_cut M_mostPieces M_walks M_walked M_strength M_kind M_more M_glues M_sheet M_stepWhat M_stepPiece M_stepPlace (upd M_inputs v46.toNatClampNeg (0 : Int32)) M_then) H := hP
        have hD : va_D A (w_X8_orderly cI cJ cZ cO aM aM_strength aM_kind aM_more aM_glues aM_sheet aM_since aM_imageStrength aM_imageKind aM_imageMore aM_imageGlues aM_imagePieces aM_imageWarmth aM_imageSheet aM_imageDraw aM_stepWhat aM_stepPiece aM_stepPlace aM_stepSince aM_tape aM_shapes aM_pile aM_met aM_next aM_inputs aM_then M_pieces M_warmth M_draw M_steps M_undoable M_brought M_taped M_shapeMany M_ended M_cut M_mostPieces M_walks M_walked M_strength M_kind M_more M_glues M_sheet M_stepWhat M_stepPiece M_stepPlace (upd M_inputs v46.toNatClampNeg (0 : Int32)) M_then) := hD
        obtain ⟨M_inputs_61, e61⟩ : ∃ y : Nat → Int32, y = upd M_inputs v46.toNatClampNeg (0 : Int32) := ⟨_, rfl⟩
        rw [← e61] at hP hD
        have hw := hw M_inputs_61 e61
        refine lv_iconst (v := (0 : Int32)) hx hb dX8_orderly_62 kI_0 ?_
        refine lv_istore (lv' := [(4, .int (0 : Int32)), (3, .int v53), (2, .int v46), (0, .ref aM), (1, .int x1)]) hx hb dX8_orderly_63 hl (by decide) rfl (fun ls hl => ?_)
        obtain ⟨k, hw⟩ := hw
        exact b_65 k M_inputs_61 M_then x1 v46 v53 (0 : Int32) hw H locs hP hD hS ls (lv_sub hl [3, 4, 2, 1, 0] rfl)
  have b_11 : ∀ n_11 : Nat, ∀ (M_inputs : Nat → Int32) (M_then : Nat → Int32) (x1 : Int32), wq_X8_orderly_11 M_strength M_kind M_more M_glues M_pieces M_warmth M_sheet M_stepWhat M_stepPiece M_stepPlace M_steps M_undoable M_brought Q n_11 M_inputs M_then x1 → ∀ (H : Heap) (locs : List Loc), va_P D vwCl (w_X8_orderly cI cJ cZ cO aM aM_strength aM_kind aM_more aM_glues aM_sheet aM_since aM_imageStrength aM_imageKind aM_imageMore aM_imageGlues aM_imagePieces aM_imageWarmth aM_imageSheet aM_imageDraw aM_stepWhat aM_stepPiece aM_stepPlace aM_stepSince aM_tape aM_shapes aM_pile aM_met aM_next aM_inputs aM_then M_pieces M_warmth M_draw M_steps M_undoable M_brought M_taped M_shapeMany M_ended M_cut M_mostPieces M_walks M_walked M_strength M_kind M_more M_glues M_sheet M_stepWhat M_stepPiece M_stepPlace M_inputs M_then) H → va_D A (w_X8_orderly cI cJ cZ cO aM aM_strength aM_kind aM_more aM_glues aM_sheet aM_since aM_imageStrength aM_imageKind aM_imageMore aM_imageGlues aM_imagePieces aM_imageWarmth aM_imageSheet aM_imageDraw aM_stepWhat aM_stepPiece aM_stepPlace aM_stepSince aM_tape aM_shapes aM_pile aM_met aM_next aM_inputs aM_then M_pieces M_warmth M_draw M_steps M_undoable M_brought M_taped M_shapeMany M_ended M_cut M_mostPieces M_walks M_walked M_strength M_kind M_more M_glues M_sheet M_stepWhat M_stepPiece M_stepPlace M_inputs M_then) → va_S A s.heap H locs → ∀ ls : Array Slot, lv_has ls 5 [(0, .ref aM), (1, .int x1)] → W p l e rm_X8_orderly s m args below meth c H locs 0 0 Z (F0 m 11 ls []) := by
    intro n_11
    induction n_11 with
    | zero => intro M_inputs M_then x1 hw; exact False.elim hw
    | succ n_11 ih_11 =>
      intro M_inputs M_then x1 hw H locs hP hD hS ls hl
      have hw : wf_X8_orderly_11 M_strength M_kind M_more M_glues M_pieces M_warmth M_sheet M_stepWhat M_stepPiece M_stepPlace M_steps M_undoable M_brought Q (wq_X8_orderly_11 M_strength M_kind M_more M_glues M_pieces M_warmth M_sheet M_stepWhat M_stepPiece M_stepPlace M_steps M_undoable M_brought Q n_11) M_inputs M_then x1 := hw
      unfold wf_X8_orderly_11 at hw
      refine lv_iload_n hx hb dX8_orderly_11 rfl (lv_at hl 1 rfl) ?_
      refine lv_sipush (v := (256 : Int32)) hx hb dX8_orderly_12 kS_256 ?_
      refine lv_icmp_ge (tgt := 31) hx hb dX8_orderly_15 (by decide) (fun c15 => ?_) (fun c15 => ?_)
      · have hw := hw.1 c15
        refine lv_iconst (v := (0 : Int32)) hx hb dX8_orderly_31 kI_0 ?_
        refine lv_istore_n (lv' := [(1, .int (0 : Int32)), (0, .ref aM)]) hx hb dX8_orderly_32 rfl hl (by decide) rfl (fun ls hl => ?_)
        obtain ⟨k, hw⟩ := hw
        exact b_33 k M_inputs M_then (0 : Int32) hw H locs hP hD hS ls (lv_sub hl [1, 0] rfl)
      · have hw := hw.2 c15
        refine lv_aload_n hx hb dX8_orderly_18 rfl (lv_at hl 0 rfl) ?_
        refine va_get (D := D) (ci := 8) (v := .ref aM_then) (C := RX8) (T := TX8) (N := 38) hx hb hts in_X8_orderly_X8 hown hK hP 0 rfl rfl 37 (by decide) k_4 (fun _ h9 => h9) rfl dX8_orderly_19 ?_
        refine lv_iload_n hx hb dX8_orderly_22 rfl (lv_at hl 1 rfl) ?_
        refine lv_iconst (v := (0 : Int32)) hx hb dX8_orderly_23 kI_0 ?_
        have h24 := hw.1
        have hw := hw.2
        refine va_iast hx hb hK hP hD hS 10 0 rfl rfl h24 dX8_orderly_24 (fun H locs hP hD hS => ?_)
        have hP : va_P D vwCl (w_X8_orderly cI cJ cZ cO aM aM_strength aM_kind aM_more aM_glues aM_sheet aM_since aM_imageStrength aM_imageKind aM_imageMore aM_imageGlues aM_imagePieces aM_imageWarmth aM_imageSheet aM_imageDraw aM_stepWhat aM_stepPiece aM_stepPlace aM_stepSince aM_tape aM_shapes aM_pile aM_met aM_next aM_inputs aM_then M_pieces M_warmth M_draw M_steps M_undoable M_brought M_taped M_shapeMany M_ended M_cut M_mostPieces M_walks M_walked M_strength M_kind M_more M_glues M_sheet M_stepWhat M_stepPiece M_stepPlace M_inputs (upd M_then x1.toNatClampNeg (0 : Int32))) H := hP
        have hD : va_D A (w_X8_orderly cI cJ cZ cO aM aM_strength aM_kind aM_more aM_glues aM_sheet aM_since aM_imageStrength aM_imageKind aM_imageMore aM_imageGlues aM_imagePieces aM_imageWarmth aM_imageSheet aM_imageDraw aM_stepWhat aM_stepPiece aM_stepPlace aM_stepSince aM_tape aM_shapes aM_pile aM_met aM_next aM_inputs aM_then M_pieces M_warmth M_draw M_steps M_undoable M_brought M_taped M_shapeMany M_ended M_cut M_mostPieces M_walks M_walked M_strength M_kind M_more M_glues M_sheet M_stepWhat M_stepPiece M_stepPlace M_inputs (upd M_then x1.toNatClampNeg (0 : Int32))) := hD
        obtain ⟨M_then_24, e24⟩ : ∃ y : Nat → Int32, y = upd M_then x1.toNatClampNeg (0 : Int32) := ⟨_, rfl⟩
        rw [← e24] at hP hD
        have hw := hw M_then_24 e24
        obtain ⟨v25, e25⟩ : ∃ y : Int32, y = x1 + (1 : Int32) := ⟨_, rfl⟩
        have hw := hw v25 e25
        refine lv_iinc (v := v25) (lv' := [(1, .int v25), (0, .ref aM)]) hx hb dX8_orderly_25 hl (k := 1) rfl (by rw [e25, kI_1]) (by decide) rfl (fun ls hl => ?_)
        refine lv_goto (tgt := 11) hx hb dX8_orderly_28 (by decide) ?_
        exact ih_11 M_inputs M_then_24 v25 hw H locs hP hD hS ls (lv_sub hl [1, 0] rfl)
  intro H locs hP hD hS ls hl
  unfold wp_X8_orderly at hw
  refine lv_aload_n hx hb dX8_orderly_0 rfl (lv_at hl 0 rfl) ?_
  refine cx_goi (va_runV (As := []) (rest := []) ⟨hx, hb, hml, hown, hts⟩ (c_X8_canBeAsked l D cI cJ cZ cO tS tT H.size aM aM_strength aM_kind aM_more aM_glues aM_sheet aM_since aM_imageStrength aM_imageKind aM_imageMore aM_imageGlues aM_imagePieces aM_imageWarmth aM_imageSheet aM_imageDraw aM_stepWhat aM_stepPiece aM_stepPlace aM_stepSince aM_tape aM_shapes aM_pile aM_met aM_next aM_inputs aM_then M_pieces M_warmth M_draw M_steps M_undoable M_brought M_taped M_shapeMany M_ended M_cut M_mostPieces M_walks M_walked M_kind M_more M_sheet M_stepWhat _ hw) (cwV 0 hts gX8_orderly_X8_canBeAsked rfl rfl rfl pv_X8_canBeAsked ⟨Nat.le_of_ble_eq_true rfl, Nat.le_of_ble_eq_true rfl⟩) (cx_preV (wc := w_X8_canBeAsked cI cJ cZ cO aM aM_strength aM_kind aM_more aM_glues aM_sheet aM_since aM_imageStrength aM_imageKind aM_imageMore aM_imageGlues aM_imagePieces aM_imageWarmth aM_imageSheet aM_imageDraw aM_stepWhat aM_stepPiece aM_stepPlace aM_stepSince aM_tape aM_shapes aM_pile aM_met aM_next aM_inputs aM_then M_pieces M_warmth M_draw M_steps M_undoable M_brought M_taped M_shapeMany M_ended M_cut M_mostPieces M_walks M_walked M_kind M_more M_sheet M_stepWhat) hE hK hP hD hS hA [0, 2, 3, 5, 6] rfl rfl (va_recv hK hP (ci := 8) (q0 := 0) rfl rfl)) rfl rfl hl.1 rfl (lv_room (Nat.le_of_ble_eq_true rfl)) dX8_orderly_1 ⟨Nat.le_of_ble_eq_true rfl, Nat.le_of_ble_eq_true rfl⟩) (fun (_ : Unit) => (w_X8_orderly cI cJ cZ cO aM aM_strength aM_kind aM_more aM_glues aM_sheet aM_since aM_imageStrength aM_imageKind aM_imageMore aM_imageGlues aM_imagePieces aM_imageWarmth aM_imageSheet aM_imageDraw aM_stepWhat aM_stepPiece aM_stepPlace aM_stepSince aM_tape aM_shapes aM_pile aM_met aM_next aM_inputs aM_then M_pieces M_warmth M_draw M_steps M_undoable M_brought M_taped M_shapeMany M_ended M_cut M_mostPieces M_walks M_walked M_strength M_kind M_more M_glues M_sheet M_stepWhat M_stepPiece M_stepPlace M_inputs M_then)) [0, 2, 3, 5, 6] [1, 4, 7, 8, 9, 10] (ads := [aM, aM_kind, aM_more, aM_sheet, aM_stepWhat]) (wr := [(aM_strength, .inl (cI, 51, .inl M_strength)), (aM_glues, .inl (cI, 160, .inl M_glues)), (aM_stepPiece, .inl (cI, 200, .inl M_stepPiece)), (aM_stepPlace, .inl (cI, 200, .inl M_stepPlace)), (aM_inputs, .inl (cI, 256, .inl M_inputs)), (aM_then, .inl (cI, 256, .inl M_then))]) rfl rfl (fun u => rfl) (fun u => rfl) rfl (fun u => rfl) rfl (fun u => rfl) rfl hP hD hS hA (fun r1 u H locs hw hP hD hS => ?_)
  have hP : va_P D vwCl (w_X8_orderly cI cJ cZ cO aM aM_strength aM_kind aM_more aM_glues aM_sheet aM_since aM_imageStrength aM_imageKind aM_imageMore aM_imageGlues aM_imagePieces aM_imageWarmth aM_imageSheet aM_imageDraw aM_stepWhat aM_stepPiece aM_stepPlace aM_stepSince aM_tape aM_shapes aM_pile aM_met aM_next aM_inputs aM_then M_pieces M_warmth M_draw M_steps M_undoable M_brought M_taped M_shapeMany M_ended M_cut M_mostPieces M_walks M_walked M_strength M_kind M_more M_glues M_sheet M_stepWhat M_stepPiece M_stepPlace M_inputs M_then) H := hP
  have hD : va_D A (w_X8_orderly cI cJ cZ cO aM aM_strength aM_kind aM_more aM_glues aM_sheet aM_since aM_imageStrength aM_imageKind aM_imageMore aM_imageGlues aM_imagePieces aM_imageWarmth aM_imageSheet aM_imageDraw aM_stepWhat aM_stepPiece aM_stepPlace aM_stepSince aM_tape aM_shapes aM_pile aM_met aM_next aM_inputs aM_then M_pieces M_warmth M_draw M_steps M_undoable M_brought M_taped M_shapeMany M_ended M_cut M_mostPieces M_walks M_walked M_strength M_kind M_more M_glues M_sheet M_stepWhat M_stepPiece M_stepPlace M_inputs M_then) := hD
  refine lv_if_ne (tgt := 9) hx hb dX8_orderly_4 (by decide) (fun c4 => ?_) (fun c4 => ?_)
  · have hw := hw.1 c4
    refine lv_iconst (v := (0 : Int32)) hx hb dX8_orderly_9 kI_0 ?_
    refine lv_istore_n (lv' := [(1, .int (0 : Int32)), (0, .ref aM)]) hx hb dX8_orderly_10 rfl hl (by decide) rfl (fun ls hl => ?_)
    obtain ⟨k, hw⟩ := hw
    exact b_11 k M_inputs M_then (0 : Int32) hw H locs hP hD hS ls (lv_sub hl [1, 0] rfl)
  · have hw := hw.2 c4
    refine lv_iconst (v := (-1 : Int32)) hx hb dX8_orderly_7 kI_m1 ?_
    rw [hZ]
    exact cx_reti (M_inputs, M_then) hx hb hr hlocks hw hP hS dX8_orderly_8
set_option maxRecDepth 100000 in
set_option maxHeartbeats 4000000 in
theorem c_X8_rule (l : Launch) (D : va_G) (cI cJ cZ cO : ClassId) (tS tT : Nat) (sz : Nat) (aM aM_strength aM_kind aM_more aM_glues aM_sheet aM_since aM_imageStrength aM_imageKind aM_imageMore aM_imageGlues aM_imagePieces aM_imageWarmth aM_imageSheet aM_imageDraw aM_stepWhat aM_stepPiece aM_stepPlace aM_stepSince aM_tape aM_shapes aM_pile aM_met aM_next aM_inputs aM_then : Nat) (M_pieces : Int32) (M_warmth : Int32) (M_draw : Int64) (M_steps : Int32) (M_undoable : Int32) (M_brought : Int32) (M_taped : Int32) (M_shapeMany : Int32) (M_ended : Int32) (M_cut : Int32) (M_mostPieces : Int32) (M_walks : Int32) (M_walked : Int32) (M_strength : Nat → Int32) (M_kind : Nat → Int32) (M_more : Nat → Int32) (M_glues : Nat → Int32) (M_sheet : Nat → Int32) (M_since : Nat → Int32) (M_stepWhat : Nat → Int32) (M_stepPiece : Nat → Int32) (M_stepPlace : Nat → Int32) (M_stepSince : Nat → Int32) (p1 : Int32) (p2 : Int32) (p3 : Int32) (p4 : Int32) (p5 : Int32) (p6 : Int32) (Q : Int32 → (Nat → Int32) → (Nat → Int32) → (Nat → Int32) → (Nat → Int32) → (Int32) → (Int32) → (Nat → Int32) → (Nat → Int32) → (Nat → Int32) → (Nat → Int32) → (Nat → Int32) → (Nat → Int32) → (Int32) → (Int32) → (Int32) → Prop) (hw : wp_X8_rule M_strength M_kind M_more M_glues M_pieces M_warmth M_sheet M_since M_stepWhat M_stepPiece M_stepPlace M_stepSince M_steps M_undoable M_brought p1 p2 p3 p4 p5 p6 Q) : Met l yX8_rule wsX8_rule rm_X8_rule (va_Pc [.ref aM, .int p1, .int p2, .int p3, .int p4, .int p5, .int p6] (cx_B tS tT cI cJ cZ cO D sz (w_X8_rule cI cJ cZ cO aM aM_strength aM_kind aM_more aM_glues aM_sheet aM_since aM_imageStrength aM_imageKind aM_imageMore aM_imageGlues aM_imagePieces aM_imageWarmth aM_imageSheet aM_imageDraw aM_stepWhat aM_stepPiece aM_stepPlace aM_stepSince aM_tape aM_shapes aM_pile aM_met aM_next aM_inputs aM_then M_pieces M_warmth M_draw M_steps M_undoable M_brought M_taped M_shapeMany M_ended M_cut M_mostPieces M_walks M_walked M_strength M_kind M_more M_glues M_sheet M_since M_stepWhat M_stepPiece M_stepPlace M_stepSince))) (va_Qi (fun (r : Int32) (u : (Nat → Int32) × (Nat → Int32) × (Nat → Int32) × (Nat → Int32) × (Int32) × (Int32) × (Nat → Int32) × (Nat → Int32) × (Nat → Int32) × (Nat → Int32) × (Nat → Int32) × (Nat → Int32) × (Int32) × (Int32) × (Int32)) => Q r u.1 u.2.1 u.2.2.1 u.2.2.2.1 u.2.2.2.2.1 u.2.2.2.2.2.1 u.2.2.2.2.2.2.1 u.2.2.2.2.2.2.2.1 u.2.2.2.2.2.2.2.2.1 u.2.2.2.2.2.2.2.2.2.1 u.2.2.2.2.2.2.2.2.2.2.1 u.2.2.2.2.2.2.2.2.2.2.2.1 u.2.2.2.2.2.2.2.2.2.2.2.2.1 u.2.2.2.2.2.2.2.2.2.2.2.2.2.1 u.2.2.2.2.2.2.2.2.2.2.2.2.2.2) (fun (u : (Nat → Int32) × (Nat → Int32) × (Nat → Int32) × (Nat → Int32) × (Int32) × (Int32) × (Nat → Int32) × (Nat → Int32) × (Nat → Int32) × (Nat → Int32) × (Nat → Int32) × (Nat → Int32) × (Int32) × (Int32) × (Int32)) t => va_P D vwCl (w_X8_rule cI cJ cZ cO aM aM_strength aM_kind aM_more aM_glues aM_sheet aM_since aM_imageStrength aM_imageKind aM_imageMore aM_imageGlues aM_imagePieces aM_imageWarmth aM_imageSheet aM_imageDraw aM_stepWhat aM_stepPiece aM_stepPlace aM_stepSince aM_tape aM_shapes aM_pile aM_met aM_next aM_inputs aM_then u.2.2.2.2.1 u.2.2.2.2.2.1 M_draw u.2.2.2.2.2.2.2.2.2.2.2.2.1 u.2.2.2.2.2.2.2.2.2.2.2.2.2.1 u.2.2.2.2.2.2.2.2.2.2.2.2.2.2 M_taped M_shapeMany M_ended M_cut M_mostPieces M_walks M_walked u.1 u.2.1 u.2.2.1 u.2.2.2.1 u.2.2.2.2.2.2.1 u.2.2.2.2.2.2.2.1 u.2.2.2.2.2.2.2.2.1 u.2.2.2.2.2.2.2.2.2.1 u.2.2.2.2.2.2.2.2.2.2.1 u.2.2.2.2.2.2.2.2.2.2.2.1) t.heap) (va_A (w_X8_rule cI cJ cZ cO aM aM_strength aM_kind aM_more aM_glues aM_sheet aM_since aM_imageStrength aM_imageKind aM_imageMore aM_imageGlues aM_imagePieces aM_imageWarmth aM_imageSheet aM_imageDraw aM_stepWhat aM_stepPiece aM_stepPlace aM_stepSince aM_tape aM_shapes aM_pile aM_met aM_next aM_inputs aM_then M_pieces M_warmth M_draw M_steps M_undoable M_brought M_taped M_shapeMany M_ended M_cut M_mostPieces M_walks M_walked M_strength M_kind M_more M_glues M_sheet M_since M_stepWhat M_stepPiece M_stepPlace M_stepSince) sz)) 0 0 (va_A (w_X8_rule cI cJ cZ cO aM aM_strength aM_kind aM_more aM_glues aM_sheet aM_since aM_imageStrength aM_imageKind aM_imageMore aM_imageGlues aM_imagePieces aM_imageWarmth aM_imageSheet aM_imageDraw aM_stepWhat aM_stepPiece aM_stepPlace aM_stepSince aM_tape aM_shapes aM_pile aM_met aM_next aM_inputs aM_then M_pieces M_warmth M_draw M_steps M_undoable M_brought M_taped M_shapeMany M_ended M_cut M_mostPieces M_walks M_walked M_strength M_kind M_more M_glues M_sheet M_since M_stepWhat M_stepPiece M_stepPlace M_stepSince) sz) := by
  refine cx_met (cc := cX8_rule) (maxL := 9) (ret := (some .int)) (Qc := fun A => va_Qi (fun (r : Int32) (u : (Nat → Int32) × (Nat → Int32) × (Nat → Int32) × (Nat → Int32) × (Int32) × (Int32) × (Nat → Int32) × (Nat → Int32) × (Nat → Int32) × (Nat → Int32) × (Nat → Int32) × (Nat → Int32) × (Int32) × (Int32) × (Int32)) => Q r u.1 u.2.1 u.2.2.1 u.2.2.2.1 u.2.2.2.2.1 u.2.2.2.2.2.1 u.2.2.2.2.2.2.1 u.2.2.2.2.2.2.2.1 u.2.2.2.2.2.2.2.2.1 u.2.2.2.2.2.2.2.2.2.1 u.2.2.2.2.2.2.2.2.2.2.1 u.2.2.2.2.2.2.2.2.2.2.2.1 u.2.2.2.2.2.2.2.2.2.2.2.2.1 u.2.2.2.2.2.2.2.2.2.2.2.2.2.1 u.2.2.2.2.2.2.2.2.2.2.2.2.2.2) (fun (u : (Nat → Int32) × (Nat → Int32) × (Nat → Int32) × (Nat → Int32) × (Int32) × (Int32) × (Nat → Int32) × (Nat → Int32) × (Nat → Int32) × (Nat → Int32) × (Nat → Int32) × (Nat → Int32) × (Int32) × (Int32) × (Int32)) t => va_P D vwCl (w_X8_rule cI cJ cZ cO aM aM_strength aM_kind aM_more aM_glues aM_sheet aM_since aM_imageStrength aM_imageKind aM_imageMore aM_imageGlues aM_imagePieces aM_imageWarmth aM_imageSheet aM_imageDraw aM_stepWhat aM_stepPiece aM_stepPlace aM_stepSince aM_tape aM_shapes aM_pile aM_met aM_next aM_inputs aM_then u.2.2.2.2.1 u.2.2.2.2.2.1 M_draw u.2.2.2.2.2.2.2.2.2.2.2.2.1 u.2.2.2.2.2.2.2.2.2.2.2.2.2.1 u.2.2.2.2.2.2.2.2.2.2.2.2.2.2 M_taped M_shapeMany M_ended M_cut M_mostPieces M_walks M_walked u.1 u.2.1 u.2.2.1 u.2.2.2.1 u.2.2.2.2.2.2.1 u.2.2.2.2.2.2.2.1 u.2.2.2.2.2.2.2.2.1 u.2.2.2.2.2.2.2.2.2.1 u.2.2.2.2.2.2.2.2.2.2.1 u.2.2.2.2.2.2.2.2.2.2.2.1) t.heap) A) (lv := [(0, .ref aM), (1, .int p1), (2, .int p2), (3, .int p3), (4, .int p4), (5, .int p5), (6, .int p6)]) (by decide) rfl (Nat.le_of_ble_eq_true rfl) rfl ?_
  intro p e s m args below meth c A Z hx hb hr hlocks hts hown hml hE hK hA hZ
  have hown : s.vm.findClass RX8 = some m.cls := hown
  have k_0 := hts (.fieldLink RX8 22 "GrowingTilesModel" "warmth" "I") (List.mem_of_getElem? (i := 3) (by decide +kernel))
  have k_1 := hts (.fieldLink RX8 7 "GrowingTilesModel" "strength" "[I") (List.mem_of_getElem? (i := 2) (by decide +kernel))
  have k_2 := hts (.fieldLink RX8 92 "GrowingTilesModel" "pieces" "I") (List.mem_of_getElem? (i := 1) (by decide +kernel))
  have b_245 : ∀ n_245 : Nat, ∀ (M_strength : Nat → Int32) (M_kind : Nat → Int32) (M_more : Nat → Int32) (M_glues : Nat → Int32) (M_pieces : Int32) (M_warmth : Int32) (M_sheet : Nat → Int32) (M_since : Nat → Int32) (M_stepWhat : Nat → Int32) (M_stepPiece : Nat → Int32) (M_stepPlace : Nat → Int32) (M_stepSince : Nat → Int32) (M_steps : Int32) (M_undoable : Int32) (M_brought : Int32) (x3 : Int32) (x4 : Int32) (x6 : Int32) (x7 : Int32), wq_X8_rule_245  Q n_245 M_strength M_kind M_more M_glues M_pieces M_warmth M_sheet M_since M_stepWhat M_stepPiece M_stepPlace M_stepSince M_steps M_undoable M_brought x3 x4 x6 x7 → ∀ (H : Heap) (locs : List Loc), va_P D vwCl (w_X8_rule cI cJ cZ cO aM aM_strength aM_kind aM_more aM_glues aM_sheet aM_since aM_imageStrength aM_imageKind aM_imageMore aM_imageGlues aM_imagePieces aM_imageWarmth aM_imageSheet aM_imageDraw aM_stepWhat aM_stepPiece aM_stepPlace aM_stepSince aM_tape aM_shapes aM_pile aM_met aM_next aM_inputs aM_then M_pieces M_warmth M_draw M_steps M_undoable M_brought M_taped M_shapeMany M_ended M_cut M_mostPieces M_walks M_walked M_strength M_kind M_more M_glues M_sheet M_since M_stepWhat M_stepPiece M_stepPlace M_stepSince) H → va_D A (w_X8_rule cI cJ cZ cO aM aM_strength aM_kind aM_more aM_glues aM_sheet aM_since aM_imageStrength aM_imageKind aM_imageMore aM_imageGlues aM_imagePieces aM_imageWarmth aM_imageSheet aM_imageDraw aM_stepWhat aM_stepPiece aM_stepPlace aM_stepSince aM_tape aM_shapes aM_pile aM_met aM_next aM_inputs aM_then M_pieces M_warmth M_draw M_steps M_undoable M_brought M_taped M_shapeMany M_ended M_cut M_mostPieces M_walks M_walked M_strength M_kind M_more M_glues M_sheet M_since M_stepWhat M_stepPiece M_stepPlace M_stepSince) → va_S A s.heap H locs → ∀ ls : Array Slot, lv_has ls 9 [(0, .ref aM), (3, .int x3), (4, .int x4), (6, .int x6), (7, .int x7)] → W p l e rm_X8_rule s m args below meth c H locs 0 0 Z (F0 m 245 ls []) := by
    intro n_245
    induction n_245 with
    | zero => intro M_strength M_kind M_more M_glues M_pieces M_warmth M_sheet M_since M_stepWhat M_stepPiece M_stepPlace M_stepSince M_steps M_undoable M_brought x3 x4 x6 x7 hw; exact False.elim hw
    | succ n_245 ih_245 =>
      intro M_strength M_kind M_more M_glues M_pieces M_warmth M_sheet M_since M_stepWhat M_stepPiece M_stepPlace M_stepSince M_steps M_undoable M_brought x3 x4 x6 x7 hw H locs hP hD hS ls hl
      have hw : wf_X8_rule_245  Q (wq_X8_rule_245  Q n_245) M_strength M_kind M_more M_glues M_pieces M_warmth M_sheet M_since M_stepWhat M_stepPiece M_stepPlace M_stepSince M_steps M_undoable M_brought x3 x4 x6 x7 := hw
      unfold wf_X8_rule_245 at hw
      refine lv_iload hx hb dX8_rule_245 (lv_at hl 4 rfl) ?_
      refine lv_iload hx hb dX8_rule_247 (lv_at hl 2 rfl) ?_
      refine lv_icmp_ge (tgt := 279) hx hb dX8_rule_249 (by decide) (fun c249 => ?_) (fun c249 => ?_)
      · have hw := hw.1 c249
        refine lv_iload_n hx hb dX8_rule_279 rfl (lv_at hl 1 rfl) ?_
        refine lv_iload hx hb dX8_rule_280 (lv_at hl 2 rfl) ?_
        refine lv_iadd hx hb dX8_rule_282 ?_
        rw [hZ]
        exact cx_reti (M_strength, M_kind, M_more, M_glues, M_pieces, M_warmth, M_sheet, M_since, M_stepWhat, M_stepPiece, M_stepPlace, M_stepSince, M_steps, M_undoable, M_brought) hx hb hr hlocks hw hP hS dX8_rule_283
      · have hw := hw.2 c249
        refine lv_aload_n hx hb dX8_rule_252 rfl (lv_at hl 0 rfl) ?_
        refine lv_bipush (v := (6 : Int32)) hx hb dX8_rule_253 kB_6 ?_
        refine lv_iload hx hb dX8_rule_255 (lv_at hl 3 rfl) ?_
        refine lv_iload hx hb dX8_rule_257 (lv_at hl 4 rfl) ?_
        refine lv_ishr hx hb dX8_rule_259 ?_
        refine lv_iconst (v := (1 : Int32)) hx hb dX8_rule_260 kI_1 ?_
        refine lv_iand hx hb dX8_rule_261 ?_
        refine lv_iadd hx hb dX8_rule_262 ?_
        refine lv_iload_n hx hb dX8_rule_263 rfl (lv_at hl 1 rfl) ?_
        refine lv_bipush (v := (14 : Int32)) hx hb dX8_rule_264 kB_14 ?_
        refine lv_iload hx hb dX8_rule_266 (lv_at hl 4 rfl) ?_
        refine lv_isub hx hb dX8_rule_268 ?_
        refine cx_goi (va_runV (As := [.int ((6 : Int32) + ((x6 >>> (x7 &&& 31)) &&& (1 : Int32))), .int x3, .int ((14 : Int32) - x7)]) (rest := []) ⟨hx, hb, hml, hown, hts⟩ (c_X8_seed l D cI cJ cZ cO tS tT H.size aM aM_strength aM_kind aM_more aM_glues aM_sheet aM_since aM_imageStrength aM_imageKind aM_imageMore aM_imageGlues aM_imagePieces aM_imageWarmth aM_imageSheet aM_imageDraw aM_stepWhat aM_stepPiece aM_stepPlace aM_stepSince aM_tape aM_shapes aM_pile aM_met aM_next aM_inputs aM_then M_pieces M_warmth M_draw M_steps M_undoable M_brought M_taped M_shapeMany M_ended M_cut M_mostPieces M_walks M_walked M_kind M_sheet M_since M_stepWhat M_stepPiece M_stepPlace M_stepSince ((6 : Int32) + ((x6 >>> (x7 &&& 31)) &&& (1 : Int32))) x3 ((14 : Int32) - x7) _ hw) (cwV 3 hts gX8_rule_X8_seed rfl rfl rfl pv_X8_seed ⟨Nat.le_of_ble_eq_true rfl, Nat.le_of_ble_eq_true rfl⟩) (cx_preV (wc := w_X8_seed cI cJ cZ cO aM aM_strength aM_kind aM_more aM_glues aM_sheet aM_since aM_imageStrength aM_imageKind aM_imageMore aM_imageGlues aM_imagePieces aM_imageWarmth aM_imageSheet aM_imageDraw aM_stepWhat aM_stepPiece aM_stepPlace aM_stepSince aM_tape aM_shapes aM_pile aM_met aM_next aM_inputs aM_then M_pieces M_warmth M_draw M_steps M_undoable M_brought M_taped M_shapeMany M_ended M_cut M_mostPieces M_walks M_walked M_kind M_sheet M_since M_stepWhat M_stepPiece M_stepPlace M_stepSince) hE hK hP hD hS hA [0, 2, 5, 6, 7, 8, 9, 10] rfl rfl (va_recv hK hP (ci := 8) (q0 := 0) rfl rfl)) rfl rfl hl.1 rfl (lv_room (Nat.le_of_ble_eq_true rfl)) dX8_rule_269 ⟨Nat.le_of_ble_eq_true rfl, Nat.le_of_ble_eq_true rfl⟩) (fun (u : (Nat → Int32) × (Nat → Int32) × (Nat → Int32) × (Nat → Int32) × (Nat → Int32) × (Nat → Int32) × (Int32) × (Int32)) => (w_X8_rule cI cJ cZ cO aM aM_strength aM_kind aM_more aM_glues aM_sheet aM_since aM_imageStrength aM_imageKind aM_imageMore aM_imageGlues aM_imagePieces aM_imageWarmth aM_imageSheet aM_imageDraw aM_stepWhat aM_stepPiece aM_stepPlace aM_stepSince aM_tape aM_shapes aM_pile aM_met aM_next aM_inputs aM_then M_pieces M_warmth M_draw u.2.2.2.2.2.2.1 u.2.2.2.2.2.2.2 M_brought M_taped M_shapeMany M_ended M_cut M_mostPieces M_walks M_walked M_strength M_kind M_more M_glues u.1 u.2.1 u.2.2.1 u.2.2.2.1 u.2.2.2.2.1 u.2.2.2.2.2.1)) [0, 2, 5, 6, 7, 8, 9, 10] [1, 3, 4] (ads := [aM, aM_kind, aM_sheet, aM_since, aM_stepWhat, aM_stepPiece, aM_stepPlace, aM_stepSince]) (wr := [(aM_strength, .inl (cI, 51, .inl M_strength)), (aM_more, .inl (cI, 40, .inl M_more)), (aM_glues, .inl (cI, 160, .inl M_glues))]) rfl rfl (fun u => rfl) (fun u => rfl) rfl (fun u => rfl) rfl (fun u => rfl) rfl hP hD hS hA (fun r269 u H locs hw hP hD hS => ?_)
        obtain ⟨M_sheet_269, M_since_269, M_stepWhat_269, M_stepPiece_269, M_stepPlace_269, M_stepSince_269, M_steps_269, M_undoable_269⟩ := u
        try dsimp only at hw
        have hP : va_P D vwCl (w_X8_rule cI cJ cZ cO aM aM_strength aM_kind aM_more aM_glues aM_sheet aM_since aM_imageStrength aM_imageKind aM_imageMore aM_imageGlues aM_imagePieces aM_imageWarmth aM_imageSheet aM_imageDraw aM_stepWhat aM_stepPiece aM_stepPlace aM_stepSince aM_tape aM_shapes aM_pile aM_met aM_next aM_inputs aM_then M_pieces M_warmth M_draw M_steps_269 M_undoable_269 M_brought M_taped M_shapeMany M_ended M_cut M_mostPieces M_walks M_walked M_strength M_kind M_more M_glues M_sheet_269 M_since_269 M_stepWhat_269 M_stepPiece_269 M_stepPlace_269 M_stepSince_269) H := hP
        have hD : va_D A (w_X8_rule cI cJ cZ cO aM aM_strength aM_kind aM_more aM_glues aM_sheet aM_since aM_imageStrength aM_imageKind aM_imageMore aM_imageGlues aM_imagePieces aM_imageWarmth aM_imageSheet aM_imageDraw aM_stepWhat aM_stepPiece aM_stepPlace aM_stepSince aM_tape aM_shapes aM_pile aM_met aM_next aM_inputs aM_then M_pieces M_warmth M_draw M_steps_269 M_undoable_269 M_brought M_taped M_shapeMany M_ended M_cut M_mostPieces M_walks M_walked M_strength M_kind M_more M_glues M_sheet_269 M_since_269 M_stepWhat_269 M_stepPiece_269 M_stepPlace_269 M_stepSince_269) := hD
        refine lv_pop hx hb dX8_rule_272 rfl ?_
        obtain ⟨v273, e273⟩ : ∃ y : Int32, y = x7 + (1 : Int32) := ⟨_, rfl⟩
        have hw := hw v273 e273
        refine lv_iinc (v := v273) (lv' := [(7, .int v273), (0, .ref aM), (3, .int x3), (4, .int x4), (6, .int x6)]) hx hb dX8_rule_273 hl (k := 4) rfl (by rw [e273, kI_1]) (by decide) rfl (fun ls hl => ?_)
        refine lv_goto (tgt := 245) hx hb dX8_rule_276 (by decide) ?_
        exact ih_245 M_strength M_kind M_more M_glues M_pieces M_warmth M_sheet_269 M_since_269 M_stepWhat_269 M_stepPiece_269 M_stepPlace_269 M_stepSince_269 M_steps_269 M_undoable_269 M_brought x3 x4 x6 v273 hw H locs hP hD hS ls (lv_sub hl [1, 2, 3, 4, 0] rfl)
  have b_208 : ∀ n_208 : Nat, ∀ (M_strength : Nat → Int32) (M_kind : Nat → Int32) (M_more : Nat → Int32) (M_glues : Nat → Int32) (M_pieces : Int32) (M_warmth : Int32) (M_sheet : Nat → Int32) (M_since : Nat → Int32) (M_stepWhat : Nat → Int32) (M_stepPiece : Nat → Int32) (M_stepPlace : Nat → Int32) (M_stepSince : Nat → Int32) (M_steps : Int32) (M_undoable : Int32) (M_brought : Int32) (x3 : Int32) (x4 : Int32) (x5 : Int32) (x6 : Int32) (x7 : Int32), wq_X8_rule_208  Q n_208 M_strength M_kind M_more M_glues M_pieces M_warmth M_sheet M_since M_stepWhat M_stepPiece M_stepPlace M_stepSince M_steps M_undoable M_brought x3 x4 x5 x6 x7 → ∀ (H : Heap) (locs : List Loc), va_P D vwCl (w_X8_rule cI cJ cZ cO aM aM_strength aM_kind aM_more aM_glues aM_sheet aM_since aM_imageStrength aM_imageKind aM_imageMore aM_imageGlues aM_imagePieces aM_imageWarmth aM_imageSheet aM_imageDraw aM_stepWhat aM_stepPiece aM_stepPlace aM_stepSince aM_tape aM_shapes aM_pile aM_met aM_next aM_inputs aM_then M_pieces M_warmth M_draw M_steps M_undoable M_brought M_taped M_shapeMany M_ended M_cut M_mostPieces M_walks M_walked M_strength M_kind M_more M_glues M_sheet M_since M_stepWhat M_stepPiece M_stepPlace M_stepSince) H → va_D A (w_X8_rule cI cJ cZ cO aM aM_strength aM_kind aM_more aM_glues aM_sheet aM_since aM_imageStrength aM_imageKind aM_imageMore aM_imageGlues aM_imagePieces aM_imageWarmth aM_imageSheet aM_imageDraw aM_stepWhat aM_stepPiece aM_stepPlace aM_stepSince aM_tape aM_shapes aM_pile aM_met aM_next aM_inputs aM_then M_pieces M_warmth M_draw M_steps M_undoable M_brought M_taped M_shapeMany M_ended M_cut M_mostPieces M_walks M_walked M_strength M_kind M_more M_glues M_sheet M_since M_stepWhat M_stepPiece M_stepPlace M_stepSince) → va_S A s.heap H locs → ∀ ls : Array Slot, lv_has ls 9 [(0, .ref aM), (3, .int x3), (4, .int x4), (5, .int x5), (6, .int x6), (7, .int x7)] → W p l e rm_X8_rule s m args below meth c H locs 0 0 Z (F0 m 208 ls []) := by
    intro n_208
    induction n_208 with
    | zero => intro M_strength M_kind M_more M_glues M_pieces M_warmth M_sheet M_since M_stepWhat M_stepPiece M_stepPlace M_stepSince M_steps M_undoable M_brought x3 x4 x5 x6 x7 hw; exact False.elim hw
    | succ n_208 ih_208 =>
      intro M_strength M_kind M_more M_glues M_pieces M_warmth M_sheet M_since M_stepWhat M_stepPiece M_stepPlace M_stepSince M_steps M_undoable M_brought x3 x4 x5 x6 x7 hw H locs hP hD hS ls hl
      have hw : wf_X8_rule_208  Q (wq_X8_rule_208  Q n_208) M_strength M_kind M_more M_glues M_pieces M_warmth M_sheet M_since M_stepWhat M_stepPiece M_stepPlace M_stepSince M_steps M_undoable M_brought x3 x4 x5 x6 x7 := hw
      unfold wf_X8_rule_208 at hw
      refine lv_iload hx hb dX8_rule_208 (lv_at hl 5 rfl) ?_
      refine lv_iload_n hx hb dX8_rule_210 rfl (lv_at hl 1 rfl) ?_
      refine lv_icmp_ge (tgt := 242) hx hb dX8_rule_211 (by decide) (fun c211 => ?_) (fun c211 => ?_)
      · have hw := hw.1 c211
        refine lv_iconst (v := (0 : Int32)) hx hb dX8_rule_242 kI_0 ?_
        refine lv_istore (lv' := [(7, .int (0 : Int32)), (0, .ref aM), (3, .int x3), (4, .int x4), (5, .int x5), (6, .int x6)]) hx hb dX8_rule_243 hl (by decide) rfl (fun ls hl => ?_)
        obtain ⟨k, hw⟩ := hw
        exact b_245 k M_strength M_kind M_more M_glues M_pieces M_warmth M_sheet M_since M_stepWhat M_stepPiece M_stepPlace M_stepSince M_steps M_undoable M_brought x3 x4 x6 (0 : Int32) hw H locs hP hD hS ls (lv_sub hl [1, 2, 3, 5, 0] rfl)
      · have hw := hw.2 c211
        refine lv_aload_n hx hb dX8_rule_214 rfl (lv_at hl 0 rfl) ?_
        refine lv_iconst (v := (4 : Int32)) hx hb dX8_rule_215 kI_4 ?_
        refine lv_iload hx hb dX8_rule_216 (lv_at hl 3 rfl) ?_
        refine lv_iload_n hx hb dX8_rule_218 rfl (lv_at hl 1 rfl) ?_
        refine lv_iconst (v := (1 : Int32)) hx hb dX8_rule_219 kI_1 ?_
        refine lv_isub hx hb dX8_rule_220 ?_
        refine lv_iload hx hb dX8_rule_221 (lv_at hl 5 rfl) ?_
        refine lv_isub hx hb dX8_rule_223 ?_
        refine lv_ishr hx hb dX8_rule_224 ?_
        refine lv_iconst (v := (1 : Int32)) hx hb dX8_rule_225 kI_1 ?_
        refine lv_iand hx hb dX8_rule_226 ?_
        refine lv_iadd hx hb dX8_rule_227 ?_
        refine lv_iload hx hb dX8_rule_228 (lv_at hl 5 rfl) ?_
        refine lv_bipush (v := (15 : Int32)) hx hb dX8_rule_230 kB_15 ?_
        refine cx_goi (va_runV (As := [.int ((4 : Int32) + ((x5 >>> (((x3 - (1 : Int32)) - x7) &&& 31)) &&& (1 : Int32))), .int x7, .int (15 : Int32)]) (rest := []) ⟨hx, hb, hml, hown, hts⟩ (c_X8_seed l D cI cJ cZ cO tS tT H.size aM aM_strength aM_kind aM_more aM_glues aM_sheet aM_since aM_imageStrength aM_imageKind aM_imageMore aM_imageGlues aM_imagePieces aM_imageWarmth aM_imageSheet aM_imageDraw aM_stepWhat aM_stepPiece aM_stepPlace aM_stepSince aM_tape aM_shapes aM_pile aM_met aM_next aM_inputs aM_then M_pieces M_warmth M_draw M_steps M_undoable M_brought M_taped M_shapeMany M_ended M_cut M_mostPieces M_walks M_walked M_kind M_sheet M_since M_stepWhat M_stepPiece M_stepPlace M_stepSince ((4 : Int32) + ((x5 >>> (((x3 - (1 : Int32)) - x7) &&& 31)) &&& (1 : Int32))) x7 (15 : Int32) _ hw) (cwV 3 hts gX8_rule_X8_seed rfl rfl rfl pv_X8_seed ⟨Nat.le_of_ble_eq_true rfl, Nat.le_of_ble_eq_true rfl⟩) (cx_preV (wc := w_X8_seed cI cJ cZ cO aM aM_strength aM_kind aM_more aM_glues aM_sheet aM_since aM_imageStrength aM_imageKind aM_imageMore aM_imageGlues aM_imagePieces aM_imageWarmth aM_imageSheet aM_imageDraw aM_stepWhat aM_stepPiece aM_stepPlace aM_stepSince aM_tape aM_shapes aM_pile aM_met aM_next aM_inputs aM_then M_pieces M_warmth M_draw M_steps M_undoable M_brought M_taped M_shapeMany M_ended M_cut M_mostPieces M_walks M_walked M_kind M_sheet M_since M_stepWhat M_stepPiece M_stepPlace M_stepSince) hE hK hP hD hS hA [0, 2, 5, 6, 7, 8, 9, 10] rfl rfl (va_recv hK hP (ci := 8) (q0 := 0) rfl rfl)) rfl rfl hl.1 rfl (lv_room (Nat.le_of_ble_eq_true rfl)) dX8_rule_232 ⟨Nat.le_of_ble_eq_true rfl, Nat.le_of_ble_eq_true rfl⟩) (fun (u : (Nat → Int32) × (Nat → Int32) × (Nat → Int32) × (Nat → Int32) × (Nat → Int32) × (Nat → Int32) × (Int32) × (Int32)) => (w_X8_rule cI cJ cZ cO aM aM_strength aM_kind aM_more aM_glues aM_sheet aM_since aM_imageStrength aM_imageKind aM_imageMore aM_imageGlues aM_imagePieces aM_imageWarmth aM_imageSheet aM_imageDraw aM_stepWhat aM_stepPiece aM_stepPlace aM_stepSince aM_tape aM_shapes aM_pile aM_met aM_next aM_inputs aM_then M_pieces M_warmth M_draw u.2.2.2.2.2.2.1 u.2.2.2.2.2.2.2 M_brought M_taped M_shapeMany M_ended M_cut M_mostPieces M_walks M_walked M_strength M_kind M_more M_glues u.1 u.2.1 u.2.2.1 u.2.2.2.1 u.2.2.2.2.1 u.2.2.2.2.2.1)) [0, 2, 5, 6, 7, 8, 9, 10] [1, 3, 4] (ads := [aM, aM_kind, aM_sheet, aM_since, aM_stepWhat, aM_stepPiece, aM_stepPlace, aM_stepSince]) (wr := [(aM_strength, .inl (cI, 51, .inl M_strength)), (aM_more, .inl (cI, 40, .inl M_more)), (aM_glues, .inl (cI, 160, .inl M_glues))]) rfl rfl (fun u => rfl) (fun u => rfl) rfl (fun u => rfl) rfl (fun u => rfl) rfl hP hD hS hA (fun r232 u H locs hw hP hD hS => ?_)
        obtain ⟨M_sheet_232, M_since_232, M_stepWhat_232, M_stepPiece_232, M_stepPlace_232, M_stepSince_232, M_steps_232, M_undoable_232⟩ := u
        try dsimp only at hw
        have hP : va_P D vwCl (w_X8_rule cI cJ cZ cO aM aM_strength aM_kind aM_more aM_glues aM_sheet aM_since aM_imageStrength aM_imageKind aM_imageMore aM_imageGlues aM_imagePieces aM_imageWarmth aM_imageSheet aM_imageDraw aM_stepWhat aM_stepPiece aM_stepPlace aM_stepSince aM_tape aM_shapes aM_pile aM_met aM_next aM_inputs aM_then M_pieces M_warmth M_draw M_steps_232 M_undoable_232 M_brought M_taped M_shapeMany M_ended M_cut M_mostPieces M_walks M_walked M_strength M_kind M_more M_glues M_sheet_232 M_since_232 M_stepWhat_232 M_stepPiece_232 M_stepPlace_232 M_stepSince_232) H := hP
        have hD : va_D A (w_X8_rule cI cJ cZ cO aM aM_strength aM_kind aM_more aM_glues aM_sheet aM_since aM_imageStrength aM_imageKind aM_imageMore aM_imageGlues aM_imagePieces aM_imageWarmth aM_imageSheet aM_imageDraw aM_stepWhat aM_stepPiece aM_stepPlace aM_stepSince aM_tape aM_shapes aM_pile aM_met aM_next aM_inputs aM_then M_pieces M_warmth M_draw M_steps_232 M_undoable_232 M_brought M_taped M_shapeMany M_ended M_cut M_mostPieces M_walks M_walked M_strength M_kind M_more M_glues M_sheet_232 M_since_232 M_stepWhat_232 M_stepPiece_232 M_stepPlace_232 M_stepSince_232) := hD
        refine lv_pop hx hb dX8_rule_235 rfl ?_
        obtain ⟨v236, e236⟩ : ∃ y : Int32, y = x7 + (1 : Int32) := ⟨_, rfl⟩
        have hw := hw v236 e236
        refine lv_iinc (v := v236) (lv' := [(7, .int v236), (0, .ref aM), (3, .int x3), (4, .int x4), (5, .int x5), (6, .int x6)]) hx hb dX8_rule_236 hl (k := 5) rfl (by rw [e236, kI_1]) (by decide) rfl (fun ls hl => ?_)
        refine lv_goto (tgt := 208) hx hb dX8_rule_239 (by decide) ?_
        exact ih_208 M_strength M_kind M_more M_glues M_pieces M_warmth M_sheet_232 M_since_232 M_stepWhat_232 M_stepPiece_232 M_stepPlace_232 M_stepSince_232 M_steps_232 M_undoable_232 M_brought x3 x4 x5 x6 v236 hw H locs hP hD hS ls (lv_sub hl [1, 2, 3, 4, 5, 0] rfl)
  have b_104 : ∀ n_104 : Nat, ∀ (M_strength : Nat → Int32) (M_kind : Nat → Int32) (M_more : Nat → Int32) (M_glues : Nat → Int32) (M_pieces : Int32) (M_warmth : Int32) (M_sheet : Nat → Int32) (M_since : Nat → Int32) (M_stepWhat : Nat → Int32) (M_stepPiece : Nat → Int32) (M_stepPlace : Nat → Int32) (M_stepSince : Nat → Int32) (M_steps : Int32) (M_undoable : Int32) (M_brought : Int32) (x1 : Int32) (x2 : Int32) (x3 : Int32) (x4 : Int32) (x5 : Int32) (x6 : Int32) (x7 : Int32), wq_X8_rule_104  Q n_104 M_strength M_kind M_more M_glues M_pieces M_warmth M_sheet M_since M_stepWhat M_stepPiece M_stepPlace M_stepSince M_steps M_undoable M_brought x1 x2 x3 x4 x5 x6 x7 → ∀ (H : Heap) (locs : List Loc), va_P D vwCl (w_X8_rule cI cJ cZ cO aM aM_strength aM_kind aM_more aM_glues aM_sheet aM_since aM_imageStrength aM_imageKind aM_imageMore aM_imageGlues aM_imagePieces aM_imageWarmth aM_imageSheet aM_imageDraw aM_stepWhat aM_stepPiece aM_stepPlace aM_stepSince aM_tape aM_shapes aM_pile aM_met aM_next aM_inputs aM_then M_pieces M_warmth M_draw M_steps M_undoable M_brought M_taped M_shapeMany M_ended M_cut M_mostPieces M_walks M_walked M_strength M_kind M_more M_glues M_sheet M_since M_stepWhat M_stepPiece M_stepPlace M_stepSince) H → va_D A (w_X8_rule cI cJ cZ cO aM aM_strength aM_kind aM_more aM_glues aM_sheet aM_since aM_imageStrength aM_imageKind aM_imageMore aM_imageGlues aM_imagePieces aM_imageWarmth aM_imageSheet aM_imageDraw aM_stepWhat aM_stepPiece aM_stepPlace aM_stepSince aM_tape aM_shapes aM_pile aM_met aM_next aM_inputs aM_then M_pieces M_warmth M_draw M_steps M_undoable M_brought M_taped M_shapeMany M_ended M_cut M_mostPieces M_walks M_walked M_strength M_kind M_more M_glues M_sheet M_since M_stepWhat M_stepPiece M_stepPlace M_stepSince) → va_S A s.heap H locs → ∀ ls : Array Slot, lv_has ls 9 [(0, .ref aM), (1, .int x1), (2, .int x2), (3, .int x3), (4, .int x4), (5, .int x5), (6, .int x6), (7, .int x7)] → W p l e rm_X8_rule s m args below meth c H locs 0 0 Z (F0 m 104 ls []) := by
    intro n_104
    induction n_104 with
    | zero => intro M_strength M_kind M_more M_glues M_pieces M_warmth M_sheet M_since M_stepWhat M_stepPiece M_stepPlace M_stepSince M_steps M_undoable M_brought x1 x2 x3 x4 x5 x6 x7 hw; exact False.elim hw
    | succ n_104 ih_104 =>
      intro M_strength M_kind M_more M_glues M_pieces M_warmth M_sheet M_since M_stepWhat M_stepPiece M_stepPlace M_stepSince M_steps M_undoable M_brought x1 x2 x3 x4 x5 x6 x7 hw H locs hP hD hS ls hl
      have hw : wf_X8_rule_104  Q (wq_X8_rule_104  Q n_104) M_strength M_kind M_more M_glues M_pieces M_warmth M_sheet M_since M_stepWhat M_stepPiece M_stepPlace M_stepSince M_steps M_undoable M_brought x1 x2 x3 x4 x5 x6 x7 := hw
      unfold wf_X8_rule_104 at hw
      refine lv_iload hx hb dX8_rule_104 (lv_at hl 7 rfl) ?_
      refine lv_iconst (v := (4 : Int32)) hx hb dX8_rule_106 kI_4 ?_
      refine lv_icmp_ge (tgt := 161) hx hb dX8_rule_107 (by decide) (fun c107 => ?_) (fun c107 => ?_)
      · have hw := hw.1 c107
        refine lv_aload_n hx hb dX8_rule_161 rfl (lv_at hl 0 rfl) ?_
        refine lv_iconst (v := (1 : Int32)) hx hb dX8_rule_162 kI_1 ?_
        refine lv_iconst (v := (1 : Int32)) hx hb dX8_rule_163 kI_1 ?_
        refine lv_iconst (v := (0 : Int32)) hx hb dX8_rule_164 kI_0 ?_
        refine lv_iconst (v := (0 : Int32)) hx hb dX8_rule_165 kI_0 ?_
        refine lv_iconst (v := (0 : Int32)) hx hb dX8_rule_166 kI_0 ?_
        refine lv_iconst (v := (0 : Int32)) hx hb dX8_rule_167 kI_0 ?_
        refine cx_goi (va_runV (As := [.int (1 : Int32), .int (1 : Int32), .int (0 : Int32), .int (0 : Int32), .int (0 : Int32), .int (0 : Int32)]) (rest := []) ⟨hx, hb, hml, hown, hts⟩ (c_X8_piece l D cI cJ cZ cO tS tT H.size aM aM_strength aM_kind aM_more aM_glues aM_sheet aM_since aM_imageStrength aM_imageKind aM_imageMore aM_imageGlues aM_imagePieces aM_imageWarmth aM_imageSheet aM_imageDraw aM_stepWhat aM_stepPiece aM_stepPlace aM_stepSince aM_tape aM_shapes aM_pile aM_met aM_next aM_inputs aM_then M_pieces M_warmth M_draw M_steps M_undoable M_brought M_taped M_shapeMany M_ended M_cut M_mostPieces M_walks M_walked M_kind M_more M_glues (1 : Int32) (1 : Int32) (0 : Int32) (0 : Int32) (0 : Int32) (0 : Int32) _ hw) (cwV 6 hts gX8_rule_X8_piece rfl rfl rfl pv_X8_piece ⟨Nat.le_of_ble_eq_true rfl, Nat.le_of_ble_eq_true rfl⟩) (cx_preV (wc := w_X8_piece cI cJ cZ cO aM aM_strength aM_kind aM_more aM_glues aM_sheet aM_since aM_imageStrength aM_imageKind aM_imageMore aM_imageGlues aM_imagePieces aM_imageWarmth aM_imageSheet aM_imageDraw aM_stepWhat aM_stepPiece aM_stepPlace aM_stepSince aM_tape aM_shapes aM_pile aM_met aM_next aM_inputs aM_then M_pieces M_warmth M_draw M_steps M_undoable M_brought M_taped M_shapeMany M_ended M_cut M_mostPieces M_walks M_walked M_kind M_more M_glues) hE hK hP hD hS hA [0, 2, 3, 4] rfl rfl (va_recv hK hP (ci := 8) (q0 := 0) rfl rfl)) rfl rfl hl.1 rfl (lv_room (Nat.le_of_ble_eq_true rfl)) dX8_rule_168 ⟨Nat.le_of_ble_eq_true rfl, Nat.le_of_ble_eq_true rfl⟩) (fun (u : (Nat → Int32) × (Nat → Int32) × (Nat → Int32) × (Int32)) => (w_X8_rule cI cJ cZ cO aM aM_strength aM_kind aM_more aM_glues aM_sheet aM_since aM_imageStrength aM_imageKind aM_imageMore aM_imageGlues aM_imagePieces aM_imageWarmth aM_imageSheet aM_imageDraw aM_stepWhat aM_stepPiece aM_stepPlace aM_stepSince aM_tape aM_shapes aM_pile aM_met aM_next aM_inputs aM_then u.2.2.2 M_warmth M_draw M_steps M_undoable M_brought M_taped M_shapeMany M_ended M_cut M_mostPieces M_walks M_walked M_strength u.1 u.2.1 u.2.2.1 M_sheet M_since M_stepWhat M_stepPiece M_stepPlace M_stepSince)) [0, 2, 3, 4] [1, 5, 6, 7, 8, 9, 10] (ads := [aM, aM_kind, aM_more, aM_glues]) (wr := [(aM_strength, .inl (cI, 51, .inl M_strength)), (aM_sheet, .inl (cI, 256, .inl M_sheet)), (aM_since, .inl (cI, 256, .inl M_since)), (aM_stepWhat, .inl (cI, 200, .inl M_stepWhat)), (aM_stepPiece, .inl (cI, 200, .inl M_stepPiece)), (aM_stepPlace, .inl (cI, 200, .inl M_stepPlace)), (aM_stepSince, .inl (cI, 200, .inl M_stepSince))]) rfl rfl (fun u => rfl) (fun u => rfl) rfl (fun u => rfl) rfl (fun u => rfl) rfl hP hD hS hA (fun r168 u H locs hw hP hD hS => ?_)
        obtain ⟨M_kind_168, M_more_168, M_glues_168, M_pieces_168⟩ := u
        try dsimp only at hw
        have hP : va_P D vwCl (w_X8_rule cI cJ cZ cO aM aM_strength aM_kind aM_more aM_glues aM_sheet aM_since aM_imageStrength aM_imageKind aM_imageMore aM_imageGlues aM_imagePieces aM_imageWarmth aM_imageSheet aM_imageDraw aM_stepWhat aM_stepPiece aM_stepPlace aM_stepSince aM_tape aM_shapes aM_pile aM_met aM_next aM_inputs aM_then M_pieces_168 M_warmth M_draw M_steps M_undoable M_brought M_taped M_shapeMany M_ended M_cut M_mostPieces M_walks M_walked M_strength M_kind_168 M_more_168 M_glues_168 M_sheet M_since M_stepWhat M_stepPiece M_stepPlace M_stepSince) H := hP
        have hD : va_D A (w_X8_rule cI cJ cZ cO aM aM_strength aM_kind aM_more aM_glues aM_sheet aM_since aM_imageStrength aM_imageKind aM_imageMore aM_imageGlues aM_imagePieces aM_imageWarmth aM_imageSheet aM_imageDraw aM_stepWhat aM_stepPiece aM_stepPlace aM_stepSince aM_tape aM_shapes aM_pile aM_met aM_next aM_inputs aM_then M_pieces_168 M_warmth M_draw M_steps M_undoable M_brought M_taped M_shapeMany M_ended M_cut M_mostPieces M_walks M_walked M_strength M_kind_168 M_more_168 M_glues_168 M_sheet M_since M_stepWhat M_stepPiece M_stepPlace M_stepSince) := hD
        refine lv_pop hx hb dX8_rule_171 rfl ?_
        refine lv_aload_n hx hb dX8_rule_172 rfl (lv_at hl 0 rfl) ?_
        refine lv_iconst (v := (1 : Int32)) hx hb dX8_rule_173 kI_1 ?_
        refine lv_iconst (v := (2 : Int32)) hx hb dX8_rule_174 kI_2 ?_
        refine lv_iconst (v := (0 : Int32)) hx hb dX8_rule_175 kI_0 ?_
        refine lv_iconst (v := (0 : Int32)) hx hb dX8_rule_176 kI_0 ?_
        refine lv_iconst (v := (0 : Int32)) hx hb dX8_rule_177 kI_0 ?_
        refine lv_iconst (v := (0 : Int32)) hx hb dX8_rule_178 kI_0 ?_
        refine cx_goi (va_runV (As := [.int (1 : Int32), .int (2 : Int32), .int (0 : Int32), .int (0 : Int32), .int (0 : Int32), .int (0 : Int32)]) (rest := []) ⟨hx, hb, hml, hown, hts⟩ (c_X8_piece l D cI cJ cZ cO tS tT H.size aM aM_strength aM_kind aM_more aM_glues aM_sheet aM_since aM_imageStrength aM_imageKind aM_imageMore aM_imageGlues aM_imagePieces aM_imageWarmth aM_imageSheet aM_imageDraw aM_stepWhat aM_stepPiece aM_stepPlace aM_stepSince aM_tape aM_shapes aM_pile aM_met aM_next aM_inputs aM_then M_pieces_168 M_warmth M_draw M_steps M_undoable M_brought M_taped M_shapeMany M_ended M_cut M_mostPieces M_walks M_walked M_kind_168 M_more_168 M_glues_168 (1 : Int32) (2 : Int32) (0 : Int32) (0 : Int32) (0 : Int32) (0 : Int32) _ hw) (cwV 6 hts gX8_rule_X8_piece rfl rfl rfl pv_X8_piece ⟨Nat.le_of_ble_eq_true rfl, Nat.le_of_ble_eq_true rfl⟩) (cx_preV (wc := w_X8_piece cI cJ cZ cO aM aM_strength aM_kind aM_more aM_glues aM_sheet aM_since aM_imageStrength aM_imageKind aM_imageMore aM_imageGlues aM_imagePieces aM_imageWarmth aM_imageSheet aM_imageDraw aM_stepWhat aM_stepPiece aM_stepPlace aM_stepSince aM_tape aM_shapes aM_pile aM_met aM_next aM_inputs aM_then M_pieces_168 M_warmth M_draw M_steps M_undoable M_brought M_taped M_shapeMany M_ended M_cut M_mostPieces M_walks M_walked M_kind_168 M_more_168 M_glues_168) hE hK hP hD hS hA [0, 2, 3, 4] rfl rfl (va_recv hK hP (ci := 8) (q0 := 0) rfl rfl)) rfl rfl hl.1 rfl (lv_room (Nat.le_of_ble_eq_true rfl)) dX8_rule_179 ⟨Nat.le_of_ble_eq_true rfl, Nat.le_of_ble_eq_true rfl⟩) (fun (u : (Nat → Int32) × (Nat → Int32) × (Nat → Int32) × (Int32)) => (w_X8_rule cI cJ cZ cO aM aM_strength aM_kind aM_more aM_glues aM_sheet aM_since aM_imageStrength aM_imageKind aM_imageMore aM_imageGlues aM_imagePieces aM_imageWarmth aM_imageSheet aM_imageDraw aM_stepWhat aM_stepPiece aM_stepPlace aM_stepSince aM_tape aM_shapes aM_pile aM_met aM_next aM_inputs aM_then u.2.2.2 M_warmth M_draw M_steps M_undoable M_brought M_taped M_shapeMany M_ended M_cut M_mostPieces M_walks M_walked M_strength u.1 u.2.1 u.2.2.1 M_sheet M_since M_stepWhat M_stepPiece M_stepPlace M_stepSince)) [0, 2, 3, 4] [1, 5, 6, 7, 8, 9, 10] (ads := [aM, aM_kind, aM_more, aM_glues]) (wr := [(aM_strength, .inl (cI, 51, .inl M_strength)), (aM_sheet, .inl (cI, 256, .inl M_sheet)), (aM_since, .inl (cI, 256, .inl M_since)), (aM_stepWhat, .inl (cI, 200, .inl M_stepWhat)), (aM_stepPiece, .inl (cI, 200, .inl M_stepPiece)), (aM_stepPlace, .inl (cI, 200, .inl M_stepPlace)), (aM_stepSince, .inl (cI, 200, .inl M_stepSince))]) rfl rfl (fun u => rfl) (fun u => rfl) rfl (fun u => rfl) rfl (fun u => rfl) rfl hP hD hS hA (fun r179 u H locs hw hP hD hS => ?_)
        obtain ⟨M_kind_179, M_more_179, M_glues_179, M_pieces_179⟩ := u
        try dsimp only at hw
        have hP : va_P D vwCl (w_X8_rule cI cJ cZ cO aM aM_strength aM_kind aM_more aM_glues aM_sheet aM_since aM_imageStrength aM_imageKind aM_imageMore aM_imageGlues aM_imagePieces aM_imageWarmth aM_imageSheet aM_imageDraw aM_stepWhat aM_stepPiece aM_stepPlace aM_stepSince aM_tape aM_shapes aM_pile aM_met aM_next aM_inputs aM_then M_pieces_179 M_warmth M_draw M_steps M_undoable M_brought M_taped M_shapeMany M_ended M_cut M_mostPieces M_walks M_walked M_strength M_kind_179 M_more_179 M_glues_179 M_sheet M_since M_stepWhat M_stepPiece M_stepPlace M_stepSince) H := hP
        have hD : va_D A (w_X8_rule cI cJ cZ cO aM aM_strength aM_kind aM_more aM_glues aM_sheet aM_since aM_imageStrength aM_imageKind aM_imageMore aM_imageGlues aM_imagePieces aM_imageWarmth aM_imageSheet aM_imageDraw aM_stepWhat aM_stepPiece aM_stepPlace aM_stepSince aM_tape aM_shapes aM_pile aM_met aM_next aM_inputs aM_then M_pieces_179 M_warmth M_draw M_steps M_undoable M_brought M_taped M_shapeMany M_ended M_cut M_mostPieces M_walks M_walked M_strength M_kind_179 M_more_179 M_glues_179 M_sheet M_since M_stepWhat M_stepPiece M_stepPlace M_stepSince) := hD
        refine lv_pop hx hb dX8_rule_182 rfl ?_
        refine lv_aload_n hx hb dX8_rule_183 rfl (lv_at hl 0 rfl) ?_
        refine lv_iconst (v := (1 : Int32)) hx hb dX8_rule_184 kI_1 ?_
        refine lv_iconst (v := (0 : Int32)) hx hb dX8_rule_185 kI_0 ?_
        refine lv_iconst (v := (0 : Int32)) hx hb dX8_rule_186 kI_0 ?_
        refine lv_iconst (v := (0 : Int32)) hx hb dX8_rule_187 kI_0 ?_
        refine lv_iconst (v := (3 : Int32)) hx hb dX8_rule_188 kI_3 ?_
        refine lv_iconst (v := (0 : Int32)) hx hb dX8_rule_189 kI_0 ?_
        refine cx_goi (va_runV (As := [.int (1 : Int32), .int (0 : Int32), .int (0 : Int32), .int (0 : Int32), .int (3 : Int32), .int (0 : Int32)]) (rest := []) ⟨hx, hb, hml, hown, hts⟩ (c_X8_piece l D cI cJ cZ cO tS tT H.size aM aM_strength aM_kind aM_more aM_glues aM_sheet aM_since aM_imageStrength aM_imageKind aM_imageMore aM_imageGlues aM_imagePieces aM_imageWarmth aM_imageSheet aM_imageDraw aM_stepWhat aM_stepPiece aM_stepPlace aM_stepSince aM_tape aM_shapes aM_pile aM_met aM_next aM_inputs aM_then M_pieces_179 M_warmth M_draw M_steps M_undoable M_brought M_taped M_shapeMany M_ended M_cut M_mostPieces M_walks M_walked M_kind_179 M_more_179 M_glues_179 (1 : Int32) (0 : Int32) (0 : Int32) (0 : Int32) (3 : Int32) (0 : Int32) _ hw) (cwV 6 hts gX8_rule_X8_piece rfl rfl rfl pv_X8_piece ⟨Nat.le_of_ble_eq_true rfl, Nat.le_of_ble_eq_true rfl⟩) (cx_preV (wc := w_X8_piece cI cJ cZ cO aM aM_strength aM_kind aM_more aM_glues aM_sheet aM_since aM_imageStrength aM_imageKind aM_imageMore aM_imageGlues aM_imagePieces aM_imageWarmth aM_imageSheet aM_imageDraw aM_stepWhat aM_stepPiece aM_stepPlace aM_stepSince aM_tape aM_shapes aM_pile aM_met aM_next aM_inputs aM_then M_pieces_179 M_warmth M_draw M_steps M_undoable M_brought M_taped M_shapeMany M_ended M_cut M_mostPieces M_walks M_walked M_kind_179 M_more_179 M_glues_179) hE hK hP hD hS hA [0, 2, 3, 4] rfl rfl (va_recv hK hP (ci := 8) (q0 := 0) rfl rfl)) rfl rfl hl.1 rfl (lv_room (Nat.le_of_ble_eq_true rfl)) dX8_rule_190 ⟨Nat.le_of_ble_eq_true rfl, Nat.le_of_ble_eq_true rfl⟩) (fun (u : (Nat → Int32) × (Nat → Int32) × (Nat → Int32) × (Int32)) => (w_X8_rule cI cJ cZ cO aM aM_strength aM_kind aM_more aM_glues aM_sheet aM_since aM_imageStrength aM_imageKind aM_imageMore aM_imageGlues aM_imagePieces aM_imageWarmth aM_imageSheet aM_imageDraw aM_stepWhat aM_stepPiece aM_stepPlace aM_stepSince aM_tape aM_shapes aM_pile aM_met aM_next aM_inputs aM_then u.2.2.2 M_warmth M_draw M_steps M_undoable M_brought M_taped M_shapeMany M_ended M_cut M_mostPieces M_walks M_walked M_strength u.1 u.2.1 u.2.2.1 M_sheet M_since M_stepWhat M_stepPiece M_stepPlace M_stepSince)) [0, 2, 3, 4] [1, 5, 6, 7, 8, 9, 10] (ads := [aM, aM_kind, aM_more, aM_glues]) (wr := [(aM_strength, .inl (cI, 51, .inl M_strength)), (aM_sheet, .inl (cI, 256, .inl M_sheet)), (aM_since, .inl (cI, 256, .inl M_since)), (aM_stepWhat, .inl (cI, 200, .inl M_stepWhat)), (aM_stepPiece, .inl (cI, 200, .inl M_stepPiece)), (aM_stepPlace, .inl (cI, 200, .inl M_stepPlace)), (aM_stepSince, .inl (cI, 200, .inl M_stepSince))]) rfl rfl (fun u => rfl) (fun u => rfl) rfl (fun u => rfl) rfl (fun u => rfl) rfl hP hD hS hA (fun r190 u H locs hw hP hD hS => ?_)
        obtain ⟨M_kind_190, M_more_190, M_glues_190, M_pieces_190⟩ := u
        try dsimp only at hw
        have hP : va_P D vwCl (w_X8_rule cI cJ cZ cO aM aM_strength aM_kind aM_more aM_glues aM_sheet aM_since aM_imageStrength aM_imageKind aM_imageMore aM_imageGlues aM_imagePieces aM_imageWarmth aM_imageSheet aM_imageDraw aM_stepWhat aM_stepPiece aM_stepPlace aM_stepSince aM_tape aM_shapes aM_pile aM_met aM_next aM_inputs aM_then M_pieces_190 M_warmth M_draw M_steps M_undoable M_brought M_taped M_shapeMany M_ended M_cut M_mostPieces M_walks M_walked M_strength M_kind_190 M_more_190 M_glues_190 M_sheet M_since M_stepWhat M_stepPiece M_stepPlace M_stepSince) H := hP
        have hD : va_D A (w_X8_rule cI cJ cZ cO aM aM_strength aM_kind aM_more aM_glues aM_sheet aM_since aM_imageStrength aM_imageKind aM_imageMore aM_imageGlues aM_imagePieces aM_imageWarmth aM_imageSheet aM_imageDraw aM_stepWhat aM_stepPiece aM_stepPlace aM_stepSince aM_tape aM_shapes aM_pile aM_met aM_next aM_inputs aM_then M_pieces_190 M_warmth M_draw M_steps M_undoable M_brought M_taped M_shapeMany M_ended M_cut M_mostPieces M_walks M_walked M_strength M_kind_190 M_more_190 M_glues_190 M_sheet M_since M_stepWhat M_stepPiece M_stepPlace M_stepSince) := hD
        refine lv_pop hx hb dX8_rule_193 rfl ?_
        refine lv_aload_n hx hb dX8_rule_194 rfl (lv_at hl 0 rfl) ?_
        refine lv_iconst (v := (1 : Int32)) hx hb dX8_rule_195 kI_1 ?_
        refine lv_iconst (v := (0 : Int32)) hx hb dX8_rule_196 kI_0 ?_
        refine lv_iconst (v := (0 : Int32)) hx hb dX8_rule_197 kI_0 ?_
        refine lv_iconst (v := (0 : Int32)) hx hb dX8_rule_198 kI_0 ?_
        refine lv_iconst (v := (4 : Int32)) hx hb dX8_rule_199 kI_4 ?_
        refine lv_iconst (v := (0 : Int32)) hx hb dX8_rule_200 kI_0 ?_
        refine cx_goi (va_runV (As := [.int (1 : Int32), .int (0 : Int32), .int (0 : Int32), .int (0 : Int32), .int (4 : Int32), .int (0 : Int32)]) (rest := []) ⟨hx, hb, hml, hown, hts⟩ (c_X8_piece l D cI cJ cZ cO tS tT H.size aM aM_strength aM_kind aM_more aM_glues aM_sheet aM_since aM_imageStrength aM_imageKind aM_imageMore aM_imageGlues aM_imagePieces aM_imageWarmth aM_imageSheet aM_imageDraw aM_stepWhat aM_stepPiece aM_stepPlace aM_stepSince aM_tape aM_shapes aM_pile aM_met aM_next aM_inputs aM_then M_pieces_190 M_warmth M_draw M_steps M_undoable M_brought M_taped M_shapeMany M_ended M_cut M_mostPieces M_walks M_walked M_kind_190 M_more_190 M_glues_190 (1 : Int32) (0 : Int32) (0 : Int32) (0 : Int32) (4 : Int32) (0 : Int32) _ hw) (cwV 6 hts gX8_rule_X8_piece rfl rfl rfl pv_X8_piece ⟨Nat.le_of_ble_eq_true rfl, Nat.le_of_ble_eq_true rfl⟩) (cx_preV (wc := w_X8_piece cI cJ cZ cO aM aM_strength aM_kind aM_more aM_glues aM_sheet aM_since aM_imageStrength aM_imageKind aM_imageMore aM_imageGlues aM_imagePieces aM_imageWarmth aM_imageSheet aM_imageDraw aM_stepWhat aM_stepPiece aM_stepPlace aM_stepSince aM_tape aM_shapes aM_pile aM_met aM_next aM_inputs aM_then M_pieces_190 M_warmth M_draw M_steps M_undoable M_brought M_taped M_shapeMany M_ended M_cut M_mostPieces M_walks M_walked M_kind_190 M_more_190 M_glues_190) hE hK hP hD hS hA [0, 2, 3, 4] rfl rfl (va_recv hK hP (ci := 8) (q0 := 0) rfl rfl)) rfl rfl hl.1 rfl (lv_room (Nat.le_of_ble_eq_true rfl)) dX8_rule_201 ⟨Nat.le_of_ble_eq_true rfl, Nat.le_of_ble_eq_true rfl⟩) (fun (u : (Nat → Int32) × (Nat → Int32) × (Nat → Int32) × (Int32)) => (w_X8_rule cI cJ cZ cO aM aM_strength aM_kind aM_more aM_glues aM_sheet aM_since aM_imageStrength aM_imageKind aM_imageMore aM_imageGlues aM_imagePieces aM_imageWarmth aM_imageSheet aM_imageDraw aM_stepWhat aM_stepPiece aM_stepPlace aM_stepSince aM_tape aM_shapes aM_pile aM_met aM_next aM_inputs aM_then u.2.2.2 M_warmth M_draw M_steps M_undoable M_brought M_taped M_shapeMany M_ended M_cut M_mostPieces M_walks M_walked M_strength u.1 u.2.1 u.2.2.1 M_sheet M_since M_stepWhat M_stepPiece M_stepPlace M_stepSince)) [0, 2, 3, 4] [1, 5, 6, 7, 8, 9, 10] (ads := [aM, aM_kind, aM_more, aM_glues]) (wr := [(aM_strength, .inl (cI, 51, .inl M_strength)), (aM_sheet, .inl (cI, 256, .inl M_sheet)), (aM_since, .inl (cI, 256, .inl M_since)), (aM_stepWhat, .inl (cI, 200, .inl M_stepWhat)), (aM_stepPiece, .inl (cI, 200, .inl M_stepPiece)), (aM_stepPlace, .inl (cI, 200, .inl M_stepPlace)), (aM_stepSince, .inl (cI, 200, .inl M_stepSince))]) rfl rfl (fun u => rfl) (fun u => rfl) rfl (fun u => rfl) rfl (fun u => rfl) rfl hP hD hS hA (fun r201 u H locs hw hP hD hS => ?_)
        obtain ⟨M_kind_201, M_more_201, M_glues_201, M_pieces_201⟩ := u
        try dsimp only at hw
        have hP : va_P D vwCl (w_X8_rule cI cJ cZ cO aM aM_strength aM_kind aM_more aM_glues aM_sheet aM_since aM_imageStrength aM_imageKind aM_imageMore aM_imageGlues aM_imagePieces aM_imageWarmth aM_imageSheet aM_imageDraw aM_stepWhat aM_stepPiece aM_stepPlace aM_stepSince aM_tape aM_shapes aM_pile aM_met aM_next aM_inputs aM_then M_pieces_201 M_warmth M_draw M_steps M_undoable M_brought M_taped M_shapeMany M_ended M_cut M_mostPieces M_walks M_walked M_strength M_kind_201 M_more_201 M_glues_201 M_sheet M_since M_stepWhat M_stepPiece M_stepPlace M_stepSince) H := hP
        have hD : va_D A (w_X8_rule cI cJ cZ cO aM aM_strength aM_kind aM_more aM_glues aM_sheet aM_since aM_imageStrength aM_imageKind aM_imageMore aM_imageGlues aM_imagePieces aM_imageWarmth aM_imageSheet aM_imageDraw aM_stepWhat aM_stepPiece aM_stepPlace aM_stepSince aM_tape aM_shapes aM_pile aM_met aM_next aM_inputs aM_then M_pieces_201 M_warmth M_draw M_steps M_undoable M_brought M_taped M_shapeMany M_ended M_cut M_mostPieces M_walks M_walked M_strength M_kind_201 M_more_201 M_glues_201 M_sheet M_since M_stepWhat M_stepPiece M_stepPlace M_stepSince) := hD
        refine lv_pop hx hb dX8_rule_204 rfl ?_
        refine lv_iconst (v := (0 : Int32)) hx hb dX8_rule_205 kI_0 ?_
        refine lv_istore (lv' := [(7, .int (0 : Int32)), (0, .ref aM), (1, .int x1), (2, .int x2), (3, .int x3), (4, .int x4), (5, .int x5), (6, .int x6)]) hx hb dX8_rule_206 hl (by decide) rfl (fun ls hl => ?_)
        obtain ⟨k, hw⟩ := hw
        exact b_208 k M_strength M_kind_201 M_more_201 M_glues_201 M_pieces_201 M_warmth M_sheet M_since M_stepWhat M_stepPiece M_stepPlace M_stepSince M_steps M_undoable M_brought x3 x4 x5 x6 (0 : Int32) hw H locs hP hD hS ls (lv_sub hl [1, 4, 5, 6, 7, 0] rfl)
      · have hw := hw.2 c107
        refine lv_iload_n hx hb dX8_rule_110 rfl (lv_at hl 1 rfl) ?_
        refine lv_iload hx hb dX8_rule_111 (lv_at hl 7 rfl) ?_
        refine lv_ishr hx hb dX8_rule_113 ?_
        refine lv_iconst (v := (1 : Int32)) hx hb dX8_rule_114 kI_1 ?_
        refine lv_iand hx hb dX8_rule_115 ?_
        refine lv_topi (fun v116 e116 => ?_)
        have hw := hw v116 e116
        refine lv_istore (lv' := [(8, .int v116), (0, .ref aM), (1, .int x1), (2, .int x2), (3, .int x3), (4, .int x4), (5, .int x5), (6, .int x6), (7, .int x7)]) hx hb dX8_rule_116 hl (by decide) rfl (fun ls hl => ?_)
        refine lv_aload_n hx hb dX8_rule_118 rfl (lv_at hl 1 rfl) ?_
        refine lv_iconst (v := (5 : Int32)) hx hb dX8_rule_119 kI_5 ?_
        refine lv_iconst (v := (1 : Int32)) hx hb dX8_rule_120 kI_1 ?_
        refine lv_iload hx hb dX8_rule_121 (lv_at hl 0 rfl) ?_
        refine lv_iadd hx hb dX8_rule_123 ?_
        refine lv_iconst (v := (3 : Int32)) hx hb dX8_rule_124 kI_3 ?_
        refine lv_iload hx hb dX8_rule_125 (lv_at hl 8 rfl) ?_
        refine lv_iconst (v := (2 : Int32)) hx hb dX8_rule_127 kI_2 ?_
        refine lv_irem hx hb dX8_rule_128 (by decide) ?_
        refine lv_iadd hx hb dX8_rule_129 ?_
        refine lv_iconst (v := (1 : Int32)) hx hb dX8_rule_130 kI_1 ?_
        refine lv_iload hx hb dX8_rule_131 (lv_at hl 8 rfl) ?_
        refine lv_iconst (v := (2 : Int32)) hx hb dX8_rule_133 kI_2 ?_
        refine lv_idiv hx hb dX8_rule_134 (by decide) ?_
        refine lv_iadd hx hb dX8_rule_135 ?_
        refine lv_iconst (v := (3 : Int32)) hx hb dX8_rule_136 kI_3 ?_
        refine lv_iload_n hx hb dX8_rule_137 rfl (lv_at hl 3 rfl) ?_
        refine lv_iload hx hb dX8_rule_138 (lv_at hl 8 rfl) ?_
        refine lv_ishr hx hb dX8_rule_140 ?_
        refine lv_iconst (v := (1 : Int32)) hx hb dX8_rule_141 kI_1 ?_
        refine lv_iand hx hb dX8_rule_142 ?_
        refine lv_iadd hx hb dX8_rule_143 ?_
        refine lv_bipush (v := (16 : Int32)) hx hb dX8_rule_144 kB_16 ?_
        refine lv_iconst (v := (1 : Int32)) hx hb dX8_rule_146 kI_1 ?_
        refine lv_iload hx hb dX8_rule_147 (lv_at hl 0 rfl) ?_
        refine lv_iadd hx hb dX8_rule_149 ?_
        refine lv_imul hx hb dX8_rule_150 ?_
        refine cx_goi (va_runV (As := [.int (5 : Int32), .int ((1 : Int32) + v116), .int ((3 : Int32) + (x7 - x7 / (2 : Int32) * (2 : Int32))), .int ((1 : Int32) + (x7 / (2 : Int32))), .int ((3 : Int32) + ((x2 >>> (x7 &&& 31)) &&& (1 : Int32))), .int ((16 : Int32) * ((1 : Int32) + v116))]) (rest := []) ⟨hx, hb, hml, hown, hts⟩ (c_X8_piece l D cI cJ cZ cO tS tT H.size aM aM_strength aM_kind aM_more aM_glues aM_sheet aM_since aM_imageStrength aM_imageKind aM_imageMore aM_imageGlues aM_imagePieces aM_imageWarmth aM_imageSheet aM_imageDraw aM_stepWhat aM_stepPiece aM_stepPlace aM_stepSince aM_tape aM_shapes aM_pile aM_met aM_next aM_inputs aM_then M_pieces M_warmth M_draw M_steps M_undoable M_brought M_taped M_shapeMany M_ended M_cut M_mostPieces M_walks M_walked M_kind M_more M_glues (5 : Int32) ((1 : Int32) + v116) ((3 : Int32) + (x7 - x7 / (2 : Int32) * (2 : Int32))) ((1 : Int32) + (x7 / (2 : Int32))) ((3 : Int32) + ((x2 >>> (x7 &&& 31)) &&& (1 : Int32))) ((16 : Int32) * ((1 : Int32) + v116)) _ hw) (cwV 6 hts gX8_rule_X8_piece rfl rfl rfl pv_X8_piece ⟨Nat.le_of_ble_eq_true rfl, Nat.le_of_ble_eq_true rfl⟩) (cx_preV (wc := w_X8_piece cI cJ cZ cO aM aM_strength aM_kind aM_more aM_glues aM_sheet aM_since aM_imageStrength aM_imageKind aM_imageMore aM_imageGlues aM_imagePieces aM_imageWarmth aM_imageSheet aM_imageDraw aM_stepWhat aM_stepPiece aM_stepPlace aM_stepSince aM_tape aM_shapes aM_pile aM_met aM_next aM_inputs aM_then M_pieces M_warmth M_draw M_steps M_undoable M_brought M_taped M_shapeMany M_ended M_cut M_mostPieces M_walks M_walked M_kind M_more M_glues) hE hK hP hD hS hA [0, 2, 3, 4] rfl rfl (va_recv hK hP (ci := 8) (q0 := 0) rfl rfl)) rfl rfl hl.1 rfl (lv_room (Nat.le_of_ble_eq_true rfl)) dX8_rule_151 ⟨Nat.le_of_ble_eq_true rfl, Nat.le_of_ble_eq_true rfl⟩) (fun (u : (Nat → Int32) × (Nat → Int32) × (Nat → Int32) × (Int32)) => (w_X8_rule cI cJ cZ cO aM aM_strength aM_kind aM_more aM_glues aM_sheet aM_since aM_imageStrength aM_imageKind aM_imageMore aM_imageGlues aM_imagePieces aM_imageWarmth aM_imageSheet aM_imageDraw aM_stepWhat aM_stepPiece aM_stepPlace aM_stepSince aM_tape aM_shapes aM_pile aM_met aM_next aM_inputs aM_then u.2.2.2 M_warmth M_draw M_steps M_undoable M_brought M_taped M_shapeMany M_ended M_cut M_mostPieces M_walks M_walked M_strength u.1 u.2.1 u.2.2.1 M_sheet M_since M_stepWhat M_stepPiece M_stepPlace M_stepSince)) [0, 2, 3, 4] [1, 5, 6, 7, 8, 9, 10] (ads := [aM, aM_kind, aM_more, aM_glues]) (wr := [(aM_strength, .inl (cI, 51, .inl M_strength)), (aM_sheet, .inl (cI, 256, .inl M_sheet)), (aM_since, .inl (cI, 256, .inl M_since)), (aM_stepWhat, .inl (cI, 200, .inl M_stepWhat)), (aM_stepPiece, .inl (cI, 200, .inl M_stepPiece)), (aM_stepPlace, .inl (cI, 200, .inl M_stepPlace)), (aM_stepSince, .inl (cI, 200, .inl M_stepSince))]) rfl rfl (fun u => rfl) (fun u => rfl) rfl (fun u => rfl) rfl (fun u => rfl) rfl hP hD hS hA (fun r151 u H locs hw hP hD hS => ?_)
        obtain ⟨M_kind_151, M_more_151, M_glues_151, M_pieces_151⟩ := u
        try dsimp only at hw
        have hP : va_P D vwCl (w_X8_rule cI cJ cZ cO aM aM_strength aM_kind aM_more aM_glues aM_sheet aM_since aM_imageStrength aM_imageKind aM_imageMore aM_imageGlues aM_imagePieces aM_imageWarmth aM_imageSheet aM_imageDraw aM_stepWhat aM_stepPiece aM_stepPlace aM_stepSince aM_tape aM_shapes aM_pile aM_met aM_next aM_inputs aM_then M_pieces_151 M_warmth M_draw M_steps M_undoable M_brought M_taped M_shapeMany M_ended M_cut M_mostPieces M_walks M_walked M_strength M_kind_151 M_more_151 M_glues_151 M_sheet M_since M_stepWhat M_stepPiece M_stepPlace M_stepSince) H := hP
        have hD : va_D A (w_X8_rule cI cJ cZ cO aM aM_strength aM_kind aM_more aM_glues aM_sheet aM_since aM_imageStrength aM_imageKind aM_imageMore aM_imageGlues aM_imagePieces aM_imageWarmth aM_imageSheet aM_imageDraw aM_stepWhat aM_stepPiece aM_stepPlace aM_stepSince aM_tape aM_shapes aM_pile aM_met aM_next aM_inputs aM_then M_pieces_151 M_warmth M_draw M_steps M_undoable M_brought M_taped M_shapeMany M_ended M_cut M_mostPieces M_walks M_walked M_strength M_kind_151 M_more_151 M_glues_151 M_sheet M_since M_stepWhat M_stepPiece M_stepPlace M_stepSince) := hD
        refine lv_pop hx hb dX8_rule_154 rfl ?_
        obtain ⟨v155, e155⟩ : ∃ y : Int32, y = x7 + (1 : Int32) := ⟨_, rfl⟩
        have hw := hw v155 e155
        refine lv_iinc (v := v155) (lv' := [(7, .int v155), (8, .int v116), (0, .ref aM), (1, .int x1), (2, .int x2), (3, .int x3), (4, .int x4), (5, .int x5), (6, .int x6)]) hx hb dX8_rule_155 hl (k := 8) rfl (by rw [e155, kI_1]) (by decide) rfl (fun ls hl => ?_)
        refine lv_goto (tgt := 104) hx hb dX8_rule_158 (by decide) ?_
        exact ih_104 M_strength M_kind_151 M_more_151 M_glues_151 M_pieces_151 M_warmth M_sheet M_since M_stepWhat M_stepPiece M_stepPlace M_stepSince M_steps M_undoable M_brought x1 x2 x3 x4 x5 x6 v155 hw H locs hP hD hS ls (lv_sub hl [2, 3, 4, 5, 6, 7, 8, 0] rfl)
  have b_59 : ∀ n_59 : Nat, ∀ (M_strength : Nat → Int32) (M_kind : Nat → Int32) (M_more : Nat → Int32) (M_glues : Nat → Int32) (M_pieces : Int32) (M_warmth : Int32) (M_sheet : Nat → Int32) (M_since : Nat → Int32) (M_stepWhat : Nat → Int32) (M_stepPiece : Nat → Int32) (M_stepPlace : Nat → Int32) (M_stepSince : Nat → Int32) (M_steps : Int32) (M_undoable : Int32) (M_brought : Int32) (x1 : Int32) (x2 : Int32) (x3 : Int32) (x4 : Int32) (x5 : Int32) (x6 : Int32) (x7 : Int32), wq_X8_rule_59  Q n_59 M_strength M_kind M_more M_glues M_pieces M_warmth M_sheet M_since M_stepWhat M_stepPiece M_stepPlace M_stepSince M_steps M_undoable M_brought x1 x2 x3 x4 x5 x6 x7 → ∀ (H : Heap) (locs : List Loc), va_P D vwCl (w_X8_rule cI cJ cZ cO aM aM_strength aM_kind aM_more aM_glues aM_sheet aM_since aM_imageStrength aM_imageKind aM_imageMore aM_imageGlues aM_imagePieces aM_imageWarmth aM_imageSheet aM_imageDraw aM_stepWhat aM_stepPiece aM_stepPlace aM_stepSince aM_tape aM_shapes aM_pile aM_met aM_next aM_inputs aM_then M_pieces M_warmth M_draw M_steps M_undoable M_brought M_taped M_shapeMany M_ended M_cut M_mostPieces M_walks M_walked M_strength M_kind M_more M_glues M_sheet M_since M_stepWhat M_stepPiece M_stepPlace M_stepSince) H → va_D A (w_X8_rule cI cJ cZ cO aM aM_strength aM_kind aM_more aM_glues aM_sheet aM_since aM_imageStrength aM_imageKind aM_imageMore aM_imageGlues aM_imagePieces aM_imageWarmth aM_imageSheet aM_imageDraw aM_stepWhat aM_stepPiece aM_stepPlace aM_stepSince aM_tape aM_shapes aM_pile aM_met aM_next aM_inputs aM_then M_pieces M_warmth M_draw M_steps M_undoable M_brought M_taped M_shapeMany M_ended M_cut M_mostPieces M_walks M_walked M_strength M_kind M_more M_glues M_sheet M_since M_stepWhat M_stepPiece M_stepPlace M_stepSince) → va_S A s.heap H locs → ∀ ls : Array Slot, lv_has ls 9 [(0, .ref aM), (1, .int x1), (2, .int x2), (3, .int x3), (4, .int x4), (5, .int x5), (6, .int x6), (7, .int x7)] → W p l e rm_X8_rule s m args below meth c H locs 0 0 Z (F0 m 59 ls []) := by
    intro n_59
    induction n_59 with
    | zero => intro M_strength M_kind M_more M_glues M_pieces M_warmth M_sheet M_since M_stepWhat M_stepPiece M_stepPlace M_stepSince M_steps M_undoable M_brought x1 x2 x3 x4 x5 x6 x7 hw; exact False.elim hw
    | succ n_59 ih_59 =>
      have b_89 : ∀ (M_strength : Nat → Int32) (M_kind : Nat → Int32) (M_more : Nat → Int32) (M_glues : Nat → Int32) (M_pieces : Int32) (M_warmth : Int32) (M_sheet : Nat → Int32) (M_since : Nat → Int32) (M_stepWhat : Nat → Int32) (M_stepPiece : Nat → Int32) (M_stepPlace : Nat → Int32) (M_stepSince : Nat → Int32) (M_steps : Int32) (M_undoable : Int32) (M_brought : Int32) (x1 : Int32) (x2 : Int32) (x3 : Int32) (x4 : Int32) (x5 : Int32) (x6 : Int32) (x7 : Int32) (y1 : Int32) (y2 : Int32), wq_X8_rule_89  (wq_X8_rule_59  Q n_59) Q M_strength M_kind M_more M_glues M_pieces M_warmth M_sheet M_since M_stepWhat M_stepPiece M_stepPlace M_stepSince M_steps M_undoable M_brought x1 x2 x3 x4 x5 x6 x7 y1 y2 → ∀ (H : Heap) (locs : List Loc), va_P D vwCl (w_X8_rule cI cJ cZ cO aM aM_strength aM_kind aM_more aM_glues aM_sheet aM_since aM_imageStrength aM_imageKind aM_imageMore aM_imageGlues aM_imagePieces aM_imageWarmth aM_imageSheet aM_imageDraw aM_stepWhat aM_stepPiece aM_stepPlace aM_stepSince aM_tape aM_shapes aM_pile aM_met aM_next aM_inputs aM_then M_pieces M_warmth M_draw M_steps M_undoable M_brought M_taped M_shapeMany M_ended M_cut M_mostPieces M_walks M_walked M_strength M_kind M_more M_glues M_sheet M_since M_stepWhat M_stepPiece M_stepPlace M_stepSince) H → va_D A (w_X8_rule cI cJ cZ cO aM aM_strength aM_kind aM_more aM_glues aM_sheet aM_since aM_imageStrength aM_imageKind aM_imageMore aM_imageGlues aM_imagePieces aM_imageWarmth aM_imageSheet aM_imageDraw aM_stepWhat aM_stepPiece aM_stepPlace aM_stepSince aM_tape aM_shapes aM_pile aM_met aM_next aM_inputs aM_then M_pieces M_warmth M_draw M_steps M_undoable M_brought M_taped M_shapeMany M_ended M_cut M_mostPieces M_walks M_walked M_strength M_kind M_more M_glues M_sheet M_since M_stepWhat M_stepPiece M_stepPlace M_stepSince) → va_S A s.heap H locs → ∀ ls : Array Slot, lv_has ls 9 [(0, .ref aM), (1, .int x1), (2, .int x2), (3, .int x3), (4, .int x4), (5, .int x5), (6, .int x6), (7, .int x7)] → W p l e rm_X8_rule s m args below meth c H locs 0 0 Z (F0 m 89 ls [.int y2, .int y1, .ref aM_strength]) := by
        intro M_strength M_kind M_more M_glues M_pieces M_warmth M_sheet M_since M_stepWhat M_stepPiece M_stepPlace M_stepSince M_steps M_undoable M_brought x1 x2 x3 x4 x5 x6 x7 y1 y2 hw H locs hP hD hS ls hl
        unfold wq_X8_rule_89 at hw
        have h89 := hw.1
        have hw := hw.2
        refine va_iast hx hb hK hP hD hS 1 0 rfl rfl h89 dX8_rule_89 (fun H locs hP hD hS => ?_)
        have hP : va_P D vwCl (w_X8_rule cI cJ cZ cO aM aM_strength aM_kind aM_more aM_glues aM_sheet aM_since aM_imageStrength aM_imageKind aM_imageMore aM_imageGlues aM_imagePieces aM_imageWarmth aM_imageSheet aM_imageDraw aM_stepWhat aM_stepPiece aM_stepPlace aM_stepSince aM_tape aM_shapes aM_pile aM_met aM_next aM_inputs aM_then M_pieces M_warmth M_draw M_steps M_undoable M_brought M_taped M_shapeMany M_ended M_cut M_mostPieces M_walks M_walked (upd M_strength y1.toNatClampNeg y2) M_kind M_more M_glues M_sheet M_since M_stepWhat M_stepPiece M_stepPlace M_stepSince) H := hP
        have hD : va_D A (w_X8_rule cI cJ cZ cO aM aM_strength aM_kind aM_more aM_glues aM_sheet aM_since aM_imageStrength aM_imageKind aM_imageMore aM_imageGlues aM_imagePieces aM_imageWarmth aM_imageSheet aM_imageDraw aM_stepWhat aM_stepPiece aM_stepPlace aM_stepSince aM_tape aM_shapes aM_pile aM_met aM_next aM_inputs aM_then M_pieces M_warmth M_draw M_steps M_undoable M_brought M_taped M_shapeMany M_ended M_cut M_mostPieces M_walks M_walked (upd M_strength y1.toNatClampNeg y2) M_kind M_more M_glues M_sheet M_since M_stepWhat M_stepPiece M_stepPlace M_stepSince) := hD
        obtain ⟨M_strength_89, e89⟩ : ∃ y : Nat → Int32, y = upd M_strength y1.toNatClampNeg y2 := ⟨_, rfl⟩
        rw [← e89] at hP hD
        have hw := hw M_strength_89 e89
        obtain ⟨v90, e90⟩ : ∃ y : Int32, y = x7 + (1 : Int32) := ⟨_, rfl⟩
        have hw := hw v90 e90
        refine lv_iinc (v := v90) (lv' := [(7, .int v90), (0, .ref aM), (1, .int x1), (2, .int x2), (3, .int x3), (4, .int x4), (5, .int x5), (6, .int x6)]) hx hb dX8_rule_90 hl (k := 7) rfl (by rw [e90, kI_1]) (by decide) rfl (fun ls hl => ?_)
        refine lv_goto (tgt := 59) hx hb dX8_rule_93 (by decide) ?_
        exact ih_59 M_strength_89 M_kind M_more M_glues M_pieces M_warmth M_sheet M_since M_stepWhat M_stepPiece M_stepPlace M_stepSince M_steps M_undoable M_brought x1 x2 x3 x4 x5 x6 v90 hw H locs hP hD hS ls (lv_sub hl [1, 2, 3, 4, 5, 6, 7, 0] rfl)
      have b_88 : ∀ (M_strength : Nat → Int32) (M_kind : Nat → Int32) (M_more : Nat → Int32) (M_glues : Nat → Int32) (M_pieces : Int32) (M_warmth : Int32) (M_sheet : Nat → Int32) (M_since : Nat → Int32) (M_stepWhat : Nat → Int32) (M_stepPiece : Nat → Int32) (M_stepPlace : Nat → Int32) (M_stepSince : Nat → Int32) (M_steps : Int32) (M_undoable : Int32) (M_brought : Int32) (x1 : Int32) (x2 : Int32) (x3 : Int32) (x4 : Int32) (x5 : Int32) (x6 : Int32) (x7 : Int32) (y1 : Int32), wq_X8_rule_88  (wq_X8_rule_59  Q n_59) Q M_strength M_kind M_more M_glues M_pieces M_warmth M_sheet M_since M_stepWhat M_stepPiece M_stepPlace M_stepSince M_steps M_undoable M_brought x1 x2 x3 x4 x5 x6 x7 y1 → ∀ (H : Heap) (locs : List Loc), va_P D vwCl (w_X8_rule cI cJ cZ cO aM aM_strength aM_kind aM_more aM_glues aM_sheet aM_since aM_imageStrength aM_imageKind aM_imageMore aM_imageGlues aM_imagePieces aM_imageWarmth aM_imageSheet aM_imageDraw aM_stepWhat aM_stepPiece aM_stepPlace aM_stepSince aM_tape aM_shapes aM_pile aM_met aM_next aM_inputs aM_then M_pieces M_warmth M_draw M_steps M_undoable M_brought M_taped M_shapeMany M_ended M_cut M_mostPieces M_walks M_walked M_strength M_kind M_more M_glues M_sheet M_since M_stepWhat M_stepPiece M_stepPlace M_stepSince) H → va_D A (w_X8_rule cI cJ cZ cO aM aM_strength aM_kind aM_more aM_glues aM_sheet aM_since aM_imageStrength aM_imageKind aM_imageMore aM_imageGlues aM_imagePieces aM_imageWarmth aM_imageSheet aM_imageDraw aM_stepWhat aM_stepPiece aM_stepPlace aM_stepSince aM_tape aM_shapes aM_pile aM_met aM_next aM_inputs aM_then M_pieces M_warmth M_draw M_steps M_undoable M_brought M_taped M_shapeMany M_ended M_cut M_mostPieces M_walks M_walked M_strength M_kind M_more M_glues M_sheet M_since M_stepWhat M_stepPiece M_stepPlace M_stepSince) → va_S A s.heap H locs → ∀ ls : Array Slot, lv_has ls 9 [(0, .ref aM), (1, .int x1), (2, .int x2), (3, .int x3), (4, .int x4), (5, .int x5), (6, .int x6), (7, .int x7)] → W p l e rm_X8_rule s m args below meth c H locs 0 0 Z (F0 m 88 ls [.int y1, .ref aM_strength]) := by
        intro M_strength M_kind M_more M_glues M_pieces M_warmth M_sheet M_since M_stepWhat M_stepPiece M_stepPlace M_stepSince M_steps M_undoable M_brought x1 x2 x3 x4 x5 x6 x7 y1 hw H locs hP hD hS ls hl
        unfold wq_X8_rule_88 at hw
        refine lv_iconst (v := (0 : Int32)) hx hb dX8_rule_88 kI_0 ?_
        exact b_89 M_strength M_kind M_more M_glues M_pieces M_warmth M_sheet M_since M_stepWhat M_stepPiece M_stepPlace M_stepSince M_steps M_undoable M_brought x1 x2 x3 x4 x5 x6 x7 y1 (0 : Int32) hw H locs hP hD hS ls (lv_sub hl [0, 1, 2, 3, 4, 5, 6, 7] rfl)
      intro M_strength M_kind M_more M_glues M_pieces M_warmth M_sheet M_since M_stepWhat M_stepPiece M_stepPlace M_stepSince M_steps M_undoable M_brought x1 x2 x3 x4 x5 x6 x7 hw H locs hP hD hS ls hl
      have hw : wf_X8_rule_59  Q (wq_X8_rule_59  Q n_59) M_strength M_kind M_more M_glues M_pieces M_warmth M_sheet M_since M_stepWhat M_stepPiece M_stepPlace M_stepSince M_steps M_undoable M_brought x1 x2 x3 x4 x5 x6 x7 := hw
      unfold wf_X8_rule_59 at hw
      refine lv_iload hx hb dX8_rule_59 (lv_at hl 7 rfl) ?_
      refine lv_bipush (v := (50 : Int32)) hx hb dX8_rule_61 kB_50 ?_
      refine lv_icmp_gt (tgt := 96) hx hb dX8_rule_63 (by decide) (fun c63 => ?_) (fun c63 => ?_)
      · have hw := hw.1 c63
        refine lv_aload_n hx hb dX8_rule_96 rfl (lv_at hl 0 rfl) ?_
        refine lv_iconst (v := (2 : Int32)) hx hb dX8_rule_97 kI_2 ?_
        refine va_put (D := D) (ci := 8) (v := .int (2 : Int32)) (ty := .int) (C := RX8) (T := TX8) (N := 38) hx hb hts in_X8_rule_X8 tyX8 tyX8_ok nmX8 hown hK hP hD hS 0 rfl rfl 5 (by decide) k_0 (fun _ h9 => h9) rfl (tyX8_ok 5 (by decide)) rfl rfl (Nat.le_of_ble_eq_true rfl) dX8_rule_98 (fun H locs hP hD hS => ?_)
        have hP : va_P D vwCl (w_X8_rule cI cJ cZ cO aM aM_strength aM_kind aM_more aM_glues aM_sheet aM_since aM_imageStrength aM_imageKind aM_imageMore aM_imageGlues aM_imagePieces aM_imageWarmth aM_imageSheet aM_imageDraw aM_stepWhat aM_stepPiece aM_stepPlace aM_stepSince aM_tape aM_shapes aM_pile aM_met aM_next aM_inputs aM_then M_pieces (2 : Int32) M_draw M_steps M_undoable M_brought M_taped M_shapeMany M_ended M_cut M_mostPieces M_walks M_walked M_strength M_kind M_more M_glues M_sheet M_since M_stepWhat M_stepPiece M_stepPlace M_stepSince) H := hP
        have hD : va_D A (w_X8_rule cI cJ cZ cO aM aM_strength aM_kind aM_more aM_glues aM_sheet aM_since aM_imageStrength aM_imageKind aM_imageMore aM_imageGlues aM_imagePieces aM_imageWarmth aM_imageSheet aM_imageDraw aM_stepWhat aM_stepPiece aM_stepPlace aM_stepSince aM_tape aM_shapes aM_pile aM_met aM_next aM_inputs aM_then M_pieces (2 : Int32) M_draw M_steps M_undoable M_brought M_taped M_shapeMany M_ended M_cut M_mostPieces M_walks M_walked M_strength M_kind M_more M_glues M_sheet M_since M_stepWhat M_stepPiece M_stepPlace M_stepSince) := hD
        refine lv_iconst (v := (0 : Int32)) hx hb dX8_rule_101 kI_0 ?_
        refine lv_istore (lv' := [(7, .int (0 : Int32)), (0, .ref aM), (1, .int x1), (2, .int x2), (3, .int x3), (4, .int x4), (5, .int x5), (6, .int x6)]) hx hb dX8_rule_102 hl (by decide) rfl (fun ls hl => ?_)
        obtain ⟨k, hw⟩ := hw
        exact b_104 k M_strength M_kind M_more M_glues M_pieces (2 : Int32) M_sheet M_since M_stepWhat M_stepPiece M_stepPlace M_stepSince M_steps M_undoable M_brought x1 x2 x3 x4 x5 x6 (0 : Int32) hw H locs hP hD hS ls (lv_sub hl [1, 2, 3, 4, 5, 6, 7, 0] rfl)
      · have hw := hw.2 c63
        refine lv_aload_n hx hb dX8_rule_66 rfl (lv_at hl 0 rfl) ?_
        refine va_get (D := D) (ci := 8) (v := .ref aM_strength) (C := RX8) (T := TX8) (N := 38) hx hb hts in_X8_rule_X8 hown hK hP 0 rfl rfl 0 (by decide) k_1 (fun _ h9 => h9) rfl dX8_rule_67 ?_
        refine lv_iload hx hb dX8_rule_70 (lv_at hl 7 rfl) ?_
        refine lv_iload hx hb dX8_rule_72 (lv_at hl 7 rfl) ?_
        refine lv_iconst (v := (1 : Int32)) hx hb dX8_rule_74 kI_1 ?_
        refine lv_icmp_lt (tgt := 88) hx hb dX8_rule_75 (by decide) (fun c75 => ?_) (fun c75 => ?_)
        · have hw := hw.1 c75
          exact b_88 M_strength M_kind M_more M_glues M_pieces M_warmth M_sheet M_since M_stepWhat M_stepPiece M_stepPlace M_stepSince M_steps M_undoable M_brought x1 x2 x3 x4 x5 x6 x7 x7 hw H locs hP hD hS ls (lv_sub hl [0, 1, 2, 3, 4, 5, 6, 7] rfl)
        · have hw := hw.2 c75
          refine lv_iload hx hb dX8_rule_78 (lv_at hl 7 rfl) ?_
          refine lv_iconst (v := (4 : Int32)) hx hb dX8_rule_80 kI_4 ?_
          refine lv_icmp_gt (tgt := 88) hx hb dX8_rule_81 (by decide) (fun c81 => ?_) (fun c81 => ?_)
          · have hw := hw.1 c81
            exact b_88 M_strength M_kind M_more M_glues M_pieces M_warmth M_sheet M_since M_stepWhat M_stepPiece M_stepPlace M_stepSince M_steps M_undoable M_brought x1 x2 x3 x4 x5 x6 x7 x7 hw H locs hP hD hS ls (lv_sub hl [0, 1, 2, 3, 4, 5, 6, 7] rfl)
          · have hw := hw.2 c81
            refine lv_iconst (v := (1 : Int32)) hx hb dX8_rule_84 kI_1 ?_
            refine lv_goto (tgt := 89) hx hb dX8_rule_85 (by decide) ?_
            exact b_89 M_strength M_kind M_more M_glues M_pieces M_warmth M_sheet M_since M_stepWhat M_stepPiece M_stepPlace M_stepSince M_steps M_undoable M_brought x1 x2 x3 x4 x5 x6 x7 x7 (1 : Int32) hw H locs hP hD hS ls (lv_sub hl [0, 1, 2, 3, 4, 5, 6, 7] rfl)
  intro H locs hP hD hS ls hl
  unfold wp_X8_rule at hw
  refine lv_iload_n hx hb dX8_rule_0 rfl (lv_at hl 1 rfl) ?_
  refine lv_if_lt (tgt := 44) hx hb dX8_rule_1 (by decide) (fun c1 => ?_) (fun c1 => ?_)
  · have hw := hw.1 c1
    refine lv_iconst (v := (-1 : Int32)) hx hb dX8_rule_44 kI_m1 ?_
    rw [hZ]
    exact cx_reti (M_strength, M_kind, M_more, M_glues, M_pieces, M_warmth, M_sheet, M_since, M_stepWhat, M_stepPiece, M_stepPlace, M_stepSince, M_steps, M_undoable, M_brought) hx hb hr hlocks hw hP hS dX8_rule_45
  · have hw := hw.2 c1
    refine lv_iload_n hx hb dX8_rule_4 rfl (lv_at hl 1 rfl) ?_
    refine lv_bipush (v := (15 : Int32)) hx hb dX8_rule_5 kB_15 ?_
    refine lv_icmp_gt (tgt := 44) hx hb dX8_rule_7 (by decide) (fun c7 => ?_) (fun c7 => ?_)
    · have hw := hw.1 c7
      refine lv_iconst (v := (-1 : Int32)) hx hb dX8_rule_44 kI_m1 ?_
      rw [hZ]
      exact cx_reti (M_strength, M_kind, M_more, M_glues, M_pieces, M_warmth, M_sheet, M_since, M_stepWhat, M_stepPiece, M_stepPlace, M_stepSince, M_steps, M_undoable, M_brought) hx hb hr hlocks hw hP hS dX8_rule_45
    · have hw := hw.2 c7
      refine lv_iload_n hx hb dX8_rule_10 rfl (lv_at hl 2 rfl) ?_
      refine lv_if_lt (tgt := 44) hx hb dX8_rule_11 (by decide) (fun c11 => ?_) (fun c11 => ?_)
      · have hw := hw.1 c11
        refine lv_iconst (v := (-1 : Int32)) hx hb dX8_rule_44 kI_m1 ?_
        rw [hZ]
        exact cx_reti (M_strength, M_kind, M_more, M_glues, M_pieces, M_warmth, M_sheet, M_since, M_stepWhat, M_stepPiece, M_stepPlace, M_stepSince, M_steps, M_undoable, M_brought) hx hb hr hlocks hw hP hS dX8_rule_45
      · have hw := hw.2 c11
        refine lv_iload_n hx hb dX8_rule_14 rfl (lv_at hl 2 rfl) ?_
        refine lv_bipush (v := (15 : Int32)) hx hb dX8_rule_15 kB_15 ?_
        refine lv_icmp_gt (tgt := 44) hx hb dX8_rule_17 (by decide) (fun c17 => ?_) (fun c17 => ?_)
        · have hw := hw.1 c17
          refine lv_iconst (v := (-1 : Int32)) hx hb dX8_rule_44 kI_m1 ?_
          rw [hZ]
          exact cx_reti (M_strength, M_kind, M_more, M_glues, M_pieces, M_warmth, M_sheet, M_since, M_stepWhat, M_stepPiece, M_stepPlace, M_stepSince, M_steps, M_undoable, M_brought) hx hb hr hlocks hw hP hS dX8_rule_45
        · have hw := hw.2 c17
          refine lv_iload_n hx hb dX8_rule_20 rfl (lv_at hl 3 rfl) ?_
          refine lv_iconst (v := (1 : Int32)) hx hb dX8_rule_21 kI_1 ?_
          refine lv_icmp_lt (tgt := 44) hx hb dX8_rule_22 (by decide) (fun c22 => ?_) (fun c22 => ?_)
          · have hw := hw.1 c22
            refine lv_iconst (v := (-1 : Int32)) hx hb dX8_rule_44 kI_m1 ?_
            rw [hZ]
            exact cx_reti (M_strength, M_kind, M_more, M_glues, M_pieces, M_warmth, M_sheet, M_since, M_stepWhat, M_stepPiece, M_stepPlace, M_stepSince, M_steps, M_undoable, M_brought) hx hb hr hlocks hw hP hS dX8_rule_45
          · have hw := hw.2 c22
            refine lv_iload_n hx hb dX8_rule_25 rfl (lv_at hl 3 rfl) ?_
            refine lv_bipush (v := (15 : Int32)) hx hb dX8_rule_26 kB_15 ?_
            refine lv_icmp_gt (tgt := 44) hx hb dX8_rule_28 (by decide) (fun c28 => ?_) (fun c28 => ?_)
            · have hw := hw.1 c28
              refine lv_iconst (v := (-1 : Int32)) hx hb dX8_rule_44 kI_m1 ?_
              rw [hZ]
              exact cx_reti (M_strength, M_kind, M_more, M_glues, M_pieces, M_warmth, M_sheet, M_since, M_stepWhat, M_stepPiece, M_stepPlace, M_stepSince, M_steps, M_undoable, M_brought) hx hb hr hlocks hw hP hS dX8_rule_45
            · have hw := hw.2 c28
              refine lv_iload hx hb dX8_rule_31 (lv_at hl 4 rfl) ?_
              refine lv_iconst (v := (1 : Int32)) hx hb dX8_rule_33 kI_1 ?_
              refine lv_icmp_lt (tgt := 44) hx hb dX8_rule_34 (by decide) (fun c34 => ?_) (fun c34 => ?_)
              · have hw := hw.1 c34
                refine lv_iconst (v := (-1 : Int32)) hx hb dX8_rule_44 kI_m1 ?_
                rw [hZ]
                exact cx_reti (M_strength, M_kind, M_more, M_glues, M_pieces, M_warmth, M_sheet, M_since, M_stepWhat, M_stepPiece, M_stepPlace, M_stepSince, M_steps, M_undoable, M_brought) hx hb hr hlocks hw hP hS dX8_rule_45
              · have hw := hw.2 c34
                refine lv_iload hx hb dX8_rule_37 (lv_at hl 4 rfl) ?_
                refine lv_bipush (v := (15 : Int32)) hx hb dX8_rule_39 kB_15 ?_
                refine lv_icmp_le (tgt := 46) hx hb dX8_rule_41 (by decide) (fun c41 => ?_) (fun c41 => ?_)
                · have hw := hw.1 c41
                  refine lv_aload_n hx hb dX8_rule_46 rfl (lv_at hl 0 rfl) ?_
                  refine cx_goi (va_runV (As := []) (rest := []) ⟨hx, hb, hml, hown, hts⟩ (c_X8_clear l D cI cJ cZ cO tS tT H.size aM aM_strength aM_kind aM_more aM_glues aM_sheet aM_since aM_imageStrength aM_imageKind aM_imageMore aM_imageGlues aM_imagePieces aM_imageWarmth aM_imageSheet aM_imageDraw aM_stepWhat aM_stepPiece aM_stepPlace aM_stepSince aM_tape aM_shapes aM_pile aM_met aM_next aM_inputs aM_then M_pieces M_warmth M_draw M_steps M_undoable M_brought M_taped M_shapeMany M_ended M_cut M_mostPieces M_walks M_walked M_sheet M_since _ hw) (cwV 0 hts gX8_rule_X8_clear rfl rfl rfl pv_X8_clear ⟨Nat.le_of_ble_eq_true rfl, Nat.le_of_ble_eq_true rfl⟩) (cx_preV (wc := w_X8_clear cI cJ cZ cO aM aM_strength aM_kind aM_more aM_glues aM_sheet aM_since aM_imageStrength aM_imageKind aM_imageMore aM_imageGlues aM_imagePieces aM_imageWarmth aM_imageSheet aM_imageDraw aM_stepWhat aM_stepPiece aM_stepPlace aM_stepSince aM_tape aM_shapes aM_pile aM_met aM_next aM_inputs aM_then M_pieces M_warmth M_draw M_steps M_undoable M_brought M_taped M_shapeMany M_ended M_cut M_mostPieces M_walks M_walked M_sheet M_since) hE hK hP hD hS hA [0, 5, 6] rfl rfl (va_recv hK hP (ci := 8) (q0 := 0) rfl rfl)) rfl rfl hl.1 rfl (lv_room (Nat.le_of_ble_eq_true rfl)) dX8_rule_47 ⟨Nat.le_of_ble_eq_true rfl, Nat.le_of_ble_eq_true rfl⟩) (fun (u : (Nat → Int32) × (Nat → Int32) × (Int32) × (Int32) × (Int32)) => (w_X8_rule cI cJ cZ cO aM aM_strength aM_kind aM_more aM_glues aM_sheet aM_since aM_imageStrength aM_imageKind aM_imageMore aM_imageGlues aM_imagePieces aM_imageWarmth aM_imageSheet aM_imageDraw aM_stepWhat aM_stepPiece aM_stepPlace aM_stepSince aM_tape aM_shapes aM_pile aM_met aM_next aM_inputs aM_then M_pieces M_warmth M_draw u.2.2.1 u.2.2.2.1 u.2.2.2.2 M_taped M_shapeMany M_ended M_cut M_mostPieces M_walks M_walked M_strength M_kind M_more M_glues u.1 u.2.1 M_stepWhat M_stepPiece M_stepPlace M_stepSince)) [0, 5, 6] [1, 2, 3, 4, 7, 8, 9, 10] (ads := [aM, aM_sheet, aM_since]) (wr := [(aM_strength, .inl (cI, 51, .inl M_strength)), (aM_kind, .inl (cI, 40, .inl M_kind)), (aM_more, .inl (cI, 40, .inl M_more)), (aM_glues, .inl (cI, 160, .inl M_glues)), (aM_stepWhat, .inl (cI, 200, .inl M_stepWhat)), (aM_stepPiece, .inl (cI, 200, .inl M_stepPiece)), (aM_stepPlace, .inl (cI, 200, .inl M_stepPlace)), (aM_stepSince, .inl (cI, 200, .inl M_stepSince))]) rfl rfl (fun u => rfl) (fun u => rfl) rfl (fun u => rfl) rfl (fun u => rfl) rfl hP hD hS hA (fun r47 u H locs hw hP hD hS => ?_)
                  obtain ⟨M_sheet_47, M_since_47, M_steps_47, M_undoable_47, M_brought_47⟩ := u
                  try dsimp only at hw
                  have hP : va_P D vwCl (w_X8_rule cI cJ cZ cO aM aM_strength aM_kind aM_more aM_glues aM_sheet aM_since aM_imageStrength aM_imageKind aM_imageMore aM_imageGlues aM_imagePieces aM_imageWarmth aM_imageSheet aM_imageDraw aM_stepWhat aM_stepPiece aM_stepPlace aM_stepSince aM_tape aM_shapes aM_pile aM_met aM_next aM_inputs aM_then M_pieces M_warmth M_draw M_steps_47 M_undoable_47 M_brought_47 M_taped M_shapeMany M_ended M_cut M_mostPieces M_walks M_walked M_strength M_kind M_more M_glues M_sheet_47 M_since_47 M_stepWhat M_stepPiece M_stepPlace M_stepSince) H := hP
                  have hD : va_D A (w_X8_rule cI cJ cZ cO aM aM_strength aM_kind aM_more aM_glues aM_sheet aM_since aM_imageStrength aM_imageKind aM_imageMore aM_imageGlues aM_imagePieces aM_imageWarmth aM_imageSheet aM_imageDraw aM_stepWhat aM_stepPiece aM_stepPlace aM_stepSince aM_tape aM_shapes aM_pile aM_met aM_next aM_inputs aM_then M_pieces M_warmth M_draw M_steps_47 M_undoable_47 M_brought_47 M_taped M_shapeMany M_ended M_cut M_mostPieces M_walks M_walked M_strength M_kind M_more M_glues M_sheet_47 M_since_47 M_stepWhat M_stepPiece M_stepPlace M_stepSince) := hD
                  refine lv_pop hx hb dX8_rule_50 rfl ?_
                  refine lv_aload_n hx hb dX8_rule_51 rfl (lv_at hl 0 rfl) ?_
                  refine lv_iconst (v := (0 : Int32)) hx hb dX8_rule_52 kI_0 ?_
                  refine va_put (D := D) (ci := 8) (v := .int (0 : Int32)) (ty := .int) (C := RX8) (T := TX8) (N := 38) hx hb hts in_X8_rule_X8 tyX8 tyX8_ok nmX8 hown hK hP hD hS 0 rfl rfl 4 (by decide) k_2 (fun _ h9 => h9) rfl (tyX8_ok 4 (by decide)) rfl rfl (Nat.le_of_ble_eq_true rfl) dX8_rule_53 (fun H locs hP hD hS => ?_)
                  have hP : va_P D vwCl (w_X8_rule cI cJ cZ cO aM aM_strength aM_kind aM_more aM_glues aM_sheet aM_since aM_imageStrength aM_imageKind aM_imageMore aM_imageGlues aM_imagePieces aM_imageWarmth aM_imageSheet aM_imageDraw aM_stepWhat aM_stepPiece aM_stepPlace aM_stepSince aM_tape aM_shapes aM_pile aM_met aM_next aM_inputs aM_then (0 : Int32) M_warmth M_draw M_steps_47 M_undoable_47 M_brought_47 M_taped M_shapeMany M_ended M_cut M_mostPieces M_walks M_walked M_strength M_kind M_more M_glues M_sheet_47 M_since_47 M_stepWhat M_stepPiece M_stepPlace M_stepSince) H := hP
                  have hD : va_D A (w_X8_rule cI cJ cZ cO aM aM_strength aM_kind aM_more aM_glues aM_sheet aM_since aM_imageStrength aM_imageKind aM_imageMore aM_imageGlues aM_imagePieces aM_imageWarmth aM_imageSheet aM_imageDraw aM_stepWhat aM_stepPiece aM_stepPlace aM_stepSince aM_tape aM_shapes aM_pile aM_met aM_next aM_inputs aM_then (0 : Int32) M_warmth M_draw M_steps_47 M_undoable_47 M_brought_47 M_taped M_shapeMany M_ended M_cut M_mostPieces M_walks M_walked M_strength M_kind M_more M_glues M_sheet_47 M_since_47 M_stepWhat M_stepPiece M_stepPlace M_stepSince) := hD
                  refine lv_iconst (v := (0 : Int32)) hx hb dX8_rule_56 kI_0 ?_
                  refine lv_istore (lv' := [(7, .int (0 : Int32)), (0, .ref aM), (1, .int p1), (2, .int p2), (3, .int p3), (4, .int p4), (5, .int p5), (6, .int p6)]) hx hb dX8_rule_57 hl (by decide) rfl (fun ls hl => ?_)
                  obtain ⟨k, hw⟩ := hw
                  exact b_59 k M_strength M_kind M_more M_glues (0 : Int32) M_warmth M_sheet_47 M_since_47 M_stepWhat M_stepPiece M_stepPlace M_stepSince M_steps_47 M_undoable_47 M_brought_47 p1 p2 p3 p4 p5 p6 (0 : Int32) hw H locs hP hD hS ls (lv_sub hl [1, 2, 3, 4, 5, 6, 7, 0] rfl)
                · have hw := hw.2 c41
                  refine lv_iconst (v := (-1 : Int32)) hx hb dX8_rule_44 kI_m1 ?_
                  rw [hZ]
                  exact cx_reti (M_strength, M_kind, M_more, M_glues, M_pieces, M_warmth, M_sheet, M_since, M_stepWhat, M_stepPiece, M_stepPlace, M_stepSince, M_steps, M_undoable, M_brought) hx hb hr hlocks hw hP hS dX8_rule_45
