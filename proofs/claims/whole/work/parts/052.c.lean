set_option maxRecDepth 100000 in
set_option maxHeartbeats 4000000 in
theorem c_X8_isBarred (l : Launch) (D : va_G) (cI cJ cZ cO : ClassId) (tS tT : Nat) (sz : Nat) (aM aM_strength aM_kind aM_more aM_glues aM_sheet aM_since aM_imageStrength aM_imageKind aM_imageMore aM_imageGlues aM_imagePieces aM_imageWarmth aM_imageSheet aM_imageDraw aM_stepWhat aM_stepPiece aM_stepPlace aM_stepSince aM_tape aM_shapes aM_pile aM_met aM_next aM_inputs aM_then : Nat) (M_pieces : Int32) (M_warmth : Int32) (M_draw : Int64) (M_steps : Int32) (M_undoable : Int32) (M_brought : Int32) (M_taped : Int32) (M_shapeMany : Int32) (M_ended : Int32) (M_cut : Int32) (M_mostPieces : Int32) (M_walks : Int32) (M_walked : Int32) (M_kind : Nat → Int32) (M_more : Nat → Int32) (p1 : Int32) (p2 : Int32) (Q : Int32 → Prop) (hw : wp_X8_isBarred M_kind M_more p1 p2 Q) : Met l yX8_isBarred wsX8_isBarred rm_X8_isBarred (va_Pc [.ref aM, .int p1, .int p2] (cx_B tS tT cI cJ cZ cO D sz (w_X8_isBarred cI cJ cZ cO aM aM_strength aM_kind aM_more aM_glues aM_sheet aM_since aM_imageStrength aM_imageKind aM_imageMore aM_imageGlues aM_imagePieces aM_imageWarmth aM_imageSheet aM_imageDraw aM_stepWhat aM_stepPiece aM_stepPlace aM_stepSince aM_tape aM_shapes aM_pile aM_met aM_next aM_inputs aM_then M_pieces M_warmth M_draw M_steps M_undoable M_brought M_taped M_shapeMany M_ended M_cut M_mostPieces M_walks M_walked M_kind M_more))) (va_Qi (fun (r : Int32) (_ : Unit) => Q r) (fun (u : Unit) t => va_P D vwCl (w_X8_isBarred cI cJ cZ cO aM aM_strength aM_kind aM_more aM_glues aM_sheet aM_since aM_imageStrength aM_imageKind aM_imageMore aM_imageGlues aM_imagePieces aM_imageWarmth aM_imageSheet aM_imageDraw aM_stepWhat aM_stepPiece aM_stepPlace aM_stepSince aM_tape aM_shapes aM_pile aM_met aM_next aM_inputs aM_then M_pieces M_warmth M_draw M_steps M_undoable M_brought M_taped M_shapeMany M_ended M_cut M_mostPieces M_walks M_walked M_kind M_more) t.heap) (va_A (w_X8_isBarred cI cJ cZ cO aM aM_strength aM_kind aM_more aM_glues aM_sheet aM_since aM_imageStrength aM_imageKind aM_imageMore aM_imageGlues aM_imagePieces aM_imageWarmth aM_imageSheet aM_imageDraw aM_stepWhat aM_stepPiece aM_stepPlace aM_stepSince aM_tape aM_shapes aM_pile aM_met aM_next aM_inputs aM_then M_pieces M_warmth M_draw M_steps M_undoable M_brought M_taped M_shapeMany M_ended M_cut M_mostPieces M_walks M_walked M_kind M_more) sz)) 0 0 (va_A (w_X8_isBarred cI cJ cZ cO aM aM_strength aM_kind aM_more aM_glues aM_sheet aM_since aM_imageStrength aM_imageKind aM_imageMore aM_imageGlues aM_imagePieces aM_imageWarmth aM_imageSheet aM_imageDraw aM_stepWhat aM_stepPiece aM_stepPlace aM_stepSince aM_tape aM_shapes aM_pile aM_met aM_next aM_inputs aM_then M_pieces M_warmth M_draw M_steps M_undoable M_brought M_taped M_shapeMany M_ended M_cut M_mostPieces M_walks M_walked M_kind M_more) sz) := by
  refine cx_met (cc := cX8_isBarred) (maxL := 3) (ret := (some .boolean)) (Qc := fun A => va_Qi (fun (r : Int32) (_ : Unit) => Q r) (fun (u : Unit) t => va_P D vwCl (w_X8_isBarred cI cJ cZ cO aM aM_strength aM_kind aM_more aM_glues aM_sheet aM_since aM_imageStrength aM_imageKind aM_imageMore aM_imageGlues aM_imagePieces aM_imageWarmth aM_imageSheet aM_imageDraw aM_stepWhat aM_stepPiece aM_stepPlace aM_stepSince aM_tape aM_shapes aM_pile aM_met aM_next aM_inputs aM_then M_pieces M_warmth M_draw M_steps M_undoable M_brought M_taped M_shapeMany M_ended M_cut M_mostPieces M_walks M_walked M_kind M_more) t.heap) A) (lv := [(0, .ref aM), (1, .int p1), (2, .int p2)]) (by decide) rfl (Nat.le_of_ble_eq_true rfl) rfl ?_
  intro p e s m args below meth c A Z hx hb hr hlocks hts hown hml hE hK hA hZ
  have hown : s.vm.findClass RX8 = some m.cls := hown
  have k_0 := hts (.fieldLink RX8 16 "GrowingTilesModel" "more" "[I") (List.mem_of_getElem? (i := 2) (by decide +kernel))
  have k_1 := hts (.fieldLink RX8 13 "GrowingTilesModel" "kind" "[I") (List.mem_of_getElem? (i := 1) (by decide +kernel))
  have b_20 : ∀ (x1 : Int32) (x2 : Int32), wq_X8_isBarred_20 M_kind M_more Q x1 x2 → ∀ (H : Heap) (locs : List Loc), va_P D vwCl (w_X8_isBarred cI cJ cZ cO aM aM_strength aM_kind aM_more aM_glues aM_sheet aM_since aM_imageStrength aM_imageKind aM_imageMore aM_imageGlues aM_imagePieces aM_imageWarmth aM_imageSheet aM_imageDraw aM_stepWhat aM_stepPiece aM_stepPlace aM_stepSince aM_tape aM_shapes aM_pile aM_met aM_next aM_inputs aM_then M_pieces M_warmth M_draw M_steps M_undoable M_brought M_taped M_shapeMany M_ended M_cut M_mostPieces M_walks M_walked M_kind M_more) H → va_D A (w_X8_isBarred cI cJ cZ cO aM aM_strength aM_kind aM_more aM_glues aM_sheet aM_since aM_imageStrength aM_imageKind aM_imageMore aM_imageGlues aM_imagePieces aM_imageWarmth aM_imageSheet aM_imageDraw aM_stepWhat aM_stepPiece aM_stepPlace aM_stepSince aM_tape aM_shapes aM_pile aM_met aM_next aM_inputs aM_then M_pieces M_warmth M_draw M_steps M_undoable M_brought M_taped M_shapeMany M_ended M_cut M_mostPieces M_walks M_walked M_kind M_more) → va_S A s.heap H locs → ∀ ls : Array Slot, lv_has ls 3 [(0, .ref aM), (1, .int x1), (2, .int x2)] → W p l e rm_X8_isBarred s m args below meth c H locs 0 0 Z (F0 m 20 ls []) := by
    intro x1 x2 hw H locs hP hD hS ls hl
    unfold wq_X8_isBarred_20 at hw
    refine lv_aload_n hx hb dX8_isBarred_20 rfl (lv_at hl 0 rfl) ?_
    refine va_get (D := D) (ci := 8) (v := .ref aM_more) (C := RX8) (T := TX8) (N := 38) hx hb hts in_X8_isBarred_X8 hown hK hP 0 rfl rfl 2 (by decide) k_0 (fun _ h9 => h9) rfl dX8_isBarred_21 ?_
    refine lv_iload_n hx hb dX8_isBarred_24 rfl (lv_at hl 1 rfl) ?_
    have h25 := hw.1
    have hw := hw.2
    refine va_iald hx hb hK hP 2 0 rfl rfl h25 dX8_isBarred_25 ?_
    refine lv_topi (fun v25 e25 => ?_)
    have hw := hw v25 e25
    refine lv_iload_n hx hb dX8_isBarred_26 rfl (lv_at hl 2 rfl) ?_
    refine lv_ishr hx hb dX8_isBarred_27 ?_
    refine lv_iconst (v := (1 : Int32)) hx hb dX8_isBarred_28 kI_1 ?_
    refine lv_iand hx hb dX8_isBarred_29 ?_
    refine lv_iconst (v := (1 : Int32)) hx hb dX8_isBarred_30 kI_1 ?_
    refine lv_icmp_ne (tgt := 38) hx hb dX8_isBarred_31 (by decide) (fun c31 => ?_) (fun c31 => ?_)
    · have hw := hw.1 c31
      refine lv_iconst (v := (0 : Int32)) hx hb dX8_isBarred_38 kI_0 ?_
      rw [hZ]
      exact cx_retz () hx hb hr hlocks rfl hw hP hS dX8_isBarred_39
    · have hw := hw.2 c31
      refine lv_iconst (v := (1 : Int32)) hx hb dX8_isBarred_34 kI_1 ?_
      refine lv_goto (tgt := 39) hx hb dX8_isBarred_35 (by decide) ?_
      rw [hZ]
      exact cx_retz () hx hb hr hlocks rfl hw hP hS dX8_isBarred_39
  intro H locs hP hD hS ls hl
  unfold wp_X8_isBarred at hw
  refine lv_aload_n hx hb dX8_isBarred_0 rfl (lv_at hl 0 rfl) ?_
  refine va_get (D := D) (ci := 8) (v := .ref aM_kind) (C := RX8) (T := TX8) (N := 38) hx hb hts in_X8_isBarred_X8 hown hK hP 0 rfl rfl 1 (by decide) k_1 (fun _ h9 => h9) rfl dX8_isBarred_1 ?_
  refine lv_iload_n hx hb dX8_isBarred_4 rfl (lv_at hl 1 rfl) ?_
  have h5 := hw.1
  have hw := hw.2
  refine va_iald hx hb hK hP 1 0 rfl rfl h5 dX8_isBarred_5 ?_
  refine lv_topi (fun v5 e5 => ?_)
  have hw := hw v5 e5
  refine lv_iconst (v := (4 : Int32)) hx hb dX8_isBarred_6 kI_4 ?_
  refine lv_icmp_eq (tgt := 20) hx hb dX8_isBarred_7 (by decide) (fun c7 => ?_) (fun c7 => ?_)
  · have hw := hw.1 c7
    exact b_20 p1 p2 hw H locs hP hD hS ls (lv_sub hl [0, 1, 2] rfl)
  · have hw := hw.2 c7
    refine lv_aload_n hx hb dX8_isBarred_10 rfl (lv_at hl 0 rfl) ?_
    refine va_get (D := D) (ci := 8) (v := .ref aM_kind) (C := RX8) (T := TX8) (N := 38) hx hb hts in_X8_isBarred_X8 hown hK hP 0 rfl rfl 1 (by decide) k_1 (fun _ h9 => h9) rfl dX8_isBarred_11 ?_
    refine lv_iload_n hx hb dX8_isBarred_14 rfl (lv_at hl 1 rfl) ?_
    have h15 := hw.1
    have hw := hw.2
    refine va_iald hx hb hK hP 1 0 rfl rfl h15 dX8_isBarred_15 ?_
    refine lv_topi (fun v15 e15 => ?_)
    have hw := hw v15 e15
    refine lv_iconst (v := (5 : Int32)) hx hb dX8_isBarred_16 kI_5 ?_
    refine lv_icmp_ne (tgt := 38) hx hb dX8_isBarred_17 (by decide) (fun c17 => ?_) (fun c17 => ?_)
    · have hw := hw.1 c17
      refine lv_iconst (v := (0 : Int32)) hx hb dX8_isBarred_38 kI_0 ?_
      rw [hZ]
      exact cx_retz () hx hb hr hlocks rfl hw hP hS dX8_isBarred_39
    · have hw := hw.2 c17
      exact b_20 p1 p2 hw H locs hP hD hS ls (lv_sub hl [0, 1, 2] rfl)
set_option maxRecDepth 100000 in
set_option maxHeartbeats 4000000 in
theorem c_X8_holdAt (l : Launch) (D : va_G) (cI cJ cZ cO : ClassId) (tS tT : Nat) (sz : Nat) (aA aM aM_strength aM_kind aM_more aM_glues aM_sheet aM_since aM_imageStrength aM_imageKind aM_imageMore aM_imageGlues aM_imagePieces aM_imageWarmth aM_imageSheet aM_imageDraw aM_stepWhat aM_stepPiece aM_stepPlace aM_stepSince aM_tape aM_shapes aM_pile aM_met aM_next aM_inputs aM_then : Nat) (nA : Nat) (arr : Nat → Int32) (M_pieces : Int32) (M_warmth : Int32) (M_draw : Int64) (M_steps : Int32) (M_undoable : Int32) (M_brought : Int32) (M_taped : Int32) (M_shapeMany : Int32) (M_ended : Int32) (M_cut : Int32) (M_mostPieces : Int32) (M_walks : Int32) (M_walked : Int32) (M_strength : Nat → Int32) (M_kind : Nat → Int32) (M_more : Nat → Int32) (M_glues : Nat → Int32) (p2 : Int32) (p3 : Int32) (p4 : Int32) (p5 : Int32) (p6 : Int32) (p7 : Int32) (Q : Int32 → Prop) (hw : wp_X8_holdAt nA arr M_strength M_kind M_more M_glues p2 p3 p4 p5 p6 p7 Q) : Met l yX8_holdAt wsX8_holdAt rm_X8_holdAt (va_Pc [.ref aM, .ref aA, .int p2, .int p3, .int p4, .int p5, .int p6, .int p7] (cx_B tS tT cI cJ cZ cO D sz (w_X8_holdAt cI cJ cZ cO aA aM aM_strength aM_kind aM_more aM_glues aM_sheet aM_since aM_imageStrength aM_imageKind aM_imageMore aM_imageGlues aM_imagePieces aM_imageWarmth aM_imageSheet aM_imageDraw aM_stepWhat aM_stepPiece aM_stepPlace aM_stepSince aM_tape aM_shapes aM_pile aM_met aM_next aM_inputs aM_then nA arr M_pieces M_warmth M_draw M_steps M_undoable M_brought M_taped M_shapeMany M_ended M_cut M_mostPieces M_walks M_walked M_strength M_kind M_more M_glues))) (va_Qi (fun (r : Int32) (_ : Unit) => Q r) (fun (u : Unit) t => va_P D vwCl (w_X8_holdAt cI cJ cZ cO aA aM aM_strength aM_kind aM_more aM_glues aM_sheet aM_since aM_imageStrength aM_imageKind aM_imageMore aM_imageGlues aM_imagePieces aM_imageWarmth aM_imageSheet aM_imageDraw aM_stepWhat aM_stepPiece aM_stepPlace aM_stepSince aM_tape aM_shapes aM_pile aM_met aM_next aM_inputs aM_then nA arr M_pieces M_warmth M_draw M_steps M_undoable M_brought M_taped M_shapeMany M_ended M_cut M_mostPieces M_walks M_walked M_strength M_kind M_more M_glues) t.heap) (va_A (w_X8_holdAt cI cJ cZ cO aA aM aM_strength aM_kind aM_more aM_glues aM_sheet aM_since aM_imageStrength aM_imageKind aM_imageMore aM_imageGlues aM_imagePieces aM_imageWarmth aM_imageSheet aM_imageDraw aM_stepWhat aM_stepPiece aM_stepPlace aM_stepSince aM_tape aM_shapes aM_pile aM_met aM_next aM_inputs aM_then nA arr M_pieces M_warmth M_draw M_steps M_undoable M_brought M_taped M_shapeMany M_ended M_cut M_mostPieces M_walks M_walked M_strength M_kind M_more M_glues) sz)) 0 0 (va_A (w_X8_holdAt cI cJ cZ cO aA aM aM_strength aM_kind aM_more aM_glues aM_sheet aM_since aM_imageStrength aM_imageKind aM_imageMore aM_imageGlues aM_imagePieces aM_imageWarmth aM_imageSheet aM_imageDraw aM_stepWhat aM_stepPiece aM_stepPlace aM_stepSince aM_tape aM_shapes aM_pile aM_met aM_next aM_inputs aM_then nA arr M_pieces M_warmth M_draw M_steps M_undoable M_brought M_taped M_shapeMany M_ended M_cut M_mostPieces M_walks M_walked M_strength M_kind M_more M_glues) sz) := by
  refine cx_met (cc := cX8_holdAt) (maxL := 12) (ret := (some .int)) (Qc := fun A => va_Qi (fun (r : Int32) (_ : Unit) => Q r) (fun (u : Unit) t => va_P D vwCl (w_X8_holdAt cI cJ cZ cO aA aM aM_strength aM_kind aM_more aM_glues aM_sheet aM_since aM_imageStrength aM_imageKind aM_imageMore aM_imageGlues aM_imagePieces aM_imageWarmth aM_imageSheet aM_imageDraw aM_stepWhat aM_stepPiece aM_stepPlace aM_stepSince aM_tape aM_shapes aM_pile aM_met aM_next aM_inputs aM_then nA arr M_pieces M_warmth M_draw M_steps M_undoable M_brought M_taped M_shapeMany M_ended M_cut M_mostPieces M_walks M_walked M_strength M_kind M_more M_glues) t.heap) A) (lv := [(0, .ref aM), (1, .ref aA), (2, .int p2), (3, .int p3), (4, .int p4), (5, .int p5), (6, .int p6), (7, .int p7)]) (by decide) rfl (Nat.le_of_ble_eq_true rfl) rfl ?_
  intro p e s m args below meth c A Z hx hb hr hlocks hts hown hml hE hK hA hZ
  have hown : s.vm.findClass RX8 = some m.cls := hown
  have k_0 := hts (.fieldLink RX8 7 "GrowingTilesModel" "strength" "[I") (List.mem_of_getElem? (i := 1) (by decide +kernel))
  intro H locs hP hD hS ls hl
  unfold wp_X8_holdAt at hw
  refine lv_iload hx hb dX8_holdAt_0 (lv_at hl 5 rfl) ?_
  refine lv_iload hx hb dX8_holdAt_2 (lv_at hl 7 rfl) ?_
  refine cx_goi (va_runS (As := [.int p7]) (rest := [.int p5]) ⟨hx, hb, hml, hown, hts⟩ (c_X8_xAt l D cI cJ cZ cO tS tT H.size p7 _ hw) (va_cwS 1 hts gX8_holdAt_X8_xAt rfl rfl rfl ps_X8_xAt ⟨Nat.le_of_ble_eq_true rfl, Nat.le_of_ble_eq_true rfl⟩) (cx_preS (wc := w_X8_xAt) hE hK hP hD hS hA [] rfl rfl) rfl rfl hl.1 rfl (lv_room (Nat.le_of_ble_eq_true rfl)) dX8_holdAt_4 ⟨Nat.le_of_ble_eq_true rfl, Nat.le_of_ble_eq_true rfl⟩) (fun (_ : Unit) => (w_X8_holdAt cI cJ cZ cO aA aM aM_strength aM_kind aM_more aM_glues aM_sheet aM_since aM_imageStrength aM_imageKind aM_imageMore aM_imageGlues aM_imagePieces aM_imageWarmth aM_imageSheet aM_imageDraw aM_stepWhat aM_stepPiece aM_stepPlace aM_stepSince aM_tape aM_shapes aM_pile aM_met aM_next aM_inputs aM_then nA arr M_pieces M_warmth M_draw M_steps M_undoable M_brought M_taped M_shapeMany M_ended M_cut M_mostPieces M_walks M_walked M_strength M_kind M_more M_glues)) [] [0, 1, 2, 3, 4, 5] (ads := []) (wr := [(aA, .inl (cI, nA, .inl arr)), (aM, .inr (8, [.ref aM_strength, .ref aM_kind, .ref aM_more, .ref aM_glues, .int M_pieces, .int M_warmth, .long M_draw, .ref aM_sheet, .ref aM_since, .ref aM_imageStrength, .ref aM_imageKind, .ref aM_imageMore, .ref aM_imageGlues, .ref aM_imagePieces, .ref aM_imageWarmth, .ref aM_imageSheet, .ref aM_imageDraw, .ref aM_stepWhat, .ref aM_stepPiece, .ref aM_stepPlace, .ref aM_stepSince, .int M_steps, .int M_undoable, .int M_brought, .ref aM_tape, .int M_taped, .ref aM_shapes, .int M_shapeMany, .int M_ended, .int M_cut, .int M_mostPieces, .int M_walks, .int M_walked, .ref aM_pile, .ref aM_met, .ref aM_next, .ref aM_inputs, .ref aM_then])), (aM_strength, .inl (cI, 51, .inl M_strength)), (aM_kind, .inl (cI, 40, .inl M_kind)), (aM_more, .inl (cI, 40, .inl M_more)), (aM_glues, .inl (cI, 160, .inl M_glues))]) rfl rfl (fun u => rfl) (fun u => rfl) rfl (fun u => rfl) rfl (fun u => rfl) rfl hP hD hS hA (fun r4 u H locs hw hP hD hS => ?_)
  refine lv_iadd hx hb dX8_holdAt_7 ?_
  refine lv_topi (fun v8 e8 => ?_)
  have hw := hw v8 e8
  refine lv_istore (lv' := [(8, .int v8), (0, .ref aM), (1, .ref aA), (2, .int p2), (3, .int p3), (4, .int p4), (5, .int p5), (6, .int p6), (7, .int p7)]) hx hb dX8_holdAt_8 hl (by decide) rfl (fun ls hl => ?_)
  refine lv_iload hx hb dX8_holdAt_10 (lv_at hl 7 rfl) ?_
  refine lv_iload hx hb dX8_holdAt_12 (lv_at hl 8 rfl) ?_
  refine cx_goi (va_runS (As := [.int p7]) (rest := [.int p6]) ⟨hx, hb, hml, hown, hts⟩ (c_X8_yAt l D cI cJ cZ cO tS tT H.size p7 _ hw) (va_cwS 1 hts gX8_holdAt_X8_yAt rfl rfl rfl ps_X8_yAt ⟨Nat.le_of_ble_eq_true rfl, Nat.le_of_ble_eq_true rfl⟩) (cx_preS (wc := w_X8_yAt) hE hK hP hD hS hA [] rfl rfl) rfl rfl hl.1 rfl (lv_room (Nat.le_of_ble_eq_true rfl)) dX8_holdAt_14 ⟨Nat.le_of_ble_eq_true rfl, Nat.le_of_ble_eq_true rfl⟩) (fun (_ : Unit) => (w_X8_holdAt cI cJ cZ cO aA aM aM_strength aM_kind aM_more aM_glues aM_sheet aM_since aM_imageStrength aM_imageKind aM_imageMore aM_imageGlues aM_imagePieces aM_imageWarmth aM_imageSheet aM_imageDraw aM_stepWhat aM_stepPiece aM_stepPlace aM_stepSince aM_tape aM_shapes aM_pile aM_met aM_next aM_inputs aM_then nA arr M_pieces M_warmth M_draw M_steps M_undoable M_brought M_taped M_shapeMany M_ended M_cut M_mostPieces M_walks M_walked M_strength M_kind M_more M_glues)) [] [0, 1, 2, 3, 4, 5] (ads := []) (wr := [(aA, .inl (cI, nA, .inl arr)), (aM, .inr (8, [.ref aM_strength, .ref aM_kind, .ref aM_more, .ref aM_glues, .int M_pieces, .int M_warmth, .long M_draw, .ref aM_sheet, .ref aM_since, .ref aM_imageStrength, .ref aM_imageKind, .ref aM_imageMore, .ref aM_imageGlues, .ref aM_imagePieces, .ref aM_imageWarmth, .ref aM_imageSheet, .ref aM_imageDraw, .ref aM_stepWhat, .ref aM_stepPiece, .ref aM_stepPlace, .ref aM_stepSince, .int M_steps, .int M_undoable, .int M_brought, .ref aM_tape, .int M_taped, .ref aM_shapes, .int M_shapeMany, .int M_ended, .int M_cut, .int M_mostPieces, .int M_walks, .int M_walked, .ref aM_pile, .ref aM_met, .ref aM_next, .ref aM_inputs, .ref aM_then])), (aM_strength, .inl (cI, 51, .inl M_strength)), (aM_kind, .inl (cI, 40, .inl M_kind)), (aM_more, .inl (cI, 40, .inl M_more)), (aM_glues, .inl (cI, 160, .inl M_glues))]) rfl rfl (fun u => rfl) (fun u => rfl) rfl (fun u => rfl) rfl (fun u => rfl) rfl hP hD hS hA (fun r14 u H locs hw hP hD hS => ?_)
  refine lv_iadd hx hb dX8_holdAt_17 ?_
  refine lv_topi (fun v18 e18 => ?_)
  have hw := hw v18 e18
  refine lv_istore (lv' := [(9, .int v18), (8, .int v8), (0, .ref aM), (1, .ref aA), (2, .int p2), (3, .int p3), (4, .int p4), (5, .int p5), (6, .int p6), (7, .int p7)]) hx hb dX8_holdAt_18 hl (by decide) rfl (fun ls hl => ?_)
  refine lv_iload hx hb dX8_holdAt_20 (lv_at hl 1 rfl) ?_
  refine lv_iload hx hb dX8_holdAt_22 (lv_at hl 0 rfl) ?_
  refine cx_goi (va_runS (As := [.int v8, .int v18]) (rest := []) ⟨hx, hb, hml, hown, hts⟩ (c_X8_isOn l D cI cJ cZ cO tS tT H.size v8 v18 _ hw) (va_cwS 2 hts gX8_holdAt_X8_isOn rfl rfl rfl ps_X8_isOn ⟨Nat.le_of_ble_eq_true rfl, Nat.le_of_ble_eq_true rfl⟩) (cx_preS (wc := w_X8_isOn) hE hK hP hD hS hA [] rfl rfl) rfl rfl hl.1 rfl (lv_room (Nat.le_of_ble_eq_true rfl)) dX8_holdAt_24 ⟨Nat.le_of_ble_eq_true rfl, Nat.le_of_ble_eq_true rfl⟩) (fun (_ : Unit) => (w_X8_holdAt cI cJ cZ cO aA aM aM_strength aM_kind aM_more aM_glues aM_sheet aM_since aM_imageStrength aM_imageKind aM_imageMore aM_imageGlues aM_imagePieces aM_imageWarmth aM_imageSheet aM_imageDraw aM_stepWhat aM_stepPiece aM_stepPlace aM_stepSince aM_tape aM_shapes aM_pile aM_met aM_next aM_inputs aM_then nA arr M_pieces M_warmth M_draw M_steps M_undoable M_brought M_taped M_shapeMany M_ended M_cut M_mostPieces M_walks M_walked M_strength M_kind M_more M_glues)) [] [0, 1, 2, 3, 4, 5] (ads := []) (wr := [(aA, .inl (cI, nA, .inl arr)), (aM, .inr (8, [.ref aM_strength, .ref aM_kind, .ref aM_more, .ref aM_glues, .int M_pieces, .int M_warmth, .long M_draw, .ref aM_sheet, .ref aM_since, .ref aM_imageStrength, .ref aM_imageKind, .ref aM_imageMore, .ref aM_imageGlues, .ref aM_imagePieces, .ref aM_imageWarmth, .ref aM_imageSheet, .ref aM_imageDraw, .ref aM_stepWhat, .ref aM_stepPiece, .ref aM_stepPlace, .ref aM_stepSince, .int M_steps, .int M_undoable, .int M_brought, .ref aM_tape, .int M_taped, .ref aM_shapes, .int M_shapeMany, .int M_ended, .int M_cut, .int M_mostPieces, .int M_walks, .int M_walked, .ref aM_pile, .ref aM_met, .ref aM_next, .ref aM_inputs, .ref aM_then])), (aM_strength, .inl (cI, 51, .inl M_strength)), (aM_kind, .inl (cI, 40, .inl M_kind)), (aM_more, .inl (cI, 40, .inl M_more)), (aM_glues, .inl (cI, 160, .inl M_glues))]) rfl rfl (fun u => rfl) (fun u => rfl) rfl (fun u => rfl) rfl (fun u => rfl) rfl hP hD hS hA (fun r24 u H locs hw hP hD hS => ?_)
  refine lv_if_eq (tgt := 45) hx hb dX8_holdAt_27 (by decide) (fun c27 => ?_) (fun c27 => ?_)
  · have hw := hw.1 c27
    refine lv_iconst (v := (0 : Int32)) hx hb dX8_holdAt_45 kI_0 ?_
    rw [hZ]
    exact cx_reti () hx hb hr hlocks hw hP hS dX8_holdAt_46
  · have hw := hw.2 c27
    refine lv_aload_n hx hb dX8_holdAt_30 rfl (lv_at hl 3 rfl) ?_
    refine lv_iload_n hx hb dX8_holdAt_31 rfl (lv_at hl 4 rfl) ?_
    refine lv_iload hx hb dX8_holdAt_32 (lv_at hl 1 rfl) ?_
    refine lv_iadd hx hb dX8_holdAt_34 ?_
    refine lv_bipush (v := (16 : Int32)) hx hb dX8_holdAt_35 kB_16 ?_
    refine lv_iload hx hb dX8_holdAt_37 (lv_at hl 0 rfl) ?_
    refine lv_imul hx hb dX8_holdAt_39 ?_
    refine lv_iadd hx hb dX8_holdAt_40 ?_
    have h41 := hw.1
    have hw := hw.2
    refine va_iald hx hb hK hP 0 0 rfl rfl h41 dX8_holdAt_41 ?_
    refine lv_topi (fun v41 e41 => ?_)
    have hw := hw v41 e41
    refine lv_if_ne (tgt := 47) hx hb dX8_holdAt_42 (by decide) (fun c42 => ?_) (fun c42 => ?_)
    · have hw := hw.1 c42
      refine lv_aload_n hx hb dX8_holdAt_47 rfl (lv_at hl 3 rfl) ?_
      refine lv_iload_n hx hb dX8_holdAt_48 rfl (lv_at hl 4 rfl) ?_
      refine lv_iload hx hb dX8_holdAt_49 (lv_at hl 1 rfl) ?_
      refine lv_iadd hx hb dX8_holdAt_51 ?_
      refine lv_bipush (v := (16 : Int32)) hx hb dX8_holdAt_52 kB_16 ?_
      refine lv_iload hx hb dX8_holdAt_54 (lv_at hl 0 rfl) ?_
      refine lv_imul hx hb dX8_holdAt_56 ?_
      refine lv_iadd hx hb dX8_holdAt_57 ?_
      have h58 := hw.1
      have hw := hw.2
      refine va_iald hx hb hK hP 0 0 rfl rfl h58 dX8_holdAt_58 ?_
      refine lv_topi (fun v58 e58 => ?_)
      have hw := hw v58 e58
      refine lv_iconst (v := (1 : Int32)) hx hb dX8_holdAt_59 kI_1 ?_
      refine lv_isub hx hb dX8_holdAt_60 ?_
      refine lv_topi (fun v61 e61 => ?_)
      have hw := hw v61 e61
      refine lv_istore (lv' := [(10, .int v61), (9, .int v18), (8, .int v8), (0, .ref aM), (1, .ref aA), (2, .int p2), (3, .int p3), (4, .int p4), (5, .int p5), (6, .int p6), (7, .int p7)]) hx hb dX8_holdAt_61 hl (by decide) rfl (fun ls hl => ?_)
      refine lv_aload_n hx hb dX8_holdAt_63 rfl (lv_at hl 3 rfl) ?_
      refine lv_iload_n hx hb dX8_holdAt_64 rfl (lv_at hl 6 rfl) ?_
      refine lv_iload hx hb dX8_holdAt_65 (lv_at hl 7 rfl) ?_
      refine lv_iload hx hb dX8_holdAt_67 (lv_at hl 10 rfl) ?_
      refine cx_goi (va_runV (As := [.int p3, .int p4, .int p7]) (rest := []) ⟨hx, hb, hml, hown, hts⟩ (c_X8_glueOf l D cI cJ cZ cO tS tT H.size aM aM_strength aM_kind aM_more aM_glues aM_sheet aM_since aM_imageStrength aM_imageKind aM_imageMore aM_imageGlues aM_imagePieces aM_imageWarmth aM_imageSheet aM_imageDraw aM_stepWhat aM_stepPiece aM_stepPlace aM_stepSince aM_tape aM_shapes aM_pile aM_met aM_next aM_inputs aM_then M_pieces M_warmth M_draw M_steps M_undoable M_brought M_taped M_shapeMany M_ended M_cut M_mostPieces M_walks M_walked M_kind M_more M_glues p3 p4 p7 _ hw) (cwV 3 hts gX8_holdAt_X8_glueOf rfl rfl rfl pv_X8_glueOf ⟨Nat.le_of_ble_eq_true rfl, Nat.le_of_ble_eq_true rfl⟩) (cx_preV (wc := w_X8_glueOf cI cJ cZ cO aM aM_strength aM_kind aM_more aM_glues aM_sheet aM_since aM_imageStrength aM_imageKind aM_imageMore aM_imageGlues aM_imagePieces aM_imageWarmth aM_imageSheet aM_imageDraw aM_stepWhat aM_stepPiece aM_stepPlace aM_stepSince aM_tape aM_shapes aM_pile aM_met aM_next aM_inputs aM_then M_pieces M_warmth M_draw M_steps M_undoable M_brought M_taped M_shapeMany M_ended M_cut M_mostPieces M_walks M_walked M_kind M_more M_glues) hE hK hP hD hS hA [1, 3, 4, 5] rfl rfl (va_recv hK hP (ci := 8) (q0 := 1) rfl rfl)) rfl rfl hl.1 rfl (lv_room (Nat.le_of_ble_eq_true rfl)) dX8_holdAt_69 ⟨Nat.le_of_ble_eq_true rfl, Nat.le_of_ble_eq_true rfl⟩) (fun (_ : Unit) => (w_X8_holdAt cI cJ cZ cO aA aM aM_strength aM_kind aM_more aM_glues aM_sheet aM_since aM_imageStrength aM_imageKind aM_imageMore aM_imageGlues aM_imagePieces aM_imageWarmth aM_imageSheet aM_imageDraw aM_stepWhat aM_stepPiece aM_stepPlace aM_stepSince aM_tape aM_shapes aM_pile aM_met aM_next aM_inputs aM_then nA arr M_pieces M_warmth M_draw M_steps M_undoable M_brought M_taped M_shapeMany M_ended M_cut M_mostPieces M_walks M_walked M_strength M_kind M_more M_glues)) [1, 3, 4, 5] [0, 2] (ads := [aM, aM_kind, aM_more, aM_glues]) (wr := [(aA, .inl (cI, nA, .inl arr)), (aM_strength, .inl (cI, 51, .inl M_strength))]) rfl rfl (fun u => rfl) (fun u => rfl) rfl (fun u => rfl) rfl (fun u => rfl) rfl hP hD hS hA (fun r69 u H locs hw hP hD hS => ?_)
      have hP : va_P D vwCl (w_X8_holdAt cI cJ cZ cO aA aM aM_strength aM_kind aM_more aM_glues aM_sheet aM_since aM_imageStrength aM_imageKind aM_imageMore aM_imageGlues aM_imagePieces aM_imageWarmth aM_imageSheet aM_imageDraw aM_stepWhat aM_stepPiece aM_stepPlace aM_stepSince aM_tape aM_shapes aM_pile aM_met aM_next aM_inputs aM_then nA arr M_pieces M_warmth M_draw M_steps M_undoable M_brought M_taped M_shapeMany M_ended M_cut M_mostPieces M_walks M_walked M_strength M_kind M_more M_glues) H := hP
      have hD : va_D A (w_X8_holdAt cI cJ cZ cO aA aM aM_strength aM_kind aM_more aM_glues aM_sheet aM_since aM_imageStrength aM_imageKind aM_imageMore aM_imageGlues aM_imagePieces aM_imageWarmth aM_imageSheet aM_imageDraw aM_stepWhat aM_stepPiece aM_stepPlace aM_stepSince aM_tape aM_shapes aM_pile aM_met aM_next aM_inputs aM_then nA arr M_pieces M_warmth M_draw M_steps M_undoable M_brought M_taped M_shapeMany M_ended M_cut M_mostPieces M_walks M_walked M_strength M_kind M_more M_glues) := hD
      refine lv_istore (lv' := [(11, .int r69), (10, .int v61), (9, .int v18), (8, .int v8), (0, .ref aM), (1, .ref aA), (2, .int p2), (3, .int p3), (4, .int p4), (5, .int p5), (6, .int p6), (7, .int p7)]) hx hb dX8_holdAt_72 hl (by decide) rfl (fun ls hl => ?_)
      refine lv_iload hx hb dX8_holdAt_74 (lv_at hl 0 rfl) ?_
      refine lv_if_eq (tgt := 112) hx hb dX8_holdAt_76 (by decide) (fun c76 => ?_) (fun c76 => ?_)
      · have hw := hw.1 c76
        refine lv_iconst (v := (0 : Int32)) hx hb dX8_holdAt_112 kI_0 ?_
        rw [hZ]
        exact cx_reti () hx hb hr hlocks hw hP hS dX8_holdAt_113
      · have hw := hw.2 c76
        refine lv_iload hx hb dX8_holdAt_79 (lv_at hl 0 rfl) ?_
        refine lv_aload_n hx hb dX8_holdAt_81 rfl (lv_at hl 4 rfl) ?_
        refine lv_iload hx hb dX8_holdAt_82 (lv_at hl 1 rfl) ?_
        refine lv_iconst (v := (2 : Int32)) hx hb dX8_holdAt_84 kI_2 ?_
        refine lv_idiv hx hb dX8_holdAt_85 (by decide) ?_
        refine lv_iload hx hb dX8_holdAt_86 (lv_at hl 1 rfl) ?_
        refine lv_iconst (v := (2 : Int32)) hx hb dX8_holdAt_88 kI_2 ?_
        refine lv_irem hx hb dX8_holdAt_89 (by decide) ?_
        refine lv_iload hx hb dX8_holdAt_90 (lv_at hl 11 rfl) ?_
        refine lv_iconst (v := (2 : Int32)) hx hb dX8_holdAt_92 kI_2 ?_
        refine lv_iadd hx hb dX8_holdAt_93 ?_
        refine lv_iconst (v := (4 : Int32)) hx hb dX8_holdAt_94 kI_4 ?_
        refine lv_irem hx hb dX8_holdAt_95 (by decide) ?_
        refine cx_goi (va_runV (As := [.int (v61 / (2 : Int32)), .int (v61 - v61 / (2 : Int32) * (2 : Int32)), .int ((p7 + (2 : Int32)) - (p7 + (2 : Int32)) / (4 : Int32) * (4 : Int32))]) (rest := [.int r69]) ⟨hx, hb, hml, hown, hts⟩ (c_X8_glueOf l D cI cJ cZ cO tS tT H.size aM aM_strength aM_kind aM_more aM_glues aM_sheet aM_since aM_imageStrength aM_imageKind aM_imageMore aM_imageGlues aM_imagePieces aM_imageWarmth aM_imageSheet aM_imageDraw aM_stepWhat aM_stepPiece aM_stepPlace aM_stepSince aM_tape aM_shapes aM_pile aM_met aM_next aM_inputs aM_then M_pieces M_warmth M_draw M_steps M_undoable M_brought M_taped M_shapeMany M_ended M_cut M_mostPieces M_walks M_walked M_kind M_more M_glues (v61 / (2 : Int32)) (v61 - v61 / (2 : Int32) * (2 : Int32)) ((p7 + (2 : Int32)) - (p7 + (2 : Int32)) / (4 : Int32) * (4 : Int32)) _ hw) (cwV 3 hts gX8_holdAt_X8_glueOf rfl rfl rfl pv_X8_glueOf ⟨Nat.le_of_ble_eq_true rfl, Nat.le_of_ble_eq_true rfl⟩) (cx_preV (wc := w_X8_glueOf cI cJ cZ cO aM aM_strength aM_kind aM_more aM_glues aM_sheet aM_since aM_imageStrength aM_imageKind aM_imageMore aM_imageGlues aM_imagePieces aM_imageWarmth aM_imageSheet aM_imageDraw aM_stepWhat aM_stepPiece aM_stepPlace aM_stepSince aM_tape aM_shapes aM_pile aM_met aM_next aM_inputs aM_then M_pieces M_warmth M_draw M_steps M_undoable M_brought M_taped M_shapeMany M_ended M_cut M_mostPieces M_walks M_walked M_kind M_more M_glues) hE hK hP hD hS hA [1, 3, 4, 5] rfl rfl (va_recv hK hP (ci := 8) (q0 := 1) rfl rfl)) rfl rfl hl.1 rfl (lv_room (Nat.le_of_ble_eq_true rfl)) dX8_holdAt_96 ⟨Nat.le_of_ble_eq_true rfl, Nat.le_of_ble_eq_true rfl⟩) (fun (_ : Unit) => (w_X8_holdAt cI cJ cZ cO aA aM aM_strength aM_kind aM_more aM_glues aM_sheet aM_since aM_imageStrength aM_imageKind aM_imageMore aM_imageGlues aM_imagePieces aM_imageWarmth aM_imageSheet aM_imageDraw aM_stepWhat aM_stepPiece aM_stepPlace aM_stepSince aM_tape aM_shapes aM_pile aM_met aM_next aM_inputs aM_then nA arr M_pieces M_warmth M_draw M_steps M_undoable M_brought M_taped M_shapeMany M_ended M_cut M_mostPieces M_walks M_walked M_strength M_kind M_more M_glues)) [1, 3, 4, 5] [0, 2] (ads := [aM, aM_kind, aM_more, aM_glues]) (wr := [(aA, .inl (cI, nA, .inl arr)), (aM_strength, .inl (cI, 51, .inl M_strength))]) rfl rfl (fun u => rfl) (fun u => rfl) rfl (fun u => rfl) rfl (fun u => rfl) rfl hP hD hS hA (fun r96 u H locs hw hP hD hS => ?_)
        have hP : va_P D vwCl (w_X8_holdAt cI cJ cZ cO aA aM aM_strength aM_kind aM_more aM_glues aM_sheet aM_since aM_imageStrength aM_imageKind aM_imageMore aM_imageGlues aM_imagePieces aM_imageWarmth aM_imageSheet aM_imageDraw aM_stepWhat aM_stepPiece aM_stepPlace aM_stepSince aM_tape aM_shapes aM_pile aM_met aM_next aM_inputs aM_then nA arr M_pieces M_warmth M_draw M_steps M_undoable M_brought M_taped M_shapeMany M_ended M_cut M_mostPieces M_walks M_walked M_strength M_kind M_more M_glues) H := hP
        have hD : va_D A (w_X8_holdAt cI cJ cZ cO aA aM aM_strength aM_kind aM_more aM_glues aM_sheet aM_since aM_imageStrength aM_imageKind aM_imageMore aM_imageGlues aM_imagePieces aM_imageWarmth aM_imageSheet aM_imageDraw aM_stepWhat aM_stepPiece aM_stepPlace aM_stepSince aM_tape aM_shapes aM_pile aM_met aM_next aM_inputs aM_then nA arr M_pieces M_warmth M_draw M_steps M_undoable M_brought M_taped M_shapeMany M_ended M_cut M_mostPieces M_walks M_walked M_strength M_kind M_more M_glues) := hD
        refine lv_icmp_ne (tgt := 112) hx hb dX8_holdAt_99 (by decide) (fun c99 => ?_) (fun c99 => ?_)
        · have hw := hw.1 c99
          refine lv_iconst (v := (0 : Int32)) hx hb dX8_holdAt_112 kI_0 ?_
          rw [hZ]
          exact cx_reti () hx hb hr hlocks hw hP hS dX8_holdAt_113
        · have hw := hw.2 c99
          refine lv_aload_n hx hb dX8_holdAt_102 rfl (lv_at hl 4 rfl) ?_
          refine va_get (D := D) (ci := 8) (v := .ref aM_strength) (C := RX8) (T := TX8) (N := 38) hx hb hts in_X8_holdAt_X8 hown hK hP 1 rfl rfl 0 (by decide) k_0 (fun _ h9 => h9) rfl dX8_holdAt_103 ?_
          refine lv_iload hx hb dX8_holdAt_106 (lv_at hl 0 rfl) ?_
          have h108 := hw.1
          have hw := hw.2
          refine va_iald hx hb hK hP 2 0 rfl rfl h108 dX8_holdAt_108 ?_
          refine lv_topi (fun v108 e108 => ?_)
          have hw := hw v108 e108
          refine lv_goto (tgt := 113) hx hb dX8_holdAt_109 (by decide) ?_
          rw [hZ]
          exact cx_reti () hx hb hr hlocks hw hP hS dX8_holdAt_113
    · have hw := hw.2 c42
      refine lv_iconst (v := (0 : Int32)) hx hb dX8_holdAt_45 kI_0 ?_
      rw [hZ]
      exact cx_reti () hx hb hr hlocks hw hP hS dX8_holdAt_46
set_option maxRecDepth 100000 in
set_option maxHeartbeats 4000000 in
theorem c_X8_holdOf (l : Launch) (D : va_G) (cI cJ cZ cO : ClassId) (tS tT : Nat) (sz : Nat) (aA aM aM_strength aM_kind aM_more aM_glues aM_sheet aM_since aM_imageStrength aM_imageKind aM_imageMore aM_imageGlues aM_imagePieces aM_imageWarmth aM_imageSheet aM_imageDraw aM_stepWhat aM_stepPiece aM_stepPlace aM_stepSince aM_tape aM_shapes aM_pile aM_met aM_next aM_inputs aM_then : Nat) (nA : Nat) (arr : Nat → Int32) (M_pieces : Int32) (M_warmth : Int32) (M_draw : Int64) (M_steps : Int32) (M_undoable : Int32) (M_brought : Int32) (M_taped : Int32) (M_shapeMany : Int32) (M_ended : Int32) (M_cut : Int32) (M_mostPieces : Int32) (M_walks : Int32) (M_walked : Int32) (M_strength : Nat → Int32) (M_kind : Nat → Int32) (M_more : Nat → Int32) (M_glues : Nat → Int32) (p2 : Int32) (p3 : Int32) (p4 : Int32) (p5 : Int32) (Q : Int32 → Prop) (hw : wp_X8_holdOf nA arr M_strength M_kind M_more M_glues p2 p3 p4 p5 Q) : Met l yX8_holdOf wsX8_holdOf rm_X8_holdOf (va_Pc [.ref aM, .ref aA, .int p2, .int p3, .int p4, .int p5] (cx_B tS tT cI cJ cZ cO D sz (w_X8_holdOf cI cJ cZ cO aA aM aM_strength aM_kind aM_more aM_glues aM_sheet aM_since aM_imageStrength aM_imageKind aM_imageMore aM_imageGlues aM_imagePieces aM_imageWarmth aM_imageSheet aM_imageDraw aM_stepWhat aM_stepPiece aM_stepPlace aM_stepSince aM_tape aM_shapes aM_pile aM_met aM_next aM_inputs aM_then nA arr M_pieces M_warmth M_draw M_steps M_undoable M_brought M_taped M_shapeMany M_ended M_cut M_mostPieces M_walks M_walked M_strength M_kind M_more M_glues))) (va_Qi (fun (r : Int32) (_ : Unit) => Q r) (fun (u : Unit) t => va_P D vwCl (w_X8_holdOf cI cJ cZ cO aA aM aM_strength aM_kind aM_more aM_glues aM_sheet aM_since aM_imageStrength aM_imageKind aM_imageMore aM_imageGlues aM_imagePieces aM_imageWarmth aM_imageSheet aM_imageDraw aM_stepWhat aM_stepPiece aM_stepPlace aM_stepSince aM_tape aM_shapes aM_pile aM_met aM_next aM_inputs aM_then nA arr M_pieces M_warmth M_draw M_steps M_undoable M_brought M_taped M_shapeMany M_ended M_cut M_mostPieces M_walks M_walked M_strength M_kind M_more M_glues) t.heap) (va_A (w_X8_holdOf cI cJ cZ cO aA aM aM_strength aM_kind aM_more aM_glues aM_sheet aM_since aM_imageStrength aM_imageKind aM_imageMore aM_imageGlues aM_imagePieces aM_imageWarmth aM_imageSheet aM_imageDraw aM_stepWhat aM_stepPiece aM_stepPlace aM_stepSince aM_tape aM_shapes aM_pile aM_met aM_next aM_inputs aM_then nA arr M_pieces M_warmth M_draw M_steps M_undoable M_brought M_taped M_shapeMany M_ended M_cut M_mostPieces M_walks M_walked M_strength M_kind M_more M_glues) sz)) 0 0 (va_A (w_X8_holdOf cI cJ cZ cO aA aM aM_strength aM_kind aM_more aM_glues aM_sheet aM_since aM_imageStrength aM_imageKind aM_imageMore aM_imageGlues aM_imagePieces aM_imageWarmth aM_imageSheet aM_imageDraw aM_stepWhat aM_stepPiece aM_stepPlace aM_stepSince aM_tape aM_shapes aM_pile aM_met aM_next aM_inputs aM_then nA arr M_pieces M_warmth M_draw M_steps M_undoable M_brought M_taped M_shapeMany M_ended M_cut M_mostPieces M_walks M_walked M_strength M_kind M_more M_glues) sz) := by
  refine cx_met (cc := cX8_holdOf) (maxL := 8) (ret := (some .int)) (Qc := fun A => va_Qi (fun (r : Int32) (_ : Unit) => Q r) (fun (u : Unit) t => va_P D vwCl (w_X8_holdOf cI cJ cZ cO aA aM aM_strength aM_kind aM_more aM_glues aM_sheet aM_since aM_imageStrength aM_imageKind aM_imageMore aM_imageGlues aM_imagePieces aM_imageWarmth aM_imageSheet aM_imageDraw aM_stepWhat aM_stepPiece aM_stepPlace aM_stepSince aM_tape aM_shapes aM_pile aM_met aM_next aM_inputs aM_then nA arr M_pieces M_warmth M_draw M_steps M_undoable M_brought M_taped M_shapeMany M_ended M_cut M_mostPieces M_walks M_walked M_strength M_kind M_more M_glues) t.heap) A) (lv := [(0, .ref aM), (1, .ref aA), (2, .int p2), (3, .int p3), (4, .int p4), (5, .int p5)]) (by decide) rfl (Nat.le_of_ble_eq_true rfl) rfl ?_
  intro p e s m args below meth c A Z hx hb hr hlocks hts hown hml hE hK hA hZ
  have hown : s.vm.findClass RX8 = some m.cls := hown
  have k_0 := hts (.fieldLink RX8 13 "GrowingTilesModel" "kind" "[I") (List.mem_of_getElem? (i := 1) (by decide +kernel))
  have b_6 : ∀ n_6 : Nat, ∀ (x2 : Int32) (x3 : Int32) (x4 : Int32) (x5 : Int32) (x6 : Int32) (x7 : Int32), wq_X8_holdOf_6 nA arr M_strength M_kind M_more M_glues Q n_6 x2 x3 x4 x5 x6 x7 → ∀ (H : Heap) (locs : List Loc), va_P D vwCl (w_X8_holdOf cI cJ cZ cO aA aM aM_strength aM_kind aM_more aM_glues aM_sheet aM_since aM_imageStrength aM_imageKind aM_imageMore aM_imageGlues aM_imagePieces aM_imageWarmth aM_imageSheet aM_imageDraw aM_stepWhat aM_stepPiece aM_stepPlace aM_stepSince aM_tape aM_shapes aM_pile aM_met aM_next aM_inputs aM_then nA arr M_pieces M_warmth M_draw M_steps M_undoable M_brought M_taped M_shapeMany M_ended M_cut M_mostPieces M_walks M_walked M_strength M_kind M_more M_glues) H → va_D A (w_X8_holdOf cI cJ cZ cO aA aM aM_strength aM_kind aM_more aM_glues aM_sheet aM_since aM_imageStrength aM_imageKind aM_imageMore aM_imageGlues aM_imagePieces aM_imageWarmth aM_imageSheet aM_imageDraw aM_stepWhat aM_stepPiece aM_stepPlace aM_stepSince aM_tape aM_shapes aM_pile aM_met aM_next aM_inputs aM_then nA arr M_pieces M_warmth M_draw M_steps M_undoable M_brought M_taped M_shapeMany M_ended M_cut M_mostPieces M_walks M_walked M_strength M_kind M_more M_glues) → va_S A s.heap H locs → ∀ ls : Array Slot, lv_has ls 8 [(0, .ref aM), (1, .ref aA), (2, .int x2), (3, .int x3), (4, .int x4), (5, .int x5), (6, .int x6), (7, .int x7)] → W p l e rm_X8_holdOf s m args below meth c H locs 0 0 Z (F0 m 6 ls []) := by
    intro n_6
    induction n_6 with
    | zero => intro x2 x3 x4 x5 x6 x7 hw; exact False.elim hw
    | succ n_6 ih_6 =>
      intro x2 x3 x4 x5 x6 x7 hw H locs hP hD hS ls hl
      have hw : wf_X8_holdOf_6 nA arr M_strength M_kind M_more M_glues Q (wq_X8_holdOf_6 nA arr M_strength M_kind M_more M_glues Q n_6) x2 x3 x4 x5 x6 x7 := hw
      unfold wf_X8_holdOf_6 at hw
      refine lv_iload hx hb dX8_holdOf_6 (lv_at hl 7 rfl) ?_
      refine lv_iconst (v := (4 : Int32)) hx hb dX8_holdOf_8 kI_4 ?_
      refine lv_icmp_ge (tgt := 68) hx hb dX8_holdOf_9 (by decide) (fun c9 => ?_) (fun c9 => ?_)
      · have hw := hw.1 c9
        refine lv_iload hx hb dX8_holdOf_68 (lv_at hl 6 rfl) ?_
        rw [hZ]
        exact cx_reti () hx hb hr hlocks hw hP hS dX8_holdOf_70
      · have hw := hw.2 c9
        refine lv_iload hx hb dX8_holdOf_12 (lv_at hl 6 rfl) ?_
        refine lv_aload_n hx hb dX8_holdOf_14 rfl (lv_at hl 0 rfl) ?_
        refine lv_aload_n hx hb dX8_holdOf_15 rfl (lv_at hl 1 rfl) ?_
        refine lv_iload_n hx hb dX8_holdOf_16 rfl (lv_at hl 2 rfl) ?_
        refine lv_iload_n hx hb dX8_holdOf_17 rfl (lv_at hl 3 rfl) ?_
        refine lv_iconst (v := (0 : Int32)) hx hb dX8_holdOf_18 kI_0 ?_
        refine lv_iload hx hb dX8_holdOf_19 (lv_at hl 4 rfl) ?_
        refine lv_iload hx hb dX8_holdOf_21 (lv_at hl 5 rfl) ?_
        refine lv_iload hx hb dX8_holdOf_23 (lv_at hl 7 rfl) ?_
        refine cx_goi (va_runV (As := [.ref aA, .int x2, .int x3, .int (0 : Int32), .int x4, .int x5, .int x7]) (rest := [.int x6]) ⟨hx, hb, hml, hown, hts⟩ (c_X8_holdAt l D cI cJ cZ cO tS tT H.size aA aM aM_strength aM_kind aM_more aM_glues aM_sheet aM_since aM_imageStrength aM_imageKind aM_imageMore aM_imageGlues aM_imagePieces aM_imageWarmth aM_imageSheet aM_imageDraw aM_stepWhat aM_stepPiece aM_stepPlace aM_stepSince aM_tape aM_shapes aM_pile aM_met aM_next aM_inputs aM_then nA arr M_pieces M_warmth M_draw M_steps M_undoable M_brought M_taped M_shapeMany M_ended M_cut M_mostPieces M_walks M_walked M_strength M_kind M_more M_glues x2 x3 (0 : Int32) x4 x5 x7 _ hw) (cwV 7 hts gX8_holdOf_X8_holdAt rfl rfl rfl pv_X8_holdAt ⟨Nat.le_of_ble_eq_true rfl, Nat.le_of_ble_eq_true rfl⟩) (cx_preV (wc := w_X8_holdAt cI cJ cZ cO aA aM aM_strength aM_kind aM_more aM_glues aM_sheet aM_since aM_imageStrength aM_imageKind aM_imageMore aM_imageGlues aM_imagePieces aM_imageWarmth aM_imageSheet aM_imageDraw aM_stepWhat aM_stepPiece aM_stepPlace aM_stepSince aM_tape aM_shapes aM_pile aM_met aM_next aM_inputs aM_then nA arr M_pieces M_warmth M_draw M_steps M_undoable M_brought M_taped M_shapeMany M_ended M_cut M_mostPieces M_walks M_walked M_strength M_kind M_more M_glues) hE hK hP hD hS hA [0, 1, 2, 3, 4, 5] rfl rfl (va_recv hK hP (ci := 8) (q0 := 1) rfl rfl)) rfl rfl hl.1 rfl (lv_room (Nat.le_of_ble_eq_true rfl)) dX8_holdOf_25 ⟨Nat.le_of_ble_eq_true rfl, Nat.le_of_ble_eq_true rfl⟩) (fun (_ : Unit) => (w_X8_holdOf cI cJ cZ cO aA aM aM_strength aM_kind aM_more aM_glues aM_sheet aM_since aM_imageStrength aM_imageKind aM_imageMore aM_imageGlues aM_imagePieces aM_imageWarmth aM_imageSheet aM_imageDraw aM_stepWhat aM_stepPiece aM_stepPlace aM_stepSince aM_tape aM_shapes aM_pile aM_met aM_next aM_inputs aM_then nA arr M_pieces M_warmth M_draw M_steps M_undoable M_brought M_taped M_shapeMany M_ended M_cut M_mostPieces M_walks M_walked M_strength M_kind M_more M_glues)) [0, 1, 2, 3, 4, 5] [] (ads := [aA, aM, aM_strength, aM_kind, aM_more, aM_glues]) (wr := []) rfl rfl (fun u => rfl) (fun u => rfl) rfl (fun u => rfl) rfl (fun u => rfl) rfl hP hD hS hA (fun r25 u H locs hw hP hD hS => ?_)
        have hP : va_P D vwCl (w_X8_holdOf cI cJ cZ cO aA aM aM_strength aM_kind aM_more aM_glues aM_sheet aM_since aM_imageStrength aM_imageKind aM_imageMore aM_imageGlues aM_imagePieces aM_imageWarmth aM_imageSheet aM_imageDraw aM_stepWhat aM_stepPiece aM_stepPlace aM_stepSince aM_tape aM_shapes aM_pile aM_met aM_next aM_inputs aM_then nA arr M_pieces M_warmth M_draw M_steps M_undoable M_brought M_taped M_shapeMany M_ended M_cut M_mostPieces M_walks M_walked M_strength M_kind M_more M_glues) H := hP
        have hD : va_D A (w_X8_holdOf cI cJ cZ cO aA aM aM_strength aM_kind aM_more aM_glues aM_sheet aM_since aM_imageStrength aM_imageKind aM_imageMore aM_imageGlues aM_imagePieces aM_imageWarmth aM_imageSheet aM_imageDraw aM_stepWhat aM_stepPiece aM_stepPlace aM_stepSince aM_tape aM_shapes aM_pile aM_met aM_next aM_inputs aM_then nA arr M_pieces M_warmth M_draw M_steps M_undoable M_brought M_taped M_shapeMany M_ended M_cut M_mostPieces M_walks M_walked M_strength M_kind M_more M_glues) := hD
        refine lv_iadd hx hb dX8_holdOf_28 ?_
        refine lv_topi (fun v29 e29 => ?_)
        have hw := hw v29 e29
        refine lv_istore (lv' := [(6, .int v29), (0, .ref aM), (1, .ref aA), (2, .int x2), (3, .int x3), (4, .int x4), (5, .int x5), (7, .int x7)]) hx hb dX8_holdOf_29 hl (by decide) rfl (fun ls hl => ?_)
        refine lv_aload_n hx hb dX8_holdOf_31 rfl (lv_at hl 1 rfl) ?_
        refine va_get (D := D) (ci := 8) (v := .ref aM_kind) (C := RX8) (T := TX8) (N := 38) hx hb hts in_X8_holdOf_X8 hown hK hP 1 rfl rfl 1 (by decide) k_0 (fun _ h9 => h9) rfl dX8_holdOf_32 ?_
        refine lv_iload_n hx hb dX8_holdOf_35 rfl (lv_at hl 4 rfl) ?_
        have h36 := hw.1
        have hw := hw.2
        refine va_iald hx hb hK hP 3 0 rfl rfl h36 dX8_holdOf_36 ?_
        refine lv_topi (fun v36 e36 => ?_)
        have hw := hw v36 e36
        refine lv_iconst (v := (2 : Int32)) hx hb dX8_holdOf_37 kI_2 ?_
        refine lv_icmp_ne (tgt := 62) hx hb dX8_holdOf_38 (by decide) (fun c38 => ?_) (fun c38 => ?_)
        · have hw := hw.1 c38
          obtain ⟨v62, e62⟩ : ∃ y : Int32, y = x7 + (1 : Int32) := ⟨_, rfl⟩
          have hw := hw v62 e62
          refine lv_iinc (v := v62) (lv' := [(7, .int v62), (6, .int v29), (0, .ref aM), (1, .ref aA), (2, .int x2), (3, .int x3), (4, .int x4), (5, .int x5)]) hx hb dX8_holdOf_62 hl (k := 7) rfl (by rw [e62, kI_1]) (by decide) rfl (fun ls hl => ?_)
          refine lv_goto (tgt := 6) hx hb dX8_holdOf_65 (by decide) ?_
          exact ih_6 x2 x3 x4 x5 v29 v62 hw H locs hP hD hS ls (lv_sub hl [2, 3, 4, 5, 6, 7, 1, 0] rfl)
        · have hw := hw.2 c38
          refine lv_iload hx hb dX8_holdOf_41 (lv_at hl 0 rfl) ?_
          refine lv_aload_n hx hb dX8_holdOf_43 rfl (lv_at hl 1 rfl) ?_
          refine lv_aload_n hx hb dX8_holdOf_44 rfl (lv_at hl 2 rfl) ?_
          refine lv_iload_n hx hb dX8_holdOf_45 rfl (lv_at hl 3 rfl) ?_
          refine lv_iload_n hx hb dX8_holdOf_46 rfl (lv_at hl 4 rfl) ?_
          refine lv_iconst (v := (1 : Int32)) hx hb dX8_holdOf_47 kI_1 ?_
          refine lv_iload hx hb dX8_holdOf_48 (lv_at hl 5 rfl) ?_
          refine lv_iconst (v := (1 : Int32)) hx hb dX8_holdOf_50 kI_1 ?_
          refine lv_iadd hx hb dX8_holdOf_51 ?_
          refine lv_iload hx hb dX8_holdOf_52 (lv_at hl 6 rfl) ?_
          refine lv_iload hx hb dX8_holdOf_54 (lv_at hl 7 rfl) ?_
          refine cx_goi (va_runV (As := [.ref aA, .int x2, .int x3, .int (1 : Int32), .int (x4 + (1 : Int32)), .int x5, .int x7]) (rest := [.int v29]) ⟨hx, hb, hml, hown, hts⟩ (c_X8_holdAt l D cI cJ cZ cO tS tT H.size aA aM aM_strength aM_kind aM_more aM_glues aM_sheet aM_since aM_imageStrength aM_imageKind aM_imageMore aM_imageGlues aM_imagePieces aM_imageWarmth aM_imageSheet aM_imageDraw aM_stepWhat aM_stepPiece aM_stepPlace aM_stepSince aM_tape aM_shapes aM_pile aM_met aM_next aM_inputs aM_then nA arr M_pieces M_warmth M_draw M_steps M_undoable M_brought M_taped M_shapeMany M_ended M_cut M_mostPieces M_walks M_walked M_strength M_kind M_more M_glues x2 x3 (1 : Int32) (x4 + (1 : Int32)) x5 x7 _ hw) (cwV 7 hts gX8_holdOf_X8_holdAt rfl rfl rfl pv_X8_holdAt ⟨Nat.le_of_ble_eq_true rfl, Nat.le_of_ble_eq_true rfl⟩) (cx_preV (wc := w_X8_holdAt cI cJ cZ cO aA aM aM_strength aM_kind aM_more aM_glues aM_sheet aM_since aM_imageStrength aM_imageKind aM_imageMore aM_imageGlues aM_imagePieces aM_imageWarmth aM_imageSheet aM_imageDraw aM_stepWhat aM_stepPiece aM_stepPlace aM_stepSince aM_tape aM_shapes aM_pile aM_met aM_next aM_inputs aM_then nA arr M_pieces M_warmth M_draw M_steps M_undoable M_brought M_taped M_shapeMany M_ended M_cut M_mostPieces M_walks M_walked M_strength M_kind M_more M_glues) hE hK hP hD hS hA [0, 1, 2, 3, 4, 5] rfl rfl (va_recv hK hP (ci := 8) (q0 := 1) rfl rfl)) rfl rfl hl.1 rfl (lv_room (Nat.le_of_ble_eq_true rfl)) dX8_holdOf_56 ⟨Nat.le_of_ble_eq_true rfl, Nat.le_of_ble_eq_true rfl⟩) (fun (_ : Unit) => (w_X8_holdOf cI cJ cZ cO aA aM aM_strength aM_kind aM_more aM_glues aM_sheet aM_since aM_imageStrength aM_imageKind aM_imageMore aM_imageGlues aM_imagePieces aM_imageWarmth aM_imageSheet aM_imageDraw aM_stepWhat aM_stepPiece aM_stepPlace aM_stepSince aM_tape aM_shapes aM_pile aM_met aM_next aM_inputs aM_then nA arr M_pieces M_warmth M_draw M_steps M_undoable M_brought M_taped M_shapeMany M_ended M_cut M_mostPieces M_walks M_walked M_strength M_kind M_more M_glues)) [0, 1, 2, 3, 4, 5] [] (ads := [aA, aM, aM_strength, aM_kind, aM_more, aM_glues]) (wr := []) rfl rfl (fun u => rfl) (fun u => rfl) rfl (fun u => rfl) rfl (fun u => rfl) rfl hP hD hS hA (fun r56 u H locs hw hP hD hS => ?_)
          have hP : va_P D vwCl (w_X8_holdOf cI cJ cZ cO aA aM aM_strength aM_kind aM_more aM_glues aM_sheet aM_since aM_imageStrength aM_imageKind aM_imageMore aM_imageGlues aM_imagePieces aM_imageWarmth aM_imageSheet aM_imageDraw aM_stepWhat aM_stepPiece aM_stepPlace aM_stepSince aM_tape aM_shapes aM_pile aM_met aM_next aM_inputs aM_then nA arr M_pieces M_warmth M_draw M_steps M_undoable M_brought M_taped M_shapeMany M_ended M_cut M_mostPieces M_walks M_walked M_strength M_kind M_more M_glues) H := hP
          have hD : va_D A (w_X8_holdOf cI cJ cZ cO aA aM aM_strength aM_kind aM_more aM_glues aM_sheet aM_since aM_imageStrength aM_imageKind aM_imageMore aM_imageGlues aM_imagePieces aM_imageWarmth aM_imageSheet aM_imageDraw aM_stepWhat aM_stepPiece aM_stepPlace aM_stepSince aM_tape aM_shapes aM_pile aM_met aM_next aM_inputs aM_then nA arr M_pieces M_warmth M_draw M_steps M_undoable M_brought M_taped M_shapeMany M_ended M_cut M_mostPieces M_walks M_walked M_strength M_kind M_more M_glues) := hD
          refine lv_iadd hx hb dX8_holdOf_59 ?_
          refine lv_topi (fun v60 e60 => ?_)
          have hw := hw v60 e60
          refine lv_istore (lv' := [(6, .int v60), (0, .ref aM), (1, .ref aA), (2, .int x2), (3, .int x3), (4, .int x4), (5, .int x5), (7, .int x7)]) hx hb dX8_holdOf_60 hl (by decide) rfl (fun ls hl => ?_)
          obtain ⟨v62, e62⟩ : ∃ y : Int32, y = x7 + (1 : Int32) := ⟨_, rfl⟩
          have hw := hw v62 e62
          refine lv_iinc (v := v62) (lv' := [(7, .int v62), (6, .int v60), (0, .ref aM), (1, .ref aA), (2, .int x2), (3, .int x3), (4, .int x4), (5, .int x5)]) hx hb dX8_holdOf_62 hl (k := 7) rfl (by rw [e62, kI_1]) (by decide) rfl (fun ls hl => ?_)
          refine lv_goto (tgt := 6) hx hb dX8_holdOf_65 (by decide) ?_
          exact ih_6 x2 x3 x4 x5 v60 v62 hw H locs hP hD hS ls (lv_sub hl [2, 3, 4, 5, 6, 7, 1, 0] rfl)
  intro H locs hP hD hS ls hl
  unfold wp_X8_holdOf at hw
  refine lv_iconst (v := (0 : Int32)) hx hb dX8_holdOf_0 kI_0 ?_
  refine lv_istore (lv' := [(6, .int (0 : Int32)), (0, .ref aM), (1, .ref aA), (2, .int p2), (3, .int p3), (4, .int p4), (5, .int p5)]) hx hb dX8_holdOf_1 hl (by decide) rfl (fun ls hl => ?_)
  refine lv_iconst (v := (0 : Int32)) hx hb dX8_holdOf_3 kI_0 ?_
  refine lv_istore (lv' := [(7, .int (0 : Int32)), (6, .int (0 : Int32)), (0, .ref aM), (1, .ref aA), (2, .int p2), (3, .int p3), (4, .int p4), (5, .int p5)]) hx hb dX8_holdOf_4 hl (by decide) rfl (fun ls hl => ?_)
  obtain ⟨k, hw⟩ := hw
  exact b_6 k p2 p3 p4 p5 (0 : Int32) (0 : Int32) hw H locs hP hD hS ls (lv_sub hl [2, 3, 4, 5, 6, 7, 1, 0] rfl)
set_option maxRecDepth 100000 in
set_option maxHeartbeats 4000000 in
theorem c_X8_isFree (l : Launch) (D : va_G) (cI cJ cZ cO : ClassId) (tS tT : Nat) (sz : Nat) (aA aM aM_strength aM_kind aM_more aM_glues aM_sheet aM_since aM_imageStrength aM_imageKind aM_imageMore aM_imageGlues aM_imagePieces aM_imageWarmth aM_imageSheet aM_imageDraw aM_stepWhat aM_stepPiece aM_stepPlace aM_stepSince aM_tape aM_shapes aM_pile aM_met aM_next aM_inputs aM_then : Nat) (nA : Nat) (arr : Nat → Int32) (M_pieces : Int32) (M_warmth : Int32) (M_draw : Int64) (M_steps : Int32) (M_undoable : Int32) (M_brought : Int32) (M_taped : Int32) (M_shapeMany : Int32) (M_ended : Int32) (M_cut : Int32) (M_mostPieces : Int32) (M_walks : Int32) (M_walked : Int32) (M_kind : Nat → Int32) (p2 : Int32) (p3 : Int32) (p4 : Int32) (p5 : Int32) (Q : Int32 → Prop) (hw : wp_X8_isFree nA arr M_kind p2 p3 p4 p5 Q) : Met l yX8_isFree wsX8_isFree rm_X8_isFree (va_Pc [.ref aM, .ref aA, .int p2, .int p3, .int p4, .int p5] (cx_B tS tT cI cJ cZ cO D sz (w_X8_isFree cI cJ cZ cO aA aM aM_strength aM_kind aM_more aM_glues aM_sheet aM_since aM_imageStrength aM_imageKind aM_imageMore aM_imageGlues aM_imagePieces aM_imageWarmth aM_imageSheet aM_imageDraw aM_stepWhat aM_stepPiece aM_stepPlace aM_stepSince aM_tape aM_shapes aM_pile aM_met aM_next aM_inputs aM_then nA arr M_pieces M_warmth M_draw M_steps M_undoable M_brought M_taped M_shapeMany M_ended M_cut M_mostPieces M_walks M_walked M_kind))) (va_Qi (fun (r : Int32) (_ : Unit) => Q r) (fun (u : Unit) t => va_P D vwCl (w_X8_isFree cI cJ cZ cO aA aM aM_strength aM_kind aM_more aM_glues aM_sheet aM_since aM_imageStrength aM_imageKind aM_imageMore aM_imageGlues aM_imagePieces aM_imageWarmth aM_imageSheet aM_imageDraw aM_stepWhat aM_stepPiece aM_stepPlace aM_stepSince aM_tape aM_shapes aM_pile aM_met aM_next aM_inputs aM_then nA arr M_pieces M_warmth M_draw M_steps M_undoable M_brought M_taped M_shapeMany M_ended M_cut M_mostPieces M_walks M_walked M_kind) t.heap) (va_A (w_X8_isFree cI cJ cZ cO aA aM aM_strength aM_kind aM_more aM_glues aM_sheet aM_since aM_imageStrength aM_imageKind aM_imageMore aM_imageGlues aM_imagePieces aM_imageWarmth aM_imageSheet aM_imageDraw aM_stepWhat aM_stepPiece aM_stepPlace aM_stepSince aM_tape aM_shapes aM_pile aM_met aM_next aM_inputs aM_then nA arr M_pieces M_warmth M_draw M_steps M_undoable M_brought M_taped M_shapeMany M_ended M_cut M_mostPieces M_walks M_walked M_kind) sz)) 0 0 (va_A (w_X8_isFree cI cJ cZ cO aA aM aM_strength aM_kind aM_more aM_glues aM_sheet aM_since aM_imageStrength aM_imageKind aM_imageMore aM_imageGlues aM_imagePieces aM_imageWarmth aM_imageSheet aM_imageDraw aM_stepWhat aM_stepPiece aM_stepPlace aM_stepSince aM_tape aM_shapes aM_pile aM_met aM_next aM_inputs aM_then nA arr M_pieces M_warmth M_draw M_steps M_undoable M_brought M_taped M_shapeMany M_ended M_cut M_mostPieces M_walks M_walked M_kind) sz) := by
  refine cx_met (cc := cX8_isFree) (maxL := 7) (ret := (some .boolean)) (Qc := fun A => va_Qi (fun (r : Int32) (_ : Unit) => Q r) (fun (u : Unit) t => va_P D vwCl (w_X8_isFree cI cJ cZ cO aA aM aM_strength aM_kind aM_more aM_glues aM_sheet aM_since aM_imageStrength aM_imageKind aM_imageMore aM_imageGlues aM_imagePieces aM_imageWarmth aM_imageSheet aM_imageDraw aM_stepWhat aM_stepPiece aM_stepPlace aM_stepSince aM_tape aM_shapes aM_pile aM_met aM_next aM_inputs aM_then nA arr M_pieces M_warmth M_draw M_steps M_undoable M_brought M_taped M_shapeMany M_ended M_cut M_mostPieces M_walks M_walked M_kind) t.heap) A) (lv := [(0, .ref aM), (1, .ref aA), (2, .int p2), (3, .int p3), (4, .int p4), (5, .int p5)]) (by decide) rfl (Nat.le_of_ble_eq_true rfl) rfl ?_
  intro p e s m args below meth c A Z hx hb hr hlocks hts hown hml hE hK hA hZ
  have hown : s.vm.findClass RX8 = some m.cls := hown
  have k_0 := hts (.fieldLink RX8 13 "GrowingTilesModel" "kind" "[I") (List.mem_of_getElem? (i := 1) (by decide +kernel))
  have b_30 : ∀ (x2 : Int32) (x3 : Int32) (x4 : Int32) (x5 : Int32) (y0 : Int32), wq_X8_isFree_30 nA arr M_kind Q x2 x3 x4 x5 y0 → ∀ (H : Heap) (locs : List Loc), va_P D vwCl (w_X8_isFree cI cJ cZ cO aA aM aM_strength aM_kind aM_more aM_glues aM_sheet aM_since aM_imageStrength aM_imageKind aM_imageMore aM_imageGlues aM_imagePieces aM_imageWarmth aM_imageSheet aM_imageDraw aM_stepWhat aM_stepPiece aM_stepPlace aM_stepSince aM_tape aM_shapes aM_pile aM_met aM_next aM_inputs aM_then nA arr M_pieces M_warmth M_draw M_steps M_undoable M_brought M_taped M_shapeMany M_ended M_cut M_mostPieces M_walks M_walked M_kind) H → va_D A (w_X8_isFree cI cJ cZ cO aA aM aM_strength aM_kind aM_more aM_glues aM_sheet aM_since aM_imageStrength aM_imageKind aM_imageMore aM_imageGlues aM_imagePieces aM_imageWarmth aM_imageSheet aM_imageDraw aM_stepWhat aM_stepPiece aM_stepPlace aM_stepSince aM_tape aM_shapes aM_pile aM_met aM_next aM_inputs aM_then nA arr M_pieces M_warmth M_draw M_steps M_undoable M_brought M_taped M_shapeMany M_ended M_cut M_mostPieces M_walks M_walked M_kind) → va_S A s.heap H locs → ∀ ls : Array Slot, lv_has ls 7 [(0, .ref aM), (1, .ref aA), (2, .int x2), (3, .int x3), (4, .int x4), (5, .int x5)] → W p l e rm_X8_isFree s m args below meth c H locs 0 0 Z (F0 m 30 ls [.int y0]) := by
    intro x2 x3 x4 x5 y0 hw H locs hP hD hS ls hl
    unfold wq_X8_isFree_30 at hw
    refine lv_istore (lv' := [(6, .int y0), (0, .ref aM), (1, .ref aA), (2, .int x2), (3, .int x3), (4, .int x4), (5, .int x5)]) hx hb dX8_isFree_30 hl (by decide) rfl (fun ls hl => ?_)
    refine lv_iload hx hb dX8_isFree_32 (lv_at hl 0 rfl) ?_
    refine lv_if_eq (tgt := 80) hx hb dX8_isFree_34 (by decide) (fun c34 => ?_) (fun c34 => ?_)
    · have hw := hw.1 c34
      refine lv_iconst (v := (0 : Int32)) hx hb dX8_isFree_80 kI_0 ?_
      rw [hZ]
      exact cx_retz () hx hb hr hlocks rfl hw hP hS dX8_isFree_81
    · have hw := hw.2 c34
      refine lv_aload_n hx hb dX8_isFree_37 rfl (lv_at hl 1 rfl) ?_
      refine va_get (D := D) (ci := 8) (v := .ref aM_kind) (C := RX8) (T := TX8) (N := 38) hx hb hts in_X8_isFree_X8 hown hK hP 1 rfl rfl 1 (by decide) k_0 (fun _ h9 => h9) rfl dX8_isFree_38 ?_
      refine lv_iload_n hx hb dX8_isFree_41 rfl (lv_at hl 4 rfl) ?_
      have h42 := hw.1
      have hw := hw.2
      refine va_iald hx hb hK hP 2 0 rfl rfl h42 dX8_isFree_42 ?_
      refine lv_topi (fun v42 e42 => ?_)
      have hw := hw v42 e42
      refine lv_iconst (v := (2 : Int32)) hx hb dX8_isFree_43 kI_2 ?_
      refine lv_icmp_ne (tgt := 76) hx hb dX8_isFree_44 (by decide) (fun c44 => ?_) (fun c44 => ?_)
      · have hw := hw.1 c44
        refine lv_iconst (v := (1 : Int32)) hx hb dX8_isFree_76 kI_1 ?_
        refine lv_goto (tgt := 81) hx hb dX8_isFree_77 (by decide) ?_
        rw [hZ]
        exact cx_retz () hx hb hr hlocks rfl hw hP hS dX8_isFree_81
      · have hw := hw.2 c44
        refine lv_iload hx hb dX8_isFree_47 (lv_at hl 5 rfl) ?_
        refine lv_iconst (v := (1 : Int32)) hx hb dX8_isFree_49 kI_1 ?_
        refine lv_iadd hx hb dX8_isFree_50 ?_
        refine lv_iload hx hb dX8_isFree_51 (lv_at hl 6 rfl) ?_
        refine cx_goi (va_runS (As := [.int (x4 + (1 : Int32)), .int x5]) (rest := []) ⟨hx, hb, hml, hown, hts⟩ (c_X8_isOn l D cI cJ cZ cO tS tT H.size (x4 + (1 : Int32)) x5 _ hw) (va_cwS 2 hts gX8_isFree_X8_isOn rfl rfl rfl ps_X8_isOn ⟨Nat.le_of_ble_eq_true rfl, Nat.le_of_ble_eq_true rfl⟩) (cx_preS (wc := w_X8_isOn) hE hK hP hD hS hA [] rfl rfl) rfl rfl hl.1 rfl (lv_room (Nat.le_of_ble_eq_true rfl)) dX8_isFree_53 ⟨Nat.le_of_ble_eq_true rfl, Nat.le_of_ble_eq_true rfl⟩) (fun (_ : Unit) => (w_X8_isFree cI cJ cZ cO aA aM aM_strength aM_kind aM_more aM_glues aM_sheet aM_since aM_imageStrength aM_imageKind aM_imageMore aM_imageGlues aM_imagePieces aM_imageWarmth aM_imageSheet aM_imageDraw aM_stepWhat aM_stepPiece aM_stepPlace aM_stepSince aM_tape aM_shapes aM_pile aM_met aM_next aM_inputs aM_then nA arr M_pieces M_warmth M_draw M_steps M_undoable M_brought M_taped M_shapeMany M_ended M_cut M_mostPieces M_walks M_walked M_kind)) [] [0, 1, 2] (ads := []) (wr := [(aA, .inl (cI, nA, .inl arr)), (aM, .inr (8, [.ref aM_strength, .ref aM_kind, .ref aM_more, .ref aM_glues, .int M_pieces, .int M_warmth, .long M_draw, .ref aM_sheet, .ref aM_since, .ref aM_imageStrength, .ref aM_imageKind, .ref aM_imageMore, .ref aM_imageGlues, .ref aM_imagePieces, .ref aM_imageWarmth, .ref aM_imageSheet, .ref aM_imageDraw, .ref aM_stepWhat, .ref aM_stepPiece, .ref aM_stepPlace, .ref aM_stepSince, .int M_steps, .int M_undoable, .int M_brought, .ref aM_tape, .int M_taped, .ref aM_shapes, .int M_shapeMany, .int M_ended, .int M_cut, .int M_mostPieces, .int M_walks, .int M_walked, .ref aM_pile, .ref aM_met, .ref aM_next, .ref aM_inputs, .ref aM_then])), (aM_kind, .inl (cI, 40, .inl M_kind))]) rfl rfl (fun u => rfl) (fun u => rfl) rfl (fun u => rfl) rfl (fun u => rfl) rfl hP hD hS hA (fun r53 u H locs hw hP hD hS => ?_)
        refine lv_if_eq (tgt := 80) hx hb dX8_isFree_56 (by decide) (fun c56 => ?_) (fun c56 => ?_)
        · have hw := hw.1 c56
          refine lv_iconst (v := (0 : Int32)) hx hb dX8_isFree_80 kI_0 ?_
          rw [hZ]
          exact cx_retz () hx hb hr hlocks rfl hw hP hS dX8_isFree_81
        · have hw := hw.2 c56
          refine lv_aload_n hx hb dX8_isFree_59 rfl (lv_at hl 2 rfl) ?_
          refine lv_iload_n hx hb dX8_isFree_60 rfl (lv_at hl 3 rfl) ?_
          refine lv_iload hx hb dX8_isFree_61 (lv_at hl 5 rfl) ?_
          refine lv_iadd hx hb dX8_isFree_63 ?_
          refine lv_iconst (v := (1 : Int32)) hx hb dX8_isFree_64 kI_1 ?_
          refine lv_iadd hx hb dX8_isFree_65 ?_
          refine lv_bipush (v := (16 : Int32)) hx hb dX8_isFree_66 kB_16 ?_
          refine lv_iload hx hb dX8_isFree_68 (lv_at hl 6 rfl) ?_
          refine lv_imul hx hb dX8_isFree_70 ?_
          refine lv_iadd hx hb dX8_isFree_71 ?_
          have h72 := hw.1
          have hw := hw.2
          refine va_iald hx hb hK hP 0 0 rfl rfl h72 dX8_isFree_72 ?_
          refine lv_topi (fun v72 e72 => ?_)
          have hw := hw v72 e72
          refine lv_if_ne (tgt := 80) hx hb dX8_isFree_73 (by decide) (fun c73 => ?_) (fun c73 => ?_)
          · have hw := hw.1 c73
            refine lv_iconst (v := (0 : Int32)) hx hb dX8_isFree_80 kI_0 ?_
            rw [hZ]
            exact cx_retz () hx hb hr hlocks rfl hw hP hS dX8_isFree_81
          · have hw := hw.2 c73
            refine lv_iconst (v := (1 : Int32)) hx hb dX8_isFree_76 kI_1 ?_
            refine lv_goto (tgt := 81) hx hb dX8_isFree_77 (by decide) ?_
            rw [hZ]
            exact cx_retz () hx hb hr hlocks rfl hw hP hS dX8_isFree_81
  have b_29 : ∀ (x2 : Int32) (x3 : Int32) (x4 : Int32) (x5 : Int32), wq_X8_isFree_29 nA arr M_kind Q x2 x3 x4 x5 → ∀ (H : Heap) (locs : List Loc), va_P D vwCl (w_X8_isFree cI cJ cZ cO aA aM aM_strength aM_kind aM_more aM_glues aM_sheet aM_since aM_imageStrength aM_imageKind aM_imageMore aM_imageGlues aM_imagePieces aM_imageWarmth aM_imageSheet aM_imageDraw aM_stepWhat aM_stepPiece aM_stepPlace aM_stepSince aM_tape aM_shapes aM_pile aM_met aM_next aM_inputs aM_then nA arr M_pieces M_warmth M_draw M_steps M_undoable M_brought M_taped M_shapeMany M_ended M_cut M_mostPieces M_walks M_walked M_kind) H → va_D A (w_X8_isFree cI cJ cZ cO aA aM aM_strength aM_kind aM_more aM_glues aM_sheet aM_since aM_imageStrength aM_imageKind aM_imageMore aM_imageGlues aM_imagePieces aM_imageWarmth aM_imageSheet aM_imageDraw aM_stepWhat aM_stepPiece aM_stepPlace aM_stepSince aM_tape aM_shapes aM_pile aM_met aM_next aM_inputs aM_then nA arr M_pieces M_warmth M_draw M_steps M_undoable M_brought M_taped M_shapeMany M_ended M_cut M_mostPieces M_walks M_walked M_kind) → va_S A s.heap H locs → ∀ ls : Array Slot, lv_has ls 7 [(0, .ref aM), (1, .ref aA), (2, .int x2), (3, .int x3), (4, .int x4), (5, .int x5)] → W p l e rm_X8_isFree s m args below meth c H locs 0 0 Z (F0 m 29 ls []) := by
    intro x2 x3 x4 x5 hw H locs hP hD hS ls hl
    unfold wq_X8_isFree_29 at hw
    refine lv_iconst (v := (0 : Int32)) hx hb dX8_isFree_29 kI_0 ?_
    exact b_30 x2 x3 x4 x5 (0 : Int32) hw H locs hP hD hS ls (lv_sub hl [0, 1, 2, 3, 4, 5] rfl)
  intro H locs hP hD hS ls hl
  unfold wp_X8_isFree at hw
  refine lv_iload hx hb dX8_isFree_0 (lv_at hl 4 rfl) ?_
  refine lv_iload hx hb dX8_isFree_2 (lv_at hl 5 rfl) ?_
  refine cx_goi (va_runS (As := [.int p4, .int p5]) (rest := []) ⟨hx, hb, hml, hown, hts⟩ (c_X8_isOn l D cI cJ cZ cO tS tT H.size p4 p5 _ hw) (va_cwS 2 hts gX8_isFree_X8_isOn rfl rfl rfl ps_X8_isOn ⟨Nat.le_of_ble_eq_true rfl, Nat.le_of_ble_eq_true rfl⟩) (cx_preS (wc := w_X8_isOn) hE hK hP hD hS hA [] rfl rfl) rfl rfl hl.1 rfl (lv_room (Nat.le_of_ble_eq_true rfl)) dX8_isFree_4 ⟨Nat.le_of_ble_eq_true rfl, Nat.le_of_ble_eq_true rfl⟩) (fun (_ : Unit) => (w_X8_isFree cI cJ cZ cO aA aM aM_strength aM_kind aM_more aM_glues aM_sheet aM_since aM_imageStrength aM_imageKind aM_imageMore aM_imageGlues aM_imagePieces aM_imageWarmth aM_imageSheet aM_imageDraw aM_stepWhat aM_stepPiece aM_stepPlace aM_stepSince aM_tape aM_shapes aM_pile aM_met aM_next aM_inputs aM_then nA arr M_pieces M_warmth M_draw M_steps M_undoable M_brought M_taped M_shapeMany M_ended M_cut M_mostPieces M_walks M_walked M_kind)) [] [0, 1, 2] (ads := []) (wr := [(aA, .inl (cI, nA, .inl arr)), (aM, .inr (8, [.ref aM_strength, .ref aM_kind, .ref aM_more, .ref aM_glues, .int M_pieces, .int M_warmth, .long M_draw, .ref aM_sheet, .ref aM_since, .ref aM_imageStrength, .ref aM_imageKind, .ref aM_imageMore, .ref aM_imageGlues, .ref aM_imagePieces, .ref aM_imageWarmth, .ref aM_imageSheet, .ref aM_imageDraw, .ref aM_stepWhat, .ref aM_stepPiece, .ref aM_stepPlace, .ref aM_stepSince, .int M_steps, .int M_undoable, .int M_brought, .ref aM_tape, .int M_taped, .ref aM_shapes, .int M_shapeMany, .int M_ended, .int M_cut, .int M_mostPieces, .int M_walks, .int M_walked, .ref aM_pile, .ref aM_met, .ref aM_next, .ref aM_inputs, .ref aM_then])), (aM_kind, .inl (cI, 40, .inl M_kind))]) rfl rfl (fun u => rfl) (fun u => rfl) rfl (fun u => rfl) rfl (fun u => rfl) rfl hP hD hS hA (fun r4 u H locs hw hP hD hS => ?_)
  refine lv_if_eq (tgt := 29) hx hb dX8_isFree_7 (by decide) (fun c7 => ?_) (fun c7 => ?_)
  · have hw := hw.1 c7
    exact b_29 p2 p3 p4 p5 hw H locs hP hD hS ls (lv_sub hl [0, 1, 2, 3, 4, 5] rfl)
  · have hw := hw.2 c7
    refine lv_aload_n hx hb dX8_isFree_10 rfl (lv_at hl 1 rfl) ?_
    refine lv_iload_n hx hb dX8_isFree_11 rfl (lv_at hl 2 rfl) ?_
    refine lv_iload hx hb dX8_isFree_12 (lv_at hl 4 rfl) ?_
    refine lv_iadd hx hb dX8_isFree_14 ?_
    refine lv_bipush (v := (16 : Int32)) hx hb dX8_isFree_15 kB_16 ?_
    refine lv_iload hx hb dX8_isFree_17 (lv_at hl 5 rfl) ?_
    refine lv_imul hx hb dX8_isFree_19 ?_
    refine lv_iadd hx hb dX8_isFree_20 ?_
    have h21 := hw.1
    have hw := hw.2
    refine va_iald hx hb hK hP 0 0 rfl rfl h21 dX8_isFree_21 ?_
    refine lv_topi (fun v21 e21 => ?_)
    have hw := hw v21 e21
    refine lv_if_ne (tgt := 29) hx hb dX8_isFree_22 (by decide) (fun c22 => ?_) (fun c22 => ?_)
    · have hw := hw.1 c22
      exact b_29 p2 p3 p4 p5 hw H locs hP hD hS ls (lv_sub hl [0, 1, 2, 3, 4, 5] rfl)
    · have hw := hw.2 c22
      refine lv_iconst (v := (1 : Int32)) hx hb dX8_isFree_25 kI_1 ?_
      refine lv_goto (tgt := 30) hx hb dX8_isFree_26 (by decide) ?_
      exact b_30 p2 p3 p4 p5 (1 : Int32) hw H locs hP hD hS ls (lv_sub hl [0, 1, 2, 3, 4, 5] rfl)
set_option maxRecDepth 100000 in
set_option maxHeartbeats 4000000 in
theorem c_X8_isOpen (l : Launch) (D : va_G) (cI cJ cZ cO : ClassId) (tS tT : Nat) (sz : Nat) (aA aM aM_strength aM_kind aM_more aM_glues aM_sheet aM_since aM_imageStrength aM_imageKind aM_imageMore aM_imageGlues aM_imagePieces aM_imageWarmth aM_imageSheet aM_imageDraw aM_stepWhat aM_stepPiece aM_stepPlace aM_stepSince aM_tape aM_shapes aM_pile aM_met aM_next aM_inputs aM_then : Nat) (nA : Nat) (arr : Nat → Int32) (M_pieces : Int32) (M_warmth : Int32) (M_draw : Int64) (M_steps : Int32) (M_undoable : Int32) (M_brought : Int32) (M_taped : Int32) (M_shapeMany : Int32) (M_ended : Int32) (M_cut : Int32) (M_mostPieces : Int32) (M_walks : Int32) (M_walked : Int32) (M_kind : Nat → Int32) (M_more : Nat → Int32) (p2 : Int32) (p3 : Int32) (p4 : Int32) (p5 : Int32) (Q : Int32 → Prop) (hw : wp_X8_isOpen nA arr M_kind M_more p2 p3 p4 p5 Q) : Met l yX8_isOpen wsX8_isOpen rm_X8_isOpen (va_Pc [.ref aM, .ref aA, .int p2, .int p3, .int p4, .int p5] (cx_B tS tT cI cJ cZ cO D sz (w_X8_isOpen cI cJ cZ cO aA aM aM_strength aM_kind aM_more aM_glues aM_sheet aM_since aM_imageStrength aM_imageKind aM_imageMore aM_imageGlues aM_imagePieces aM_imageWarmth aM_imageSheet aM_imageDraw aM_stepWhat aM_stepPiece aM_stepPlace aM_stepSince aM_tape aM_shapes aM_pile aM_met aM_next aM_inputs aM_then nA arr M_pieces M_warmth M_draw M_steps M_undoable M_brought M_taped M_shapeMany M_ended M_cut M_mostPieces M_walks M_walked M_kind M_more))) (va_Qi (fun (r : Int32) (_ : Unit) => Q r) (fun (u : Unit) t => va_P D vwCl (w_X8_isOpen cI cJ cZ cO aA aM aM_strength aM_kind aM_more aM_glues aM_sheet aM_since aM_imageStrength aM_imageKind aM_imageMore aM_imageGlues aM_imagePieces aM_imageWarmth aM_imageSheet aM_imageDraw aM_stepWhat aM_stepPiece aM_stepPlace aM_stepSince aM_tape aM_shapes aM_pile aM_met aM_next aM_inputs aM_then nA arr M_pieces M_warmth M_draw M_steps M_undoable M_brought M_taped M_shapeMany M_ended M_cut M_mostPieces M_walks M_walked M_kind M_more) t.heap) (va_A (w_X8_isOpen cI cJ cZ cO aA aM aM_strength aM_kind aM_more aM_glues aM_sheet aM_since aM_imageStrength aM_imageKind aM_imageMore aM_imageGlues aM_imagePieces aM_imageWarmth aM_imageSheet aM_imageDraw aM_stepWhat aM_stepPiece aM_stepPlace aM_stepSince aM_tape aM_shapes aM_pile aM_met aM_next aM_inputs aM_then nA arr M_pieces M_warmth M_draw M_steps M_undoable M_brought M_taped M_shapeMany M_ended M_cut M_mostPieces M_walks M_walked M_kind M_more) sz)) 0 0 (va_A (w_X8_isOpen cI cJ cZ cO aA aM aM_strength aM_kind aM_more aM_glues aM_sheet aM_since aM_imageStrength aM_imageKind aM_imageMore aM_imageGlues aM_imagePieces aM_imageWarmth aM_imageSheet aM_imageDraw aM_stepWhat aM_stepPiece aM_stepPlace aM_stepSince aM_tape aM_shapes aM_pile aM_met aM_next aM_inputs aM_then nA arr M_pieces M_warmth M_draw M_steps M_undoable M_brought M_taped M_shapeMany M_ended M_cut M_mostPieces M_walks M_walked M_kind M_more) sz) := by
  refine cx_met (cc := cX8_isOpen) (maxL := 10) (ret := (some .boolean)) (Qc := fun A => va_Qi (fun (r : Int32) (_ : Unit) => Q r) (fun (u : Unit) t => va_P D vwCl (w_X8_isOpen cI cJ cZ cO aA aM aM_strength aM_kind aM_more aM_glues aM_sheet aM_since aM_imageStrength aM_imageKind aM_imageMore aM_imageGlues aM_imagePieces aM_imageWarmth aM_imageSheet aM_imageDraw aM_stepWhat aM_stepPiece aM_stepPlace aM_stepSince aM_tape aM_shapes aM_pile aM_met aM_next aM_inputs aM_then nA arr M_pieces M_warmth M_draw M_steps M_undoable M_brought M_taped M_shapeMany M_ended M_cut M_mostPieces M_walks M_walked M_kind M_more) t.heap) A) (lv := [(0, .ref aM), (1, .ref aA), (2, .int p2), (3, .int p3), (4, .int p4), (5, .int p5)]) (by decide) rfl (Nat.le_of_ble_eq_true rfl) rfl ?_
  intro p e s m args below meth c A Z hx hb hr hlocks hts hown hml hE hK hA hZ
  have hown : s.vm.findClass RX8 = some m.cls := hown
  have b_3 : ∀ n_3 : Nat, ∀ (x2 : Int32) (x3 : Int32) (x4 : Int32) (x5 : Int32) (x6 : Int32), wq_X8_isOpen_3 nA arr M_kind M_more Q n_3 x2 x3 x4 x5 x6 → ∀ (H : Heap) (locs : List Loc), va_P D vwCl (w_X8_isOpen cI cJ cZ cO aA aM aM_strength aM_kind aM_more aM_glues aM_sheet aM_since aM_imageStrength aM_imageKind aM_imageMore aM_imageGlues aM_imagePieces aM_imageWarmth aM_imageSheet aM_imageDraw aM_stepWhat aM_stepPiece aM_stepPlace aM_stepSince aM_tape aM_shapes aM_pile aM_met aM_next aM_inputs aM_then nA arr M_pieces M_warmth M_draw M_steps M_undoable M_brought M_taped M_shapeMany M_ended M_cut M_mostPieces M_walks M_walked M_kind M_more) H → va_D A (w_X8_isOpen cI cJ cZ cO aA aM aM_strength aM_kind aM_more aM_glues aM_sheet aM_since aM_imageStrength aM_imageKind aM_imageMore aM_imageGlues aM_imagePieces aM_imageWarmth aM_imageSheet aM_imageDraw aM_stepWhat aM_stepPiece aM_stepPlace aM_stepSince aM_tape aM_shapes aM_pile aM_met aM_next aM_inputs aM_then nA arr M_pieces M_warmth M_draw M_steps M_undoable M_brought M_taped M_shapeMany M_ended M_cut M_mostPieces M_walks M_walked M_kind M_more) → va_S A s.heap H locs → ∀ ls : Array Slot, lv_has ls 10 [(0, .ref aM), (1, .ref aA), (2, .int x2), (3, .int x3), (4, .int x4), (5, .int x5), (6, .int x6)] → W p l e rm_X8_isOpen s m args below meth c H locs 0 0 Z (F0 m 3 ls []) := by
    intro n_3
    induction n_3 with
    | zero => intro x2 x3 x4 x5 x6 hw; exact False.elim hw
    | succ n_3 ih_3 =>
      intro x2 x3 x4 x5 x6 hw H locs hP hD hS ls hl
      have hw : wf_X8_isOpen_3 nA arr M_kind M_more Q (wq_X8_isOpen_3 nA arr M_kind M_more Q n_3) x2 x3 x4 x5 x6 := hw
      unfold wf_X8_isOpen_3 at hw
      refine lv_iload hx hb dX8_isOpen_3 (lv_at hl 6 rfl) ?_
      refine lv_iconst (v := (4 : Int32)) hx hb dX8_isOpen_5 kI_4 ?_
      refine lv_icmp_ge (tgt := 108) hx hb dX8_isOpen_6 (by decide) (fun c6 => ?_) (fun c6 => ?_)
      · have hw := hw.1 c6
        refine lv_iconst (v := (1 : Int32)) hx hb dX8_isOpen_108 kI_1 ?_
        rw [hZ]
        exact cx_retz () hx hb hr hlocks rfl hw hP hS dX8_isOpen_109
      · have hw := hw.2 c6
        refine lv_iload hx hb dX8_isOpen_9 (lv_at hl 4 rfl) ?_
        refine lv_iload hx hb dX8_isOpen_11 (lv_at hl 6 rfl) ?_
        refine cx_goi (va_runS (As := [.int x6]) (rest := [.int x4]) ⟨hx, hb, hml, hown, hts⟩ (c_X8_xAt l D cI cJ cZ cO tS tT H.size x6 _ hw) (va_cwS 1 hts gX8_isOpen_X8_xAt rfl rfl rfl ps_X8_xAt ⟨Nat.le_of_ble_eq_true rfl, Nat.le_of_ble_eq_true rfl⟩) (cx_preS (wc := w_X8_xAt) hE hK hP hD hS hA [] rfl rfl) rfl rfl hl.1 rfl (lv_room (Nat.le_of_ble_eq_true rfl)) dX8_isOpen_13 ⟨Nat.le_of_ble_eq_true rfl, Nat.le_of_ble_eq_true rfl⟩) (fun (_ : Unit) => (w_X8_isOpen cI cJ cZ cO aA aM aM_strength aM_kind aM_more aM_glues aM_sheet aM_since aM_imageStrength aM_imageKind aM_imageMore aM_imageGlues aM_imagePieces aM_imageWarmth aM_imageSheet aM_imageDraw aM_stepWhat aM_stepPiece aM_stepPlace aM_stepSince aM_tape aM_shapes aM_pile aM_met aM_next aM_inputs aM_then nA arr M_pieces M_warmth M_draw M_steps M_undoable M_brought M_taped M_shapeMany M_ended M_cut M_mostPieces M_walks M_walked M_kind M_more)) [] [0, 1, 2, 3] (ads := []) (wr := [(aA, .inl (cI, nA, .inl arr)), (aM, .inr (8, [.ref aM_strength, .ref aM_kind, .ref aM_more, .ref aM_glues, .int M_pieces, .int M_warmth, .long M_draw, .ref aM_sheet, .ref aM_since, .ref aM_imageStrength, .ref aM_imageKind, .ref aM_imageMore, .ref aM_imageGlues, .ref aM_imagePieces, .ref aM_imageWarmth, .ref aM_imageSheet, .ref aM_imageDraw, .ref aM_stepWhat, .ref aM_stepPiece, .ref aM_stepPlace, .ref aM_stepSince, .int M_steps, .int M_undoable, .int M_brought, .ref aM_tape, .int M_taped, .ref aM_shapes, .int M_shapeMany, .int M_ended, .int M_cut, .int M_mostPieces, .int M_walks, .int M_walked, .ref aM_pile, .ref aM_met, .ref aM_next, .ref aM_inputs, .ref aM_then])), (aM_kind, .inl (cI, 40, .inl M_kind)), (aM_more, .inl (cI, 40, .inl M_more))]) rfl rfl (fun u => rfl) (fun u => rfl) rfl (fun u => rfl) rfl (fun u => rfl) rfl hP hD hS hA (fun r13 u H locs hw hP hD hS => ?_)
        refine lv_iadd hx hb dX8_isOpen_16 ?_
        refine lv_topi (fun v17 e17 => ?_)
        have hw := hw v17 e17
        refine lv_istore (lv' := [(7, .int v17), (0, .ref aM), (1, .ref aA), (2, .int x2), (3, .int x3), (4, .int x4), (5, .int x5), (6, .int x6)]) hx hb dX8_isOpen_17 hl (by decide) rfl (fun ls hl => ?_)
        refine lv_iload hx hb dX8_isOpen_19 (lv_at hl 6 rfl) ?_
        refine lv_iload hx hb dX8_isOpen_21 (lv_at hl 7 rfl) ?_
        refine cx_goi (va_runS (As := [.int x6]) (rest := [.int x5]) ⟨hx, hb, hml, hown, hts⟩ (c_X8_yAt l D cI cJ cZ cO tS tT H.size x6 _ hw) (va_cwS 1 hts gX8_isOpen_X8_yAt rfl rfl rfl ps_X8_yAt ⟨Nat.le_of_ble_eq_true rfl, Nat.le_of_ble_eq_true rfl⟩) (cx_preS (wc := w_X8_yAt) hE hK hP hD hS hA [] rfl rfl) rfl rfl hl.1 rfl (lv_room (Nat.le_of_ble_eq_true rfl)) dX8_isOpen_23 ⟨Nat.le_of_ble_eq_true rfl, Nat.le_of_ble_eq_true rfl⟩) (fun (_ : Unit) => (w_X8_isOpen cI cJ cZ cO aA aM aM_strength aM_kind aM_more aM_glues aM_sheet aM_since aM_imageStrength aM_imageKind aM_imageMore aM_imageGlues aM_imagePieces aM_imageWarmth aM_imageSheet aM_imageDraw aM_stepWhat aM_stepPiece aM_stepPlace aM_stepSince aM_tape aM_shapes aM_pile aM_met aM_next aM_inputs aM_then nA arr M_pieces M_warmth M_draw M_steps M_undoable M_brought M_taped M_shapeMany M_ended M_cut M_mostPieces M_walks M_walked M_kind M_more)) [] [0, 1, 2, 3] (ads := []) (wr := [(aA, .inl (cI, nA, .inl arr)), (aM, .inr (8, [.ref aM_strength, .ref aM_kind, .ref aM_more, .ref aM_glues, .int M_pieces, .int M_warmth, .long M_draw, .ref aM_sheet, .ref aM_since, .ref aM_imageStrength, .ref aM_imageKind, .ref aM_imageMore, .ref aM_imageGlues, .ref aM_imagePieces, .ref aM_imageWarmth, .ref aM_imageSheet, .ref aM_imageDraw, .ref aM_stepWhat, .ref aM_stepPiece, .ref aM_stepPlace, .ref aM_stepSince, .int M_steps, .int M_undoable, .int M_brought, .ref aM_tape, .int M_taped, .ref aM_shapes, .int M_shapeMany, .int M_ended, .int M_cut, .int M_mostPieces, .int M_walks, .int M_walked, .ref aM_pile, .ref aM_met, .ref aM_next, .ref aM_inputs, .ref aM_then])), (aM_kind, .inl (cI, 40, .inl M_kind)), (aM_more, .inl (cI, 40, .inl M_more))]) rfl rfl (fun u => rfl) (fun u => rfl) rfl (fun u => rfl) rfl (fun u => rfl) rfl hP hD hS hA (fun r23 u H locs hw hP hD hS => ?_)
        refine lv_iadd hx hb dX8_isOpen_26 ?_
        refine lv_topi (fun v27 e27 => ?_)
        have hw := hw v27 e27
        refine lv_istore (lv' := [(8, .int v27), (7, .int v17), (0, .ref aM), (1, .ref aA), (2, .int x2), (3, .int x3), (4, .int x4), (5, .int x5), (6, .int x6)]) hx hb dX8_isOpen_27 hl (by decide) rfl (fun ls hl => ?_)
        refine lv_iload hx hb dX8_isOpen_29 (lv_at hl 1 rfl) ?_
        refine lv_iload hx hb dX8_isOpen_31 (lv_at hl 0 rfl) ?_
        refine cx_goi (va_runS (As := [.int v17, .int v27]) (rest := []) ⟨hx, hb, hml, hown, hts⟩ (c_X8_isOn l D cI cJ cZ cO tS tT H.size v17 v27 _ hw) (va_cwS 2 hts gX8_isOpen_X8_isOn rfl rfl rfl ps_X8_isOn ⟨Nat.le_of_ble_eq_true rfl, Nat.le_of_ble_eq_true rfl⟩) (cx_preS (wc := w_X8_isOn) hE hK hP hD hS hA [] rfl rfl) rfl rfl hl.1 rfl (lv_room (Nat.le_of_ble_eq_true rfl)) dX8_isOpen_33 ⟨Nat.le_of_ble_eq_true rfl, Nat.le_of_ble_eq_true rfl⟩) (fun (_ : Unit) => (w_X8_isOpen cI cJ cZ cO aA aM aM_strength aM_kind aM_more aM_glues aM_sheet aM_since aM_imageStrength aM_imageKind aM_imageMore aM_imageGlues aM_imagePieces aM_imageWarmth aM_imageSheet aM_imageDraw aM_stepWhat aM_stepPiece aM_stepPlace aM_stepSince aM_tape aM_shapes aM_pile aM_met aM_next aM_inputs aM_then nA arr M_pieces M_warmth M_draw M_steps M_undoable M_brought M_taped M_shapeMany M_ended M_cut M_mostPieces M_walks M_walked M_kind M_more)) [] [0, 1, 2, 3] (ads := []) (wr := [(aA, .inl (cI, nA, .inl arr)), (aM, .inr (8, [.ref aM_strength, .ref aM_kind, .ref aM_more, .ref aM_glues, .int M_pieces, .int M_warmth, .long M_draw, .ref aM_sheet, .ref aM_since, .ref aM_imageStrength, .ref aM_imageKind, .ref aM_imageMore, .ref aM_imageGlues, .ref aM_imagePieces, .ref aM_imageWarmth, .ref aM_imageSheet, .ref aM_imageDraw, .ref aM_stepWhat, .ref aM_stepPiece, .ref aM_stepPlace, .ref aM_stepSince, .int M_steps, .int M_undoable, .int M_brought, .ref aM_tape, .int M_taped, .ref aM_shapes, .int M_shapeMany, .int M_ended, .int M_cut, .int M_mostPieces, .int M_walks, .int M_walked, .ref aM_pile, .ref aM_met, .ref aM_next, .ref aM_inputs, .ref aM_then])), (aM_kind, .inl (cI, 40, .inl M_kind)), (aM_more, .inl (cI, 40, .inl M_more))]) rfl rfl (fun u => rfl) (fun u => rfl) rfl (fun u => rfl) rfl (fun u => rfl) rfl hP hD hS hA (fun r33 u H locs hw hP hD hS => ?_)
        refine lv_if_eq (tgt := 102) hx hb dX8_isOpen_36 (by decide) (fun c36 => ?_) (fun c36 => ?_)
        · have hw := hw.1 c36
          obtain ⟨v102, e102⟩ : ∃ y : Int32, y = x6 + (1 : Int32) := ⟨_, rfl⟩
          have hw := hw v102 e102
          refine lv_iinc (v := v102) (lv' := [(6, .int v102), (8, .int v27), (7, .int v17), (0, .ref aM), (1, .ref aA), (2, .int x2), (3, .int x3), (4, .int x4), (5, .int x5)]) hx hb dX8_isOpen_102 hl (k := 8) rfl (by rw [e102, kI_1]) (by decide) rfl (fun ls hl => ?_)
          refine lv_goto (tgt := 3) hx hb dX8_isOpen_105 (by decide) ?_
          exact ih_3 x2 x3 x4 x5 v102 hw H locs hP hD hS ls (lv_sub hl [3, 4, 5, 6, 7, 8, 0] rfl)
        · have hw := hw.2 c36
          refine lv_aload_n hx hb dX8_isOpen_39 rfl (lv_at hl 3 rfl) ?_
          refine lv_iload_n hx hb dX8_isOpen_40 rfl (lv_at hl 4 rfl) ?_
          refine lv_iload hx hb dX8_isOpen_41 (lv_at hl 1 rfl) ?_
          refine lv_iadd hx hb dX8_isOpen_43 ?_
          refine lv_bipush (v := (16 : Int32)) hx hb dX8_isOpen_44 kB_16 ?_
          refine lv_iload hx hb dX8_isOpen_46 (lv_at hl 0 rfl) ?_
          refine lv_imul hx hb dX8_isOpen_48 ?_
          refine lv_iadd hx hb dX8_isOpen_49 ?_
          have h50 := hw.1
          have hw := hw.2
          refine va_iald hx hb hK hP 0 0 rfl rfl h50 dX8_isOpen_50 ?_
          refine lv_topi (fun v50 e50 => ?_)
          have hw := hw v50 e50
          refine lv_if_ne (tgt := 57) hx hb dX8_isOpen_51 (by decide) (fun c51 => ?_) (fun c51 => ?_)
          · have hw := hw.1 c51
            refine lv_aload_n hx hb dX8_isOpen_57 rfl (lv_at hl 3 rfl) ?_
            refine lv_iload_n hx hb dX8_isOpen_58 rfl (lv_at hl 4 rfl) ?_
            refine lv_iload hx hb dX8_isOpen_59 (lv_at hl 1 rfl) ?_
            refine lv_iadd hx hb dX8_isOpen_61 ?_
            refine lv_bipush (v := (16 : Int32)) hx hb dX8_isOpen_62 kB_16 ?_
            refine lv_iload hx hb dX8_isOpen_64 (lv_at hl 0 rfl) ?_
            refine lv_imul hx hb dX8_isOpen_66 ?_
            refine lv_iadd hx hb dX8_isOpen_67 ?_
            have h68 := hw.1
            have hw := hw.2
            refine va_iald hx hb hK hP 0 0 rfl rfl h68 dX8_isOpen_68 ?_
            refine lv_topi (fun v68 e68 => ?_)
            have hw := hw v68 e68
            refine lv_iconst (v := (1 : Int32)) hx hb dX8_isOpen_69 kI_1 ?_
            refine lv_isub hx hb dX8_isOpen_70 ?_
            refine lv_iconst (v := (2 : Int32)) hx hb dX8_isOpen_71 kI_2 ?_
            refine lv_idiv hx hb dX8_isOpen_72 (by decide) ?_
            refine lv_topi (fun v73 e73 => ?_)
            have hw := hw v73 e73
            refine lv_istore (lv' := [(9, .int v73), (8, .int v27), (7, .int v17), (0, .ref aM), (1, .ref aA), (2, .int x2), (3, .int x3), (4, .int x4), (5, .int x5), (6, .int x6)]) hx hb dX8_isOpen_73 hl (by decide) rfl (fun ls hl => ?_)
            refine lv_aload_n hx hb dX8_isOpen_75 rfl (lv_at hl 3 rfl) ?_
            refine lv_iload hx hb dX8_isOpen_76 (lv_at hl 0 rfl) ?_
            refine lv_iload hx hb dX8_isOpen_78 (lv_at hl 9 rfl) ?_
            refine lv_iconst (v := (2 : Int32)) hx hb dX8_isOpen_80 kI_2 ?_
            refine lv_iadd hx hb dX8_isOpen_81 ?_
            refine lv_iconst (v := (4 : Int32)) hx hb dX8_isOpen_82 kI_4 ?_
            refine lv_irem hx hb dX8_isOpen_83 (by decide) ?_
            refine cx_goi (va_runV (As := [.int v73, .int ((x6 + (2 : Int32)) - (x6 + (2 : Int32)) / (4 : Int32) * (4 : Int32))]) (rest := []) ⟨hx, hb, hml, hown, hts⟩ (c_X8_isBarred l D cI cJ cZ cO tS tT H.size aM aM_strength aM_kind aM_more aM_glues aM_sheet aM_since aM_imageStrength aM_imageKind aM_imageMore aM_imageGlues aM_imagePieces aM_imageWarmth aM_imageSheet aM_imageDraw aM_stepWhat aM_stepPiece aM_stepPlace aM_stepSince aM_tape aM_shapes aM_pile aM_met aM_next aM_inputs aM_then M_pieces M_warmth M_draw M_steps M_undoable M_brought M_taped M_shapeMany M_ended M_cut M_mostPieces M_walks M_walked M_kind M_more v73 ((x6 + (2 : Int32)) - (x6 + (2 : Int32)) / (4 : Int32) * (4 : Int32)) _ hw) (cwV 2 hts gX8_isOpen_X8_isBarred rfl rfl rfl pv_X8_isBarred ⟨Nat.le_of_ble_eq_true rfl, Nat.le_of_ble_eq_true rfl⟩) (cx_preV (wc := w_X8_isBarred cI cJ cZ cO aM aM_strength aM_kind aM_more aM_glues aM_sheet aM_since aM_imageStrength aM_imageKind aM_imageMore aM_imageGlues aM_imagePieces aM_imageWarmth aM_imageSheet aM_imageDraw aM_stepWhat aM_stepPiece aM_stepPlace aM_stepSince aM_tape aM_shapes aM_pile aM_met aM_next aM_inputs aM_then M_pieces M_warmth M_draw M_steps M_undoable M_brought M_taped M_shapeMany M_ended M_cut M_mostPieces M_walks M_walked M_kind M_more) hE hK hP hD hS hA [1, 2, 3] rfl rfl (va_recv hK hP (ci := 8) (q0 := 1) rfl rfl)) rfl rfl hl.1 rfl (lv_room (Nat.le_of_ble_eq_true rfl)) dX8_isOpen_84 ⟨Nat.le_of_ble_eq_true rfl, Nat.le_of_ble_eq_true rfl⟩) (fun (_ : Unit) => (w_X8_isOpen cI cJ cZ cO aA aM aM_strength aM_kind aM_more aM_glues aM_sheet aM_since aM_imageStrength aM_imageKind aM_imageMore aM_imageGlues aM_imagePieces aM_imageWarmth aM_imageSheet aM_imageDraw aM_stepWhat aM_stepPiece aM_stepPlace aM_stepSince aM_tape aM_shapes aM_pile aM_met aM_next aM_inputs aM_then nA arr M_pieces M_warmth M_draw M_steps M_undoable M_brought M_taped M_shapeMany M_ended M_cut M_mostPieces M_walks M_walked M_kind M_more)) [1, 2, 3] [0] (ads := [aM, aM_kind, aM_more]) (wr := [(aA, .inl (cI, nA, .inl arr))]) rfl rfl (fun u => rfl) (fun u => rfl) rfl (fun u => rfl) rfl (fun u => rfl) rfl hP hD hS hA (fun r84 u H locs hw hP hD hS => ?_)
            have hP : va_P D vwCl (w_X8_isOpen cI cJ cZ cO aA aM aM_strength aM_kind aM_more aM_glues aM_sheet aM_since aM_imageStrength aM_imageKind aM_imageMore aM_imageGlues aM_imagePieces aM_imageWarmth aM_imageSheet aM_imageDraw aM_stepWhat aM_stepPiece aM_stepPlace aM_stepSince aM_tape aM_shapes aM_pile aM_met aM_next aM_inputs aM_then nA arr M_pieces M_warmth M_draw M_steps M_undoable M_brought M_taped M_shapeMany M_ended M_cut M_mostPieces M_walks M_walked M_kind M_more) H := hP
            have hD : va_D A (w_X8_isOpen cI cJ cZ cO aA aM aM_strength aM_kind aM_more aM_glues aM_sheet aM_since aM_imageStrength aM_imageKind aM_imageMore aM_imageGlues aM_imagePieces aM_imageWarmth aM_imageSheet aM_imageDraw aM_stepWhat aM_stepPiece aM_stepPlace aM_stepSince aM_tape aM_shapes aM_pile aM_met aM_next aM_inputs aM_then nA arr M_pieces M_warmth M_draw M_steps M_undoable M_brought M_taped M_shapeMany M_ended M_cut M_mostPieces M_walks M_walked M_kind M_more) := hD
            refine lv_if_ne (tgt := 100) hx hb dX8_isOpen_87 (by decide) (fun c87 => ?_) (fun c87 => ?_)
            · have hw := hw.1 c87
              refine lv_iconst (v := (0 : Int32)) hx hb dX8_isOpen_100 kI_0 ?_
              rw [hZ]
              exact cx_retz () hx hb hr hlocks rfl hw hP hS dX8_isOpen_101
            · have hw := hw.2 c87
              refine lv_aload_n hx hb dX8_isOpen_90 rfl (lv_at hl 3 rfl) ?_
              refine lv_iload_n hx hb dX8_isOpen_91 rfl (lv_at hl 6 rfl) ?_
              refine lv_iload hx hb dX8_isOpen_92 (lv_at hl 9 rfl) ?_
              refine cx_goi (va_runV (As := [.int x3, .int x6]) (rest := []) ⟨hx, hb, hml, hown, hts⟩ (c_X8_isBarred l D cI cJ cZ cO tS tT H.size aM aM_strength aM_kind aM_more aM_glues aM_sheet aM_since aM_imageStrength aM_imageKind aM_imageMore aM_imageGlues aM_imagePieces aM_imageWarmth aM_imageSheet aM_imageDraw aM_stepWhat aM_stepPiece aM_stepPlace aM_stepSince aM_tape aM_shapes aM_pile aM_met aM_next aM_inputs aM_then M_pieces M_warmth M_draw M_steps M_undoable M_brought M_taped M_shapeMany M_ended M_cut M_mostPieces M_walks M_walked M_kind M_more x3 x6 _ hw) (cwV 2 hts gX8_isOpen_X8_isBarred rfl rfl rfl pv_X8_isBarred ⟨Nat.le_of_ble_eq_true rfl, Nat.le_of_ble_eq_true rfl⟩) (cx_preV (wc := w_X8_isBarred cI cJ cZ cO aM aM_strength aM_kind aM_more aM_glues aM_sheet aM_since aM_imageStrength aM_imageKind aM_imageMore aM_imageGlues aM_imagePieces aM_imageWarmth aM_imageSheet aM_imageDraw aM_stepWhat aM_stepPiece aM_stepPlace aM_stepSince aM_tape aM_shapes aM_pile aM_met aM_next aM_inputs aM_then M_pieces M_warmth M_draw M_steps M_undoable M_brought M_taped M_shapeMany M_ended M_cut M_mostPieces M_walks M_walked M_kind M_more) hE hK hP hD hS hA [1, 2, 3] rfl rfl (va_recv hK hP (ci := 8) (q0 := 1) rfl rfl)) rfl rfl hl.1 rfl (lv_room (Nat.le_of_ble_eq_true rfl)) dX8_isOpen_94 ⟨Nat.le_of_ble_eq_true rfl, Nat.le_of_ble_eq_true rfl⟩) (fun (_ : Unit) => (w_X8_isOpen cI cJ cZ cO aA aM aM_strength aM_kind aM_more aM_glues aM_sheet aM_since aM_imageStrength aM_imageKind aM_imageMore aM_imageGlues aM_imagePieces aM_imageWarmth aM_imageSheet aM_imageDraw aM_stepWhat aM_stepPiece aM_stepPlace aM_stepSince aM_tape aM_shapes aM_pile aM_met aM_next aM_inputs aM_then nA arr M_pieces M_warmth M_draw M_steps M_undoable M_brought M_taped M_shapeMany M_ended M_cut M_mostPieces M_walks M_walked M_kind M_more)) [1, 2, 3] [0] (ads := [aM, aM_kind, aM_more]) (wr := [(aA, .inl (cI, nA, .inl arr))]) rfl rfl (fun u => rfl) (fun u => rfl) rfl (fun u => rfl) rfl (fun u => rfl) rfl hP hD hS hA (fun r94 u H locs hw hP hD hS => ?_)
              have hP : va_P D vwCl (w_X8_isOpen cI cJ cZ cO aA aM aM_strength aM_kind aM_more aM_glues aM_sheet aM_since aM_imageStrength aM_imageKind aM_imageMore aM_imageGlues aM_imagePieces aM_imageWarmth aM_imageSheet aM_imageDraw aM_stepWhat aM_stepPiece aM_stepPlace aM_stepSince aM_tape aM_shapes aM_pile aM_met aM_next aM_inputs aM_then nA arr M_pieces M_warmth M_draw M_steps M_undoable M_brought M_taped M_shapeMany M_ended M_cut M_mostPieces M_walks M_walked M_kind M_more) H := hP
              have hD : va_D A (w_X8_isOpen cI cJ cZ cO aA aM aM_strength aM_kind aM_more aM_glues aM_sheet aM_since aM_imageStrength aM_imageKind aM_imageMore aM_imageGlues aM_imagePieces aM_imageWarmth aM_imageSheet aM_imageDraw aM_stepWhat aM_stepPiece aM_stepPlace aM_stepSince aM_tape aM_shapes aM_pile aM_met aM_next aM_inputs aM_then nA arr M_pieces M_warmth M_draw M_steps M_undoable M_brought M_taped M_shapeMany M_ended M_cut M_mostPieces M_walks M_walked M_kind M_more) := hD
              refine lv_if_eq (tgt := 102) hx hb dX8_isOpen_97 (by decide) (fun c97 => ?_) (fun c97 => ?_)
              · have hw := hw.1 c97
                obtain ⟨v102, e102⟩ : ∃ y : Int32, y = x6 + (1 : Int32) := ⟨_, rfl⟩
                have hw := hw v102 e102
                refine lv_iinc (v := v102) (lv' := [(6, .int v102), (9, .int v73), (8, .int v27), (7, .int v17), (0, .ref aM), (1, .ref aA), (2, .int x2), (3, .int x3), (4, .int x4), (5, .int x5)]) hx hb dX8_isOpen_102 hl (k := 9) rfl (by rw [e102, kI_1]) (by decide) rfl (fun ls hl => ?_)
                refine lv_goto (tgt := 3) hx hb dX8_isOpen_105 (by decide) ?_
                exact ih_3 x2 x3 x4 x5 v102 hw H locs hP hD hS ls (lv_sub hl [4, 5, 6, 7, 8, 9, 0] rfl)
              · have hw := hw.2 c97
                refine lv_iconst (v := (0 : Int32)) hx hb dX8_isOpen_100 kI_0 ?_
                rw [hZ]
                exact cx_retz () hx hb hr hlocks rfl hw hP hS dX8_isOpen_101
          · have hw := hw.2 c51
            refine lv_goto (tgt := 102) hx hb dX8_isOpen_54 (by decide) ?_
            obtain ⟨v102, e102⟩ : ∃ y : Int32, y = x6 + (1 : Int32) := ⟨_, rfl⟩
            have hw := hw v102 e102
            refine lv_iinc (v := v102) (lv' := [(6, .int v102), (8, .int v27), (7, .int v17), (0, .ref aM), (1, .ref aA), (2, .int x2), (3, .int x3), (4, .int x4), (5, .int x5)]) hx hb dX8_isOpen_102 hl (k := 8) rfl (by rw [e102, kI_1]) (by decide) rfl (fun ls hl => ?_)
            refine lv_goto (tgt := 3) hx hb dX8_isOpen_105 (by decide) ?_
            exact ih_3 x2 x3 x4 x5 v102 hw H locs hP hD hS ls (lv_sub hl [3, 4, 5, 6, 7, 8, 0] rfl)
  intro H locs hP hD hS ls hl
  unfold wp_X8_isOpen at hw
  refine lv_iconst (v := (0 : Int32)) hx hb dX8_isOpen_0 kI_0 ?_
  refine lv_istore (lv' := [(6, .int (0 : Int32)), (0, .ref aM), (1, .ref aA), (2, .int p2), (3, .int p3), (4, .int p4), (5, .int p5)]) hx hb dX8_isOpen_1 hl (by decide) rfl (fun ls hl => ?_)
  obtain ⟨k, hw⟩ := hw
  exact b_3 k p2 p3 p4 p5 (0 : Int32) hw H locs hP hD hS ls (lv_sub hl [1, 2, 3, 4, 5, 6, 0] rfl)
set_option maxRecDepth 100000 in
set_option maxHeartbeats 4000000 in
theorem c_X8_mayCome (l : Launch) (D : va_G) (cI cJ cZ cO : ClassId) (tS tT : Nat) (sz : Nat) (aA aM aM_strength aM_kind aM_more aM_glues aM_sheet aM_since aM_imageStrength aM_imageKind aM_imageMore aM_imageGlues aM_imagePieces aM_imageWarmth aM_imageSheet aM_imageDraw aM_stepWhat aM_stepPiece aM_stepPlace aM_stepSince aM_tape aM_shapes aM_pile aM_met aM_next aM_inputs aM_then : Nat) (nA : Nat) (arr : Nat → Int32) (M_pieces : Int32) (M_warmth : Int32) (M_draw : Int64) (M_steps : Int32) (M_undoable : Int32) (M_brought : Int32) (M_taped : Int32) (M_shapeMany : Int32) (M_ended : Int32) (M_cut : Int32) (M_mostPieces : Int32) (M_walks : Int32) (M_walked : Int32) (M_strength : Nat → Int32) (M_kind : Nat → Int32) (M_more : Nat → Int32) (M_glues : Nat → Int32) (p2 : Int32) (p3 : Int32) (p4 : Int32) (p5 : Int32) (Q : Int32 → Prop) (hw : wp_X8_mayCome nA arr M_strength M_kind M_more M_glues M_warmth p2 p3 p4 p5 Q) : Met l yX8_mayCome wsX8_mayCome rm_X8_mayCome (va_Pc [.ref aM, .ref aA, .int p2, .int p3, .int p4, .int p5] (cx_B tS tT cI cJ cZ cO D sz (w_X8_mayCome cI cJ cZ cO aA aM aM_strength aM_kind aM_more aM_glues aM_sheet aM_since aM_imageStrength aM_imageKind aM_imageMore aM_imageGlues aM_imagePieces aM_imageWarmth aM_imageSheet aM_imageDraw aM_stepWhat aM_stepPiece aM_stepPlace aM_stepSince aM_tape aM_shapes aM_pile aM_met aM_next aM_inputs aM_then nA arr M_pieces M_warmth M_draw M_steps M_undoable M_brought M_taped M_shapeMany M_ended M_cut M_mostPieces M_walks M_walked M_strength M_kind M_more M_glues))) (va_Qi (fun (r : Int32) (_ : Unit) => Q r) (fun (u : Unit) t => va_P D vwCl (w_X8_mayCome cI cJ cZ cO aA aM aM_strength aM_kind aM_more aM_glues aM_sheet aM_since aM_imageStrength aM_imageKind aM_imageMore aM_imageGlues aM_imagePieces aM_imageWarmth aM_imageSheet aM_imageDraw aM_stepWhat aM_stepPiece aM_stepPlace aM_stepSince aM_tape aM_shapes aM_pile aM_met aM_next aM_inputs aM_then nA arr M_pieces M_warmth M_draw M_steps M_undoable M_brought M_taped M_shapeMany M_ended M_cut M_mostPieces M_walks M_walked M_strength M_kind M_more M_glues) t.heap) (va_A (w_X8_mayCome cI cJ cZ cO aA aM aM_strength aM_kind aM_more aM_glues aM_sheet aM_since aM_imageStrength aM_imageKind aM_imageMore aM_imageGlues aM_imagePieces aM_imageWarmth aM_imageSheet aM_imageDraw aM_stepWhat aM_stepPiece aM_stepPlace aM_stepSince aM_tape aM_shapes aM_pile aM_met aM_next aM_inputs aM_then nA arr M_pieces M_warmth M_draw M_steps M_undoable M_brought M_taped M_shapeMany M_ended M_cut M_mostPieces M_walks M_walked M_strength M_kind M_more M_glues) sz)) 0 0 (va_A (w_X8_mayCome cI cJ cZ cO aA aM aM_strength aM_kind aM_more aM_glues aM_sheet aM_since aM_imageStrength aM_imageKind aM_imageMore aM_imageGlues aM_imagePieces aM_imageWarmth aM_imageSheet aM_imageDraw aM_stepWhat aM_stepPiece aM_stepPlace aM_stepSince aM_tape aM_shapes aM_pile aM_met aM_next aM_inputs aM_then nA arr M_pieces M_warmth M_draw M_steps M_undoable M_brought M_taped M_shapeMany M_ended M_cut M_mostPieces M_walks M_walked M_strength M_kind M_more M_glues) sz) := by
  refine cx_met (cc := cX8_mayCome) (maxL := 6) (ret := (some .boolean)) (Qc := fun A => va_Qi (fun (r : Int32) (_ : Unit) => Q r) (fun (u : Unit) t => va_P D vwCl (w_X8_mayCome cI cJ cZ cO aA aM aM_strength aM_kind aM_more aM_glues aM_sheet aM_since aM_imageStrength aM_imageKind aM_imageMore aM_imageGlues aM_imagePieces aM_imageWarmth aM_imageSheet aM_imageDraw aM_stepWhat aM_stepPiece aM_stepPlace aM_stepSince aM_tape aM_shapes aM_pile aM_met aM_next aM_inputs aM_then nA arr M_pieces M_warmth M_draw M_steps M_undoable M_brought M_taped M_shapeMany M_ended M_cut M_mostPieces M_walks M_walked M_strength M_kind M_more M_glues) t.heap) A) (lv := [(0, .ref aM), (1, .ref aA), (2, .int p2), (3, .int p3), (4, .int p4), (5, .int p5)]) (by decide) rfl (Nat.le_of_ble_eq_true rfl) rfl ?_
  intro p e s m args below meth c A Z hx hb hr hlocks hts hown hml hE hK hA hZ
  have hown : s.vm.findClass RX8 = some m.cls := hown
  have k_0 := hts (.fieldLink RX8 13 "GrowingTilesModel" "kind" "[I") (List.mem_of_getElem? (i := 1) (by decide +kernel))
  have k_1 := hts (.fieldLink RX8 22 "GrowingTilesModel" "warmth" "I") (List.mem_of_getElem? (i := 2) (by decide +kernel))
  intro H locs hP hD hS ls hl
  unfold wp_X8_mayCome at hw
  refine lv_aload_n hx hb dX8_mayCome_0 rfl (lv_at hl 0 rfl) ?_
  refine va_get (D := D) (ci := 8) (v := .ref aM_kind) (C := RX8) (T := TX8) (N := 38) hx hb hts in_X8_mayCome_X8 hown hK hP 1 rfl rfl 1 (by decide) k_0 (fun _ h9 => h9) rfl dX8_mayCome_1 ?_
  refine lv_iload_n hx hb dX8_mayCome_4 rfl (lv_at hl 3 rfl) ?_
  have h5 := hw.1
  have hw := hw.2
  refine va_iald hx hb hK hP 3 0 rfl rfl h5 dX8_mayCome_5 ?_
  refine lv_topi (fun v5 e5 => ?_)
  have hw := hw v5 e5
  refine lv_iconst (v := (1 : Int32)) hx hb dX8_mayCome_6 kI_1 ?_
  refine lv_icmp_eq (tgt := 42) hx hb dX8_mayCome_7 (by decide) (fun c7 => ?_) (fun c7 => ?_)
  · have hw := hw.1 c7
    refine lv_iconst (v := (0 : Int32)) hx hb dX8_mayCome_42 kI_0 ?_
    rw [hZ]
    exact cx_retz () hx hb hr hlocks rfl hw hP hS dX8_mayCome_43
  · have hw := hw.2 c7
    refine lv_aload_n hx hb dX8_mayCome_10 rfl (lv_at hl 0 rfl) ?_
    refine lv_aload_n hx hb dX8_mayCome_11 rfl (lv_at hl 1 rfl) ?_
    refine lv_iload_n hx hb dX8_mayCome_12 rfl (lv_at hl 2 rfl) ?_
    refine lv_iload_n hx hb dX8_mayCome_13 rfl (lv_at hl 3 rfl) ?_
    refine lv_iload hx hb dX8_mayCome_14 (lv_at hl 4 rfl) ?_
    refine lv_iload hx hb dX8_mayCome_16 (lv_at hl 5 rfl) ?_
    refine cx_goi (va_runV (As := [.ref aA, .int p2, .int p3, .int p4, .int p5]) (rest := []) ⟨hx, hb, hml, hown, hts⟩ (c_X8_isFree l D cI cJ cZ cO tS tT H.size aA aM aM_strength aM_kind aM_more aM_glues aM_sheet aM_since aM_imageStrength aM_imageKind aM_imageMore aM_imageGlues aM_imagePieces aM_imageWarmth aM_imageSheet aM_imageDraw aM_stepWhat aM_stepPiece aM_stepPlace aM_stepSince aM_tape aM_shapes aM_pile aM_met aM_next aM_inputs aM_then nA arr M_pieces M_warmth M_draw M_steps M_undoable M_brought M_taped M_shapeMany M_ended M_cut M_mostPieces M_walks M_walked M_kind p2 p3 p4 p5 _ hw) (cwV 5 hts gX8_mayCome_X8_isFree rfl rfl rfl pv_X8_isFree ⟨Nat.le_of_ble_eq_true rfl, Nat.le_of_ble_eq_true rfl⟩) (cx_preV (wc := w_X8_isFree cI cJ cZ cO aA aM aM_strength aM_kind aM_more aM_glues aM_sheet aM_since aM_imageStrength aM_imageKind aM_imageMore aM_imageGlues aM_imagePieces aM_imageWarmth aM_imageSheet aM_imageDraw aM_stepWhat aM_stepPiece aM_stepPlace aM_stepSince aM_tape aM_shapes aM_pile aM_met aM_next aM_inputs aM_then nA arr M_pieces M_warmth M_draw M_steps M_undoable M_brought M_taped M_shapeMany M_ended M_cut M_mostPieces M_walks M_walked M_kind) hE hK hP hD hS hA [0, 1, 3] rfl rfl (va_recv hK hP (ci := 8) (q0 := 1) rfl rfl)) rfl rfl hl.1 rfl (lv_room (Nat.le_of_ble_eq_true rfl)) dX8_mayCome_18 ⟨Nat.le_of_ble_eq_true rfl, Nat.le_of_ble_eq_true rfl⟩) (fun (_ : Unit) => (w_X8_mayCome cI cJ cZ cO aA aM aM_strength aM_kind aM_more aM_glues aM_sheet aM_since aM_imageStrength aM_imageKind aM_imageMore aM_imageGlues aM_imagePieces aM_imageWarmth aM_imageSheet aM_imageDraw aM_stepWhat aM_stepPiece aM_stepPlace aM_stepSince aM_tape aM_shapes aM_pile aM_met aM_next aM_inputs aM_then nA arr M_pieces M_warmth M_draw M_steps M_undoable M_brought M_taped M_shapeMany M_ended M_cut M_mostPieces M_walks M_walked M_strength M_kind M_more M_glues)) [0, 1, 3] [2, 4, 5] (ads := [aA, aM, aM_kind]) (wr := [(aM_strength, .inl (cI, 51, .inl M_strength)), (aM_more, .inl (cI, 40, .inl M_more)), (aM_glues, .inl (cI, 160, .inl M_glues))]) rfl rfl (fun u => rfl) (fun u => rfl) rfl (fun u => rfl) rfl (fun u => rfl) rfl hP hD hS hA (fun r18 u H locs hw hP hD hS => ?_)
    have hP : va_P D vwCl (w_X8_mayCome cI cJ cZ cO aA aM aM_strength aM_kind aM_more aM_glues aM_sheet aM_since aM_imageStrength aM_imageKind aM_imageMore aM_imageGlues aM_imagePieces aM_imageWarmth aM_imageSheet aM_imageDraw aM_stepWhat aM_stepPiece aM_stepPlace aM_stepSince aM_tape aM_shapes aM_pile aM_met aM_next aM_inputs aM_then nA arr M_pieces M_warmth M_draw M_steps M_undoable M_brought M_taped M_shapeMany M_ended M_cut M_mostPieces M_walks M_walked M_strength M_kind M_more M_glues) H := hP
    have hD : va_D A (w_X8_mayCome cI cJ cZ cO aA aM aM_strength aM_kind aM_more aM_glues aM_sheet aM_since aM_imageStrength aM_imageKind aM_imageMore aM_imageGlues aM_imagePieces aM_imageWarmth aM_imageSheet aM_imageDraw aM_stepWhat aM_stepPiece aM_stepPlace aM_stepSince aM_tape aM_shapes aM_pile aM_met aM_next aM_inputs aM_then nA arr M_pieces M_warmth M_draw M_steps M_undoable M_brought M_taped M_shapeMany M_ended M_cut M_mostPieces M_walks M_walked M_strength M_kind M_more M_glues) := hD
    refine lv_if_eq (tgt := 42) hx hb dX8_mayCome_21 (by decide) (fun c21 => ?_) (fun c21 => ?_)
    · have hw := hw.1 c21
      refine lv_iconst (v := (0 : Int32)) hx hb dX8_mayCome_42 kI_0 ?_
      rw [hZ]
      exact cx_retz () hx hb hr hlocks rfl hw hP hS dX8_mayCome_43
    · have hw := hw.2 c21
      refine lv_aload_n hx hb dX8_mayCome_24 rfl (lv_at hl 0 rfl) ?_
      refine lv_aload_n hx hb dX8_mayCome_25 rfl (lv_at hl 1 rfl) ?_
      refine lv_iload_n hx hb dX8_mayCome_26 rfl (lv_at hl 2 rfl) ?_
      refine lv_iload_n hx hb dX8_mayCome_27 rfl (lv_at hl 3 rfl) ?_
      refine lv_iload hx hb dX8_mayCome_28 (lv_at hl 4 rfl) ?_
      refine lv_iload hx hb dX8_mayCome_30 (lv_at hl 5 rfl) ?_
      refine cx_goi (va_runV (As := [.ref aA, .int p2, .int p3, .int p4, .int p5]) (rest := []) ⟨hx, hb, hml, hown, hts⟩ (c_X8_holdOf l D cI cJ cZ cO tS tT H.size aA aM aM_strength aM_kind aM_more aM_glues aM_sheet aM_since aM_imageStrength aM_imageKind aM_imageMore aM_imageGlues aM_imagePieces aM_imageWarmth aM_imageSheet aM_imageDraw aM_stepWhat aM_stepPiece aM_stepPlace aM_stepSince aM_tape aM_shapes aM_pile aM_met aM_next aM_inputs aM_then nA arr M_pieces M_warmth M_draw M_steps M_undoable M_brought M_taped M_shapeMany M_ended M_cut M_mostPieces M_walks M_walked M_strength M_kind M_more M_glues p2 p3 p4 p5 _ hw) (cwV 5 hts gX8_mayCome_X8_holdOf rfl rfl rfl pv_X8_holdOf ⟨Nat.le_of_ble_eq_true rfl, Nat.le_of_ble_eq_true rfl⟩) (cx_preV (wc := w_X8_holdOf cI cJ cZ cO aA aM aM_strength aM_kind aM_more aM_glues aM_sheet aM_since aM_imageStrength aM_imageKind aM_imageMore aM_imageGlues aM_imagePieces aM_imageWarmth aM_imageSheet aM_imageDraw aM_stepWhat aM_stepPiece aM_stepPlace aM_stepSince aM_tape aM_shapes aM_pile aM_met aM_next aM_inputs aM_then nA arr M_pieces M_warmth M_draw M_steps M_undoable M_brought M_taped M_shapeMany M_ended M_cut M_mostPieces M_walks M_walked M_strength M_kind M_more M_glues) hE hK hP hD hS hA [0, 1, 2, 3, 4, 5] rfl rfl (va_recv hK hP (ci := 8) (q0 := 1) rfl rfl)) rfl rfl hl.1 rfl (lv_room (Nat.le_of_ble_eq_true rfl)) dX8_mayCome_32 ⟨Nat.le_of_ble_eq_true rfl, Nat.le_of_ble_eq_true rfl⟩) (fun (_ : Unit) => (w_X8_mayCome cI cJ cZ cO aA aM aM_strength aM_kind aM_more aM_glues aM_sheet aM_since aM_imageStrength aM_imageKind aM_imageMore aM_imageGlues aM_imagePieces aM_imageWarmth aM_imageSheet aM_imageDraw aM_stepWhat aM_stepPiece aM_stepPlace aM_stepSince aM_tape aM_shapes aM_pile aM_met aM_next aM_inputs aM_then nA arr M_pieces M_warmth M_draw M_steps M_undoable M_brought M_taped M_shapeMany M_ended M_cut M_mostPieces M_walks M_walked M_strength M_kind M_more M_glues)) [0, 1, 2, 3, 4, 5] [] (ads := [aA, aM, aM_strength, aM_kind, aM_more, aM_glues]) (wr := []) rfl rfl (fun u => rfl) (fun u => rfl) rfl (fun u => rfl) rfl (fun u => rfl) rfl hP hD hS hA (fun r32 u H locs hw hP hD hS => ?_)
      have hP : va_P D vwCl (w_X8_mayCome cI cJ cZ cO aA aM aM_strength aM_kind aM_more aM_glues aM_sheet aM_since aM_imageStrength aM_imageKind aM_imageMore aM_imageGlues aM_imagePieces aM_imageWarmth aM_imageSheet aM_imageDraw aM_stepWhat aM_stepPiece aM_stepPlace aM_stepSince aM_tape aM_shapes aM_pile aM_met aM_next aM_inputs aM_then nA arr M_pieces M_warmth M_draw M_steps M_undoable M_brought M_taped M_shapeMany M_ended M_cut M_mostPieces M_walks M_walked M_strength M_kind M_more M_glues) H := hP
      have hD : va_D A (w_X8_mayCome cI cJ cZ cO aA aM aM_strength aM_kind aM_more aM_glues aM_sheet aM_since aM_imageStrength aM_imageKind aM_imageMore aM_imageGlues aM_imagePieces aM_imageWarmth aM_imageSheet aM_imageDraw aM_stepWhat aM_stepPiece aM_stepPlace aM_stepSince aM_tape aM_shapes aM_pile aM_met aM_next aM_inputs aM_then nA arr M_pieces M_warmth M_draw M_steps M_undoable M_brought M_taped M_shapeMany M_ended M_cut M_mostPieces M_walks M_walked M_strength M_kind M_more M_glues) := hD
      refine lv_aload_n hx hb dX8_mayCome_35 rfl (lv_at hl 0 rfl) ?_
      refine va_get (D := D) (ci := 8) (v := .int M_warmth) (C := RX8) (T := TX8) (N := 38) hx hb hts in_X8_mayCome_X8 hown hK hP 1 rfl rfl 5 (by decide) k_1 (fun _ h9 => h9) rfl dX8_mayCome_36 ?_
      refine lv_icmp_ge (tgt := 44) hx hb dX8_mayCome_39 (by decide) (fun c39 => ?_) (fun c39 => ?_)
      · have hw := hw.1 c39
        refine lv_aload_n hx hb dX8_mayCome_44 rfl (lv_at hl 0 rfl) ?_
        refine lv_aload_n hx hb dX8_mayCome_45 rfl (lv_at hl 1 rfl) ?_
        refine lv_iload_n hx hb dX8_mayCome_46 rfl (lv_at hl 2 rfl) ?_
        refine lv_iload_n hx hb dX8_mayCome_47 rfl (lv_at hl 3 rfl) ?_
        refine lv_iload hx hb dX8_mayCome_48 (lv_at hl 4 rfl) ?_
        refine lv_iload hx hb dX8_mayCome_50 (lv_at hl 5 rfl) ?_
        refine cx_goi (va_runV (As := [.ref aA, .int p2, .int p3, .int p4, .int p5]) (rest := []) ⟨hx, hb, hml, hown, hts⟩ (c_X8_isOpen l D cI cJ cZ cO tS tT H.size aA aM aM_strength aM_kind aM_more aM_glues aM_sheet aM_since aM_imageStrength aM_imageKind aM_imageMore aM_imageGlues aM_imagePieces aM_imageWarmth aM_imageSheet aM_imageDraw aM_stepWhat aM_stepPiece aM_stepPlace aM_stepSince aM_tape aM_shapes aM_pile aM_met aM_next aM_inputs aM_then nA arr M_pieces M_warmth M_draw M_steps M_undoable M_brought M_taped M_shapeMany M_ended M_cut M_mostPieces M_walks M_walked M_kind M_more p2 p3 p4 p5 _ hw) (cwV 5 hts gX8_mayCome_X8_isOpen rfl rfl rfl pv_X8_isOpen ⟨Nat.le_of_ble_eq_true rfl, Nat.le_of_ble_eq_true rfl⟩) (cx_preV (wc := w_X8_isOpen cI cJ cZ cO aA aM aM_strength aM_kind aM_more aM_glues aM_sheet aM_since aM_imageStrength aM_imageKind aM_imageMore aM_imageGlues aM_imagePieces aM_imageWarmth aM_imageSheet aM_imageDraw aM_stepWhat aM_stepPiece aM_stepPlace aM_stepSince aM_tape aM_shapes aM_pile aM_met aM_next aM_inputs aM_then nA arr M_pieces M_warmth M_draw M_steps M_undoable M_brought M_taped M_shapeMany M_ended M_cut M_mostPieces M_walks M_walked M_kind M_more) hE hK hP hD hS hA [0, 1, 3, 4] rfl rfl (va_recv hK hP (ci := 8) (q0 := 1) rfl rfl)) rfl rfl hl.1 rfl (lv_room (Nat.le_of_ble_eq_true rfl)) dX8_mayCome_52 ⟨Nat.le_of_ble_eq_true rfl, Nat.le_of_ble_eq_true rfl⟩) (fun (_ : Unit) => (w_X8_mayCome cI cJ cZ cO aA aM aM_strength aM_kind aM_more aM_glues aM_sheet aM_since aM_imageStrength aM_imageKind aM_imageMore aM_imageGlues aM_imagePieces aM_imageWarmth aM_imageSheet aM_imageDraw aM_stepWhat aM_stepPiece aM_stepPlace aM_stepSince aM_tape aM_shapes aM_pile aM_met aM_next aM_inputs aM_then nA arr M_pieces M_warmth M_draw M_steps M_undoable M_brought M_taped M_shapeMany M_ended M_cut M_mostPieces M_walks M_walked M_strength M_kind M_more M_glues)) [0, 1, 3, 4] [2, 5] (ads := [aA, aM, aM_kind, aM_more]) (wr := [(aM_strength, .inl (cI, 51, .inl M_strength)), (aM_glues, .inl (cI, 160, .inl M_glues))]) rfl rfl (fun u => rfl) (fun u => rfl) rfl (fun u => rfl) rfl (fun u => rfl) rfl hP hD hS hA (fun r52 u H locs hw hP hD hS => ?_)
        have hP : va_P D vwCl (w_X8_mayCome cI cJ cZ cO aA aM aM_strength aM_kind aM_more aM_glues aM_sheet aM_since aM_imageStrength aM_imageKind aM_imageMore aM_imageGlues aM_imagePieces aM_imageWarmth aM_imageSheet aM_imageDraw aM_stepWhat aM_stepPiece aM_stepPlace aM_stepSince aM_tape aM_shapes aM_pile aM_met aM_next aM_inputs aM_then nA arr M_pieces M_warmth M_draw M_steps M_undoable M_brought M_taped M_shapeMany M_ended M_cut M_mostPieces M_walks M_walked M_strength M_kind M_more M_glues) H := hP
        have hD : va_D A (w_X8_mayCome cI cJ cZ cO aA aM aM_strength aM_kind aM_more aM_glues aM_sheet aM_since aM_imageStrength aM_imageKind aM_imageMore aM_imageGlues aM_imagePieces aM_imageWarmth aM_imageSheet aM_imageDraw aM_stepWhat aM_stepPiece aM_stepPlace aM_stepSince aM_tape aM_shapes aM_pile aM_met aM_next aM_inputs aM_then nA arr M_pieces M_warmth M_draw M_steps M_undoable M_brought M_taped M_shapeMany M_ended M_cut M_mostPieces M_walks M_walked M_strength M_kind M_more M_glues) := hD
        refine lv_if_eq (tgt := 88) hx hb dX8_mayCome_55 (by decide) (fun c55 => ?_) (fun c55 => ?_)
        · have hw := hw.1 c55
          refine lv_iconst (v := (0 : Int32)) hx hb dX8_mayCome_88 kI_0 ?_
          rw [hZ]
          exact cx_retz () hx hb hr hlocks rfl hw hP hS dX8_mayCome_89
        · have hw := hw.2 c55
          refine lv_aload_n hx hb dX8_mayCome_58 rfl (lv_at hl 0 rfl) ?_
          refine va_get (D := D) (ci := 8) (v := .ref aM_kind) (C := RX8) (T := TX8) (N := 38) hx hb hts in_X8_mayCome_X8 hown hK hP 1 rfl rfl 1 (by decide) k_0 (fun _ h9 => h9) rfl dX8_mayCome_59 ?_
          refine lv_iload_n hx hb dX8_mayCome_62 rfl (lv_at hl 3 rfl) ?_
          have h63 := hw.1
          have hw := hw.2
          refine va_iald hx hb hK hP 3 0 rfl rfl h63 dX8_mayCome_63 ?_
          refine lv_topi (fun v63 e63 => ?_)
          have hw := hw v63 e63
          refine lv_iconst (v := (2 : Int32)) hx hb dX8_mayCome_64 kI_2 ?_
          refine lv_icmp_ne (tgt := 84) hx hb dX8_mayCome_65 (by decide) (fun c65 => ?_) (fun c65 => ?_)
          · have hw := hw.1 c65
            refine lv_iconst (v := (1 : Int32)) hx hb dX8_mayCome_84 kI_1 ?_
            refine lv_goto (tgt := 89) hx hb dX8_mayCome_85 (by decide) ?_
            rw [hZ]
            exact cx_retz () hx hb hr hlocks rfl hw hP hS dX8_mayCome_89
          · have hw := hw.2 c65
            refine lv_aload_n hx hb dX8_mayCome_68 rfl (lv_at hl 0 rfl) ?_
            refine lv_aload_n hx hb dX8_mayCome_69 rfl (lv_at hl 1 rfl) ?_
            refine lv_iload_n hx hb dX8_mayCome_70 rfl (lv_at hl 2 rfl) ?_
            refine lv_iload_n hx hb dX8_mayCome_71 rfl (lv_at hl 3 rfl) ?_
            refine lv_iload hx hb dX8_mayCome_72 (lv_at hl 4 rfl) ?_
            refine lv_iconst (v := (1 : Int32)) hx hb dX8_mayCome_74 kI_1 ?_
            refine lv_iadd hx hb dX8_mayCome_75 ?_
            refine lv_iload hx hb dX8_mayCome_76 (lv_at hl 5 rfl) ?_
            refine cx_goi (va_runV (As := [.ref aA, .int p2, .int p3, .int (p4 + (1 : Int32)), .int p5]) (rest := []) ⟨hx, hb, hml, hown, hts⟩ (c_X8_isOpen l D cI cJ cZ cO tS tT H.size aA aM aM_strength aM_kind aM_more aM_glues aM_sheet aM_since aM_imageStrength aM_imageKind aM_imageMore aM_imageGlues aM_imagePieces aM_imageWarmth aM_imageSheet aM_imageDraw aM_stepWhat aM_stepPiece aM_stepPlace aM_stepSince aM_tape aM_shapes aM_pile aM_met aM_next aM_inputs aM_then nA arr M_pieces M_warmth M_draw M_steps M_undoable M_brought M_taped M_shapeMany M_ended M_cut M_mostPieces M_walks M_walked M_kind M_more p2 p3 (p4 + (1 : Int32)) p5 _ hw) (cwV 5 hts gX8_mayCome_X8_isOpen rfl rfl rfl pv_X8_isOpen ⟨Nat.le_of_ble_eq_true rfl, Nat.le_of_ble_eq_true rfl⟩) (cx_preV (wc := w_X8_isOpen cI cJ cZ cO aA aM aM_strength aM_kind aM_more aM_glues aM_sheet aM_since aM_imageStrength aM_imageKind aM_imageMore aM_imageGlues aM_imagePieces aM_imageWarmth aM_imageSheet aM_imageDraw aM_stepWhat aM_stepPiece aM_stepPlace aM_stepSince aM_tape aM_shapes aM_pile aM_met aM_next aM_inputs aM_then nA arr M_pieces M_warmth M_draw M_steps M_undoable M_brought M_taped M_shapeMany M_ended M_cut M_mostPieces M_walks M_walked M_kind M_more) hE hK hP hD hS hA [0, 1, 3, 4] rfl rfl (va_recv hK hP (ci := 8) (q0 := 1) rfl rfl)) rfl rfl hl.1 rfl (lv_room (Nat.le_of_ble_eq_true rfl)) dX8_mayCome_78 ⟨Nat.le_of_ble_eq_true rfl, Nat.le_of_ble_eq_true rfl⟩) (fun (_ : Unit) => (w_X8_mayCome cI cJ cZ cO aA aM aM_strength aM_kind aM_more aM_glues aM_sheet aM_since aM_imageStrength aM_imageKind aM_imageMore aM_imageGlues aM_imagePieces aM_imageWarmth aM_imageSheet aM_imageDraw aM_stepWhat aM_stepPiece aM_stepPlace aM_stepSince aM_tape aM_shapes aM_pile aM_met aM_next aM_inputs aM_then nA arr M_pieces M_warmth M_draw M_steps M_undoable M_brought M_taped M_shapeMany M_ended M_cut M_mostPieces M_walks M_walked M_strength M_kind M_more M_glues)) [0, 1, 3, 4] [2, 5] (ads := [aA, aM, aM_kind, aM_more]) (wr := [(aM_strength, .inl (cI, 51, .inl M_strength)), (aM_glues, .inl (cI, 160, .inl M_glues))]) rfl rfl (fun u => rfl) (fun u => rfl) rfl (fun u => rfl) rfl (fun u => rfl) rfl hP hD hS hA (fun r78 u H locs hw hP hD hS => ?_)
            have hP : va_P D vwCl (w_X8_mayCome cI cJ cZ cO aA aM aM_strength aM_kind aM_more aM_glues aM_sheet aM_since aM_imageStrength aM_imageKind aM_imageMore aM_imageGlues aM_imagePieces aM_imageWarmth aM_imageSheet aM_imageDraw aM_stepWhat aM_stepPiece aM_stepPlace aM_stepSince aM_tape aM_shapes aM_pile aM_met aM_next aM_inputs aM_then nA arr M_pieces M_warmth M_draw M_steps M_undoable M_brought M_taped M_shapeMany M_ended M_cut M_mostPieces M_walks M_walked M_strength M_kind M_more M_glues) H := hP
            have hD : va_D A (w_X8_mayCome cI cJ cZ cO aA aM aM_strength aM_kind aM_more aM_glues aM_sheet aM_since aM_imageStrength aM_imageKind aM_imageMore aM_imageGlues aM_imagePieces aM_imageWarmth aM_imageSheet aM_imageDraw aM_stepWhat aM_stepPiece aM_stepPlace aM_stepSince aM_tape aM_shapes aM_pile aM_met aM_next aM_inputs aM_then nA arr M_pieces M_warmth M_draw M_steps M_undoable M_brought M_taped M_shapeMany M_ended M_cut M_mostPieces M_walks M_walked M_strength M_kind M_more M_glues) := hD
            refine lv_if_eq (tgt := 88) hx hb dX8_mayCome_81 (by decide) (fun c81 => ?_) (fun c81 => ?_)
            · have hw := hw.1 c81
              refine lv_iconst (v := (0 : Int32)) hx hb dX8_mayCome_88 kI_0 ?_
              rw [hZ]
              exact cx_retz () hx hb hr hlocks rfl hw hP hS dX8_mayCome_89
            · have hw := hw.2 c81
              refine lv_iconst (v := (1 : Int32)) hx hb dX8_mayCome_84 kI_1 ?_
              refine lv_goto (tgt := 89) hx hb dX8_mayCome_85 (by decide) ?_
              rw [hZ]
              exact cx_retz () hx hb hr hlocks rfl hw hP hS dX8_mayCome_89
      · have hw := hw.2 c39
        refine lv_iconst (v := (0 : Int32)) hx hb dX8_mayCome_42 kI_0 ?_
        rw [hZ]
        exact cx_retz () hx hb hr hlocks rfl hw hP hS dX8_mayCome_43
set_option maxRecDepth 100000 in
set_option maxHeartbeats 4000000 in
theorem c_X8_may (l : Launch) (D : va_G) (cI cJ cZ cO : ClassId) (tS tT : Nat) (sz : Nat) (aM aM_strength aM_kind aM_more aM_glues aM_sheet aM_since aM_imageStrength aM_imageKind aM_imageMore aM_imageGlues aM_imagePieces aM_imageWarmth aM_imageSheet aM_imageDraw aM_stepWhat aM_stepPiece aM_stepPlace aM_stepSince aM_tape aM_shapes aM_pile aM_met aM_next aM_inputs aM_then : Nat) (M_pieces : Int32) (M_warmth : Int32) (M_draw : Int64) (M_steps : Int32) (M_undoable : Int32) (M_brought : Int32) (M_taped : Int32) (M_shapeMany : Int32) (M_ended : Int32) (M_cut : Int32) (M_mostPieces : Int32) (M_walks : Int32) (M_walked : Int32) (M_strength : Nat → Int32) (M_kind : Nat → Int32) (M_more : Nat → Int32) (M_glues : Nat → Int32) (M_sheet : Nat → Int32) (p1 : Int32) (p2 : Int32) (p3 : Int32) (Q : Int32 → Prop) (hw : wp_X8_may M_strength M_kind M_more M_glues M_pieces M_warmth M_sheet p1 p2 p3 Q) : Met l yX8_may wsX8_may rm_X8_may (va_Pc [.ref aM, .int p1, .int p2, .int p3] (cx_B tS tT cI cJ cZ cO D sz (w_X8_may cI cJ cZ cO aM aM_strength aM_kind aM_more aM_glues aM_sheet aM_since aM_imageStrength aM_imageKind aM_imageMore aM_imageGlues aM_imagePieces aM_imageWarmth aM_imageSheet aM_imageDraw aM_stepWhat aM_stepPiece aM_stepPlace aM_stepSince aM_tape aM_shapes aM_pile aM_met aM_next aM_inputs aM_then M_pieces M_warmth M_draw M_steps M_undoable M_brought M_taped M_shapeMany M_ended M_cut M_mostPieces M_walks M_walked M_strength M_kind M_more M_glues M_sheet))) (va_Qi (fun (r : Int32) (_ : Unit) => Q r) (fun (u : Unit) t => va_P D vwCl (w_X8_may cI cJ cZ cO aM aM_strength aM_kind aM_more aM_glues aM_sheet aM_since aM_imageStrength aM_imageKind aM_imageMore aM_imageGlues aM_imagePieces aM_imageWarmth aM_imageSheet aM_imageDraw aM_stepWhat aM_stepPiece aM_stepPlace aM_stepSince aM_tape aM_shapes aM_pile aM_met aM_next aM_inputs aM_then M_pieces M_warmth M_draw M_steps M_undoable M_brought M_taped M_shapeMany M_ended M_cut M_mostPieces M_walks M_walked M_strength M_kind M_more M_glues M_sheet) t.heap) (va_A (w_X8_may cI cJ cZ cO aM aM_strength aM_kind aM_more aM_glues aM_sheet aM_since aM_imageStrength aM_imageKind aM_imageMore aM_imageGlues aM_imagePieces aM_imageWarmth aM_imageSheet aM_imageDraw aM_stepWhat aM_stepPiece aM_stepPlace aM_stepSince aM_tape aM_shapes aM_pile aM_met aM_next aM_inputs aM_then M_pieces M_warmth M_draw M_steps M_undoable M_brought M_taped M_shapeMany M_ended M_cut M_mostPieces M_walks M_walked M_strength M_kind M_more M_glues M_sheet) sz)) 0 0 (va_A (w_X8_may cI cJ cZ cO aM aM_strength aM_kind aM_more aM_glues aM_sheet aM_since aM_imageStrength aM_imageKind aM_imageMore aM_imageGlues aM_imagePieces aM_imageWarmth aM_imageSheet aM_imageDraw aM_stepWhat aM_stepPiece aM_stepPlace aM_stepSince aM_tape aM_shapes aM_pile aM_met aM_next aM_inputs aM_then M_pieces M_warmth M_draw M_steps M_undoable M_brought M_taped M_shapeMany M_ended M_cut M_mostPieces M_walks M_walked M_strength M_kind M_more M_glues M_sheet) sz) := by
  refine cx_met (cc := cX8_may) (maxL := 4) (ret := (some .boolean)) (Qc := fun A => va_Qi (fun (r : Int32) (_ : Unit) => Q r) (fun (u : Unit) t => va_P D vwCl (w_X8_may cI cJ cZ cO aM aM_strength aM_kind aM_more aM_glues aM_sheet aM_since aM_imageStrength aM_imageKind aM_imageMore aM_imageGlues aM_imagePieces aM_imageWarmth aM_imageSheet aM_imageDraw aM_stepWhat aM_stepPiece aM_stepPlace aM_stepSince aM_tape aM_shapes aM_pile aM_met aM_next aM_inputs aM_then M_pieces M_warmth M_draw M_steps M_undoable M_brought M_taped M_shapeMany M_ended M_cut M_mostPieces M_walks M_walked M_strength M_kind M_more M_glues M_sheet) t.heap) A) (lv := [(0, .ref aM), (1, .int p1), (2, .int p2), (3, .int p3)]) (by decide) rfl (Nat.le_of_ble_eq_true rfl) rfl ?_
  intro p e s m args below meth c A Z hx hb hr hlocks hts hown hml hE hK hA hZ
  have hown : s.vm.findClass RX8 = some m.cls := hown
  have k_0 := hts (.fieldLink RX8 26 "GrowingTilesModel" "sheet" "[I") (List.mem_of_getElem? (i := 1) (by decide +kernel))
  intro H locs hP hD hS ls hl
  unfold wp_X8_may at hw
  refine lv_aload_n hx hb dX8_may_0 rfl (lv_at hl 0 rfl) ?_
  refine lv_iload_n hx hb dX8_may_1 rfl (lv_at hl 1 rfl) ?_
  refine cx_goi (va_runV (As := [.int p1]) (rest := []) ⟨hx, hb, hml, hown, hts⟩ (c_X8_isPiece l D cI cJ cZ cO tS tT H.size aM aM_strength aM_kind aM_more aM_glues aM_sheet aM_since aM_imageStrength aM_imageKind aM_imageMore aM_imageGlues aM_imagePieces aM_imageWarmth aM_imageSheet aM_imageDraw aM_stepWhat aM_stepPiece aM_stepPlace aM_stepSince aM_tape aM_shapes aM_pile aM_met aM_next aM_inputs aM_then M_pieces M_warmth M_draw M_steps M_undoable M_brought M_taped M_shapeMany M_ended M_cut M_mostPieces M_walks M_walked p1 _ hw) (cwV 1 hts gX8_may_X8_isPiece rfl rfl rfl pv_X8_isPiece ⟨Nat.le_of_ble_eq_true rfl, Nat.le_of_ble_eq_true rfl⟩) (cx_preV (wc := w_X8_isPiece cI cJ cZ cO aM aM_strength aM_kind aM_more aM_glues aM_sheet aM_since aM_imageStrength aM_imageKind aM_imageMore aM_imageGlues aM_imagePieces aM_imageWarmth aM_imageSheet aM_imageDraw aM_stepWhat aM_stepPiece aM_stepPlace aM_stepSince aM_tape aM_shapes aM_pile aM_met aM_next aM_inputs aM_then M_pieces M_warmth M_draw M_steps M_undoable M_brought M_taped M_shapeMany M_ended M_cut M_mostPieces M_walks M_walked) hE hK hP hD hS hA [0] rfl rfl (va_recv hK hP (ci := 8) (q0 := 0) rfl rfl)) rfl rfl hl.1 rfl (lv_room (Nat.le_of_ble_eq_true rfl)) dX8_may_2 ⟨Nat.le_of_ble_eq_true rfl, Nat.le_of_ble_eq_true rfl⟩) (fun (_ : Unit) => (w_X8_may cI cJ cZ cO aM aM_strength aM_kind aM_more aM_glues aM_sheet aM_since aM_imageStrength aM_imageKind aM_imageMore aM_imageGlues aM_imagePieces aM_imageWarmth aM_imageSheet aM_imageDraw aM_stepWhat aM_stepPiece aM_stepPlace aM_stepSince aM_tape aM_shapes aM_pile aM_met aM_next aM_inputs aM_then M_pieces M_warmth M_draw M_steps M_undoable M_brought M_taped M_shapeMany M_ended M_cut M_mostPieces M_walks M_walked M_strength M_kind M_more M_glues M_sheet)) [0] [1, 2, 3, 4, 5] (ads := [aM]) (wr := [(aM_strength, .inl (cI, 51, .inl M_strength)), (aM_kind, .inl (cI, 40, .inl M_kind)), (aM_more, .inl (cI, 40, .inl M_more)), (aM_glues, .inl (cI, 160, .inl M_glues)), (aM_sheet, .inl (cI, 256, .inl M_sheet))]) rfl rfl (fun u => rfl) (fun u => rfl) rfl (fun u => rfl) rfl (fun u => rfl) rfl hP hD hS hA (fun r2 u H locs hw hP hD hS => ?_)
  have hP : va_P D vwCl (w_X8_may cI cJ cZ cO aM aM_strength aM_kind aM_more aM_glues aM_sheet aM_since aM_imageStrength aM_imageKind aM_imageMore aM_imageGlues aM_imagePieces aM_imageWarmth aM_imageSheet aM_imageDraw aM_stepWhat aM_stepPiece aM_stepPlace aM_stepSince aM_tape aM_shapes aM_pile aM_met aM_next aM_inputs aM_then M_pieces M_warmth M_draw M_steps M_undoable M_brought M_taped M_shapeMany M_ended M_cut M_mostPieces M_walks M_walked M_strength M_kind M_more M_glues M_sheet) H := hP
  have hD : va_D A (w_X8_may cI cJ cZ cO aM aM_strength aM_kind aM_more aM_glues aM_sheet aM_since aM_imageStrength aM_imageKind aM_imageMore aM_imageGlues aM_imagePieces aM_imageWarmth aM_imageSheet aM_imageDraw aM_stepWhat aM_stepPiece aM_stepPlace aM_stepSince aM_tape aM_shapes aM_pile aM_met aM_next aM_inputs aM_then M_pieces M_warmth M_draw M_steps M_undoable M_brought M_taped M_shapeMany M_ended M_cut M_mostPieces M_walks M_walked M_strength M_kind M_more M_glues M_sheet) := hD
  refine lv_if_eq (tgt := 27) hx hb dX8_may_5 (by decide) (fun c5 => ?_) (fun c5 => ?_)
  · have hw := hw.1 c5
    refine lv_iconst (v := (0 : Int32)) hx hb dX8_may_27 kI_0 ?_
    rw [hZ]
    exact cx_retz () hx hb hr hlocks rfl hw hP hS dX8_may_28
  · have hw := hw.2 c5
    refine lv_aload_n hx hb dX8_may_8 rfl (lv_at hl 0 rfl) ?_
    refine lv_aload_n hx hb dX8_may_9 rfl (lv_at hl 0 rfl) ?_
    refine va_get (D := D) (ci := 8) (v := .ref aM_sheet) (C := RX8) (T := TX8) (N := 38) hx hb hts in_X8_may_X8 hown hK hP 0 rfl rfl 7 (by decide) k_0 (fun _ h9 => h9) rfl dX8_may_10 ?_
    refine lv_iconst (v := (0 : Int32)) hx hb dX8_may_13 kI_0 ?_
    refine lv_iload_n hx hb dX8_may_14 rfl (lv_at hl 1 rfl) ?_
    refine lv_iload_n hx hb dX8_may_15 rfl (lv_at hl 2 rfl) ?_
    refine lv_iload_n hx hb dX8_may_16 rfl (lv_at hl 3 rfl) ?_
    refine cx_goi (va_runV (As := [.ref aM_sheet, .int (0 : Int32), .int p1, .int p2, .int p3]) (rest := []) ⟨hx, hb, hml, hown, hts⟩ (c_X8_mayCome l D cI cJ cZ cO tS tT H.size aM_sheet aM aM_strength aM_kind aM_more aM_glues aM_sheet aM_since aM_imageStrength aM_imageKind aM_imageMore aM_imageGlues aM_imagePieces aM_imageWarmth aM_imageSheet aM_imageDraw aM_stepWhat aM_stepPiece aM_stepPlace aM_stepSince aM_tape aM_shapes aM_pile aM_met aM_next aM_inputs aM_then 256 M_sheet M_pieces M_warmth M_draw M_steps M_undoable M_brought M_taped M_shapeMany M_ended M_cut M_mostPieces M_walks M_walked M_strength M_kind M_more M_glues (0 : Int32) p1 p2 p3 _ hw) (cwV 5 hts gX8_may_X8_mayCome rfl rfl rfl pv_X8_mayCome ⟨Nat.le_of_ble_eq_true rfl, Nat.le_of_ble_eq_true rfl⟩) (cx_preV (wc := w_X8_mayCome cI cJ cZ cO aM_sheet aM aM_strength aM_kind aM_more aM_glues aM_sheet aM_since aM_imageStrength aM_imageKind aM_imageMore aM_imageGlues aM_imagePieces aM_imageWarmth aM_imageSheet aM_imageDraw aM_stepWhat aM_stepPiece aM_stepPlace aM_stepSince aM_tape aM_shapes aM_pile aM_met aM_next aM_inputs aM_then 256 M_sheet M_pieces M_warmth M_draw M_steps M_undoable M_brought M_taped M_shapeMany M_ended M_cut M_mostPieces M_walks M_walked M_strength M_kind M_more M_glues) hE hK hP hD hS hA [5, 0, 1, 2, 3, 4] rfl rfl (va_recv hK hP (ci := 8) (q0 := 0) rfl rfl)) rfl rfl hl.1 rfl (lv_room (Nat.le_of_ble_eq_true rfl)) dX8_may_17 ⟨Nat.le_of_ble_eq_true rfl, Nat.le_of_ble_eq_true rfl⟩) (fun (_ : Unit) => (w_X8_may cI cJ cZ cO aM aM_strength aM_kind aM_more aM_glues aM_sheet aM_since aM_imageStrength aM_imageKind aM_imageMore aM_imageGlues aM_imagePieces aM_imageWarmth aM_imageSheet aM_imageDraw aM_stepWhat aM_stepPiece aM_stepPlace aM_stepSince aM_tape aM_shapes aM_pile aM_met aM_next aM_inputs aM_then M_pieces M_warmth M_draw M_steps M_undoable M_brought M_taped M_shapeMany M_ended M_cut M_mostPieces M_walks M_walked M_strength M_kind M_more M_glues M_sheet)) [5, 0, 1, 2, 3, 4] [] (ads := [aM_sheet, aM, aM_strength, aM_kind, aM_more, aM_glues]) (wr := []) rfl rfl (fun u => rfl) (fun u => rfl) rfl (fun u => rfl) rfl (fun u => rfl) rfl hP hD hS hA (fun r17 u H locs hw hP hD hS => ?_)
    have hP : va_P D vwCl (w_X8_may cI cJ cZ cO aM aM_strength aM_kind aM_more aM_glues aM_sheet aM_since aM_imageStrength aM_imageKind aM_imageMore aM_imageGlues aM_imagePieces aM_imageWarmth aM_imageSheet aM_imageDraw aM_stepWhat aM_stepPiece aM_stepPlace aM_stepSince aM_tape aM_shapes aM_pile aM_met aM_next aM_inputs aM_then M_pieces M_warmth M_draw M_steps M_undoable M_brought M_taped M_shapeMany M_ended M_cut M_mostPieces M_walks M_walked M_strength M_kind M_more M_glues M_sheet) H := hP
    have hD : va_D A (w_X8_may cI cJ cZ cO aM aM_strength aM_kind aM_more aM_glues aM_sheet aM_since aM_imageStrength aM_imageKind aM_imageMore aM_imageGlues aM_imagePieces aM_imageWarmth aM_imageSheet aM_imageDraw aM_stepWhat aM_stepPiece aM_stepPlace aM_stepSince aM_tape aM_shapes aM_pile aM_met aM_next aM_inputs aM_then M_pieces M_warmth M_draw M_steps M_undoable M_brought M_taped M_shapeMany M_ended M_cut M_mostPieces M_walks M_walked M_strength M_kind M_more M_glues M_sheet) := hD
    refine lv_if_eq (tgt := 27) hx hb dX8_may_20 (by decide) (fun c20 => ?_) (fun c20 => ?_)
    · have hw := hw.1 c20
      refine lv_iconst (v := (0 : Int32)) hx hb dX8_may_27 kI_0 ?_
      rw [hZ]
      exact cx_retz () hx hb hr hlocks rfl hw hP hS dX8_may_28
    · have hw := hw.2 c20
      refine lv_iconst (v := (1 : Int32)) hx hb dX8_may_23 kI_1 ?_
      refine lv_goto (tgt := 28) hx hb dX8_may_24 (by decide) ?_
      rw [hZ]
      exact cx_retz () hx hb hr hlocks rfl hw hP hS dX8_may_28
set_option maxRecDepth 100000 in
set_option maxHeartbeats 4000000 in
theorem c_X8_hold (l : Launch) (D : va_G) (cI cJ cZ cO : ClassId) (tS tT : Nat) (sz : Nat) (aM aM_strength aM_kind aM_more aM_glues aM_sheet aM_since aM_imageStrength aM_imageKind aM_imageMore aM_imageGlues aM_imagePieces aM_imageWarmth aM_imageSheet aM_imageDraw aM_stepWhat aM_stepPiece aM_stepPlace aM_stepSince aM_tape aM_shapes aM_pile aM_met aM_next aM_inputs aM_then : Nat) (M_pieces : Int32) (M_warmth : Int32) (M_draw : Int64) (M_steps : Int32) (M_undoable : Int32) (M_brought : Int32) (M_taped : Int32) (M_shapeMany : Int32) (M_ended : Int32) (M_cut : Int32) (M_mostPieces : Int32) (M_walks : Int32) (M_walked : Int32) (M_strength : Nat → Int32) (M_kind : Nat → Int32) (M_more : Nat → Int32) (M_glues : Nat → Int32) (M_sheet : Nat → Int32) (p1 : Int32) (p2 : Int32) (p3 : Int32) (Q : Int32 → Prop) (hw : wp_X8_hold M_strength M_kind M_more M_glues M_pieces M_sheet p1 p2 p3 Q) : Met l yX8_hold wsX8_hold rm_X8_hold (va_Pc [.ref aM, .int p1, .int p2, .int p3] (cx_B tS tT cI cJ cZ cO D sz (w_X8_hold cI cJ cZ cO aM aM_strength aM_kind aM_more aM_glues aM_sheet aM_since aM_imageStrength aM_imageKind aM_imageMore aM_imageGlues aM_imagePieces aM_imageWarmth aM_imageSheet aM_imageDraw aM_stepWhat aM_stepPiece aM_stepPlace aM_stepSince aM_tape aM_shapes aM_pile aM_met aM_next aM_inputs aM_then M_pieces M_warmth M_draw M_steps M_undoable M_brought M_taped M_shapeMany M_ended M_cut M_mostPieces M_walks M_walked M_strength M_kind M_more M_glues M_sheet))) (va_Qi (fun (r : Int32) (_ : Unit) => Q r) (fun (u : Unit) t => va_P D vwCl (w_X8_hold cI cJ cZ cO aM aM_strength aM_kind aM_more aM_glues aM_sheet aM_since aM_imageStrength aM_imageKind aM_imageMore aM_imageGlues aM_imagePieces aM_imageWarmth aM_imageSheet aM_imageDraw aM_stepWhat aM_stepPiece aM_stepPlace aM_stepSince aM_tape aM_shapes aM_pile aM_met aM_next aM_inputs aM_then M_pieces M_warmth M_draw M_steps M_undoable M_brought M_taped M_shapeMany M_ended M_cut M_mostPieces M_walks M_walked M_strength M_kind M_more M_glues M_sheet) t.heap) (va_A (w_X8_hold cI cJ cZ cO aM aM_strength aM_kind aM_more aM_glues aM_sheet aM_since aM_imageStrength aM_imageKind aM_imageMore aM_imageGlues aM_imagePieces aM_imageWarmth aM_imageSheet aM_imageDraw aM_stepWhat aM_stepPiece aM_stepPlace aM_stepSince aM_tape aM_shapes aM_pile aM_met aM_next aM_inputs aM_then M_pieces M_warmth M_draw M_steps M_undoable M_brought M_taped M_shapeMany M_ended M_cut M_mostPieces M_walks M_walked M_strength M_kind M_more M_glues M_sheet) sz)) 0 0 (va_A (w_X8_hold cI cJ cZ cO aM aM_strength aM_kind aM_more aM_glues aM_sheet aM_since aM_imageStrength aM_imageKind aM_imageMore aM_imageGlues aM_imagePieces aM_imageWarmth aM_imageSheet aM_imageDraw aM_stepWhat aM_stepPiece aM_stepPlace aM_stepSince aM_tape aM_shapes aM_pile aM_met aM_next aM_inputs aM_then M_pieces M_warmth M_draw M_steps M_undoable M_brought M_taped M_shapeMany M_ended M_cut M_mostPieces M_walks M_walked M_strength M_kind M_more M_glues M_sheet) sz) := by
  refine cx_met (cc := cX8_hold) (maxL := 4) (ret := (some .int)) (Qc := fun A => va_Qi (fun (r : Int32) (_ : Unit) => Q r) (fun (u : Unit) t => va_P D vwCl (w_X8_hold cI cJ cZ cO aM aM_strength aM_kind aM_more aM_glues aM_sheet aM_since aM_imageStrength aM_imageKind aM_imageMore aM_imageGlues aM_imagePieces aM_imageWarmth aM_imageSheet aM_imageDraw aM_stepWhat aM_stepPiece aM_stepPlace aM_stepSince aM_tape aM_shapes aM_pile aM_met aM_next aM_inputs aM_then M_pieces M_warmth M_draw M_steps M_undoable M_brought M_taped M_shapeMany M_ended M_cut M_mostPieces M_walks M_walked M_strength M_kind M_more M_glues M_sheet) t.heap) A) (lv := [(0, .ref aM), (1, .int p1), (2, .int p2), (3, .int p3)]) (by decide) rfl (Nat.le_of_ble_eq_true rfl) rfl ?_
  intro p e s m args below meth c A Z hx hb hr hlocks hts hown hml hE hK hA hZ
  have hown : s.vm.findClass RX8 = some m.cls := hown
  have k_0 := hts (.fieldLink RX8 26 "GrowingTilesModel" "sheet" "[I") (List.mem_of_getElem? (i := 1) (by decide +kernel))
  intro H locs hP hD hS ls hl
  unfold wp_X8_hold at hw
  refine lv_aload_n hx hb dX8_hold_0 rfl (lv_at hl 0 rfl) ?_
  refine lv_iload_n hx hb dX8_hold_1 rfl (lv_at hl 1 rfl) ?_
  refine cx_goi (va_runV (As := [.int p1]) (rest := []) ⟨hx, hb, hml, hown, hts⟩ (c_X8_isPiece l D cI cJ cZ cO tS tT H.size aM aM_strength aM_kind aM_more aM_glues aM_sheet aM_since aM_imageStrength aM_imageKind aM_imageMore aM_imageGlues aM_imagePieces aM_imageWarmth aM_imageSheet aM_imageDraw aM_stepWhat aM_stepPiece aM_stepPlace aM_stepSince aM_tape aM_shapes aM_pile aM_met aM_next aM_inputs aM_then M_pieces M_warmth M_draw M_steps M_undoable M_brought M_taped M_shapeMany M_ended M_cut M_mostPieces M_walks M_walked p1 _ hw) (cwV 1 hts gX8_hold_X8_isPiece rfl rfl rfl pv_X8_isPiece ⟨Nat.le_of_ble_eq_true rfl, Nat.le_of_ble_eq_true rfl⟩) (cx_preV (wc := w_X8_isPiece cI cJ cZ cO aM aM_strength aM_kind aM_more aM_glues aM_sheet aM_since aM_imageStrength aM_imageKind aM_imageMore aM_imageGlues aM_imagePieces aM_imageWarmth aM_imageSheet aM_imageDraw aM_stepWhat aM_stepPiece aM_stepPlace aM_stepSince aM_tape aM_shapes aM_pile aM_met aM_next aM_inputs aM_then M_pieces M_warmth M_draw M_steps M_undoable M_brought M_taped M_shapeMany M_ended M_cut M_mostPieces M_walks M_walked) hE hK hP hD hS hA [0] rfl rfl (va_recv hK hP (ci := 8) (q0 := 0) rfl rfl)) rfl rfl hl.1 rfl (lv_room (Nat.le_of_ble_eq_true rfl)) dX8_hold_2 ⟨Nat.le_of_ble_eq_true rfl, Nat.le_of_ble_eq_true rfl⟩) (fun (_ : Unit) => (w_X8_hold cI cJ cZ cO aM aM_strength aM_kind aM_more aM_glues aM_sheet aM_since aM_imageStrength aM_imageKind aM_imageMore aM_imageGlues aM_imagePieces aM_imageWarmth aM_imageSheet aM_imageDraw aM_stepWhat aM_stepPiece aM_stepPlace aM_stepSince aM_tape aM_shapes aM_pile aM_met aM_next aM_inputs aM_then M_pieces M_warmth M_draw M_steps M_undoable M_brought M_taped M_shapeMany M_ended M_cut M_mostPieces M_walks M_walked M_strength M_kind M_more M_glues M_sheet)) [0] [1, 2, 3, 4, 5] (ads := [aM]) (wr := [(aM_strength, .inl (cI, 51, .inl M_strength)), (aM_kind, .inl (cI, 40, .inl M_kind)), (aM_more, .inl (cI, 40, .inl M_more)), (aM_glues, .inl (cI, 160, .inl M_glues)), (aM_sheet, .inl (cI, 256, .inl M_sheet))]) rfl rfl (fun u => rfl) (fun u => rfl) rfl (fun u => rfl) rfl (fun u => rfl) rfl hP hD hS hA (fun r2 u H locs hw hP hD hS => ?_)
  have hP : va_P D vwCl (w_X8_hold cI cJ cZ cO aM aM_strength aM_kind aM_more aM_glues aM_sheet aM_since aM_imageStrength aM_imageKind aM_imageMore aM_imageGlues aM_imagePieces aM_imageWarmth aM_imageSheet aM_imageDraw aM_stepWhat aM_stepPiece aM_stepPlace aM_stepSince aM_tape aM_shapes aM_pile aM_met aM_next aM_inputs aM_then M_pieces M_warmth M_draw M_steps M_undoable M_brought M_taped M_shapeMany M_ended M_cut M_mostPieces M_walks M_walked M_strength M_kind M_more M_glues M_sheet) H := hP
  have hD : va_D A (w_X8_hold cI cJ cZ cO aM aM_strength aM_kind aM_more aM_glues aM_sheet aM_since aM_imageStrength aM_imageKind aM_imageMore aM_imageGlues aM_imagePieces aM_imageWarmth aM_imageSheet aM_imageDraw aM_stepWhat aM_stepPiece aM_stepPlace aM_stepSince aM_tape aM_shapes aM_pile aM_met aM_next aM_inputs aM_then M_pieces M_warmth M_draw M_steps M_undoable M_brought M_taped M_shapeMany M_ended M_cut M_mostPieces M_walks M_walked M_strength M_kind M_more M_glues M_sheet) := hD
  refine lv_if_eq (tgt := 38) hx hb dX8_hold_5 (by decide) (fun c5 => ?_) (fun c5 => ?_)
  · have hw := hw.1 c5
    refine lv_iconst (v := (-1 : Int32)) hx hb dX8_hold_38 kI_m1 ?_
    rw [hZ]
    exact cx_reti () hx hb hr hlocks hw hP hS dX8_hold_39
  · have hw := hw.2 c5
    refine lv_aload_n hx hb dX8_hold_8 rfl (lv_at hl 0 rfl) ?_
    refine lv_aload_n hx hb dX8_hold_9 rfl (lv_at hl 0 rfl) ?_
    refine va_get (D := D) (ci := 8) (v := .ref aM_sheet) (C := RX8) (T := TX8) (N := 38) hx hb hts in_X8_hold_X8 hown hK hP 0 rfl rfl 7 (by decide) k_0 (fun _ h9 => h9) rfl dX8_hold_10 ?_
    refine lv_iconst (v := (0 : Int32)) hx hb dX8_hold_13 kI_0 ?_
    refine lv_iload_n hx hb dX8_hold_14 rfl (lv_at hl 1 rfl) ?_
    refine lv_iload_n hx hb dX8_hold_15 rfl (lv_at hl 2 rfl) ?_
    refine lv_iload_n hx hb dX8_hold_16 rfl (lv_at hl 3 rfl) ?_
    refine cx_goi (va_runV (As := [.ref aM_sheet, .int (0 : Int32), .int p1, .int p2, .int p3]) (rest := []) ⟨hx, hb, hml, hown, hts⟩ (c_X8_isFree l D cI cJ cZ cO tS tT H.size aM_sheet aM aM_strength aM_kind aM_more aM_glues aM_sheet aM_since aM_imageStrength aM_imageKind aM_imageMore aM_imageGlues aM_imagePieces aM_imageWarmth aM_imageSheet aM_imageDraw aM_stepWhat aM_stepPiece aM_stepPlace aM_stepSince aM_tape aM_shapes aM_pile aM_met aM_next aM_inputs aM_then 256 M_sheet M_pieces M_warmth M_draw M_steps M_undoable M_brought M_taped M_shapeMany M_ended M_cut M_mostPieces M_walks M_walked M_kind (0 : Int32) p1 p2 p3 _ hw) (cwV 5 hts gX8_hold_X8_isFree rfl rfl rfl pv_X8_isFree ⟨Nat.le_of_ble_eq_true rfl, Nat.le_of_ble_eq_true rfl⟩) (cx_preV (wc := w_X8_isFree cI cJ cZ cO aM_sheet aM aM_strength aM_kind aM_more aM_glues aM_sheet aM_since aM_imageStrength aM_imageKind aM_imageMore aM_imageGlues aM_imagePieces aM_imageWarmth aM_imageSheet aM_imageDraw aM_stepWhat aM_stepPiece aM_stepPlace aM_stepSince aM_tape aM_shapes aM_pile aM_met aM_next aM_inputs aM_then 256 M_sheet M_pieces M_warmth M_draw M_steps M_undoable M_brought M_taped M_shapeMany M_ended M_cut M_mostPieces M_walks M_walked M_kind) hE hK hP hD hS hA [5, 0, 2] rfl rfl (va_recv hK hP (ci := 8) (q0 := 0) rfl rfl)) rfl rfl hl.1 rfl (lv_room (Nat.le_of_ble_eq_true rfl)) dX8_hold_17 ⟨Nat.le_of_ble_eq_true rfl, Nat.le_of_ble_eq_true rfl⟩) (fun (_ : Unit) => (w_X8_hold cI cJ cZ cO aM aM_strength aM_kind aM_more aM_glues aM_sheet aM_since aM_imageStrength aM_imageKind aM_imageMore aM_imageGlues aM_imagePieces aM_imageWarmth aM_imageSheet aM_imageDraw aM_stepWhat aM_stepPiece aM_stepPlace aM_stepSince aM_tape aM_shapes aM_pile aM_met aM_next aM_inputs aM_then M_pieces M_warmth M_draw M_steps M_undoable M_brought M_taped M_shapeMany M_ended M_cut M_mostPieces M_walks M_walked M_strength M_kind M_more M_glues M_sheet)) [5, 0, 2] [1, 3, 4] (ads := [aM_sheet, aM, aM_kind]) (wr := [(aM_strength, .inl (cI, 51, .inl M_strength)), (aM_more, .inl (cI, 40, .inl M_more)), (aM_glues, .inl (cI, 160, .inl M_glues))]) rfl rfl (fun u => rfl) (fun u => rfl) rfl (fun u => rfl) rfl (fun u => rfl) rfl hP hD hS hA (fun r17 u H locs hw hP hD hS => ?_)
    have hP : va_P D vwCl (w_X8_hold cI cJ cZ cO aM aM_strength aM_kind aM_more aM_glues aM_sheet aM_since aM_imageStrength aM_imageKind aM_imageMore aM_imageGlues aM_imagePieces aM_imageWarmth aM_imageSheet aM_imageDraw aM_stepWhat aM_stepPiece aM_stepPlace aM_stepSince aM_tape aM_shapes aM_pile aM_met aM_next aM_inputs aM_then M_pieces M_warmth M_draw M_steps M_undoable M_brought M_taped M_shapeMany M_ended M_cut M_mostPieces M_walks M_walked M_strength M_kind M_more M_glues M_sheet) H := hP
    have hD : va_D A (w_X8_hold cI cJ cZ cO aM aM_strength aM_kind aM_more aM_glues aM_sheet aM_since aM_imageStrength aM_imageKind aM_imageMore aM_imageGlues aM_imagePieces aM_imageWarmth aM_imageSheet aM_imageDraw aM_stepWhat aM_stepPiece aM_stepPlace aM_stepSince aM_tape aM_shapes aM_pile aM_met aM_next aM_inputs aM_then M_pieces M_warmth M_draw M_steps M_undoable M_brought M_taped M_shapeMany M_ended M_cut M_mostPieces M_walks M_walked M_strength M_kind M_more M_glues M_sheet) := hD
    refine lv_if_eq (tgt := 38) hx hb dX8_hold_20 (by decide) (fun c20 => ?_) (fun c20 => ?_)
    · have hw := hw.1 c20
      refine lv_iconst (v := (-1 : Int32)) hx hb dX8_hold_38 kI_m1 ?_
      rw [hZ]
      exact cx_reti () hx hb hr hlocks hw hP hS dX8_hold_39
    · have hw := hw.2 c20
      refine lv_aload_n hx hb dX8_hold_23 rfl (lv_at hl 0 rfl) ?_
      refine lv_aload_n hx hb dX8_hold_24 rfl (lv_at hl 0 rfl) ?_
      refine va_get (D := D) (ci := 8) (v := .ref aM_sheet) (C := RX8) (T := TX8) (N := 38) hx hb hts in_X8_hold_X8 hown hK hP 0 rfl rfl 7 (by decide) k_0 (fun _ h9 => h9) rfl dX8_hold_25 ?_
      refine lv_iconst (v := (0 : Int32)) hx hb dX8_hold_28 kI_0 ?_
      refine lv_iload_n hx hb dX8_hold_29 rfl (lv_at hl 1 rfl) ?_
      refine lv_iload_n hx hb dX8_hold_30 rfl (lv_at hl 2 rfl) ?_
      refine lv_iload_n hx hb dX8_hold_31 rfl (lv_at hl 3 rfl) ?_
      refine cx_goi (va_runV (As := [.ref aM_sheet, .int (0 : Int32), .int p1, .int p2, .int p3]) (rest := []) ⟨hx, hb, hml, hown, hts⟩ (c_X8_holdOf l D cI cJ cZ cO tS tT H.size aM_sheet aM aM_strength aM_kind aM_more aM_glues aM_sheet aM_since aM_imageStrength aM_imageKind aM_imageMore aM_imageGlues aM_imagePieces aM_imageWarmth aM_imageSheet aM_imageDraw aM_stepWhat aM_stepPiece aM_stepPlace aM_stepSince aM_tape aM_shapes aM_pile aM_met aM_next aM_inputs aM_then 256 M_sheet M_pieces M_warmth M_draw M_steps M_undoable M_brought M_taped M_shapeMany M_ended M_cut M_mostPieces M_walks M_walked M_strength M_kind M_more M_glues (0 : Int32) p1 p2 p3 _ hw) (cwV 5 hts gX8_hold_X8_holdOf rfl rfl rfl pv_X8_holdOf ⟨Nat.le_of_ble_eq_true rfl, Nat.le_of_ble_eq_true rfl⟩) (cx_preV (wc := w_X8_holdOf cI cJ cZ cO aM_sheet aM aM_strength aM_kind aM_more aM_glues aM_sheet aM_since aM_imageStrength aM_imageKind aM_imageMore aM_imageGlues aM_imagePieces aM_imageWarmth aM_imageSheet aM_imageDraw aM_stepWhat aM_stepPiece aM_stepPlace aM_stepSince aM_tape aM_shapes aM_pile aM_met aM_next aM_inputs aM_then 256 M_sheet M_pieces M_warmth M_draw M_steps M_undoable M_brought M_taped M_shapeMany M_ended M_cut M_mostPieces M_walks M_walked M_strength M_kind M_more M_glues) hE hK hP hD hS hA [5, 0, 1, 2, 3, 4] rfl rfl (va_recv hK hP (ci := 8) (q0 := 0) rfl rfl)) rfl rfl hl.1 rfl (lv_room (Nat.le_of_ble_eq_true rfl)) dX8_hold_32 ⟨Nat.le_of_ble_eq_true rfl, Nat.le_of_ble_eq_true rfl⟩) (fun (_ : Unit) => (w_X8_hold cI cJ cZ cO aM aM_strength aM_kind aM_more aM_glues aM_sheet aM_since aM_imageStrength aM_imageKind aM_imageMore aM_imageGlues aM_imagePieces aM_imageWarmth aM_imageSheet aM_imageDraw aM_stepWhat aM_stepPiece aM_stepPlace aM_stepSince aM_tape aM_shapes aM_pile aM_met aM_next aM_inputs aM_then M_pieces M_warmth M_draw M_steps M_undoable M_brought M_taped M_shapeMany M_ended M_cut M_mostPieces M_walks M_walked M_strength M_kind M_more M_glues M_sheet)) [5, 0, 1, 2, 3, 4] [] (ads := [aM_sheet, aM, aM_strength, aM_kind, aM_more, aM_glues]) (wr := []) rfl rfl (fun u => rfl) (fun u => rfl) rfl (fun u => rfl) rfl (fun u => rfl) rfl hP hD hS hA (fun r32 u H locs hw hP hD hS => ?_)
      have hP : va_P D vwCl (w_X8_hold cI cJ cZ cO aM aM_strength aM_kind aM_more aM_glues aM_sheet aM_since aM_imageStrength aM_imageKind aM_imageMore aM_imageGlues aM_imagePieces aM_imageWarmth aM_imageSheet aM_imageDraw aM_stepWhat aM_stepPiece aM_stepPlace aM_stepSince aM_tape aM_shapes aM_pile aM_met aM_next aM_inputs aM_then M_pieces M_warmth M_draw M_steps M_undoable M_brought M_taped M_shapeMany M_ended M_cut M_mostPieces M_walks M_walked M_strength M_kind M_more M_glues M_sheet) H := hP
      have hD : va_D A (w_X8_hold cI cJ cZ cO aM aM_strength aM_kind aM_more aM_glues aM_sheet aM_since aM_imageStrength aM_imageKind aM_imageMore aM_imageGlues aM_imagePieces aM_imageWarmth aM_imageSheet aM_imageDraw aM_stepWhat aM_stepPiece aM_stepPlace aM_stepSince aM_tape aM_shapes aM_pile aM_met aM_next aM_inputs aM_then M_pieces M_warmth M_draw M_steps M_undoable M_brought M_taped M_shapeMany M_ended M_cut M_mostPieces M_walks M_walked M_strength M_kind M_more M_glues M_sheet) := hD
      refine lv_goto (tgt := 39) hx hb dX8_hold_35 (by decide) ?_
      rw [hZ]
      exact cx_reti () hx hb hr hlocks hw hP hS dX8_hold_39
set_option maxRecDepth 100000 in
set_option maxHeartbeats 4000000 in
theorem c_X8_lay (l : Launch) (D : va_G) (cI cJ cZ cO : ClassId) (tS tT : Nat) (sz : Nat) (aA aM aM_strength aM_kind aM_more aM_glues aM_sheet aM_since aM_imageStrength aM_imageKind aM_imageMore aM_imageGlues aM_imagePieces aM_imageWarmth aM_imageSheet aM_imageDraw aM_stepWhat aM_stepPiece aM_stepPlace aM_stepSince aM_tape aM_shapes aM_pile aM_met aM_next aM_inputs aM_then : Nat) (nA : Nat) (arr : Nat → Int32) (M_pieces : Int32) (M_warmth : Int32) (M_draw : Int64) (M_steps : Int32) (M_undoable : Int32) (M_brought : Int32) (M_taped : Int32) (M_shapeMany : Int32) (M_ended : Int32) (M_cut : Int32) (M_mostPieces : Int32) (M_walks : Int32) (M_walked : Int32) (M_kind : Nat → Int32) (p2 : Int32) (p3 : Int32) (p4 : Int32) (Q : (Nat → Int32) → Prop) (hw : wp_X8_lay nA M_kind arr p2 p3 p4 Q) : Met l yX8_lay wsX8_lay rm_X8_lay (va_Pc [.ref aM, .ref aA, .int p2, .int p3, .int p4] (cx_B tS tT cI cJ cZ cO D sz (w_X8_lay cI cJ cZ cO aA aM aM_strength aM_kind aM_more aM_glues aM_sheet aM_since aM_imageStrength aM_imageKind aM_imageMore aM_imageGlues aM_imagePieces aM_imageWarmth aM_imageSheet aM_imageDraw aM_stepWhat aM_stepPiece aM_stepPlace aM_stepSince aM_tape aM_shapes aM_pile aM_met aM_next aM_inputs aM_then nA arr M_pieces M_warmth M_draw M_steps M_undoable M_brought M_taped M_shapeMany M_ended M_cut M_mostPieces M_walks M_walked M_kind))) (va_Qv (fun (u : (Nat → Int32)) => Q u) (fun (u : (Nat → Int32)) t => va_P D vwCl (w_X8_lay cI cJ cZ cO aA aM aM_strength aM_kind aM_more aM_glues aM_sheet aM_since aM_imageStrength aM_imageKind aM_imageMore aM_imageGlues aM_imagePieces aM_imageWarmth aM_imageSheet aM_imageDraw aM_stepWhat aM_stepPiece aM_stepPlace aM_stepSince aM_tape aM_shapes aM_pile aM_met aM_next aM_inputs aM_then nA u M_pieces M_warmth M_draw M_steps M_undoable M_brought M_taped M_shapeMany M_ended M_cut M_mostPieces M_walks M_walked M_kind) t.heap) (va_A (w_X8_lay cI cJ cZ cO aA aM aM_strength aM_kind aM_more aM_glues aM_sheet aM_since aM_imageStrength aM_imageKind aM_imageMore aM_imageGlues aM_imagePieces aM_imageWarmth aM_imageSheet aM_imageDraw aM_stepWhat aM_stepPiece aM_stepPlace aM_stepSince aM_tape aM_shapes aM_pile aM_met aM_next aM_inputs aM_then nA arr M_pieces M_warmth M_draw M_steps M_undoable M_brought M_taped M_shapeMany M_ended M_cut M_mostPieces M_walks M_walked M_kind) sz)) 0 0 (va_A (w_X8_lay cI cJ cZ cO aA aM aM_strength aM_kind aM_more aM_glues aM_sheet aM_since aM_imageStrength aM_imageKind aM_imageMore aM_imageGlues aM_imagePieces aM_imageWarmth aM_imageSheet aM_imageDraw aM_stepWhat aM_stepPiece aM_stepPlace aM_stepSince aM_tape aM_shapes aM_pile aM_met aM_next aM_inputs aM_then nA arr M_pieces M_warmth M_draw M_steps M_undoable M_brought M_taped M_shapeMany M_ended M_cut M_mostPieces M_walks M_walked M_kind) sz) := by
  refine cx_met (cc := cX8_lay) (maxL := 5) (ret := none) (Qc := fun A => va_Qv (fun (u : (Nat → Int32)) => Q u) (fun (u : (Nat → Int32)) t => va_P D vwCl (w_X8_lay cI cJ cZ cO aA aM aM_strength aM_kind aM_more aM_glues aM_sheet aM_since aM_imageStrength aM_imageKind aM_imageMore aM_imageGlues aM_imagePieces aM_imageWarmth aM_imageSheet aM_imageDraw aM_stepWhat aM_stepPiece aM_stepPlace aM_stepSince aM_tape aM_shapes aM_pile aM_met aM_next aM_inputs aM_then nA u M_pieces M_warmth M_draw M_steps M_undoable M_brought M_taped M_shapeMany M_ended M_cut M_mostPieces M_walks M_walked M_kind) t.heap) A) (lv := [(0, .ref aM), (1, .ref aA), (2, .int p2), (3, .int p3), (4, .int p4)]) (by decide) rfl (Nat.le_of_ble_eq_true rfl) rfl ?_
  intro p e s m args below meth c A Z hx hb hr hlocks hts hown hml hE hK hA hZ
  have hown : s.vm.findClass RX8 = some m.cls := hown
  have k_0 := hts (.fieldLink RX8 13 "GrowingTilesModel" "kind" "[I") (List.mem_of_getElem? (i := 1) (by decide +kernel))
  intro H locs hP hD hS ls hl
  unfold wp_X8_lay at hw
  refine lv_aload_n hx hb dX8_lay_0 rfl (lv_at hl 1 rfl) ?_
  refine lv_iload_n hx hb dX8_lay_1 rfl (lv_at hl 2 rfl) ?_
  refine lv_iload hx hb dX8_lay_2 (lv_at hl 4 rfl) ?_
  refine lv_iadd hx hb dX8_lay_4 ?_
  refine lv_iconst (v := (1 : Int32)) hx hb dX8_lay_5 kI_1 ?_
  refine lv_iconst (v := (2 : Int32)) hx hb dX8_lay_6 kI_2 ?_
  refine lv_iload_n hx hb dX8_lay_7 rfl (lv_at hl 3 rfl) ?_
  refine lv_imul hx hb dX8_lay_8 ?_
  refine lv_iadd hx hb dX8_lay_9 ?_
  have h10 := hw.1
  have hw := hw.2
  refine va_iast hx hb hK hP hD hS 0 0 rfl rfl h10 dX8_lay_10 (fun H locs hP hD hS => ?_)
  have hP : va_P D vwCl (w_X8_lay cI cJ cZ cO aA aM aM_strength aM_kind aM_more aM_glues aM_sheet aM_since aM_imageStrength aM_imageKind aM_imageMore aM_imageGlues aM_imagePieces aM_imageWarmth aM_imageSheet aM_imageDraw aM_stepWhat aM_stepPiece aM_stepPlace aM_stepSince aM_tape aM_shapes aM_pile aM_met aM_next aM_inputs aM_then nA (upd arr (p2 + p4).toNatClampNeg ((1 : Int32) + ((2 : Int32) * p3))) M_pieces M_warmth M_draw M_steps M_undoable M_brought M_taped M_shapeMany M_ended M_cut M_mostPieces M_walks M_walked M_kind) H := hP
  have hD : va_D A (w_X8_lay cI cJ cZ cO aA aM aM_strength aM_kind aM_more aM_glues aM_sheet aM_since aM_imageStrength aM_imageKind aM_imageMore aM_imageGlues aM_imagePieces aM_imageWarmth aM_imageSheet aM_imageDraw aM_stepWhat aM_stepPiece aM_stepPlace aM_stepSince aM_tape aM_shapes aM_pile aM_met aM_next aM_inputs aM_then nA (upd arr (p2 + p4).toNatClampNeg ((1 : Int32) + ((2 : Int32) * p3))) M_pieces M_warmth M_draw M_steps M_undoable M_brought M_taped M_shapeMany M_ended M_cut M_mostPieces M_walks M_walked M_kind) := hD
  obtain ⟨arr_10, e10⟩ : ∃ y : Nat → Int32, y = upd arr (p2 + p4).toNatClampNeg ((1 : Int32) + ((2 : Int32) * p3)) := ⟨_, rfl⟩
  rw [← e10] at hP hD
  have hw := hw arr_10 e10
  refine lv_aload_n hx hb dX8_lay_11 rfl (lv_at hl 0 rfl) ?_
  refine va_get (D := D) (ci := 8) (v := .ref aM_kind) (C := RX8) (T := TX8) (N := 38) hx hb hts in_X8_lay_X8 hown hK hP 1 rfl rfl 1 (by decide) k_0 (fun _ h9 => h9) rfl dX8_lay_12 ?_
  refine lv_iload_n hx hb dX8_lay_15 rfl (lv_at hl 3 rfl) ?_
  have h16 := hw.1
  have hw := hw.2
  refine va_iald hx hb hK hP 2 0 rfl rfl h16 dX8_lay_16 ?_
  refine lv_topi (fun v16 e16 => ?_)
  have hw := hw v16 e16
  refine lv_iconst (v := (2 : Int32)) hx hb dX8_lay_17 kI_2 ?_
  refine lv_icmp_ne (tgt := 34) hx hb dX8_lay_18 (by decide) (fun c18 => ?_) (fun c18 => ?_)
  · have hw := hw.1 c18
    rw [hZ]
    exact cx_retv arr_10 hx hb hr hlocks hw hP hS dX8_lay_34
  · have hw := hw.2 c18
    refine lv_aload_n hx hb dX8_lay_21 rfl (lv_at hl 1 rfl) ?_
    refine lv_iload_n hx hb dX8_lay_22 rfl (lv_at hl 2 rfl) ?_
    refine lv_iload hx hb dX8_lay_23 (lv_at hl 4 rfl) ?_
    refine lv_iadd hx hb dX8_lay_25 ?_
    refine lv_iconst (v := (1 : Int32)) hx hb dX8_lay_26 kI_1 ?_
    refine lv_iadd hx hb dX8_lay_27 ?_
    refine lv_iconst (v := (2 : Int32)) hx hb dX8_lay_28 kI_2 ?_
    refine lv_iconst (v := (2 : Int32)) hx hb dX8_lay_29 kI_2 ?_
    refine lv_iload_n hx hb dX8_lay_30 rfl (lv_at hl 3 rfl) ?_
    refine lv_imul hx hb dX8_lay_31 ?_
    refine lv_iadd hx hb dX8_lay_32 ?_
    have h33 := hw.1
    have hw := hw.2
    refine va_iast hx hb hK hP hD hS 0 0 rfl rfl h33 dX8_lay_33 (fun H locs hP hD hS => ?_)
    have hP : va_P D vwCl (w_X8_lay cI cJ cZ cO aA aM aM_strength aM_kind aM_more aM_glues aM_sheet aM_since aM_imageStrength aM_imageKind aM_imageMore aM_imageGlues aM_imagePieces aM_imageWarmth aM_imageSheet aM_imageDraw aM_stepWhat aM_stepPiece aM_stepPlace aM_stepSince aM_tape aM_shapes aM_pile aM_met aM_next aM_inputs aM_then nA (upd arr_10 ((p2 + p4) + (1 : Int32)).toNatClampNeg ((2 : Int32) + ((2 : Int32) * p3))) M_pieces M_warmth M_draw M_steps M_undoable M_brought M_taped M_shapeMany M_ended M_cut M_mostPieces M_walks M_walked M_kind) H := hP
    have hD : va_D A (w_X8_lay cI cJ cZ cO aA aM aM_strength aM_kind aM_more aM_glues aM_sheet aM_since aM_imageStrength aM_imageKind aM_imageMore aM_imageGlues aM_imagePieces aM_imageWarmth aM_imageSheet aM_imageDraw aM_stepWhat aM_stepPiece aM_stepPlace aM_stepSince aM_tape aM_shapes aM_pile aM_met aM_next aM_inputs aM_then nA (upd arr_10 ((p2 + p4) + (1 : Int32)).toNatClampNeg ((2 : Int32) + ((2 : Int32) * p3))) M_pieces M_warmth M_draw M_steps M_undoable M_brought M_taped M_shapeMany M_ended M_cut M_mostPieces M_walks M_walked M_kind) := hD
    obtain ⟨arr_33, e33⟩ : ∃ y : Nat → Int32, y = upd arr_10 ((p2 + p4) + (1 : Int32)).toNatClampNeg ((2 : Int32) + ((2 : Int32) * p3)) := ⟨_, rfl⟩
    rw [← e33] at hP hD
    have hw := hw arr_33 e33
    rw [hZ]
    exact cx_retv arr_33 hx hb hr hlocks hw hP hS dX8_lay_34
set_option maxRecDepth 100000 in
set_option maxHeartbeats 4000000 in
theorem c_X8_setSince (l : Launch) (D : va_G) (cI cJ cZ cO : ClassId) (tS tT : Nat) (sz : Nat) (aM aM_strength aM_kind aM_more aM_glues aM_sheet aM_since aM_imageStrength aM_imageKind aM_imageMore aM_imageGlues aM_imagePieces aM_imageWarmth aM_imageSheet aM_imageDraw aM_stepWhat aM_stepPiece aM_stepPlace aM_stepSince aM_tape aM_shapes aM_pile aM_met aM_next aM_inputs aM_then : Nat) (M_pieces : Int32) (M_warmth : Int32) (M_draw : Int64) (M_steps : Int32) (M_undoable : Int32) (M_brought : Int32) (M_taped : Int32) (M_shapeMany : Int32) (M_ended : Int32) (M_cut : Int32) (M_mostPieces : Int32) (M_walks : Int32) (M_walked : Int32) (M_kind : Nat → Int32) (M_since : Nat → Int32) (p1 : Int32) (p2 : Int32) (p3 : Int32) (Q : (Nat → Int32) → Prop) (hw : wp_X8_setSince M_kind M_since p1 p2 p3 Q) : Met l yX8_setSince wsX8_setSince rm_X8_setSince (va_Pc [.ref aM, .int p1, .int p2, .int p3] (cx_B tS tT cI cJ cZ cO D sz (w_X8_setSince cI cJ cZ cO aM aM_strength aM_kind aM_more aM_glues aM_sheet aM_since aM_imageStrength aM_imageKind aM_imageMore aM_imageGlues aM_imagePieces aM_imageWarmth aM_imageSheet aM_imageDraw aM_stepWhat aM_stepPiece aM_stepPlace aM_stepSince aM_tape aM_shapes aM_pile aM_met aM_next aM_inputs aM_then M_pieces M_warmth M_draw M_steps M_undoable M_brought M_taped M_shapeMany M_ended M_cut M_mostPieces M_walks M_walked M_kind M_since))) (va_Qv (fun (u : (Nat → Int32)) => Q u) (fun (u : (Nat → Int32)) t => va_P D vwCl (w_X8_setSince cI cJ cZ cO aM aM_strength aM_kind aM_more aM_glues aM_sheet aM_since aM_imageStrength aM_imageKind aM_imageMore aM_imageGlues aM_imagePieces aM_imageWarmth aM_imageSheet aM_imageDraw aM_stepWhat aM_stepPiece aM_stepPlace aM_stepSince aM_tape aM_shapes aM_pile aM_met aM_next aM_inputs aM_then M_pieces M_warmth M_draw M_steps M_undoable M_brought M_taped M_shapeMany M_ended M_cut M_mostPieces M_walks M_walked M_kind u) t.heap) (va_A (w_X8_setSince cI cJ cZ cO aM aM_strength aM_kind aM_more aM_glues aM_sheet aM_since aM_imageStrength aM_imageKind aM_imageMore aM_imageGlues aM_imagePieces aM_imageWarmth aM_imageSheet aM_imageDraw aM_stepWhat aM_stepPiece aM_stepPlace aM_stepSince aM_tape aM_shapes aM_pile aM_met aM_next aM_inputs aM_then M_pieces M_warmth M_draw M_steps M_undoable M_brought M_taped M_shapeMany M_ended M_cut M_mostPieces M_walks M_walked M_kind M_since) sz)) 0 0 (va_A (w_X8_setSince cI cJ cZ cO aM aM_strength aM_kind aM_more aM_glues aM_sheet aM_since aM_imageStrength aM_imageKind aM_imageMore aM_imageGlues aM_imagePieces aM_imageWarmth aM_imageSheet aM_imageDraw aM_stepWhat aM_stepPiece aM_stepPlace aM_stepSince aM_tape aM_shapes aM_pile aM_met aM_next aM_inputs aM_then M_pieces M_warmth M_draw M_steps M_undoable M_brought M_taped M_shapeMany M_ended M_cut M_mostPieces M_walks M_walked M_kind M_since) sz) := by
  refine cx_met (cc := cX8_setSince) (maxL := 4) (ret := none) (Qc := fun A => va_Qv (fun (u : (Nat → Int32)) => Q u) (fun (u : (Nat → Int32)) t => va_P D vwCl (w_X8_setSince cI cJ cZ cO aM aM_strength aM_kind aM_more aM_glues aM_sheet aM_since aM_imageStrength aM_imageKind aM_imageMore aM_imageGlues aM_imagePieces aM_imageWarmth aM_imageSheet aM_imageDraw aM_stepWhat aM_stepPiece aM_stepPlace aM_stepSince aM_tape aM_shapes aM_pile aM_met aM_next aM_inputs aM_then M_pieces M_warmth M_draw M_steps M_undoable M_brought M_taped M_shapeMany M_ended M_cut M_mostPieces M_walks M_walked M_kind u) t.heap) A) (lv := [(0, .ref aM), (1, .int p1), (2, .int p2), (3, .int p3)]) (by decide) rfl (Nat.le_of_ble_eq_true rfl) rfl ?_
  intro p e s m args below meth c A Z hx hb hr hlocks hts hown hml hE hK hA hZ
  have hown : s.vm.findClass RX8 = some m.cls := hown
  have k_0 := hts (.fieldLink RX8 29 "GrowingTilesModel" "since" "[I") (List.mem_of_getElem? (i := 1) (by decide +kernel))
  have k_1 := hts (.fieldLink RX8 13 "GrowingTilesModel" "kind" "[I") (List.mem_of_getElem? (i := 2) (by decide +kernel))
  intro H locs hP hD hS ls hl
  unfold wp_X8_setSince at hw
  refine lv_aload_n hx hb dX8_setSince_0 rfl (lv_at hl 0 rfl) ?_
  refine va_get (D := D) (ci := 8) (v := .ref aM_since) (C := RX8) (T := TX8) (N := 38) hx hb hts in_X8_setSince_X8 hown hK hP 0 rfl rfl 8 (by decide) k_0 (fun _ h9 => h9) rfl dX8_setSince_1 ?_
  refine lv_iload_n hx hb dX8_setSince_4 rfl (lv_at hl 2 rfl) ?_
  refine lv_iload_n hx hb dX8_setSince_5 rfl (lv_at hl 3 rfl) ?_
  have h6 := hw.1
  have hw := hw.2
  refine va_iast hx hb hK hP hD hS 2 0 rfl rfl h6 dX8_setSince_6 (fun H locs hP hD hS => ?_)
  have hP : va_P D vwCl (w_X8_setSince cI cJ cZ cO aM aM_strength aM_kind aM_more aM_glues aM_sheet aM_since aM_imageStrength aM_imageKind aM_imageMore aM_imageGlues aM_imagePieces aM_imageWarmth aM_imageSheet aM_imageDraw aM_stepWhat aM_stepPiece aM_stepPlace aM_stepSince aM_tape aM_shapes aM_pile aM_met aM_next aM_inputs aM_then M_pieces M_warmth M_draw M_steps M_undoable M_brought M_taped M_shapeMany M_ended M_cut M_mostPieces M_walks M_walked M_kind (upd M_since p2.toNatClampNeg p3)) H := hP
  have hD : va_D A (w_X8_setSince cI cJ cZ cO aM aM_strength aM_kind aM_more aM_glues aM_sheet aM_since aM_imageStrength aM_imageKind aM_imageMore aM_imageGlues aM_imagePieces aM_imageWarmth aM_imageSheet aM_imageDraw aM_stepWhat aM_stepPiece aM_stepPlace aM_stepSince aM_tape aM_shapes aM_pile aM_met aM_next aM_inputs aM_then M_pieces M_warmth M_draw M_steps M_undoable M_brought M_taped M_shapeMany M_ended M_cut M_mostPieces M_walks M_walked M_kind (upd M_since p2.toNatClampNeg p3)) := hD
  obtain ⟨M_since_6, e6⟩ : ∃ y : Nat → Int32, y = upd M_since p2.toNatClampNeg p3 := ⟨_, rfl⟩
  rw [← e6] at hP hD
  have hw := hw M_since_6 e6
  refine lv_aload_n hx hb dX8_setSince_7 rfl (lv_at hl 0 rfl) ?_
  refine va_get (D := D) (ci := 8) (v := .ref aM_kind) (C := RX8) (T := TX8) (N := 38) hx hb hts in_X8_setSince_X8 hown hK hP 0 rfl rfl 1 (by decide) k_1 (fun _ h9 => h9) rfl dX8_setSince_8 ?_
  refine lv_iload_n hx hb dX8_setSince_11 rfl (lv_at hl 1 rfl) ?_
  have h12 := hw.1
  have hw := hw.2
  refine va_iald hx hb hK hP 1 0 rfl rfl h12 dX8_setSince_12 ?_
  refine lv_topi (fun v12 e12 => ?_)
  have hw := hw v12 e12
  refine lv_iconst (v := (2 : Int32)) hx hb dX8_setSince_13 kI_2 ?_
  refine lv_icmp_ne (tgt := 26) hx hb dX8_setSince_14 (by decide) (fun c14 => ?_) (fun c14 => ?_)
  · have hw := hw.1 c14
    rw [hZ]
    exact cx_retv M_since_6 hx hb hr hlocks hw hP hS dX8_setSince_26
  · have hw := hw.2 c14
    refine lv_aload_n hx hb dX8_setSince_17 rfl (lv_at hl 0 rfl) ?_
    refine va_get (D := D) (ci := 8) (v := .ref aM_since) (C := RX8) (T := TX8) (N := 38) hx hb hts in_X8_setSince_X8 hown hK hP 0 rfl rfl 8 (by decide) k_0 (fun _ h9 => h9) rfl dX8_setSince_18 ?_
    refine lv_iload_n hx hb dX8_setSince_21 rfl (lv_at hl 2 rfl) ?_
    refine lv_iconst (v := (1 : Int32)) hx hb dX8_setSince_22 kI_1 ?_
    refine lv_iadd hx hb dX8_setSince_23 ?_
    refine lv_iload_n hx hb dX8_setSince_24 rfl (lv_at hl 3 rfl) ?_
    have h25 := hw.1
    have hw := hw.2
    refine va_iast hx hb hK hP hD hS 2 0 rfl rfl h25 dX8_setSince_25 (fun H locs hP hD hS => ?_)
    have hP : va_P D vwCl (w_X8_setSince cI cJ cZ cO aM aM_strength aM_kind aM_more aM_glues aM_sheet aM_since aM_imageStrength aM_imageKind aM_imageMore aM_imageGlues aM_imagePieces aM_imageWarmth aM_imageSheet aM_imageDraw aM_stepWhat aM_stepPiece aM_stepPlace aM_stepSince aM_tape aM_shapes aM_pile aM_met aM_next aM_inputs aM_then M_pieces M_warmth M_draw M_steps M_undoable M_brought M_taped M_shapeMany M_ended M_cut M_mostPieces M_walks M_walked M_kind (upd M_since_6 (p2 + (1 : Int32)).toNatClampNeg p3)) H := hP
    have hD : va_D A (w_X8_setSince cI cJ cZ cO aM aM_strength aM_kind aM_more aM_glues aM_sheet aM_since aM_imageStrength aM_imageKind aM_imageMore aM_imageGlues aM_imagePieces aM_imageWarmth aM_imageSheet aM_imageDraw aM_stepWhat aM_stepPiece aM_stepPlace aM_stepSince aM_tape aM_shapes aM_pile aM_met aM_next aM_inputs aM_then M_pieces M_warmth M_draw M_steps M_undoable M_brought M_taped M_shapeMany M_ended M_cut M_mostPieces M_walks M_walked M_kind (upd M_since_6 (p2 + (1 : Int32)).toNatClampNeg p3)) := hD
    obtain ⟨M_since_25, e25⟩ : ∃ y : Nat → Int32, y = upd M_since_6 (p2 + (1 : Int32)).toNatClampNeg p3 := ⟨_, rfl⟩
    rw [← e25] at hP hD
    have hw := hw M_since_25 e25
    rw [hZ]
    exact cx_retv M_since_25 hx hb hr hlocks hw hP hS dX8_setSince_26
