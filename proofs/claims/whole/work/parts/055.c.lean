set_option maxRecDepth 100000 in
set_option maxHeartbeats 4000000 in
theorem c_X8_draw (l : Launch) (D : va_G) (cI cJ cZ cO : ClassId) (tS tT : Nat) (sz : Nat) (aM aM_strength aM_kind aM_more aM_glues aM_sheet aM_since aM_imageStrength aM_imageKind aM_imageMore aM_imageGlues aM_imagePieces aM_imageWarmth aM_imageSheet aM_imageDraw aM_stepWhat aM_stepPiece aM_stepPlace aM_stepSince aM_tape aM_shapes aM_pile aM_met aM_next aM_inputs aM_then : Nat) (M_pieces : Int32) (M_warmth : Int32) (M_draw : Int64) (M_steps : Int32) (M_undoable : Int32) (M_brought : Int32) (M_taped : Int32) (M_shapeMany : Int32) (M_ended : Int32) (M_cut : Int32) (M_mostPieces : Int32) (M_walks : Int32) (M_walked : Int32) (p1 : Int64) (Q : (Int64) → Prop) (hw : wp_X8_draw M_draw p1 Q) : Met l yX8_draw wsX8_draw rm_X8_draw (va_Pc [.ref aM, .long p1] (cx_B tS tT cI cJ cZ cO D sz (w_X8_draw cI cJ cZ cO aM aM_strength aM_kind aM_more aM_glues aM_sheet aM_since aM_imageStrength aM_imageKind aM_imageMore aM_imageGlues aM_imagePieces aM_imageWarmth aM_imageSheet aM_imageDraw aM_stepWhat aM_stepPiece aM_stepPlace aM_stepSince aM_tape aM_shapes aM_pile aM_met aM_next aM_inputs aM_then M_pieces M_warmth M_draw M_steps M_undoable M_brought M_taped M_shapeMany M_ended M_cut M_mostPieces M_walks M_walked))) (va_Qv (fun (u : (Int64)) => Q u) (fun (u : (Int64)) t => va_P D vwCl (w_X8_draw cI cJ cZ cO aM aM_strength aM_kind aM_more aM_glues aM_sheet aM_since aM_imageStrength aM_imageKind aM_imageMore aM_imageGlues aM_imagePieces aM_imageWarmth aM_imageSheet aM_imageDraw aM_stepWhat aM_stepPiece aM_stepPlace aM_stepSince aM_tape aM_shapes aM_pile aM_met aM_next aM_inputs aM_then M_pieces M_warmth u M_steps M_undoable M_brought M_taped M_shapeMany M_ended M_cut M_mostPieces M_walks M_walked) t.heap) (va_A (w_X8_draw cI cJ cZ cO aM aM_strength aM_kind aM_more aM_glues aM_sheet aM_since aM_imageStrength aM_imageKind aM_imageMore aM_imageGlues aM_imagePieces aM_imageWarmth aM_imageSheet aM_imageDraw aM_stepWhat aM_stepPiece aM_stepPlace aM_stepSince aM_tape aM_shapes aM_pile aM_met aM_next aM_inputs aM_then M_pieces M_warmth M_draw M_steps M_undoable M_brought M_taped M_shapeMany M_ended M_cut M_mostPieces M_walks M_walked) sz)) 0 0 (va_A (w_X8_draw cI cJ cZ cO aM aM_strength aM_kind aM_more aM_glues aM_sheet aM_since aM_imageStrength aM_imageKind aM_imageMore aM_imageGlues aM_imagePieces aM_imageWarmth aM_imageSheet aM_imageDraw aM_stepWhat aM_stepPiece aM_stepPlace aM_stepSince aM_tape aM_shapes aM_pile aM_met aM_next aM_inputs aM_then M_pieces M_warmth M_draw M_steps M_undoable M_brought M_taped M_shapeMany M_ended M_cut M_mostPieces M_walks M_walked) sz) := by
  refine cx_met (cc := cX8_draw) (maxL := 3) (ret := none) (Qc := fun A => va_Qv (fun (u : (Int64)) => Q u) (fun (u : (Int64)) t => va_P D vwCl (w_X8_draw cI cJ cZ cO aM aM_strength aM_kind aM_more aM_glues aM_sheet aM_since aM_imageStrength aM_imageKind aM_imageMore aM_imageGlues aM_imagePieces aM_imageWarmth aM_imageSheet aM_imageDraw aM_stepWhat aM_stepPiece aM_stepPlace aM_stepSince aM_tape aM_shapes aM_pile aM_met aM_next aM_inputs aM_then M_pieces M_warmth u M_steps M_undoable M_brought M_taped M_shapeMany M_ended M_cut M_mostPieces M_walks M_walked) t.heap) A) (lv := [(0, .ref aM), (1, .long p1)]) (by decide) rfl (Nat.le_of_ble_eq_true rfl) rfl ?_
  intro p e s m args below meth c A Z hx hb hr hlocks hts hown hml hE hK hA hZ
  have hown : s.vm.findClass RX8 = some m.cls := hown
  have k_0 := hts (.fieldLink RX8 198 "GrowingTilesModel" "draw" "J") (List.mem_of_getElem? (i := 1) (by decide +kernel))
  intro H locs hP hD hS ls hl
  unfold wp_X8_draw at hw
  refine lv_aload_n hx hb dX8_draw_0 rfl (lv_at hl 0 rfl) ?_
  refine lv_lload_n hx hb dX8_draw_1 rfl (lv_at hl 1 rfl) ?_
  refine va_put (D := D) (ci := 8) (v := .long p1) (ty := .long) (C := RX8) (T := TX8) (N := 38) hx hb hts in_X8_draw_X8 tyX8 tyX8_ok nmX8 hown hK hP hD hS 0 rfl rfl 6 (by decide) k_0 (fun _ h9 => h9) rfl (tyX8_ok 6 (by decide)) rfl rfl (Nat.le_of_ble_eq_true rfl) dX8_draw_2 (fun H locs hP hD hS => ?_)
  have hP : va_P D vwCl (w_X8_draw cI cJ cZ cO aM aM_strength aM_kind aM_more aM_glues aM_sheet aM_since aM_imageStrength aM_imageKind aM_imageMore aM_imageGlues aM_imagePieces aM_imageWarmth aM_imageSheet aM_imageDraw aM_stepWhat aM_stepPiece aM_stepPlace aM_stepSince aM_tape aM_shapes aM_pile aM_met aM_next aM_inputs aM_then M_pieces M_warmth p1 M_steps M_undoable M_brought M_taped M_shapeMany M_ended M_cut M_mostPieces M_walks M_walked) H := hP
  have hD : va_D A (w_X8_draw cI cJ cZ cO aM aM_strength aM_kind aM_more aM_glues aM_sheet aM_since aM_imageStrength aM_imageKind aM_imageMore aM_imageGlues aM_imagePieces aM_imageWarmth aM_imageSheet aM_imageDraw aM_stepWhat aM_stepPiece aM_stepPlace aM_stepSince aM_tape aM_shapes aM_pile aM_met aM_next aM_inputs aM_then M_pieces M_warmth p1 M_steps M_undoable M_brought M_taped M_shapeMany M_ended M_cut M_mostPieces M_walks M_walked) := hD
  rw [hZ]
  exact cx_retv p1 hx hb hr hlocks hw hP hS dX8_draw_5
set_option maxRecDepth 100000 in
set_option maxHeartbeats 4000000 in
theorem c_X8_grow (l : Launch) (D : va_G) (cI cJ cZ cO : ClassId) (tS tT : Nat) (sz : Nat) (aM aM_strength aM_kind aM_more aM_glues aM_sheet aM_since aM_imageStrength aM_imageKind aM_imageMore aM_imageGlues aM_imagePieces aM_imageWarmth aM_imageSheet aM_imageDraw aM_stepWhat aM_stepPiece aM_stepPlace aM_stepSince aM_tape aM_shapes aM_pile aM_met aM_next aM_inputs aM_then : Nat) (M_pieces : Int32) (M_warmth : Int32) (M_draw : Int64) (M_steps : Int32) (M_undoable : Int32) (M_brought : Int32) (M_taped : Int32) (M_shapeMany : Int32) (M_ended : Int32) (M_cut : Int32) (M_mostPieces : Int32) (M_walks : Int32) (M_walked : Int32) (M_strength : Nat → Int32) (M_kind : Nat → Int32) (M_more : Nat → Int32) (M_glues : Nat → Int32) (M_sheet : Nat → Int32) (M_since : Nat → Int32) (M_stepWhat : Nat → Int32) (M_stepPiece : Nat → Int32) (M_stepPlace : Nat → Int32) (M_stepSince : Nat → Int32) (p1 : Int32) (Q : Int32 → (Int64) → (Nat → Int32) → (Nat → Int32) → (Nat → Int32) → (Nat → Int32) → (Nat → Int32) → (Nat → Int32) → (Int32) → (Int32) → Prop) (hw : wp_X8_grow M_strength M_kind M_more M_glues M_pieces M_warmth M_draw M_sheet M_since M_stepWhat M_stepPiece M_stepPlace M_stepSince M_steps M_undoable p1 Q) : Met l yX8_grow wsX8_grow rm_X8_grow (va_Pc [.ref aM, .int p1] (cx_B tS tT cI cJ cZ cO D sz (w_X8_grow cI cJ cZ cO aM aM_strength aM_kind aM_more aM_glues aM_sheet aM_since aM_imageStrength aM_imageKind aM_imageMore aM_imageGlues aM_imagePieces aM_imageWarmth aM_imageSheet aM_imageDraw aM_stepWhat aM_stepPiece aM_stepPlace aM_stepSince aM_tape aM_shapes aM_pile aM_met aM_next aM_inputs aM_then M_pieces M_warmth M_draw M_steps M_undoable M_brought M_taped M_shapeMany M_ended M_cut M_mostPieces M_walks M_walked M_strength M_kind M_more M_glues M_sheet M_since M_stepWhat M_stepPiece M_stepPlace M_stepSince))) (va_Qi (fun (r : Int32) (u : (Int64) × (Nat → Int32) × (Nat → Int32) × (Nat → Int32) × (Nat → Int32) × (Nat → Int32) × (Nat → Int32) × (Int32) × (Int32)) => Q r u.1 u.2.1 u.2.2.1 u.2.2.2.1 u.2.2.2.2.1 u.2.2.2.2.2.1 u.2.2.2.2.2.2.1 u.2.2.2.2.2.2.2.1 u.2.2.2.2.2.2.2.2) (fun (u : (Int64) × (Nat → Int32) × (Nat → Int32) × (Nat → Int32) × (Nat → Int32) × (Nat → Int32) × (Nat → Int32) × (Int32) × (Int32)) t => va_P D vwCl (w_X8_grow cI cJ cZ cO aM aM_strength aM_kind aM_more aM_glues aM_sheet aM_since aM_imageStrength aM_imageKind aM_imageMore aM_imageGlues aM_imagePieces aM_imageWarmth aM_imageSheet aM_imageDraw aM_stepWhat aM_stepPiece aM_stepPlace aM_stepSince aM_tape aM_shapes aM_pile aM_met aM_next aM_inputs aM_then M_pieces M_warmth u.1 u.2.2.2.2.2.2.2.1 u.2.2.2.2.2.2.2.2 M_brought M_taped M_shapeMany M_ended M_cut M_mostPieces M_walks M_walked M_strength M_kind M_more M_glues u.2.1 u.2.2.1 u.2.2.2.1 u.2.2.2.2.1 u.2.2.2.2.2.1 u.2.2.2.2.2.2.1) t.heap) (va_A (w_X8_grow cI cJ cZ cO aM aM_strength aM_kind aM_more aM_glues aM_sheet aM_since aM_imageStrength aM_imageKind aM_imageMore aM_imageGlues aM_imagePieces aM_imageWarmth aM_imageSheet aM_imageDraw aM_stepWhat aM_stepPiece aM_stepPlace aM_stepSince aM_tape aM_shapes aM_pile aM_met aM_next aM_inputs aM_then M_pieces M_warmth M_draw M_steps M_undoable M_brought M_taped M_shapeMany M_ended M_cut M_mostPieces M_walks M_walked M_strength M_kind M_more M_glues M_sheet M_since M_stepWhat M_stepPiece M_stepPlace M_stepSince) sz)) 0 0 (va_A (w_X8_grow cI cJ cZ cO aM aM_strength aM_kind aM_more aM_glues aM_sheet aM_since aM_imageStrength aM_imageKind aM_imageMore aM_imageGlues aM_imagePieces aM_imageWarmth aM_imageSheet aM_imageDraw aM_stepWhat aM_stepPiece aM_stepPlace aM_stepSince aM_tape aM_shapes aM_pile aM_met aM_next aM_inputs aM_then M_pieces M_warmth M_draw M_steps M_undoable M_brought M_taped M_shapeMany M_ended M_cut M_mostPieces M_walks M_walked M_strength M_kind M_more M_glues M_sheet M_since M_stepWhat M_stepPiece M_stepPlace M_stepSince) sz) := by
  refine cx_met (cc := cX8_grow) (maxL := 5) (ret := (some .int)) (Qc := fun A => va_Qi (fun (r : Int32) (u : (Int64) × (Nat → Int32) × (Nat → Int32) × (Nat → Int32) × (Nat → Int32) × (Nat → Int32) × (Nat → Int32) × (Int32) × (Int32)) => Q r u.1 u.2.1 u.2.2.1 u.2.2.2.1 u.2.2.2.2.1 u.2.2.2.2.2.1 u.2.2.2.2.2.2.1 u.2.2.2.2.2.2.2.1 u.2.2.2.2.2.2.2.2) (fun (u : (Int64) × (Nat → Int32) × (Nat → Int32) × (Nat → Int32) × (Nat → Int32) × (Nat → Int32) × (Nat → Int32) × (Int32) × (Int32)) t => va_P D vwCl (w_X8_grow cI cJ cZ cO aM aM_strength aM_kind aM_more aM_glues aM_sheet aM_since aM_imageStrength aM_imageKind aM_imageMore aM_imageGlues aM_imagePieces aM_imageWarmth aM_imageSheet aM_imageDraw aM_stepWhat aM_stepPiece aM_stepPlace aM_stepSince aM_tape aM_shapes aM_pile aM_met aM_next aM_inputs aM_then M_pieces M_warmth u.1 u.2.2.2.2.2.2.2.1 u.2.2.2.2.2.2.2.2 M_brought M_taped M_shapeMany M_ended M_cut M_mostPieces M_walks M_walked M_strength M_kind M_more M_glues u.2.1 u.2.2.1 u.2.2.2.1 u.2.2.2.2.1 u.2.2.2.2.2.1 u.2.2.2.2.2.2.1) t.heap) A) (lv := [(0, .ref aM), (1, .int p1)]) (by decide) rfl (Nat.le_of_ble_eq_true rfl) rfl ?_
  intro p e s m args below meth c A Z hx hb hr hlocks hts hown hml hE hK hA hZ
  have hown : s.vm.findClass RX8 = some m.cls := hown
  have k_0 := hts (.fieldLink RX8 198 "GrowingTilesModel" "draw" "J") (List.mem_of_getElem? (i := 1) (by decide +kernel))
  have k_1 := hts (.constantLong RX8 206 (6364136223846793005 : Int64)) (List.mem_of_getElem? (i := 2) (by decide +kernel))
  have k_2 := hts (.constantLong RX8 208 (1442695040888963407 : Int64)) (List.mem_of_getElem? (i := 3) (by decide +kernel))
  have b_20 : ∀ n_20 : Nat, ∀ (M_draw : Int64) (M_sheet : Nat → Int32) (M_since : Nat → Int32) (M_stepWhat : Nat → Int32) (M_stepPiece : Nat → Int32) (M_stepPlace : Nat → Int32) (M_stepSince : Nat → Int32) (M_steps : Int32) (M_undoable : Int32) (x1 : Int32) (x2 : Int32) (x3 : Int32), wq_X8_grow_20 M_strength M_kind M_more M_glues M_pieces M_warmth Q n_20 M_draw M_sheet M_since M_stepWhat M_stepPiece M_stepPlace M_stepSince M_steps M_undoable x1 x2 x3 → ∀ (H : Heap) (locs : List Loc), va_P D vwCl (w_X8_grow cI cJ cZ cO aM aM_strength aM_kind aM_more aM_glues aM_sheet aM_since aM_imageStrength aM_imageKind aM_imageMore aM_imageGlues aM_imagePieces aM_imageWarmth aM_imageSheet aM_imageDraw aM_stepWhat aM_stepPiece aM_stepPlace aM_stepSince aM_tape aM_shapes aM_pile aM_met aM_next aM_inputs aM_then M_pieces M_warmth M_draw M_steps M_undoable M_brought M_taped M_shapeMany M_ended M_cut M_mostPieces M_walks M_walked M_strength M_kind M_more M_glues M_sheet M_since M_stepWhat M_stepPiece M_stepPlace M_stepSince) H → va_D A (w_X8_grow cI cJ cZ cO aM aM_strength aM_kind aM_more aM_glues aM_sheet aM_since aM_imageStrength aM_imageKind aM_imageMore aM_imageGlues aM_imagePieces aM_imageWarmth aM_imageSheet aM_imageDraw aM_stepWhat aM_stepPiece aM_stepPlace aM_stepSince aM_tape aM_shapes aM_pile aM_met aM_next aM_inputs aM_then M_pieces M_warmth M_draw M_steps M_undoable M_brought M_taped M_shapeMany M_ended M_cut M_mostPieces M_walks M_walked M_strength M_kind M_more M_glues M_sheet M_since M_stepWhat M_stepPiece M_stepPlace M_stepSince) → va_S A s.heap H locs → ∀ ls : Array Slot, lv_has ls 5 [(0, .ref aM), (1, .int x1), (2, .int x2), (3, .int x3)] → W p l e rm_X8_grow s m args below meth c H locs 0 0 Z (F0 m 20 ls []) := by
    intro n_20
    induction n_20 with
    | zero => intro M_draw M_sheet M_since M_stepWhat M_stepPiece M_stepPlace M_stepSince M_steps M_undoable x1 x2 x3 hw; exact False.elim hw
    | succ n_20 ih_20 =>
      intro M_draw M_sheet M_since M_stepWhat M_stepPiece M_stepPlace M_stepSince M_steps M_undoable x1 x2 x3 hw H locs hP hD hS ls hl
      have hw : wf_X8_grow_20 M_strength M_kind M_more M_glues M_pieces M_warmth Q (wq_X8_grow_20 M_strength M_kind M_more M_glues M_pieces M_warmth Q n_20) M_draw M_sheet M_since M_stepWhat M_stepPiece M_stepPlace M_stepSince M_steps M_undoable x1 x2 x3 := hw
      unfold wf_X8_grow_20 at hw
      refine lv_iload_n hx hb dX8_grow_20 rfl (lv_at hl 2 rfl) ?_
      refine lv_iload_n hx hb dX8_grow_21 rfl (lv_at hl 1 rfl) ?_
      refine lv_icmp_ge (tgt := 99) hx hb dX8_grow_22 (by decide) (fun c22 => ?_) (fun c22 => ?_)
      · have hw := hw.1 c22
        refine lv_iload_n hx hb dX8_grow_99 rfl (lv_at hl 2 rfl) ?_
        rw [hZ]
        exact cx_reti (M_draw, M_sheet, M_since, M_stepWhat, M_stepPiece, M_stepPlace, M_stepSince, M_steps, M_undoable) hx hb hr hlocks hw hP hS dX8_grow_100
      · have hw := hw.2 c22
        refine lv_iload_n hx hb dX8_grow_25 rfl (lv_at hl 3 rfl) ?_
        refine lv_if_le (tgt := 99) hx hb dX8_grow_26 (by decide) (fun c26 => ?_) (fun c26 => ?_)
        · have hw := hw.1 c26
          refine lv_iload_n hx hb dX8_grow_99 rfl (lv_at hl 2 rfl) ?_
          rw [hZ]
          exact cx_reti (M_draw, M_sheet, M_since, M_stepWhat, M_stepPiece, M_stepPlace, M_stepSince, M_steps, M_undoable) hx hb hr hlocks hw hP hS dX8_grow_100
        · have hw := hw.2 c26
          refine lv_aload_n hx hb dX8_grow_29 rfl (lv_at hl 0 rfl) ?_
          refine lv_aload_n hx hb dX8_grow_30 rfl (lv_at hl 0 rfl) ?_
          refine va_get (D := D) (ci := 8) (v := .long M_draw) (C := RX8) (T := TX8) (N := 38) hx hb hts in_X8_grow_X8 hown hK hP 0 rfl rfl 6 (by decide) k_0 (fun _ h9 => h9) rfl dX8_grow_31 ?_
          refine lv_ldc2 hx hb hown k_1 dX8_grow_34 ?_
          refine lv_lmul hx hb dX8_grow_37 ?_
          refine lv_ldc2 hx hb hown k_2 dX8_grow_38 ?_
          refine lv_ladd hx hb dX8_grow_41 ?_
          refine lv_topl (fun M_draw_42 e42 => ?_)
          have hw := hw M_draw_42 e42
          refine va_put (D := D) (ci := 8) (v := .long M_draw_42) (ty := .long) (C := RX8) (T := TX8) (N := 38) hx hb hts in_X8_grow_X8 tyX8 tyX8_ok nmX8 hown hK hP hD hS 0 rfl rfl 6 (by decide) k_0 (fun _ h9 => h9) rfl (tyX8_ok 6 (by decide)) rfl rfl (Nat.le_of_ble_eq_true rfl) dX8_grow_42 (fun H locs hP hD hS => ?_)
          have hP : va_P D vwCl (w_X8_grow cI cJ cZ cO aM aM_strength aM_kind aM_more aM_glues aM_sheet aM_since aM_imageStrength aM_imageKind aM_imageMore aM_imageGlues aM_imagePieces aM_imageWarmth aM_imageSheet aM_imageDraw aM_stepWhat aM_stepPiece aM_stepPlace aM_stepSince aM_tape aM_shapes aM_pile aM_met aM_next aM_inputs aM_then M_pieces M_warmth M_draw_42 M_steps M_undoable M_brought M_taped M_shapeMany M_ended M_cut M_mostPieces M_walks M_walked M_strength M_kind M_more M_glues M_sheet M_since M_stepWhat M_stepPiece M_stepPlace M_stepSince) H := hP
          have hD : va_D A (w_X8_grow cI cJ cZ cO aM aM_strength aM_kind aM_more aM_glues aM_sheet aM_since aM_imageStrength aM_imageKind aM_imageMore aM_imageGlues aM_imagePieces aM_imageWarmth aM_imageSheet aM_imageDraw aM_stepWhat aM_stepPiece aM_stepPlace aM_stepSince aM_tape aM_shapes aM_pile aM_met aM_next aM_inputs aM_then M_pieces M_warmth M_draw_42 M_steps M_undoable M_brought M_taped M_shapeMany M_ended M_cut M_mostPieces M_walks M_walked M_strength M_kind M_more M_glues M_sheet M_since M_stepWhat M_stepPiece M_stepPlace M_stepSince) := hD
          refine lv_aload_n hx hb dX8_grow_45 rfl (lv_at hl 0 rfl) ?_
          refine lv_aload_n hx hb dX8_grow_46 rfl (lv_at hl 0 rfl) ?_
          refine va_get (D := D) (ci := 8) (v := .long M_draw_42) (C := RX8) (T := TX8) (N := 38) hx hb hts in_X8_grow_X8 hown hK hP 0 rfl rfl 6 (by decide) k_0 (fun _ h9 => h9) rfl dX8_grow_47 ?_
          refine lv_bipush (v := (33 : Int32)) hx hb dX8_grow_50 kB_33 ?_
          refine lv_lushr hx hb dX8_grow_52 rfl ?_
          refine lv_iload_n hx hb dX8_grow_53 rfl (lv_at hl 3 rfl) ?_
          refine lv_i2l hx hb dX8_grow_54 rfl ?_
          have h55 := hw.1
          have hw := hw.2
          refine lv_lrem hx hb dX8_grow_55 h55 ?_
          refine lv_l2i hx hb dX8_grow_56 rfl ?_
          refine cx_goi (va_runV (As := [.int ((((M_draw_42.toUInt64 >>> ((33 : Int32).toInt64.toUInt64 &&& Int64.toUInt64 63)).toInt64) - ((M_draw_42.toUInt64 >>> ((33 : Int32).toInt64.toUInt64 &&& Int64.toUInt64 63)).toInt64) / x3.toInt64 * x3.toInt64).toInt32)]) (rest := []) ⟨hx, hb, hml, hown, hts⟩ (c_X8_choiceAt l D cI cJ cZ cO tS tT H.size aM aM_strength aM_kind aM_more aM_glues aM_sheet aM_since aM_imageStrength aM_imageKind aM_imageMore aM_imageGlues aM_imagePieces aM_imageWarmth aM_imageSheet aM_imageDraw aM_stepWhat aM_stepPiece aM_stepPlace aM_stepSince aM_tape aM_shapes aM_pile aM_met aM_next aM_inputs aM_then M_pieces M_warmth M_draw_42 M_steps M_undoable M_brought M_taped M_shapeMany M_ended M_cut M_mostPieces M_walks M_walked M_strength M_kind M_more M_glues M_sheet ((((M_draw_42.toUInt64 >>> ((33 : Int32).toInt64.toUInt64 &&& Int64.toUInt64 63)).toInt64) - ((M_draw_42.toUInt64 >>> ((33 : Int32).toInt64.toUInt64 &&& Int64.toUInt64 63)).toInt64) / x3.toInt64 * x3.toInt64).toInt32) _ hw) (cwV 1 hts gX8_grow_X8_choiceAt rfl rfl rfl pv_X8_choiceAt ⟨Nat.le_of_ble_eq_true rfl, Nat.le_of_ble_eq_true rfl⟩) (cx_preV (wc := w_X8_choiceAt cI cJ cZ cO aM aM_strength aM_kind aM_more aM_glues aM_sheet aM_since aM_imageStrength aM_imageKind aM_imageMore aM_imageGlues aM_imagePieces aM_imageWarmth aM_imageSheet aM_imageDraw aM_stepWhat aM_stepPiece aM_stepPlace aM_stepSince aM_tape aM_shapes aM_pile aM_met aM_next aM_inputs aM_then M_pieces M_warmth M_draw_42 M_steps M_undoable M_brought M_taped M_shapeMany M_ended M_cut M_mostPieces M_walks M_walked M_strength M_kind M_more M_glues M_sheet) hE hK hP hD hS hA [0, 1, 2, 3, 4, 5] rfl rfl (va_recv hK hP (ci := 8) (q0 := 0) rfl rfl)) rfl rfl hl.1 rfl (lv_room (Nat.le_of_ble_eq_true rfl)) dX8_grow_57 ⟨Nat.le_of_ble_eq_true rfl, Nat.le_of_ble_eq_true rfl⟩) (fun (_ : Unit) => (w_X8_grow cI cJ cZ cO aM aM_strength aM_kind aM_more aM_glues aM_sheet aM_since aM_imageStrength aM_imageKind aM_imageMore aM_imageGlues aM_imagePieces aM_imageWarmth aM_imageSheet aM_imageDraw aM_stepWhat aM_stepPiece aM_stepPlace aM_stepSince aM_tape aM_shapes aM_pile aM_met aM_next aM_inputs aM_then M_pieces M_warmth M_draw_42 M_steps M_undoable M_brought M_taped M_shapeMany M_ended M_cut M_mostPieces M_walks M_walked M_strength M_kind M_more M_glues M_sheet M_since M_stepWhat M_stepPiece M_stepPlace M_stepSince)) [0, 1, 2, 3, 4, 5] [6, 7, 8, 9, 10] (ads := [aM, aM_strength, aM_kind, aM_more, aM_glues, aM_sheet]) (wr := [(aM_since, .inl (cI, 256, .inl M_since)), (aM_stepWhat, .inl (cI, 200, .inl M_stepWhat)), (aM_stepPiece, .inl (cI, 200, .inl M_stepPiece)), (aM_stepPlace, .inl (cI, 200, .inl M_stepPlace)), (aM_stepSince, .inl (cI, 200, .inl M_stepSince))]) rfl rfl (fun u => rfl) (fun u => rfl) rfl (fun u => rfl) rfl (fun u => rfl) rfl hP hD hS hA (fun r57 u H locs hw hP hD hS => ?_)
          have hP : va_P D vwCl (w_X8_grow cI cJ cZ cO aM aM_strength aM_kind aM_more aM_glues aM_sheet aM_since aM_imageStrength aM_imageKind aM_imageMore aM_imageGlues aM_imagePieces aM_imageWarmth aM_imageSheet aM_imageDraw aM_stepWhat aM_stepPiece aM_stepPlace aM_stepSince aM_tape aM_shapes aM_pile aM_met aM_next aM_inputs aM_then M_pieces M_warmth M_draw_42 M_steps M_undoable M_brought M_taped M_shapeMany M_ended M_cut M_mostPieces M_walks M_walked M_strength M_kind M_more M_glues M_sheet M_since M_stepWhat M_stepPiece M_stepPlace M_stepSince) H := hP
          have hD : va_D A (w_X8_grow cI cJ cZ cO aM aM_strength aM_kind aM_more aM_glues aM_sheet aM_since aM_imageStrength aM_imageKind aM_imageMore aM_imageGlues aM_imagePieces aM_imageWarmth aM_imageSheet aM_imageDraw aM_stepWhat aM_stepPiece aM_stepPlace aM_stepSince aM_tape aM_shapes aM_pile aM_met aM_next aM_inputs aM_then M_pieces M_warmth M_draw_42 M_steps M_undoable M_brought M_taped M_shapeMany M_ended M_cut M_mostPieces M_walks M_walked M_strength M_kind M_more M_glues M_sheet M_since M_stepWhat M_stepPiece M_stepPlace M_stepSince) := hD
          refine lv_istore (lv' := [(4, .int r57), (0, .ref aM), (1, .int x1), (2, .int x2), (3, .int x3)]) hx hb dX8_grow_60 hl (by decide) rfl (fun ls hl => ?_)
          refine lv_aload_n hx hb dX8_grow_62 rfl (lv_at hl 1 rfl) ?_
          refine lv_iconst (v := (1 : Int32)) hx hb dX8_grow_63 kI_1 ?_
          refine lv_iload hx hb dX8_grow_64 (lv_at hl 0 rfl) ?_
          refine lv_bipush (v := (64 : Int32)) hx hb dX8_grow_66 kB_64 ?_
          refine lv_irem hx hb dX8_grow_68 (by decide) ?_
          refine lv_iload hx hb dX8_grow_69 (lv_at hl 0 rfl) ?_
          refine lv_bipush (v := (64 : Int32)) hx hb dX8_grow_71 kB_64 ?_
          refine lv_idiv hx hb dX8_grow_73 (by decide) ?_
          refine lv_bipush (v := (16 : Int32)) hx hb dX8_grow_74 kB_16 ?_
          refine lv_irem hx hb dX8_grow_76 (by decide) ?_
          refine lv_iload hx hb dX8_grow_77 (lv_at hl 0 rfl) ?_
          refine lv_bipush (v := (64 : Int32)) hx hb dX8_grow_79 kB_64 ?_
          refine lv_idiv hx hb dX8_grow_81 (by decide) ?_
          refine lv_bipush (v := (16 : Int32)) hx hb dX8_grow_82 kB_16 ?_
          refine lv_idiv hx hb dX8_grow_84 (by decide) ?_
          refine cx_gov (va_runV (As := [.int (1 : Int32), .int (r57 - r57 / (64 : Int32) * (64 : Int32)), .int ((r57 / (64 : Int32)) - (r57 / (64 : Int32)) / (16 : Int32) * (16 : Int32)), .int ((r57 / (64 : Int32)) / (16 : Int32))]) (rest := []) ⟨hx, hb, hml, hown, hts⟩ (c_X8_puts l D cI cJ cZ cO tS tT H.size aM aM_strength aM_kind aM_more aM_glues aM_sheet aM_since aM_imageStrength aM_imageKind aM_imageMore aM_imageGlues aM_imagePieces aM_imageWarmth aM_imageSheet aM_imageDraw aM_stepWhat aM_stepPiece aM_stepPlace aM_stepSince aM_tape aM_shapes aM_pile aM_met aM_next aM_inputs aM_then M_pieces M_warmth M_draw_42 M_steps M_undoable M_brought M_taped M_shapeMany M_ended M_cut M_mostPieces M_walks M_walked M_kind M_sheet M_since M_stepWhat M_stepPiece M_stepPlace M_stepSince (1 : Int32) (r57 - r57 / (64 : Int32) * (64 : Int32)) ((r57 / (64 : Int32)) - (r57 / (64 : Int32)) / (16 : Int32) * (16 : Int32)) ((r57 / (64 : Int32)) / (16 : Int32)) _ hw) (cwV 4 hts gX8_grow_X8_puts rfl rfl rfl pv_X8_puts ⟨Nat.le_of_ble_eq_true rfl, Nat.le_of_ble_eq_true rfl⟩) (cx_preV (wc := w_X8_puts cI cJ cZ cO aM aM_strength aM_kind aM_more aM_glues aM_sheet aM_since aM_imageStrength aM_imageKind aM_imageMore aM_imageGlues aM_imagePieces aM_imageWarmth aM_imageSheet aM_imageDraw aM_stepWhat aM_stepPiece aM_stepPlace aM_stepSince aM_tape aM_shapes aM_pile aM_met aM_next aM_inputs aM_then M_pieces M_warmth M_draw_42 M_steps M_undoable M_brought M_taped M_shapeMany M_ended M_cut M_mostPieces M_walks M_walked M_kind M_sheet M_since M_stepWhat M_stepPiece M_stepPlace M_stepSince) hE hK hP hD hS hA [0, 2, 5, 6, 7, 8, 9, 10] rfl rfl (va_recv hK hP (ci := 8) (q0 := 0) rfl rfl)) rfl rfl hl.1 rfl (lv_room (Nat.le_of_ble_eq_true rfl)) dX8_grow_85 ⟨Nat.le_of_ble_eq_true rfl, Nat.le_of_ble_eq_true rfl⟩) (fun (u : (Nat → Int32) × (Nat → Int32) × (Nat → Int32) × (Nat → Int32) × (Nat → Int32) × (Nat → Int32) × (Int32) × (Int32)) => (w_X8_grow cI cJ cZ cO aM aM_strength aM_kind aM_more aM_glues aM_sheet aM_since aM_imageStrength aM_imageKind aM_imageMore aM_imageGlues aM_imagePieces aM_imageWarmth aM_imageSheet aM_imageDraw aM_stepWhat aM_stepPiece aM_stepPlace aM_stepSince aM_tape aM_shapes aM_pile aM_met aM_next aM_inputs aM_then M_pieces M_warmth M_draw_42 u.2.2.2.2.2.2.1 u.2.2.2.2.2.2.2 M_brought M_taped M_shapeMany M_ended M_cut M_mostPieces M_walks M_walked M_strength M_kind M_more M_glues u.1 u.2.1 u.2.2.1 u.2.2.2.1 u.2.2.2.2.1 u.2.2.2.2.2.1)) [0, 2, 5, 6, 7, 8, 9, 10] [1, 3, 4] (ads := [aM, aM_kind, aM_sheet, aM_since, aM_stepWhat, aM_stepPiece, aM_stepPlace, aM_stepSince]) (wr := [(aM_strength, .inl (cI, 51, .inl M_strength)), (aM_more, .inl (cI, 40, .inl M_more)), (aM_glues, .inl (cI, 160, .inl M_glues))]) rfl rfl (fun u => rfl) (fun u => rfl) rfl (fun u => rfl) rfl (fun u => rfl) rfl hP hD hS hA (fun u H locs hw hP hD hS => ?_)
          obtain ⟨M_sheet_85, M_since_85, M_stepWhat_85, M_stepPiece_85, M_stepPlace_85, M_stepSince_85, M_steps_85, M_undoable_85⟩ := u
          try dsimp only at hw
          have hP : va_P D vwCl (w_X8_grow cI cJ cZ cO aM aM_strength aM_kind aM_more aM_glues aM_sheet aM_since aM_imageStrength aM_imageKind aM_imageMore aM_imageGlues aM_imagePieces aM_imageWarmth aM_imageSheet aM_imageDraw aM_stepWhat aM_stepPiece aM_stepPlace aM_stepSince aM_tape aM_shapes aM_pile aM_met aM_next aM_inputs aM_then M_pieces M_warmth M_draw_42 M_steps_85 M_undoable_85 M_brought M_taped M_shapeMany M_ended M_cut M_mostPieces M_walks M_walked M_strength M_kind M_more M_glues M_sheet_85 M_since_85 M_stepWhat_85 M_stepPiece_85 M_stepPlace_85 M_stepSince_85) H := hP
          have hD : va_D A (w_X8_grow cI cJ cZ cO aM aM_strength aM_kind aM_more aM_glues aM_sheet aM_since aM_imageStrength aM_imageKind aM_imageMore aM_imageGlues aM_imagePieces aM_imageWarmth aM_imageSheet aM_imageDraw aM_stepWhat aM_stepPiece aM_stepPlace aM_stepSince aM_tape aM_shapes aM_pile aM_met aM_next aM_inputs aM_then M_pieces M_warmth M_draw_42 M_steps_85 M_undoable_85 M_brought M_taped M_shapeMany M_ended M_cut M_mostPieces M_walks M_walked M_strength M_kind M_more M_glues M_sheet_85 M_since_85 M_stepWhat_85 M_stepPiece_85 M_stepPlace_85 M_stepSince_85) := hD
          obtain ⟨v88, e88⟩ : ∃ y : Int32, y = x2 + (1 : Int32) := ⟨_, rfl⟩
          have hw := hw v88 e88
          refine lv_iinc (v := v88) (lv' := [(2, .int v88), (4, .int r57), (0, .ref aM), (1, .int x1), (3, .int x3)]) hx hb dX8_grow_88 hl (k := 3) rfl (by rw [e88, kI_1]) (by decide) rfl (fun ls hl => ?_)
          refine lv_aload_n hx hb dX8_grow_91 rfl (lv_at hl 2 rfl) ?_
          refine cx_goi (va_runV (As := []) (rest := []) ⟨hx, hb, hml, hown, hts⟩ (c_X8_choices l D cI cJ cZ cO tS tT H.size aM aM_strength aM_kind aM_more aM_glues aM_sheet aM_since aM_imageStrength aM_imageKind aM_imageMore aM_imageGlues aM_imagePieces aM_imageWarmth aM_imageSheet aM_imageDraw aM_stepWhat aM_stepPiece aM_stepPlace aM_stepSince aM_tape aM_shapes aM_pile aM_met aM_next aM_inputs aM_then M_pieces M_warmth M_draw_42 M_steps_85 M_undoable_85 M_brought M_taped M_shapeMany M_ended M_cut M_mostPieces M_walks M_walked M_strength M_kind M_more M_glues M_sheet_85 _ hw) (cwV 0 hts gX8_grow_X8_choices rfl rfl rfl pv_X8_choices ⟨Nat.le_of_ble_eq_true rfl, Nat.le_of_ble_eq_true rfl⟩) (cx_preV (wc := w_X8_choices cI cJ cZ cO aM aM_strength aM_kind aM_more aM_glues aM_sheet aM_since aM_imageStrength aM_imageKind aM_imageMore aM_imageGlues aM_imagePieces aM_imageWarmth aM_imageSheet aM_imageDraw aM_stepWhat aM_stepPiece aM_stepPlace aM_stepSince aM_tape aM_shapes aM_pile aM_met aM_next aM_inputs aM_then M_pieces M_warmth M_draw_42 M_steps_85 M_undoable_85 M_brought M_taped M_shapeMany M_ended M_cut M_mostPieces M_walks M_walked M_strength M_kind M_more M_glues M_sheet_85) hE hK hP hD hS hA [0, 1, 2, 3, 4, 5] rfl rfl (va_recv hK hP (ci := 8) (q0 := 0) rfl rfl)) rfl rfl hl.1 rfl (lv_room (Nat.le_of_ble_eq_true rfl)) dX8_grow_92 ⟨Nat.le_of_ble_eq_true rfl, Nat.le_of_ble_eq_true rfl⟩) (fun (_ : Unit) => (w_X8_grow cI cJ cZ cO aM aM_strength aM_kind aM_more aM_glues aM_sheet aM_since aM_imageStrength aM_imageKind aM_imageMore aM_imageGlues aM_imagePieces aM_imageWarmth aM_imageSheet aM_imageDraw aM_stepWhat aM_stepPiece aM_stepPlace aM_stepSince aM_tape aM_shapes aM_pile aM_met aM_next aM_inputs aM_then M_pieces M_warmth M_draw_42 M_steps_85 M_undoable_85 M_brought M_taped M_shapeMany M_ended M_cut M_mostPieces M_walks M_walked M_strength M_kind M_more M_glues M_sheet_85 M_since_85 M_stepWhat_85 M_stepPiece_85 M_stepPlace_85 M_stepSince_85)) [0, 1, 2, 3, 4, 5] [6, 7, 8, 9, 10] (ads := [aM, aM_strength, aM_kind, aM_more, aM_glues, aM_sheet]) (wr := [(aM_since, .inl (cI, 256, .inl M_since_85)), (aM_stepWhat, .inl (cI, 200, .inl M_stepWhat_85)), (aM_stepPiece, .inl (cI, 200, .inl M_stepPiece_85)), (aM_stepPlace, .inl (cI, 200, .inl M_stepPlace_85)), (aM_stepSince, .inl (cI, 200, .inl M_stepSince_85))]) rfl rfl (fun u => rfl) (fun u => rfl) rfl (fun u => rfl) rfl (fun u => rfl) rfl hP hD hS hA (fun r92 u H locs hw hP hD hS => ?_)
          have hP : va_P D vwCl (w_X8_grow cI cJ cZ cO aM aM_strength aM_kind aM_more aM_glues aM_sheet aM_since aM_imageStrength aM_imageKind aM_imageMore aM_imageGlues aM_imagePieces aM_imageWarmth aM_imageSheet aM_imageDraw aM_stepWhat aM_stepPiece aM_stepPlace aM_stepSince aM_tape aM_shapes aM_pile aM_met aM_next aM_inputs aM_then M_pieces M_warmth M_draw_42 M_steps_85 M_undoable_85 M_brought M_taped M_shapeMany M_ended M_cut M_mostPieces M_walks M_walked M_strength M_kind M_more M_glues M_sheet_85 M_since_85 M_stepWhat_85 M_stepPiece_85 M_stepPlace_85 M_stepSince_85) H := hP
          have hD : va_D A (w_X8_grow cI cJ cZ cO aM aM_strength aM_kind aM_more aM_glues aM_sheet aM_since aM_imageStrength aM_imageKind aM_imageMore aM_imageGlues aM_imagePieces aM_imageWarmth aM_imageSheet aM_imageDraw aM_stepWhat aM_stepPiece aM_stepPlace aM_stepSince aM_tape aM_shapes aM_pile aM_met aM_next aM_inputs aM_then M_pieces M_warmth M_draw_42 M_steps_85 M_undoable_85 M_brought M_taped M_shapeMany M_ended M_cut M_mostPieces M_walks M_walked M_strength M_kind M_more M_glues M_sheet_85 M_since_85 M_stepWhat_85 M_stepPiece_85 M_stepPlace_85 M_stepSince_85) := hD
          refine lv_istore_n (lv' := [(3, .int r92), (2, .int v88), (4, .int r57), (0, .ref aM), (1, .int x1)]) hx hb dX8_grow_95 rfl hl (by decide) rfl (fun ls hl => ?_)
          refine lv_goto (tgt := 20) hx hb dX8_grow_96 (by decide) ?_
          exact ih_20 M_draw_42 M_sheet_85 M_since_85 M_stepWhat_85 M_stepPiece_85 M_stepPlace_85 M_stepSince_85 M_steps_85 M_undoable_85 x1 v88 r92 hw H locs hP hD hS ls (lv_sub hl [3, 4, 1, 0] rfl)
  intro H locs hP hD hS ls hl
  unfold wp_X8_grow at hw
  refine lv_iload_n hx hb dX8_grow_0 rfl (lv_at hl 1 rfl) ?_
  refine lv_if_lt (tgt := 11) hx hb dX8_grow_1 (by decide) (fun c1 => ?_) (fun c1 => ?_)
  · have hw := hw.1 c1
    refine lv_iconst (v := (-1 : Int32)) hx hb dX8_grow_11 kI_m1 ?_
    rw [hZ]
    exact cx_reti (M_draw, M_sheet, M_since, M_stepWhat, M_stepPiece, M_stepPlace, M_stepSince, M_steps, M_undoable) hx hb hr hlocks hw hP hS dX8_grow_12
  · have hw := hw.2 c1
    refine lv_iload_n hx hb dX8_grow_4 rfl (lv_at hl 1 rfl) ?_
    refine lv_sipush (v := (250 : Int32)) hx hb dX8_grow_5 kS_250 ?_
    refine lv_icmp_le (tgt := 13) hx hb dX8_grow_8 (by decide) (fun c8 => ?_) (fun c8 => ?_)
    · have hw := hw.1 c8
      refine lv_iconst (v := (0 : Int32)) hx hb dX8_grow_13 kI_0 ?_
      refine lv_istore_n (lv' := [(2, .int (0 : Int32)), (0, .ref aM), (1, .int p1)]) hx hb dX8_grow_14 rfl hl (by decide) rfl (fun ls hl => ?_)
      refine lv_aload_n hx hb dX8_grow_15 rfl (lv_at hl 1 rfl) ?_
      refine cx_goi (va_runV (As := []) (rest := []) ⟨hx, hb, hml, hown, hts⟩ (c_X8_choices l D cI cJ cZ cO tS tT H.size aM aM_strength aM_kind aM_more aM_glues aM_sheet aM_since aM_imageStrength aM_imageKind aM_imageMore aM_imageGlues aM_imagePieces aM_imageWarmth aM_imageSheet aM_imageDraw aM_stepWhat aM_stepPiece aM_stepPlace aM_stepSince aM_tape aM_shapes aM_pile aM_met aM_next aM_inputs aM_then M_pieces M_warmth M_draw M_steps M_undoable M_brought M_taped M_shapeMany M_ended M_cut M_mostPieces M_walks M_walked M_strength M_kind M_more M_glues M_sheet _ hw) (cwV 0 hts gX8_grow_X8_choices rfl rfl rfl pv_X8_choices ⟨Nat.le_of_ble_eq_true rfl, Nat.le_of_ble_eq_true rfl⟩) (cx_preV (wc := w_X8_choices cI cJ cZ cO aM aM_strength aM_kind aM_more aM_glues aM_sheet aM_since aM_imageStrength aM_imageKind aM_imageMore aM_imageGlues aM_imagePieces aM_imageWarmth aM_imageSheet aM_imageDraw aM_stepWhat aM_stepPiece aM_stepPlace aM_stepSince aM_tape aM_shapes aM_pile aM_met aM_next aM_inputs aM_then M_pieces M_warmth M_draw M_steps M_undoable M_brought M_taped M_shapeMany M_ended M_cut M_mostPieces M_walks M_walked M_strength M_kind M_more M_glues M_sheet) hE hK hP hD hS hA [0, 1, 2, 3, 4, 5] rfl rfl (va_recv hK hP (ci := 8) (q0 := 0) rfl rfl)) rfl rfl hl.1 rfl (lv_room (Nat.le_of_ble_eq_true rfl)) dX8_grow_16 ⟨Nat.le_of_ble_eq_true rfl, Nat.le_of_ble_eq_true rfl⟩) (fun (_ : Unit) => (w_X8_grow cI cJ cZ cO aM aM_strength aM_kind aM_more aM_glues aM_sheet aM_since aM_imageStrength aM_imageKind aM_imageMore aM_imageGlues aM_imagePieces aM_imageWarmth aM_imageSheet aM_imageDraw aM_stepWhat aM_stepPiece aM_stepPlace aM_stepSince aM_tape aM_shapes aM_pile aM_met aM_next aM_inputs aM_then M_pieces M_warmth M_draw M_steps M_undoable M_brought M_taped M_shapeMany M_ended M_cut M_mostPieces M_walks M_walked M_strength M_kind M_more M_glues M_sheet M_since M_stepWhat M_stepPiece M_stepPlace M_stepSince)) [0, 1, 2, 3, 4, 5] [6, 7, 8, 9, 10] (ads := [aM, aM_strength, aM_kind, aM_more, aM_glues, aM_sheet]) (wr := [(aM_since, .inl (cI, 256, .inl M_since)), (aM_stepWhat, .inl (cI, 200, .inl M_stepWhat)), (aM_stepPiece, .inl (cI, 200, .inl M_stepPiece)), (aM_stepPlace, .inl (cI, 200, .inl M_stepPlace)), (aM_stepSince, .inl (cI, 200, .inl M_stepSince))]) rfl rfl (fun u => rfl) (fun u => rfl) rfl (fun u => rfl) rfl (fun u => rfl) rfl hP hD hS hA (fun r16 u H locs hw hP hD hS => ?_)
      have hP : va_P D vwCl (w_X8_grow cI cJ cZ cO aM aM_strength aM_kind aM_more aM_glues aM_sheet aM_since aM_imageStrength aM_imageKind aM_imageMore aM_imageGlues aM_imagePieces aM_imageWarmth aM_imageSheet aM_imageDraw aM_stepWhat aM_stepPiece aM_stepPlace aM_stepSince aM_tape aM_shapes aM_pile aM_met aM_next aM_inputs aM_then M_pieces M_warmth M_draw M_steps M_undoable M_brought M_taped M_shapeMany M_ended M_cut M_mostPieces M_walks M_walked M_strength M_kind M_more M_glues M_sheet M_since M_stepWhat M_stepPiece M_stepPlace M_stepSince) H := hP
      have hD : va_D A (w_X8_grow cI cJ cZ cO aM aM_strength aM_kind aM_more aM_glues aM_sheet aM_since aM_imageStrength aM_imageKind aM_imageMore aM_imageGlues aM_imagePieces aM_imageWarmth aM_imageSheet aM_imageDraw aM_stepWhat aM_stepPiece aM_stepPlace aM_stepSince aM_tape aM_shapes aM_pile aM_met aM_next aM_inputs aM_then M_pieces M_warmth M_draw M_steps M_undoable M_brought M_taped M_shapeMany M_ended M_cut M_mostPieces M_walks M_walked M_strength M_kind M_more M_glues M_sheet M_since M_stepWhat M_stepPiece M_stepPlace M_stepSince) := hD
      refine lv_istore_n (lv' := [(3, .int r16), (2, .int (0 : Int32)), (0, .ref aM), (1, .int p1)]) hx hb dX8_grow_19 rfl hl (by decide) rfl (fun ls hl => ?_)
      obtain ⟨k, hw⟩ := hw
      exact b_20 k M_draw M_sheet M_since M_stepWhat M_stepPiece M_stepPlace M_stepSince M_steps M_undoable p1 (0 : Int32) r16 hw H locs hP hD hS ls (lv_sub hl [2, 3, 1, 0] rfl)
    · have hw := hw.2 c8
      refine lv_iconst (v := (-1 : Int32)) hx hb dX8_grow_11 kI_m1 ?_
      rw [hZ]
      exact cx_reti (M_draw, M_sheet, M_since, M_stepWhat, M_stepPiece, M_stepPlace, M_stepSince, M_steps, M_undoable) hx hb hr hlocks hw hP hS dX8_grow_12
set_option maxRecDepth 100000 in
set_option maxHeartbeats 4000000 in
theorem c_X8_at (l : Launch) (D : va_G) (cI cJ cZ cO : ClassId) (tS tT : Nat) (sz : Nat) (aM aM_strength aM_kind aM_more aM_glues aM_sheet aM_since aM_imageStrength aM_imageKind aM_imageMore aM_imageGlues aM_imagePieces aM_imageWarmth aM_imageSheet aM_imageDraw aM_stepWhat aM_stepPiece aM_stepPlace aM_stepSince aM_tape aM_shapes aM_pile aM_met aM_next aM_inputs aM_then : Nat) (M_pieces : Int32) (M_warmth : Int32) (M_draw : Int64) (M_steps : Int32) (M_undoable : Int32) (M_brought : Int32) (M_taped : Int32) (M_shapeMany : Int32) (M_ended : Int32) (M_cut : Int32) (M_mostPieces : Int32) (M_walks : Int32) (M_walked : Int32) (M_sheet : Nat → Int32) (p1 : Int32) (p2 : Int32) (Q : Int32 → Prop) (hw : wp_X8_at M_sheet p1 p2 Q) : Met l yX8_at wsX8_at rm_X8_at (va_Pc [.ref aM, .int p1, .int p2] (cx_B tS tT cI cJ cZ cO D sz (w_X8_at cI cJ cZ cO aM aM_strength aM_kind aM_more aM_glues aM_sheet aM_since aM_imageStrength aM_imageKind aM_imageMore aM_imageGlues aM_imagePieces aM_imageWarmth aM_imageSheet aM_imageDraw aM_stepWhat aM_stepPiece aM_stepPlace aM_stepSince aM_tape aM_shapes aM_pile aM_met aM_next aM_inputs aM_then M_pieces M_warmth M_draw M_steps M_undoable M_brought M_taped M_shapeMany M_ended M_cut M_mostPieces M_walks M_walked M_sheet))) (va_Qi (fun (r : Int32) (_ : Unit) => Q r) (fun (u : Unit) t => va_P D vwCl (w_X8_at cI cJ cZ cO aM aM_strength aM_kind aM_more aM_glues aM_sheet aM_since aM_imageStrength aM_imageKind aM_imageMore aM_imageGlues aM_imagePieces aM_imageWarmth aM_imageSheet aM_imageDraw aM_stepWhat aM_stepPiece aM_stepPlace aM_stepSince aM_tape aM_shapes aM_pile aM_met aM_next aM_inputs aM_then M_pieces M_warmth M_draw M_steps M_undoable M_brought M_taped M_shapeMany M_ended M_cut M_mostPieces M_walks M_walked M_sheet) t.heap) (va_A (w_X8_at cI cJ cZ cO aM aM_strength aM_kind aM_more aM_glues aM_sheet aM_since aM_imageStrength aM_imageKind aM_imageMore aM_imageGlues aM_imagePieces aM_imageWarmth aM_imageSheet aM_imageDraw aM_stepWhat aM_stepPiece aM_stepPlace aM_stepSince aM_tape aM_shapes aM_pile aM_met aM_next aM_inputs aM_then M_pieces M_warmth M_draw M_steps M_undoable M_brought M_taped M_shapeMany M_ended M_cut M_mostPieces M_walks M_walked M_sheet) sz)) 0 0 (va_A (w_X8_at cI cJ cZ cO aM aM_strength aM_kind aM_more aM_glues aM_sheet aM_since aM_imageStrength aM_imageKind aM_imageMore aM_imageGlues aM_imagePieces aM_imageWarmth aM_imageSheet aM_imageDraw aM_stepWhat aM_stepPiece aM_stepPlace aM_stepSince aM_tape aM_shapes aM_pile aM_met aM_next aM_inputs aM_then M_pieces M_warmth M_draw M_steps M_undoable M_brought M_taped M_shapeMany M_ended M_cut M_mostPieces M_walks M_walked M_sheet) sz) := by
  refine cx_met (cc := cX8_at) (maxL := 3) (ret := (some .int)) (Qc := fun A => va_Qi (fun (r : Int32) (_ : Unit) => Q r) (fun (u : Unit) t => va_P D vwCl (w_X8_at cI cJ cZ cO aM aM_strength aM_kind aM_more aM_glues aM_sheet aM_since aM_imageStrength aM_imageKind aM_imageMore aM_imageGlues aM_imagePieces aM_imageWarmth aM_imageSheet aM_imageDraw aM_stepWhat aM_stepPiece aM_stepPlace aM_stepSince aM_tape aM_shapes aM_pile aM_met aM_next aM_inputs aM_then M_pieces M_warmth M_draw M_steps M_undoable M_brought M_taped M_shapeMany M_ended M_cut M_mostPieces M_walks M_walked M_sheet) t.heap) A) (lv := [(0, .ref aM), (1, .int p1), (2, .int p2)]) (by decide) rfl (Nat.le_of_ble_eq_true rfl) rfl ?_
  intro p e s m args below meth c A Z hx hb hr hlocks hts hown hml hE hK hA hZ
  have hown : s.vm.findClass RX8 = some m.cls := hown
  have k_0 := hts (.fieldLink RX8 26 "GrowingTilesModel" "sheet" "[I") (List.mem_of_getElem? (i := 1) (by decide +kernel))
  intro H locs hP hD hS ls hl
  unfold wp_X8_at at hw
  refine lv_iload_n hx hb dX8_at_0 rfl (lv_at hl 1 rfl) ?_
  refine lv_iload_n hx hb dX8_at_1 rfl (lv_at hl 2 rfl) ?_
  refine cx_goi (va_runS (As := [.int p1, .int p2]) (rest := []) ⟨hx, hb, hml, hown, hts⟩ (c_X8_isOn l D cI cJ cZ cO tS tT H.size p1 p2 _ hw) (va_cwS 2 hts gX8_at_X8_isOn rfl rfl rfl ps_X8_isOn ⟨Nat.le_of_ble_eq_true rfl, Nat.le_of_ble_eq_true rfl⟩) (cx_preS (wc := w_X8_isOn) hE hK hP hD hS hA [] rfl rfl) rfl rfl hl.1 rfl (lv_room (Nat.le_of_ble_eq_true rfl)) dX8_at_2 ⟨Nat.le_of_ble_eq_true rfl, Nat.le_of_ble_eq_true rfl⟩) (fun (_ : Unit) => (w_X8_at cI cJ cZ cO aM aM_strength aM_kind aM_more aM_glues aM_sheet aM_since aM_imageStrength aM_imageKind aM_imageMore aM_imageGlues aM_imagePieces aM_imageWarmth aM_imageSheet aM_imageDraw aM_stepWhat aM_stepPiece aM_stepPlace aM_stepSince aM_tape aM_shapes aM_pile aM_met aM_next aM_inputs aM_then M_pieces M_warmth M_draw M_steps M_undoable M_brought M_taped M_shapeMany M_ended M_cut M_mostPieces M_walks M_walked M_sheet)) [] [0, 1] (ads := []) (wr := [(aM, .inr (8, [.ref aM_strength, .ref aM_kind, .ref aM_more, .ref aM_glues, .int M_pieces, .int M_warmth, .long M_draw, .ref aM_sheet, .ref aM_since, .ref aM_imageStrength, .ref aM_imageKind, .ref aM_imageMore, .ref aM_imageGlues, .ref aM_imagePieces, .ref aM_imageWarmth, .ref aM_imageSheet, .ref aM_imageDraw, .ref aM_stepWhat, .ref aM_stepPiece, .ref aM_stepPlace, .ref aM_stepSince, .int M_steps, .int M_undoable, .int M_brought, .ref aM_tape, .int M_taped, .ref aM_shapes, .int M_shapeMany, .int M_ended, .int M_cut, .int M_mostPieces, .int M_walks, .int M_walked, .ref aM_pile, .ref aM_met, .ref aM_next, .ref aM_inputs, .ref aM_then])), (aM_sheet, .inl (cI, 256, .inl M_sheet))]) rfl rfl (fun u => rfl) (fun u => rfl) rfl (fun u => rfl) rfl (fun u => rfl) rfl hP hD hS hA (fun r2 u H locs hw hP hD hS => ?_)
  refine lv_if_eq (tgt := 40) hx hb dX8_at_5 (by decide) (fun c5 => ?_) (fun c5 => ?_)
  · have hw := hw.1 c5
    refine lv_iconst (v := (-1 : Int32)) hx hb dX8_at_40 kI_m1 ?_
    rw [hZ]
    exact cx_reti () hx hb hr hlocks hw hP hS dX8_at_41
  · have hw := hw.2 c5
    refine lv_aload_n hx hb dX8_at_8 rfl (lv_at hl 0 rfl) ?_
    refine va_get (D := D) (ci := 8) (v := .ref aM_sheet) (C := RX8) (T := TX8) (N := 38) hx hb hts in_X8_at_X8 hown hK hP 0 rfl rfl 7 (by decide) k_0 (fun _ h9 => h9) rfl dX8_at_9 ?_
    refine lv_iload_n hx hb dX8_at_12 rfl (lv_at hl 1 rfl) ?_
    refine lv_bipush (v := (16 : Int32)) hx hb dX8_at_13 kB_16 ?_
    refine lv_iload_n hx hb dX8_at_15 rfl (lv_at hl 2 rfl) ?_
    refine lv_imul hx hb dX8_at_16 ?_
    refine lv_iadd hx hb dX8_at_17 ?_
    have h18 := hw.1
    have hw := hw.2
    refine va_iald hx hb hK hP 1 0 rfl rfl h18 dX8_at_18 ?_
    refine lv_topi (fun v18 e18 => ?_)
    have hw := hw v18 e18
    refine lv_if_eq (tgt := 40) hx hb dX8_at_19 (by decide) (fun c19 => ?_) (fun c19 => ?_)
    · have hw := hw.1 c19
      refine lv_iconst (v := (-1 : Int32)) hx hb dX8_at_40 kI_m1 ?_
      rw [hZ]
      exact cx_reti () hx hb hr hlocks hw hP hS dX8_at_41
    · have hw := hw.2 c19
      refine lv_aload_n hx hb dX8_at_22 rfl (lv_at hl 0 rfl) ?_
      refine va_get (D := D) (ci := 8) (v := .ref aM_sheet) (C := RX8) (T := TX8) (N := 38) hx hb hts in_X8_at_X8 hown hK hP 0 rfl rfl 7 (by decide) k_0 (fun _ h9 => h9) rfl dX8_at_23 ?_
      refine lv_iload_n hx hb dX8_at_26 rfl (lv_at hl 1 rfl) ?_
      refine lv_bipush (v := (16 : Int32)) hx hb dX8_at_27 kB_16 ?_
      refine lv_iload_n hx hb dX8_at_29 rfl (lv_at hl 2 rfl) ?_
      refine lv_imul hx hb dX8_at_30 ?_
      refine lv_iadd hx hb dX8_at_31 ?_
      have h32 := hw.1
      have hw := hw.2
      refine va_iald hx hb hK hP 1 0 rfl rfl h32 dX8_at_32 ?_
      refine lv_topi (fun v32 e32 => ?_)
      have hw := hw v32 e32
      refine lv_iconst (v := (1 : Int32)) hx hb dX8_at_33 kI_1 ?_
      refine lv_isub hx hb dX8_at_34 ?_
      refine lv_iconst (v := (2 : Int32)) hx hb dX8_at_35 kI_2 ?_
      refine lv_idiv hx hb dX8_at_36 (by decide) ?_
      refine lv_goto (tgt := 41) hx hb dX8_at_37 (by decide) ?_
      rw [hZ]
      exact cx_reti () hx hb hr hlocks hw hP hS dX8_at_41
set_option maxRecDepth 100000 in
set_option maxHeartbeats 4000000 in
theorem c_X8_of (l : Launch) (D : va_G) (cI cJ cZ cO : ClassId) (tS tT : Nat) (sz : Nat) (aM aM_strength aM_kind aM_more aM_glues aM_sheet aM_since aM_imageStrength aM_imageKind aM_imageMore aM_imageGlues aM_imagePieces aM_imageWarmth aM_imageSheet aM_imageDraw aM_stepWhat aM_stepPiece aM_stepPlace aM_stepSince aM_tape aM_shapes aM_pile aM_met aM_next aM_inputs aM_then : Nat) (M_pieces : Int32) (M_warmth : Int32) (M_draw : Int64) (M_steps : Int32) (M_undoable : Int32) (M_brought : Int32) (M_taped : Int32) (M_shapeMany : Int32) (M_ended : Int32) (M_cut : Int32) (M_mostPieces : Int32) (M_walks : Int32) (M_walked : Int32) (M_strength : Nat → Int32) (M_kind : Nat → Int32) (M_more : Nat → Int32) (M_glues : Nat → Int32) (M_sheet : Nat → Int32) (M_since : Nat → Int32) (p1 : Int32) (p2 : Int32) (p3 : Int32) (Q : Int32 → Prop) (hw : wp_X8_of M_strength M_kind M_more M_glues M_sheet M_since p1 p2 p3 Q) : Met l yX8_of wsX8_of rm_X8_of (va_Pc [.ref aM, .int p1, .int p2, .int p3] (cx_B tS tT cI cJ cZ cO D sz (w_X8_of cI cJ cZ cO aM aM_strength aM_kind aM_more aM_glues aM_sheet aM_since aM_imageStrength aM_imageKind aM_imageMore aM_imageGlues aM_imagePieces aM_imageWarmth aM_imageSheet aM_imageDraw aM_stepWhat aM_stepPiece aM_stepPlace aM_stepSince aM_tape aM_shapes aM_pile aM_met aM_next aM_inputs aM_then M_pieces M_warmth M_draw M_steps M_undoable M_brought M_taped M_shapeMany M_ended M_cut M_mostPieces M_walks M_walked M_strength M_kind M_more M_glues M_sheet M_since))) (va_Qi (fun (r : Int32) (_ : Unit) => Q r) (fun (u : Unit) t => va_P D vwCl (w_X8_of cI cJ cZ cO aM aM_strength aM_kind aM_more aM_glues aM_sheet aM_since aM_imageStrength aM_imageKind aM_imageMore aM_imageGlues aM_imagePieces aM_imageWarmth aM_imageSheet aM_imageDraw aM_stepWhat aM_stepPiece aM_stepPlace aM_stepSince aM_tape aM_shapes aM_pile aM_met aM_next aM_inputs aM_then M_pieces M_warmth M_draw M_steps M_undoable M_brought M_taped M_shapeMany M_ended M_cut M_mostPieces M_walks M_walked M_strength M_kind M_more M_glues M_sheet M_since) t.heap) (va_A (w_X8_of cI cJ cZ cO aM aM_strength aM_kind aM_more aM_glues aM_sheet aM_since aM_imageStrength aM_imageKind aM_imageMore aM_imageGlues aM_imagePieces aM_imageWarmth aM_imageSheet aM_imageDraw aM_stepWhat aM_stepPiece aM_stepPlace aM_stepSince aM_tape aM_shapes aM_pile aM_met aM_next aM_inputs aM_then M_pieces M_warmth M_draw M_steps M_undoable M_brought M_taped M_shapeMany M_ended M_cut M_mostPieces M_walks M_walked M_strength M_kind M_more M_glues M_sheet M_since) sz)) 0 0 (va_A (w_X8_of cI cJ cZ cO aM aM_strength aM_kind aM_more aM_glues aM_sheet aM_since aM_imageStrength aM_imageKind aM_imageMore aM_imageGlues aM_imagePieces aM_imageWarmth aM_imageSheet aM_imageDraw aM_stepWhat aM_stepPiece aM_stepPlace aM_stepSince aM_tape aM_shapes aM_pile aM_met aM_next aM_inputs aM_then M_pieces M_warmth M_draw M_steps M_undoable M_brought M_taped M_shapeMany M_ended M_cut M_mostPieces M_walks M_walked M_strength M_kind M_more M_glues M_sheet M_since) sz) := by
  refine cx_met (cc := cX8_of) (maxL := 5) (ret := (some .int)) (Qc := fun A => va_Qi (fun (r : Int32) (_ : Unit) => Q r) (fun (u : Unit) t => va_P D vwCl (w_X8_of cI cJ cZ cO aM aM_strength aM_kind aM_more aM_glues aM_sheet aM_since aM_imageStrength aM_imageKind aM_imageMore aM_imageGlues aM_imagePieces aM_imageWarmth aM_imageSheet aM_imageDraw aM_stepWhat aM_stepPiece aM_stepPlace aM_stepSince aM_tape aM_shapes aM_pile aM_met aM_next aM_inputs aM_then M_pieces M_warmth M_draw M_steps M_undoable M_brought M_taped M_shapeMany M_ended M_cut M_mostPieces M_walks M_walked M_strength M_kind M_more M_glues M_sheet M_since) t.heap) A) (lv := [(0, .ref aM), (1, .int p1), (2, .int p2), (3, .int p3)]) (by decide) rfl (Nat.le_of_ble_eq_true rfl) rfl ?_
  intro p e s m args below meth c A Z hx hb hr hlocks hts hown hml hE hK hA hZ
  have hown : s.vm.findClass RX8 = some m.cls := hown
  have k_0 := hts (.fieldLink RX8 26 "GrowingTilesModel" "sheet" "[I") (List.mem_of_getElem? (i := 1) (by decide +kernel))
  have k_1 := hts (.fieldLink RX8 13 "GrowingTilesModel" "kind" "[I") (List.mem_of_getElem? (i := 2) (by decide +kernel))
  have k_2 := hts (.fieldLink RX8 16 "GrowingTilesModel" "more" "[I") (List.mem_of_getElem? (i := 3) (by decide +kernel))
  have k_3 := hts (.fieldLink RX8 29 "GrowingTilesModel" "since" "[I") (List.mem_of_getElem? (i := 4) (by decide +kernel))
  intro H locs hP hD hS ls hl
  unfold wp_X8_of at hw
  refine lv_iload_n hx hb dX8_of_0 rfl (lv_at hl 1 rfl) ?_
  refine lv_iload_n hx hb dX8_of_1 rfl (lv_at hl 2 rfl) ?_
  refine cx_goi (va_runS (As := [.int p1, .int p2]) (rest := []) ⟨hx, hb, hml, hown, hts⟩ (c_X8_isOn l D cI cJ cZ cO tS tT H.size p1 p2 _ hw) (va_cwS 2 hts gX8_of_X8_isOn rfl rfl rfl ps_X8_isOn ⟨Nat.le_of_ble_eq_true rfl, Nat.le_of_ble_eq_true rfl⟩) (cx_preS (wc := w_X8_isOn) hE hK hP hD hS hA [] rfl rfl) rfl rfl hl.1 rfl (lv_room (Nat.le_of_ble_eq_true rfl)) dX8_of_2 ⟨Nat.le_of_ble_eq_true rfl, Nat.le_of_ble_eq_true rfl⟩) (fun (_ : Unit) => (w_X8_of cI cJ cZ cO aM aM_strength aM_kind aM_more aM_glues aM_sheet aM_since aM_imageStrength aM_imageKind aM_imageMore aM_imageGlues aM_imagePieces aM_imageWarmth aM_imageSheet aM_imageDraw aM_stepWhat aM_stepPiece aM_stepPlace aM_stepSince aM_tape aM_shapes aM_pile aM_met aM_next aM_inputs aM_then M_pieces M_warmth M_draw M_steps M_undoable M_brought M_taped M_shapeMany M_ended M_cut M_mostPieces M_walks M_walked M_strength M_kind M_more M_glues M_sheet M_since)) [] [0, 1, 2, 3, 4, 5, 6] (ads := []) (wr := [(aM, .inr (8, [.ref aM_strength, .ref aM_kind, .ref aM_more, .ref aM_glues, .int M_pieces, .int M_warmth, .long M_draw, .ref aM_sheet, .ref aM_since, .ref aM_imageStrength, .ref aM_imageKind, .ref aM_imageMore, .ref aM_imageGlues, .ref aM_imagePieces, .ref aM_imageWarmth, .ref aM_imageSheet, .ref aM_imageDraw, .ref aM_stepWhat, .ref aM_stepPiece, .ref aM_stepPlace, .ref aM_stepSince, .int M_steps, .int M_undoable, .int M_brought, .ref aM_tape, .int M_taped, .ref aM_shapes, .int M_shapeMany, .int M_ended, .int M_cut, .int M_mostPieces, .int M_walks, .int M_walked, .ref aM_pile, .ref aM_met, .ref aM_next, .ref aM_inputs, .ref aM_then])), (aM_strength, .inl (cI, 51, .inl M_strength)), (aM_kind, .inl (cI, 40, .inl M_kind)), (aM_more, .inl (cI, 40, .inl M_more)), (aM_glues, .inl (cI, 160, .inl M_glues)), (aM_sheet, .inl (cI, 256, .inl M_sheet)), (aM_since, .inl (cI, 256, .inl M_since))]) rfl rfl (fun u => rfl) (fun u => rfl) rfl (fun u => rfl) rfl (fun u => rfl) rfl hP hD hS hA (fun r2 u H locs hw hP hD hS => ?_)
  refine lv_if_eq (tgt := 22) hx hb dX8_of_5 (by decide) (fun c5 => ?_) (fun c5 => ?_)
  · have hw := hw.1 c5
    refine lv_iconst (v := (-1 : Int32)) hx hb dX8_of_22 kI_m1 ?_
    rw [hZ]
    exact cx_reti () hx hb hr hlocks hw hP hS dX8_of_23
  · have hw := hw.2 c5
    refine lv_aload_n hx hb dX8_of_8 rfl (lv_at hl 0 rfl) ?_
    refine va_get (D := D) (ci := 8) (v := .ref aM_sheet) (C := RX8) (T := TX8) (N := 38) hx hb hts in_X8_of_X8 hown hK hP 0 rfl rfl 7 (by decide) k_0 (fun _ h9 => h9) rfl dX8_of_9 ?_
    refine lv_iload_n hx hb dX8_of_12 rfl (lv_at hl 1 rfl) ?_
    refine lv_bipush (v := (16 : Int32)) hx hb dX8_of_13 kB_16 ?_
    refine lv_iload_n hx hb dX8_of_15 rfl (lv_at hl 2 rfl) ?_
    refine lv_imul hx hb dX8_of_16 ?_
    refine lv_iadd hx hb dX8_of_17 ?_
    have h18 := hw.1
    have hw := hw.2
    refine va_iald hx hb hK hP 5 0 rfl rfl h18 dX8_of_18 ?_
    refine lv_topi (fun v18 e18 => ?_)
    have hw := hw v18 e18
    refine lv_if_ne (tgt := 24) hx hb dX8_of_19 (by decide) (fun c19 => ?_) (fun c19 => ?_)
    · have hw := hw.1 c19
      refine lv_aload_n hx hb dX8_of_24 rfl (lv_at hl 0 rfl) ?_
      refine va_get (D := D) (ci := 8) (v := .ref aM_sheet) (C := RX8) (T := TX8) (N := 38) hx hb hts in_X8_of_X8 hown hK hP 0 rfl rfl 7 (by decide) k_0 (fun _ h9 => h9) rfl dX8_of_25 ?_
      refine lv_iload_n hx hb dX8_of_28 rfl (lv_at hl 1 rfl) ?_
      refine lv_bipush (v := (16 : Int32)) hx hb dX8_of_29 kB_16 ?_
      refine lv_iload_n hx hb dX8_of_31 rfl (lv_at hl 2 rfl) ?_
      refine lv_imul hx hb dX8_of_32 ?_
      refine lv_iadd hx hb dX8_of_33 ?_
      have h34 := hw.1
      have hw := hw.2
      refine va_iald hx hb hK hP 5 0 rfl rfl h34 dX8_of_34 ?_
      refine lv_topi (fun v34 e34 => ?_)
      have hw := hw v34 e34
      refine lv_iconst (v := (1 : Int32)) hx hb dX8_of_35 kI_1 ?_
      refine lv_isub hx hb dX8_of_36 ?_
      refine lv_topi (fun v37 e37 => ?_)
      have hw := hw v37 e37
      refine lv_istore (lv' := [(4, .int v37), (0, .ref aM), (1, .int p1), (2, .int p2), (3, .int p3)]) hx hb dX8_of_37 hl (by decide) rfl (fun ls hl => ?_)
      refine lv_iload_n hx hb dX8_of_39 rfl (lv_at hl 4 rfl) ?_
      by_cases c40_0 : p3 = (0 : Int32)
      · have hw := hw.1 c40_0
        refine lv_tableIn (tgt := 72) hx hb dX8_of_40 (by rw [c40_0]; decide) (by rw [c40_0]; decide) (by rw [c40_0]; rfl) (by decide) ?_
        refine lv_iload hx hb dX8_of_72 (lv_at hl 0 rfl) ?_
        refine lv_iconst (v := (2 : Int32)) hx hb dX8_of_74 kI_2 ?_
        refine lv_irem hx hb dX8_of_75 (by decide) ?_
        refine lv_iconst (v := (1 : Int32)) hx hb dX8_of_76 kI_1 ?_
        refine lv_icmp_ne (tgt := 85) hx hb dX8_of_77 (by decide) (fun c77 => ?_) (fun c77 => ?_)
        · have hw := hw.1 c77
          refine lv_aload_n hx hb dX8_of_85 rfl (lv_at hl 1 rfl) ?_
          refine va_get (D := D) (ci := 8) (v := .ref aM_kind) (C := RX8) (T := TX8) (N := 38) hx hb hts in_X8_of_X8 hown hK hP 0 rfl rfl 1 (by decide) k_1 (fun _ h9 => h9) rfl dX8_of_86 ?_
          refine lv_iload hx hb dX8_of_89 (lv_at hl 0 rfl) ?_
          refine lv_iconst (v := (2 : Int32)) hx hb dX8_of_91 kI_2 ?_
          refine lv_idiv hx hb dX8_of_92 (by decide) ?_
          have h93 := hw.1
          have hw := hw.2
          refine va_iald hx hb hK hP 2 0 rfl rfl h93 dX8_of_93 ?_
          refine lv_topi (fun v93 e93 => ?_)
          have hw := hw v93 e93
          rw [hZ]
          exact cx_reti () hx hb hr hlocks hw hP hS dX8_of_94
        · have hw := hw.2 c77
          refine lv_bipush (v := (7 : Int32)) hx hb dX8_of_80 kB_7 ?_
          refine lv_goto (tgt := 94) hx hb dX8_of_82 (by decide) ?_
          rw [hZ]
          exact cx_reti () hx hb hr hlocks hw hP hS dX8_of_94
      by_cases c40_1 : p3 = (1 : Int32)
      · have hw := hw.2.1 c40_1
        refine lv_tableIn (tgt := 95) hx hb dX8_of_40 (by rw [c40_1]; decide) (by rw [c40_1]; decide) (by rw [c40_1]; rfl) (by decide) ?_
        refine lv_aload_n hx hb dX8_of_95 rfl (lv_at hl 1 rfl) ?_
        refine va_get (D := D) (ci := 8) (v := .ref aM_kind) (C := RX8) (T := TX8) (N := 38) hx hb hts in_X8_of_X8 hown hK hP 0 rfl rfl 1 (by decide) k_1 (fun _ h9 => h9) rfl dX8_of_96 ?_
        refine lv_iload hx hb dX8_of_99 (lv_at hl 0 rfl) ?_
        refine lv_iconst (v := (2 : Int32)) hx hb dX8_of_101 kI_2 ?_
        refine lv_idiv hx hb dX8_of_102 (by decide) ?_
        have h103 := hw.1
        have hw := hw.2
        refine va_iald hx hb hK hP 2 0 rfl rfl h103 dX8_of_103 ?_
        refine lv_topi (fun v103 e103 => ?_)
        have hw := hw v103 e103
        refine lv_iconst (v := (5 : Int32)) hx hb dX8_of_104 kI_5 ?_
        refine lv_icmp_ne (tgt := 123) hx hb dX8_of_105 (by decide) (fun c105 => ?_) (fun c105 => ?_)
        · have hw := hw.1 c105
          refine lv_iconst (v := (0 : Int32)) hx hb dX8_of_123 kI_0 ?_
          rw [hZ]
          exact cx_reti () hx hb hr hlocks hw hP hS dX8_of_124
        · have hw := hw.2 c105
          refine lv_aload_n hx hb dX8_of_108 rfl (lv_at hl 1 rfl) ?_
          refine va_get (D := D) (ci := 8) (v := .ref aM_more) (C := RX8) (T := TX8) (N := 38) hx hb hts in_X8_of_X8 hown hK hP 0 rfl rfl 2 (by decide) k_2 (fun _ h9 => h9) rfl dX8_of_109 ?_
          refine lv_iload hx hb dX8_of_112 (lv_at hl 0 rfl) ?_
          refine lv_iconst (v := (2 : Int32)) hx hb dX8_of_114 kI_2 ?_
          refine lv_idiv hx hb dX8_of_115 (by decide) ?_
          have h116 := hw.1
          have hw := hw.2
          refine va_iald hx hb hK hP 3 0 rfl rfl h116 dX8_of_116 ?_
          refine lv_topi (fun v116 e116 => ?_)
          have hw := hw v116 e116
          refine lv_bipush (v := (16 : Int32)) hx hb dX8_of_117 kB_16 ?_
          refine lv_idiv hx hb dX8_of_119 (by decide) ?_
          refine lv_goto (tgt := 124) hx hb dX8_of_120 (by decide) ?_
          rw [hZ]
          exact cx_reti () hx hb hr hlocks hw hP hS dX8_of_124
      by_cases c40_2 : p3 = (2 : Int32)
      · have hw := hw.2.2.1 c40_2
        refine lv_tableIn (tgt := 125) hx hb dX8_of_40 (by rw [c40_2]; decide) (by rw [c40_2]; decide) (by rw [c40_2]; rfl) (by decide) ?_
        refine lv_aload_n hx hb dX8_of_125 rfl (lv_at hl 1 rfl) ?_
        refine lv_aload_n hx hb dX8_of_126 rfl (lv_at hl 1 rfl) ?_
        refine va_get (D := D) (ci := 8) (v := .ref aM_sheet) (C := RX8) (T := TX8) (N := 38) hx hb hts in_X8_of_X8 hown hK hP 0 rfl rfl 7 (by decide) k_0 (fun _ h9 => h9) rfl dX8_of_127 ?_
        refine lv_iconst (v := (0 : Int32)) hx hb dX8_of_130 kI_0 ?_
        refine lv_iload hx hb dX8_of_131 (lv_at hl 0 rfl) ?_
        refine lv_iconst (v := (2 : Int32)) hx hb dX8_of_133 kI_2 ?_
        refine lv_idiv hx hb dX8_of_134 (by decide) ?_
        refine lv_iload_n hx hb dX8_of_135 rfl (lv_at hl 2 rfl) ?_
        refine lv_iload hx hb dX8_of_136 (lv_at hl 0 rfl) ?_
        refine lv_iconst (v := (2 : Int32)) hx hb dX8_of_138 kI_2 ?_
        refine lv_irem hx hb dX8_of_139 (by decide) ?_
        refine lv_isub hx hb dX8_of_140 ?_
        refine lv_iload_n hx hb dX8_of_141 rfl (lv_at hl 3 rfl) ?_
        refine cx_goi (va_runV (As := [.ref aM_sheet, .int (0 : Int32), .int (v37 / (2 : Int32)), .int (p1 - (v37 - v37 / (2 : Int32) * (2 : Int32))), .int p2]) (rest := []) ⟨hx, hb, hml, hown, hts⟩ (c_X8_holdOf l D cI cJ cZ cO tS tT H.size aM_sheet aM aM_strength aM_kind aM_more aM_glues aM_sheet aM_since aM_imageStrength aM_imageKind aM_imageMore aM_imageGlues aM_imagePieces aM_imageWarmth aM_imageSheet aM_imageDraw aM_stepWhat aM_stepPiece aM_stepPlace aM_stepSince aM_tape aM_shapes aM_pile aM_met aM_next aM_inputs aM_then 256 M_sheet M_pieces M_warmth M_draw M_steps M_undoable M_brought M_taped M_shapeMany M_ended M_cut M_mostPieces M_walks M_walked M_strength M_kind M_more M_glues (0 : Int32) (v37 / (2 : Int32)) (p1 - (v37 - v37 / (2 : Int32) * (2 : Int32))) p2 _ hw) (cwV 5 hts gX8_of_X8_holdOf rfl rfl rfl pv_X8_holdOf ⟨Nat.le_of_ble_eq_true rfl, Nat.le_of_ble_eq_true rfl⟩) (cx_preV (wc := w_X8_holdOf cI cJ cZ cO aM_sheet aM aM_strength aM_kind aM_more aM_glues aM_sheet aM_since aM_imageStrength aM_imageKind aM_imageMore aM_imageGlues aM_imagePieces aM_imageWarmth aM_imageSheet aM_imageDraw aM_stepWhat aM_stepPiece aM_stepPlace aM_stepSince aM_tape aM_shapes aM_pile aM_met aM_next aM_inputs aM_then 256 M_sheet M_pieces M_warmth M_draw M_steps M_undoable M_brought M_taped M_shapeMany M_ended M_cut M_mostPieces M_walks M_walked M_strength M_kind M_more M_glues) hE hK hP hD hS hA [5, 0, 1, 2, 3, 4] rfl rfl (va_recv hK hP (ci := 8) (q0 := 0) rfl rfl)) rfl rfl hl.1 rfl (lv_room (Nat.le_of_ble_eq_true rfl)) dX8_of_142 ⟨Nat.le_of_ble_eq_true rfl, Nat.le_of_ble_eq_true rfl⟩) (fun (_ : Unit) => (w_X8_of cI cJ cZ cO aM aM_strength aM_kind aM_more aM_glues aM_sheet aM_since aM_imageStrength aM_imageKind aM_imageMore aM_imageGlues aM_imagePieces aM_imageWarmth aM_imageSheet aM_imageDraw aM_stepWhat aM_stepPiece aM_stepPlace aM_stepSince aM_tape aM_shapes aM_pile aM_met aM_next aM_inputs aM_then M_pieces M_warmth M_draw M_steps M_undoable M_brought M_taped M_shapeMany M_ended M_cut M_mostPieces M_walks M_walked M_strength M_kind M_more M_glues M_sheet M_since)) [5, 0, 1, 2, 3, 4] [6] (ads := [aM_sheet, aM, aM_strength, aM_kind, aM_more, aM_glues]) (wr := [(aM_since, .inl (cI, 256, .inl M_since))]) rfl rfl (fun u => rfl) (fun u => rfl) rfl (fun u => rfl) rfl (fun u => rfl) rfl hP hD hS hA (fun r142 u H locs hw hP hD hS => ?_)
        have hP : va_P D vwCl (w_X8_of cI cJ cZ cO aM aM_strength aM_kind aM_more aM_glues aM_sheet aM_since aM_imageStrength aM_imageKind aM_imageMore aM_imageGlues aM_imagePieces aM_imageWarmth aM_imageSheet aM_imageDraw aM_stepWhat aM_stepPiece aM_stepPlace aM_stepSince aM_tape aM_shapes aM_pile aM_met aM_next aM_inputs aM_then M_pieces M_warmth M_draw M_steps M_undoable M_brought M_taped M_shapeMany M_ended M_cut M_mostPieces M_walks M_walked M_strength M_kind M_more M_glues M_sheet M_since) H := hP
        have hD : va_D A (w_X8_of cI cJ cZ cO aM aM_strength aM_kind aM_more aM_glues aM_sheet aM_since aM_imageStrength aM_imageKind aM_imageMore aM_imageGlues aM_imagePieces aM_imageWarmth aM_imageSheet aM_imageDraw aM_stepWhat aM_stepPiece aM_stepPlace aM_stepSince aM_tape aM_shapes aM_pile aM_met aM_next aM_inputs aM_then M_pieces M_warmth M_draw M_steps M_undoable M_brought M_taped M_shapeMany M_ended M_cut M_mostPieces M_walks M_walked M_strength M_kind M_more M_glues M_sheet M_since) := hD
        rw [hZ]
        exact cx_reti () hx hb hr hlocks hw hP hS dX8_of_145
      by_cases c40_3 : p3 = (3 : Int32)
      · have hw := hw.2.2.2.1 c40_3
        refine lv_tableIn (tgt := 146) hx hb dX8_of_40 (by rw [c40_3]; decide) (by rw [c40_3]; decide) (by rw [c40_3]; rfl) (by decide) ?_
        refine lv_aload_n hx hb dX8_of_146 rfl (lv_at hl 1 rfl) ?_
        refine va_get (D := D) (ci := 8) (v := .ref aM_since) (C := RX8) (T := TX8) (N := 38) hx hb hts in_X8_of_X8 hown hK hP 0 rfl rfl 8 (by decide) k_3 (fun _ h9 => h9) rfl dX8_of_147 ?_
        refine lv_iload_n hx hb dX8_of_150 rfl (lv_at hl 2 rfl) ?_
        refine lv_bipush (v := (16 : Int32)) hx hb dX8_of_151 kB_16 ?_
        refine lv_iload_n hx hb dX8_of_153 rfl (lv_at hl 3 rfl) ?_
        refine lv_imul hx hb dX8_of_154 ?_
        refine lv_iadd hx hb dX8_of_155 ?_
        have h156 := hw.1
        have hw := hw.2
        refine va_iald hx hb hK hP 6 0 rfl rfl h156 dX8_of_156 ?_
        refine lv_topi (fun v156 e156 => ?_)
        have hw := hw v156 e156
        rw [hZ]
        exact cx_reti () hx hb hr hlocks hw hP hS dX8_of_157
      have hw := hw.2.2.2.2 c40_0 c40_1 c40_2 c40_3
      refine lv_tableOut (tgt := 158) hx hb dX8_of_40 (cx_sw4 p3 c40_0 c40_1 c40_2 c40_3) (by decide) ?_
      refine lv_iconst (v := (-1 : Int32)) hx hb dX8_of_158 kI_m1 ?_
      rw [hZ]
      exact cx_reti () hx hb hr hlocks hw hP hS dX8_of_159
    · have hw := hw.2 c19
      refine lv_iconst (v := (-1 : Int32)) hx hb dX8_of_22 kI_m1 ?_
      rw [hZ]
      exact cx_reti () hx hb hr hlocks hw hP hS dX8_of_23
set_option maxRecDepth 100000 in
set_option maxHeartbeats 4000000 in
theorem c_X8_found (l : Launch) (D : va_G) (cI cJ cZ cO : ClassId) (tS tT : Nat) (sz : Nat) (aM aM_strength aM_kind aM_more aM_glues aM_sheet aM_since aM_imageStrength aM_imageKind aM_imageMore aM_imageGlues aM_imagePieces aM_imageWarmth aM_imageSheet aM_imageDraw aM_stepWhat aM_stepPiece aM_stepPlace aM_stepSince aM_tape aM_shapes aM_pile aM_met aM_next aM_inputs aM_then : Nat) (M_pieces : Int32) (M_warmth : Int32) (M_draw : Int64) (M_steps : Int32) (M_undoable : Int32) (M_brought : Int32) (M_taped : Int32) (M_shapeMany : Int32) (M_ended : Int32) (M_cut : Int32) (M_mostPieces : Int32) (M_walks : Int32) (M_walked : Int32) (M_shapes : Nat → Int32) (M_next : Nat → Int32) (Q : Int32 → Prop) (hw : wp_X8_found M_shapes M_shapeMany M_next Q) : Met l yX8_found wsX8_found rm_X8_found (va_Pc [.ref aM] (cx_B tS tT cI cJ cZ cO D sz (w_X8_found cI cJ cZ cO aM aM_strength aM_kind aM_more aM_glues aM_sheet aM_since aM_imageStrength aM_imageKind aM_imageMore aM_imageGlues aM_imagePieces aM_imageWarmth aM_imageSheet aM_imageDraw aM_stepWhat aM_stepPiece aM_stepPlace aM_stepSince aM_tape aM_shapes aM_pile aM_met aM_next aM_inputs aM_then M_pieces M_warmth M_draw M_steps M_undoable M_brought M_taped M_shapeMany M_ended M_cut M_mostPieces M_walks M_walked M_shapes M_next))) (va_Qi (fun (r : Int32) (_ : Unit) => Q r) (fun (u : Unit) t => va_P D vwCl (w_X8_found cI cJ cZ cO aM aM_strength aM_kind aM_more aM_glues aM_sheet aM_since aM_imageStrength aM_imageKind aM_imageMore aM_imageGlues aM_imagePieces aM_imageWarmth aM_imageSheet aM_imageDraw aM_stepWhat aM_stepPiece aM_stepPlace aM_stepSince aM_tape aM_shapes aM_pile aM_met aM_next aM_inputs aM_then M_pieces M_warmth M_draw M_steps M_undoable M_brought M_taped M_shapeMany M_ended M_cut M_mostPieces M_walks M_walked M_shapes M_next) t.heap) (va_A (w_X8_found cI cJ cZ cO aM aM_strength aM_kind aM_more aM_glues aM_sheet aM_since aM_imageStrength aM_imageKind aM_imageMore aM_imageGlues aM_imagePieces aM_imageWarmth aM_imageSheet aM_imageDraw aM_stepWhat aM_stepPiece aM_stepPlace aM_stepSince aM_tape aM_shapes aM_pile aM_met aM_next aM_inputs aM_then M_pieces M_warmth M_draw M_steps M_undoable M_brought M_taped M_shapeMany M_ended M_cut M_mostPieces M_walks M_walked M_shapes M_next) sz)) 0 0 (va_A (w_X8_found cI cJ cZ cO aM aM_strength aM_kind aM_more aM_glues aM_sheet aM_since aM_imageStrength aM_imageKind aM_imageMore aM_imageGlues aM_imagePieces aM_imageWarmth aM_imageSheet aM_imageDraw aM_stepWhat aM_stepPiece aM_stepPlace aM_stepSince aM_tape aM_shapes aM_pile aM_met aM_next aM_inputs aM_then M_pieces M_warmth M_draw M_steps M_undoable M_brought M_taped M_shapeMany M_ended M_cut M_mostPieces M_walks M_walked M_shapes M_next) sz) := by
  refine cx_met (cc := cX8_found) (maxL := 4) (ret := (some .int)) (Qc := fun A => va_Qi (fun (r : Int32) (_ : Unit) => Q r) (fun (u : Unit) t => va_P D vwCl (w_X8_found cI cJ cZ cO aM aM_strength aM_kind aM_more aM_glues aM_sheet aM_since aM_imageStrength aM_imageKind aM_imageMore aM_imageGlues aM_imagePieces aM_imageWarmth aM_imageSheet aM_imageDraw aM_stepWhat aM_stepPiece aM_stepPlace aM_stepSince aM_tape aM_shapes aM_pile aM_met aM_next aM_inputs aM_then M_pieces M_warmth M_draw M_steps M_undoable M_brought M_taped M_shapeMany M_ended M_cut M_mostPieces M_walks M_walked M_shapes M_next) t.heap) A) (lv := [(0, .ref aM)]) (by decide) rfl (Nat.le_of_ble_eq_true rfl) rfl ?_
  intro p e s m args below meth c A Z hx hb hr hlocks hts hown hml hE hK hA hZ
  have hown : s.vm.findClass RX8 = some m.cls := hown
  have k_0 := hts (.fieldLink RX8 73 "GrowingTilesModel" "shapes" "[I") (List.mem_of_getElem? (i := 2) (by decide +kernel))
  have k_1 := hts (.fieldLink RX8 83 "GrowingTilesModel" "next" "[I") (List.mem_of_getElem? (i := 3) (by decide +kernel))
  have k_2 := hts (.fieldLink RX8 210 "GrowingTilesModel" "shapeMany" "I") (List.mem_of_getElem? (i := 1) (by decide +kernel))
  have b_2 : ∀ n_2 : Nat, ∀ (x1 : Int32), wq_X8_found_2 M_shapes M_shapeMany M_next Q n_2 x1 → ∀ (H : Heap) (locs : List Loc), va_P D vwCl (w_X8_found cI cJ cZ cO aM aM_strength aM_kind aM_more aM_glues aM_sheet aM_since aM_imageStrength aM_imageKind aM_imageMore aM_imageGlues aM_imagePieces aM_imageWarmth aM_imageSheet aM_imageDraw aM_stepWhat aM_stepPiece aM_stepPlace aM_stepSince aM_tape aM_shapes aM_pile aM_met aM_next aM_inputs aM_then M_pieces M_warmth M_draw M_steps M_undoable M_brought M_taped M_shapeMany M_ended M_cut M_mostPieces M_walks M_walked M_shapes M_next) H → va_D A (w_X8_found cI cJ cZ cO aM aM_strength aM_kind aM_more aM_glues aM_sheet aM_since aM_imageStrength aM_imageKind aM_imageMore aM_imageGlues aM_imagePieces aM_imageWarmth aM_imageSheet aM_imageDraw aM_stepWhat aM_stepPiece aM_stepPlace aM_stepSince aM_tape aM_shapes aM_pile aM_met aM_next aM_inputs aM_then M_pieces M_warmth M_draw M_steps M_undoable M_brought M_taped M_shapeMany M_ended M_cut M_mostPieces M_walks M_walked M_shapes M_next) → va_S A s.heap H locs → ∀ ls : Array Slot, lv_has ls 4 [(0, .ref aM), (1, .int x1)] → W p l e rm_X8_found s m args below meth c H locs 0 0 Z (F0 m 2 ls []) := by
    intro n_2
    induction n_2 with
    | zero => intro x1 hw; exact False.elim hw
    | succ n_2 ih_2 =>
      have b_58 : ∀ (x1 : Int32) (x2 : Int32), wq_X8_found_58 M_shapes M_shapeMany M_next (wq_X8_found_2 M_shapes M_shapeMany M_next Q n_2) Q x1 x2 → ∀ (H : Heap) (locs : List Loc), va_P D vwCl (w_X8_found cI cJ cZ cO aM aM_strength aM_kind aM_more aM_glues aM_sheet aM_since aM_imageStrength aM_imageKind aM_imageMore aM_imageGlues aM_imagePieces aM_imageWarmth aM_imageSheet aM_imageDraw aM_stepWhat aM_stepPiece aM_stepPlace aM_stepSince aM_tape aM_shapes aM_pile aM_met aM_next aM_inputs aM_then M_pieces M_warmth M_draw M_steps M_undoable M_brought M_taped M_shapeMany M_ended M_cut M_mostPieces M_walks M_walked M_shapes M_next) H → va_D A (w_X8_found cI cJ cZ cO aM aM_strength aM_kind aM_more aM_glues aM_sheet aM_since aM_imageStrength aM_imageKind aM_imageMore aM_imageGlues aM_imagePieces aM_imageWarmth aM_imageSheet aM_imageDraw aM_stepWhat aM_stepPiece aM_stepPlace aM_stepSince aM_tape aM_shapes aM_pile aM_met aM_next aM_inputs aM_then M_pieces M_warmth M_draw M_steps M_undoable M_brought M_taped M_shapeMany M_ended M_cut M_mostPieces M_walks M_walked M_shapes M_next) → va_S A s.heap H locs → ∀ ls : Array Slot, lv_has ls 4 [(0, .ref aM), (1, .int x1), (2, .int x2)] → W p l e rm_X8_found s m args below meth c H locs 0 0 Z (F0 m 58 ls []) := by
        intro x1 x2 hw H locs hP hD hS ls hl
        unfold wq_X8_found_58 at hw
        refine lv_iload_n hx hb dX8_found_58 rfl (lv_at hl 2 rfl) ?_
        refine lv_if_eq (tgt := 64) hx hb dX8_found_59 (by decide) (fun c59 => ?_) (fun c59 => ?_)
        · have hw := hw.1 c59
          obtain ⟨v64, e64⟩ : ∃ y : Int32, y = x1 + (1 : Int32) := ⟨_, rfl⟩
          have hw := hw v64 e64
          refine lv_iinc (v := v64) (lv' := [(1, .int v64), (0, .ref aM), (2, .int x2)]) hx hb dX8_found_64 hl (k := 1) rfl (by rw [e64, kI_1]) (by decide) rfl (fun ls hl => ?_)
          refine lv_goto (tgt := 2) hx hb dX8_found_67 (by decide) ?_
          exact ih_2 v64 hw H locs hP hD hS ls (lv_sub hl [1, 0] rfl)
        · have hw := hw.2 c59
          refine lv_iload_n hx hb dX8_found_62 rfl (lv_at hl 1 rfl) ?_
          rw [hZ]
          exact cx_reti () hx hb hr hlocks hw hP hS dX8_found_63
      have b_14 : ∀ n_14 : Nat, ∀ (x1 : Int32) (x2 : Int32) (x3 : Int32), wq_X8_found_14 M_shapes M_shapeMany M_next (wq_X8_found_2 M_shapes M_shapeMany M_next Q n_2) Q n_14 x1 x2 x3 → ∀ (H : Heap) (locs : List Loc), va_P D vwCl (w_X8_found cI cJ cZ cO aM aM_strength aM_kind aM_more aM_glues aM_sheet aM_since aM_imageStrength aM_imageKind aM_imageMore aM_imageGlues aM_imagePieces aM_imageWarmth aM_imageSheet aM_imageDraw aM_stepWhat aM_stepPiece aM_stepPlace aM_stepSince aM_tape aM_shapes aM_pile aM_met aM_next aM_inputs aM_then M_pieces M_warmth M_draw M_steps M_undoable M_brought M_taped M_shapeMany M_ended M_cut M_mostPieces M_walks M_walked M_shapes M_next) H → va_D A (w_X8_found cI cJ cZ cO aM aM_strength aM_kind aM_more aM_glues aM_sheet aM_since aM_imageStrength aM_imageKind aM_imageMore aM_imageGlues aM_imagePieces aM_imageWarmth aM_imageSheet aM_imageDraw aM_stepWhat aM_stepPiece aM_stepPlace aM_stepSince aM_tape aM_shapes aM_pile aM_met aM_next aM_inputs aM_then M_pieces M_warmth M_draw M_steps M_undoable M_brought M_taped M_shapeMany M_ended M_cut M_mostPieces M_walks M_walked M_shapes M_next) → va_S A s.heap H locs → ∀ ls : Array Slot, lv_has ls 4 [(0, .ref aM), (1, .int x1), (2, .int x2), (3, .int x3)] → W p l e rm_X8_found s m args below meth c H locs 0 0 Z (F0 m 14 ls []) := by
        intro n_14
        induction n_14 with
        | zero => intro x1 x2 x3 hw; exact False.elim hw
        | succ n_14 ih_14 =>
          intro x1 x2 x3 hw H locs hP hD hS ls hl
          have hw : wf_X8_found_14 M_shapes M_shapeMany M_next (wq_X8_found_2 M_shapes M_shapeMany M_next Q n_2) Q (wq_X8_found_14 M_shapes M_shapeMany M_next (wq_X8_found_2 M_shapes M_shapeMany M_next Q n_2) Q n_14) x1 x2 x3 := hw
          unfold wf_X8_found_14 at hw
          refine lv_iload_n hx hb dX8_found_14 rfl (lv_at hl 3 rfl) ?_
          refine lv_sipush (v := (256 : Int32)) hx hb dX8_found_15 kS_256 ?_
          refine lv_icmp_ge (tgt := 58) hx hb dX8_found_18 (by decide) (fun c18 => ?_) (fun c18 => ?_)
          · have hw := hw.1 c18
            exact b_58 x1 x2 hw H locs hP hD hS ls (lv_sub hl [0, 1, 2] rfl)
          · have hw := hw.2 c18
            refine lv_iload_n hx hb dX8_found_21 rfl (lv_at hl 2 rfl) ?_
            refine lv_if_eq (tgt := 58) hx hb dX8_found_22 (by decide) (fun c22 => ?_) (fun c22 => ?_)
            · have hw := hw.1 c22
              exact b_58 x1 x2 hw H locs hP hD hS ls (lv_sub hl [0, 1, 2] rfl)
            · have hw := hw.2 c22
              refine lv_aload_n hx hb dX8_found_25 rfl (lv_at hl 0 rfl) ?_
              refine va_get (D := D) (ci := 8) (v := .ref aM_shapes) (C := RX8) (T := TX8) (N := 38) hx hb hts in_X8_found_X8 hown hK hP 0 rfl rfl 26 (by decide) k_0 (fun _ h9 => h9) rfl dX8_found_26 ?_
              refine lv_sipush (v := (256 : Int32)) hx hb dX8_found_29 kS_256 ?_
              refine lv_iload_n hx hb dX8_found_32 rfl (lv_at hl 1 rfl) ?_
              refine lv_imul hx hb dX8_found_33 ?_
              refine lv_iload_n hx hb dX8_found_34 rfl (lv_at hl 3 rfl) ?_
              refine lv_iadd hx hb dX8_found_35 ?_
              have h36 := hw.1
              have hw := hw.2
              refine va_iald hx hb hK hP 1 0 rfl rfl h36 dX8_found_36 ?_
              refine lv_topi (fun v36 e36 => ?_)
              have hw := hw v36 e36
              refine lv_aload_n hx hb dX8_found_37 rfl (lv_at hl 0 rfl) ?_
              refine va_get (D := D) (ci := 8) (v := .ref aM_next) (C := RX8) (T := TX8) (N := 38) hx hb hts in_X8_found_X8 hown hK hP 0 rfl rfl 35 (by decide) k_1 (fun _ h9 => h9) rfl dX8_found_38 ?_
              refine lv_iload_n hx hb dX8_found_41 rfl (lv_at hl 3 rfl) ?_
              have h42 := hw.1
              have hw := hw.2
              refine va_iald hx hb hK hP 2 0 rfl rfl h42 dX8_found_42 ?_
              refine lv_topi (fun v42 e42 => ?_)
              have hw := hw v42 e42
              refine lv_icmp_ne (tgt := 50) hx hb dX8_found_43 (by decide) (fun c43 => ?_) (fun c43 => ?_)
              · have hw := hw.1 c43
                refine lv_iconst (v := (0 : Int32)) hx hb dX8_found_50 kI_0 ?_
                refine lv_istore_n (lv' := [(2, .int (0 : Int32)), (0, .ref aM), (1, .int x1), (3, .int x3)]) hx hb dX8_found_51 rfl hl (by decide) rfl (fun ls hl => ?_)
                obtain ⟨v52, e52⟩ : ∃ y : Int32, y = x3 + (1 : Int32) := ⟨_, rfl⟩
                have hw := hw v52 e52
                refine lv_iinc (v := v52) (lv' := [(3, .int v52), (2, .int (0 : Int32)), (0, .ref aM), (1, .int x1)]) hx hb dX8_found_52 hl (k := 3) rfl (by rw [e52, kI_1]) (by decide) rfl (fun ls hl => ?_)
                refine lv_goto (tgt := 14) hx hb dX8_found_55 (by decide) ?_
                exact ih_14 x1 (0 : Int32) v52 hw H locs hP hD hS ls (lv_sub hl [2, 3, 1, 0] rfl)
              · have hw := hw.2 c43
                refine lv_iconst (v := (1 : Int32)) hx hb dX8_found_46 kI_1 ?_
                refine lv_goto (tgt := 51) hx hb dX8_found_47 (by decide) ?_
                refine lv_istore_n (lv' := [(2, .int (1 : Int32)), (0, .ref aM), (1, .int x1), (3, .int x3)]) hx hb dX8_found_51 rfl hl (by decide) rfl (fun ls hl => ?_)
                obtain ⟨v52, e52⟩ : ∃ y : Int32, y = x3 + (1 : Int32) := ⟨_, rfl⟩
                have hw := hw v52 e52
                refine lv_iinc (v := v52) (lv' := [(3, .int v52), (2, .int (1 : Int32)), (0, .ref aM), (1, .int x1)]) hx hb dX8_found_52 hl (k := 3) rfl (by rw [e52, kI_1]) (by decide) rfl (fun ls hl => ?_)
                refine lv_goto (tgt := 14) hx hb dX8_found_55 (by decide) ?_
                exact ih_14 x1 (1 : Int32) v52 hw H locs hP hD hS ls (lv_sub hl [2, 3, 1, 0] rfl)
      intro x1 hw H locs hP hD hS ls hl
      have hw : wf_X8_found_2 M_shapes M_shapeMany M_next Q (wq_X8_found_2 M_shapes M_shapeMany M_next Q n_2) x1 := hw
      unfold wf_X8_found_2 at hw
      refine lv_iload_n hx hb dX8_found_2 rfl (lv_at hl 1 rfl) ?_
      refine lv_aload_n hx hb dX8_found_3 rfl (lv_at hl 0 rfl) ?_
      refine va_get (D := D) (ci := 8) (v := .int M_shapeMany) (C := RX8) (T := TX8) (N := 38) hx hb hts in_X8_found_X8 hown hK hP 0 rfl rfl 27 (by decide) k_2 (fun _ h9 => h9) rfl dX8_found_4 ?_
      refine lv_icmp_ge (tgt := 70) hx hb dX8_found_7 (by decide) (fun c7 => ?_) (fun c7 => ?_)
      · have hw := hw.1 c7
        refine lv_iconst (v := (-1 : Int32)) hx hb dX8_found_70 kI_m1 ?_
        rw [hZ]
        exact cx_reti () hx hb hr hlocks hw hP hS dX8_found_71
      · have hw := hw.2 c7
        refine lv_iconst (v := (1 : Int32)) hx hb dX8_found_10 kI_1 ?_
        refine lv_istore_n (lv' := [(2, .int (1 : Int32)), (0, .ref aM), (1, .int x1)]) hx hb dX8_found_11 rfl hl (by decide) rfl (fun ls hl => ?_)
        refine lv_iconst (v := (0 : Int32)) hx hb dX8_found_12 kI_0 ?_
        refine lv_istore_n (lv' := [(3, .int (0 : Int32)), (2, .int (1 : Int32)), (0, .ref aM), (1, .int x1)]) hx hb dX8_found_13 rfl hl (by decide) rfl (fun ls hl => ?_)
        obtain ⟨k, hw⟩ := hw
        exact b_14 k x1 (1 : Int32) (0 : Int32) hw H locs hP hD hS ls (lv_sub hl [2, 3, 1, 0] rfl)
  intro H locs hP hD hS ls hl
  unfold wp_X8_found at hw
  refine lv_iconst (v := (0 : Int32)) hx hb dX8_found_0 kI_0 ?_
  refine lv_istore_n (lv' := [(1, .int (0 : Int32)), (0, .ref aM)]) hx hb dX8_found_1 rfl hl (by decide) rfl (fun ls hl => ?_)
  obtain ⟨k, hw⟩ := hw
  exact b_2 k (0 : Int32) hw H locs hP hD hS ls (lv_sub hl [1, 0] rfl)
set_option maxRecDepth 100000 in
set_option maxHeartbeats 4000000 in
theorem c_X8_walk (l : Launch) (D : va_G) (cI cJ cZ cO : ClassId) (tS tT : Nat) (sz : Nat) (aM aM_strength aM_kind aM_more aM_glues aM_sheet aM_since aM_imageStrength aM_imageKind aM_imageMore aM_imageGlues aM_imagePieces aM_imageWarmth aM_imageSheet aM_imageDraw aM_stepWhat aM_stepPiece aM_stepPlace aM_stepSince aM_tape aM_shapes aM_pile aM_met aM_next aM_inputs aM_then : Nat) (M_pieces : Int32) (M_warmth : Int32) (M_draw : Int64) (M_steps : Int32) (M_undoable : Int32) (M_brought : Int32) (M_taped : Int32) (M_shapeMany : Int32) (M_ended : Int32) (M_cut : Int32) (M_mostPieces : Int32) (M_walks : Int32) (M_walked : Int32) (M_strength : Nat → Int32) (M_kind : Nat → Int32) (M_more : Nat → Int32) (M_glues : Nat → Int32) (M_sheet : Nat → Int32) (M_shapes : Nat → Int32) (M_next : Nat → Int32) (p1 : Int32) (Q : Int32 → (Nat → Int32) → (Int32) → (Int32) → (Int32) → (Int32) → (Int32) → (Int32) → (Nat → Int32) → Prop) (hw : wp_X8_walk M_strength M_kind M_more M_glues M_pieces M_warmth M_sheet M_shapes M_shapeMany M_ended M_cut M_mostPieces M_walks M_walked M_next p1 Q) : Met l yX8_walk wsX8_walk rm_X8_walk (va_Pc [.ref aM, .int p1] (cx_B tS tT cI cJ cZ cO D sz (w_X8_walk cI cJ cZ cO aM aM_strength aM_kind aM_more aM_glues aM_sheet aM_since aM_imageStrength aM_imageKind aM_imageMore aM_imageGlues aM_imagePieces aM_imageWarmth aM_imageSheet aM_imageDraw aM_stepWhat aM_stepPiece aM_stepPlace aM_stepSince aM_tape aM_shapes aM_pile aM_met aM_next aM_inputs aM_then M_pieces M_warmth M_draw M_steps M_undoable M_brought M_taped M_shapeMany M_ended M_cut M_mostPieces M_walks M_walked M_strength M_kind M_more M_glues M_sheet M_shapes M_next))) (va_Qi (fun (r : Int32) (u : (Nat → Int32) × (Int32) × (Int32) × (Int32) × (Int32) × (Int32) × (Int32) × (Nat → Int32)) => Q r u.1 u.2.1 u.2.2.1 u.2.2.2.1 u.2.2.2.2.1 u.2.2.2.2.2.1 u.2.2.2.2.2.2.1 u.2.2.2.2.2.2.2) (fun (u : (Nat → Int32) × (Int32) × (Int32) × (Int32) × (Int32) × (Int32) × (Int32) × (Nat → Int32)) t => va_P D vwCl (w_X8_walk cI cJ cZ cO aM aM_strength aM_kind aM_more aM_glues aM_sheet aM_since aM_imageStrength aM_imageKind aM_imageMore aM_imageGlues aM_imagePieces aM_imageWarmth aM_imageSheet aM_imageDraw aM_stepWhat aM_stepPiece aM_stepPlace aM_stepSince aM_tape aM_shapes aM_pile aM_met aM_next aM_inputs aM_then M_pieces M_warmth M_draw M_steps M_undoable M_brought M_taped u.2.1 u.2.2.1 u.2.2.2.1 u.2.2.2.2.1 u.2.2.2.2.2.1 u.2.2.2.2.2.2.1 M_strength M_kind M_more M_glues M_sheet u.1 u.2.2.2.2.2.2.2) t.heap) (va_A (w_X8_walk cI cJ cZ cO aM aM_strength aM_kind aM_more aM_glues aM_sheet aM_since aM_imageStrength aM_imageKind aM_imageMore aM_imageGlues aM_imagePieces aM_imageWarmth aM_imageSheet aM_imageDraw aM_stepWhat aM_stepPiece aM_stepPlace aM_stepSince aM_tape aM_shapes aM_pile aM_met aM_next aM_inputs aM_then M_pieces M_warmth M_draw M_steps M_undoable M_brought M_taped M_shapeMany M_ended M_cut M_mostPieces M_walks M_walked M_strength M_kind M_more M_glues M_sheet M_shapes M_next) sz)) 0 0 (va_A (w_X8_walk cI cJ cZ cO aM aM_strength aM_kind aM_more aM_glues aM_sheet aM_since aM_imageStrength aM_imageKind aM_imageMore aM_imageGlues aM_imagePieces aM_imageWarmth aM_imageSheet aM_imageDraw aM_stepWhat aM_stepPiece aM_stepPlace aM_stepSince aM_tape aM_shapes aM_pile aM_met aM_next aM_inputs aM_then M_pieces M_warmth M_draw M_steps M_undoable M_brought M_taped M_shapeMany M_ended M_cut M_mostPieces M_walks M_walked M_strength M_kind M_more M_glues M_sheet M_shapes M_next) sz) := by
  refine cx_met (cc := cX8_walk) (maxL := 9) (ret := (some .int)) (Qc := fun A => va_Qi (fun (r : Int32) (u : (Nat → Int32) × (Int32) × (Int32) × (Int32) × (Int32) × (Int32) × (Int32) × (Nat → Int32)) => Q r u.1 u.2.1 u.2.2.1 u.2.2.2.1 u.2.2.2.2.1 u.2.2.2.2.2.1 u.2.2.2.2.2.2.1 u.2.2.2.2.2.2.2) (fun (u : (Nat → Int32) × (Int32) × (Int32) × (Int32) × (Int32) × (Int32) × (Int32) × (Nat → Int32)) t => va_P D vwCl (w_X8_walk cI cJ cZ cO aM aM_strength aM_kind aM_more aM_glues aM_sheet aM_since aM_imageStrength aM_imageKind aM_imageMore aM_imageGlues aM_imagePieces aM_imageWarmth aM_imageSheet aM_imageDraw aM_stepWhat aM_stepPiece aM_stepPlace aM_stepSince aM_tape aM_shapes aM_pile aM_met aM_next aM_inputs aM_then M_pieces M_warmth M_draw M_steps M_undoable M_brought M_taped u.2.1 u.2.2.1 u.2.2.2.1 u.2.2.2.2.1 u.2.2.2.2.2.1 u.2.2.2.2.2.2.1 M_strength M_kind M_more M_glues M_sheet u.1 u.2.2.2.2.2.2.2) t.heap) A) (lv := [(0, .ref aM), (1, .int p1)]) (by decide) rfl (Nat.le_of_ble_eq_true rfl) rfl ?_
  intro p e s m args below meth c A Z hx hb hr hlocks hts hown hml hE hK hA hZ
  have hown : s.vm.findClass RX8 = some m.cls := hown
  have k_0 := hts (.fieldLink RX8 222 "GrowingTilesModel" "cut" "I") (List.mem_of_getElem? (i := 5) (by decide +kernel))
  have k_1 := hts (.fieldLink RX8 219 "GrowingTilesModel" "ended" "I") (List.mem_of_getElem? (i := 4) (by decide +kernel))
  have k_2 := hts (.fieldLink RX8 210 "GrowingTilesModel" "shapeMany" "I") (List.mem_of_getElem? (i := 7) (by decide +kernel))
  have k_3 := hts (.fieldLink RX8 83 "GrowingTilesModel" "next" "[I") (List.mem_of_getElem? (i := 10) (by decide +kernel))
  have k_4 := hts (.fieldLink RX8 225 "GrowingTilesModel" "mostPieces" "I") (List.mem_of_getElem? (i := 8) (by decide +kernel))
  have k_5 := hts (.fieldLink RX8 73 "GrowingTilesModel" "shapes" "[I") (List.mem_of_getElem? (i := 6) (by decide +kernel))
  have k_6 := hts (.fieldLink RX8 92 "GrowingTilesModel" "pieces" "I") (List.mem_of_getElem? (i := 9) (by decide +kernel))
  have k_7 := hts (.fieldLink RX8 26 "GrowingTilesModel" "sheet" "[I") (List.mem_of_getElem? (i := 1) (by decide +kernel))
  have k_8 := hts (.fieldLink RX8 213 "GrowingTilesModel" "walks" "I") (List.mem_of_getElem? (i := 2) (by decide +kernel))
  have k_9 := hts (.fieldLink RX8 216 "GrowingTilesModel" "walked" "Z") (List.mem_of_getElem? (i := 3) (by decide +kernel))
  have b_107 : ∀ n_107 : Nat, ∀ (M_shapes : Nat → Int32) (M_shapeMany : Int32) (M_ended : Int32) (M_cut : Int32) (M_mostPieces : Int32) (M_walks : Int32) (M_walked : Int32) (M_next : Nat → Int32) (x1 : Int32) (x2 : Int32), wq_X8_walk_107 M_strength M_kind M_more M_glues M_pieces M_warmth M_sheet Q n_107 M_shapes M_shapeMany M_ended M_cut M_mostPieces M_walks M_walked M_next x1 x2 → ∀ (H : Heap) (locs : List Loc), va_P D vwCl (w_X8_walk cI cJ cZ cO aM aM_strength aM_kind aM_more aM_glues aM_sheet aM_since aM_imageStrength aM_imageKind aM_imageMore aM_imageGlues aM_imagePieces aM_imageWarmth aM_imageSheet aM_imageDraw aM_stepWhat aM_stepPiece aM_stepPlace aM_stepSince aM_tape aM_shapes aM_pile aM_met aM_next aM_inputs aM_then M_pieces M_warmth M_draw M_steps M_undoable M_brought M_taped M_shapeMany M_ended M_cut M_mostPieces M_walks M_walked M_strength M_kind M_more M_glues M_sheet M_shapes M_next) H → va_D A (w_X8_walk cI cJ cZ cO aM aM_strength aM_kind aM_more aM_glues aM_sheet aM_since aM_imageStrength aM_imageKind aM_imageMore aM_imageGlues aM_imagePieces aM_imageWarmth aM_imageSheet aM_imageDraw aM_stepWhat aM_stepPiece aM_stepPlace aM_stepSince aM_tape aM_shapes aM_pile aM_met aM_next aM_inputs aM_then M_pieces M_warmth M_draw M_steps M_undoable M_brought M_taped M_shapeMany M_ended M_cut M_mostPieces M_walks M_walked M_strength M_kind M_more M_glues M_sheet M_shapes M_next) → va_S A s.heap H locs → ∀ ls : Array Slot, lv_has ls 9 [(0, .ref aM), (1, .int x1), (2, .int x2)] → W p l e rm_X8_walk s m args below meth c H locs 0 0 Z (F0 m 107 ls []) := by
    intro n_107
    induction n_107 with
    | zero => intro M_shapes M_shapeMany M_ended M_cut M_mostPieces M_walks M_walked M_next x1 x2 hw; exact False.elim hw
    | succ n_107 ih_107 =>
      have b_372 : ∀ (M_shapes : Nat → Int32) (M_shapeMany : Int32) (M_ended : Int32) (M_cut : Int32) (M_mostPieces : Int32) (M_walks : Int32) (M_walked : Int32) (M_next : Nat → Int32) (x1 : Int32) (x2 : Int32) (x4 : Int32) (x5 : Int32), wq_X8_walk_372 M_strength M_kind M_more M_glues M_pieces M_warmth M_sheet (wq_X8_walk_107 M_strength M_kind M_more M_glues M_pieces M_warmth M_sheet Q n_107) Q M_shapes M_shapeMany M_ended M_cut M_mostPieces M_walks M_walked M_next x1 x2 x4 x5 → ∀ (H : Heap) (locs : List Loc), va_P D vwCl (w_X8_walk cI cJ cZ cO aM aM_strength aM_kind aM_more aM_glues aM_sheet aM_since aM_imageStrength aM_imageKind aM_imageMore aM_imageGlues aM_imagePieces aM_imageWarmth aM_imageSheet aM_imageDraw aM_stepWhat aM_stepPiece aM_stepPlace aM_stepSince aM_tape aM_shapes aM_pile aM_met aM_next aM_inputs aM_then M_pieces M_warmth M_draw M_steps M_undoable M_brought M_taped M_shapeMany M_ended M_cut M_mostPieces M_walks M_walked M_strength M_kind M_more M_glues M_sheet M_shapes M_next) H → va_D A (w_X8_walk cI cJ cZ cO aM aM_strength aM_kind aM_more aM_glues aM_sheet aM_since aM_imageStrength aM_imageKind aM_imageMore aM_imageGlues aM_imagePieces aM_imageWarmth aM_imageSheet aM_imageDraw aM_stepWhat aM_stepPiece aM_stepPlace aM_stepSince aM_tape aM_shapes aM_pile aM_met aM_next aM_inputs aM_then M_pieces M_warmth M_draw M_steps M_undoable M_brought M_taped M_shapeMany M_ended M_cut M_mostPieces M_walks M_walked M_strength M_kind M_more M_glues M_sheet M_shapes M_next) → va_S A s.heap H locs → ∀ ls : Array Slot, lv_has ls 9 [(0, .ref aM), (1, .int x1), (2, .int x2), (4, .int x4), (5, .int x5)] → W p l e rm_X8_walk s m args below meth c H locs 0 0 Z (F0 m 372 ls []) := by
        intro M_shapes M_shapeMany M_ended M_cut M_mostPieces M_walks M_walked M_next x1 x2 x4 x5 hw H locs hP hD hS ls hl
        unfold wq_X8_walk_372 at hw
        refine lv_iload hx hb dX8_walk_372 (lv_at hl 4 rfl) ?_
        refine lv_if_ne (tgt := 390) hx hb dX8_walk_374 (by decide) (fun c374 => ?_) (fun c374 => ?_)
        · have hw := hw.1 c374
          refine lv_iload hx hb dX8_walk_390 (lv_at hl 3 rfl) ?_
          refine lv_if_eq (tgt := 405) hx hb dX8_walk_392 (by decide) (fun c392 => ?_) (fun c392 => ?_)
          · have hw := hw.1 c392
            obtain ⟨v405, e405⟩ : ∃ y : Int32, y = x2 + (1 : Int32) := ⟨_, rfl⟩
            have hw := hw v405 e405
            refine lv_iinc (v := v405) (lv' := [(2, .int v405), (0, .ref aM), (1, .int x1), (4, .int x4), (5, .int x5)]) hx hb dX8_walk_405 hl (k := 2) rfl (by rw [e405, kI_1]) (by decide) rfl (fun ls hl => ?_)
            refine lv_goto (tgt := 107) hx hb dX8_walk_408 (by decide) ?_
            exact ih_107 M_shapes M_shapeMany M_ended M_cut M_mostPieces M_walks M_walked M_next x1 v405 hw H locs hP hD hS ls (lv_sub hl [1, 2, 0] rfl)
          · have hw := hw.2 c392
            refine lv_aload_n hx hb dX8_walk_395 rfl (lv_at hl 0 rfl) ?_
            refine lv_dup hx hb dX8_walk_396 rfl ?_
            refine va_get (D := D) (ci := 8) (v := .int M_cut) (C := RX8) (T := TX8) (N := 38) hx hb hts in_X8_walk_X8 hown hK hP 0 rfl rfl 29 (by decide) k_0 (fun _ h9 => h9) rfl dX8_walk_397 ?_
            refine lv_iconst (v := (1 : Int32)) hx hb dX8_walk_400 kI_1 ?_
            refine lv_iadd hx hb dX8_walk_401 ?_
            refine lv_topi (fun M_cut_402 e402 => ?_)
            have hw := hw M_cut_402 e402
            refine va_put (D := D) (ci := 8) (v := .int M_cut_402) (ty := .int) (C := RX8) (T := TX8) (N := 38) hx hb hts in_X8_walk_X8 tyX8 tyX8_ok nmX8 hown hK hP hD hS 0 rfl rfl 29 (by decide) k_0 (fun _ h9 => h9) rfl (tyX8_ok 29 (by decide)) rfl rfl (Nat.le_of_ble_eq_true rfl) dX8_walk_402 (fun H locs hP hD hS => ?_)
            have hP : va_P D vwCl (w_X8_walk cI cJ cZ cO aM aM_strength aM_kind aM_more aM_glues aM_sheet aM_since aM_imageStrength aM_imageKind aM_imageMore aM_imageGlues aM_imagePieces aM_imageWarmth aM_imageSheet aM_imageDraw aM_stepWhat aM_stepPiece aM_stepPlace aM_stepSince aM_tape aM_shapes aM_pile aM_met aM_next aM_inputs aM_then M_pieces M_warmth M_draw M_steps M_undoable M_brought M_taped M_shapeMany M_ended M_cut_402 M_mostPieces M_walks M_walked M_strength M_kind M_more M_glues M_sheet M_shapes M_next) H := hP
            have hD : va_D A (w_X8_walk cI cJ cZ cO aM aM_strength aM_kind aM_more aM_glues aM_sheet aM_since aM_imageStrength aM_imageKind aM_imageMore aM_imageGlues aM_imagePieces aM_imageWarmth aM_imageSheet aM_imageDraw aM_stepWhat aM_stepPiece aM_stepPlace aM_stepSince aM_tape aM_shapes aM_pile aM_met aM_next aM_inputs aM_then M_pieces M_warmth M_draw M_steps M_undoable M_brought M_taped M_shapeMany M_ended M_cut_402 M_mostPieces M_walks M_walked M_strength M_kind M_more M_glues M_sheet M_shapes M_next) := hD
            obtain ⟨v405, e405⟩ : ∃ y : Int32, y = x2 + (1 : Int32) := ⟨_, rfl⟩
            have hw := hw v405 e405
            refine lv_iinc (v := v405) (lv' := [(2, .int v405), (0, .ref aM), (1, .int x1), (4, .int x4), (5, .int x5)]) hx hb dX8_walk_405 hl (k := 2) rfl (by rw [e405, kI_1]) (by decide) rfl (fun ls hl => ?_)
            refine lv_goto (tgt := 107) hx hb dX8_walk_408 (by decide) ?_
            exact ih_107 M_shapes M_shapeMany M_ended M_cut_402 M_mostPieces M_walks M_walked M_next x1 v405 hw H locs hP hD hS ls (lv_sub hl [1, 2, 0] rfl)
        · have hw := hw.2 c374
          refine lv_aload_n hx hb dX8_walk_377 rfl (lv_at hl 0 rfl) ?_
          refine lv_dup hx hb dX8_walk_378 rfl ?_
          refine va_get (D := D) (ci := 8) (v := .int M_ended) (C := RX8) (T := TX8) (N := 38) hx hb hts in_X8_walk_X8 hown hK hP 0 rfl rfl 28 (by decide) k_1 (fun _ h9 => h9) rfl dX8_walk_379 ?_
          refine lv_iconst (v := (1 : Int32)) hx hb dX8_walk_382 kI_1 ?_
          refine lv_iadd hx hb dX8_walk_383 ?_
          refine lv_topi (fun M_ended_384 e384 => ?_)
          have hw := hw M_ended_384 e384
          refine va_put (D := D) (ci := 8) (v := .int M_ended_384) (ty := .int) (C := RX8) (T := TX8) (N := 38) hx hb hts in_X8_walk_X8 tyX8 tyX8_ok nmX8 hown hK hP hD hS 0 rfl rfl 28 (by decide) k_1 (fun _ h9 => h9) rfl (tyX8_ok 28 (by decide)) rfl rfl (Nat.le_of_ble_eq_true rfl) dX8_walk_384 (fun H locs hP hD hS => ?_)
          have hP : va_P D vwCl (w_X8_walk cI cJ cZ cO aM aM_strength aM_kind aM_more aM_glues aM_sheet aM_since aM_imageStrength aM_imageKind aM_imageMore aM_imageGlues aM_imagePieces aM_imageWarmth aM_imageSheet aM_imageDraw aM_stepWhat aM_stepPiece aM_stepPlace aM_stepSince aM_tape aM_shapes aM_pile aM_met aM_next aM_inputs aM_then M_pieces M_warmth M_draw M_steps M_undoable M_brought M_taped M_shapeMany M_ended_384 M_cut M_mostPieces M_walks M_walked M_strength M_kind M_more M_glues M_sheet M_shapes M_next) H := hP
          have hD : va_D A (w_X8_walk cI cJ cZ cO aM aM_strength aM_kind aM_more aM_glues aM_sheet aM_since aM_imageStrength aM_imageKind aM_imageMore aM_imageGlues aM_imagePieces aM_imageWarmth aM_imageSheet aM_imageDraw aM_stepWhat aM_stepPiece aM_stepPlace aM_stepSince aM_tape aM_shapes aM_pile aM_met aM_next aM_inputs aM_then M_pieces M_warmth M_draw M_steps M_undoable M_brought M_taped M_shapeMany M_ended_384 M_cut M_mostPieces M_walks M_walked M_strength M_kind M_more M_glues M_sheet M_shapes M_next) := hD
          refine lv_goto (tgt := 405) hx hb dX8_walk_387 (by decide) ?_
          obtain ⟨v405, e405⟩ : ∃ y : Int32, y = x2 + (1 : Int32) := ⟨_, rfl⟩
          have hw := hw v405 e405
          refine lv_iinc (v := v405) (lv' := [(2, .int v405), (0, .ref aM), (1, .int x1), (4, .int x4), (5, .int x5)]) hx hb dX8_walk_405 hl (k := 2) rfl (by rw [e405, kI_1]) (by decide) rfl (fun ls hl => ?_)
          refine lv_goto (tgt := 107) hx hb dX8_walk_408 (by decide) ?_
          exact ih_107 M_shapes M_shapeMany M_ended_384 M_cut M_mostPieces M_walks M_walked M_next x1 v405 hw H locs hP hD hS ls (lv_sub hl [1, 2, 0] rfl)
      have b_147 : ∀ n_147 : Nat, ∀ (M_shapes : Nat → Int32) (M_shapeMany : Int32) (M_ended : Int32) (M_cut : Int32) (M_mostPieces : Int32) (M_walks : Int32) (M_walked : Int32) (M_next : Nat → Int32) (x1 : Int32) (x2 : Int32) (x3 : Int32) (x4 : Int32) (x5 : Int32) (x6 : Int32), wq_X8_walk_147 M_strength M_kind M_more M_glues M_pieces M_warmth M_sheet (wq_X8_walk_107 M_strength M_kind M_more M_glues M_pieces M_warmth M_sheet Q n_107) Q n_147 M_shapes M_shapeMany M_ended M_cut M_mostPieces M_walks M_walked M_next x1 x2 x3 x4 x5 x6 → ∀ (H : Heap) (locs : List Loc), va_P D vwCl (w_X8_walk cI cJ cZ cO aM aM_strength aM_kind aM_more aM_glues aM_sheet aM_since aM_imageStrength aM_imageKind aM_imageMore aM_imageGlues aM_imagePieces aM_imageWarmth aM_imageSheet aM_imageDraw aM_stepWhat aM_stepPiece aM_stepPlace aM_stepSince aM_tape aM_shapes aM_pile aM_met aM_next aM_inputs aM_then M_pieces M_warmth M_draw M_steps M_undoable M_brought M_taped M_shapeMany M_ended M_cut M_mostPieces M_walks M_walked M_strength M_kind M_more M_glues M_sheet M_shapes M_next) H → va_D A (w_X8_walk cI cJ cZ cO aM aM_strength aM_kind aM_more aM_glues aM_sheet aM_since aM_imageStrength aM_imageKind aM_imageMore aM_imageGlues aM_imagePieces aM_imageWarmth aM_imageSheet aM_imageDraw aM_stepWhat aM_stepPiece aM_stepPlace aM_stepSince aM_tape aM_shapes aM_pile aM_met aM_next aM_inputs aM_then M_pieces M_warmth M_draw M_steps M_undoable M_brought M_taped M_shapeMany M_ended M_cut M_mostPieces M_walks M_walked M_strength M_kind M_more M_glues M_sheet M_shapes M_next) → va_S A s.heap H locs → ∀ ls : Array Slot, lv_has ls 9 [(0, .ref aM), (1, .int x1), (2, .int x2), (3, .int x3), (4, .int x4), (5, .int x5), (6, .int x6)] → W p l e rm_X8_walk s m args below meth c H locs 0 0 Z (F0 m 147 ls []) := by
        intro n_147
        induction n_147 with
        | zero => intro M_shapes M_shapeMany M_ended M_cut M_mostPieces M_walks M_walked M_next x1 x2 x3 x4 x5 x6 hw; exact False.elim hw
        | succ n_147 ih_147 =>
          have b_168 : ∀ n_168 : Nat, ∀ (M_shapes : Nat → Int32) (M_shapeMany : Int32) (M_ended : Int32) (M_cut : Int32) (M_mostPieces : Int32) (M_walks : Int32) (M_walked : Int32) (M_next : Nat → Int32) (x1 : Int32) (x2 : Int32) (x3 : Int32) (x4 : Int32) (x5 : Int32) (x6 : Int32) (x7 : Int32), wq_X8_walk_168 M_strength M_kind M_more M_glues M_pieces M_warmth M_sheet (wq_X8_walk_107 M_strength M_kind M_more M_glues M_pieces M_warmth M_sheet Q n_107) (wq_X8_walk_147 M_strength M_kind M_more M_glues M_pieces M_warmth M_sheet (wq_X8_walk_107 M_strength M_kind M_more M_glues M_pieces M_warmth M_sheet Q n_107) Q n_147) Q n_168 M_shapes M_shapeMany M_ended M_cut M_mostPieces M_walks M_walked M_next x1 x2 x3 x4 x5 x6 x7 → ∀ (H : Heap) (locs : List Loc), va_P D vwCl (w_X8_walk cI cJ cZ cO aM aM_strength aM_kind aM_more aM_glues aM_sheet aM_since aM_imageStrength aM_imageKind aM_imageMore aM_imageGlues aM_imagePieces aM_imageWarmth aM_imageSheet aM_imageDraw aM_stepWhat aM_stepPiece aM_stepPlace aM_stepSince aM_tape aM_shapes aM_pile aM_met aM_next aM_inputs aM_then M_pieces M_warmth M_draw M_steps M_undoable M_brought M_taped M_shapeMany M_ended M_cut M_mostPieces M_walks M_walked M_strength M_kind M_more M_glues M_sheet M_shapes M_next) H → va_D A (w_X8_walk cI cJ cZ cO aM aM_strength aM_kind aM_more aM_glues aM_sheet aM_since aM_imageStrength aM_imageKind aM_imageMore aM_imageGlues aM_imagePieces aM_imageWarmth aM_imageSheet aM_imageDraw aM_stepWhat aM_stepPiece aM_stepPlace aM_stepSince aM_tape aM_shapes aM_pile aM_met aM_next aM_inputs aM_then M_pieces M_warmth M_draw M_steps M_undoable M_brought M_taped M_shapeMany M_ended M_cut M_mostPieces M_walks M_walked M_strength M_kind M_more M_glues M_sheet M_shapes M_next) → va_S A s.heap H locs → ∀ ls : Array Slot, lv_has ls 9 [(0, .ref aM), (1, .int x1), (2, .int x2), (3, .int x3), (4, .int x4), (5, .int x5), (6, .int x6), (7, .int x7)] → W p l e rm_X8_walk s m args below meth c H locs 0 0 Z (F0 m 168 ls []) := by
            intro n_168
            induction n_168 with
            | zero => intro M_shapes M_shapeMany M_ended M_cut M_mostPieces M_walks M_walked M_next x1 x2 x3 x4 x5 x6 x7 hw; exact False.elim hw
            | succ n_168 ih_168 =>
              have b_287 : ∀ n_287 : Nat, ∀ (M_shapes : Nat → Int32) (M_shapeMany : Int32) (M_ended : Int32) (M_cut : Int32) (M_mostPieces : Int32) (M_walks : Int32) (M_walked : Int32) (M_next : Nat → Int32) (x1 : Int32) (x2 : Int32) (x3 : Int32) (x4 : Int32) (x5 : Int32) (x6 : Int32) (x7 : Int32) (x8 : Int32), wq_X8_walk_287 M_strength M_kind M_more M_glues M_pieces M_warmth M_sheet (wq_X8_walk_107 M_strength M_kind M_more M_glues M_pieces M_warmth M_sheet Q n_107) (wq_X8_walk_147 M_strength M_kind M_more M_glues M_pieces M_warmth M_sheet (wq_X8_walk_107 M_strength M_kind M_more M_glues M_pieces M_warmth M_sheet Q n_107) Q n_147) (wq_X8_walk_168 M_strength M_kind M_more M_glues M_pieces M_warmth M_sheet (wq_X8_walk_107 M_strength M_kind M_more M_glues M_pieces M_warmth M_sheet Q n_107) (wq_X8_walk_147 M_strength M_kind M_more M_glues M_pieces M_warmth M_sheet (wq_X8_walk_107 M_strength M_kind M_more M_glues M_pieces M_warmth M_sheet Q n_107) Q n_147) Q n_168) Q n_287 M_shapes M_shapeMany M_ended M_cut M_mostPieces M_walks M_walked M_next x1 x2 x3 x4 x5 x6 x7 x8 → ∀ (H : Heap) (locs : List Loc), va_P D vwCl (w_X8_walk cI cJ cZ cO aM aM_strength aM_kind aM_more aM_glues aM_sheet aM_since aM_imageStrength aM_imageKind aM_imageMore aM_imageGlues aM_imagePieces aM_imageWarmth aM_imageSheet aM_imageDraw aM_stepWhat aM_stepPiece aM_stepPlace aM_stepSince aM_tape aM_shapes aM_pile aM_met aM_next aM_inputs aM_then M_pieces M_warmth M_draw M_steps M_undoable M_brought M_taped M_shapeMany M_ended M_cut M_mostPieces M_walks M_walked M_strength M_kind M_more M_glues M_sheet M_shapes M_next) H → va_D A (w_X8_walk cI cJ cZ cO aM aM_strength aM_kind aM_more aM_glues aM_sheet aM_since aM_imageStrength aM_imageKind aM_imageMore aM_imageGlues aM_imagePieces aM_imageWarmth aM_imageSheet aM_imageDraw aM_stepWhat aM_stepPiece aM_stepPlace aM_stepSince aM_tape aM_shapes aM_pile aM_met aM_next aM_inputs aM_then M_pieces M_warmth M_draw M_steps M_undoable M_brought M_taped M_shapeMany M_ended M_cut M_mostPieces M_walks M_walked M_strength M_kind M_more M_glues M_sheet M_shapes M_next) → va_S A s.heap H locs → ∀ ls : Array Slot, lv_has ls 9 [(0, .ref aM), (1, .int x1), (2, .int x2), (3, .int x3), (4, .int x4), (5, .int x5), (6, .int x6), (7, .int x7), (8, .int x8)] → W p l e rm_X8_walk s m args below meth c H locs 0 0 Z (F0 m 287 ls []) := by
                intro n_287
                induction n_287 with
                | zero => intro M_shapes M_shapeMany M_ended M_cut M_mostPieces M_walks M_walked M_next x1 x2 x3 x4 x5 x6 x7 x8 hw; exact False.elim hw
                | succ n_287 ih_287 =>
                  intro M_shapes M_shapeMany M_ended M_cut M_mostPieces M_walks M_walked M_next x1 x2 x3 x4 x5 x6 x7 x8 hw H locs hP hD hS ls hl
                  have hw : wf_X8_walk_287 M_strength M_kind M_more M_glues M_pieces M_warmth M_sheet (wq_X8_walk_107 M_strength M_kind M_more M_glues M_pieces M_warmth M_sheet Q n_107) (wq_X8_walk_147 M_strength M_kind M_more M_glues M_pieces M_warmth M_sheet (wq_X8_walk_107 M_strength M_kind M_more M_glues M_pieces M_warmth M_sheet Q n_107) Q n_147) (wq_X8_walk_168 M_strength M_kind M_more M_glues M_pieces M_warmth M_sheet (wq_X8_walk_107 M_strength M_kind M_more M_glues M_pieces M_warmth M_sheet Q n_107) (wq_X8_walk_147 M_strength M_kind M_more M_glues M_pieces M_warmth M_sheet (wq_X8_walk_107 M_strength M_kind M_more M_glues M_pieces M_warmth M_sheet Q n_107) Q n_147) Q n_168) Q (wq_X8_walk_287 M_strength M_kind M_more M_glues M_pieces M_warmth M_sheet (wq_X8_walk_107 M_strength M_kind M_more M_glues M_pieces M_warmth M_sheet Q n_107) (wq_X8_walk_147 M_strength M_kind M_more M_glues M_pieces M_warmth M_sheet (wq_X8_walk_107 M_strength M_kind M_more M_glues M_pieces M_warmth M_sheet Q n_107) Q n_147) (wq_X8_walk_168 M_strength M_kind M_more M_glues M_pieces M_warmth M_sheet (wq_X8_walk_107 M_strength M_kind M_more M_glues M_pieces M_warmth M_sheet Q n_107) (wq_X8_walk_147 M_strength M_kind M_more M_glues M_pieces M_warmth M_sheet (wq_X8_walk_107 M_strength M_kind M_more M_glues M_pieces M_warmth M_sheet Q n_107) Q n_147) Q n_168) Q n_287) M_shapes M_shapeMany M_ended M_cut M_mostPieces M_walks M_walked M_next x1 x2 x3 x4 x5 x6 x7 x8 := hw
                  unfold wf_X8_walk_287 at hw
                  refine lv_iload hx hb dX8_walk_287 (lv_at hl 8 rfl) ?_
                  refine lv_sipush (v := (256 : Int32)) hx hb dX8_walk_289 kS_256 ?_
                  refine lv_icmp_ge (tgt := 324) hx hb dX8_walk_292 (by decide) (fun c292 => ?_) (fun c292 => ?_)
                  · have hw := hw.1 c292
                    refine lv_aload_n hx hb dX8_walk_324 rfl (lv_at hl 0 rfl) ?_
                    refine lv_dup hx hb dX8_walk_325 rfl ?_
                    refine va_get (D := D) (ci := 8) (v := .int M_shapeMany) (C := RX8) (T := TX8) (N := 38) hx hb hts in_X8_walk_X8 hown hK hP 0 rfl rfl 27 (by decide) k_2 (fun _ h9 => h9) rfl dX8_walk_326 ?_
                    refine lv_iconst (v := (1 : Int32)) hx hb dX8_walk_329 kI_1 ?_
                    refine lv_iadd hx hb dX8_walk_330 ?_
                    refine lv_topi (fun M_shapeMany_331 e331 => ?_)
                    have hw := hw M_shapeMany_331 e331
                    refine va_put (D := D) (ci := 8) (v := .int M_shapeMany_331) (ty := .int) (C := RX8) (T := TX8) (N := 38) hx hb hts in_X8_walk_X8 tyX8 tyX8_ok nmX8 hown hK hP hD hS 0 rfl rfl 27 (by decide) k_2 (fun _ h9 => h9) rfl (tyX8_ok 27 (by decide)) rfl rfl (Nat.le_of_ble_eq_true rfl) dX8_walk_331 (fun H locs hP hD hS => ?_)
                    have hP : va_P D vwCl (w_X8_walk cI cJ cZ cO aM aM_strength aM_kind aM_more aM_glues aM_sheet aM_since aM_imageStrength aM_imageKind aM_imageMore aM_imageGlues aM_imagePieces aM_imageWarmth aM_imageSheet aM_imageDraw aM_stepWhat aM_stepPiece aM_stepPlace aM_stepSince aM_tape aM_shapes aM_pile aM_met aM_next aM_inputs aM_then M_pieces M_warmth M_draw M_steps M_undoable M_brought M_taped M_shapeMany_331 M_ended M_cut M_mostPieces M_walks M_walked M_strength M_kind M_more M_glues M_sheet M_shapes M_next) H := hP
                    have hD : va_D A (w_X8_walk cI cJ cZ cO aM aM_strength aM_kind aM_more aM_glues aM_sheet aM_since aM_imageStrength aM_imageKind aM_imageMore aM_imageGlues aM_imagePieces aM_imageWarmth aM_imageSheet aM_imageDraw aM_stepWhat aM_stepPiece aM_stepPlace aM_stepSince aM_tape aM_shapes aM_pile aM_met aM_next aM_inputs aM_then M_pieces M_warmth M_draw M_steps M_undoable M_brought M_taped M_shapeMany_331 M_ended M_cut M_mostPieces M_walks M_walked M_strength M_kind M_more M_glues M_sheet M_shapes M_next) := hD
                    refine lv_aload_n hx hb dX8_walk_334 rfl (lv_at hl 0 rfl) ?_
                    refine lv_aload_n hx hb dX8_walk_335 rfl (lv_at hl 0 rfl) ?_
                    refine va_get (D := D) (ci := 8) (v := .ref aM_next) (C := RX8) (T := TX8) (N := 38) hx hb hts in_X8_walk_X8 hown hK hP 0 rfl rfl 35 (by decide) k_3 (fun _ h9 => h9) rfl dX8_walk_336 ?_
                    refine lv_iconst (v := (0 : Int32)) hx hb dX8_walk_339 kI_0 ?_
                    refine cx_goi (va_runV (As := [.ref aM_next, .int (0 : Int32)]) (rest := []) ⟨hx, hb, hml, hown, hts⟩ (c_X8_piecesOn l D cI cJ cZ cO tS tT H.size aM_next aM aM_strength aM_kind aM_more aM_glues aM_sheet aM_since aM_imageStrength aM_imageKind aM_imageMore aM_imageGlues aM_imagePieces aM_imageWarmth aM_imageSheet aM_imageDraw aM_stepWhat aM_stepPiece aM_stepPlace aM_stepSince aM_tape aM_shapes aM_pile aM_met aM_next aM_inputs aM_then 256 M_next M_pieces M_warmth M_draw M_steps M_undoable M_brought M_taped M_shapeMany_331 M_ended M_cut M_mostPieces M_walks M_walked (0 : Int32) _ hw) (cwV 2 hts gX8_walk_X8_piecesOn rfl rfl rfl pv_X8_piecesOn ⟨Nat.le_of_ble_eq_true rfl, Nat.le_of_ble_eq_true rfl⟩) (cx_preV (wc := w_X8_piecesOn cI cJ cZ cO aM_next aM aM_strength aM_kind aM_more aM_glues aM_sheet aM_since aM_imageStrength aM_imageKind aM_imageMore aM_imageGlues aM_imagePieces aM_imageWarmth aM_imageSheet aM_imageDraw aM_stepWhat aM_stepPiece aM_stepPlace aM_stepSince aM_tape aM_shapes aM_pile aM_met aM_next aM_inputs aM_then 256 M_next M_pieces M_warmth M_draw M_steps M_undoable M_brought M_taped M_shapeMany_331 M_ended M_cut M_mostPieces M_walks M_walked) hE hK hP hD hS hA [7, 0] rfl rfl (va_recv hK hP (ci := 8) (q0 := 0) rfl rfl)) rfl rfl hl.1 rfl (lv_room (Nat.le_of_ble_eq_true rfl)) dX8_walk_340 ⟨Nat.le_of_ble_eq_true rfl, Nat.le_of_ble_eq_true rfl⟩) (fun (_ : Unit) => (w_X8_walk cI cJ cZ cO aM aM_strength aM_kind aM_more aM_glues aM_sheet aM_since aM_imageStrength aM_imageKind aM_imageMore aM_imageGlues aM_imagePieces aM_imageWarmth aM_imageSheet aM_imageDraw aM_stepWhat aM_stepPiece aM_stepPlace aM_stepSince aM_tape aM_shapes aM_pile aM_met aM_next aM_inputs aM_then M_pieces M_warmth M_draw M_steps M_undoable M_brought M_taped M_shapeMany_331 M_ended M_cut M_mostPieces M_walks M_walked M_strength M_kind M_more M_glues M_sheet M_shapes M_next)) [7, 0] [1, 2, 3, 4, 5, 6] (ads := [aM_next, aM]) (wr := [(aM_strength, .inl (cI, 51, .inl M_strength)), (aM_kind, .inl (cI, 40, .inl M_kind)), (aM_more, .inl (cI, 40, .inl M_more)), (aM_glues, .inl (cI, 160, .inl M_glues)), (aM_sheet, .inl (cI, 256, .inl M_sheet)), (aM_shapes, .inl (cI, 76800, .inl M_shapes))]) rfl rfl (fun u => rfl) (fun u => rfl) rfl (fun u => rfl) rfl (fun u => rfl) rfl hP hD hS hA (fun r340 u H locs hw hP hD hS => ?_)
                    have hP : va_P D vwCl (w_X8_walk cI cJ cZ cO aM aM_strength aM_kind aM_more aM_glues aM_sheet aM_since aM_imageStrength aM_imageKind aM_imageMore aM_imageGlues aM_imagePieces aM_imageWarmth aM_imageSheet aM_imageDraw aM_stepWhat aM_stepPiece aM_stepPlace aM_stepSince aM_tape aM_shapes aM_pile aM_met aM_next aM_inputs aM_then M_pieces M_warmth M_draw M_steps M_undoable M_brought M_taped M_shapeMany_331 M_ended M_cut M_mostPieces M_walks M_walked M_strength M_kind M_more M_glues M_sheet M_shapes M_next) H := hP
                    have hD : va_D A (w_X8_walk cI cJ cZ cO aM aM_strength aM_kind aM_more aM_glues aM_sheet aM_since aM_imageStrength aM_imageKind aM_imageMore aM_imageGlues aM_imagePieces aM_imageWarmth aM_imageSheet aM_imageDraw aM_stepWhat aM_stepPiece aM_stepPlace aM_stepSince aM_tape aM_shapes aM_pile aM_met aM_next aM_inputs aM_then M_pieces M_warmth M_draw M_steps M_undoable M_brought M_taped M_shapeMany_331 M_ended M_cut M_mostPieces M_walks M_walked M_strength M_kind M_more M_glues M_sheet M_shapes M_next) := hD
                    refine lv_istore (lv' := [(8, .int r340), (0, .ref aM), (1, .int x1), (2, .int x2), (3, .int x3), (4, .int x4), (5, .int x5), (6, .int x6), (7, .int x7)]) hx hb dX8_walk_343 hl (by decide) rfl (fun ls hl => ?_)
                    refine lv_iload hx hb dX8_walk_345 (lv_at hl 0 rfl) ?_
                    refine lv_aload_n hx hb dX8_walk_347 rfl (lv_at hl 1 rfl) ?_
                    refine va_get (D := D) (ci := 8) (v := .int M_mostPieces) (C := RX8) (T := TX8) (N := 38) hx hb hts in_X8_walk_X8 hown hK hP 0 rfl rfl 30 (by decide) k_4 (fun _ h9 => h9) rfl dX8_walk_348 ?_
                    refine lv_icmp_le (tgt := 360) hx hb dX8_walk_351 (by decide) (fun c351 => ?_) (fun c351 => ?_)
                    · have hw := hw.1 c351
                      obtain ⟨v360, e360⟩ : ∃ y : Int32, y = x7 + (1 : Int32) := ⟨_, rfl⟩
                      have hw := hw v360 e360
                      refine lv_iinc (v := v360) (lv' := [(7, .int v360), (8, .int r340), (0, .ref aM), (1, .int x1), (2, .int x2), (3, .int x3), (4, .int x4), (5, .int x5), (6, .int x6)]) hx hb dX8_walk_360 hl (k := 8) rfl (by rw [e360, kI_1]) (by decide) rfl (fun ls hl => ?_)
                      refine lv_goto (tgt := 168) hx hb dX8_walk_363 (by decide) ?_
                      exact ih_168 M_shapes M_shapeMany_331 M_ended M_cut M_mostPieces M_walks M_walked M_next x1 x2 x3 x4 x5 x6 v360 hw H locs hP hD hS ls (lv_sub hl [2, 3, 4, 5, 6, 7, 8, 0] rfl)
                    · have hw := hw.2 c351
                      refine lv_aload_n hx hb dX8_walk_354 rfl (lv_at hl 1 rfl) ?_
                      refine lv_iload hx hb dX8_walk_355 (lv_at hl 0 rfl) ?_
                      refine va_put (D := D) (ci := 8) (v := .int r340) (ty := .int) (C := RX8) (T := TX8) (N := 38) hx hb hts in_X8_walk_X8 tyX8 tyX8_ok nmX8 hown hK hP hD hS 0 rfl rfl 30 (by decide) k_4 (fun _ h9 => h9) rfl (tyX8_ok 30 (by decide)) rfl rfl (Nat.le_of_ble_eq_true rfl) dX8_walk_357 (fun H locs hP hD hS => ?_)
                      have hP : va_P D vwCl (w_X8_walk cI cJ cZ cO aM aM_strength aM_kind aM_more aM_glues aM_sheet aM_since aM_imageStrength aM_imageKind aM_imageMore aM_imageGlues aM_imagePieces aM_imageWarmth aM_imageSheet aM_imageDraw aM_stepWhat aM_stepPiece aM_stepPlace aM_stepSince aM_tape aM_shapes aM_pile aM_met aM_next aM_inputs aM_then M_pieces M_warmth M_draw M_steps M_undoable M_brought M_taped M_shapeMany_331 M_ended M_cut r340 M_walks M_walked M_strength M_kind M_more M_glues M_sheet M_shapes M_next) H := hP
                      have hD : va_D A (w_X8_walk cI cJ cZ cO aM aM_strength aM_kind aM_more aM_glues aM_sheet aM_since aM_imageStrength aM_imageKind aM_imageMore aM_imageGlues aM_imagePieces aM_imageWarmth aM_imageSheet aM_imageDraw aM_stepWhat aM_stepPiece aM_stepPlace aM_stepSince aM_tape aM_shapes aM_pile aM_met aM_next aM_inputs aM_then M_pieces M_warmth M_draw M_steps M_undoable M_brought M_taped M_shapeMany_331 M_ended M_cut r340 M_walks M_walked M_strength M_kind M_more M_glues M_sheet M_shapes M_next) := hD
                      obtain ⟨v360, e360⟩ : ∃ y : Int32, y = x7 + (1 : Int32) := ⟨_, rfl⟩
                      have hw := hw v360 e360
                      refine lv_iinc (v := v360) (lv' := [(7, .int v360), (8, .int r340), (0, .ref aM), (1, .int x1), (2, .int x2), (3, .int x3), (4, .int x4), (5, .int x5), (6, .int x6)]) hx hb dX8_walk_360 hl (k := 8) rfl (by rw [e360, kI_1]) (by decide) rfl (fun ls hl => ?_)
                      refine lv_goto (tgt := 168) hx hb dX8_walk_363 (by decide) ?_
                      exact ih_168 M_shapes M_shapeMany_331 M_ended M_cut r340 M_walks M_walked M_next x1 x2 x3 x4 x5 x6 v360 hw H locs hP hD hS ls (lv_sub hl [2, 3, 4, 5, 6, 7, 8, 0] rfl)
                  · have hw := hw.2 c292
                    refine lv_aload_n hx hb dX8_walk_295 rfl (lv_at hl 0 rfl) ?_
                    refine va_get (D := D) (ci := 8) (v := .ref aM_shapes) (C := RX8) (T := TX8) (N := 38) hx hb hts in_X8_walk_X8 hown hK hP 0 rfl rfl 26 (by decide) k_5 (fun _ h9 => h9) rfl dX8_walk_296 ?_
                    refine lv_sipush (v := (256 : Int32)) hx hb dX8_walk_299 kS_256 ?_
                    refine lv_aload_n hx hb dX8_walk_302 rfl (lv_at hl 0 rfl) ?_
                    refine va_get (D := D) (ci := 8) (v := .int M_shapeMany) (C := RX8) (T := TX8) (N := 38) hx hb hts in_X8_walk_X8 hown hK hP 0 rfl rfl 27 (by decide) k_2 (fun _ h9 => h9) rfl dX8_walk_303 ?_
                    refine lv_imul hx hb dX8_walk_306 ?_
                    refine lv_iload hx hb dX8_walk_307 (lv_at hl 8 rfl) ?_
                    refine lv_iadd hx hb dX8_walk_309 ?_
                    refine lv_aload_n hx hb dX8_walk_310 rfl (lv_at hl 0 rfl) ?_
                    refine va_get (D := D) (ci := 8) (v := .ref aM_next) (C := RX8) (T := TX8) (N := 38) hx hb hts in_X8_walk_X8 hown hK hP 0 rfl rfl 35 (by decide) k_3 (fun _ h9 => h9) rfl dX8_walk_311 ?_
                    refine lv_iload hx hb dX8_walk_314 (lv_at hl 8 rfl) ?_
                    have h316 := hw.1
                    have hw := hw.2
                    refine va_iald hx hb hK hP 7 0 rfl rfl h316 dX8_walk_316 ?_
                    refine lv_topi (fun v316 e316 => ?_)
                    have hw := hw v316 e316
                    have h317 := hw.1
                    have hw := hw.2
                    refine va_iast hx hb hK hP hD hS 6 0 rfl rfl h317 dX8_walk_317 (fun H locs hP hD hS => ?_)
                    have hP : va_P D vwCl (w_X8_walk cI cJ cZ cO aM aM_strength aM_kind aM_more aM_glues aM_sheet aM_since aM_imageStrength aM_imageKind aM_imageMore aM_imageGlues aM_imagePieces aM_imageWarmth aM_imageSheet aM_imageDraw aM_stepWhat aM_stepPiece aM_stepPlace aM_stepSince aM_tape aM_shapes aM_pile aM_met aM_next aM_inputs aM_then M_pieces M_warmth M_draw M_steps M_undoable M_brought M_taped M_shapeMany M_ended M_cut M_mostPieces M_walks M_walked M_strength M_kind M_more M_glues M_sheet (upd M_shapes (((256 : Int32) * M_shapeMany) + x8).toNatClampNeg v316) M_next) H := hP
                    have hD : va_D A (w_X8_walk cI cJ cZ cO aM aM_strength aM_kind aM_more aM_glues aM_sheet aM_since aM_imageStrength aM_imageKind aM_imageMore aM_imageGlues aM_imagePieces aM_imageWarmth aM_imageSheet aM_imageDraw aM_stepWhat aM_stepPiece aM_stepPlace aM_stepSince aM_tape aM_shapes aM_pile aM_met aM_next aM_inputs aM_then M_pieces M_warmth M_draw M_steps M_undoable M_brought M_taped M_shapeMany M_ended M_cut M_mostPieces M_walks M_walked M_strength M_kind M_more M_glues M_sheet (upd M_shapes (((256 : Int32) * M_shapeMany) + x8).toNatClampNeg v316) M_next) := hD
                    obtain ⟨M_shapes_317, e317⟩ : ∃ y : Nat → Int32, y = upd M_shapes (((256 : Int32) * M_shapeMany) + x8).toNatClampNeg v316 := ⟨_, rfl⟩
                    rw [← e317] at hP hD
                    have hw := hw M_shapes_317 e317
                    obtain ⟨v318, e318⟩ : ∃ y : Int32, y = x8 + (1 : Int32) := ⟨_, rfl⟩
                    have hw := hw v318 e318
                    refine lv_iinc (v := v318) (lv' := [(8, .int v318), (0, .ref aM), (1, .int x1), (2, .int x2), (3, .int x3), (4, .int x4), (5, .int x5), (6, .int x6), (7, .int x7)]) hx hb dX8_walk_318 hl (k := 8) rfl (by rw [e318, kI_1]) (by decide) rfl (fun ls hl => ?_)
                    refine lv_goto (tgt := 287) hx hb dX8_walk_321 (by decide) ?_
                    exact ih_287 M_shapes_317 M_shapeMany M_ended M_cut M_mostPieces M_walks M_walked M_next x1 x2 x3 x4 x5 x6 x7 v318 hw H locs hP hD hS ls (lv_sub hl [1, 2, 3, 4, 5, 6, 7, 8, 0] rfl)
              have b_218 : ∀ n_218 : Nat, ∀ (M_shapes : Nat → Int32) (M_shapeMany : Int32) (M_ended : Int32) (M_cut : Int32) (M_mostPieces : Int32) (M_walks : Int32) (M_walked : Int32) (M_next : Nat → Int32) (x1 : Int32) (x2 : Int32) (x3 : Int32) (x4 : Int32) (x5 : Int32) (x6 : Int32) (x7 : Int32) (x8 : Int32), wq_X8_walk_218 M_strength M_kind M_more M_glues M_pieces M_warmth M_sheet (wq_X8_walk_107 M_strength M_kind M_more M_glues M_pieces M_warmth M_sheet Q n_107) (wq_X8_walk_147 M_strength M_kind M_more M_glues M_pieces M_warmth M_sheet (wq_X8_walk_107 M_strength M_kind M_more M_glues M_pieces M_warmth M_sheet Q n_107) Q n_147) (wq_X8_walk_168 M_strength M_kind M_more M_glues M_pieces M_warmth M_sheet (wq_X8_walk_107 M_strength M_kind M_more M_glues M_pieces M_warmth M_sheet Q n_107) (wq_X8_walk_147 M_strength M_kind M_more M_glues M_pieces M_warmth M_sheet (wq_X8_walk_107 M_strength M_kind M_more M_glues M_pieces M_warmth M_sheet Q n_107) Q n_147) Q n_168) Q n_218 M_shapes M_shapeMany M_ended M_cut M_mostPieces M_walks M_walked M_next x1 x2 x3 x4 x5 x6 x7 x8 → ∀ (H : Heap) (locs : List Loc), va_P D vwCl (w_X8_walk cI cJ cZ cO aM aM_strength aM_kind aM_more aM_glues aM_sheet aM_since aM_imageStrength aM_imageKind aM_imageMore aM_imageGlues aM_imagePieces aM_imageWarmth aM_imageSheet aM_imageDraw aM_stepWhat aM_stepPiece aM_stepPlace aM_stepSince aM_tape aM_shapes aM_pile aM_met aM_next aM_inputs aM_then M_pieces M_warmth M_draw M_steps M_undoable M_brought M_taped M_shapeMany M_ended M_cut M_mostPieces M_walks M_walked M_strength M_kind M_more M_glues M_sheet M_shapes M_next) H → va_D A (w_X8_walk cI cJ cZ cO aM aM_strength aM_kind aM_more aM_glues aM_sheet aM_since aM_imageStrength aM_imageKind aM_imageMore aM_imageGlues aM_imagePieces aM_imageWarmth aM_imageSheet aM_imageDraw aM_stepWhat aM_stepPiece aM_stepPlace aM_stepSince aM_tape aM_shapes aM_pile aM_met aM_next aM_inputs aM_then M_pieces M_warmth M_draw M_steps M_undoable M_brought M_taped M_shapeMany M_ended M_cut M_mostPieces M_walks M_walked M_strength M_kind M_more M_glues M_sheet M_shapes M_next) → va_S A s.heap H locs → ∀ ls : Array Slot, lv_has ls 9 [(0, .ref aM), (1, .int x1), (2, .int x2), (3, .int x3), (4, .int x4), (5, .int x5), (6, .int x6), (7, .int x7), (8, .int x8)] → W p l e rm_X8_walk s m args below meth c H locs 0 0 Z (F0 m 218 ls []) := by
                intro n_218
                induction n_218 with
                | zero => intro M_shapes M_shapeMany M_ended M_cut M_mostPieces M_walks M_walked M_next x1 x2 x3 x4 x5 x6 x7 x8 hw; exact False.elim hw
                | succ n_218 ih_218 =>
                  intro M_shapes M_shapeMany M_ended M_cut M_mostPieces M_walks M_walked M_next x1 x2 x3 x4 x5 x6 x7 x8 hw H locs hP hD hS ls hl
                  have hw : wf_X8_walk_218 M_strength M_kind M_more M_glues M_pieces M_warmth M_sheet (wq_X8_walk_107 M_strength M_kind M_more M_glues M_pieces M_warmth M_sheet Q n_107) (wq_X8_walk_147 M_strength M_kind M_more M_glues M_pieces M_warmth M_sheet (wq_X8_walk_107 M_strength M_kind M_more M_glues M_pieces M_warmth M_sheet Q n_107) Q n_147) (wq_X8_walk_168 M_strength M_kind M_more M_glues M_pieces M_warmth M_sheet (wq_X8_walk_107 M_strength M_kind M_more M_glues M_pieces M_warmth M_sheet Q n_107) (wq_X8_walk_147 M_strength M_kind M_more M_glues M_pieces M_warmth M_sheet (wq_X8_walk_107 M_strength M_kind M_more M_glues M_pieces M_warmth M_sheet Q n_107) Q n_147) Q n_168) Q (wq_X8_walk_218 M_strength M_kind M_more M_glues M_pieces M_warmth M_sheet (wq_X8_walk_107 M_strength M_kind M_more M_glues M_pieces M_warmth M_sheet Q n_107) (wq_X8_walk_147 M_strength M_kind M_more M_glues M_pieces M_warmth M_sheet (wq_X8_walk_107 M_strength M_kind M_more M_glues M_pieces M_warmth M_sheet Q n_107) Q n_147) (wq_X8_walk_168 M_strength M_kind M_more M_glues M_pieces M_warmth M_sheet (wq_X8_walk_107 M_strength M_kind M_more M_glues M_pieces M_warmth M_sheet Q n_107) (wq_X8_walk_147 M_strength M_kind M_more M_glues M_pieces M_warmth M_sheet (wq_X8_walk_107 M_strength M_kind M_more M_glues M_pieces M_warmth M_sheet Q n_107) Q n_147) Q n_168) Q n_218) M_shapes M_shapeMany M_ended M_cut M_mostPieces M_walks M_walked M_next x1 x2 x3 x4 x5 x6 x7 x8 := hw
                  unfold wf_X8_walk_218 at hw
                  refine lv_iload hx hb dX8_walk_218 (lv_at hl 8 rfl) ?_
                  refine lv_sipush (v := (256 : Int32)) hx hb dX8_walk_220 kS_256 ?_
                  refine lv_icmp_ge (tgt := 248) hx hb dX8_walk_223 (by decide) (fun c223 => ?_) (fun c223 => ?_)
                  · have hw := hw.1 c223
                    refine lv_aload_n hx hb dX8_walk_248 rfl (lv_at hl 0 rfl) ?_
                    refine lv_aload_n hx hb dX8_walk_249 rfl (lv_at hl 0 rfl) ?_
                    refine va_get (D := D) (ci := 8) (v := .ref aM_next) (C := RX8) (T := TX8) (N := 38) hx hb hts in_X8_walk_X8 hown hK hP 0 rfl rfl 35 (by decide) k_3 (fun _ h9 => h9) rfl dX8_walk_250 ?_
                    refine lv_iconst (v := (0 : Int32)) hx hb dX8_walk_253 kI_0 ?_
                    refine lv_iload hx hb dX8_walk_254 (lv_at hl 7 rfl) ?_
                    refine lv_iload hx hb dX8_walk_256 (lv_at hl 6 rfl) ?_
                    refine cx_gov (va_runV (As := [.ref aM_next, .int (0 : Int32), .int x7, .int x6]) (rest := []) ⟨hx, hb, hml, hown, hts⟩ (c_X8_lay l D cI cJ cZ cO tS tT H.size aM_next aM aM_strength aM_kind aM_more aM_glues aM_sheet aM_since aM_imageStrength aM_imageKind aM_imageMore aM_imageGlues aM_imagePieces aM_imageWarmth aM_imageSheet aM_imageDraw aM_stepWhat aM_stepPiece aM_stepPlace aM_stepSince aM_tape aM_shapes aM_pile aM_met aM_next aM_inputs aM_then 256 M_next M_pieces M_warmth M_draw M_steps M_undoable M_brought M_taped M_shapeMany M_ended M_cut M_mostPieces M_walks M_walked M_kind (0 : Int32) x7 x6 _ hw) (cwV 4 hts gX8_walk_X8_lay rfl rfl rfl pv_X8_lay ⟨Nat.le_of_ble_eq_true rfl, Nat.le_of_ble_eq_true rfl⟩) (cx_preV (wc := w_X8_lay cI cJ cZ cO aM_next aM aM_strength aM_kind aM_more aM_glues aM_sheet aM_since aM_imageStrength aM_imageKind aM_imageMore aM_imageGlues aM_imagePieces aM_imageWarmth aM_imageSheet aM_imageDraw aM_stepWhat aM_stepPiece aM_stepPlace aM_stepSince aM_tape aM_shapes aM_pile aM_met aM_next aM_inputs aM_then 256 M_next M_pieces M_warmth M_draw M_steps M_undoable M_brought M_taped M_shapeMany M_ended M_cut M_mostPieces M_walks M_walked M_kind) hE hK hP hD hS hA [7, 0, 2] rfl rfl (va_recv hK hP (ci := 8) (q0 := 0) rfl rfl)) rfl rfl hl.1 rfl (lv_room (Nat.le_of_ble_eq_true rfl)) dX8_walk_258 ⟨Nat.le_of_ble_eq_true rfl, Nat.le_of_ble_eq_true rfl⟩) (fun (u : (Nat → Int32)) => (w_X8_walk cI cJ cZ cO aM aM_strength aM_kind aM_more aM_glues aM_sheet aM_since aM_imageStrength aM_imageKind aM_imageMore aM_imageGlues aM_imagePieces aM_imageWarmth aM_imageSheet aM_imageDraw aM_stepWhat aM_stepPiece aM_stepPlace aM_stepSince aM_tape aM_shapes aM_pile aM_met aM_next aM_inputs aM_then M_pieces M_warmth M_draw M_steps M_undoable M_brought M_taped M_shapeMany M_ended M_cut M_mostPieces M_walks M_walked M_strength M_kind M_more M_glues M_sheet M_shapes u)) [7, 0, 2] [1, 3, 4, 5, 6] (ads := [aM_next, aM, aM_kind]) (wr := [(aM_strength, .inl (cI, 51, .inl M_strength)), (aM_more, .inl (cI, 40, .inl M_more)), (aM_glues, .inl (cI, 160, .inl M_glues)), (aM_sheet, .inl (cI, 256, .inl M_sheet)), (aM_shapes, .inl (cI, 76800, .inl M_shapes))]) rfl rfl (fun u => rfl) (fun u => rfl) rfl (fun u => rfl) rfl (fun u => rfl) rfl hP hD hS hA (fun M_next_258 H locs hw hP hD hS => ?_)
                    try dsimp only at hw
                    have hP : va_P D vwCl (w_X8_walk cI cJ cZ cO aM aM_strength aM_kind aM_more aM_glues aM_sheet aM_since aM_imageStrength aM_imageKind aM_imageMore aM_imageGlues aM_imagePieces aM_imageWarmth aM_imageSheet aM_imageDraw aM_stepWhat aM_stepPiece aM_stepPlace aM_stepSince aM_tape aM_shapes aM_pile aM_met aM_next aM_inputs aM_then M_pieces M_warmth M_draw M_steps M_undoable M_brought M_taped M_shapeMany M_ended M_cut M_mostPieces M_walks M_walked M_strength M_kind M_more M_glues M_sheet M_shapes M_next_258) H := hP
                    have hD : va_D A (w_X8_walk cI cJ cZ cO aM aM_strength aM_kind aM_more aM_glues aM_sheet aM_since aM_imageStrength aM_imageKind aM_imageMore aM_imageGlues aM_imagePieces aM_imageWarmth aM_imageSheet aM_imageDraw aM_stepWhat aM_stepPiece aM_stepPlace aM_stepSince aM_tape aM_shapes aM_pile aM_met aM_next aM_inputs aM_then M_pieces M_warmth M_draw M_steps M_undoable M_brought M_taped M_shapeMany M_ended M_cut M_mostPieces M_walks M_walked M_strength M_kind M_more M_glues M_sheet M_shapes M_next_258) := hD
                    refine lv_aload_n hx hb dX8_walk_261 rfl (lv_at hl 0 rfl) ?_
                    refine cx_goi (va_runV (As := []) (rest := []) ⟨hx, hb, hml, hown, hts⟩ (c_X8_found l D cI cJ cZ cO tS tT H.size aM aM_strength aM_kind aM_more aM_glues aM_sheet aM_since aM_imageStrength aM_imageKind aM_imageMore aM_imageGlues aM_imagePieces aM_imageWarmth aM_imageSheet aM_imageDraw aM_stepWhat aM_stepPiece aM_stepPlace aM_stepSince aM_tape aM_shapes aM_pile aM_met aM_next aM_inputs aM_then M_pieces M_warmth M_draw M_steps M_undoable M_brought M_taped M_shapeMany M_ended M_cut M_mostPieces M_walks M_walked M_shapes M_next_258 _ hw) (cwV 0 hts gX8_walk_X8_found rfl rfl rfl pv_X8_found ⟨Nat.le_of_ble_eq_true rfl, Nat.le_of_ble_eq_true rfl⟩) (cx_preV (wc := w_X8_found cI cJ cZ cO aM aM_strength aM_kind aM_more aM_glues aM_sheet aM_since aM_imageStrength aM_imageKind aM_imageMore aM_imageGlues aM_imagePieces aM_imageWarmth aM_imageSheet aM_imageDraw aM_stepWhat aM_stepPiece aM_stepPlace aM_stepSince aM_tape aM_shapes aM_pile aM_met aM_next aM_inputs aM_then M_pieces M_warmth M_draw M_steps M_undoable M_brought M_taped M_shapeMany M_ended M_cut M_mostPieces M_walks M_walked M_shapes M_next_258) hE hK hP hD hS hA [0, 6, 7] rfl rfl (va_recv hK hP (ci := 8) (q0 := 0) rfl rfl)) rfl rfl hl.1 rfl (lv_room (Nat.le_of_ble_eq_true rfl)) dX8_walk_262 ⟨Nat.le_of_ble_eq_true rfl, Nat.le_of_ble_eq_true rfl⟩) (fun (_ : Unit) => (w_X8_walk cI cJ cZ cO aM aM_strength aM_kind aM_more aM_glues aM_sheet aM_since aM_imageStrength aM_imageKind aM_imageMore aM_imageGlues aM_imagePieces aM_imageWarmth aM_imageSheet aM_imageDraw aM_stepWhat aM_stepPiece aM_stepPlace aM_stepSince aM_tape aM_shapes aM_pile aM_met aM_next aM_inputs aM_then M_pieces M_warmth M_draw M_steps M_undoable M_brought M_taped M_shapeMany M_ended M_cut M_mostPieces M_walks M_walked M_strength M_kind M_more M_glues M_sheet M_shapes M_next_258)) [0, 6, 7] [1, 2, 3, 4, 5] (ads := [aM, aM_shapes, aM_next]) (wr := [(aM_strength, .inl (cI, 51, .inl M_strength)), (aM_kind, .inl (cI, 40, .inl M_kind)), (aM_more, .inl (cI, 40, .inl M_more)), (aM_glues, .inl (cI, 160, .inl M_glues)), (aM_sheet, .inl (cI, 256, .inl M_sheet))]) rfl rfl (fun u => rfl) (fun u => rfl) rfl (fun u => rfl) rfl (fun u => rfl) rfl hP hD hS hA (fun r262 u H locs hw hP hD hS => ?_)
                    have hP : va_P D vwCl (w_X8_walk cI cJ cZ cO aM aM_strength aM_kind aM_more aM_glues aM_sheet aM_since aM_imageStrength aM_imageKind aM_imageMore aM_imageGlues aM_imagePieces aM_imageWarmth aM_imageSheet aM_imageDraw aM_stepWhat aM_stepPiece aM_stepPlace aM_stepSince aM_tape aM_shapes aM_pile aM_met aM_next aM_inputs aM_then M_pieces M_warmth M_draw M_steps M_undoable M_brought M_taped M_shapeMany M_ended M_cut M_mostPieces M_walks M_walked M_strength M_kind M_more M_glues M_sheet M_shapes M_next_258) H := hP
                    have hD : va_D A (w_X8_walk cI cJ cZ cO aM aM_strength aM_kind aM_more aM_glues aM_sheet aM_since aM_imageStrength aM_imageKind aM_imageMore aM_imageGlues aM_imagePieces aM_imageWarmth aM_imageSheet aM_imageDraw aM_stepWhat aM_stepPiece aM_stepPlace aM_stepSince aM_tape aM_shapes aM_pile aM_met aM_next aM_inputs aM_then M_pieces M_warmth M_draw M_steps M_undoable M_brought M_taped M_shapeMany M_ended M_cut M_mostPieces M_walks M_walked M_strength M_kind M_more M_glues M_sheet M_shapes M_next_258) := hD
                    refine lv_if_lt (tgt := 271) hx hb dX8_walk_265 (by decide) (fun c265 => ?_) (fun c265 => ?_)
                    · have hw := hw.1 c265
                      refine lv_aload_n hx hb dX8_walk_271 rfl (lv_at hl 0 rfl) ?_
                      refine va_get (D := D) (ci := 8) (v := .int M_shapeMany) (C := RX8) (T := TX8) (N := 38) hx hb hts in_X8_walk_X8 hown hK hP 0 rfl rfl 27 (by decide) k_2 (fun _ h9 => h9) rfl dX8_walk_272 ?_
                      refine lv_sipush (v := (300 : Int32)) hx hb dX8_walk_275 kS_300 ?_
                      refine lv_icmp_ne (tgt := 284) hx hb dX8_walk_278 (by decide) (fun c278 => ?_) (fun c278 => ?_)
                      · have hw := hw.1 c278
                        refine lv_iconst (v := (0 : Int32)) hx hb dX8_walk_284 kI_0 ?_
                        refine lv_istore (lv' := [(8, .int (0 : Int32)), (0, .ref aM), (1, .int x1), (2, .int x2), (3, .int x3), (4, .int x4), (5, .int x5), (6, .int x6), (7, .int x7)]) hx hb dX8_walk_285 hl (by decide) rfl (fun ls hl => ?_)
                        obtain ⟨k, hw⟩ := hw
                        exact b_287 k M_shapes M_shapeMany M_ended M_cut M_mostPieces M_walks M_walked M_next_258 x1 x2 x3 x4 x5 x6 x7 (0 : Int32) hw H locs hP hD hS ls (lv_sub hl [1, 2, 3, 4, 5, 6, 7, 8, 0] rfl)
                      · have hw := hw.2 c278
                        refine lv_bipush (v := (-2 : Int32)) hx hb dX8_walk_281 kB_m2 ?_
                        rw [hZ]
                        exact cx_reti (M_shapes, M_shapeMany, M_ended, M_cut, M_mostPieces, M_walks, M_walked, M_next_258) hx hb hr hlocks hw hP hS dX8_walk_283
                    · have hw := hw.2 c265
                      refine lv_goto (tgt := 360) hx hb dX8_walk_268 (by decide) ?_
                      obtain ⟨v360, e360⟩ : ∃ y : Int32, y = x7 + (1 : Int32) := ⟨_, rfl⟩
                      have hw := hw v360 e360
                      refine lv_iinc (v := v360) (lv' := [(7, .int v360), (0, .ref aM), (1, .int x1), (2, .int x2), (3, .int x3), (4, .int x4), (5, .int x5), (6, .int x6), (8, .int x8)]) hx hb dX8_walk_360 hl (k := 7) rfl (by rw [e360, kI_1]) (by decide) rfl (fun ls hl => ?_)
                      refine lv_goto (tgt := 168) hx hb dX8_walk_363 (by decide) ?_
                      exact ih_168 M_shapes M_shapeMany M_ended M_cut M_mostPieces M_walks M_walked M_next_258 x1 x2 x3 x4 x5 x6 v360 hw H locs hP hD hS ls (lv_sub hl [1, 2, 3, 4, 5, 6, 7, 0] rfl)
                  · have hw := hw.2 c223
                    refine lv_aload_n hx hb dX8_walk_226 rfl (lv_at hl 0 rfl) ?_
                    refine va_get (D := D) (ci := 8) (v := .ref aM_next) (C := RX8) (T := TX8) (N := 38) hx hb hts in_X8_walk_X8 hown hK hP 0 rfl rfl 35 (by decide) k_3 (fun _ h9 => h9) rfl dX8_walk_227 ?_
                    refine lv_iload hx hb dX8_walk_230 (lv_at hl 8 rfl) ?_
                    refine lv_aload_n hx hb dX8_walk_232 rfl (lv_at hl 0 rfl) ?_
                    refine va_get (D := D) (ci := 8) (v := .ref aM_shapes) (C := RX8) (T := TX8) (N := 38) hx hb hts in_X8_walk_X8 hown hK hP 0 rfl rfl 26 (by decide) k_5 (fun _ h9 => h9) rfl dX8_walk_233 ?_
                    refine lv_iload_n hx hb dX8_walk_236 rfl (lv_at hl 3 rfl) ?_
                    refine lv_iload hx hb dX8_walk_237 (lv_at hl 8 rfl) ?_
                    refine lv_iadd hx hb dX8_walk_239 ?_
                    have h240 := hw.1
                    have hw := hw.2
                    refine va_iald hx hb hK hP 6 0 rfl rfl h240 dX8_walk_240 ?_
                    refine lv_topi (fun v240 e240 => ?_)
                    have hw := hw v240 e240
                    have h241 := hw.1
                    have hw := hw.2
                    refine va_iast hx hb hK hP hD hS 7 0 rfl rfl h241 dX8_walk_241 (fun H locs hP hD hS => ?_)
                    have hP : va_P D vwCl (w_X8_walk cI cJ cZ cO aM aM_strength aM_kind aM_more aM_glues aM_sheet aM_since aM_imageStrength aM_imageKind aM_imageMore aM_imageGlues aM_imagePieces aM_imageWarmth aM_imageSheet aM_imageDraw aM_stepWhat aM_stepPiece aM_stepPlace aM_stepSince aM_tape aM_shapes aM_pile aM_met aM_next aM_inputs aM_then M_pieces M_warmth M_draw M_steps M_undoable M_brought M_taped M_shapeMany M_ended M_cut M_mostPieces M_walks M_walked M_strength M_kind M_more M_glues M_sheet M_shapes (upd M_next x8.toNatClampNeg v240)) H := hP
                    have hD : va_D A (w_X8_walk cI cJ cZ cO aM aM_strength aM_kind aM_more aM_glues aM_sheet aM_since aM_imageStrength aM_imageKind aM_imageMore aM_imageGlues aM_imagePieces aM_imageWarmth aM_imageSheet aM_imageDraw aM_stepWhat aM_stepPiece aM_stepPlace aM_stepSince aM_tape aM_shapes aM_pile aM_met aM_next aM_inputs aM_then M_pieces M_warmth M_draw M_steps M_undoable M_brought M_taped M_shapeMany M_ended M_cut M_mostPieces M_walks M_walked M_strength M_kind M_more M_glues M_sheet M_shapes (upd M_next x8.toNatClampNeg v240)) := hD
                    obtain ⟨M_next_241, e241⟩ : ∃ y : Nat → Int32, y = upd M_next x8.toNatClampNeg v240 := ⟨_, rfl⟩
                    rw [← e241] at hP hD
                    have hw := hw M_next_241 e241
                    obtain ⟨v242, e242⟩ : ∃ y : Int32, y = x8 + (1 : Int32) := ⟨_, rfl⟩
                    have hw := hw v242 e242
                    refine lv_iinc (v := v242) (lv' := [(8, .int v242), (0, .ref aM), (1, .int x1), (2, .int x2), (3, .int x3), (4, .int x4), (5, .int x5), (6, .int x6), (7, .int x7)]) hx hb dX8_walk_242 hl (k := 8) rfl (by rw [e242, kI_1]) (by decide) rfl (fun ls hl => ?_)
                    refine lv_goto (tgt := 218) hx hb dX8_walk_245 (by decide) ?_
                    exact ih_218 M_shapes M_shapeMany M_ended M_cut M_mostPieces M_walks M_walked M_next_241 x1 x2 x3 x4 x5 x6 x7 v242 hw H locs hP hD hS ls (lv_sub hl [1, 2, 3, 4, 5, 6, 7, 8, 0] rfl)
              intro M_shapes M_shapeMany M_ended M_cut M_mostPieces M_walks M_walked M_next x1 x2 x3 x4 x5 x6 x7 hw H locs hP hD hS ls hl
              have hw : wf_X8_walk_168 M_strength M_kind M_more M_glues M_pieces M_warmth M_sheet (wq_X8_walk_107 M_strength M_kind M_more M_glues M_pieces M_warmth M_sheet Q n_107) (wq_X8_walk_147 M_strength M_kind M_more M_glues M_pieces M_warmth M_sheet (wq_X8_walk_107 M_strength M_kind M_more M_glues M_pieces M_warmth M_sheet Q n_107) Q n_147) Q (wq_X8_walk_168 M_strength M_kind M_more M_glues M_pieces M_warmth M_sheet (wq_X8_walk_107 M_strength M_kind M_more M_glues M_pieces M_warmth M_sheet Q n_107) (wq_X8_walk_147 M_strength M_kind M_more M_glues M_pieces M_warmth M_sheet (wq_X8_walk_107 M_strength M_kind M_more M_glues M_pieces M_warmth M_sheet Q n_107) Q n_147) Q n_168) M_shapes M_shapeMany M_ended M_cut M_mostPieces M_walks M_walked M_next x1 x2 x3 x4 x5 x6 x7 := hw
              unfold wf_X8_walk_168 at hw
              refine lv_iload hx hb dX8_walk_168 (lv_at hl 7 rfl) ?_
              refine lv_aload_n hx hb dX8_walk_170 rfl (lv_at hl 0 rfl) ?_
              refine va_get (D := D) (ci := 8) (v := .int M_pieces) (C := RX8) (T := TX8) (N := 38) hx hb hts in_X8_walk_X8 hown hK hP 0 rfl rfl 4 (by decide) k_6 (fun _ h9 => h9) rfl dX8_walk_171 ?_
              refine lv_icmp_ge (tgt := 366) hx hb dX8_walk_174 (by decide) (fun c174 => ?_) (fun c174 => ?_)
              · have hw := hw.1 c174
                obtain ⟨v366, e366⟩ : ∃ y : Int32, y = x6 + (1 : Int32) := ⟨_, rfl⟩
                have hw := hw v366 e366
                refine lv_iinc (v := v366) (lv' := [(6, .int v366), (0, .ref aM), (1, .int x1), (2, .int x2), (3, .int x3), (4, .int x4), (5, .int x5), (7, .int x7)]) hx hb dX8_walk_366 hl (k := 6) rfl (by rw [e366, kI_1]) (by decide) rfl (fun ls hl => ?_)
                refine lv_goto (tgt := 147) hx hb dX8_walk_369 (by decide) ?_
                exact ih_147 M_shapes M_shapeMany M_ended M_cut M_mostPieces M_walks M_walked M_next x1 x2 x3 x4 x5 v366 hw H locs hP hD hS ls (lv_sub hl [1, 2, 3, 4, 5, 6, 0] rfl)
              · have hw := hw.2 c174
                refine lv_aload_n hx hb dX8_walk_177 rfl (lv_at hl 0 rfl) ?_
                refine lv_aload_n hx hb dX8_walk_178 rfl (lv_at hl 0 rfl) ?_
                refine va_get (D := D) (ci := 8) (v := .ref aM_shapes) (C := RX8) (T := TX8) (N := 38) hx hb hts in_X8_walk_X8 hown hK hP 0 rfl rfl 26 (by decide) k_5 (fun _ h9 => h9) rfl dX8_walk_179 ?_
                refine lv_iload_n hx hb dX8_walk_182 rfl (lv_at hl 3 rfl) ?_
                refine lv_iload hx hb dX8_walk_183 (lv_at hl 7 rfl) ?_
                refine lv_iload hx hb dX8_walk_185 (lv_at hl 6 rfl) ?_
                refine lv_bipush (v := (16 : Int32)) hx hb dX8_walk_187 kB_16 ?_
                refine lv_irem hx hb dX8_walk_189 (by decide) ?_
                refine lv_iload hx hb dX8_walk_190 (lv_at hl 6 rfl) ?_
                refine lv_bipush (v := (16 : Int32)) hx hb dX8_walk_192 kB_16 ?_
                refine lv_idiv hx hb dX8_walk_194 (by decide) ?_
                refine cx_goi (va_runV (As := [.ref aM_shapes, .int x3, .int x7, .int (x6 - x6 / (16 : Int32) * (16 : Int32)), .int (x6 / (16 : Int32))]) (rest := []) ⟨hx, hb, hml, hown, hts⟩ (c_X8_mayCome l D cI cJ cZ cO tS tT H.size aM_shapes aM aM_strength aM_kind aM_more aM_glues aM_sheet aM_since aM_imageStrength aM_imageKind aM_imageMore aM_imageGlues aM_imagePieces aM_imageWarmth aM_imageSheet aM_imageDraw aM_stepWhat aM_stepPiece aM_stepPlace aM_stepSince aM_tape aM_shapes aM_pile aM_met aM_next aM_inputs aM_then 76800 M_shapes M_pieces M_warmth M_draw M_steps M_undoable M_brought M_taped M_shapeMany M_ended M_cut M_mostPieces M_walks M_walked M_strength M_kind M_more M_glues x3 x7 (x6 - x6 / (16 : Int32) * (16 : Int32)) (x6 / (16 : Int32)) _ hw) (cwV 5 hts gX8_walk_X8_mayCome rfl rfl rfl pv_X8_mayCome ⟨Nat.le_of_ble_eq_true rfl, Nat.le_of_ble_eq_true rfl⟩) (cx_preV (wc := w_X8_mayCome cI cJ cZ cO aM_shapes aM aM_strength aM_kind aM_more aM_glues aM_sheet aM_since aM_imageStrength aM_imageKind aM_imageMore aM_imageGlues aM_imagePieces aM_imageWarmth aM_imageSheet aM_imageDraw aM_stepWhat aM_stepPiece aM_stepPlace aM_stepSince aM_tape aM_shapes aM_pile aM_met aM_next aM_inputs aM_then 76800 M_shapes M_pieces M_warmth M_draw M_steps M_undoable M_brought M_taped M_shapeMany M_ended M_cut M_mostPieces M_walks M_walked M_strength M_kind M_more M_glues) hE hK hP hD hS hA [6, 0, 1, 2, 3, 4] rfl rfl (va_recv hK hP (ci := 8) (q0 := 0) rfl rfl)) rfl rfl hl.1 rfl (lv_room (Nat.le_of_ble_eq_true rfl)) dX8_walk_195 ⟨Nat.le_of_ble_eq_true rfl, Nat.le_of_ble_eq_true rfl⟩) (fun (_ : Unit) => (w_X8_walk cI cJ cZ cO aM aM_strength aM_kind aM_more aM_glues aM_sheet aM_since aM_imageStrength aM_imageKind aM_imageMore aM_imageGlues aM_imagePieces aM_imageWarmth aM_imageSheet aM_imageDraw aM_stepWhat aM_stepPiece aM_stepPlace aM_stepSince aM_tape aM_shapes aM_pile aM_met aM_next aM_inputs aM_then M_pieces M_warmth M_draw M_steps M_undoable M_brought M_taped M_shapeMany M_ended M_cut M_mostPieces M_walks M_walked M_strength M_kind M_more M_glues M_sheet M_shapes M_next)) [6, 0, 1, 2, 3, 4] [5, 7] (ads := [aM_shapes, aM, aM_strength, aM_kind, aM_more, aM_glues]) (wr := [(aM_sheet, .inl (cI, 256, .inl M_sheet)), (aM_next, .inl (cI, 256, .inl M_next))]) rfl rfl (fun u => rfl) (fun u => rfl) rfl (fun u => rfl) rfl (fun u => rfl) rfl hP hD hS hA (fun r195 u H locs hw hP hD hS => ?_)
                have hP : va_P D vwCl (w_X8_walk cI cJ cZ cO aM aM_strength aM_kind aM_more aM_glues aM_sheet aM_since aM_imageStrength aM_imageKind aM_imageMore aM_imageGlues aM_imagePieces aM_imageWarmth aM_imageSheet aM_imageDraw aM_stepWhat aM_stepPiece aM_stepPlace aM_stepSince aM_tape aM_shapes aM_pile aM_met aM_next aM_inputs aM_then M_pieces M_warmth M_draw M_steps M_undoable M_brought M_taped M_shapeMany M_ended M_cut M_mostPieces M_walks M_walked M_strength M_kind M_more M_glues M_sheet M_shapes M_next) H := hP
                have hD : va_D A (w_X8_walk cI cJ cZ cO aM aM_strength aM_kind aM_more aM_glues aM_sheet aM_since aM_imageStrength aM_imageKind aM_imageMore aM_imageGlues aM_imagePieces aM_imageWarmth aM_imageSheet aM_imageDraw aM_stepWhat aM_stepPiece aM_stepPlace aM_stepSince aM_tape aM_shapes aM_pile aM_met aM_next aM_inputs aM_then M_pieces M_warmth M_draw M_steps M_undoable M_brought M_taped M_shapeMany M_ended M_cut M_mostPieces M_walks M_walked M_strength M_kind M_more M_glues M_sheet M_shapes M_next) := hD
                refine lv_if_ne (tgt := 204) hx hb dX8_walk_198 (by decide) (fun c198 => ?_) (fun c198 => ?_)
                · have hw := hw.1 c198
                  obtain ⟨v204, e204⟩ : ∃ y : Int32, y = x5 + (1 : Int32) := ⟨_, rfl⟩
                  have hw := hw v204 e204
                  refine lv_iinc (v := v204) (lv' := [(5, .int v204), (0, .ref aM), (1, .int x1), (2, .int x2), (3, .int x3), (4, .int x4), (6, .int x6), (7, .int x7)]) hx hb dX8_walk_204 hl (k := 5) rfl (by rw [e204, kI_1]) (by decide) rfl (fun ls hl => ?_)
                  refine lv_iload hx hb dX8_walk_207 (lv_at hl 5 rfl) ?_
                  refine lv_if_eq (tgt := 215) hx hb dX8_walk_209 (by decide) (fun c209 => ?_) (fun c209 => ?_)
                  · have hw := hw.1 c209
                    refine lv_iconst (v := (0 : Int32)) hx hb dX8_walk_215 kI_0 ?_
                    refine lv_istore (lv' := [(8, .int (0 : Int32)), (5, .int v204), (0, .ref aM), (1, .int x1), (2, .int x2), (3, .int x3), (4, .int x4), (6, .int x6), (7, .int x7)]) hx hb dX8_walk_216 hl (by decide) rfl (fun ls hl => ?_)
                    obtain ⟨k, hw⟩ := hw
                    exact b_218 k M_shapes M_shapeMany M_ended M_cut M_mostPieces M_walks M_walked M_next x1 x2 x3 x4 v204 x6 x7 (0 : Int32) hw H locs hP hD hS ls (lv_sub hl [2, 3, 4, 5, 6, 1, 7, 8, 0] rfl)
                  · have hw := hw.2 c209
                    refine lv_goto (tgt := 360) hx hb dX8_walk_212 (by decide) ?_
                    obtain ⟨v360, e360⟩ : ∃ y : Int32, y = x7 + (1 : Int32) := ⟨_, rfl⟩
                    have hw := hw v360 e360
                    refine lv_iinc (v := v360) (lv' := [(7, .int v360), (5, .int v204), (0, .ref aM), (1, .int x1), (2, .int x2), (3, .int x3), (4, .int x4), (6, .int x6)]) hx hb dX8_walk_360 hl (k := 7) rfl (by rw [e360, kI_1]) (by decide) rfl (fun ls hl => ?_)
                    refine lv_goto (tgt := 168) hx hb dX8_walk_363 (by decide) ?_
                    exact ih_168 M_shapes M_shapeMany M_ended M_cut M_mostPieces M_walks M_walked M_next x1 x2 x3 x4 v204 x6 v360 hw H locs hP hD hS ls (lv_sub hl [2, 3, 4, 5, 6, 1, 7, 0] rfl)
                · have hw := hw.2 c198
                  refine lv_goto (tgt := 360) hx hb dX8_walk_201 (by decide) ?_
                  obtain ⟨v360, e360⟩ : ∃ y : Int32, y = x7 + (1 : Int32) := ⟨_, rfl⟩
                  have hw := hw v360 e360
                  refine lv_iinc (v := v360) (lv' := [(7, .int v360), (0, .ref aM), (1, .int x1), (2, .int x2), (3, .int x3), (4, .int x4), (5, .int x5), (6, .int x6)]) hx hb dX8_walk_360 hl (k := 7) rfl (by rw [e360, kI_1]) (by decide) rfl (fun ls hl => ?_)
                  refine lv_goto (tgt := 168) hx hb dX8_walk_363 (by decide) ?_
                  exact ih_168 M_shapes M_shapeMany M_ended M_cut M_mostPieces M_walks M_walked M_next x1 x2 x3 x4 x5 x6 v360 hw H locs hP hD hS ls (lv_sub hl [1, 2, 3, 4, 5, 6, 7, 0] rfl)
          intro M_shapes M_shapeMany M_ended M_cut M_mostPieces M_walks M_walked M_next x1 x2 x3 x4 x5 x6 hw H locs hP hD hS ls hl
          have hw : wf_X8_walk_147 M_strength M_kind M_more M_glues M_pieces M_warmth M_sheet (wq_X8_walk_107 M_strength M_kind M_more M_glues M_pieces M_warmth M_sheet Q n_107) Q (wq_X8_walk_147 M_strength M_kind M_more M_glues M_pieces M_warmth M_sheet (wq_X8_walk_107 M_strength M_kind M_more M_glues M_pieces M_warmth M_sheet Q n_107) Q n_147) M_shapes M_shapeMany M_ended M_cut M_mostPieces M_walks M_walked M_next x1 x2 x3 x4 x5 x6 := hw
          unfold wf_X8_walk_147 at hw
          refine lv_iload hx hb dX8_walk_147 (lv_at hl 6 rfl) ?_
          refine lv_sipush (v := (256 : Int32)) hx hb dX8_walk_149 kS_256 ?_
          refine lv_icmp_ge (tgt := 372) hx hb dX8_walk_152 (by decide) (fun c152 => ?_) (fun c152 => ?_)
          · have hw := hw.1 c152
            exact b_372 M_shapes M_shapeMany M_ended M_cut M_mostPieces M_walks M_walked M_next x1 x2 x4 x5 hw H locs hP hD hS ls (lv_sub hl [0, 1, 2, 4, 5] rfl)
          · have hw := hw.2 c152
            refine lv_iload hx hb dX8_walk_155 (lv_at hl 4 rfl) ?_
            refine lv_if_eq (tgt := 165) hx hb dX8_walk_157 (by decide) (fun c157 => ?_) (fun c157 => ?_)
            · have hw := hw.1 c157
              refine lv_iconst (v := (0 : Int32)) hx hb dX8_walk_165 kI_0 ?_
              refine lv_istore (lv' := [(7, .int (0 : Int32)), (0, .ref aM), (1, .int x1), (2, .int x2), (3, .int x3), (4, .int x4), (5, .int x5), (6, .int x6)]) hx hb dX8_walk_166 hl (by decide) rfl (fun ls hl => ?_)
              obtain ⟨k, hw⟩ := hw
              exact b_168 k M_shapes M_shapeMany M_ended M_cut M_mostPieces M_walks M_walked M_next x1 x2 x3 x4 x5 x6 (0 : Int32) hw H locs hP hD hS ls (lv_sub hl [1, 2, 3, 4, 5, 6, 7, 0] rfl)
            · have hw := hw.2 c157
              refine lv_iload hx hb dX8_walk_160 (lv_at hl 5 rfl) ?_
              refine lv_if_ne (tgt := 372) hx hb dX8_walk_162 (by decide) (fun c162 => ?_) (fun c162 => ?_)
              · have hw := hw.1 c162
                exact b_372 M_shapes M_shapeMany M_ended M_cut M_mostPieces M_walks M_walked M_next x1 x2 x4 x5 hw H locs hP hD hS ls (lv_sub hl [0, 1, 2, 4, 5] rfl)
              · have hw := hw.2 c162
                refine lv_iconst (v := (0 : Int32)) hx hb dX8_walk_165 kI_0 ?_
                refine lv_istore (lv' := [(7, .int (0 : Int32)), (0, .ref aM), (1, .int x1), (2, .int x2), (3, .int x3), (4, .int x4), (5, .int x5), (6, .int x6)]) hx hb dX8_walk_166 hl (by decide) rfl (fun ls hl => ?_)
                obtain ⟨k, hw⟩ := hw
                exact b_168 k M_shapes M_shapeMany M_ended M_cut M_mostPieces M_walks M_walked M_next x1 x2 x3 x4 x5 x6 (0 : Int32) hw H locs hP hD hS ls (lv_sub hl [1, 2, 3, 4, 5, 6, 7, 0] rfl)
      intro M_shapes M_shapeMany M_ended M_cut M_mostPieces M_walks M_walked M_next x1 x2 hw H locs hP hD hS ls hl
      have hw : wf_X8_walk_107 M_strength M_kind M_more M_glues M_pieces M_warmth M_sheet Q (wq_X8_walk_107 M_strength M_kind M_more M_glues M_pieces M_warmth M_sheet Q n_107) M_shapes M_shapeMany M_ended M_cut M_mostPieces M_walks M_walked M_next x1 x2 := hw
      unfold wf_X8_walk_107 at hw
      refine lv_iload_n hx hb dX8_walk_107 rfl (lv_at hl 2 rfl) ?_
      refine lv_aload_n hx hb dX8_walk_108 rfl (lv_at hl 0 rfl) ?_
      refine va_get (D := D) (ci := 8) (v := .int M_shapeMany) (C := RX8) (T := TX8) (N := 38) hx hb hts in_X8_walk_X8 hown hK hP 0 rfl rfl 27 (by decide) k_2 (fun _ h9 => h9) rfl dX8_walk_109 ?_
      refine lv_icmp_ge (tgt := 411) hx hb dX8_walk_112 (by decide) (fun c112 => ?_) (fun c112 => ?_)
      · have hw := hw.1 c112
        refine lv_aload_n hx hb dX8_walk_411 rfl (lv_at hl 0 rfl) ?_
        refine va_get (D := D) (ci := 8) (v := .int M_shapeMany) (C := RX8) (T := TX8) (N := 38) hx hb hts in_X8_walk_X8 hown hK hP 0 rfl rfl 27 (by decide) k_2 (fun _ h9 => h9) rfl dX8_walk_412 ?_
        rw [hZ]
        exact cx_reti (M_shapes, M_shapeMany, M_ended, M_cut, M_mostPieces, M_walks, M_walked, M_next) hx hb hr hlocks hw hP hS dX8_walk_415
      · have hw := hw.2 c112
        refine lv_sipush (v := (256 : Int32)) hx hb dX8_walk_115 kS_256 ?_
        refine lv_iload_n hx hb dX8_walk_118 rfl (lv_at hl 2 rfl) ?_
        refine lv_imul hx hb dX8_walk_119 ?_
        refine lv_topi (fun v120 e120 => ?_)
        have hw := hw v120 e120
        refine lv_istore_n (lv' := [(3, .int v120), (0, .ref aM), (1, .int x1), (2, .int x2)]) hx hb dX8_walk_120 rfl hl (by decide) rfl (fun ls hl => ?_)
        refine lv_aload_n hx hb dX8_walk_121 rfl (lv_at hl 1 rfl) ?_
        refine lv_aload_n hx hb dX8_walk_122 rfl (lv_at hl 1 rfl) ?_
        refine va_get (D := D) (ci := 8) (v := .ref aM_shapes) (C := RX8) (T := TX8) (N := 38) hx hb hts in_X8_walk_X8 hown hK hP 0 rfl rfl 26 (by decide) k_5 (fun _ h9 => h9) rfl dX8_walk_123 ?_
        refine lv_iload_n hx hb dX8_walk_126 rfl (lv_at hl 0 rfl) ?_
        refine cx_goi (va_runV (As := [.ref aM_shapes, .int v120]) (rest := []) ⟨hx, hb, hml, hown, hts⟩ (c_X8_piecesOn l D cI cJ cZ cO tS tT H.size aM_shapes aM aM_strength aM_kind aM_more aM_glues aM_sheet aM_since aM_imageStrength aM_imageKind aM_imageMore aM_imageGlues aM_imagePieces aM_imageWarmth aM_imageSheet aM_imageDraw aM_stepWhat aM_stepPiece aM_stepPlace aM_stepSince aM_tape aM_shapes aM_pile aM_met aM_next aM_inputs aM_then 76800 M_shapes M_pieces M_warmth M_draw M_steps M_undoable M_brought M_taped M_shapeMany M_ended M_cut M_mostPieces M_walks M_walked v120 _ hw) (cwV 2 hts gX8_walk_X8_piecesOn rfl rfl rfl pv_X8_piecesOn ⟨Nat.le_of_ble_eq_true rfl, Nat.le_of_ble_eq_true rfl⟩) (cx_preV (wc := w_X8_piecesOn cI cJ cZ cO aM_shapes aM aM_strength aM_kind aM_more aM_glues aM_sheet aM_since aM_imageStrength aM_imageKind aM_imageMore aM_imageGlues aM_imagePieces aM_imageWarmth aM_imageSheet aM_imageDraw aM_stepWhat aM_stepPiece aM_stepPlace aM_stepSince aM_tape aM_shapes aM_pile aM_met aM_next aM_inputs aM_then 76800 M_shapes M_pieces M_warmth M_draw M_steps M_undoable M_brought M_taped M_shapeMany M_ended M_cut M_mostPieces M_walks M_walked) hE hK hP hD hS hA [6, 0] rfl rfl (va_recv hK hP (ci := 8) (q0 := 0) rfl rfl)) rfl rfl hl.1 rfl (lv_room (Nat.le_of_ble_eq_true rfl)) dX8_walk_127 ⟨Nat.le_of_ble_eq_true rfl, Nat.le_of_ble_eq_true rfl⟩) (fun (_ : Unit) => (w_X8_walk cI cJ cZ cO aM aM_strength aM_kind aM_more aM_glues aM_sheet aM_since aM_imageStrength aM_imageKind aM_imageMore aM_imageGlues aM_imagePieces aM_imageWarmth aM_imageSheet aM_imageDraw aM_stepWhat aM_stepPiece aM_stepPlace aM_stepSince aM_tape aM_shapes aM_pile aM_met aM_next aM_inputs aM_then M_pieces M_warmth M_draw M_steps M_undoable M_brought M_taped M_shapeMany M_ended M_cut M_mostPieces M_walks M_walked M_strength M_kind M_more M_glues M_sheet M_shapes M_next)) [6, 0] [1, 2, 3, 4, 5, 7] (ads := [aM_shapes, aM]) (wr := [(aM_strength, .inl (cI, 51, .inl M_strength)), (aM_kind, .inl (cI, 40, .inl M_kind)), (aM_more, .inl (cI, 40, .inl M_more)), (aM_glues, .inl (cI, 160, .inl M_glues)), (aM_sheet, .inl (cI, 256, .inl M_sheet)), (aM_next, .inl (cI, 256, .inl M_next))]) rfl rfl (fun u => rfl) (fun u => rfl) rfl (fun u => rfl) rfl (fun u => rfl) rfl hP hD hS hA (fun r127 u H locs hw hP hD hS => ?_)
        have hP : va_P D vwCl (w_X8_walk cI cJ cZ cO aM aM_strength aM_kind aM_more aM_glues aM_sheet aM_since aM_imageStrength aM_imageKind aM_imageMore aM_imageGlues aM_imagePieces aM_imageWarmth aM_imageSheet aM_imageDraw aM_stepWhat aM_stepPiece aM_stepPlace aM_stepSince aM_tape aM_shapes aM_pile aM_met aM_next aM_inputs aM_then M_pieces M_warmth M_draw M_steps M_undoable M_brought M_taped M_shapeMany M_ended M_cut M_mostPieces M_walks M_walked M_strength M_kind M_more M_glues M_sheet M_shapes M_next) H := hP
        have hD : va_D A (w_X8_walk cI cJ cZ cO aM aM_strength aM_kind aM_more aM_glues aM_sheet aM_since aM_imageStrength aM_imageKind aM_imageMore aM_imageGlues aM_imagePieces aM_imageWarmth aM_imageSheet aM_imageDraw aM_stepWhat aM_stepPiece aM_stepPlace aM_stepSince aM_tape aM_shapes aM_pile aM_met aM_next aM_inputs aM_then M_pieces M_warmth M_draw M_steps M_undoable M_brought M_taped M_shapeMany M_ended M_cut M_mostPieces M_walks M_walked M_strength M_kind M_more M_glues M_sheet M_shapes M_next) := hD
        refine lv_iload_n hx hb dX8_walk_130 rfl (lv_at hl 2 rfl) ?_
        refine lv_icmp_ne (tgt := 138) hx hb dX8_walk_131 (by decide) (fun c131 => ?_) (fun c131 => ?_)
        · have hw := hw.1 c131
          refine lv_iconst (v := (0 : Int32)) hx hb dX8_walk_138 kI_0 ?_
          refine lv_istore (lv' := [(4, .int (0 : Int32)), (3, .int v120), (0, .ref aM), (1, .int x1), (2, .int x2)]) hx hb dX8_walk_139 hl (by decide) rfl (fun ls hl => ?_)
          refine lv_iconst (v := (0 : Int32)) hx hb dX8_walk_141 kI_0 ?_
          refine lv_istore (lv' := [(5, .int (0 : Int32)), (4, .int (0 : Int32)), (3, .int v120), (0, .ref aM), (1, .int x1), (2, .int x2)]) hx hb dX8_walk_142 hl (by decide) rfl (fun ls hl => ?_)
          refine lv_iconst (v := (0 : Int32)) hx hb dX8_walk_144 kI_0 ?_
          refine lv_istore (lv' := [(6, .int (0 : Int32)), (5, .int (0 : Int32)), (4, .int (0 : Int32)), (3, .int v120), (0, .ref aM), (1, .int x1), (2, .int x2)]) hx hb dX8_walk_145 hl (by decide) rfl (fun ls hl => ?_)
          obtain ⟨k, hw⟩ := hw
          exact b_147 k M_shapes M_shapeMany M_ended M_cut M_mostPieces M_walks M_walked M_next x1 x2 v120 (0 : Int32) (0 : Int32) (0 : Int32) hw H locs hP hD hS ls (lv_sub hl [4, 5, 6, 3, 2, 1, 0] rfl)
        · have hw := hw.2 c131
          refine lv_iconst (v := (1 : Int32)) hx hb dX8_walk_134 kI_1 ?_
          refine lv_goto (tgt := 139) hx hb dX8_walk_135 (by decide) ?_
          refine lv_istore (lv' := [(4, .int (1 : Int32)), (3, .int v120), (0, .ref aM), (1, .int x1), (2, .int x2)]) hx hb dX8_walk_139 hl (by decide) rfl (fun ls hl => ?_)
          refine lv_iconst (v := (0 : Int32)) hx hb dX8_walk_141 kI_0 ?_
          refine lv_istore (lv' := [(5, .int (0 : Int32)), (4, .int (1 : Int32)), (3, .int v120), (0, .ref aM), (1, .int x1), (2, .int x2)]) hx hb dX8_walk_142 hl (by decide) rfl (fun ls hl => ?_)
          refine lv_iconst (v := (0 : Int32)) hx hb dX8_walk_144 kI_0 ?_
          refine lv_istore (lv' := [(6, .int (0 : Int32)), (5, .int (0 : Int32)), (4, .int (1 : Int32)), (3, .int v120), (0, .ref aM), (1, .int x1), (2, .int x2)]) hx hb dX8_walk_145 hl (by decide) rfl (fun ls hl => ?_)
          obtain ⟨k, hw⟩ := hw
          exact b_147 k M_shapes M_shapeMany M_ended M_cut M_mostPieces M_walks M_walked M_next x1 x2 v120 (1 : Int32) (0 : Int32) (0 : Int32) hw H locs hP hD hS ls (lv_sub hl [4, 5, 6, 3, 2, 1, 0] rfl)
  have b_62 : ∀ n_62 : Nat, ∀ (M_shapes : Nat → Int32) (M_shapeMany : Int32) (M_ended : Int32) (M_cut : Int32) (M_mostPieces : Int32) (M_walks : Int32) (M_walked : Int32) (M_next : Nat → Int32) (x1 : Int32) (x2 : Int32), wq_X8_walk_62 M_strength M_kind M_more M_glues M_pieces M_warmth M_sheet Q n_62 M_shapes M_shapeMany M_ended M_cut M_mostPieces M_walks M_walked M_next x1 x2 → ∀ (H : Heap) (locs : List Loc), va_P D vwCl (w_X8_walk cI cJ cZ cO aM aM_strength aM_kind aM_more aM_glues aM_sheet aM_since aM_imageStrength aM_imageKind aM_imageMore aM_imageGlues aM_imagePieces aM_imageWarmth aM_imageSheet aM_imageDraw aM_stepWhat aM_stepPiece aM_stepPlace aM_stepSince aM_tape aM_shapes aM_pile aM_met aM_next aM_inputs aM_then M_pieces M_warmth M_draw M_steps M_undoable M_brought M_taped M_shapeMany M_ended M_cut M_mostPieces M_walks M_walked M_strength M_kind M_more M_glues M_sheet M_shapes M_next) H → va_D A (w_X8_walk cI cJ cZ cO aM aM_strength aM_kind aM_more aM_glues aM_sheet aM_since aM_imageStrength aM_imageKind aM_imageMore aM_imageGlues aM_imagePieces aM_imageWarmth aM_imageSheet aM_imageDraw aM_stepWhat aM_stepPiece aM_stepPlace aM_stepSince aM_tape aM_shapes aM_pile aM_met aM_next aM_inputs aM_then M_pieces M_warmth M_draw M_steps M_undoable M_brought M_taped M_shapeMany M_ended M_cut M_mostPieces M_walks M_walked M_strength M_kind M_more M_glues M_sheet M_shapes M_next) → va_S A s.heap H locs → ∀ ls : Array Slot, lv_has ls 9 [(0, .ref aM), (1, .int x1), (2, .int x2)] → W p l e rm_X8_walk s m args below meth c H locs 0 0 Z (F0 m 62 ls []) := by
    intro n_62
    induction n_62 with
    | zero => intro M_shapes M_shapeMany M_ended M_cut M_mostPieces M_walks M_walked M_next x1 x2 hw; exact False.elim hw
    | succ n_62 ih_62 =>
      intro M_shapes M_shapeMany M_ended M_cut M_mostPieces M_walks M_walked M_next x1 x2 hw H locs hP hD hS ls hl
      have hw : wf_X8_walk_62 M_strength M_kind M_more M_glues M_pieces M_warmth M_sheet Q (wq_X8_walk_62 M_strength M_kind M_more M_glues M_pieces M_warmth M_sheet Q n_62) M_shapes M_shapeMany M_ended M_cut M_mostPieces M_walks M_walked M_next x1 x2 := hw
      unfold wf_X8_walk_62 at hw
      refine lv_iload_n hx hb dX8_walk_62 rfl (lv_at hl 2 rfl) ?_
      refine lv_sipush (v := (256 : Int32)) hx hb dX8_walk_63 kS_256 ?_
      refine lv_icmp_ge (tgt := 87) hx hb dX8_walk_66 (by decide) (fun c66 => ?_) (fun c66 => ?_)
      · have hw := hw.1 c66
        refine lv_aload_n hx hb dX8_walk_87 rfl (lv_at hl 0 rfl) ?_
        refine lv_iconst (v := (1 : Int32)) hx hb dX8_walk_88 kI_1 ?_
        refine va_put (D := D) (ci := 8) (v := .int (1 : Int32)) (ty := .int) (C := RX8) (T := TX8) (N := 38) hx hb hts in_X8_walk_X8 tyX8 tyX8_ok nmX8 hown hK hP hD hS 0 rfl rfl 27 (by decide) k_2 (fun _ h9 => h9) rfl (tyX8_ok 27 (by decide)) rfl rfl (Nat.le_of_ble_eq_true rfl) dX8_walk_89 (fun H locs hP hD hS => ?_)
        have hP : va_P D vwCl (w_X8_walk cI cJ cZ cO aM aM_strength aM_kind aM_more aM_glues aM_sheet aM_since aM_imageStrength aM_imageKind aM_imageMore aM_imageGlues aM_imagePieces aM_imageWarmth aM_imageSheet aM_imageDraw aM_stepWhat aM_stepPiece aM_stepPlace aM_stepSince aM_tape aM_shapes aM_pile aM_met aM_next aM_inputs aM_then M_pieces M_warmth M_draw M_steps M_undoable M_brought M_taped (1 : Int32) M_ended M_cut M_mostPieces M_walks M_walked M_strength M_kind M_more M_glues M_sheet M_shapes M_next) H := hP
        have hD : va_D A (w_X8_walk cI cJ cZ cO aM aM_strength aM_kind aM_more aM_glues aM_sheet aM_since aM_imageStrength aM_imageKind aM_imageMore aM_imageGlues aM_imagePieces aM_imageWarmth aM_imageSheet aM_imageDraw aM_stepWhat aM_stepPiece aM_stepPlace aM_stepSince aM_tape aM_shapes aM_pile aM_met aM_next aM_inputs aM_then M_pieces M_warmth M_draw M_steps M_undoable M_brought M_taped (1 : Int32) M_ended M_cut M_mostPieces M_walks M_walked M_strength M_kind M_more M_glues M_sheet M_shapes M_next) := hD
        refine lv_aload_n hx hb dX8_walk_92 rfl (lv_at hl 0 rfl) ?_
        refine lv_aload_n hx hb dX8_walk_93 rfl (lv_at hl 0 rfl) ?_
        refine lv_aload_n hx hb dX8_walk_94 rfl (lv_at hl 0 rfl) ?_
        refine va_get (D := D) (ci := 8) (v := .ref aM_sheet) (C := RX8) (T := TX8) (N := 38) hx hb hts in_X8_walk_X8 hown hK hP 0 rfl rfl 7 (by decide) k_7 (fun _ h9 => h9) rfl dX8_walk_95 ?_
        refine lv_iconst (v := (0 : Int32)) hx hb dX8_walk_98 kI_0 ?_
        refine cx_goi (va_runV (As := [.ref aM_sheet, .int (0 : Int32)]) (rest := [.ref aM]) ⟨hx, hb, hml, hown, hts⟩ (c_X8_piecesOn l D cI cJ cZ cO tS tT H.size aM_sheet aM aM_strength aM_kind aM_more aM_glues aM_sheet aM_since aM_imageStrength aM_imageKind aM_imageMore aM_imageGlues aM_imagePieces aM_imageWarmth aM_imageSheet aM_imageDraw aM_stepWhat aM_stepPiece aM_stepPlace aM_stepSince aM_tape aM_shapes aM_pile aM_met aM_next aM_inputs aM_then 256 M_sheet M_pieces M_warmth M_draw M_steps M_undoable M_brought M_taped (1 : Int32) M_ended M_cut M_mostPieces M_walks M_walked (0 : Int32) _ hw) (cwV 2 hts gX8_walk_X8_piecesOn rfl rfl rfl pv_X8_piecesOn ⟨Nat.le_of_ble_eq_true rfl, Nat.le_of_ble_eq_true rfl⟩) (cx_preV (wc := w_X8_piecesOn cI cJ cZ cO aM_sheet aM aM_strength aM_kind aM_more aM_glues aM_sheet aM_since aM_imageStrength aM_imageKind aM_imageMore aM_imageGlues aM_imagePieces aM_imageWarmth aM_imageSheet aM_imageDraw aM_stepWhat aM_stepPiece aM_stepPlace aM_stepSince aM_tape aM_shapes aM_pile aM_met aM_next aM_inputs aM_then 256 M_sheet M_pieces M_warmth M_draw M_steps M_undoable M_brought M_taped (1 : Int32) M_ended M_cut M_mostPieces M_walks M_walked) hE hK hP hD hS hA [5, 0] rfl rfl (va_recv hK hP (ci := 8) (q0 := 0) rfl rfl)) rfl rfl hl.1 rfl (lv_room (Nat.le_of_ble_eq_true rfl)) dX8_walk_99 ⟨Nat.le_of_ble_eq_true rfl, Nat.le_of_ble_eq_true rfl⟩) (fun (_ : Unit) => (w_X8_walk cI cJ cZ cO aM aM_strength aM_kind aM_more aM_glues aM_sheet aM_since aM_imageStrength aM_imageKind aM_imageMore aM_imageGlues aM_imagePieces aM_imageWarmth aM_imageSheet aM_imageDraw aM_stepWhat aM_stepPiece aM_stepPlace aM_stepSince aM_tape aM_shapes aM_pile aM_met aM_next aM_inputs aM_then M_pieces M_warmth M_draw M_steps M_undoable M_brought M_taped (1 : Int32) M_ended M_cut M_mostPieces M_walks M_walked M_strength M_kind M_more M_glues M_sheet M_shapes M_next)) [5, 0] [1, 2, 3, 4, 6, 7] (ads := [aM_sheet, aM]) (wr := [(aM_strength, .inl (cI, 51, .inl M_strength)), (aM_kind, .inl (cI, 40, .inl M_kind)), (aM_more, .inl (cI, 40, .inl M_more)), (aM_glues, .inl (cI, 160, .inl M_glues)), (aM_shapes, .inl (cI, 76800, .inl M_shapes)), (aM_next, .inl (cI, 256, .inl M_next))]) rfl rfl (fun u => rfl) (fun u => rfl) rfl (fun u => rfl) rfl (fun u => rfl) rfl hP hD hS hA (fun r99 u H locs hw hP hD hS => ?_)
        have hP : va_P D vwCl (w_X8_walk cI cJ cZ cO aM aM_strength aM_kind aM_more aM_glues aM_sheet aM_since aM_imageStrength aM_imageKind aM_imageMore aM_imageGlues aM_imagePieces aM_imageWarmth aM_imageSheet aM_imageDraw aM_stepWhat aM_stepPiece aM_stepPlace aM_stepSince aM_tape aM_shapes aM_pile aM_met aM_next aM_inputs aM_then M_pieces M_warmth M_draw M_steps M_undoable M_brought M_taped (1 : Int32) M_ended M_cut M_mostPieces M_walks M_walked M_strength M_kind M_more M_glues M_sheet M_shapes M_next) H := hP
        have hD : va_D A (w_X8_walk cI cJ cZ cO aM aM_strength aM_kind aM_more aM_glues aM_sheet aM_since aM_imageStrength aM_imageKind aM_imageMore aM_imageGlues aM_imagePieces aM_imageWarmth aM_imageSheet aM_imageDraw aM_stepWhat aM_stepPiece aM_stepPlace aM_stepSince aM_tape aM_shapes aM_pile aM_met aM_next aM_inputs aM_then M_pieces M_warmth M_draw M_steps M_undoable M_brought M_taped (1 : Int32) M_ended M_cut M_mostPieces M_walks M_walked M_strength M_kind M_more M_glues M_sheet M_shapes M_next) := hD
        refine va_put (D := D) (ci := 8) (v := .int r99) (ty := .int) (C := RX8) (T := TX8) (N := 38) hx hb hts in_X8_walk_X8 tyX8 tyX8_ok nmX8 hown hK hP hD hS 0 rfl rfl 30 (by decide) k_4 (fun _ h9 => h9) rfl (tyX8_ok 30 (by decide)) rfl rfl (Nat.le_of_ble_eq_true rfl) dX8_walk_102 (fun H locs hP hD hS => ?_)
        have hP : va_P D vwCl (w_X8_walk cI cJ cZ cO aM aM_strength aM_kind aM_more aM_glues aM_sheet aM_since aM_imageStrength aM_imageKind aM_imageMore aM_imageGlues aM_imagePieces aM_imageWarmth aM_imageSheet aM_imageDraw aM_stepWhat aM_stepPiece aM_stepPlace aM_stepSince aM_tape aM_shapes aM_pile aM_met aM_next aM_inputs aM_then M_pieces M_warmth M_draw M_steps M_undoable M_brought M_taped (1 : Int32) M_ended M_cut r99 M_walks M_walked M_strength M_kind M_more M_glues M_sheet M_shapes M_next) H := hP
        have hD : va_D A (w_X8_walk cI cJ cZ cO aM aM_strength aM_kind aM_more aM_glues aM_sheet aM_since aM_imageStrength aM_imageKind aM_imageMore aM_imageGlues aM_imagePieces aM_imageWarmth aM_imageSheet aM_imageDraw aM_stepWhat aM_stepPiece aM_stepPlace aM_stepSince aM_tape aM_shapes aM_pile aM_met aM_next aM_inputs aM_then M_pieces M_warmth M_draw M_steps M_undoable M_brought M_taped (1 : Int32) M_ended M_cut r99 M_walks M_walked M_strength M_kind M_more M_glues M_sheet M_shapes M_next) := hD
        refine lv_iconst (v := (0 : Int32)) hx hb dX8_walk_105 kI_0 ?_
        refine lv_istore_n (lv' := [(2, .int (0 : Int32)), (0, .ref aM), (1, .int x1)]) hx hb dX8_walk_106 rfl hl (by decide) rfl (fun ls hl => ?_)
        obtain ⟨k, hw⟩ := hw
        exact b_107 k M_shapes (1 : Int32) M_ended M_cut r99 M_walks M_walked M_next x1 (0 : Int32) hw H locs hP hD hS ls (lv_sub hl [1, 2, 0] rfl)
      · have hw := hw.2 c66
        refine lv_aload_n hx hb dX8_walk_69 rfl (lv_at hl 0 rfl) ?_
        refine va_get (D := D) (ci := 8) (v := .ref aM_shapes) (C := RX8) (T := TX8) (N := 38) hx hb hts in_X8_walk_X8 hown hK hP 0 rfl rfl 26 (by decide) k_5 (fun _ h9 => h9) rfl dX8_walk_70 ?_
        refine lv_iload_n hx hb dX8_walk_73 rfl (lv_at hl 2 rfl) ?_
        refine lv_aload_n hx hb dX8_walk_74 rfl (lv_at hl 0 rfl) ?_
        refine va_get (D := D) (ci := 8) (v := .ref aM_sheet) (C := RX8) (T := TX8) (N := 38) hx hb hts in_X8_walk_X8 hown hK hP 0 rfl rfl 7 (by decide) k_7 (fun _ h9 => h9) rfl dX8_walk_75 ?_
        refine lv_iload_n hx hb dX8_walk_78 rfl (lv_at hl 2 rfl) ?_
        have h79 := hw.1
        have hw := hw.2
        refine va_iald hx hb hK hP 5 0 rfl rfl h79 dX8_walk_79 ?_
        refine lv_topi (fun v79 e79 => ?_)
        have hw := hw v79 e79
        have h80 := hw.1
        have hw := hw.2
        refine va_iast hx hb hK hP hD hS 6 0 rfl rfl h80 dX8_walk_80 (fun H locs hP hD hS => ?_)
        have hP : va_P D vwCl (w_X8_walk cI cJ cZ cO aM aM_strength aM_kind aM_more aM_glues aM_sheet aM_since aM_imageStrength aM_imageKind aM_imageMore aM_imageGlues aM_imagePieces aM_imageWarmth aM_imageSheet aM_imageDraw aM_stepWhat aM_stepPiece aM_stepPlace aM_stepSince aM_tape aM_shapes aM_pile aM_met aM_next aM_inputs aM_then M_pieces M_warmth M_draw M_steps M_undoable M_brought M_taped M_shapeMany M_ended M_cut M_mostPieces M_walks M_walked M_strength M_kind M_more M_glues M_sheet (upd M_shapes x2.toNatClampNeg v79) M_next) H := hP
        have hD : va_D A (w_X8_walk cI cJ cZ cO aM aM_strength aM_kind aM_more aM_glues aM_sheet aM_since aM_imageStrength aM_imageKind aM_imageMore aM_imageGlues aM_imagePieces aM_imageWarmth aM_imageSheet aM_imageDraw aM_stepWhat aM_stepPiece aM_stepPlace aM_stepSince aM_tape aM_shapes aM_pile aM_met aM_next aM_inputs aM_then M_pieces M_warmth M_draw M_steps M_undoable M_brought M_taped M_shapeMany M_ended M_cut M_mostPieces M_walks M_walked M_strength M_kind M_more M_glues M_sheet (upd M_shapes x2.toNatClampNeg v79) M_next) := hD
        obtain ⟨M_shapes_80, e80⟩ : ∃ y : Nat → Int32, y = upd M_shapes x2.toNatClampNeg v79 := ⟨_, rfl⟩
        rw [← e80] at hP hD
        have hw := hw M_shapes_80 e80
        obtain ⟨v81, e81⟩ : ∃ y : Int32, y = x2 + (1 : Int32) := ⟨_, rfl⟩
        have hw := hw v81 e81
        refine lv_iinc (v := v81) (lv' := [(2, .int v81), (0, .ref aM), (1, .int x1)]) hx hb dX8_walk_81 hl (k := 2) rfl (by rw [e81, kI_1]) (by decide) rfl (fun ls hl => ?_)
        refine lv_goto (tgt := 62) hx hb dX8_walk_84 (by decide) ?_
        exact ih_62 M_shapes_80 M_shapeMany M_ended M_cut M_mostPieces M_walks M_walked M_next x1 v81 hw H locs hP hD hS ls (lv_sub hl [1, 2, 0] rfl)
  intro H locs hP hD hS ls hl
  unfold wp_X8_walk at hw
  refine lv_iload_n hx hb dX8_walk_0 rfl (lv_at hl 1 rfl) ?_
  refine lv_iconst (v := (1 : Int32)) hx hb dX8_walk_1 kI_1 ?_
  refine lv_icmp_lt (tgt := 33) hx hb dX8_walk_2 (by decide) (fun c2 => ?_) (fun c2 => ?_)
  · have hw := hw.1 c2
    refine lv_iconst (v := (-1 : Int32)) hx hb dX8_walk_33 kI_m1 ?_
    rw [hZ]
    exact cx_reti (M_shapes, M_shapeMany, M_ended, M_cut, M_mostPieces, M_walks, M_walked, M_next) hx hb hr hlocks hw hP hS dX8_walk_34
  · have hw := hw.2 c2
    refine lv_iload_n hx hb dX8_walk_5 rfl (lv_at hl 1 rfl) ?_
    refine lv_bipush (v := (40 : Int32)) hx hb dX8_walk_6 kB_40 ?_
    refine lv_icmp_gt (tgt := 33) hx hb dX8_walk_8 (by decide) (fun c8 => ?_) (fun c8 => ?_)
    · have hw := hw.1 c8
      refine lv_iconst (v := (-1 : Int32)) hx hb dX8_walk_33 kI_m1 ?_
      rw [hZ]
      exact cx_reti (M_shapes, M_shapeMany, M_ended, M_cut, M_mostPieces, M_walks, M_walked, M_next) hx hb hr hlocks hw hP hS dX8_walk_34
    · have hw := hw.2 c8
      refine lv_aload_n hx hb dX8_walk_11 rfl (lv_at hl 0 rfl) ?_
      refine lv_aload_n hx hb dX8_walk_12 rfl (lv_at hl 0 rfl) ?_
      refine va_get (D := D) (ci := 8) (v := .ref aM_sheet) (C := RX8) (T := TX8) (N := 38) hx hb hts in_X8_walk_X8 hown hK hP 0 rfl rfl 7 (by decide) k_7 (fun _ h9 => h9) rfl dX8_walk_13 ?_
      refine lv_iconst (v := (0 : Int32)) hx hb dX8_walk_16 kI_0 ?_
      refine cx_goi (va_runV (As := [.ref aM_sheet, .int (0 : Int32)]) (rest := []) ⟨hx, hb, hml, hown, hts⟩ (c_X8_piecesOn l D cI cJ cZ cO tS tT H.size aM_sheet aM aM_strength aM_kind aM_more aM_glues aM_sheet aM_since aM_imageStrength aM_imageKind aM_imageMore aM_imageGlues aM_imagePieces aM_imageWarmth aM_imageSheet aM_imageDraw aM_stepWhat aM_stepPiece aM_stepPlace aM_stepSince aM_tape aM_shapes aM_pile aM_met aM_next aM_inputs aM_then 256 M_sheet M_pieces M_warmth M_draw M_steps M_undoable M_brought M_taped M_shapeMany M_ended M_cut M_mostPieces M_walks M_walked (0 : Int32) _ hw) (cwV 2 hts gX8_walk_X8_piecesOn rfl rfl rfl pv_X8_piecesOn ⟨Nat.le_of_ble_eq_true rfl, Nat.le_of_ble_eq_true rfl⟩) (cx_preV (wc := w_X8_piecesOn cI cJ cZ cO aM_sheet aM aM_strength aM_kind aM_more aM_glues aM_sheet aM_since aM_imageStrength aM_imageKind aM_imageMore aM_imageGlues aM_imagePieces aM_imageWarmth aM_imageSheet aM_imageDraw aM_stepWhat aM_stepPiece aM_stepPlace aM_stepSince aM_tape aM_shapes aM_pile aM_met aM_next aM_inputs aM_then 256 M_sheet M_pieces M_warmth M_draw M_steps M_undoable M_brought M_taped M_shapeMany M_ended M_cut M_mostPieces M_walks M_walked) hE hK hP hD hS hA [5, 0] rfl rfl (va_recv hK hP (ci := 8) (q0 := 0) rfl rfl)) rfl rfl hl.1 rfl (lv_room (Nat.le_of_ble_eq_true rfl)) dX8_walk_17 ⟨Nat.le_of_ble_eq_true rfl, Nat.le_of_ble_eq_true rfl⟩) (fun (_ : Unit) => (w_X8_walk cI cJ cZ cO aM aM_strength aM_kind aM_more aM_glues aM_sheet aM_since aM_imageStrength aM_imageKind aM_imageMore aM_imageGlues aM_imagePieces aM_imageWarmth aM_imageSheet aM_imageDraw aM_stepWhat aM_stepPiece aM_stepPlace aM_stepSince aM_tape aM_shapes aM_pile aM_met aM_next aM_inputs aM_then M_pieces M_warmth M_draw M_steps M_undoable M_brought M_taped M_shapeMany M_ended M_cut M_mostPieces M_walks M_walked M_strength M_kind M_more M_glues M_sheet M_shapes M_next)) [5, 0] [1, 2, 3, 4, 6, 7] (ads := [aM_sheet, aM]) (wr := [(aM_strength, .inl (cI, 51, .inl M_strength)), (aM_kind, .inl (cI, 40, .inl M_kind)), (aM_more, .inl (cI, 40, .inl M_more)), (aM_glues, .inl (cI, 160, .inl M_glues)), (aM_shapes, .inl (cI, 76800, .inl M_shapes)), (aM_next, .inl (cI, 256, .inl M_next))]) rfl rfl (fun u => rfl) (fun u => rfl) rfl (fun u => rfl) rfl (fun u => rfl) rfl hP hD hS hA (fun r17 u H locs hw hP hD hS => ?_)
      have hP : va_P D vwCl (w_X8_walk cI cJ cZ cO aM aM_strength aM_kind aM_more aM_glues aM_sheet aM_since aM_imageStrength aM_imageKind aM_imageMore aM_imageGlues aM_imagePieces aM_imageWarmth aM_imageSheet aM_imageDraw aM_stepWhat aM_stepPiece aM_stepPlace aM_stepSince aM_tape aM_shapes aM_pile aM_met aM_next aM_inputs aM_then M_pieces M_warmth M_draw M_steps M_undoable M_brought M_taped M_shapeMany M_ended M_cut M_mostPieces M_walks M_walked M_strength M_kind M_more M_glues M_sheet M_shapes M_next) H := hP
      have hD : va_D A (w_X8_walk cI cJ cZ cO aM aM_strength aM_kind aM_more aM_glues aM_sheet aM_since aM_imageStrength aM_imageKind aM_imageMore aM_imageGlues aM_imagePieces aM_imageWarmth aM_imageSheet aM_imageDraw aM_stepWhat aM_stepPiece aM_stepPlace aM_stepSince aM_tape aM_shapes aM_pile aM_met aM_next aM_inputs aM_then M_pieces M_warmth M_draw M_steps M_undoable M_brought M_taped M_shapeMany M_ended M_cut M_mostPieces M_walks M_walked M_strength M_kind M_more M_glues M_sheet M_shapes M_next) := hD
      refine lv_iload_n hx hb dX8_walk_20 rfl (lv_at hl 1 rfl) ?_
      refine lv_icmp_gt (tgt := 33) hx hb dX8_walk_21 (by decide) (fun c21 => ?_) (fun c21 => ?_)
      · have hw := hw.1 c21
        refine lv_iconst (v := (-1 : Int32)) hx hb dX8_walk_33 kI_m1 ?_
        rw [hZ]
        exact cx_reti (M_shapes, M_shapeMany, M_ended, M_cut, M_mostPieces, M_walks, M_walked, M_next) hx hb hr hlocks hw hP hS dX8_walk_34
      · have hw := hw.2 c21
        refine lv_aload_n hx hb dX8_walk_24 rfl (lv_at hl 0 rfl) ?_
        refine va_get (D := D) (ci := 8) (v := .int M_walks) (C := RX8) (T := TX8) (N := 38) hx hb hts in_X8_walk_X8 hown hK hP 0 rfl rfl 31 (by decide) k_8 (fun _ h9 => h9) rfl dX8_walk_25 ?_
        refine lv_bipush (v := (60 : Int32)) hx hb dX8_walk_28 kB_60 ?_
        refine lv_icmp_ne (tgt := 35) hx hb dX8_walk_30 (by decide) (fun c30 => ?_) (fun c30 => ?_)
        · have hw := hw.1 c30
          refine lv_aload_n hx hb dX8_walk_35 rfl (lv_at hl 0 rfl) ?_
          refine lv_dup hx hb dX8_walk_36 rfl ?_
          refine va_get (D := D) (ci := 8) (v := .int M_walks) (C := RX8) (T := TX8) (N := 38) hx hb hts in_X8_walk_X8 hown hK hP 0 rfl rfl 31 (by decide) k_8 (fun _ h9 => h9) rfl dX8_walk_37 ?_
          refine lv_iconst (v := (1 : Int32)) hx hb dX8_walk_40 kI_1 ?_
          refine lv_iadd hx hb dX8_walk_41 ?_
          refine lv_topi (fun M_walks_42 e42 => ?_)
          have hw := hw M_walks_42 e42
          refine va_put (D := D) (ci := 8) (v := .int M_walks_42) (ty := .int) (C := RX8) (T := TX8) (N := 38) hx hb hts in_X8_walk_X8 tyX8 tyX8_ok nmX8 hown hK hP hD hS 0 rfl rfl 31 (by decide) k_8 (fun _ h9 => h9) rfl (tyX8_ok 31 (by decide)) rfl rfl (Nat.le_of_ble_eq_true rfl) dX8_walk_42 (fun H locs hP hD hS => ?_)
          have hP : va_P D vwCl (w_X8_walk cI cJ cZ cO aM aM_strength aM_kind aM_more aM_glues aM_sheet aM_since aM_imageStrength aM_imageKind aM_imageMore aM_imageGlues aM_imagePieces aM_imageWarmth aM_imageSheet aM_imageDraw aM_stepWhat aM_stepPiece aM_stepPlace aM_stepSince aM_tape aM_shapes aM_pile aM_met aM_next aM_inputs aM_then M_pieces M_warmth M_draw M_steps M_undoable M_brought M_taped M_shapeMany M_ended M_cut M_mostPieces M_walks_42 M_walked M_strength M_kind M_more M_glues M_sheet M_shapes M_next) H := hP
          have hD : va_D A (w_X8_walk cI cJ cZ cO aM aM_strength aM_kind aM_more aM_glues aM_sheet aM_since aM_imageStrength aM_imageKind aM_imageMore aM_imageGlues aM_imagePieces aM_imageWarmth aM_imageSheet aM_imageDraw aM_stepWhat aM_stepPiece aM_stepPlace aM_stepSince aM_tape aM_shapes aM_pile aM_met aM_next aM_inputs aM_then M_pieces M_warmth M_draw M_steps M_undoable M_brought M_taped M_shapeMany M_ended M_cut M_mostPieces M_walks_42 M_walked M_strength M_kind M_more M_glues M_sheet M_shapes M_next) := hD
          refine lv_aload_n hx hb dX8_walk_45 rfl (lv_at hl 0 rfl) ?_
          refine lv_iconst (v := (1 : Int32)) hx hb dX8_walk_46 kI_1 ?_
          refine va_put (D := D) (ci := 8) (v := .int (1 : Int32)) (ty := .boolean) (C := RX8) (T := TX8) (N := 38) hx hb hts in_X8_walk_X8 tyX8 tyX8_ok nmX8 hown hK hP hD hS 0 rfl rfl 32 (by decide) k_9 (fun _ h9 => h9) rfl (tyX8_ok 32 (by decide)) (by decide) (by decide) (Nat.le_of_ble_eq_true rfl) dX8_walk_47 (fun H locs hP hD hS => ?_)
          have hP : va_P D vwCl (w_X8_walk cI cJ cZ cO aM aM_strength aM_kind aM_more aM_glues aM_sheet aM_since aM_imageStrength aM_imageKind aM_imageMore aM_imageGlues aM_imagePieces aM_imageWarmth aM_imageSheet aM_imageDraw aM_stepWhat aM_stepPiece aM_stepPlace aM_stepSince aM_tape aM_shapes aM_pile aM_met aM_next aM_inputs aM_then M_pieces M_warmth M_draw M_steps M_undoable M_brought M_taped M_shapeMany M_ended M_cut M_mostPieces M_walks_42 (1 : Int32) M_strength M_kind M_more M_glues M_sheet M_shapes M_next) H := hP
          have hD : va_D A (w_X8_walk cI cJ cZ cO aM aM_strength aM_kind aM_more aM_glues aM_sheet aM_since aM_imageStrength aM_imageKind aM_imageMore aM_imageGlues aM_imagePieces aM_imageWarmth aM_imageSheet aM_imageDraw aM_stepWhat aM_stepPiece aM_stepPlace aM_stepSince aM_tape aM_shapes aM_pile aM_met aM_next aM_inputs aM_then M_pieces M_warmth M_draw M_steps M_undoable M_brought M_taped M_shapeMany M_ended M_cut M_mostPieces M_walks_42 (1 : Int32) M_strength M_kind M_more M_glues M_sheet M_shapes M_next) := hD
          refine lv_aload_n hx hb dX8_walk_50 rfl (lv_at hl 0 rfl) ?_
          refine lv_iconst (v := (0 : Int32)) hx hb dX8_walk_51 kI_0 ?_
          refine va_put (D := D) (ci := 8) (v := .int (0 : Int32)) (ty := .int) (C := RX8) (T := TX8) (N := 38) hx hb hts in_X8_walk_X8 tyX8 tyX8_ok nmX8 hown hK hP hD hS 0 rfl rfl 28 (by decide) k_1 (fun _ h9 => h9) rfl (tyX8_ok 28 (by decide)) rfl rfl (Nat.le_of_ble_eq_true rfl) dX8_walk_52 (fun H locs hP hD hS => ?_)
          have hP : va_P D vwCl (w_X8_walk cI cJ cZ cO aM aM_strength aM_kind aM_more aM_glues aM_sheet aM_since aM_imageStrength aM_imageKind aM_imageMore aM_imageGlues aM_imagePieces aM_imageWarmth aM_imageSheet aM_imageDraw aM_stepWhat aM_stepPiece aM_stepPlace aM_stepSince aM_tape aM_shapes aM_pile aM_met aM_next aM_inputs aM_then M_pieces M_warmth M_draw M_steps M_undoable M_brought M_taped M_shapeMany (0 : Int32) M_cut M_mostPieces M_walks_42 (1 : Int32) M_strength M_kind M_more M_glues M_sheet M_shapes M_next) H := hP
          have hD : va_D A (w_X8_walk cI cJ cZ cO aM aM_strength aM_kind aM_more aM_glues aM_sheet aM_since aM_imageStrength aM_imageKind aM_imageMore aM_imageGlues aM_imagePieces aM_imageWarmth aM_imageSheet aM_imageDraw aM_stepWhat aM_stepPiece aM_stepPlace aM_stepSince aM_tape aM_shapes aM_pile aM_met aM_next aM_inputs aM_then M_pieces M_warmth M_draw M_steps M_undoable M_brought M_taped M_shapeMany (0 : Int32) M_cut M_mostPieces M_walks_42 (1 : Int32) M_strength M_kind M_more M_glues M_sheet M_shapes M_next) := hD
          refine lv_aload_n hx hb dX8_walk_55 rfl (lv_at hl 0 rfl) ?_
          refine lv_iconst (v := (0 : Int32)) hx hb dX8_walk_56 kI_0 ?_
          refine va_put (D := D) (ci := 8) (v := .int (0 : Int32)) (ty := .int) (C := RX8) (T := TX8) (N := 38) hx hb hts in_X8_walk_X8 tyX8 tyX8_ok nmX8 hown hK hP hD hS 0 rfl rfl 29 (by decide) k_0 (fun _ h9 => h9) rfl (tyX8_ok 29 (by decide)) rfl rfl (Nat.le_of_ble_eq_true rfl) dX8_walk_57 (fun H locs hP hD hS => ?_)
          have hP : va_P D vwCl (w_X8_walk cI cJ cZ cO aM aM_strength aM_kind aM_more aM_glues aM_sheet aM_since aM_imageStrength aM_imageKind aM_imageMore aM_imageGlues aM_imagePieces aM_imageWarmth aM_imageSheet aM_imageDraw aM_stepWhat aM_stepPiece aM_stepPlace aM_stepSince aM_tape aM_shapes aM_pile aM_met aM_next aM_inputs aM_then M_pieces M_warmth M_draw M_steps M_undoable M_brought M_taped M_shapeMany (0 : Int32) (0 : Int32) M_mostPieces M_walks_42 (1 : Int32) M_strength M_kind M_more M_glues M_sheet M_shapes M_next) H := hP
          have hD : va_D A (w_X8_walk cI cJ cZ cO aM aM_strength aM_kind aM_more aM_glues aM_sheet aM_since aM_imageStrength aM_imageKind aM_imageMore aM_imageGlues aM_imagePieces aM_imageWarmth aM_imageSheet aM_imageDraw aM_stepWhat aM_stepPiece aM_stepPlace aM_stepSince aM_tape aM_shapes aM_pile aM_met aM_next aM_inputs aM_then M_pieces M_warmth M_draw M_steps M_undoable M_brought M_taped M_shapeMany (0 : Int32) (0 : Int32) M_mostPieces M_walks_42 (1 : Int32) M_strength M_kind M_more M_glues M_sheet M_shapes M_next) := hD
          refine lv_iconst (v := (0 : Int32)) hx hb dX8_walk_60 kI_0 ?_
          refine lv_istore_n (lv' := [(2, .int (0 : Int32)), (0, .ref aM), (1, .int p1)]) hx hb dX8_walk_61 rfl hl (by decide) rfl (fun ls hl => ?_)
          obtain ⟨k, hw⟩ := hw
          exact b_62 k M_shapes M_shapeMany (0 : Int32) (0 : Int32) M_mostPieces M_walks_42 (1 : Int32) M_next p1 (0 : Int32) hw H locs hP hD hS ls (lv_sub hl [1, 2, 0] rfl)
        · have hw := hw.2 c30
          refine lv_iconst (v := (-1 : Int32)) hx hb dX8_walk_33 kI_m1 ?_
          rw [hZ]
          exact cx_reti (M_shapes, M_shapeMany, M_ended, M_cut, M_mostPieces, M_walks, M_walked, M_next) hx hb hr hlocks hw hP hS dX8_walk_34
