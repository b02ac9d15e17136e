set_option maxRecDepth 100000 in
set_option maxHeartbeats 4000000 in
theorem c_X8_row (l : Launch) (D : va_G) (cI cJ cZ cO : ClassId) (tS tT : Nat) (sz : Nat) (aM aM_strength aM_kind aM_more aM_glues aM_sheet aM_since aM_imageStrength aM_imageKind aM_imageMore aM_imageGlues aM_imagePieces aM_imageWarmth aM_imageSheet aM_imageDraw aM_stepWhat aM_stepPiece aM_stepPlace aM_stepSince aM_tape aM_shapes aM_pile aM_met aM_next aM_inputs aM_then : Nat) (M_pieces : Int32) (M_warmth : Int32) (M_draw : Int64) (M_steps : Int32) (M_undoable : Int32) (M_brought : Int32) (M_taped : Int32) (M_shapeMany : Int32) (M_ended : Int32) (M_cut : Int32) (M_mostPieces : Int32) (M_walks : Int32) (M_walked : Int32) (M_strength : Nat → Int32) (M_kind : Nat → Int32) (M_more : Nat → Int32) (M_glues : Nat → Int32) (M_sheet : Nat → Int32) (M_since : Nat → Int32) (p1 : Int32) (p2 : Int32) (Q : Int32 → Prop) (hw : wp_X8_row M_strength M_kind M_more M_glues M_sheet M_since p1 p2 Q) : Met l yX8_row wsX8_row rm_X8_row (va_Pc [.ref aM, .int p1, .int p2] (cx_B tS tT cI cJ cZ cO D sz (w_X8_row cI cJ cZ cO aM aM_strength aM_kind aM_more aM_glues aM_sheet aM_since aM_imageStrength aM_imageKind aM_imageMore aM_imageGlues aM_imagePieces aM_imageWarmth aM_imageSheet aM_imageDraw aM_stepWhat aM_stepPiece aM_stepPlace aM_stepSince aM_tape aM_shapes aM_pile aM_met aM_next aM_inputs aM_then M_pieces M_warmth M_draw M_steps M_undoable M_brought M_taped M_shapeMany M_ended M_cut M_mostPieces M_walks M_walked M_strength M_kind M_more M_glues M_sheet M_since))) (va_Qi (fun (r : Int32) (_ : Unit) => Q r) (fun (u : Unit) t => va_P D vwCl (w_X8_row cI cJ cZ cO aM aM_strength aM_kind aM_more aM_glues aM_sheet aM_since aM_imageStrength aM_imageKind aM_imageMore aM_imageGlues aM_imagePieces aM_imageWarmth aM_imageSheet aM_imageDraw aM_stepWhat aM_stepPiece aM_stepPlace aM_stepSince aM_tape aM_shapes aM_pile aM_met aM_next aM_inputs aM_then M_pieces M_warmth M_draw M_steps M_undoable M_brought M_taped M_shapeMany M_ended M_cut M_mostPieces M_walks M_walked M_strength M_kind M_more M_glues M_sheet M_since) t.heap) (va_A (w_X8_row cI cJ cZ cO aM aM_strength aM_kind aM_more aM_glues aM_sheet aM_since aM_imageStrength aM_imageKind aM_imageMore aM_imageGlues aM_imagePieces aM_imageWarmth aM_imageSheet aM_imageDraw aM_stepWhat aM_stepPiece aM_stepPlace aM_stepSince aM_tape aM_shapes aM_pile aM_met aM_next aM_inputs aM_then M_pieces M_warmth M_draw M_steps M_undoable M_brought M_taped M_shapeMany M_ended M_cut M_mostPieces M_walks M_walked M_strength M_kind M_more M_glues M_sheet M_since) sz)) 0 0 (va_A (w_X8_row cI cJ cZ cO aM aM_strength aM_kind aM_more aM_glues aM_sheet aM_since aM_imageStrength aM_imageKind aM_imageMore aM_imageGlues aM_imagePieces aM_imageWarmth aM_imageSheet aM_imageDraw aM_stepWhat aM_stepPiece aM_stepPlace aM_stepSince aM_tape aM_shapes aM_pile aM_met aM_next aM_inputs aM_then M_pieces M_warmth M_draw M_steps M_undoable M_brought M_taped M_shapeMany M_ended M_cut M_mostPieces M_walks M_walked M_strength M_kind M_more M_glues M_sheet M_since) sz) := by
  refine cx_met (cc := cX8_row) (maxL := 6) (ret := (some .int)) (Qc := fun A => va_Qi (fun (r : Int32) (_ : Unit) => Q r) (fun (u : Unit) t => va_P D vwCl (w_X8_row cI cJ cZ cO aM aM_strength aM_kind aM_more aM_glues aM_sheet aM_since aM_imageStrength aM_imageKind aM_imageMore aM_imageGlues aM_imagePieces aM_imageWarmth aM_imageSheet aM_imageDraw aM_stepWhat aM_stepPiece aM_stepPlace aM_stepSince aM_tape aM_shapes aM_pile aM_met aM_next aM_inputs aM_then M_pieces M_warmth M_draw M_steps M_undoable M_brought M_taped M_shapeMany M_ended M_cut M_mostPieces M_walks M_walked M_strength M_kind M_more M_glues M_sheet M_since) t.heap) A) (lv := [(0, .ref aM), (1, .int p1), (2, .int p2)]) (by decide) rfl (Nat.le_of_ble_eq_true rfl) rfl ?_
  intro p e s m args below meth c A Z hx hb hr hlocks hts hown hml hE hK hA hZ
  have hown : s.vm.findClass RX8 = some m.cls := hown
  have b_28 : ∀ n_28 : Nat, ∀ (x1 : Int32) (x2 : Int32) (x3 : Int32) (x4 : Int32), wq_X8_row_28 M_strength M_kind M_more M_glues M_sheet M_since Q n_28 x1 x2 x3 x4 → ∀ (H : Heap) (locs : List Loc), va_P D vwCl (w_X8_row cI cJ cZ cO aM aM_strength aM_kind aM_more aM_glues aM_sheet aM_since aM_imageStrength aM_imageKind aM_imageMore aM_imageGlues aM_imagePieces aM_imageWarmth aM_imageSheet aM_imageDraw aM_stepWhat aM_stepPiece aM_stepPlace aM_stepSince aM_tape aM_shapes aM_pile aM_met aM_next aM_inputs aM_then M_pieces M_warmth M_draw M_steps M_undoable M_brought M_taped M_shapeMany M_ended M_cut M_mostPieces M_walks M_walked M_strength M_kind M_more M_glues M_sheet M_since) H → va_D A (w_X8_row cI cJ cZ cO aM aM_strength aM_kind aM_more aM_glues aM_sheet aM_since aM_imageStrength aM_imageKind aM_imageMore aM_imageGlues aM_imagePieces aM_imageWarmth aM_imageSheet aM_imageDraw aM_stepWhat aM_stepPiece aM_stepPlace aM_stepSince aM_tape aM_shapes aM_pile aM_met aM_next aM_inputs aM_then M_pieces M_warmth M_draw M_steps M_undoable M_brought M_taped M_shapeMany M_ended M_cut M_mostPieces M_walks M_walked M_strength M_kind M_more M_glues M_sheet M_since) → va_S A s.heap H locs → ∀ ls : Array Slot, lv_has ls 6 [(0, .ref aM), (1, .int x1), (2, .int x2), (3, .int x3), (4, .int x4)] → W p l e rm_X8_row s m args below meth c H locs 0 0 Z (F0 m 28 ls []) := by
    intro n_28
    induction n_28 with
    | zero => intro x1 x2 x3 x4 hw; exact False.elim hw
    | succ n_28 ih_28 =>
      have b_58 : ∀ (x1 : Int32) (x2 : Int32) (x3 : Int32) (x4 : Int32) (x5 : Int32), wq_X8_row_58 M_strength M_kind M_more M_glues M_sheet M_since (wq_X8_row_28 M_strength M_kind M_more M_glues M_sheet M_since Q n_28) Q x1 x2 x3 x4 x5 → ∀ (H : Heap) (locs : List Loc), va_P D vwCl (w_X8_row cI cJ cZ cO aM aM_strength aM_kind aM_more aM_glues aM_sheet aM_since aM_imageStrength aM_imageKind aM_imageMore aM_imageGlues aM_imagePieces aM_imageWarmth aM_imageSheet aM_imageDraw aM_stepWhat aM_stepPiece aM_stepPlace aM_stepSince aM_tape aM_shapes aM_pile aM_met aM_next aM_inputs aM_then M_pieces M_warmth M_draw M_steps M_undoable M_brought M_taped M_shapeMany M_ended M_cut M_mostPieces M_walks M_walked M_strength M_kind M_more M_glues M_sheet M_since) H → va_D A (w_X8_row cI cJ cZ cO aM aM_strength aM_kind aM_more aM_glues aM_sheet aM_since aM_imageStrength aM_imageKind aM_imageMore aM_imageGlues aM_imagePieces aM_imageWarmth aM_imageSheet aM_imageDraw aM_stepWhat aM_stepPiece aM_stepPlace aM_stepSince aM_tape aM_shapes aM_pile aM_met aM_next aM_inputs aM_then M_pieces M_warmth M_draw M_steps M_undoable M_brought M_taped M_shapeMany M_ended M_cut M_mostPieces M_walks M_walked M_strength M_kind M_more M_glues M_sheet M_since) → va_S A s.heap H locs → ∀ ls : Array Slot, lv_has ls 6 [(0, .ref aM), (1, .int x1), (2, .int x2), (3, .int x3), (4, .int x4), (5, .int x5)] → W p l e rm_X8_row s m args below meth c H locs 0 0 Z (F0 m 58 ls []) := by
        intro x1 x2 x3 x4 x5 hw H locs hP hD hS ls hl
        unfold wq_X8_row_58 at hw
        refine lv_iconst (v := (2 : Int32)) hx hb dX8_row_58 kI_2 ?_
        refine lv_iload_n hx hb dX8_row_59 rfl (lv_at hl 3 rfl) ?_
        refine lv_imul hx hb dX8_row_60 ?_
        refine lv_iload hx hb dX8_row_61 (lv_at hl 5 rfl) ?_
        refine lv_iadd hx hb dX8_row_63 ?_
        refine lv_iconst (v := (1 : Int32)) hx hb dX8_row_64 kI_1 ?_
        refine lv_isub hx hb dX8_row_65 ?_
        refine lv_topi (fun v66 e66 => ?_)
        have hw := hw v66 e66
        refine lv_istore_n (lv' := [(3, .int v66), (0, .ref aM), (1, .int x1), (2, .int x2), (4, .int x4), (5, .int x5)]) hx hb dX8_row_66 rfl hl (by decide) rfl (fun ls hl => ?_)
        obtain ⟨v67, e67⟩ : ∃ y : Int32, y = x4 + (1 : Int32) := ⟨_, rfl⟩
        have hw := hw v67 e67
        refine lv_iinc (v := v67) (lv' := [(4, .int v67), (3, .int v66), (0, .ref aM), (1, .int x1), (2, .int x2), (5, .int x5)]) hx hb dX8_row_67 hl (k := 4) rfl (by rw [e67, kI_1]) (by decide) rfl (fun ls hl => ?_)
        refine lv_goto (tgt := 28) hx hb dX8_row_70 (by decide) ?_
        exact ih_28 x1 x2 v66 v67 hw H locs hP hD hS ls (lv_sub hl [2, 3, 4, 1, 0] rfl)
      intro x1 x2 x3 x4 hw H locs hP hD hS ls hl
      have hw : wf_X8_row_28 M_strength M_kind M_more M_glues M_sheet M_since Q (wq_X8_row_28 M_strength M_kind M_more M_glues M_sheet M_since Q n_28) x1 x2 x3 x4 := hw
      unfold wf_X8_row_28 at hw
      refine lv_iload hx hb dX8_row_28 (lv_at hl 4 rfl) ?_
      refine lv_iload_n hx hb dX8_row_30 rfl (lv_at hl 2 rfl) ?_
      refine lv_icmp_ge (tgt := 73) hx hb dX8_row_31 (by decide) (fun c31 => ?_) (fun c31 => ?_)
      · have hw := hw.1 c31
        refine lv_iload_n hx hb dX8_row_73 rfl (lv_at hl 3 rfl) ?_
        rw [hZ]
        exact cx_reti () hx hb hr hlocks hw hP hS dX8_row_74
      · have hw := hw.2 c31
        refine lv_aload_n hx hb dX8_row_34 rfl (lv_at hl 0 rfl) ?_
        refine lv_iload hx hb dX8_row_35 (lv_at hl 4 rfl) ?_
        refine lv_iload_n hx hb dX8_row_37 rfl (lv_at hl 1 rfl) ?_
        refine lv_iconst (v := (1 : Int32)) hx hb dX8_row_38 kI_1 ?_
        refine cx_goi (va_runV (As := [.int x4, .int x1, .int (1 : Int32)]) (rest := []) ⟨hx, hb, hml, hown, hts⟩ (c_X8_of l D cI cJ cZ cO tS tT H.size aM aM_strength aM_kind aM_more aM_glues aM_sheet aM_since aM_imageStrength aM_imageKind aM_imageMore aM_imageGlues aM_imagePieces aM_imageWarmth aM_imageSheet aM_imageDraw aM_stepWhat aM_stepPiece aM_stepPlace aM_stepSince aM_tape aM_shapes aM_pile aM_met aM_next aM_inputs aM_then M_pieces M_warmth M_draw M_steps M_undoable M_brought M_taped M_shapeMany M_ended M_cut M_mostPieces M_walks M_walked M_strength M_kind M_more M_glues M_sheet M_since x4 x1 (1 : Int32) _ hw) (cwV 3 hts gX8_row_X8_of rfl rfl rfl pv_X8_of ⟨Nat.le_of_ble_eq_true rfl, Nat.le_of_ble_eq_true rfl⟩) (cx_preV (wc := w_X8_of cI cJ cZ cO aM aM_strength aM_kind aM_more aM_glues aM_sheet aM_since aM_imageStrength aM_imageKind aM_imageMore aM_imageGlues aM_imagePieces aM_imageWarmth aM_imageSheet aM_imageDraw aM_stepWhat aM_stepPiece aM_stepPlace aM_stepSince aM_tape aM_shapes aM_pile aM_met aM_next aM_inputs aM_then M_pieces M_warmth M_draw M_steps M_undoable M_brought M_taped M_shapeMany M_ended M_cut M_mostPieces M_walks M_walked M_strength M_kind M_more M_glues M_sheet M_since) hE hK hP hD hS hA [0, 1, 2, 3, 4, 5, 6] rfl rfl (va_recv hK hP (ci := 8) (q0 := 0) rfl rfl)) rfl rfl hl.1 rfl (lv_room (Nat.le_of_ble_eq_true rfl)) dX8_row_39 ⟨Nat.le_of_ble_eq_true rfl, Nat.le_of_ble_eq_true rfl⟩) (fun (_ : Unit) => (w_X8_row cI cJ cZ cO aM aM_strength aM_kind aM_more aM_glues aM_sheet aM_since aM_imageStrength aM_imageKind aM_imageMore aM_imageGlues aM_imagePieces aM_imageWarmth aM_imageSheet aM_imageDraw aM_stepWhat aM_stepPiece aM_stepPlace aM_stepSince aM_tape aM_shapes aM_pile aM_met aM_next aM_inputs aM_then M_pieces M_warmth M_draw M_steps M_undoable M_brought M_taped M_shapeMany M_ended M_cut M_mostPieces M_walks M_walked M_strength M_kind M_more M_glues M_sheet M_since)) [0, 1, 2, 3, 4, 5, 6] [] (ads := [aM, aM_strength, aM_kind, aM_more, aM_glues, aM_sheet, aM_since]) (wr := []) rfl rfl (fun u => rfl) (fun u => rfl) rfl (fun u => rfl) rfl (fun u => rfl) rfl hP hD hS hA (fun r39 u H locs hw hP hD hS => ?_)
        have hP : va_P D vwCl (w_X8_row cI cJ cZ cO aM aM_strength aM_kind aM_more aM_glues aM_sheet aM_since aM_imageStrength aM_imageKind aM_imageMore aM_imageGlues aM_imagePieces aM_imageWarmth aM_imageSheet aM_imageDraw aM_stepWhat aM_stepPiece aM_stepPlace aM_stepSince aM_tape aM_shapes aM_pile aM_met aM_next aM_inputs aM_then M_pieces M_warmth M_draw M_steps M_undoable M_brought M_taped M_shapeMany M_ended M_cut M_mostPieces M_walks M_walked M_strength M_kind M_more M_glues M_sheet M_since) H := hP
        have hD : va_D A (w_X8_row cI cJ cZ cO aM aM_strength aM_kind aM_more aM_glues aM_sheet aM_since aM_imageStrength aM_imageKind aM_imageMore aM_imageGlues aM_imagePieces aM_imageWarmth aM_imageSheet aM_imageDraw aM_stepWhat aM_stepPiece aM_stepPlace aM_stepSince aM_tape aM_shapes aM_pile aM_met aM_next aM_inputs aM_then M_pieces M_warmth M_draw M_steps M_undoable M_brought M_taped M_shapeMany M_ended M_cut M_mostPieces M_walks M_walked M_strength M_kind M_more M_glues M_sheet M_since) := hD
        refine lv_istore (lv' := [(5, .int r39), (0, .ref aM), (1, .int x1), (2, .int x2), (3, .int x3), (4, .int x4)]) hx hb dX8_row_42 hl (by decide) rfl (fun ls hl => ?_)
        refine lv_iload hx hb dX8_row_44 (lv_at hl 0 rfl) ?_
        refine lv_iconst (v := (1 : Int32)) hx hb dX8_row_46 kI_1 ?_
        refine lv_icmp_eq (tgt := 58) hx hb dX8_row_47 (by decide) (fun c47 => ?_) (fun c47 => ?_)
        · have hw := hw.1 c47
          exact b_58 x1 x2 x3 x4 r39 hw H locs hP hD hS ls (lv_sub hl [1, 2, 3, 4, 5, 0] rfl)
        · have hw := hw.2 c47
          refine lv_iload hx hb dX8_row_50 (lv_at hl 0 rfl) ?_
          refine lv_iconst (v := (2 : Int32)) hx hb dX8_row_52 kI_2 ?_
          refine lv_icmp_eq (tgt := 58) hx hb dX8_row_53 (by decide) (fun c53 => ?_) (fun c53 => ?_)
          · have hw := hw.1 c53
            exact b_58 x1 x2 x3 x4 r39 hw H locs hP hD hS ls (lv_sub hl [1, 2, 3, 4, 5, 0] rfl)
          · have hw := hw.2 c53
            refine lv_iconst (v := (-1 : Int32)) hx hb dX8_row_56 kI_m1 ?_
            rw [hZ]
            exact cx_reti () hx hb hr hlocks hw hP hS dX8_row_57
  intro H locs hP hD hS ls hl
  unfold wp_X8_row at hw
  refine lv_iload_n hx hb dX8_row_0 rfl (lv_at hl 1 rfl) ?_
  refine lv_if_lt (tgt := 21) hx hb dX8_row_1 (by decide) (fun c1 => ?_) (fun c1 => ?_)
  · have hw := hw.1 c1
    refine lv_iconst (v := (-1 : Int32)) hx hb dX8_row_21 kI_m1 ?_
    rw [hZ]
    exact cx_reti () hx hb hr hlocks hw hP hS dX8_row_22
  · have hw := hw.2 c1
    refine lv_iload_n hx hb dX8_row_4 rfl (lv_at hl 1 rfl) ?_
    refine lv_bipush (v := (16 : Int32)) hx hb dX8_row_5 kB_16 ?_
    refine lv_icmp_ge (tgt := 21) hx hb dX8_row_7 (by decide) (fun c7 => ?_) (fun c7 => ?_)
    · have hw := hw.1 c7
      refine lv_iconst (v := (-1 : Int32)) hx hb dX8_row_21 kI_m1 ?_
      rw [hZ]
      exact cx_reti () hx hb hr hlocks hw hP hS dX8_row_22
    · have hw := hw.2 c7
      refine lv_iload_n hx hb dX8_row_10 rfl (lv_at hl 2 rfl) ?_
      refine lv_iconst (v := (1 : Int32)) hx hb dX8_row_11 kI_1 ?_
      refine lv_icmp_lt (tgt := 21) hx hb dX8_row_12 (by decide) (fun c12 => ?_) (fun c12 => ?_)
      · have hw := hw.1 c12
        refine lv_iconst (v := (-1 : Int32)) hx hb dX8_row_21 kI_m1 ?_
        rw [hZ]
        exact cx_reti () hx hb hr hlocks hw hP hS dX8_row_22
      · have hw := hw.2 c12
        refine lv_iload_n hx hb dX8_row_15 rfl (lv_at hl 2 rfl) ?_
        refine lv_bipush (v := (16 : Int32)) hx hb dX8_row_16 kB_16 ?_
        refine lv_icmp_le (tgt := 23) hx hb dX8_row_18 (by decide) (fun c18 => ?_) (fun c18 => ?_)
        · have hw := hw.1 c18
          refine lv_iconst (v := (0 : Int32)) hx hb dX8_row_23 kI_0 ?_
          refine lv_istore_n (lv' := [(3, .int (0 : Int32)), (0, .ref aM), (1, .int p1), (2, .int p2)]) hx hb dX8_row_24 rfl hl (by decide) rfl (fun ls hl => ?_)
          refine lv_iconst (v := (0 : Int32)) hx hb dX8_row_25 kI_0 ?_
          refine lv_istore (lv' := [(4, .int (0 : Int32)), (3, .int (0 : Int32)), (0, .ref aM), (1, .int p1), (2, .int p2)]) hx hb dX8_row_26 hl (by decide) rfl (fun ls hl => ?_)
          obtain ⟨k, hw⟩ := hw
          exact b_28 k p1 p2 (0 : Int32) (0 : Int32) hw H locs hP hD hS ls (lv_sub hl [2, 3, 4, 1, 0] rfl)
        · have hw := hw.2 c18
          refine lv_iconst (v := (-1 : Int32)) hx hb dX8_row_21 kI_m1 ?_
          rw [hZ]
          exact cx_reti () hx hb hr hlocks hw hP hS dX8_row_22
set_option maxRecDepth 100000 in
set_option maxHeartbeats 4000000 in
theorem c_X8_undo (l : Launch) (D : va_G) (cI cJ cZ cO : ClassId) (tS tT : Nat) (sz : Nat) (aM aM_strength aM_kind aM_more aM_glues aM_sheet aM_since aM_imageStrength aM_imageKind aM_imageMore aM_imageGlues aM_imagePieces aM_imageWarmth aM_imageSheet aM_imageDraw aM_stepWhat aM_stepPiece aM_stepPlace aM_stepSince aM_tape aM_shapes aM_pile aM_met aM_next aM_inputs aM_then : Nat) (M_pieces : Int32) (M_warmth : Int32) (M_draw : Int64) (M_steps : Int32) (M_undoable : Int32) (M_brought : Int32) (M_taped : Int32) (M_shapeMany : Int32) (M_ended : Int32) (M_cut : Int32) (M_mostPieces : Int32) (M_walks : Int32) (M_walked : Int32) (M_kind : Nat → Int32) (M_sheet : Nat → Int32) (M_since : Nat → Int32) (M_stepWhat : Nat → Int32) (M_stepPiece : Nat → Int32) (M_stepPlace : Nat → Int32) (M_stepSince : Nat → Int32) (p1 : Int32) (Q : Int32 → (Nat → Int32) → (Nat → Int32) → (Int32) → (Int32) → Prop) (hw : wp_X8_undo M_kind M_stepWhat M_stepPiece M_stepPlace M_stepSince M_sheet M_since M_steps M_undoable p1 Q) : Met l yX8_undo wsX8_undo rm_X8_undo (va_Pc [.ref aM, .int p1] (cx_B tS tT cI cJ cZ cO D sz (w_X8_undo cI cJ cZ cO aM aM_strength aM_kind aM_more aM_glues aM_sheet aM_since aM_imageStrength aM_imageKind aM_imageMore aM_imageGlues aM_imagePieces aM_imageWarmth aM_imageSheet aM_imageDraw aM_stepWhat aM_stepPiece aM_stepPlace aM_stepSince aM_tape aM_shapes aM_pile aM_met aM_next aM_inputs aM_then M_pieces M_warmth M_draw M_steps M_undoable M_brought M_taped M_shapeMany M_ended M_cut M_mostPieces M_walks M_walked M_kind M_sheet M_since M_stepWhat M_stepPiece M_stepPlace M_stepSince))) (va_Qi (fun (r : Int32) (u : (Nat → Int32) × (Nat → Int32) × (Int32) × (Int32)) => Q r u.1 u.2.1 u.2.2.1 u.2.2.2) (fun (u : (Nat → Int32) × (Nat → Int32) × (Int32) × (Int32)) t => va_P D vwCl (w_X8_undo cI cJ cZ cO aM aM_strength aM_kind aM_more aM_glues aM_sheet aM_since aM_imageStrength aM_imageKind aM_imageMore aM_imageGlues aM_imagePieces aM_imageWarmth aM_imageSheet aM_imageDraw aM_stepWhat aM_stepPiece aM_stepPlace aM_stepSince aM_tape aM_shapes aM_pile aM_met aM_next aM_inputs aM_then M_pieces M_warmth M_draw u.2.2.1 u.2.2.2 M_brought M_taped M_shapeMany M_ended M_cut M_mostPieces M_walks M_walked M_kind u.1 u.2.1 M_stepWhat M_stepPiece M_stepPlace M_stepSince) t.heap) (va_A (w_X8_undo cI cJ cZ cO aM aM_strength aM_kind aM_more aM_glues aM_sheet aM_since aM_imageStrength aM_imageKind aM_imageMore aM_imageGlues aM_imagePieces aM_imageWarmth aM_imageSheet aM_imageDraw aM_stepWhat aM_stepPiece aM_stepPlace aM_stepSince aM_tape aM_shapes aM_pile aM_met aM_next aM_inputs aM_then M_pieces M_warmth M_draw M_steps M_undoable M_brought M_taped M_shapeMany M_ended M_cut M_mostPieces M_walks M_walked M_kind M_sheet M_since M_stepWhat M_stepPiece M_stepPlace M_stepSince) sz)) 0 0 (va_A (w_X8_undo cI cJ cZ cO aM aM_strength aM_kind aM_more aM_glues aM_sheet aM_since aM_imageStrength aM_imageKind aM_imageMore aM_imageGlues aM_imagePieces aM_imageWarmth aM_imageSheet aM_imageDraw aM_stepWhat aM_stepPiece aM_stepPlace aM_stepSince aM_tape aM_shapes aM_pile aM_met aM_next aM_inputs aM_then M_pieces M_warmth M_draw M_steps M_undoable M_brought M_taped M_shapeMany M_ended M_cut M_mostPieces M_walks M_walked M_kind M_sheet M_since M_stepWhat M_stepPiece M_stepPlace M_stepSince) sz) := by
  refine cx_met (cc := cX8_undo) (maxL := 5) (ret := (some .int)) (Qc := fun A => va_Qi (fun (r : Int32) (u : (Nat → Int32) × (Nat → Int32) × (Int32) × (Int32)) => Q r u.1 u.2.1 u.2.2.1 u.2.2.2) (fun (u : (Nat → Int32) × (Nat → Int32) × (Int32) × (Int32)) t => va_P D vwCl (w_X8_undo cI cJ cZ cO aM aM_strength aM_kind aM_more aM_glues aM_sheet aM_since aM_imageStrength aM_imageKind aM_imageMore aM_imageGlues aM_imagePieces aM_imageWarmth aM_imageSheet aM_imageDraw aM_stepWhat aM_stepPiece aM_stepPlace aM_stepSince aM_tape aM_shapes aM_pile aM_met aM_next aM_inputs aM_then M_pieces M_warmth M_draw u.2.2.1 u.2.2.2 M_brought M_taped M_shapeMany M_ended M_cut M_mostPieces M_walks M_walked M_kind u.1 u.2.1 M_stepWhat M_stepPiece M_stepPlace M_stepSince) t.heap) A) (lv := [(0, .ref aM), (1, .int p1)]) (by decide) rfl (Nat.le_of_ble_eq_true rfl) rfl ?_
  intro p e s m args below meth c A Z hx hb hr hlocks hts hown hml hE hK hA hZ
  have hown : s.vm.findClass RX8 = some m.cls := hown
  have k_0 := hts (.fieldLink RX8 156 "GrowingTilesModel" "undoable" "I") (List.mem_of_getElem? (i := 1) (by decide +kernel))
  have k_1 := hts (.fieldLink RX8 159 "GrowingTilesModel" "steps" "I") (List.mem_of_getElem? (i := 2) (by decide +kernel))
  have k_2 := hts (.fieldLink RX8 60 "GrowingTilesModel" "stepPiece" "[I") (List.mem_of_getElem? (i := 3) (by decide +kernel))
  have k_3 := hts (.fieldLink RX8 63 "GrowingTilesModel" "stepPlace" "[I") (List.mem_of_getElem? (i := 4) (by decide +kernel))
  have k_4 := hts (.fieldLink RX8 57 "GrowingTilesModel" "stepWhat" "[I") (List.mem_of_getElem? (i := 5) (by decide +kernel))
  have k_5 := hts (.fieldLink RX8 26 "GrowingTilesModel" "sheet" "[I") (List.mem_of_getElem? (i := 6) (by decide +kernel))
  have k_6 := hts (.fieldLink RX8 66 "GrowingTilesModel" "stepSince" "[I") (List.mem_of_getElem? (i := 7) (by decide +kernel))
  have b_16 : ∀ n_16 : Nat, ∀ (M_sheet : Nat → Int32) (M_since : Nat → Int32) (M_steps : Int32) (M_undoable : Int32) (x1 : Int32) (x2 : Int32), wq_X8_undo_16 M_kind M_stepWhat M_stepPiece M_stepPlace M_stepSince Q n_16 M_sheet M_since M_steps M_undoable x1 x2 → ∀ (H : Heap) (locs : List Loc), va_P D vwCl (w_X8_undo cI cJ cZ cO aM aM_strength aM_kind aM_more aM_glues aM_sheet aM_since aM_imageStrength aM_imageKind aM_imageMore aM_imageGlues aM_imagePieces aM_imageWarmth aM_imageSheet aM_imageDraw aM_stepWhat aM_stepPiece aM_stepPlace aM_stepSince aM_tape aM_shapes aM_pile aM_met aM_next aM_inputs aM_then M_pieces M_warmth M_draw M_steps M_undoable M_brought M_taped M_shapeMany M_ended M_cut M_mostPieces M_walks M_walked M_kind M_sheet M_since M_stepWhat M_stepPiece M_stepPlace M_stepSince) H → va_D A (w_X8_undo cI cJ cZ cO aM aM_strength aM_kind aM_more aM_glues aM_sheet aM_since aM_imageStrength aM_imageKind aM_imageMore aM_imageGlues aM_imagePieces aM_imageWarmth aM_imageSheet aM_imageDraw aM_stepWhat aM_stepPiece aM_stepPlace aM_stepSince aM_tape aM_shapes aM_pile aM_met aM_next aM_inputs aM_then M_pieces M_warmth M_draw M_steps M_undoable M_brought M_taped M_shapeMany M_ended M_cut M_mostPieces M_walks M_walked M_kind M_sheet M_since M_stepWhat M_stepPiece M_stepPlace M_stepSince) → va_S A s.heap H locs → ∀ ls : Array Slot, lv_has ls 5 [(0, .ref aM), (1, .int x1), (2, .int x2)] → W p l e rm_X8_undo s m args below meth c H locs 0 0 Z (F0 m 16 ls []) := by
    intro n_16
    induction n_16 with
    | zero => intro M_sheet M_since M_steps M_undoable x1 x2 hw; exact False.elim hw
    | succ n_16 ih_16 =>
      intro M_sheet M_since M_steps M_undoable x1 x2 hw H locs hP hD hS ls hl
      have hw : wf_X8_undo_16 M_kind M_stepWhat M_stepPiece M_stepPlace M_stepSince Q (wq_X8_undo_16 M_kind M_stepWhat M_stepPiece M_stepPlace M_stepSince Q n_16) M_sheet M_since M_steps M_undoable x1 x2 := hw
      unfold wf_X8_undo_16 at hw
      refine lv_iload_n hx hb dX8_undo_16 rfl (lv_at hl 2 rfl) ?_
      refine lv_iload_n hx hb dX8_undo_17 rfl (lv_at hl 1 rfl) ?_
      refine lv_icmp_ge (tgt := 131) hx hb dX8_undo_18 (by decide) (fun c18 => ?_) (fun c18 => ?_)
      · have hw := hw.1 c18
        refine lv_iload_n hx hb dX8_undo_131 rfl (lv_at hl 1 rfl) ?_
        rw [hZ]
        exact cx_reti (M_sheet, M_since, M_steps, M_undoable) hx hb hr hlocks hw hP hS dX8_undo_132
      · have hw := hw.2 c18
        refine lv_aload_n hx hb dX8_undo_21 rfl (lv_at hl 0 rfl) ?_
        refine lv_dup hx hb dX8_undo_22 rfl ?_
        refine va_get (D := D) (ci := 8) (v := .int M_undoable) (C := RX8) (T := TX8) (N := 38) hx hb hts in_X8_undo_X8 hown hK hP 0 rfl rfl 22 (by decide) k_0 (fun _ h9 => h9) rfl dX8_undo_23 ?_
        refine lv_iconst (v := (1 : Int32)) hx hb dX8_undo_26 kI_1 ?_
        refine lv_isub hx hb dX8_undo_27 ?_
        refine lv_topi (fun M_undoable_28 e28 => ?_)
        have hw := hw M_undoable_28 e28
        refine va_put (D := D) (ci := 8) (v := .int M_undoable_28) (ty := .int) (C := RX8) (T := TX8) (N := 38) hx hb hts in_X8_undo_X8 tyX8 tyX8_ok nmX8 hown hK hP hD hS 0 rfl rfl 22 (by decide) k_0 (fun _ h9 => h9) rfl (tyX8_ok 22 (by decide)) rfl rfl (Nat.le_of_ble_eq_true rfl) dX8_undo_28 (fun H locs hP hD hS => ?_)
        have hP : va_P D vwCl (w_X8_undo cI cJ cZ cO aM aM_strength aM_kind aM_more aM_glues aM_sheet aM_since aM_imageStrength aM_imageKind aM_imageMore aM_imageGlues aM_imagePieces aM_imageWarmth aM_imageSheet aM_imageDraw aM_stepWhat aM_stepPiece aM_stepPlace aM_stepSince aM_tape aM_shapes aM_pile aM_met aM_next aM_inputs aM_then M_pieces M_warmth M_draw M_steps M_undoable_28 M_brought M_taped M_shapeMany M_ended M_cut M_mostPieces M_walks M_walked M_kind M_sheet M_since M_stepWhat M_stepPiece M_stepPlace M_stepSince) H := hP
        have hD : va_D A (w_X8_undo cI cJ cZ cO aM aM_strength aM_kind aM_more aM_glues aM_sheet aM_since aM_imageStrength aM_imageKind aM_imageMore aM_imageGlues aM_imagePieces aM_imageWarmth aM_imageSheet aM_imageDraw aM_stepWhat aM_stepPiece aM_stepPlace aM_stepSince aM_tape aM_shapes aM_pile aM_met aM_next aM_inputs aM_then M_pieces M_warmth M_draw M_steps M_undoable_28 M_brought M_taped M_shapeMany M_ended M_cut M_mostPieces M_walks M_walked M_kind M_sheet M_since M_stepWhat M_stepPiece M_stepPlace M_stepSince) := hD
        refine lv_aload_n hx hb dX8_undo_31 rfl (lv_at hl 0 rfl) ?_
        refine lv_dup hx hb dX8_undo_32 rfl ?_
        refine va_get (D := D) (ci := 8) (v := .int M_steps) (C := RX8) (T := TX8) (N := 38) hx hb hts in_X8_undo_X8 hown hK hP 0 rfl rfl 21 (by decide) k_1 (fun _ h9 => h9) rfl dX8_undo_33 ?_
        refine lv_iconst (v := (1 : Int32)) hx hb dX8_undo_36 kI_1 ?_
        refine lv_isub hx hb dX8_undo_37 ?_
        refine lv_topi (fun M_steps_38 e38 => ?_)
        have hw := hw M_steps_38 e38
        refine va_put (D := D) (ci := 8) (v := .int M_steps_38) (ty := .int) (C := RX8) (T := TX8) (N := 38) hx hb hts in_X8_undo_X8 tyX8 tyX8_ok nmX8 hown hK hP hD hS 0 rfl rfl 21 (by decide) k_1 (fun _ h9 => h9) rfl (tyX8_ok 21 (by decide)) rfl rfl (Nat.le_of_ble_eq_true rfl) dX8_undo_38 (fun H locs hP hD hS => ?_)
        have hP : va_P D vwCl (w_X8_undo cI cJ cZ cO aM aM_strength aM_kind aM_more aM_glues aM_sheet aM_since aM_imageStrength aM_imageKind aM_imageMore aM_imageGlues aM_imagePieces aM_imageWarmth aM_imageSheet aM_imageDraw aM_stepWhat aM_stepPiece aM_stepPlace aM_stepSince aM_tape aM_shapes aM_pile aM_met aM_next aM_inputs aM_then M_pieces M_warmth M_draw M_steps_38 M_undoable_28 M_brought M_taped M_shapeMany M_ended M_cut M_mostPieces M_walks M_walked M_kind M_sheet M_since M_stepWhat M_stepPiece M_stepPlace M_stepSince) H := hP
        have hD : va_D A (w_X8_undo cI cJ cZ cO aM aM_strength aM_kind aM_more aM_glues aM_sheet aM_since aM_imageStrength aM_imageKind aM_imageMore aM_imageGlues aM_imagePieces aM_imageWarmth aM_imageSheet aM_imageDraw aM_stepWhat aM_stepPiece aM_stepPlace aM_stepSince aM_tape aM_shapes aM_pile aM_met aM_next aM_inputs aM_then M_pieces M_warmth M_draw M_steps_38 M_undoable_28 M_brought M_taped M_shapeMany M_ended M_cut M_mostPieces M_walks M_walked M_kind M_sheet M_since M_stepWhat M_stepPiece M_stepPlace M_stepSince) := hD
        refine lv_aload_n hx hb dX8_undo_41 rfl (lv_at hl 0 rfl) ?_
        refine va_get (D := D) (ci := 8) (v := .ref aM_stepPiece) (C := RX8) (T := TX8) (N := 38) hx hb hts in_X8_undo_X8 hown hK hP 0 rfl rfl 18 (by decide) k_2 (fun _ h9 => h9) rfl dX8_undo_42 ?_
        refine lv_aload_n hx hb dX8_undo_45 rfl (lv_at hl 0 rfl) ?_
        refine va_get (D := D) (ci := 8) (v := .int M_undoable_28) (C := RX8) (T := TX8) (N := 38) hx hb hts in_X8_undo_X8 hown hK hP 0 rfl rfl 22 (by decide) k_0 (fun _ h9 => h9) rfl dX8_undo_46 ?_
        have h49 := hw.1
        have hw := hw.2
        refine va_iald hx hb hK hP 5 0 rfl rfl h49 dX8_undo_49 ?_
        refine lv_topi (fun v49 e49 => ?_)
        have hw := hw v49 e49
        refine lv_istore_n (lv' := [(3, .int v49), (0, .ref aM), (1, .int x1), (2, .int x2)]) hx hb dX8_undo_50 rfl hl (by decide) rfl (fun ls hl => ?_)
        refine lv_aload_n hx hb dX8_undo_51 rfl (lv_at hl 1 rfl) ?_
        refine va_get (D := D) (ci := 8) (v := .ref aM_stepPlace) (C := RX8) (T := TX8) (N := 38) hx hb hts in_X8_undo_X8 hown hK hP 0 rfl rfl 19 (by decide) k_3 (fun _ h9 => h9) rfl dX8_undo_52 ?_
        refine lv_aload_n hx hb dX8_undo_55 rfl (lv_at hl 1 rfl) ?_
        refine va_get (D := D) (ci := 8) (v := .int M_undoable_28) (C := RX8) (T := TX8) (N := 38) hx hb hts in_X8_undo_X8 hown hK hP 0 rfl rfl 22 (by decide) k_0 (fun _ h9 => h9) rfl dX8_undo_56 ?_
        have h59 := hw.1
        have hw := hw.2
        refine va_iald hx hb hK hP 6 0 rfl rfl h59 dX8_undo_59 ?_
        refine lv_topi (fun v59 e59 => ?_)
        have hw := hw v59 e59
        refine lv_istore (lv' := [(4, .int v59), (3, .int v49), (0, .ref aM), (1, .int x1), (2, .int x2)]) hx hb dX8_undo_60 hl (by decide) rfl (fun ls hl => ?_)
        refine lv_aload_n hx hb dX8_undo_62 rfl (lv_at hl 2 rfl) ?_
        refine va_get (D := D) (ci := 8) (v := .ref aM_stepWhat) (C := RX8) (T := TX8) (N := 38) hx hb hts in_X8_undo_X8 hown hK hP 0 rfl rfl 17 (by decide) k_4 (fun _ h9 => h9) rfl dX8_undo_63 ?_
        refine lv_aload_n hx hb dX8_undo_66 rfl (lv_at hl 2 rfl) ?_
        refine va_get (D := D) (ci := 8) (v := .int M_undoable_28) (C := RX8) (T := TX8) (N := 38) hx hb hts in_X8_undo_X8 hown hK hP 0 rfl rfl 22 (by decide) k_0 (fun _ h9 => h9) rfl dX8_undo_67 ?_
        have h70 := hw.1
        have hw := hw.2
        refine va_iald hx hb hK hP 4 0 rfl rfl h70 dX8_undo_70 ?_
        refine lv_topi (fun v70 e70 => ?_)
        have hw := hw v70 e70
        refine lv_iconst (v := (2 : Int32)) hx hb dX8_undo_71 kI_2 ?_
        refine lv_icmp_ne (tgt := 106) hx hb dX8_undo_72 (by decide) (fun c72 => ?_) (fun c72 => ?_)
        · have hw := hw.1 c72
          refine lv_aload_n hx hb dX8_undo_106 rfl (lv_at hl 2 rfl) ?_
          refine lv_aload_n hx hb dX8_undo_107 rfl (lv_at hl 2 rfl) ?_
          refine va_get (D := D) (ci := 8) (v := .ref aM_sheet) (C := RX8) (T := TX8) (N := 38) hx hb hts in_X8_undo_X8 hown hK hP 0 rfl rfl 7 (by decide) k_5 (fun _ h9 => h9) rfl dX8_undo_108 ?_
          refine lv_iload_n hx hb dX8_undo_111 rfl (lv_at hl 1 rfl) ?_
          refine lv_iload hx hb dX8_undo_112 (lv_at hl 0 rfl) ?_
          refine cx_gov (va_runV (As := [.ref aM_sheet, .int v49, .int v59]) (rest := []) ⟨hx, hb, hml, hown, hts⟩ (c_X8_away l D cI cJ cZ cO tS tT H.size aM_sheet aM aM_strength aM_kind aM_more aM_glues aM_sheet aM_since aM_imageStrength aM_imageKind aM_imageMore aM_imageGlues aM_imagePieces aM_imageWarmth aM_imageSheet aM_imageDraw aM_stepWhat aM_stepPiece aM_stepPlace aM_stepSince aM_tape aM_shapes aM_pile aM_met aM_next aM_inputs aM_then 256 M_sheet M_pieces M_warmth M_draw M_steps_38 M_undoable_28 M_brought M_taped M_shapeMany M_ended M_cut M_mostPieces M_walks M_walked M_kind v49 v59 _ hw) (cwV 3 hts gX8_undo_X8_away rfl rfl rfl pv_X8_away ⟨Nat.le_of_ble_eq_true rfl, Nat.le_of_ble_eq_true rfl⟩) (cx_preV (wc := w_X8_away cI cJ cZ cO aM_sheet aM aM_strength aM_kind aM_more aM_glues aM_sheet aM_since aM_imageStrength aM_imageKind aM_imageMore aM_imageGlues aM_imagePieces aM_imageWarmth aM_imageSheet aM_imageDraw aM_stepWhat aM_stepPiece aM_stepPlace aM_stepSince aM_tape aM_shapes aM_pile aM_met aM_next aM_inputs aM_then 256 M_sheet M_pieces M_warmth M_draw M_steps_38 M_undoable_28 M_brought M_taped M_shapeMany M_ended M_cut M_mostPieces M_walks M_walked M_kind) hE hK hP hD hS hA [2, 0, 1] rfl rfl (va_recv hK hP (ci := 8) (q0 := 0) rfl rfl)) rfl rfl hl.1 rfl (lv_room (Nat.le_of_ble_eq_true rfl)) dX8_undo_114 ⟨Nat.le_of_ble_eq_true rfl, Nat.le_of_ble_eq_true rfl⟩) (fun (u : (Nat → Int32)) => (w_X8_undo cI cJ cZ cO aM aM_strength aM_kind aM_more aM_glues aM_sheet aM_since aM_imageStrength aM_imageKind aM_imageMore aM_imageGlues aM_imagePieces aM_imageWarmth aM_imageSheet aM_imageDraw aM_stepWhat aM_stepPiece aM_stepPlace aM_stepSince aM_tape aM_shapes aM_pile aM_met aM_next aM_inputs aM_then M_pieces M_warmth M_draw M_steps_38 M_undoable_28 M_brought M_taped M_shapeMany M_ended M_cut M_mostPieces M_walks M_walked M_kind u M_since M_stepWhat M_stepPiece M_stepPlace M_stepSince)) [2, 0, 1] [3, 4, 5, 6, 7] (ads := [aM_sheet, aM, aM_kind]) (wr := [(aM_since, .inl (cI, 256, .inl M_since)), (aM_stepWhat, .inl (cI, 200, .inl M_stepWhat)), (aM_stepPiece, .inl (cI, 200, .inl M_stepPiece)), (aM_stepPlace, .inl (cI, 200, .inl M_stepPlace)), (aM_stepSince, .inl (cI, 200, .inl M_stepSince))]) rfl rfl (fun u => rfl) (fun u => rfl) rfl (fun u => rfl) rfl (fun u => rfl) rfl hP hD hS hA (fun M_sheet_114 H locs hw hP hD hS => ?_)
          try dsimp only at hw
          have hP : va_P D vwCl (w_X8_undo cI cJ cZ cO aM aM_strength aM_kind aM_more aM_glues aM_sheet aM_since aM_imageStrength aM_imageKind aM_imageMore aM_imageGlues aM_imagePieces aM_imageWarmth aM_imageSheet aM_imageDraw aM_stepWhat aM_stepPiece aM_stepPlace aM_stepSince aM_tape aM_shapes aM_pile aM_met aM_next aM_inputs aM_then M_pieces M_warmth M_draw M_steps_38 M_undoable_28 M_brought M_taped M_shapeMany M_ended M_cut M_mostPieces M_walks M_walked M_kind M_sheet_114 M_since M_stepWhat M_stepPiece M_stepPlace M_stepSince) H := hP
          have hD : va_D A (w_X8_undo cI cJ cZ cO aM aM_strength aM_kind aM_more aM_glues aM_sheet aM_since aM_imageStrength aM_imageKind aM_imageMore aM_imageGlues aM_imagePieces aM_imageWarmth aM_imageSheet aM_imageDraw aM_stepWhat aM_stepPiece aM_stepPlace aM_stepSince aM_tape aM_shapes aM_pile aM_met aM_next aM_inputs aM_then M_pieces M_warmth M_draw M_steps_38 M_undoable_28 M_brought M_taped M_shapeMany M_ended M_cut M_mostPieces M_walks M_walked M_kind M_sheet_114 M_since M_stepWhat M_stepPiece M_stepPlace M_stepSince) := hD
          refine lv_aload_n hx hb dX8_undo_117 rfl (lv_at hl 2 rfl) ?_
          refine lv_iload_n hx hb dX8_undo_118 rfl (lv_at hl 1 rfl) ?_
          refine lv_iload hx hb dX8_undo_119 (lv_at hl 0 rfl) ?_
          refine lv_iconst (v := (-1 : Int32)) hx hb dX8_undo_121 kI_m1 ?_
          refine cx_gov (va_runV (As := [.int v49, .int v59, .int (-1 : Int32)]) (rest := []) ⟨hx, hb, hml, hown, hts⟩ (c_X8_setSince l D cI cJ cZ cO tS tT H.size aM aM_strength aM_kind aM_more aM_glues aM_sheet aM_since aM_imageStrength aM_imageKind aM_imageMore aM_imageGlues aM_imagePieces aM_imageWarmth aM_imageSheet aM_imageDraw aM_stepWhat aM_stepPiece aM_stepPlace aM_stepSince aM_tape aM_shapes aM_pile aM_met aM_next aM_inputs aM_then M_pieces M_warmth M_draw M_steps_38 M_undoable_28 M_brought M_taped M_shapeMany M_ended M_cut M_mostPieces M_walks M_walked M_kind M_since v49 v59 (-1 : Int32) _ hw) (cwV 3 hts gX8_undo_X8_setSince rfl rfl rfl pv_X8_setSince ⟨Nat.le_of_ble_eq_true rfl, Nat.le_of_ble_eq_true rfl⟩) (cx_preV (wc := w_X8_setSince cI cJ cZ cO aM aM_strength aM_kind aM_more aM_glues aM_sheet aM_since aM_imageStrength aM_imageKind aM_imageMore aM_imageGlues aM_imagePieces aM_imageWarmth aM_imageSheet aM_imageDraw aM_stepWhat aM_stepPiece aM_stepPlace aM_stepSince aM_tape aM_shapes aM_pile aM_met aM_next aM_inputs aM_then M_pieces M_warmth M_draw M_steps_38 M_undoable_28 M_brought M_taped M_shapeMany M_ended M_cut M_mostPieces M_walks M_walked M_kind M_since) hE hK hP hD hS hA [0, 1, 3] rfl rfl (va_recv hK hP (ci := 8) (q0 := 0) rfl rfl)) rfl rfl hl.1 rfl (lv_room (Nat.le_of_ble_eq_true rfl)) dX8_undo_122 ⟨Nat.le_of_ble_eq_true rfl, Nat.le_of_ble_eq_true rfl⟩) (fun (u : (Nat → Int32)) => (w_X8_undo cI cJ cZ cO aM aM_strength aM_kind aM_more aM_glues aM_sheet aM_since aM_imageStrength aM_imageKind aM_imageMore aM_imageGlues aM_imagePieces aM_imageWarmth aM_imageSheet aM_imageDraw aM_stepWhat aM_stepPiece aM_stepPlace aM_stepSince aM_tape aM_shapes aM_pile aM_met aM_next aM_inputs aM_then M_pieces M_warmth M_draw M_steps_38 M_undoable_28 M_brought M_taped M_shapeMany M_ended M_cut M_mostPieces M_walks M_walked M_kind M_sheet_114 u M_stepWhat M_stepPiece M_stepPlace M_stepSince)) [0, 1, 3] [2, 4, 5, 6, 7] (ads := [aM, aM_kind, aM_since]) (wr := [(aM_sheet, .inl (cI, 256, .inl M_sheet_114)), (aM_stepWhat, .inl (cI, 200, .inl M_stepWhat)), (aM_stepPiece, .inl (cI, 200, .inl M_stepPiece)), (aM_stepPlace, .inl (cI, 200, .inl M_stepPlace)), (aM_stepSince, .inl (cI, 200, .inl M_stepSince))]) rfl rfl (fun u => rfl) (fun u => rfl) rfl (fun u => rfl) rfl (fun u => rfl) rfl hP hD hS hA (fun M_since_122 H locs hw hP hD hS => ?_)
          try dsimp only at hw
          have hP : va_P D vwCl (w_X8_undo cI cJ cZ cO aM aM_strength aM_kind aM_more aM_glues aM_sheet aM_since aM_imageStrength aM_imageKind aM_imageMore aM_imageGlues aM_imagePieces aM_imageWarmth aM_imageSheet aM_imageDraw aM_stepWhat aM_stepPiece aM_stepPlace aM_stepSince aM_tape aM_shapes aM_pile aM_met aM_next aM_inputs aM_then M_pieces M_warmth M_draw M_steps_38 M_undoable_28 M_brought M_taped M_shapeMany M_ended M_cut M_mostPieces M_walks M_walked M_kind M_sheet_114 M_since_122 M_stepWhat M_stepPiece M_stepPlace M_stepSince) H := hP
          have hD : va_D A (w_X8_undo cI cJ cZ cO aM aM_strength aM_kind aM_more aM_glues aM_sheet aM_since aM_imageStrength aM_imageKind aM_imageMore aM_imageGlues aM_imagePieces aM_imageWarmth aM_imageSheet aM_imageDraw aM_stepWhat aM_stepPiece aM_stepPlace aM_stepSince aM_tape aM_shapes aM_pile aM_met aM_next aM_inputs aM_then M_pieces M_warmth M_draw M_steps_38 M_undoable_28 M_brought M_taped M_shapeMany M_ended M_cut M_mostPieces M_walks M_walked M_kind M_sheet_114 M_since_122 M_stepWhat M_stepPiece M_stepPlace M_stepSince) := hD
          obtain ⟨v125, e125⟩ : ∃ y : Int32, y = x2 + (1 : Int32) := ⟨_, rfl⟩
          have hw := hw v125 e125
          refine lv_iinc (v := v125) (lv' := [(2, .int v125), (4, .int v59), (3, .int v49), (0, .ref aM), (1, .int x1)]) hx hb dX8_undo_125 hl (k := 4) rfl (by rw [e125, kI_1]) (by decide) rfl (fun ls hl => ?_)
          refine lv_goto (tgt := 16) hx hb dX8_undo_128 (by decide) ?_
          exact ih_16 M_sheet_114 M_since_122 M_steps_38 M_undoable_28 x1 v125 hw H locs hP hD hS ls (lv_sub hl [3, 4, 0] rfl)
        · have hw := hw.2 c72
          refine lv_aload_n hx hb dX8_undo_75 rfl (lv_at hl 2 rfl) ?_
          refine lv_aload_n hx hb dX8_undo_76 rfl (lv_at hl 2 rfl) ?_
          refine va_get (D := D) (ci := 8) (v := .ref aM_sheet) (C := RX8) (T := TX8) (N := 38) hx hb hts in_X8_undo_X8 hown hK hP 0 rfl rfl 7 (by decide) k_5 (fun _ h9 => h9) rfl dX8_undo_77 ?_
          refine lv_iconst (v := (0 : Int32)) hx hb dX8_undo_80 kI_0 ?_
          refine lv_iload_n hx hb dX8_undo_81 rfl (lv_at hl 1 rfl) ?_
          refine lv_iload hx hb dX8_undo_82 (lv_at hl 0 rfl) ?_
          refine cx_gov (va_runV (As := [.ref aM_sheet, .int (0 : Int32), .int v49, .int v59]) (rest := []) ⟨hx, hb, hml, hown, hts⟩ (c_X8_lay l D cI cJ cZ cO tS tT H.size aM_sheet aM aM_strength aM_kind aM_more aM_glues aM_sheet aM_since aM_imageStrength aM_imageKind aM_imageMore aM_imageGlues aM_imagePieces aM_imageWarmth aM_imageSheet aM_imageDraw aM_stepWhat aM_stepPiece aM_stepPlace aM_stepSince aM_tape aM_shapes aM_pile aM_met aM_next aM_inputs aM_then 256 M_sheet M_pieces M_warmth M_draw M_steps_38 M_undoable_28 M_brought M_taped M_shapeMany M_ended M_cut M_mostPieces M_walks M_walked M_kind (0 : Int32) v49 v59 _ hw) (cwV 4 hts gX8_undo_X8_lay rfl rfl rfl pv_X8_lay ⟨Nat.le_of_ble_eq_true rfl, Nat.le_of_ble_eq_true rfl⟩) (cx_preV (wc := w_X8_lay cI cJ cZ cO aM_sheet aM aM_strength aM_kind aM_more aM_glues aM_sheet aM_since aM_imageStrength aM_imageKind aM_imageMore aM_imageGlues aM_imagePieces aM_imageWarmth aM_imageSheet aM_imageDraw aM_stepWhat aM_stepPiece aM_stepPlace aM_stepSince aM_tape aM_shapes aM_pile aM_met aM_next aM_inputs aM_then 256 M_sheet M_pieces M_warmth M_draw M_steps_38 M_undoable_28 M_brought M_taped M_shapeMany M_ended M_cut M_mostPieces M_walks M_walked M_kind) hE hK hP hD hS hA [2, 0, 1] rfl rfl (va_recv hK hP (ci := 8) (q0 := 0) rfl rfl)) rfl rfl hl.1 rfl (lv_room (Nat.le_of_ble_eq_true rfl)) dX8_undo_84 ⟨Nat.le_of_ble_eq_true rfl, Nat.le_of_ble_eq_true rfl⟩) (fun (u : (Nat → Int32)) => (w_X8_undo cI cJ cZ cO aM aM_strength aM_kind aM_more aM_glues aM_sheet aM_since aM_imageStrength aM_imageKind aM_imageMore aM_imageGlues aM_imagePieces aM_imageWarmth aM_imageSheet aM_imageDraw aM_stepWhat aM_stepPiece aM_stepPlace aM_stepSince aM_tape aM_shapes aM_pile aM_met aM_next aM_inputs aM_then M_pieces M_warmth M_draw M_steps_38 M_undoable_28 M_brought M_taped M_shapeMany M_ended M_cut M_mostPieces M_walks M_walked M_kind u M_since M_stepWhat M_stepPiece M_stepPlace M_stepSince)) [2, 0, 1] [3, 4, 5, 6, 7] (ads := [aM_sheet, aM, aM_kind]) (wr := [(aM_since, .inl (cI, 256, .inl M_since)), (aM_stepWhat, .inl (cI, 200, .inl M_stepWhat)), (aM_stepPiece, .inl (cI, 200, .inl M_stepPiece)), (aM_stepPlace, .inl (cI, 200, .inl M_stepPlace)), (aM_stepSince, .inl (cI, 200, .inl M_stepSince))]) rfl rfl (fun u => rfl) (fun u => rfl) rfl (fun u => rfl) rfl (fun u => rfl) rfl hP hD hS hA (fun M_sheet_84 H locs hw hP hD hS => ?_)
          try dsimp only at hw
          have hP : va_P D vwCl (w_X8_undo cI cJ cZ cO aM aM_strength aM_kind aM_more aM_glues aM_sheet aM_since aM_imageStrength aM_imageKind aM_imageMore aM_imageGlues aM_imagePieces aM_imageWarmth aM_imageSheet aM_imageDraw aM_stepWhat aM_stepPiece aM_stepPlace aM_stepSince aM_tape aM_shapes aM_pile aM_met aM_next aM_inputs aM_then M_pieces M_warmth M_draw M_steps_38 M_undoable_28 M_brought M_taped M_shapeMany M_ended M_cut M_mostPieces M_walks M_walked M_kind M_sheet_84 M_since M_stepWhat M_stepPiece M_stepPlace M_stepSince) H := hP
          have hD : va_D A (w_X8_undo cI cJ cZ cO aM aM_strength aM_kind aM_more aM_glues aM_sheet aM_since aM_imageStrength aM_imageKind aM_imageMore aM_imageGlues aM_imagePieces aM_imageWarmth aM_imageSheet aM_imageDraw aM_stepWhat aM_stepPiece aM_stepPlace aM_stepSince aM_tape aM_shapes aM_pile aM_met aM_next aM_inputs aM_then M_pieces M_warmth M_draw M_steps_38 M_undoable_28 M_brought M_taped M_shapeMany M_ended M_cut M_mostPieces M_walks M_walked M_kind M_sheet_84 M_since M_stepWhat M_stepPiece M_stepPlace M_stepSince) := hD
          refine lv_aload_n hx hb dX8_undo_87 rfl (lv_at hl 2 rfl) ?_
          refine lv_iload_n hx hb dX8_undo_88 rfl (lv_at hl 1 rfl) ?_
          refine lv_iload hx hb dX8_undo_89 (lv_at hl 0 rfl) ?_
          refine lv_aload_n hx hb dX8_undo_91 rfl (lv_at hl 2 rfl) ?_
          refine va_get (D := D) (ci := 8) (v := .ref aM_stepSince) (C := RX8) (T := TX8) (N := 38) hx hb hts in_X8_undo_X8 hown hK hP 0 rfl rfl 20 (by decide) k_6 (fun _ h9 => h9) rfl dX8_undo_92 ?_
          refine lv_aload_n hx hb dX8_undo_95 rfl (lv_at hl 2 rfl) ?_
          refine va_get (D := D) (ci := 8) (v := .int M_undoable_28) (C := RX8) (T := TX8) (N := 38) hx hb hts in_X8_undo_X8 hown hK hP 0 rfl rfl 22 (by decide) k_0 (fun _ h9 => h9) rfl dX8_undo_96 ?_
          have h99 := hw.1
          have hw := hw.2
          refine va_iald hx hb hK hP 7 0 rfl rfl h99 dX8_undo_99 ?_
          refine lv_topi (fun v99 e99 => ?_)
          have hw := hw v99 e99
          refine cx_gov (va_runV (As := [.int v49, .int v59, .int v99]) (rest := []) ⟨hx, hb, hml, hown, hts⟩ (c_X8_setSince l D cI cJ cZ cO tS tT H.size aM aM_strength aM_kind aM_more aM_glues aM_sheet aM_since aM_imageStrength aM_imageKind aM_imageMore aM_imageGlues aM_imagePieces aM_imageWarmth aM_imageSheet aM_imageDraw aM_stepWhat aM_stepPiece aM_stepPlace aM_stepSince aM_tape aM_shapes aM_pile aM_met aM_next aM_inputs aM_then M_pieces M_warmth M_draw M_steps_38 M_undoable_28 M_brought M_taped M_shapeMany M_ended M_cut M_mostPieces M_walks M_walked M_kind M_since v49 v59 v99 _ hw) (cwV 3 hts gX8_undo_X8_setSince rfl rfl rfl pv_X8_setSince ⟨Nat.le_of_ble_eq_true rfl, Nat.le_of_ble_eq_true rfl⟩) (cx_preV (wc := w_X8_setSince cI cJ cZ cO aM aM_strength aM_kind aM_more aM_glues aM_sheet aM_since aM_imageStrength aM_imageKind aM_imageMore aM_imageGlues aM_imagePieces aM_imageWarmth aM_imageSheet aM_imageDraw aM_stepWhat aM_stepPiece aM_stepPlace aM_stepSince aM_tape aM_shapes aM_pile aM_met aM_next aM_inputs aM_then M_pieces M_warmth M_draw M_steps_38 M_undoable_28 M_brought M_taped M_shapeMany M_ended M_cut M_mostPieces M_walks M_walked M_kind M_since) hE hK hP hD hS hA [0, 1, 3] rfl rfl (va_recv hK hP (ci := 8) (q0 := 0) rfl rfl)) rfl rfl hl.1 rfl (lv_room (Nat.le_of_ble_eq_true rfl)) dX8_undo_100 ⟨Nat.le_of_ble_eq_true rfl, Nat.le_of_ble_eq_true rfl⟩) (fun (u : (Nat → Int32)) => (w_X8_undo cI cJ cZ cO aM aM_strength aM_kind aM_more aM_glues aM_sheet aM_since aM_imageStrength aM_imageKind aM_imageMore aM_imageGlues aM_imagePieces aM_imageWarmth aM_imageSheet aM_imageDraw aM_stepWhat aM_stepPiece aM_stepPlace aM_stepSince aM_tape aM_shapes aM_pile aM_met aM_next aM_inputs aM_then M_pieces M_warmth M_draw M_steps_38 M_undoable_28 M_brought M_taped M_shapeMany M_ended M_cut M_mostPieces M_walks M_walked M_kind M_sheet_84 u M_stepWhat M_stepPiece M_stepPlace M_stepSince)) [0, 1, 3] [2, 4, 5, 6, 7] (ads := [aM, aM_kind, aM_since]) (wr := [(aM_sheet, .inl (cI, 256, .inl M_sheet_84)), (aM_stepWhat, .inl (cI, 200, .inl M_stepWhat)), (aM_stepPiece, .inl (cI, 200, .inl M_stepPiece)), (aM_stepPlace, .inl (cI, 200, .inl M_stepPlace)), (aM_stepSince, .inl (cI, 200, .inl M_stepSince))]) rfl rfl (fun u => rfl) (fun u => rfl) rfl (fun u => rfl) rfl (fun u => rfl) rfl hP hD hS hA (fun M_since_100 H locs hw hP hD hS => ?_)
          try dsimp only at hw
          have hP : va_P D vwCl (w_X8_undo cI cJ cZ cO aM aM_strength aM_kind aM_more aM_glues aM_sheet aM_since aM_imageStrength aM_imageKind aM_imageMore aM_imageGlues aM_imagePieces aM_imageWarmth aM_imageSheet aM_imageDraw aM_stepWhat aM_stepPiece aM_stepPlace aM_stepSince aM_tape aM_shapes aM_pile aM_met aM_next aM_inputs aM_then M_pieces M_warmth M_draw M_steps_38 M_undoable_28 M_brought M_taped M_shapeMany M_ended M_cut M_mostPieces M_walks M_walked M_kind M_sheet_84 M_since_100 M_stepWhat M_stepPiece M_stepPlace M_stepSince) H := hP
          have hD : va_D A (w_X8_undo cI cJ cZ cO aM aM_strength aM_kind aM_more aM_glues aM_sheet aM_since aM_imageStrength aM_imageKind aM_imageMore aM_imageGlues aM_imagePieces aM_imageWarmth aM_imageSheet aM_imageDraw aM_stepWhat aM_stepPiece aM_stepPlace aM_stepSince aM_tape aM_shapes aM_pile aM_met aM_next aM_inputs aM_then M_pieces M_warmth M_draw M_steps_38 M_undoable_28 M_brought M_taped M_shapeMany M_ended M_cut M_mostPieces M_walks M_walked M_kind M_sheet_84 M_since_100 M_stepWhat M_stepPiece M_stepPlace M_stepSince) := hD
          refine lv_goto (tgt := 125) hx hb dX8_undo_103 (by decide) ?_
          obtain ⟨v125, e125⟩ : ∃ y : Int32, y = x2 + (1 : Int32) := ⟨_, rfl⟩
          have hw := hw v125 e125
          refine lv_iinc (v := v125) (lv' := [(2, .int v125), (4, .int v59), (3, .int v49), (0, .ref aM), (1, .int x1)]) hx hb dX8_undo_125 hl (k := 4) rfl (by rw [e125, kI_1]) (by decide) rfl (fun ls hl => ?_)
          refine lv_goto (tgt := 16) hx hb dX8_undo_128 (by decide) ?_
          exact ih_16 M_sheet_84 M_since_100 M_steps_38 M_undoable_28 x1 v125 hw H locs hP hD hS ls (lv_sub hl [3, 4, 0] rfl)
  intro H locs hP hD hS ls hl
  unfold wp_X8_undo at hw
  refine lv_iload_n hx hb dX8_undo_0 rfl (lv_at hl 1 rfl) ?_
  refine lv_if_lt (tgt := 12) hx hb dX8_undo_1 (by decide) (fun c1 => ?_) (fun c1 => ?_)
  · have hw := hw.1 c1
    refine lv_iconst (v := (-1 : Int32)) hx hb dX8_undo_12 kI_m1 ?_
    rw [hZ]
    exact cx_reti (M_sheet, M_since, M_steps, M_undoable) hx hb hr hlocks hw hP hS dX8_undo_13
  · have hw := hw.2 c1
    refine lv_iload_n hx hb dX8_undo_4 rfl (lv_at hl 1 rfl) ?_
    refine lv_aload_n hx hb dX8_undo_5 rfl (lv_at hl 0 rfl) ?_
    refine va_get (D := D) (ci := 8) (v := .int M_undoable) (C := RX8) (T := TX8) (N := 38) hx hb hts in_X8_undo_X8 hown hK hP 0 rfl rfl 22 (by decide) k_0 (fun _ h9 => h9) rfl dX8_undo_6 ?_
    refine lv_icmp_le (tgt := 14) hx hb dX8_undo_9 (by decide) (fun c9 => ?_) (fun c9 => ?_)
    · have hw := hw.1 c9
      refine lv_iconst (v := (0 : Int32)) hx hb dX8_undo_14 kI_0 ?_
      refine lv_istore_n (lv' := [(2, .int (0 : Int32)), (0, .ref aM), (1, .int p1)]) hx hb dX8_undo_15 rfl hl (by decide) rfl (fun ls hl => ?_)
      obtain ⟨k, hw⟩ := hw
      exact b_16 k M_sheet M_since M_steps M_undoable p1 (0 : Int32) hw H locs hP hD hS ls (lv_sub hl [1, 2, 0] rfl)
    · have hw := hw.2 c9
      refine lv_iconst (v := (-1 : Int32)) hx hb dX8_undo_12 kI_m1 ?_
      rw [hZ]
      exact cx_reti (M_sheet, M_since, M_steps, M_undoable) hx hb hr hlocks hw hP hS dX8_undo_13
set_option maxRecDepth 100000 in
set_option maxHeartbeats 4000000 in
theorem c_X8_keep (l : Launch) (D : va_G) (cI cJ cZ cO : ClassId) (tS tT : Nat) (sz : Nat) (aM aM_strength aM_kind aM_more aM_glues aM_sheet aM_since aM_imageStrength aM_imageKind aM_imageMore aM_imageGlues aM_imagePieces aM_imageWarmth aM_imageSheet aM_imageDraw aM_stepWhat aM_stepPiece aM_stepPlace aM_stepSince aM_tape aM_shapes aM_pile aM_met aM_next aM_inputs aM_then : Nat) (M_pieces : Int32) (M_warmth : Int32) (M_draw : Int64) (M_steps : Int32) (M_undoable : Int32) (M_brought : Int32) (M_taped : Int32) (M_shapeMany : Int32) (M_ended : Int32) (M_cut : Int32) (M_mostPieces : Int32) (M_walks : Int32) (M_walked : Int32) (M_strength : Nat → Int32) (M_kind : Nat → Int32) (M_more : Nat → Int32) (M_glues : Nat → Int32) (M_sheet : Nat → Int32) (M_imageStrength : Nat → Int32) (M_imageKind : Nat → Int32) (M_imageMore : Nat → Int32) (M_imageGlues : Nat → Int32) (M_imagePieces : Nat → Int32) (M_imageWarmth : Nat → Int32) (M_imageSheet : Nat → Int32) (M_imageDraw : Nat → Int64) (p1 : Int32) (Q : Int32 → (Nat → Int32) → (Nat → Int32) → (Nat → Int32) → (Nat → Int32) → (Nat → Int32) → (Nat → Int32) → (Nat → Int32) → (Nat → Int64) → Prop) (hw : wp_X8_keep M_strength M_kind M_more M_glues M_pieces M_warmth M_draw M_sheet M_imageStrength M_imageKind M_imageMore M_imageGlues M_imagePieces M_imageWarmth M_imageSheet M_imageDraw p1 Q) : Met l yX8_keep wsX8_keep rm_X8_keep (va_Pc [.ref aM, .int p1] (cx_B tS tT cI cJ cZ cO D sz (w_X8_keep cI cJ cZ cO aM aM_strength aM_kind aM_more aM_glues aM_sheet aM_since aM_imageStrength aM_imageKind aM_imageMore aM_imageGlues aM_imagePieces aM_imageWarmth aM_imageSheet aM_imageDraw aM_stepWhat aM_stepPiece aM_stepPlace aM_stepSince aM_tape aM_shapes aM_pile aM_met aM_next aM_inputs aM_then M_pieces M_warmth M_draw M_steps M_undoable M_brought M_taped M_shapeMany M_ended M_cut M_mostPieces M_walks M_walked M_strength M_kind M_more M_glues M_sheet M_imageStrength M_imageKind M_imageMore M_imageGlues M_imagePieces M_imageWarmth M_imageSheet M_imageDraw))) (va_Qi (fun (r : Int32) (u : (Nat → Int32) × (Nat → Int32) × (Nat → Int32) × (Nat → Int32) × (Nat → Int32) × (Nat → Int32) × (Nat → Int32) × (Nat → Int64)) => Q r u.1 u.2.1 u.2.2.1 u.2.2.2.1 u.2.2.2.2.1 u.2.2.2.2.2.1 u.2.2.2.2.2.2.1 u.2.2.2.2.2.2.2) (fun (u : (Nat → Int32) × (Nat → Int32) × (Nat → Int32) × (Nat → Int32) × (Nat → Int32) × (Nat → Int32) × (Nat → Int32) × (Nat → Int64)) t => va_P D vwCl (w_X8_keep cI cJ cZ cO aM aM_strength aM_kind aM_more aM_glues aM_sheet aM_since aM_imageStrength aM_imageKind aM_imageMore aM_imageGlues aM_imagePieces aM_imageWarmth aM_imageSheet aM_imageDraw aM_stepWhat aM_stepPiece aM_stepPlace aM_stepSince aM_tape aM_shapes aM_pile aM_met aM_next aM_inputs aM_then M_pieces M_warmth M_draw M_steps M_undoable M_brought M_taped M_shapeMany M_ended M_cut M_mostPieces M_walks M_walked M_strength M_kind M_more M_glues M_sheet u.1 u.2.1 u.2.2.1 u.2.2.2.1 u.2.2.2.2.1 u.2.2.2.2.2.1 u.2.2.2.2.2.2.1 u.2.2.2.2.2.2.2) t.heap) (va_A (w_X8_keep cI cJ cZ cO aM aM_strength aM_kind aM_more aM_glues aM_sheet aM_since aM_imageStrength aM_imageKind aM_imageMore aM_imageGlues aM_imagePieces aM_imageWarmth aM_imageSheet aM_imageDraw aM_stepWhat aM_stepPiece aM_stepPlace aM_stepSince aM_tape aM_shapes aM_pile aM_met aM_next aM_inputs aM_then M_pieces M_warmth M_draw M_steps M_undoable M_brought M_taped M_shapeMany M_ended M_cut M_mostPieces M_walks M_walked M_strength M_kind M_more M_glues M_sheet M_imageStrength M_imageKind M_imageMore M_imageGlues M_imagePieces M_imageWarmth M_imageSheet M_imageDraw) sz)) 0 0 (va_A (w_X8_keep cI cJ cZ cO aM aM_strength aM_kind aM_more aM_glues aM_sheet aM_since aM_imageStrength aM_imageKind aM_imageMore aM_imageGlues aM_imagePieces aM_imageWarmth aM_imageSheet aM_imageDraw aM_stepWhat aM_stepPiece aM_stepPlace aM_stepSince aM_tape aM_shapes aM_pile aM_met aM_next aM_inputs aM_then M_pieces M_warmth M_draw M_steps M_undoable M_brought M_taped M_shapeMany M_ended M_cut M_mostPieces M_walks M_walked M_strength M_kind M_more M_glues M_sheet M_imageStrength M_imageKind M_imageMore M_imageGlues M_imagePieces M_imageWarmth M_imageSheet M_imageDraw) sz) := by
  refine cx_met (cc := cX8_keep) (maxL := 4) (ret := (some .boolean)) (Qc := fun A => va_Qi (fun (r : Int32) (u : (Nat → Int32) × (Nat → Int32) × (Nat → Int32) × (Nat → Int32) × (Nat → Int32) × (Nat → Int32) × (Nat → Int32) × (Nat → Int64)) => Q r u.1 u.2.1 u.2.2.1 u.2.2.2.1 u.2.2.2.2.1 u.2.2.2.2.2.1 u.2.2.2.2.2.2.1 u.2.2.2.2.2.2.2) (fun (u : (Nat → Int32) × (Nat → Int32) × (Nat → Int32) × (Nat → Int32) × (Nat → Int32) × (Nat → Int32) × (Nat → Int32) × (Nat → Int64)) t => va_P D vwCl (w_X8_keep cI cJ cZ cO aM aM_strength aM_kind aM_more aM_glues aM_sheet aM_since aM_imageStrength aM_imageKind aM_imageMore aM_imageGlues aM_imagePieces aM_imageWarmth aM_imageSheet aM_imageDraw aM_stepWhat aM_stepPiece aM_stepPlace aM_stepSince aM_tape aM_shapes aM_pile aM_met aM_next aM_inputs aM_then M_pieces M_warmth M_draw M_steps M_undoable M_brought M_taped M_shapeMany M_ended M_cut M_mostPieces M_walks M_walked M_strength M_kind M_more M_glues M_sheet u.1 u.2.1 u.2.2.1 u.2.2.2.1 u.2.2.2.2.1 u.2.2.2.2.2.1 u.2.2.2.2.2.2.1 u.2.2.2.2.2.2.2) t.heap) A) (lv := [(0, .ref aM), (1, .int p1)]) (by decide) rfl (Nat.le_of_ble_eq_true rfl) rfl ?_
  intro p e s m args below meth c A Z hx hb hr hlocks hts hown hml hE hK hA hZ
  have hown : s.vm.findClass RX8 = some m.cls := hown
  have k_0 := hts (.fieldLink RX8 50 "GrowingTilesModel" "imageSheet" "[I") (List.mem_of_getElem? (i := 15) (by decide +kernel))
  have k_1 := hts (.fieldLink RX8 26 "GrowingTilesModel" "sheet" "[I") (List.mem_of_getElem? (i := 16) (by decide +kernel))
  have k_2 := hts (.fieldLink RX8 41 "GrowingTilesModel" "imageGlues" "[I") (List.mem_of_getElem? (i := 7) (by decide +kernel))
  have k_3 := hts (.fieldLink RX8 19 "GrowingTilesModel" "glues" "[I") (List.mem_of_getElem? (i := 8) (by decide +kernel))
  have k_4 := hts (.fieldLink RX8 44 "GrowingTilesModel" "imagePieces" "[I") (List.mem_of_getElem? (i := 9) (by decide +kernel))
  have k_5 := hts (.fieldLink RX8 92 "GrowingTilesModel" "pieces" "I") (List.mem_of_getElem? (i := 10) (by decide +kernel))
  have k_6 := hts (.fieldLink RX8 47 "GrowingTilesModel" "imageWarmth" "[I") (List.mem_of_getElem? (i := 11) (by decide +kernel))
  have k_7 := hts (.fieldLink RX8 22 "GrowingTilesModel" "warmth" "I") (List.mem_of_getElem? (i := 12) (by decide +kernel))
  have k_8 := hts (.fieldLink RX8 53 "GrowingTilesModel" "imageDraw" "[J") (List.mem_of_getElem? (i := 13) (by decide +kernel))
  have k_9 := hts (.fieldLink RX8 198 "GrowingTilesModel" "draw" "J") (List.mem_of_getElem? (i := 14) (by decide +kernel))
  have k_10 := hts (.fieldLink RX8 35 "GrowingTilesModel" "imageKind" "[I") (List.mem_of_getElem? (i := 3) (by decide +kernel))
  have k_11 := hts (.fieldLink RX8 13 "GrowingTilesModel" "kind" "[I") (List.mem_of_getElem? (i := 4) (by decide +kernel))
  have k_12 := hts (.fieldLink RX8 38 "GrowingTilesModel" "imageMore" "[I") (List.mem_of_getElem? (i := 5) (by decide +kernel))
  have k_13 := hts (.fieldLink RX8 16 "GrowingTilesModel" "more" "[I") (List.mem_of_getElem? (i := 6) (by decide +kernel))
  have k_14 := hts (.fieldLink RX8 32 "GrowingTilesModel" "imageStrength" "[I") (List.mem_of_getElem? (i := 1) (by decide +kernel))
  have k_15 := hts (.fieldLink RX8 7 "GrowingTilesModel" "strength" "[I") (List.mem_of_getElem? (i := 2) (by decide +kernel))
  have b_161 : ∀ n_161 : Nat, ∀ (M_imageStrength : Nat → Int32) (M_imageKind : Nat → Int32) (M_imageMore : Nat → Int32) (M_imageGlues : Nat → Int32) (M_imagePieces : Nat → Int32) (M_imageWarmth : Nat → Int32) (M_imageSheet : Nat → Int32) (M_imageDraw : Nat → Int64) (x1 : Int32) (x2 : Int32), wq_X8_keep_161 M_strength M_kind M_more M_glues M_pieces M_warmth M_draw M_sheet Q n_161 M_imageStrength M_imageKind M_imageMore M_imageGlues M_imagePieces M_imageWarmth M_imageSheet M_imageDraw x1 x2 → ∀ (H : Heap) (locs : List Loc), va_P D vwCl (w_X8_keep cI cJ cZ cO aM aM_strength aM_kind aM_more aM_glues aM_sheet aM_since aM_imageStrength aM_imageKind aM_imageMore aM_imageGlues aM_imagePieces aM_imageWarmth aM_imageSheet aM_imageDraw aM_stepWhat aM_stepPiece aM_stepPlace aM_stepSince aM_tape aM_shapes aM_pile aM_met aM_next aM_inputs aM_then M_pieces M_warmth M_draw M_steps M_undoable M_brought M_taped M_shapeMany M_ended M_cut M_mostPieces M_walks M_walked M_strength M_kind M_more M_glues M_sheet M_imageStrength M_imageKind M_imageMore M_imageGlues M_imagePieces M_imageWarmth M_imageSheet M_imageDraw) H → va_D A (w_X8_keep cI cJ cZ cO aM aM_strength aM_kind aM_more aM_glues aM_sheet aM_since aM_imageStrength aM_imageKind aM_imageMore aM_imageGlues aM_imagePieces aM_imageWarmth aM_imageSheet aM_imageDraw aM_stepWhat aM_stepPiece aM_stepPlace aM_stepSince aM_tape aM_shapes aM_pile aM_met aM_next aM_inputs aM_then M_pieces M_warmth M_draw M_steps M_undoable M_brought M_taped M_shapeMany M_ended M_cut M_mostPieces M_walks M_walked M_strength M_kind M_more M_glues M_sheet M_imageStrength M_imageKind M_imageMore M_imageGlues M_imagePieces M_imageWarmth M_imageSheet M_imageDraw) → va_S A s.heap H locs → ∀ ls : Array Slot, lv_has ls 4 [(0, .ref aM), (1, .int x1), (2, .int x2)] → W p l e rm_X8_keep s m args below meth c H locs 0 0 Z (F0 m 161 ls []) := by
    intro n_161
    induction n_161 with
    | zero => intro M_imageStrength M_imageKind M_imageMore M_imageGlues M_imagePieces M_imageWarmth M_imageSheet M_imageDraw x1 x2 hw; exact False.elim hw
    | succ n_161 ih_161 =>
      intro M_imageStrength M_imageKind M_imageMore M_imageGlues M_imagePieces M_imageWarmth M_imageSheet M_imageDraw x1 x2 hw H locs hP hD hS ls hl
      have hw : wf_X8_keep_161 M_strength M_kind M_more M_glues M_pieces M_warmth M_draw M_sheet Q (wq_X8_keep_161 M_strength M_kind M_more M_glues M_pieces M_warmth M_draw M_sheet Q n_161) M_imageStrength M_imageKind M_imageMore M_imageGlues M_imagePieces M_imageWarmth M_imageSheet M_imageDraw x1 x2 := hw
      unfold wf_X8_keep_161 at hw
      refine lv_iload_n hx hb dX8_keep_161 rfl (lv_at hl 2 rfl) ?_
      refine lv_sipush (v := (256 : Int32)) hx hb dX8_keep_162 kS_256 ?_
      refine lv_icmp_ge (tgt := 192) hx hb dX8_keep_165 (by decide) (fun c165 => ?_) (fun c165 => ?_)
      · have hw := hw.1 c165
        refine lv_iconst (v := (1 : Int32)) hx hb dX8_keep_192 kI_1 ?_
        rw [hZ]
        exact cx_retz (M_imageStrength, M_imageKind, M_imageMore, M_imageGlues, M_imagePieces, M_imageWarmth, M_imageSheet, M_imageDraw) hx hb hr hlocks rfl hw hP hS dX8_keep_193
      · have hw := hw.2 c165
        refine lv_aload_n hx hb dX8_keep_168 rfl (lv_at hl 0 rfl) ?_
        refine va_get (D := D) (ci := 8) (v := .ref aM_imageSheet) (C := RX8) (T := TX8) (N := 38) hx hb hts in_X8_keep_X8 hown hK hP 0 rfl rfl 15 (by decide) k_0 (fun _ h9 => h9) rfl dX8_keep_169 ?_
        refine lv_sipush (v := (256 : Int32)) hx hb dX8_keep_172 kS_256 ?_
        refine lv_iload_n hx hb dX8_keep_175 rfl (lv_at hl 1 rfl) ?_
        refine lv_imul hx hb dX8_keep_176 ?_
        refine lv_iload_n hx hb dX8_keep_177 rfl (lv_at hl 2 rfl) ?_
        refine lv_iadd hx hb dX8_keep_178 ?_
        refine lv_aload_n hx hb dX8_keep_179 rfl (lv_at hl 0 rfl) ?_
        refine va_get (D := D) (ci := 8) (v := .ref aM_sheet) (C := RX8) (T := TX8) (N := 38) hx hb hts in_X8_keep_X8 hown hK hP 0 rfl rfl 7 (by decide) k_1 (fun _ h9 => h9) rfl dX8_keep_180 ?_
        refine lv_iload_n hx hb dX8_keep_183 rfl (lv_at hl 2 rfl) ?_
        have h184 := hw.1
        have hw := hw.2
        refine va_iald hx hb hK hP 5 0 rfl rfl h184 dX8_keep_184 ?_
        refine lv_topi (fun v184 e184 => ?_)
        have hw := hw v184 e184
        have h185 := hw.1
        have hw := hw.2
        refine va_iast hx hb hK hP hD hS 12 0 rfl rfl h185 dX8_keep_185 (fun H locs hP hD hS => ?_)
        have hP : va_P D vwCl (w_X8_keep cI cJ cZ cO aM aM_strength aM_kind aM_more aM_glues aM_sheet aM_since aM_imageStrength aM_imageKind aM_imageMore aM_imageGlues aM_imagePieces aM_imageWarmth aM_imageSheet aM_imageDraw aM_stepWhat aM_stepPiece aM_stepPlace aM_stepSince aM_tape aM_shapes aM_pile aM_met aM_next aM_inputs aM_then M_pieces M_warmth M_draw M_steps M_undoable M_brought M_taped M_shapeMany M_ended M_cut M_mostPieces M_walks M_walked M_strength M_kind M_more M_glues M_sheet M_imageStrength M_imageKind M_imageMore M_imageGlues M_imagePieces M_imageWarmth (upd M_imageSheet (((256 : Int32) * x1) + x2).toNatClampNeg v184) M_imageDraw) H := hP
        have hD : va_D A (w_X8_keep cI cJ cZ cO aM aM_strength aM_kind aM_more aM_glues aM_sheet aM_since aM_imageStrength aM_imageKind aM_imageMore aM_imageGlues aM_imagePieces aM_imageWarmth aM_imageSheet aM_imageDraw aM_stepWhat aM_stepPiece aM_stepPlace aM_stepSince aM_tape aM_shapes aM_pile aM_met aM_next aM_inputs aM_then M_pieces M_warmth M_draw M_steps M_undoable M_brought M_taped M_shapeMany M_ended M_cut M_mostPieces M_walks M_walked M_strength M_kind M_more M_glues M_sheet M_imageStrength M_imageKind M_imageMore M_imageGlues M_imagePieces M_imageWarmth (upd M_imageSheet (((256 : Int32) * x1) + x2).toNatClampNeg v184) M_imageDraw) := hD
        obtain ⟨M_imageSheet_185, e185⟩ : ∃ y : Nat → Int32, y = upd M_imageSheet (((256 : Int32) * x1) + x2).toNatClampNeg v184 := ⟨_, rfl⟩
        rw [← e185] at hP hD
        have hw := hw M_imageSheet_185 e185
        obtain ⟨v186, e186⟩ : ∃ y : Int32, y = x2 + (1 : Int32) := ⟨_, rfl⟩
        have hw := hw v186 e186
        refine lv_iinc (v := v186) (lv' := [(2, .int v186), (0, .ref aM), (1, .int x1)]) hx hb dX8_keep_186 hl (k := 2) rfl (by rw [e186, kI_1]) (by decide) rfl (fun ls hl => ?_)
        refine lv_goto (tgt := 161) hx hb dX8_keep_189 (by decide) ?_
        exact ih_161 M_imageStrength M_imageKind M_imageMore M_imageGlues M_imagePieces M_imageWarmth M_imageSheet_185 M_imageDraw x1 v186 hw H locs hP hD hS ls (lv_sub hl [1, 2, 0] rfl)
  have b_44 : ∀ n_44 : Nat, ∀ (M_imageStrength : Nat → Int32) (M_imageKind : Nat → Int32) (M_imageMore : Nat → Int32) (M_imageGlues : Nat → Int32) (M_imagePieces : Nat → Int32) (M_imageWarmth : Nat → Int32) (M_imageSheet : Nat → Int32) (M_imageDraw : Nat → Int64) (x1 : Int32) (x2 : Int32), wq_X8_keep_44 M_strength M_kind M_more M_glues M_pieces M_warmth M_draw M_sheet Q n_44 M_imageStrength M_imageKind M_imageMore M_imageGlues M_imagePieces M_imageWarmth M_imageSheet M_imageDraw x1 x2 → ∀ (H : Heap) (locs : List Loc), va_P D vwCl (w_X8_keep cI cJ cZ cO aM aM_strength aM_kind aM_more aM_glues aM_sheet aM_since aM_imageStrength aM_imageKind aM_imageMore aM_imageGlues aM_imagePieces aM_imageWarmth aM_imageSheet aM_imageDraw aM_stepWhat aM_stepPiece aM_stepPlace aM_stepSince aM_tape aM_shapes aM_pile aM_met aM_next aM_inputs aM_then M_pieces M_warmth M_draw M_steps M_undoable M_brought M_taped M_shapeMany M_ended M_cut M_mostPieces M_walks M_walked M_strength M_kind M_more M_glues M_sheet M_imageStrength M_imageKind M_imageMore M_imageGlues M_imagePieces M_imageWarmth M_imageSheet M_imageDraw) H → va_D A (w_X8_keep cI cJ cZ cO aM aM_strength aM_kind aM_more aM_glues aM_sheet aM_since aM_imageStrength aM_imageKind aM_imageMore aM_imageGlues aM_imagePieces aM_imageWarmth aM_imageSheet aM_imageDraw aM_stepWhat aM_stepPiece aM_stepPlace aM_stepSince aM_tape aM_shapes aM_pile aM_met aM_next aM_inputs aM_then M_pieces M_warmth M_draw M_steps M_undoable M_brought M_taped M_shapeMany M_ended M_cut M_mostPieces M_walks M_walked M_strength M_kind M_more M_glues M_sheet M_imageStrength M_imageKind M_imageMore M_imageGlues M_imagePieces M_imageWarmth M_imageSheet M_imageDraw) → va_S A s.heap H locs → ∀ ls : Array Slot, lv_has ls 4 [(0, .ref aM), (1, .int x1), (2, .int x2)] → W p l e rm_X8_keep s m args below meth c H locs 0 0 Z (F0 m 44 ls []) := by
    intro n_44
    induction n_44 with
    | zero => intro M_imageStrength M_imageKind M_imageMore M_imageGlues M_imagePieces M_imageWarmth M_imageSheet M_imageDraw x1 x2 hw; exact False.elim hw
    | succ n_44 ih_44 =>
      have b_86 : ∀ n_86 : Nat, ∀ (M_imageStrength : Nat → Int32) (M_imageKind : Nat → Int32) (M_imageMore : Nat → Int32) (M_imageGlues : Nat → Int32) (M_imagePieces : Nat → Int32) (M_imageWarmth : Nat → Int32) (M_imageSheet : Nat → Int32) (M_imageDraw : Nat → Int64) (x1 : Int32) (x2 : Int32) (x3 : Int32), wq_X8_keep_86 M_strength M_kind M_more M_glues M_pieces M_warmth M_draw M_sheet (wq_X8_keep_44 M_strength M_kind M_more M_glues M_pieces M_warmth M_draw M_sheet Q n_44) Q n_86 M_imageStrength M_imageKind M_imageMore M_imageGlues M_imagePieces M_imageWarmth M_imageSheet M_imageDraw x1 x2 x3 → ∀ (H : Heap) (locs : List Loc), va_P D vwCl (w_X8_keep cI cJ cZ cO aM aM_strength aM_kind aM_more aM_glues aM_sheet aM_since aM_imageStrength aM_imageKind aM_imageMore aM_imageGlues aM_imagePieces aM_imageWarmth aM_imageSheet aM_imageDraw aM_stepWhat aM_stepPiece aM_stepPlace aM_stepSince aM_tape aM_shapes aM_pile aM_met aM_next aM_inputs aM_then M_pieces M_warmth M_draw M_steps M_undoable M_brought M_taped M_shapeMany M_ended M_cut M_mostPieces M_walks M_walked M_strength M_kind M_more M_glues M_sheet M_imageStrength M_imageKind M_imageMore M_imageGlues M_imagePieces M_imageWarmth M_imageSheet M_imageDraw) H → va_D A (w_X8_keep cI cJ cZ cO aM aM_strength aM_kind aM_more aM_glues aM_sheet aM_since aM_imageStrength aM_imageKind aM_imageMore aM_imageGlues aM_imagePieces aM_imageWarmth aM_imageSheet aM_imageDraw aM_stepWhat aM_stepPiece aM_stepPlace aM_stepSince aM_tape aM_shapes aM_pile aM_met aM_next aM_inputs aM_then M_pieces M_warmth M_draw M_steps M_undoable M_brought M_taped M_shapeMany M_ended M_cut M_mostPieces M_walks M_walked M_strength M_kind M_more M_glues M_sheet M_imageStrength M_imageKind M_imageMore M_imageGlues M_imagePieces M_imageWarmth M_imageSheet M_imageDraw) → va_S A s.heap H locs → ∀ ls : Array Slot, lv_has ls 4 [(0, .ref aM), (1, .int x1), (2, .int x2), (3, .int x3)] → W p l e rm_X8_keep s m args below meth c H locs 0 0 Z (F0 m 86 ls []) := by
        intro n_86
        induction n_86 with
        | zero => intro M_imageStrength M_imageKind M_imageMore M_imageGlues M_imagePieces M_imageWarmth M_imageSheet M_imageDraw x1 x2 x3 hw; exact False.elim hw
        | succ n_86 ih_86 =>
          intro M_imageStrength M_imageKind M_imageMore M_imageGlues M_imagePieces M_imageWarmth M_imageSheet M_imageDraw x1 x2 x3 hw H locs hP hD hS ls hl
          have hw : wf_X8_keep_86 M_strength M_kind M_more M_glues M_pieces M_warmth M_draw M_sheet (wq_X8_keep_44 M_strength M_kind M_more M_glues M_pieces M_warmth M_draw M_sheet Q n_44) Q (wq_X8_keep_86 M_strength M_kind M_more M_glues M_pieces M_warmth M_draw M_sheet (wq_X8_keep_44 M_strength M_kind M_more M_glues M_pieces M_warmth M_draw M_sheet Q n_44) Q n_86) M_imageStrength M_imageKind M_imageMore M_imageGlues M_imagePieces M_imageWarmth M_imageSheet M_imageDraw x1 x2 x3 := hw
          unfold wf_X8_keep_86 at hw
          refine lv_iload_n hx hb dX8_keep_86 rfl (lv_at hl 3 rfl) ?_
          refine lv_iconst (v := (4 : Int32)) hx hb dX8_keep_87 kI_4 ?_
          refine lv_icmp_ge (tgt := 123) hx hb dX8_keep_88 (by decide) (fun c88 => ?_) (fun c88 => ?_)
          · have hw := hw.1 c88
            obtain ⟨v123, e123⟩ : ∃ y : Int32, y = x2 + (1 : Int32) := ⟨_, rfl⟩
            have hw := hw v123 e123
            refine lv_iinc (v := v123) (lv' := [(2, .int v123), (0, .ref aM), (1, .int x1), (3, .int x3)]) hx hb dX8_keep_123 hl (k := 2) rfl (by rw [e123, kI_1]) (by decide) rfl (fun ls hl => ?_)
            refine lv_goto (tgt := 44) hx hb dX8_keep_126 (by decide) ?_
            exact ih_44 M_imageStrength M_imageKind M_imageMore M_imageGlues M_imagePieces M_imageWarmth M_imageSheet M_imageDraw x1 v123 hw H locs hP hD hS ls (lv_sub hl [1, 2, 0] rfl)
          · have hw := hw.2 c88
            refine lv_aload_n hx hb dX8_keep_91 rfl (lv_at hl 0 rfl) ?_
            refine va_get (D := D) (ci := 8) (v := .ref aM_imageGlues) (C := RX8) (T := TX8) (N := 38) hx hb hts in_X8_keep_X8 hown hK hP 0 rfl rfl 12 (by decide) k_2 (fun _ h9 => h9) rfl dX8_keep_92 ?_
            refine lv_sipush (v := (160 : Int32)) hx hb dX8_keep_95 kS_160 ?_
            refine lv_iload_n hx hb dX8_keep_98 rfl (lv_at hl 1 rfl) ?_
            refine lv_imul hx hb dX8_keep_99 ?_
            refine lv_iconst (v := (4 : Int32)) hx hb dX8_keep_100 kI_4 ?_
            refine lv_iload_n hx hb dX8_keep_101 rfl (lv_at hl 2 rfl) ?_
            refine lv_imul hx hb dX8_keep_102 ?_
            refine lv_iadd hx hb dX8_keep_103 ?_
            refine lv_iload_n hx hb dX8_keep_104 rfl (lv_at hl 3 rfl) ?_
            refine lv_iadd hx hb dX8_keep_105 ?_
            refine lv_aload_n hx hb dX8_keep_106 rfl (lv_at hl 0 rfl) ?_
            refine va_get (D := D) (ci := 8) (v := .ref aM_glues) (C := RX8) (T := TX8) (N := 38) hx hb hts in_X8_keep_X8 hown hK hP 0 rfl rfl 3 (by decide) k_3 (fun _ h9 => h9) rfl dX8_keep_107 ?_
            refine lv_iconst (v := (4 : Int32)) hx hb dX8_keep_110 kI_4 ?_
            refine lv_iload_n hx hb dX8_keep_111 rfl (lv_at hl 2 rfl) ?_
            refine lv_imul hx hb dX8_keep_112 ?_
            refine lv_iload_n hx hb dX8_keep_113 rfl (lv_at hl 3 rfl) ?_
            refine lv_iadd hx hb dX8_keep_114 ?_
            have h115 := hw.1
            have hw := hw.2
            refine va_iald hx hb hK hP 4 0 rfl rfl h115 dX8_keep_115 ?_
            refine lv_topi (fun v115 e115 => ?_)
            have hw := hw v115 e115
            have h116 := hw.1
            have hw := hw.2
            refine va_iast hx hb hK hP hD hS 9 0 rfl rfl h116 dX8_keep_116 (fun H locs hP hD hS => ?_)
            have hP : va_P D vwCl (w_X8_keep cI cJ cZ cO aM aM_strength aM_kind aM_more aM_glues aM_sheet aM_since aM_imageStrength aM_imageKind aM_imageMore aM_imageGlues aM_imagePieces aM_imageWarmth aM_imageSheet aM_imageDraw aM_stepWhat aM_stepPiece aM_stepPlace aM_stepSince aM_tape aM_shapes aM_pile aM_met aM_next aM_inputs aM_then M_pieces M_warmth M_draw M_steps M_undoable M_brought M_taped M_shapeMany M_ended M_cut M_mostPieces M_walks M_walked M_strength M_kind M_more M_glues M_sheet M_imageStrength M_imageKind M_imageMore (upd M_imageGlues ((((160 : Int32) * x1) + ((4 : Int32) * x2)) + x3).toNatClampNeg v115) M_imagePieces M_imageWarmth M_imageSheet M_imageDraw) H := hP
            have hD : va_D A (w_X8_keep cI cJ cZ cO aM aM_strength aM_kind aM_more aM_glues aM_sheet aM_since aM_imageStrength aM_imageKind aM_imageMore aM_imageGlues aM_imagePieces aM_imageWarmth aM_imageSheet aM_imageDraw aM_stepWhat aM_stepPiece aM_stepPlace aM_stepSince aM_tape aM_shapes aM_pile aM_met aM_next aM_inputs aM_then M_pieces M_warmth M_draw M_steps M_undoable M_brought M_taped M_shapeMany M_ended M_cut M_mostPieces M_walks M_walked M_strength M_kind M_more M_glues M_sheet M_imageStrength M_imageKind M_imageMore (upd M_imageGlues ((((160 : Int32) * x1) + ((4 : Int32) * x2)) + x3).toNatClampNeg v115) M_imagePieces M_imageWarmth M_imageSheet M_imageDraw) := hD
            obtain ⟨M_imageGlues_116, e116⟩ : ∃ y : Nat → Int32, y = upd M_imageGlues ((((160 : Int32) * x1) + ((4 : Int32) * x2)) + x3).toNatClampNeg v115 := ⟨_, rfl⟩
            rw [← e116] at hP hD
            have hw := hw M_imageGlues_116 e116
            obtain ⟨v117, e117⟩ : ∃ y : Int32, y = x3 + (1 : Int32) := ⟨_, rfl⟩
            have hw := hw v117 e117
            refine lv_iinc (v := v117) (lv' := [(3, .int v117), (0, .ref aM), (1, .int x1), (2, .int x2)]) hx hb dX8_keep_117 hl (k := 3) rfl (by rw [e117, kI_1]) (by decide) rfl (fun ls hl => ?_)
            refine lv_goto (tgt := 86) hx hb dX8_keep_120 (by decide) ?_
            exact ih_86 M_imageStrength M_imageKind M_imageMore M_imageGlues_116 M_imagePieces M_imageWarmth M_imageSheet M_imageDraw x1 x2 v117 hw H locs hP hD hS ls (lv_sub hl [1, 2, 3, 0] rfl)
      intro M_imageStrength M_imageKind M_imageMore M_imageGlues M_imagePieces M_imageWarmth M_imageSheet M_imageDraw x1 x2 hw H locs hP hD hS ls hl
      have hw : wf_X8_keep_44 M_strength M_kind M_more M_glues M_pieces M_warmth M_draw M_sheet Q (wq_X8_keep_44 M_strength M_kind M_more M_glues M_pieces M_warmth M_draw M_sheet Q n_44) M_imageStrength M_imageKind M_imageMore M_imageGlues M_imagePieces M_imageWarmth M_imageSheet M_imageDraw x1 x2 := hw
      unfold wf_X8_keep_44 at hw
      refine lv_iload_n hx hb dX8_keep_44 rfl (lv_at hl 2 rfl) ?_
      refine lv_bipush (v := (40 : Int32)) hx hb dX8_keep_45 kB_40 ?_
      refine lv_icmp_ge (tgt := 129) hx hb dX8_keep_47 (by decide) (fun c47 => ?_) (fun c47 => ?_)
      · have hw := hw.1 c47
        refine lv_aload_n hx hb dX8_keep_129 rfl (lv_at hl 0 rfl) ?_
        refine va_get (D := D) (ci := 8) (v := .ref aM_imagePieces) (C := RX8) (T := TX8) (N := 38) hx hb hts in_X8_keep_X8 hown hK hP 0 rfl rfl 13 (by decide) k_4 (fun _ h9 => h9) rfl dX8_keep_130 ?_
        refine lv_iload_n hx hb dX8_keep_133 rfl (lv_at hl 1 rfl) ?_
        refine lv_aload_n hx hb dX8_keep_134 rfl (lv_at hl 0 rfl) ?_
        refine va_get (D := D) (ci := 8) (v := .int M_pieces) (C := RX8) (T := TX8) (N := 38) hx hb hts in_X8_keep_X8 hown hK hP 0 rfl rfl 4 (by decide) k_5 (fun _ h9 => h9) rfl dX8_keep_135 ?_
        have h138 := hw.1
        have hw := hw.2
        refine va_iast hx hb hK hP hD hS 10 0 rfl rfl h138 dX8_keep_138 (fun H locs hP hD hS => ?_)
        have hP : va_P D vwCl (w_X8_keep cI cJ cZ cO aM aM_strength aM_kind aM_more aM_glues aM_sheet aM_since aM_imageStrength aM_imageKind aM_imageMore aM_imageGlues aM_imagePieces aM_imageWarmth aM_imageSheet aM_imageDraw aM_stepWhat aM_stepPiece aM_stepPlace aM_stepSince aM_tape aM_shapes aM_pile aM_met aM_next aM_inputs aM_then M_pieces M_warmth M_draw M_steps M_undoable M_brought M_taped M_shapeMany M_ended M_cut M_mostPieces M_walks M_walked M_strength M_kind M_more M_glues M_sheet M_imageStrength M_imageKind M_imageMore M_imageGlues (upd M_imagePieces x1.toNatClampNeg M_pieces) M_imageWarmth M_imageSheet M_imageDraw) H := hP
        have hD : va_D A (w_X8_keep cI cJ cZ cO aM aM_strength aM_kind aM_more aM_glues aM_sheet aM_since aM_imageStrength aM_imageKind aM_imageMore aM_imageGlues aM_imagePieces aM_imageWarmth aM_imageSheet aM_imageDraw aM_stepWhat aM_stepPiece aM_stepPlace aM_stepSince aM_tape aM_shapes aM_pile aM_met aM_next aM_inputs aM_then M_pieces M_warmth M_draw M_steps M_undoable M_brought M_taped M_shapeMany M_ended M_cut M_mostPieces M_walks M_walked M_strength M_kind M_more M_glues M_sheet M_imageStrength M_imageKind M_imageMore M_imageGlues (upd M_imagePieces x1.toNatClampNeg M_pieces) M_imageWarmth M_imageSheet M_imageDraw) := hD
        obtain ⟨M_imagePieces_138, e138⟩ : ∃ y : Nat → Int32, y = upd M_imagePieces x1.toNatClampNeg M_pieces := ⟨_, rfl⟩
        rw [← e138] at hP hD
        have hw := hw M_imagePieces_138 e138
        refine lv_aload_n hx hb dX8_keep_139 rfl (lv_at hl 0 rfl) ?_
        refine va_get (D := D) (ci := 8) (v := .ref aM_imageWarmth) (C := RX8) (T := TX8) (N := 38) hx hb hts in_X8_keep_X8 hown hK hP 0 rfl rfl 14 (by decide) k_6 (fun _ h9 => h9) rfl dX8_keep_140 ?_
        refine lv_iload_n hx hb dX8_keep_143 rfl (lv_at hl 1 rfl) ?_
        refine lv_aload_n hx hb dX8_keep_144 rfl (lv_at hl 0 rfl) ?_
        refine va_get (D := D) (ci := 8) (v := .int M_warmth) (C := RX8) (T := TX8) (N := 38) hx hb hts in_X8_keep_X8 hown hK hP 0 rfl rfl 5 (by decide) k_7 (fun _ h9 => h9) rfl dX8_keep_145 ?_
        have h148 := hw.1
        have hw := hw.2
        refine va_iast hx hb hK hP hD hS 11 0 rfl rfl h148 dX8_keep_148 (fun H locs hP hD hS => ?_)
        have hP : va_P D vwCl (w_X8_keep cI cJ cZ cO aM aM_strength aM_kind aM_more aM_glues aM_sheet aM_since aM_imageStrength aM_imageKind aM_imageMore aM_imageGlues aM_imagePieces aM_imageWarmth aM_imageSheet aM_imageDraw aM_stepWhat aM_stepPiece aM_stepPlace aM_stepSince aM_tape aM_shapes aM_pile aM_met aM_next aM_inputs aM_then M_pieces M_warmth M_draw M_steps M_undoable M_brought M_taped M_shapeMany M_ended M_cut M_mostPieces M_walks M_walked M_strength M_kind M_more M_glues M_sheet M_imageStrength M_imageKind M_imageMore M_imageGlues M_imagePieces_138 (upd M_imageWarmth x1.toNatClampNeg M_warmth) M_imageSheet M_imageDraw) H := hP
        have hD : va_D A (w_X8_keep cI cJ cZ cO aM aM_strength aM_kind aM_more aM_glues aM_sheet aM_since aM_imageStrength aM_imageKind aM_imageMore aM_imageGlues aM_imagePieces aM_imageWarmth aM_imageSheet aM_imageDraw aM_stepWhat aM_stepPiece aM_stepPlace aM_stepSince aM_tape aM_shapes aM_pile aM_met aM_next aM_inputs aM_then M_pieces M_warmth M_draw M_steps M_undoable M_brought M_taped M_shapeMany M_ended M_cut M_mostPieces M_walks M_walked M_strength M_kind M_more M_glues M_sheet M_imageStrength M_imageKind M_imageMore M_imageGlues M_imagePieces_138 (upd M_imageWarmth x1.toNatClampNeg M_warmth) M_imageSheet M_imageDraw) := hD
        obtain ⟨M_imageWarmth_148, e148⟩ : ∃ y : Nat → Int32, y = upd M_imageWarmth x1.toNatClampNeg M_warmth := ⟨_, rfl⟩
        rw [← e148] at hP hD
        have hw := hw M_imageWarmth_148 e148
        refine lv_aload_n hx hb dX8_keep_149 rfl (lv_at hl 0 rfl) ?_
        refine va_get (D := D) (ci := 8) (v := .ref aM_imageDraw) (C := RX8) (T := TX8) (N := 38) hx hb hts in_X8_keep_X8 hown hK hP 0 rfl rfl 16 (by decide) k_8 (fun _ h9 => h9) rfl dX8_keep_150 ?_
        refine lv_iload_n hx hb dX8_keep_153 rfl (lv_at hl 1 rfl) ?_
        refine lv_aload_n hx hb dX8_keep_154 rfl (lv_at hl 0 rfl) ?_
        refine va_get (D := D) (ci := 8) (v := .long M_draw) (C := RX8) (T := TX8) (N := 38) hx hb hts in_X8_keep_X8 hown hK hP 0 rfl rfl 6 (by decide) k_9 (fun _ h9 => h9) rfl dX8_keep_155 ?_
        have h158 := hw.1
        have hw := hw.2
        refine va_last hx hb hK hP hD hS 13 1 rfl rfl h158 dX8_keep_158 (fun H locs hP hD hS => ?_)
        have hP : va_P D vwCl (w_X8_keep cI cJ cZ cO aM aM_strength aM_kind aM_more aM_glues aM_sheet aM_since aM_imageStrength aM_imageKind aM_imageMore aM_imageGlues aM_imagePieces aM_imageWarmth aM_imageSheet aM_imageDraw aM_stepWhat aM_stepPiece aM_stepPlace aM_stepSince aM_tape aM_shapes aM_pile aM_met aM_next aM_inputs aM_then M_pieces M_warmth M_draw M_steps M_undoable M_brought M_taped M_shapeMany M_ended M_cut M_mostPieces M_walks M_walked M_strength M_kind M_more M_glues M_sheet M_imageStrength M_imageKind M_imageMore M_imageGlues M_imagePieces_138 M_imageWarmth_148 M_imageSheet (vp_updL M_imageDraw x1.toNatClampNeg M_draw)) H := hP
        have hD : va_D A (w_X8_keep cI cJ cZ cO aM aM_strength aM_kind aM_more aM_glues aM_sheet aM_since aM_imageStrength aM_imageKind aM_imageMore aM_imageGlues aM_imagePieces aM_imageWarmth aM_imageSheet aM_imageDraw aM_stepWhat aM_stepPiece aM_stepPlace aM_stepSince aM_tape aM_shapes aM_pile aM_met aM_next aM_inputs aM_then M_pieces M_warmth M_draw M_steps M_undoable M_brought M_taped M_shapeMany M_ended M_cut M_mostPieces M_walks M_walked M_strength M_kind M_more M_glues M_sheet M_imageStrength M_imageKind M_imageMore M_imageGlues M_imagePieces_138 M_imageWarmth_148 M_imageSheet (vp_updL M_imageDraw x1.toNatClampNeg M_draw)) := hD
        obtain ⟨M_imageDraw_158, e158⟩ : ∃ y : Nat → Int64, y = vp_updL M_imageDraw x1.toNatClampNeg M_draw := ⟨_, rfl⟩
        rw [← e158] at hP hD
        have hw := hw M_imageDraw_158 e158
        refine lv_iconst (v := (0 : Int32)) hx hb dX8_keep_159 kI_0 ?_
        refine lv_istore_n (lv' := [(2, .int (0 : Int32)), (0, .ref aM), (1, .int x1)]) hx hb dX8_keep_160 rfl hl (by decide) rfl (fun ls hl => ?_)
        obtain ⟨k, hw⟩ := hw
        exact b_161 k M_imageStrength M_imageKind M_imageMore M_imageGlues M_imagePieces_138 M_imageWarmth_148 M_imageSheet M_imageDraw_158 x1 (0 : Int32) hw H locs hP hD hS ls (lv_sub hl [1, 2, 0] rfl)
      · have hw := hw.2 c47
        refine lv_aload_n hx hb dX8_keep_50 rfl (lv_at hl 0 rfl) ?_
        refine va_get (D := D) (ci := 8) (v := .ref aM_imageKind) (C := RX8) (T := TX8) (N := 38) hx hb hts in_X8_keep_X8 hown hK hP 0 rfl rfl 10 (by decide) k_10 (fun _ h9 => h9) rfl dX8_keep_51 ?_
        refine lv_bipush (v := (40 : Int32)) hx hb dX8_keep_54 kB_40 ?_
        refine lv_iload_n hx hb dX8_keep_56 rfl (lv_at hl 1 rfl) ?_
        refine lv_imul hx hb dX8_keep_57 ?_
        refine lv_iload_n hx hb dX8_keep_58 rfl (lv_at hl 2 rfl) ?_
        refine lv_iadd hx hb dX8_keep_59 ?_
        refine lv_aload_n hx hb dX8_keep_60 rfl (lv_at hl 0 rfl) ?_
        refine va_get (D := D) (ci := 8) (v := .ref aM_kind) (C := RX8) (T := TX8) (N := 38) hx hb hts in_X8_keep_X8 hown hK hP 0 rfl rfl 1 (by decide) k_11 (fun _ h9 => h9) rfl dX8_keep_61 ?_
        refine lv_iload_n hx hb dX8_keep_64 rfl (lv_at hl 2 rfl) ?_
        have h65 := hw.1
        have hw := hw.2
        refine va_iald hx hb hK hP 2 0 rfl rfl h65 dX8_keep_65 ?_
        refine lv_topi (fun v65 e65 => ?_)
        have hw := hw v65 e65
        have h66 := hw.1
        have hw := hw.2
        refine va_iast hx hb hK hP hD hS 7 0 rfl rfl h66 dX8_keep_66 (fun H locs hP hD hS => ?_)
        have hP : va_P D vwCl (w_X8_keep cI cJ cZ cO aM aM_strength aM_kind aM_more aM_glues aM_sheet aM_since aM_imageStrength aM_imageKind aM_imageMore aM_imageGlues aM_imagePieces aM_imageWarmth aM_imageSheet aM_imageDraw aM_stepWhat aM_stepPiece aM_stepPlace aM_stepSince aM_tape aM_shapes aM_pile aM_met aM_next aM_inputs aM_then M_pieces M_warmth M_draw M_steps M_undoable M_brought M_taped M_shapeMany M_ended M_cut M_mostPieces M_walks M_walked M_strength M_kind M_more M_glues M_sheet M_imageStrength (upd M_imageKind (((40 : Int32) * x1) + x2).toNatClampNeg v65) M_imageMore M_imageGlues M_imagePieces M_imageWarmth M_imageSheet M_imageDraw) H := hP
        have hD : va_D A (w_X8_keep cI cJ cZ cO aM aM_strength aM_kind aM_more aM_glues aM_sheet aM_since aM_imageStrength aM_imageKind aM_imageMore aM_imageGlues aM_imagePieces aM_imageWarmth aM_imageSheet aM_imageDraw aM_stepWhat aM_stepPiece aM_stepPlace aM_stepSince aM_tape aM_shapes aM_pile aM_met aM_next aM_inputs aM_then M_pieces M_warmth M_draw M_steps M_undoable M_brought M_taped M_shapeMany M_ended M_cut M_mostPieces M_walks M_walked M_strength M_kind M_more M_glues M_sheet M_imageStrength (upd M_imageKind (((40 : Int32) * x1) + x2).toNatClampNeg v65) M_imageMore M_imageGlues M_imagePieces M_imageWarmth M_imageSheet M_imageDraw) := hD
        obtain ⟨M_imageKind_66, e66⟩ : ∃ y : Nat → Int32, y = upd M_imageKind (((40 : Int32) * x1) + x2).toNatClampNeg v65 := ⟨_, rfl⟩
        rw [← e66] at hP hD
        have hw := hw M_imageKind_66 e66
        refine lv_aload_n hx hb dX8_keep_67 rfl (lv_at hl 0 rfl) ?_
        refine va_get (D := D) (ci := 8) (v := .ref aM_imageMore) (C := RX8) (T := TX8) (N := 38) hx hb hts in_X8_keep_X8 hown hK hP 0 rfl rfl 11 (by decide) k_12 (fun _ h9 => h9) rfl dX8_keep_68 ?_
        refine lv_bipush (v := (40 : Int32)) hx hb dX8_keep_71 kB_40 ?_
        refine lv_iload_n hx hb dX8_keep_73 rfl (lv_at hl 1 rfl) ?_
        refine lv_imul hx hb dX8_keep_74 ?_
        refine lv_iload_n hx hb dX8_keep_75 rfl (lv_at hl 2 rfl) ?_
        refine lv_iadd hx hb dX8_keep_76 ?_
        refine lv_aload_n hx hb dX8_keep_77 rfl (lv_at hl 0 rfl) ?_
        refine va_get (D := D) (ci := 8) (v := .ref aM_more) (C := RX8) (T := TX8) (N := 38) hx hb hts in_X8_keep_X8 hown hK hP 0 rfl rfl 2 (by decide) k_13 (fun _ h9 => h9) rfl dX8_keep_78 ?_
        refine lv_iload_n hx hb dX8_keep_81 rfl (lv_at hl 2 rfl) ?_
        have h82 := hw.1
        have hw := hw.2
        refine va_iald hx hb hK hP 3 0 rfl rfl h82 dX8_keep_82 ?_
        refine lv_topi (fun v82 e82 => ?_)
        have hw := hw v82 e82
        have h83 := hw.1
        have hw := hw.2
        refine va_iast hx hb hK hP hD hS 8 0 rfl rfl h83 dX8_keep_83 (fun H locs hP hD hS => ?_)
        have hP : va_P D vwCl (w_X8_keep cI cJ cZ cO aM aM_strength aM_kind aM_more aM_glues aM_sheet aM_since aM_imageStrength aM_imageKind aM_imageMore aM_imageGlues aM_imagePieces aM_imageWarmth aM_imageSheet aM_imageDraw aM_stepWhat aM_stepPiece aM_stepPlace aM_stepSince aM_tape aM_shapes aM_pile aM_met aM_next aM_inputs aM_then M_pieces M_warmth M_draw M_steps M_undoable M_brought M_taped M_shapeMany M_ended M_cut M_mostPieces M_walks M_walked M_strength M_kind M_more M_glues M_sheet M_imageStrength M_imageKind_66 (upd M_imageMore (((40 : Int32) * x1) + x2).toNatClampNeg v82) M_imageGlues M_imagePieces M_imageWarmth M_imageSheet M_imageDraw) H := hP
        have hD : va_D A (w_X8_keep cI cJ cZ cO aM aM_strength aM_kind aM_more aM_glues aM_sheet aM_since aM_imageStrength aM_imageKind aM_imageMore aM_imageGlues aM_imagePieces aM_imageWarmth aM_imageSheet aM_imageDraw aM_stepWhat aM_stepPiece aM_stepPlace aM_stepSince aM_tape aM_shapes aM_pile aM_met aM_next aM_inputs aM_then M_pieces M_warmth M_draw M_steps M_undoable M_brought M_taped M_shapeMany M_ended M_cut M_mostPieces M_walks M_walked M_strength M_kind M_more M_glues M_sheet M_imageStrength M_imageKind_66 (upd M_imageMore (((40 : Int32) * x1) + x2).toNatClampNeg v82) M_imageGlues M_imagePieces M_imageWarmth M_imageSheet M_imageDraw) := hD
        obtain ⟨M_imageMore_83, e83⟩ : ∃ y : Nat → Int32, y = upd M_imageMore (((40 : Int32) * x1) + x2).toNatClampNeg v82 := ⟨_, rfl⟩
        rw [← e83] at hP hD
        have hw := hw M_imageMore_83 e83
        refine lv_iconst (v := (0 : Int32)) hx hb dX8_keep_84 kI_0 ?_
        refine lv_istore_n (lv' := [(3, .int (0 : Int32)), (0, .ref aM), (1, .int x1), (2, .int x2)]) hx hb dX8_keep_85 rfl hl (by decide) rfl (fun ls hl => ?_)
        obtain ⟨k, hw⟩ := hw
        exact b_86 k M_imageStrength M_imageKind_66 M_imageMore_83 M_imageGlues M_imagePieces M_imageWarmth M_imageSheet M_imageDraw x1 x2 (0 : Int32) hw H locs hP hD hS ls (lv_sub hl [1, 2, 3, 0] rfl)
  have b_13 : ∀ n_13 : Nat, ∀ (M_imageStrength : Nat → Int32) (M_imageKind : Nat → Int32) (M_imageMore : Nat → Int32) (M_imageGlues : Nat → Int32) (M_imagePieces : Nat → Int32) (M_imageWarmth : Nat → Int32) (M_imageSheet : Nat → Int32) (M_imageDraw : Nat → Int64) (x1 : Int32) (x2 : Int32), wq_X8_keep_13 M_strength M_kind M_more M_glues M_pieces M_warmth M_draw M_sheet Q n_13 M_imageStrength M_imageKind M_imageMore M_imageGlues M_imagePieces M_imageWarmth M_imageSheet M_imageDraw x1 x2 → ∀ (H : Heap) (locs : List Loc), va_P D vwCl (w_X8_keep cI cJ cZ cO aM aM_strength aM_kind aM_more aM_glues aM_sheet aM_since aM_imageStrength aM_imageKind aM_imageMore aM_imageGlues aM_imagePieces aM_imageWarmth aM_imageSheet aM_imageDraw aM_stepWhat aM_stepPiece aM_stepPlace aM_stepSince aM_tape aM_shapes aM_pile aM_met aM_next aM_inputs aM_then M_pieces M_warmth M_draw M_steps M_undoable M_brought M_taped M_shapeMany M_ended M_cut M_mostPieces M_walks M_walked M_strength M_kind M_more M_glues M_sheet M_imageStrength M_imageKind M_imageMore M_imageGlues M_imagePieces M_imageWarmth M_imageSheet M_imageDraw) H → va_D A (w_X8_keep cI cJ cZ cO aM aM_strength aM_kind aM_more aM_glues aM_sheet aM_since aM_imageStrength aM_imageKind aM_imageMore aM_imageGlues aM_imagePieces aM_imageWarmth aM_imageSheet aM_imageDraw aM_stepWhat aM_stepPiece aM_stepPlace aM_stepSince aM_tape aM_shapes aM_pile aM_met aM_next aM_inputs aM_then M_pieces M_warmth M_draw M_steps M_undoable M_brought M_taped M_shapeMany M_ended M_cut M_mostPieces M_walks M_walked M_strength M_kind M_more M_glues M_sheet M_imageStrength M_imageKind M_imageMore M_imageGlues M_imagePieces M_imageWarmth M_imageSheet M_imageDraw) → va_S A s.heap H locs → ∀ ls : Array Slot, lv_has ls 4 [(0, .ref aM), (1, .int x1), (2, .int x2)] → W p l e rm_X8_keep s m args below meth c H locs 0 0 Z (F0 m 13 ls []) := by
    intro n_13
    induction n_13 with
    | zero => intro M_imageStrength M_imageKind M_imageMore M_imageGlues M_imagePieces M_imageWarmth M_imageSheet M_imageDraw x1 x2 hw; exact False.elim hw
    | succ n_13 ih_13 =>
      intro M_imageStrength M_imageKind M_imageMore M_imageGlues M_imagePieces M_imageWarmth M_imageSheet M_imageDraw x1 x2 hw H locs hP hD hS ls hl
      have hw : wf_X8_keep_13 M_strength M_kind M_more M_glues M_pieces M_warmth M_draw M_sheet Q (wq_X8_keep_13 M_strength M_kind M_more M_glues M_pieces M_warmth M_draw M_sheet Q n_13) M_imageStrength M_imageKind M_imageMore M_imageGlues M_imagePieces M_imageWarmth M_imageSheet M_imageDraw x1 x2 := hw
      unfold wf_X8_keep_13 at hw
      refine lv_iload_n hx hb dX8_keep_13 rfl (lv_at hl 2 rfl) ?_
      refine lv_bipush (v := (50 : Int32)) hx hb dX8_keep_14 kB_50 ?_
      refine lv_icmp_gt (tgt := 42) hx hb dX8_keep_16 (by decide) (fun c16 => ?_) (fun c16 => ?_)
      · have hw := hw.1 c16
        refine lv_iconst (v := (0 : Int32)) hx hb dX8_keep_42 kI_0 ?_
        refine lv_istore_n (lv' := [(2, .int (0 : Int32)), (0, .ref aM), (1, .int x1)]) hx hb dX8_keep_43 rfl hl (by decide) rfl (fun ls hl => ?_)
        obtain ⟨k, hw⟩ := hw
        exact b_44 k M_imageStrength M_imageKind M_imageMore M_imageGlues M_imagePieces M_imageWarmth M_imageSheet M_imageDraw x1 (0 : Int32) hw H locs hP hD hS ls (lv_sub hl [1, 2, 0] rfl)
      · have hw := hw.2 c16
        refine lv_aload_n hx hb dX8_keep_19 rfl (lv_at hl 0 rfl) ?_
        refine va_get (D := D) (ci := 8) (v := .ref aM_imageStrength) (C := RX8) (T := TX8) (N := 38) hx hb hts in_X8_keep_X8 hown hK hP 0 rfl rfl 9 (by decide) k_14 (fun _ h9 => h9) rfl dX8_keep_20 ?_
        refine lv_bipush (v := (51 : Int32)) hx hb dX8_keep_23 kB_51 ?_
        refine lv_iload_n hx hb dX8_keep_25 rfl (lv_at hl 1 rfl) ?_
        refine lv_imul hx hb dX8_keep_26 ?_
        refine lv_iload_n hx hb dX8_keep_27 rfl (lv_at hl 2 rfl) ?_
        refine lv_iadd hx hb dX8_keep_28 ?_
        refine lv_aload_n hx hb dX8_keep_29 rfl (lv_at hl 0 rfl) ?_
        refine va_get (D := D) (ci := 8) (v := .ref aM_strength) (C := RX8) (T := TX8) (N := 38) hx hb hts in_X8_keep_X8 hown hK hP 0 rfl rfl 0 (by decide) k_15 (fun _ h9 => h9) rfl dX8_keep_30 ?_
        refine lv_iload_n hx hb dX8_keep_33 rfl (lv_at hl 2 rfl) ?_
        have h34 := hw.1
        have hw := hw.2
        refine va_iald hx hb hK hP 1 0 rfl rfl h34 dX8_keep_34 ?_
        refine lv_topi (fun v34 e34 => ?_)
        have hw := hw v34 e34
        have h35 := hw.1
        have hw := hw.2
        refine va_iast hx hb hK hP hD hS 6 0 rfl rfl h35 dX8_keep_35 (fun H locs hP hD hS => ?_)
        have hP : va_P D vwCl (w_X8_keep cI cJ cZ cO aM aM_strength aM_kind aM_more aM_glues aM_sheet aM_since aM_imageStrength aM_imageKind aM_imageMore aM_imageGlues aM_imagePieces aM_imageWarmth aM_imageSheet aM_imageDraw aM_stepWhat aM_stepPiece aM_stepPlace aM_stepSince aM_tape aM_shapes aM_pile aM_met aM_next aM_inputs aM_then M_pieces M_warmth M_draw M_steps M_undoable M_brought M_taped M_shapeMany M_ended M_cut M_mostPieces M_walks M_walked M_strength M_kind M_more M_glues M_sheet (upd M_imageStrength (((51 : Int32) * x1) + x2).toNatClampNeg v34) M_imageKind M_imageMore M_imageGlues M_imagePieces M_imageWarmth M_imageSheet M_imageDraw) H := hP
        have hD : va_D A (w_X8_keep cI cJ cZ cO aM aM_strength aM_kind aM_more aM_glues aM_sheet aM_since aM_imageStrength aM_imageKind aM_imageMore aM_imageGlues aM_imagePieces aM_imageWarmth aM_imageSheet aM_imageDraw aM_stepWhat aM_stepPiece aM_stepPlace aM_stepSince aM_tape aM_shapes aM_pile aM_met aM_next aM_inputs aM_then M_pieces M_warmth M_draw M_steps M_undoable M_brought M_taped M_shapeMany M_ended M_cut M_mostPieces M_walks M_walked M_strength M_kind M_more M_glues M_sheet (upd M_imageStrength (((51 : Int32) * x1) + x2).toNatClampNeg v34) M_imageKind M_imageMore M_imageGlues M_imagePieces M_imageWarmth M_imageSheet M_imageDraw) := hD
        obtain ⟨M_imageStrength_35, e35⟩ : ∃ y : Nat → Int32, y = upd M_imageStrength (((51 : Int32) * x1) + x2).toNatClampNeg v34 := ⟨_, rfl⟩
        rw [← e35] at hP hD
        have hw := hw M_imageStrength_35 e35
        obtain ⟨v36, e36⟩ : ∃ y : Int32, y = x2 + (1 : Int32) := ⟨_, rfl⟩
        have hw := hw v36 e36
        refine lv_iinc (v := v36) (lv' := [(2, .int v36), (0, .ref aM), (1, .int x1)]) hx hb dX8_keep_36 hl (k := 2) rfl (by rw [e36, kI_1]) (by decide) rfl (fun ls hl => ?_)
        refine lv_goto (tgt := 13) hx hb dX8_keep_39 (by decide) ?_
        exact ih_13 M_imageStrength_35 M_imageKind M_imageMore M_imageGlues M_imagePieces M_imageWarmth M_imageSheet M_imageDraw x1 v36 hw H locs hP hD hS ls (lv_sub hl [1, 2, 0] rfl)
  intro H locs hP hD hS ls hl
  unfold wp_X8_keep at hw
  refine lv_iload_n hx hb dX8_keep_0 rfl (lv_at hl 1 rfl) ?_
  refine lv_if_lt (tgt := 9) hx hb dX8_keep_1 (by decide) (fun c1 => ?_) (fun c1 => ?_)
  · have hw := hw.1 c1
    refine lv_iconst (v := (0 : Int32)) hx hb dX8_keep_9 kI_0 ?_
    rw [hZ]
    exact cx_retz (M_imageStrength, M_imageKind, M_imageMore, M_imageGlues, M_imagePieces, M_imageWarmth, M_imageSheet, M_imageDraw) hx hb hr hlocks rfl hw hP hS dX8_keep_10
  · have hw := hw.2 c1
    refine lv_iload_n hx hb dX8_keep_4 rfl (lv_at hl 1 rfl) ?_
    refine lv_iconst (v := (2 : Int32)) hx hb dX8_keep_5 kI_2 ?_
    refine lv_icmp_le (tgt := 11) hx hb dX8_keep_6 (by decide) (fun c6 => ?_) (fun c6 => ?_)
    · have hw := hw.1 c6
      refine lv_iconst (v := (0 : Int32)) hx hb dX8_keep_11 kI_0 ?_
      refine lv_istore_n (lv' := [(2, .int (0 : Int32)), (0, .ref aM), (1, .int p1)]) hx hb dX8_keep_12 rfl hl (by decide) rfl (fun ls hl => ?_)
      obtain ⟨k, hw⟩ := hw
      exact b_13 k M_imageStrength M_imageKind M_imageMore M_imageGlues M_imagePieces M_imageWarmth M_imageSheet M_imageDraw p1 (0 : Int32) hw H locs hP hD hS ls (lv_sub hl [1, 2, 0] rfl)
    · have hw := hw.2 c6
      refine lv_iconst (v := (0 : Int32)) hx hb dX8_keep_9 kI_0 ?_
      rw [hZ]
      exact cx_retz (M_imageStrength, M_imageKind, M_imageMore, M_imageGlues, M_imagePieces, M_imageWarmth, M_imageSheet, M_imageDraw) hx hb hr hlocks rfl hw hP hS dX8_keep_10
set_option maxRecDepth 100000 in
set_option maxHeartbeats 4000000 in
theorem c_X8_back (l : Launch) (D : va_G) (cI cJ cZ cO : ClassId) (tS tT : Nat) (sz : Nat) (aM aM_strength aM_kind aM_more aM_glues aM_sheet aM_since aM_imageStrength aM_imageKind aM_imageMore aM_imageGlues aM_imagePieces aM_imageWarmth aM_imageSheet aM_imageDraw aM_stepWhat aM_stepPiece aM_stepPlace aM_stepSince aM_tape aM_shapes aM_pile aM_met aM_next aM_inputs aM_then : Nat) (M_pieces : Int32) (M_warmth : Int32) (M_draw : Int64) (M_steps : Int32) (M_undoable : Int32) (M_brought : Int32) (M_taped : Int32) (M_shapeMany : Int32) (M_ended : Int32) (M_cut : Int32) (M_mostPieces : Int32) (M_walks : Int32) (M_walked : Int32) (M_strength : Nat → Int32) (M_kind : Nat → Int32) (M_more : Nat → Int32) (M_glues : Nat → Int32) (M_sheet : Nat → Int32) (M_since : Nat → Int32) (M_imageStrength : Nat → Int32) (M_imageKind : Nat → Int32) (M_imageMore : Nat → Int32) (M_imageGlues : Nat → Int32) (M_imagePieces : Nat → Int32) (M_imageWarmth : Nat → Int32) (M_imageSheet : Nat → Int32) (M_imageDraw : Nat → Int64) (p1 : Int32) (Q : Int32 → (Nat → Int32) → (Nat → Int32) → (Nat → Int32) → (Nat → Int32) → (Int32) → (Int32) → (Int64) → (Nat → Int32) → (Nat → Int32) → (Int32) → (Int32) → (Int32) → Prop) (hw : wp_X8_back M_imageStrength M_imageKind M_imageMore M_imageGlues M_imagePieces M_imageWarmth M_imageSheet M_imageDraw M_strength M_kind M_more M_glues M_pieces M_warmth M_draw M_sheet M_since M_steps M_undoable M_brought p1 Q) : Met l yX8_back wsX8_back rm_X8_back (va_Pc [.ref aM, .int p1] (cx_B tS tT cI cJ cZ cO D sz (w_X8_back cI cJ cZ cO aM aM_strength aM_kind aM_more aM_glues aM_sheet aM_since aM_imageStrength aM_imageKind aM_imageMore aM_imageGlues aM_imagePieces aM_imageWarmth aM_imageSheet aM_imageDraw aM_stepWhat aM_stepPiece aM_stepPlace aM_stepSince aM_tape aM_shapes aM_pile aM_met aM_next aM_inputs aM_then M_pieces M_warmth M_draw M_steps M_undoable M_brought M_taped M_shapeMany M_ended M_cut M_mostPieces M_walks M_walked M_strength M_kind M_more M_glues M_sheet M_since M_imageStrength M_imageKind M_imageMore M_imageGlues M_imagePieces M_imageWarmth M_imageSheet M_imageDraw))) (va_Qi (fun (r : Int32) (u : (Nat → Int32) × (Nat → Int32) × (Nat → Int32) × (Nat → Int32) × (Int32) × (Int32) × (Int64) × (Nat → Int32) × (Nat → Int32) × (Int32) × (Int32) × (Int32)) => Q r u.1 u.2.1 u.2.2.1 u.2.2.2.1 u.2.2.2.2.1 u.2.2.2.2.2.1 u.2.2.2.2.2.2.1 u.2.2.2.2.2.2.2.1 u.2.2.2.2.2.2.2.2.1 u.2.2.2.2.2.2.2.2.2.1 u.2.2.2.2.2.2.2.2.2.2.1 u.2.2.2.2.2.2.2.2.2.2.2) (fun (u : (Nat → Int32) × (Nat → Int32) × (Nat → Int32) × (Nat → Int32) × (Int32) × (Int32) × (Int64) × (Nat → Int32) × (Nat → Int32) × (Int32) × (Int32) × (Int32)) t => va_P D vwCl (w_X8_back cI cJ cZ cO aM aM_strength aM_kind aM_more aM_glues aM_sheet aM_since aM_imageStrength aM_imageKind aM_imageMore aM_imageGlues aM_imagePieces aM_imageWarmth aM_imageSheet aM_imageDraw aM_stepWhat aM_stepPiece aM_stepPlace aM_stepSince aM_tape aM_shapes aM_pile aM_met aM_next aM_inputs aM_then u.2.2.2.2.1 u.2.2.2.2.2.1 u.2.2.2.2.2.2.1 u.2.2.2.2.2.2.2.2.2.1 u.2.2.2.2.2.2.2.2.2.2.1 u.2.2.2.2.2.2.2.2.2.2.2 M_taped M_shapeMany M_ended M_cut M_mostPieces M_walks M_walked u.1 u.2.1 u.2.2.1 u.2.2.2.1 u.2.2.2.2.2.2.2.1 u.2.2.2.2.2.2.2.2.1 M_imageStrength M_imageKind M_imageMore M_imageGlues M_imagePieces M_imageWarmth M_imageSheet M_imageDraw) t.heap) (va_A (w_X8_back cI cJ cZ cO aM aM_strength aM_kind aM_more aM_glues aM_sheet aM_since aM_imageStrength aM_imageKind aM_imageMore aM_imageGlues aM_imagePieces aM_imageWarmth aM_imageSheet aM_imageDraw aM_stepWhat aM_stepPiece aM_stepPlace aM_stepSince aM_tape aM_shapes aM_pile aM_met aM_next aM_inputs aM_then M_pieces M_warmth M_draw M_steps M_undoable M_brought M_taped M_shapeMany M_ended M_cut M_mostPieces M_walks M_walked M_strength M_kind M_more M_glues M_sheet M_since M_imageStrength M_imageKind M_imageMore M_imageGlues M_imagePieces M_imageWarmth M_imageSheet M_imageDraw) sz)) 0 0 (va_A (w_X8_back cI cJ cZ cO aM aM_strength aM_kind aM_more aM_glues aM_sheet aM_since aM_imageStrength aM_imageKind aM_imageMore aM_imageGlues aM_imagePieces aM_imageWarmth aM_imageSheet aM_imageDraw aM_stepWhat aM_stepPiece aM_stepPlace aM_stepSince aM_tape aM_shapes aM_pile aM_met aM_next aM_inputs aM_then M_pieces M_warmth M_draw M_steps M_undoable M_brought M_taped M_shapeMany M_ended M_cut M_mostPieces M_walks M_walked M_strength M_kind M_more M_glues M_sheet M_since M_imageStrength M_imageKind M_imageMore M_imageGlues M_imagePieces M_imageWarmth M_imageSheet M_imageDraw) sz) := by
  refine cx_met (cc := cX8_back) (maxL := 4) (ret := (some .boolean)) (Qc := fun A => va_Qi (fun (r : Int32) (u : (Nat → Int32) × (Nat → Int32) × (Nat → Int32) × (Nat → Int32) × (Int32) × (Int32) × (Int64) × (Nat → Int32) × (Nat → Int32) × (Int32) × (Int32) × (Int32)) => Q r u.1 u.2.1 u.2.2.1 u.2.2.2.1 u.2.2.2.2.1 u.2.2.2.2.2.1 u.2.2.2.2.2.2.1 u.2.2.2.2.2.2.2.1 u.2.2.2.2.2.2.2.2.1 u.2.2.2.2.2.2.2.2.2.1 u.2.2.2.2.2.2.2.2.2.2.1 u.2.2.2.2.2.2.2.2.2.2.2) (fun (u : (Nat → Int32) × (Nat → Int32) × (Nat → Int32) × (Nat → Int32) × (Int32) × (Int32) × (Int64) × (Nat → Int32) × (Nat → Int32) × (Int32) × (Int32) × (Int32)) t => va_P D vwCl (w_X8_back cI cJ cZ cO aM aM_strength aM_kind aM_more aM_glues aM_sheet aM_since aM_imageStrength aM_imageKind aM_imageMore aM_imageGlues aM_imagePieces aM_imageWarmth aM_imageSheet aM_imageDraw aM_stepWhat aM_stepPiece aM_stepPlace aM_stepSince aM_tape aM_shapes aM_pile aM_met aM_next aM_inputs aM_then u.2.2.2.2.1 u.2.2.2.2.2.1 u.2.2.2.2.2.2.1 u.2.2.2.2.2.2.2.2.2.1 u.2.2.2.2.2.2.2.2.2.2.1 u.2.2.2.2.2.2.2.2.2.2.2 M_taped M_shapeMany M_ended M_cut M_mostPieces M_walks M_walked u.1 u.2.1 u.2.2.1 u.2.2.2.1 u.2.2.2.2.2.2.2.1 u.2.2.2.2.2.2.2.2.1 M_imageStrength M_imageKind M_imageMore M_imageGlues M_imagePieces M_imageWarmth M_imageSheet M_imageDraw) t.heap) A) (lv := [(0, .ref aM), (1, .int p1)]) (by decide) rfl (Nat.le_of_ble_eq_true rfl) rfl ?_
  intro p e s m args below meth c A Z hx hb hr hlocks hts hown hml hE hK hA hZ
  have hown : s.vm.findClass RX8 = some m.cls := hown
  have k_0 := hts (.fieldLink RX8 181 "GrowingTilesModel" "brought" "Z") (List.mem_of_getElem? (i := 18) (by decide +kernel))
  have k_1 := hts (.fieldLink RX8 26 "GrowingTilesModel" "sheet" "[I") (List.mem_of_getElem? (i := 15) (by decide +kernel))
  have k_2 := hts (.fieldLink RX8 50 "GrowingTilesModel" "imageSheet" "[I") (List.mem_of_getElem? (i := 16) (by decide +kernel))
  have k_3 := hts (.fieldLink RX8 29 "GrowingTilesModel" "since" "[I") (List.mem_of_getElem? (i := 17) (by decide +kernel))
  have k_4 := hts (.fieldLink RX8 19 "GrowingTilesModel" "glues" "[I") (List.mem_of_getElem? (i := 7) (by decide +kernel))
  have k_5 := hts (.fieldLink RX8 41 "GrowingTilesModel" "imageGlues" "[I") (List.mem_of_getElem? (i := 8) (by decide +kernel))
  have k_6 := hts (.fieldLink RX8 44 "GrowingTilesModel" "imagePieces" "[I") (List.mem_of_getElem? (i := 9) (by decide +kernel))
  have k_7 := hts (.fieldLink RX8 92 "GrowingTilesModel" "pieces" "I") (List.mem_of_getElem? (i := 10) (by decide +kernel))
  have k_8 := hts (.fieldLink RX8 47 "GrowingTilesModel" "imageWarmth" "[I") (List.mem_of_getElem? (i := 11) (by decide +kernel))
  have k_9 := hts (.fieldLink RX8 22 "GrowingTilesModel" "warmth" "I") (List.mem_of_getElem? (i := 12) (by decide +kernel))
  have k_10 := hts (.fieldLink RX8 53 "GrowingTilesModel" "imageDraw" "[J") (List.mem_of_getElem? (i := 13) (by decide +kernel))
  have k_11 := hts (.fieldLink RX8 198 "GrowingTilesModel" "draw" "J") (List.mem_of_getElem? (i := 14) (by decide +kernel))
  have k_12 := hts (.fieldLink RX8 13 "GrowingTilesModel" "kind" "[I") (List.mem_of_getElem? (i := 3) (by decide +kernel))
  have k_13 := hts (.fieldLink RX8 35 "GrowingTilesModel" "imageKind" "[I") (List.mem_of_getElem? (i := 4) (by decide +kernel))
  have k_14 := hts (.fieldLink RX8 16 "GrowingTilesModel" "more" "[I") (List.mem_of_getElem? (i := 5) (by decide +kernel))
  have k_15 := hts (.fieldLink RX8 38 "GrowingTilesModel" "imageMore" "[I") (List.mem_of_getElem? (i := 6) (by decide +kernel))
  have k_16 := hts (.fieldLink RX8 7 "GrowingTilesModel" "strength" "[I") (List.mem_of_getElem? (i := 1) (by decide +kernel))
  have k_17 := hts (.fieldLink RX8 32 "GrowingTilesModel" "imageStrength" "[I") (List.mem_of_getElem? (i := 2) (by decide +kernel))
  have b_216 : ∀ (M_strength : Nat → Int32) (M_kind : Nat → Int32) (M_more : Nat → Int32) (M_glues : Nat → Int32) (M_pieces : Int32) (M_warmth : Int32) (M_draw : Int64) (M_sheet : Nat → Int32) (M_since : Nat → Int32) (M_steps : Int32) (M_undoable : Int32) (M_brought : Int32) (y1 : Int32), wq_X8_back_216 M_imageStrength M_imageKind M_imageMore M_imageGlues M_imagePieces M_imageWarmth M_imageSheet M_imageDraw Q M_strength M_kind M_more M_glues M_pieces M_warmth M_draw M_sheet M_since M_steps M_undoable M_brought y1 → ∀ (H : Heap) (locs : List Loc), va_P D vwCl (w_X8_back cI cJ cZ cO aM aM_strength aM_kind aM_more aM_glues aM_sheet aM_since aM_imageStrength aM_imageKind aM_imageMore aM_imageGlues aM_imagePieces aM_imageWarmth aM_imageSheet aM_imageDraw aM_stepWhat aM_stepPiece aM_stepPlace aM_stepSince aM_tape aM_shapes aM_pile aM_met aM_next aM_inputs aM_then M_pieces M_warmth M_draw M_steps M_undoable M_brought M_taped M_shapeMany M_ended M_cut M_mostPieces M_walks M_walked M_strength M_kind M_more M_glues M_sheet M_since M_imageStrength M_imageKind M_imageMore M_imageGlues M_imagePieces M_imageWarmth M_imageSheet M_imageDraw) H → va_D A (w_X8_back cI cJ cZ cO aM aM_strength aM_kind aM_more aM_glues aM_sheet aM_since aM_imageStrength aM_imageKind aM_imageMore aM_imageGlues aM_imagePieces aM_imageWarmth aM_imageSheet aM_imageDraw aM_stepWhat aM_stepPiece aM_stepPlace aM_stepSince aM_tape aM_shapes aM_pile aM_met aM_next aM_inputs aM_then M_pieces M_warmth M_draw M_steps M_undoable M_brought M_taped M_shapeMany M_ended M_cut M_mostPieces M_walks M_walked M_strength M_kind M_more M_glues M_sheet M_since M_imageStrength M_imageKind M_imageMore M_imageGlues M_imagePieces M_imageWarmth M_imageSheet M_imageDraw) → va_S A s.heap H locs → ∀ ls : Array Slot, lv_has ls 4 [] → W p l e rm_X8_back s m args below meth c H locs 0 0 Z (F0 m 216 ls [.int y1, .ref aM]) := by
    intro M_strength M_kind M_more M_glues M_pieces M_warmth M_draw M_sheet M_since M_steps M_undoable M_brought y1 hw H locs hP hD hS ls hl
    unfold wq_X8_back_216 at hw
    have h216 := hw.1
    have hw := hw.2
    refine va_put (D := D) (ci := 8) (v := .int y1) (ty := .boolean) (C := RX8) (T := TX8) (N := 38) hx hb hts in_X8_back_X8 tyX8 tyX8_ok nmX8 hown hK hP hD hS 0 rfl rfl 23 (by decide) k_0 (fun _ h9 => h9) rfl (tyX8_ok 23 (by decide)) (cx_bool h216).1 (cx_bool h216).2 (Nat.le_of_ble_eq_true rfl) dX8_back_216 (fun H locs hP hD hS => ?_)
    have hP : va_P D vwCl (w_X8_back cI cJ cZ cO aM aM_strength aM_kind aM_more aM_glues aM_sheet aM_since aM_imageStrength aM_imageKind aM_imageMore aM_imageGlues aM_imagePieces aM_imageWarmth aM_imageSheet aM_imageDraw aM_stepWhat aM_stepPiece aM_stepPlace aM_stepSince aM_tape aM_shapes aM_pile aM_met aM_next aM_inputs aM_then M_pieces M_warmth M_draw M_steps M_undoable y1 M_taped M_shapeMany M_ended M_cut M_mostPieces M_walks M_walked M_strength M_kind M_more M_glues M_sheet M_since M_imageStrength M_imageKind M_imageMore M_imageGlues M_imagePieces M_imageWarmth M_imageSheet M_imageDraw) H := hP
    have hD : va_D A (w_X8_back cI cJ cZ cO aM aM_strength aM_kind aM_more aM_glues aM_sheet aM_since aM_imageStrength aM_imageKind aM_imageMore aM_imageGlues aM_imagePieces aM_imageWarmth aM_imageSheet aM_imageDraw aM_stepWhat aM_stepPiece aM_stepPlace aM_stepSince aM_tape aM_shapes aM_pile aM_met aM_next aM_inputs aM_then M_pieces M_warmth M_draw M_steps M_undoable y1 M_taped M_shapeMany M_ended M_cut M_mostPieces M_walks M_walked M_strength M_kind M_more M_glues M_sheet M_since M_imageStrength M_imageKind M_imageMore M_imageGlues M_imagePieces M_imageWarmth M_imageSheet M_imageDraw) := hD
    refine lv_iconst (v := (1 : Int32)) hx hb dX8_back_219 kI_1 ?_
    rw [hZ]
    exact cx_retz (M_strength, M_kind, M_more, M_glues, M_pieces, M_warmth, M_draw, M_sheet, M_since, M_steps, M_undoable, y1) hx hb hr hlocks rfl hw hP hS dX8_back_220
  have b_161 : ∀ n_161 : Nat, ∀ (M_strength : Nat → Int32) (M_kind : Nat → Int32) (M_more : Nat → Int32) (M_glues : Nat → Int32) (M_pieces : Int32) (M_warmth : Int32) (M_draw : Int64) (M_sheet : Nat → Int32) (M_since : Nat → Int32) (M_steps : Int32) (M_undoable : Int32) (M_brought : Int32) (x1 : Int32) (x2 : Int32), wq_X8_back_161 M_imageStrength M_imageKind M_imageMore M_imageGlues M_imagePieces M_imageWarmth M_imageSheet M_imageDraw Q n_161 M_strength M_kind M_more M_glues M_pieces M_warmth M_draw M_sheet M_since M_steps M_undoable M_brought x1 x2 → ∀ (H : Heap) (locs : List Loc), va_P D vwCl (w_X8_back cI cJ cZ cO aM aM_strength aM_kind aM_more aM_glues aM_sheet aM_since aM_imageStrength aM_imageKind aM_imageMore aM_imageGlues aM_imagePieces aM_imageWarmth aM_imageSheet aM_imageDraw aM_stepWhat aM_stepPiece aM_stepPlace aM_stepSince aM_tape aM_shapes aM_pile aM_met aM_next aM_inputs aM_then M_pieces M_warmth M_draw M_steps M_undoable M_brought M_taped M_shapeMany M_ended M_cut M_mostPieces M_walks M_walked M_strength M_kind M_more M_glues M_sheet M_since M_imageStrength M_imageKind M_imageMore M_imageGlues M_imagePieces M_imageWarmth M_imageSheet M_imageDraw) H → va_D A (w_X8_back cI cJ cZ cO aM aM_strength aM_kind aM_more aM_glues aM_sheet aM_since aM_imageStrength aM_imageKind aM_imageMore aM_imageGlues aM_imagePieces aM_imageWarmth aM_imageSheet aM_imageDraw aM_stepWhat aM_stepPiece aM_stepPlace aM_stepSince aM_tape aM_shapes aM_pile aM_met aM_next aM_inputs aM_then M_pieces M_warmth M_draw M_steps M_undoable M_brought M_taped M_shapeMany M_ended M_cut M_mostPieces M_walks M_walked M_strength M_kind M_more M_glues M_sheet M_since M_imageStrength M_imageKind M_imageMore M_imageGlues M_imagePieces M_imageWarmth M_imageSheet M_imageDraw) → va_S A s.heap H locs → ∀ ls : Array Slot, lv_has ls 4 [(0, .ref aM), (1, .int x1), (2, .int x2)] → W p l e rm_X8_back s m args below meth c H locs 0 0 Z (F0 m 161 ls []) := by
    intro n_161
    induction n_161 with
    | zero => intro M_strength M_kind M_more M_glues M_pieces M_warmth M_draw M_sheet M_since M_steps M_undoable M_brought x1 x2 hw; exact False.elim hw
    | succ n_161 ih_161 =>
      intro M_strength M_kind M_more M_glues M_pieces M_warmth M_draw M_sheet M_since M_steps M_undoable M_brought x1 x2 hw H locs hP hD hS ls hl
      have hw : wf_X8_back_161 M_imageStrength M_imageKind M_imageMore M_imageGlues M_imagePieces M_imageWarmth M_imageSheet M_imageDraw Q (wq_X8_back_161 M_imageStrength M_imageKind M_imageMore M_imageGlues M_imagePieces M_imageWarmth M_imageSheet M_imageDraw Q n_161) M_strength M_kind M_more M_glues M_pieces M_warmth M_draw M_sheet M_since M_steps M_undoable M_brought x1 x2 := hw
      unfold wf_X8_back_161 at hw
      refine lv_iload_n hx hb dX8_back_161 rfl (lv_at hl 2 rfl) ?_
      refine lv_sipush (v := (256 : Int32)) hx hb dX8_back_162 kS_256 ?_
      refine lv_icmp_ge (tgt := 199) hx hb dX8_back_165 (by decide) (fun c165 => ?_) (fun c165 => ?_)
      · have hw := hw.1 c165
        refine lv_aload_n hx hb dX8_back_199 rfl (lv_at hl 0 rfl) ?_
        refine cx_gov (va_runV (As := []) (rest := []) ⟨hx, hb, hml, hown, hts⟩ (c_X8_noSteps l D cI cJ cZ cO tS tT H.size aM aM_strength aM_kind aM_more aM_glues aM_sheet aM_since aM_imageStrength aM_imageKind aM_imageMore aM_imageGlues aM_imagePieces aM_imageWarmth aM_imageSheet aM_imageDraw aM_stepWhat aM_stepPiece aM_stepPlace aM_stepSince aM_tape aM_shapes aM_pile aM_met aM_next aM_inputs aM_then M_pieces M_warmth M_draw M_steps M_undoable M_brought M_taped M_shapeMany M_ended M_cut M_mostPieces M_walks M_walked _ hw) (cwV 0 hts gX8_back_X8_noSteps rfl rfl rfl pv_X8_noSteps ⟨Nat.le_of_ble_eq_true rfl, Nat.le_of_ble_eq_true rfl⟩) (cx_preV (wc := w_X8_noSteps cI cJ cZ cO aM aM_strength aM_kind aM_more aM_glues aM_sheet aM_since aM_imageStrength aM_imageKind aM_imageMore aM_imageGlues aM_imagePieces aM_imageWarmth aM_imageSheet aM_imageDraw aM_stepWhat aM_stepPiece aM_stepPlace aM_stepSince aM_tape aM_shapes aM_pile aM_met aM_next aM_inputs aM_then M_pieces M_warmth M_draw M_steps M_undoable M_brought M_taped M_shapeMany M_ended M_cut M_mostPieces M_walks M_walked) hE hK hP hD hS hA [0] rfl rfl (va_recv hK hP (ci := 8) (q0 := 0) rfl rfl)) rfl rfl hl.1 rfl (lv_room (Nat.le_of_ble_eq_true rfl)) dX8_back_200 ⟨Nat.le_of_ble_eq_true rfl, Nat.le_of_ble_eq_true rfl⟩) (fun (u : (Int32) × (Int32)) => (w_X8_back cI cJ cZ cO aM aM_strength aM_kind aM_more aM_glues aM_sheet aM_since aM_imageStrength aM_imageKind aM_imageMore aM_imageGlues aM_imagePieces aM_imageWarmth aM_imageSheet aM_imageDraw aM_stepWhat aM_stepPiece aM_stepPlace aM_stepSince aM_tape aM_shapes aM_pile aM_met aM_next aM_inputs aM_then M_pieces M_warmth M_draw u.1 u.2 M_brought M_taped M_shapeMany M_ended M_cut M_mostPieces M_walks M_walked M_strength M_kind M_more M_glues M_sheet M_since M_imageStrength M_imageKind M_imageMore M_imageGlues M_imagePieces M_imageWarmth M_imageSheet M_imageDraw)) [0] [1, 2, 3, 4, 5, 6, 7, 8, 9, 10, 11, 12, 13, 14] (ads := [aM]) (wr := [(aM_strength, .inl (cI, 51, .inl M_strength)), (aM_kind, .inl (cI, 40, .inl M_kind)), (aM_more, .inl (cI, 40, .inl M_more)), (aM_glues, .inl (cI, 160, .inl M_glues)), (aM_sheet, .inl (cI, 256, .inl M_sheet)), (aM_since, .inl (cI, 256, .inl M_since)), (aM_imageStrength, .inl (cI, 153, .inl M_imageStrength)), (aM_imageKind, .inl (cI, 120, .inl M_imageKind)), (aM_imageMore, .inl (cI, 120, .inl M_imageMore)), (aM_imageGlues, .inl (cI, 480, .inl M_imageGlues)), (aM_imagePieces, .inl (cI, 3, .inl M_imagePieces)), (aM_imageWarmth, .inl (cI, 3, .inl M_imageWarmth)), (aM_imageSheet, .inl (cI, 768, .inl M_imageSheet)), (aM_imageDraw, .inl (cJ, 3, .inr (.inl M_imageDraw)))]) rfl rfl (fun u => rfl) (fun u => rfl) rfl (fun u => rfl) rfl (fun u => rfl) rfl hP hD hS hA (fun u H locs hw hP hD hS => ?_)
        obtain ⟨M_steps_200, M_undoable_200⟩ := u
        try dsimp only at hw
        have hP : va_P D vwCl (w_X8_back cI cJ cZ cO aM aM_strength aM_kind aM_more aM_glues aM_sheet aM_since aM_imageStrength aM_imageKind aM_imageMore aM_imageGlues aM_imagePieces aM_imageWarmth aM_imageSheet aM_imageDraw aM_stepWhat aM_stepPiece aM_stepPlace aM_stepSince aM_tape aM_shapes aM_pile aM_met aM_next aM_inputs aM_then M_pieces M_warmth M_draw M_steps_200 M_undoable_200 M_brought M_taped M_shapeMany M_ended M_cut M_mostPieces M_walks M_walked M_strength M_kind M_more M_glues M_sheet M_since M_imageStrength M_imageKind M_imageMore M_imageGlues M_imagePieces M_imageWarmth M_imageSheet M_imageDraw) H := hP
        have hD : va_D A (w_X8_back cI cJ cZ cO aM aM_strength aM_kind aM_more aM_glues aM_sheet aM_since aM_imageStrength aM_imageKind aM_imageMore aM_imageGlues aM_imagePieces aM_imageWarmth aM_imageSheet aM_imageDraw aM_stepWhat aM_stepPiece aM_stepPlace aM_stepSince aM_tape aM_shapes aM_pile aM_met aM_next aM_inputs aM_then M_pieces M_warmth M_draw M_steps_200 M_undoable_200 M_brought M_taped M_shapeMany M_ended M_cut M_mostPieces M_walks M_walked M_strength M_kind M_more M_glues M_sheet M_since M_imageStrength M_imageKind M_imageMore M_imageGlues M_imagePieces M_imageWarmth M_imageSheet M_imageDraw) := hD
        refine lv_aload_n hx hb dX8_back_203 rfl (lv_at hl 0 rfl) ?_
        refine lv_aload_n hx hb dX8_back_204 rfl (lv_at hl 0 rfl) ?_
        refine cx_goi (va_runV (As := []) (rest := [.ref aM]) ⟨hx, hb, hml, hown, hts⟩ (c_X8_isClear l D cI cJ cZ cO tS tT H.size aM aM_strength aM_kind aM_more aM_glues aM_sheet aM_since aM_imageStrength aM_imageKind aM_imageMore aM_imageGlues aM_imagePieces aM_imageWarmth aM_imageSheet aM_imageDraw aM_stepWhat aM_stepPiece aM_stepPlace aM_stepSince aM_tape aM_shapes aM_pile aM_met aM_next aM_inputs aM_then M_pieces M_warmth M_draw M_steps_200 M_undoable_200 M_brought M_taped M_shapeMany M_ended M_cut M_mostPieces M_walks M_walked M_sheet _ hw) (cwV 0 hts gX8_back_X8_isClear rfl rfl rfl pv_X8_isClear ⟨Nat.le_of_ble_eq_true rfl, Nat.le_of_ble_eq_true rfl⟩) (cx_preV (wc := w_X8_isClear cI cJ cZ cO aM aM_strength aM_kind aM_more aM_glues aM_sheet aM_since aM_imageStrength aM_imageKind aM_imageMore aM_imageGlues aM_imagePieces aM_imageWarmth aM_imageSheet aM_imageDraw aM_stepWhat aM_stepPiece aM_stepPlace aM_stepSince aM_tape aM_shapes aM_pile aM_met aM_next aM_inputs aM_then M_pieces M_warmth M_draw M_steps_200 M_undoable_200 M_brought M_taped M_shapeMany M_ended M_cut M_mostPieces M_walks M_walked M_sheet) hE hK hP hD hS hA [0, 5] rfl rfl (va_recv hK hP (ci := 8) (q0 := 0) rfl rfl)) rfl rfl hl.1 rfl (lv_room (Nat.le_of_ble_eq_true rfl)) dX8_back_205 ⟨Nat.le_of_ble_eq_true rfl, Nat.le_of_ble_eq_true rfl⟩) (fun (_ : Unit) => (w_X8_back cI cJ cZ cO aM aM_strength aM_kind aM_more aM_glues aM_sheet aM_since aM_imageStrength aM_imageKind aM_imageMore aM_imageGlues aM_imagePieces aM_imageWarmth aM_imageSheet aM_imageDraw aM_stepWhat aM_stepPiece aM_stepPlace aM_stepSince aM_tape aM_shapes aM_pile aM_met aM_next aM_inputs aM_then M_pieces M_warmth M_draw M_steps_200 M_undoable_200 M_brought M_taped M_shapeMany M_ended M_cut M_mostPieces M_walks M_walked M_strength M_kind M_more M_glues M_sheet M_since M_imageStrength M_imageKind M_imageMore M_imageGlues M_imagePieces M_imageWarmth M_imageSheet M_imageDraw)) [0, 5] [1, 2, 3, 4, 6, 7, 8, 9, 10, 11, 12, 13, 14] (ads := [aM, aM_sheet]) (wr := [(aM_strength, .inl (cI, 51, .inl M_strength)), (aM_kind, .inl (cI, 40, .inl M_kind)), (aM_more, .inl (cI, 40, .inl M_more)), (aM_glues, .inl (cI, 160, .inl M_glues)), (aM_since, .inl (cI, 256, .inl M_since)), (aM_imageStrength, .inl (cI, 153, .inl M_imageStrength)), (aM_imageKind, .inl (cI, 120, .inl M_imageKind)), (aM_imageMore, .inl (cI, 120, .inl M_imageMore)), (aM_imageGlues, .inl (cI, 480, .inl M_imageGlues)), (aM_imagePieces, .inl (cI, 3, .inl M_imagePieces)), (aM_imageWarmth, .inl (cI, 3, .inl M_imageWarmth)), (aM_imageSheet, .inl (cI, 768, .inl M_imageSheet)), (aM_imageDraw, .inl (cJ, 3, .inr (.inl M_imageDraw)))]) rfl rfl (fun u => rfl) (fun u => rfl) rfl (fun u => rfl) rfl (fun u => rfl) rfl hP hD hS hA (fun r205 u H locs hw hP hD hS => ?_)
        have hP : va_P D vwCl (w_X8_back cI cJ cZ cO aM aM_strength aM_kind aM_more aM_glues aM_sheet aM_since aM_imageStrength aM_imageKind aM_imageMore aM_imageGlues aM_imagePieces aM_imageWarmth aM_imageSheet aM_imageDraw aM_stepWhat aM_stepPiece aM_stepPlace aM_stepSince aM_tape aM_shapes aM_pile aM_met aM_next aM_inputs aM_then M_pieces M_warmth M_draw M_steps_200 M_undoable_200 M_brought M_taped M_shapeMany M_ended M_cut M_mostPieces M_walks M_walked M_strength M_kind M_more M_glues M_sheet M_since M_imageStrength M_imageKind M_imageMore M_imageGlues M_imagePieces M_imageWarmth M_imageSheet M_imageDraw) H := hP
        have hD : va_D A (w_X8_back cI cJ cZ cO aM aM_strength aM_kind aM_more aM_glues aM_sheet aM_since aM_imageStrength aM_imageKind aM_imageMore aM_imageGlues aM_imagePieces aM_imageWarmth aM_imageSheet aM_imageDraw aM_stepWhat aM_stepPiece aM_stepPlace aM_stepSince aM_tape aM_shapes aM_pile aM_met aM_next aM_inputs aM_then M_pieces M_warmth M_draw M_steps_200 M_undoable_200 M_brought M_taped M_shapeMany M_ended M_cut M_mostPieces M_walks M_walked M_strength M_kind M_more M_glues M_sheet M_since M_imageStrength M_imageKind M_imageMore M_imageGlues M_imagePieces M_imageWarmth M_imageSheet M_imageDraw) := hD
        refine lv_if_ne (tgt := 215) hx hb dX8_back_208 (by decide) (fun c208 => ?_) (fun c208 => ?_)
        · have hw := hw.1 c208
          refine lv_iconst (v := (0 : Int32)) hx hb dX8_back_215 kI_0 ?_
          exact b_216 M_strength M_kind M_more M_glues M_pieces M_warmth M_draw M_sheet M_since M_steps_200 M_undoable_200 M_brought (0 : Int32) hw H locs hP hD hS ls (lv_sub hl [] rfl)
        · have hw := hw.2 c208
          refine lv_iconst (v := (1 : Int32)) hx hb dX8_back_211 kI_1 ?_
          refine lv_goto (tgt := 216) hx hb dX8_back_212 (by decide) ?_
          exact b_216 M_strength M_kind M_more M_glues M_pieces M_warmth M_draw M_sheet M_since M_steps_200 M_undoable_200 M_brought (1 : Int32) hw H locs hP hD hS ls (lv_sub hl [] rfl)
      · have hw := hw.2 c165
        refine lv_aload_n hx hb dX8_back_168 rfl (lv_at hl 0 rfl) ?_
        refine va_get (D := D) (ci := 8) (v := .ref aM_sheet) (C := RX8) (T := TX8) (N := 38) hx hb hts in_X8_back_X8 hown hK hP 0 rfl rfl 7 (by decide) k_1 (fun _ h9 => h9) rfl dX8_back_169 ?_
        refine lv_iload_n hx hb dX8_back_172 rfl (lv_at hl 2 rfl) ?_
        refine lv_aload_n hx hb dX8_back_173 rfl (lv_at hl 0 rfl) ?_
        refine va_get (D := D) (ci := 8) (v := .ref aM_imageSheet) (C := RX8) (T := TX8) (N := 38) hx hb hts in_X8_back_X8 hown hK hP 0 rfl rfl 15 (by decide) k_2 (fun _ h9 => h9) rfl dX8_back_174 ?_
        refine lv_sipush (v := (256 : Int32)) hx hb dX8_back_177 kS_256 ?_
        refine lv_iload_n hx hb dX8_back_180 rfl (lv_at hl 1 rfl) ?_
        refine lv_imul hx hb dX8_back_181 ?_
        refine lv_iload_n hx hb dX8_back_182 rfl (lv_at hl 2 rfl) ?_
        refine lv_iadd hx hb dX8_back_183 ?_
        have h184 := hw.1
        have hw := hw.2
        refine va_iald hx hb hK hP 13 0 rfl rfl h184 dX8_back_184 ?_
        refine lv_topi (fun v184 e184 => ?_)
        have hw := hw v184 e184
        have h185 := hw.1
        have hw := hw.2
        refine va_iast hx hb hK hP hD hS 5 0 rfl rfl h185 dX8_back_185 (fun H locs hP hD hS => ?_)
        have hP : va_P D vwCl (w_X8_back cI cJ cZ cO aM aM_strength aM_kind aM_more aM_glues aM_sheet aM_since aM_imageStrength aM_imageKind aM_imageMore aM_imageGlues aM_imagePieces aM_imageWarmth aM_imageSheet aM_imageDraw aM_stepWhat aM_stepPiece aM_stepPlace aM_stepSince aM_tape aM_shapes aM_pile aM_met aM_next aM_inputs aM_then M_pieces M_warmth M_draw M_steps M_undoable M_brought M_taped M_shapeMany M_ended M_cut M_mostPieces M_walks M_walked M_strength M_kind M_more M_glues (upd M_sheet x2.toNatClampNeg v184) M_since M_imageStrength M_imageKind M_imageMore M_imageGlues M_imagePieces M_imageWarmth M_imageSheet M_imageDraw) H := hP
        have hD : va_D A (w_X8_back cI cJ cZ cO aM aM_strength aM_kind aM_more aM_glues aM_sheet aM_since aM_imageStrength aM_imageKind aM_imageMore aM_imageGlues aM_imagePieces aM_imageWarmth aM_imageSheet aM_imageDraw aM_stepWhat aM_stepPiece aM_stepPlace aM_stepSince aM_tape aM_shapes aM_pile aM_met aM_next aM_inputs aM_then M_pieces M_warmth M_draw M_steps M_undoable M_brought M_taped M_shapeMany M_ended M_cut M_mostPieces M_walks M_walked M_strength M_kind M_more M_glues (upd M_sheet x2.toNatClampNeg v184) M_since M_imageStrength M_imageKind M_imageMore M_imageGlues M_imagePieces M_imageWarmth M_imageSheet M_imageDraw) := hD
        obtain ⟨M_sheet_185, e185⟩ : ∃ y : Nat → Int32, y = upd M_sheet x2.toNatClampNeg v184 := ⟨_, rfl⟩
        rw [← e185] at hP hD
        have hw := hw M_sheet_185 e185
        refine lv_aload_n hx hb dX8_back_186 rfl (lv_at hl 0 rfl) ?_
        refine va_get (D := D) (ci := 8) (v := .ref aM_since) (C := RX8) (T := TX8) (N := 38) hx hb hts in_X8_back_X8 hown hK hP 0 rfl rfl 8 (by decide) k_3 (fun _ h9 => h9) rfl dX8_back_187 ?_
        refine lv_iload_n hx hb dX8_back_190 rfl (lv_at hl 2 rfl) ?_
        refine lv_iconst (v := (-1 : Int32)) hx hb dX8_back_191 kI_m1 ?_
        have h192 := hw.1
        have hw := hw.2
        refine va_iast hx hb hK hP hD hS 6 0 rfl rfl h192 dX8_back_192 (fun H locs hP hD hS => ?_)
        have hP : va_P D vwCl (w_X8_back cI cJ cZ cO aM aM_strength aM_kind aM_more aM_glues aM_sheet aM_since aM_imageStrength aM_imageKind aM_imageMore aM_imageGlues aM_imagePieces aM_imageWarmth aM_imageSheet aM_imageDraw aM_stepWhat aM_stepPiece aM_stepPlace aM_stepSince aM_tape aM_shapes aM_pile aM_met aM_next aM_inputs aM_then M_pieces M_warmth M_draw M_steps M_undoable M_brought M_taped M_shapeMany M_ended M_cut M_mostPieces M_walks M_walked M_strength M_kind M_more M_glues M_sheet_185 (upd M_since x2.toNatClampNeg (-1 : Int32)) M_imageStrength M_imageKind M_imageMore M_imageGlues M_imagePieces M_imageWarmth M_imageSheet M_imageDraw) H := hP
        have hD : va_D A (w_X8_back cI cJ cZ cO aM aM_strength aM_kind aM_more aM_glues aM_sheet aM_since aM_imageStrength aM_imageKind aM_imageMore aM_imageGlues aM_imagePieces aM_imageWarmth aM_imageSheet aM_imageDraw aM_stepWhat aM_stepPiece aM_stepPlace aM_stepSince aM_tape aM_shapes aM_pile aM_met aM_next aM_inputs aM_then M_pieces M_warmth M_draw M_steps M_undoable M_brought M_taped M_shapeMany M_ended M_cut M_mostPieces M_walks M_walked M_strength M_kind M_more M_glues M_sheet_185 (upd M_since x2.toNatClampNeg (-1 : Int32)) M_imageStrength M_imageKind M_imageMore M_imageGlues M_imagePieces M_imageWarmth M_imageSheet M_imageDraw) := hD
        obtain ⟨M_since_192, e192⟩ : ∃ y : Nat → Int32, y = upd M_since x2.toNatClampNeg (-1 : Int32) := ⟨_, rfl⟩
        rw [← e192] at hP hD
        have hw := hw M_since_192 e192
        obtain ⟨v193, e193⟩ : ∃ y : Int32, y = x2 + (1 : Int32) := ⟨_, rfl⟩
        have hw := hw v193 e193
        refine lv_iinc (v := v193) (lv' := [(2, .int v193), (0, .ref aM), (1, .int x1)]) hx hb dX8_back_193 hl (k := 2) rfl (by rw [e193, kI_1]) (by decide) rfl (fun ls hl => ?_)
        refine lv_goto (tgt := 161) hx hb dX8_back_196 (by decide) ?_
        exact ih_161 M_strength M_kind M_more M_glues M_pieces M_warmth M_draw M_sheet_185 M_since_192 M_steps M_undoable M_brought x1 v193 hw H locs hP hD hS ls (lv_sub hl [1, 2, 0] rfl)
  have b_44 : ∀ n_44 : Nat, ∀ (M_strength : Nat → Int32) (M_kind : Nat → Int32) (M_more : Nat → Int32) (M_glues : Nat → Int32) (M_pieces : Int32) (M_warmth : Int32) (M_draw : Int64) (M_sheet : Nat → Int32) (M_since : Nat → Int32) (M_steps : Int32) (M_undoable : Int32) (M_brought : Int32) (x1 : Int32) (x2 : Int32), wq_X8_back_44 M_imageStrength M_imageKind M_imageMore M_imageGlues M_imagePieces M_imageWarmth M_imageSheet M_imageDraw Q n_44 M_strength M_kind M_more M_glues M_pieces M_warmth M_draw M_sheet M_since M_steps M_undoable M_brought x1 x2 → ∀ (H : Heap) (locs : List Loc), va_P D vwCl (w_X8_back cI cJ cZ cO aM aM_strength aM_kind aM_more aM_glues aM_sheet aM_since aM_imageStrength aM_imageKind aM_imageMore aM_imageGlues aM_imagePieces aM_imageWarmth aM_imageSheet aM_imageDraw aM_stepWhat aM_stepPiece aM_stepPlace aM_stepSince aM_tape aM_shapes aM_pile aM_met aM_next aM_inputs aM_then M_pieces M_warmth M_draw M_steps M_undoable M_brought M_taped M_shapeMany M_ended M_cut M_mostPieces M_walks M_walked M_strength M_kind M_more M_glues M_sheet M_since M_imageStrength M_imageKind M_imageMore M_imageGlues M_imagePieces M_imageWarmth M_imageSheet M_imageDraw) H → va_D A (w_X8_back cI cJ cZ cO aM aM_strength aM_kind aM_more aM_glues aM_sheet aM_since aM_imageStrength aM_imageKind aM_imageMore aM_imageGlues aM_imagePieces aM_imageWarmth aM_imageSheet aM_imageDraw aM_stepWhat aM_stepPiece aM_stepPlace aM_stepSince aM_tape aM_shapes aM_pile aM_met aM_next aM_inputs aM_then M_pieces M_warmth M_draw M_steps M_undoable M_brought M_taped M_shapeMany M_ended M_cut M_mostPieces M_walks M_walked M_strength M_kind M_more M_glues M_sheet M_since M_imageStrength M_imageKind M_imageMore M_imageGlues M_imagePieces M_imageWarmth M_imageSheet M_imageDraw) → va_S A s.heap H locs → ∀ ls : Array Slot, lv_has ls 4 [(0, .ref aM), (1, .int x1), (2, .int x2)] → W p l e rm_X8_back s m args below meth c H locs 0 0 Z (F0 m 44 ls []) := by
    intro n_44
    induction n_44 with
    | zero => intro M_strength M_kind M_more M_glues M_pieces M_warmth M_draw M_sheet M_since M_steps M_undoable M_brought x1 x2 hw; exact False.elim hw
    | succ n_44 ih_44 =>
      have b_86 : ∀ n_86 : Nat, ∀ (M_strength : Nat → Int32) (M_kind : Nat → Int32) (M_more : Nat → Int32) (M_glues : Nat → Int32) (M_pieces : Int32) (M_warmth : Int32) (M_draw : Int64) (M_sheet : Nat → Int32) (M_since : Nat → Int32) (M_steps : Int32) (M_undoable : Int32) (M_brought : Int32) (x1 : Int32) (x2 : Int32) (x3 : Int32), wq_X8_back_86 M_imageStrength M_imageKind M_imageMore M_imageGlues M_imagePieces M_imageWarmth M_imageSheet M_imageDraw (wq_X8_back_44 M_imageStrength M_imageKind M_imageMore M_imageGlues M_imagePieces M_imageWarmth M_imageSheet M_imageDraw Q n_44) Q n_86 M_strength M_kind M_more M_glues M_pieces M_warmth M_draw M_sheet M_since M_steps M_undoable M_brought x1 x2 x3 → ∀ (H : Heap) (locs : List Loc), va_P D vwCl (w_X8_back cI cJ cZ cO aM aM_strength aM_kind aM_more aM_glues aM_sheet aM_since aM_imageStrength aM_imageKind aM_imageMore aM_imageGlues aM_imagePieces aM_imageWarmth aM_imageSheet aM_imageDraw aM_stepWhat aM_stepPiece aM_stepPlace aM_stepSince aM_tape aM_shapes aM_pile aM_met aM_next aM_inputs aM_then M_pieces M_warmth M_draw M_steps M_undoable M_brought M_taped M_shapeMany M_ended M_cut M_mostPieces M_walks M_walked M_strength M_kind M_more M_glues M_sheet M_since M_imageStrength M_imageKind M_imageMore M_imageGlues M_imagePieces M_imageWarmth M_imageSheet M_imageDraw) H → va_D A (w_X8_back cI cJ cZ cO aM aM_strength aM_kind aM_more aM_glues aM_sheet aM_since aM_imageStrength aM_imageKind aM_imageMore aM_imageGlues aM_imagePieces aM_imageWarmth aM_imageSheet aM_imageDraw aM_stepWhat aM_stepPiece aM_stepPlace aM_stepSince aM_tape aM_shapes aM_pile aM_met aM_next aM_inputs aM_then M_pieces M_warmth M_draw M_steps M_undoable M_brought M_taped M_shapeMany M_ended M_cut M_mostPieces M_walks M_walked M_strength M_kind M_more M_glues M_sheet M_since M_imageStrength M_imageKind M_imageMore M_imageGlues M_imagePieces M_imageWarmth M_imageSheet M_imageDraw) → va_S A s.heap H locs → ∀ ls : Array Slot, lv_has ls 4 [(0, .ref aM), (1, .int x1), (2, .int x2), (3, .int x3)] → W p l e rm_X8_back s m args below meth c H locs 0 0 Z (F0 m 86 ls []) := by
        intro n_86
        induction n_86 with
        | zero => intro M_strength M_kind M_more M_glues M_pieces M_warmth M_draw M_sheet M_since M_steps M_undoable M_brought x1 x2 x3 hw; exact False.elim hw
        | succ n_86 ih_86 =>
          intro M_strength M_kind M_more M_glues M_pieces M_warmth M_draw M_sheet M_since M_steps M_undoable M_brought x1 x2 x3 hw H locs hP hD hS ls hl
          have hw : wf_X8_back_86 M_imageStrength M_imageKind M_imageMore M_imageGlues M_imagePieces M_imageWarmth M_imageSheet M_imageDraw (wq_X8_back_44 M_imageStrength M_imageKind M_imageMore M_imageGlues M_imagePieces M_imageWarmth M_imageSheet M_imageDraw Q n_44) Q (wq_X8_back_86 M_imageStrength M_imageKind M_imageMore M_imageGlues M_imagePieces M_imageWarmth M_imageSheet M_imageDraw (wq_X8_back_44 M_imageStrength M_imageKind M_imageMore M_imageGlues M_imagePieces M_imageWarmth M_imageSheet M_imageDraw Q n_44) Q n_86) M_strength M_kind M_more M_glues M_pieces M_warmth M_draw M_sheet M_since M_steps M_undoable M_brought x1 x2 x3 := hw
          unfold wf_X8_back_86 at hw
          refine lv_iload_n hx hb dX8_back_86 rfl (lv_at hl 3 rfl) ?_
          refine lv_iconst (v := (4 : Int32)) hx hb dX8_back_87 kI_4 ?_
          refine lv_icmp_ge (tgt := 123) hx hb dX8_back_88 (by decide) (fun c88 => ?_) (fun c88 => ?_)
          · have hw := hw.1 c88
            obtain ⟨v123, e123⟩ : ∃ y : Int32, y = x2 + (1 : Int32) := ⟨_, rfl⟩
            have hw := hw v123 e123
            refine lv_iinc (v := v123) (lv' := [(2, .int v123), (0, .ref aM), (1, .int x1), (3, .int x3)]) hx hb dX8_back_123 hl (k := 2) rfl (by rw [e123, kI_1]) (by decide) rfl (fun ls hl => ?_)
            refine lv_goto (tgt := 44) hx hb dX8_back_126 (by decide) ?_
            exact ih_44 M_strength M_kind M_more M_glues M_pieces M_warmth M_draw M_sheet M_since M_steps M_undoable M_brought x1 v123 hw H locs hP hD hS ls (lv_sub hl [1, 2, 0] rfl)
          · have hw := hw.2 c88
            refine lv_aload_n hx hb dX8_back_91 rfl (lv_at hl 0 rfl) ?_
            refine va_get (D := D) (ci := 8) (v := .ref aM_glues) (C := RX8) (T := TX8) (N := 38) hx hb hts in_X8_back_X8 hown hK hP 0 rfl rfl 3 (by decide) k_4 (fun _ h9 => h9) rfl dX8_back_92 ?_
            refine lv_iconst (v := (4 : Int32)) hx hb dX8_back_95 kI_4 ?_
            refine lv_iload_n hx hb dX8_back_96 rfl (lv_at hl 2 rfl) ?_
            refine lv_imul hx hb dX8_back_97 ?_
            refine lv_iload_n hx hb dX8_back_98 rfl (lv_at hl 3 rfl) ?_
            refine lv_iadd hx hb dX8_back_99 ?_
            refine lv_aload_n hx hb dX8_back_100 rfl (lv_at hl 0 rfl) ?_
            refine va_get (D := D) (ci := 8) (v := .ref aM_imageGlues) (C := RX8) (T := TX8) (N := 38) hx hb hts in_X8_back_X8 hown hK hP 0 rfl rfl 12 (by decide) k_5 (fun _ h9 => h9) rfl dX8_back_101 ?_
            refine lv_sipush (v := (160 : Int32)) hx hb dX8_back_104 kS_160 ?_
            refine lv_iload_n hx hb dX8_back_107 rfl (lv_at hl 1 rfl) ?_
            refine lv_imul hx hb dX8_back_108 ?_
            refine lv_iconst (v := (4 : Int32)) hx hb dX8_back_109 kI_4 ?_
            refine lv_iload_n hx hb dX8_back_110 rfl (lv_at hl 2 rfl) ?_
            refine lv_imul hx hb dX8_back_111 ?_
            refine lv_iadd hx hb dX8_back_112 ?_
            refine lv_iload_n hx hb dX8_back_113 rfl (lv_at hl 3 rfl) ?_
            refine lv_iadd hx hb dX8_back_114 ?_
            have h115 := hw.1
            have hw := hw.2
            refine va_iald hx hb hK hP 10 0 rfl rfl h115 dX8_back_115 ?_
            refine lv_topi (fun v115 e115 => ?_)
            have hw := hw v115 e115
            have h116 := hw.1
            have hw := hw.2
            refine va_iast hx hb hK hP hD hS 4 0 rfl rfl h116 dX8_back_116 (fun H locs hP hD hS => ?_)
            have hP : va_P D vwCl (w_X8_back cI cJ cZ cO aM aM_strength aM_kind aM_more aM_glues aM_sheet aM_since aM_imageStrength aM_imageKind aM_imageMore aM_imageGlues aM_imagePieces aM_imageWarmth aM_imageSheet aM_imageDraw aM_stepWhat aM_stepPiece aM_stepPlace aM_stepSince aM_tape aM_shapes aM_pile aM_met aM_next aM_inputs aM_then M_pieces M_warmth M_draw M_steps M_undoable M_brought M_taped M_shapeMany M_ended M_cut M_mostPieces M_walks M_walked M_strength M_kind M_more (upd M_glues (((4 : Int32) * x2) + x3).toNatClampNeg v115) M_sheet M_since M_imageStrength M_imageKind M_imageMore M_imageGlues M_imagePieces M_imageWarmth M_imageSheet M_imageDraw) H := hP
            have hD : va_D A (w_X8_back cI cJ cZ cO aM aM_strength aM_kind aM_more aM_glues aM_sheet aM_since aM_imageStrength aM_imageKind aM_imageMore aM_imageGlues aM_imagePieces aM_imageWarmth aM_imageSheet aM_imageDraw aM_stepWhat aM_stepPiece aM_stepPlace aM_stepSince aM_tape aM_shapes aM_pile aM_met aM_next aM_inputs aM_then M_pieces M_warmth M_draw M_steps M_undoable M_brought M_taped M_shapeMany M_ended M_cut M_mostPieces M_walks M_walked M_strength M_kind M_more (upd M_glues (((4 : Int32) * x2) + x3).toNatClampNeg v115) M_sheet M_since M_imageStrength M_imageKind M_imageMore M_imageGlues M_imagePieces M_imageWarmth M_imageSheet M_imageDraw) := hD
            obtain ⟨M_glues_116, e116⟩ : ∃ y : Nat → Int32, y = upd M_glues (((4 : Int32) * x2) + x3).toNatClampNeg v115 := ⟨_, rfl⟩
            rw [← e116] at hP hD
            have hw := hw M_glues_116 e116
            obtain ⟨v117, e117⟩ : ∃ y : Int32, y = x3 + (1 : Int32) := ⟨_, rfl⟩
            have hw := hw v117 e117
            refine lv_iinc (v := v117) (lv' := [(3, .int v117), (0, .ref aM), (1, .int x1), (2, .int x2)]) hx hb dX8_back_117 hl (k := 3) rfl (by rw [e117, kI_1]) (by decide) rfl (fun ls hl => ?_)
            refine lv_goto (tgt := 86) hx hb dX8_back_120 (by decide) ?_
            exact ih_86 M_strength M_kind M_more M_glues_116 M_pieces M_warmth M_draw M_sheet M_since M_steps M_undoable M_brought x1 x2 v117 hw H locs hP hD hS ls (lv_sub hl [1, 2, 3, 0] rfl)
      intro M_strength M_kind M_more M_glues M_pieces M_warmth M_draw M_sheet M_since M_steps M_undoable M_brought x1 x2 hw H locs hP hD hS ls hl
      have hw : wf_X8_back_44 M_imageStrength M_imageKind M_imageMore M_imageGlues M_imagePieces M_imageWarmth M_imageSheet M_imageDraw Q (wq_X8_back_44 M_imageStrength M_imageKind M_imageMore M_imageGlues M_imagePieces M_imageWarmth M_imageSheet M_imageDraw Q n_44) M_strength M_kind M_more M_glues M_pieces M_warmth M_draw M_sheet M_since M_steps M_undoable M_brought x1 x2 := hw
      unfold wf_X8_back_44 at hw
      refine lv_iload_n hx hb dX8_back_44 rfl (lv_at hl 2 rfl) ?_
      refine lv_bipush (v := (40 : Int32)) hx hb dX8_back_45 kB_40 ?_
      refine lv_icmp_ge (tgt := 129) hx hb dX8_back_47 (by decide) (fun c47 => ?_) (fun c47 => ?_)
      · have hw := hw.1 c47
        refine lv_aload_n hx hb dX8_back_129 rfl (lv_at hl 0 rfl) ?_
        refine lv_aload_n hx hb dX8_back_130 rfl (lv_at hl 0 rfl) ?_
        refine va_get (D := D) (ci := 8) (v := .ref aM_imagePieces) (C := RX8) (T := TX8) (N := 38) hx hb hts in_X8_back_X8 hown hK hP 0 rfl rfl 13 (by decide) k_6 (fun _ h9 => h9) rfl dX8_back_131 ?_
        refine lv_iload_n hx hb dX8_back_134 rfl (lv_at hl 1 rfl) ?_
        have h135 := hw.1
        have hw := hw.2
        refine va_iald hx hb hK hP 11 0 rfl rfl h135 dX8_back_135 ?_
        refine lv_topi (fun v135 e135 => ?_)
        have hw := hw v135 e135
        refine va_put (D := D) (ci := 8) (v := .int v135) (ty := .int) (C := RX8) (T := TX8) (N := 38) hx hb hts in_X8_back_X8 tyX8 tyX8_ok nmX8 hown hK hP hD hS 0 rfl rfl 4 (by decide) k_7 (fun _ h9 => h9) rfl (tyX8_ok 4 (by decide)) rfl rfl (Nat.le_of_ble_eq_true rfl) dX8_back_136 (fun H locs hP hD hS => ?_)
        have hP : va_P D vwCl (w_X8_back cI cJ cZ cO aM aM_strength aM_kind aM_more aM_glues aM_sheet aM_since aM_imageStrength aM_imageKind aM_imageMore aM_imageGlues aM_imagePieces aM_imageWarmth aM_imageSheet aM_imageDraw aM_stepWhat aM_stepPiece aM_stepPlace aM_stepSince aM_tape aM_shapes aM_pile aM_met aM_next aM_inputs aM_then v135 M_warmth M_draw M_steps M_undoable M_brought M_taped M_shapeMany M_ended M_cut M_mostPieces M_walks M_walked M_strength M_kind M_more M_glues M_sheet M_since M_imageStrength M_imageKind M_imageMore M_imageGlues M_imagePieces M_imageWarmth M_imageSheet M_imageDraw) H := hP
        have hD : va_D A (w_X8_back cI cJ cZ cO aM aM_strength aM_kind aM_more aM_glues aM_sheet aM_since aM_imageStrength aM_imageKind aM_imageMore aM_imageGlues aM_imagePieces aM_imageWarmth aM_imageSheet aM_imageDraw aM_stepWhat aM_stepPiece aM_stepPlace aM_stepSince aM_tape aM_shapes aM_pile aM_met aM_next aM_inputs aM_then v135 M_warmth M_draw M_steps M_undoable M_brought M_taped M_shapeMany M_ended M_cut M_mostPieces M_walks M_walked M_strength M_kind M_more M_glues M_sheet M_since M_imageStrength M_imageKind M_imageMore M_imageGlues M_imagePieces M_imageWarmth M_imageSheet M_imageDraw) := hD
        refine lv_aload_n hx hb dX8_back_139 rfl (lv_at hl 0 rfl) ?_
        refine lv_aload_n hx hb dX8_back_140 rfl (lv_at hl 0 rfl) ?_
        refine va_get (D := D) (ci := 8) (v := .ref aM_imageWarmth) (C := RX8) (T := TX8) (N := 38) hx hb hts in_X8_back_X8 hown hK hP 0 rfl rfl 14 (by decide) k_8 (fun _ h9 => h9) rfl dX8_back_141 ?_
        refine lv_iload_n hx hb dX8_back_144 rfl (lv_at hl 1 rfl) ?_
        have h145 := hw.1
        have hw := hw.2
        refine va_iald hx hb hK hP 12 0 rfl rfl h145 dX8_back_145 ?_
        refine lv_topi (fun v145 e145 => ?_)
        have hw := hw v145 e145
        refine va_put (D := D) (ci := 8) (v := .int v145) (ty := .int) (C := RX8) (T := TX8) (N := 38) hx hb hts in_X8_back_X8 tyX8 tyX8_ok nmX8 hown hK hP hD hS 0 rfl rfl 5 (by decide) k_9 (fun _ h9 => h9) rfl (tyX8_ok 5 (by decide)) rfl rfl (Nat.le_of_ble_eq_true rfl) dX8_back_146 (fun H locs hP hD hS => ?_)
        have hP : va_P D vwCl (w_X8_back cI cJ cZ cO aM aM_strength aM_kind aM_more aM_glues aM_sheet aM_since aM_imageStrength aM_imageKind aM_imageMore aM_imageGlues aM_imagePieces aM_imageWarmth aM_imageSheet aM_imageDraw aM_stepWhat aM_stepPiece aM_stepPlace aM_stepSince aM_tape aM_shapes aM_pile aM_met aM_next aM_inputs aM_then v135 v145 M_draw M_steps M_undoable M_brought M_taped M_shapeMany M_ended M_cut M_mostPieces M_walks M_walked M_strength M_kind M_more M_glues M_sheet M_since M_imageStrength M_imageKind M_imageMore M_imageGlues M_imagePieces M_imageWarmth M_imageSheet M_imageDraw) H := hP
        have hD : va_D A (w_X8_back cI cJ cZ cO aM aM_strength aM_kind aM_more aM_glues aM_sheet aM_since aM_imageStrength aM_imageKind aM_imageMore aM_imageGlues aM_imagePieces aM_imageWarmth aM_imageSheet aM_imageDraw aM_stepWhat aM_stepPiece aM_stepPlace aM_stepSince aM_tape aM_shapes aM_pile aM_met aM_next aM_inputs aM_then v135 v145 M_draw M_steps M_undoable M_brought M_taped M_shapeMany M_ended M_cut M_mostPieces M_walks M_walked M_strength M_kind M_more M_glues M_sheet M_since M_imageStrength M_imageKind M_imageMore M_imageGlues M_imagePieces M_imageWarmth M_imageSheet M_imageDraw) := hD
        refine lv_aload_n hx hb dX8_back_149 rfl (lv_at hl 0 rfl) ?_
        refine lv_aload_n hx hb dX8_back_150 rfl (lv_at hl 0 rfl) ?_
        refine va_get (D := D) (ci := 8) (v := .ref aM_imageDraw) (C := RX8) (T := TX8) (N := 38) hx hb hts in_X8_back_X8 hown hK hP 0 rfl rfl 16 (by decide) k_10 (fun _ h9 => h9) rfl dX8_back_151 ?_
        refine lv_iload_n hx hb dX8_back_154 rfl (lv_at hl 1 rfl) ?_
        have h155 := hw.1
        have hw := hw.2
        refine va_lald hx hb hK hP 14 1 rfl rfl h155 dX8_back_155 ?_
        refine lv_topl (fun v155 e155 => ?_)
        have hw := hw v155 e155
        refine va_put (D := D) (ci := 8) (v := .long v155) (ty := .long) (C := RX8) (T := TX8) (N := 38) hx hb hts in_X8_back_X8 tyX8 tyX8_ok nmX8 hown hK hP hD hS 0 rfl rfl 6 (by decide) k_11 (fun _ h9 => h9) rfl (tyX8_ok 6 (by decide)) rfl rfl (Nat.le_of_ble_eq_true rfl) dX8_back_156 (fun H locs hP hD hS => ?_)
        have hP : va_P D vwCl (w_X8_back cI cJ cZ cO aM aM_strength aM_kind aM_more aM_glues aM_sheet aM_since aM_imageStrength aM_imageKind aM_imageMore aM_imageGlues aM_imagePieces aM_imageWarmth aM_imageSheet aM_imageDraw aM_stepWhat aM_stepPiece aM_stepPlace aM_stepSince aM_tape aM_shapes aM_pile aM_met aM_next aM_inputs aM_then v135 v145 v155 M_steps M_undoable M_brought M_taped M_shapeMany M_ended M_cut M_mostPieces M_walks M_walked M_strength M_kind M_more M_glues M_sheet M_since M_imageStrength M_imageKind M_imageMore M_imageGlues M_imagePieces M_imageWarmth M_imageSheet M_imageDraw) H := hP
        have hD : va_D A (w_X8_back cI cJ cZ cO aM aM_strength aM_kind aM_more aM_glues aM_sheet aM_since aM_imageStrength aM_imageKind aM_imageMore aM_imageGlues aM_imagePieces aM_imageWarmth aM_imageSheet aM_imageDraw aM_stepWhat aM_stepPiece aM_stepPlace aM_stepSince aM_tape aM_shapes aM_pile aM_met aM_next aM_inputs aM_then v135 v145 v155 M_steps M_undoable M_brought M_taped M_shapeMany M_ended M_cut M_mostPieces M_walks M_walked M_strength M_kind M_more M_glues M_sheet M_since M_imageStrength M_imageKind M_imageMore M_imageGlues M_imagePieces M_imageWarmth M_imageSheet M_imageDraw) := hD
        refine lv_iconst (v := (0 : Int32)) hx hb dX8_back_159 kI_0 ?_
        refine lv_istore_n (lv' := [(2, .int (0 : Int32)), (0, .ref aM), (1, .int x1)]) hx hb dX8_back_160 rfl hl (by decide) rfl (fun ls hl => ?_)
        obtain ⟨k, hw⟩ := hw
        exact b_161 k M_strength M_kind M_more M_glues v135 v145 v155 M_sheet M_since M_steps M_undoable M_brought x1 (0 : Int32) hw H locs hP hD hS ls (lv_sub hl [1, 2, 0] rfl)
      · have hw := hw.2 c47
        refine lv_aload_n hx hb dX8_back_50 rfl (lv_at hl 0 rfl) ?_
        refine va_get (D := D) (ci := 8) (v := .ref aM_kind) (C := RX8) (T := TX8) (N := 38) hx hb hts in_X8_back_X8 hown hK hP 0 rfl rfl 1 (by decide) k_12 (fun _ h9 => h9) rfl dX8_back_51 ?_
        refine lv_iload_n hx hb dX8_back_54 rfl (lv_at hl 2 rfl) ?_
        refine lv_aload_n hx hb dX8_back_55 rfl (lv_at hl 0 rfl) ?_
        refine va_get (D := D) (ci := 8) (v := .ref aM_imageKind) (C := RX8) (T := TX8) (N := 38) hx hb hts in_X8_back_X8 hown hK hP 0 rfl rfl 10 (by decide) k_13 (fun _ h9 => h9) rfl dX8_back_56 ?_
        refine lv_bipush (v := (40 : Int32)) hx hb dX8_back_59 kB_40 ?_
        refine lv_iload_n hx hb dX8_back_61 rfl (lv_at hl 1 rfl) ?_
        refine lv_imul hx hb dX8_back_62 ?_
        refine lv_iload_n hx hb dX8_back_63 rfl (lv_at hl 2 rfl) ?_
        refine lv_iadd hx hb dX8_back_64 ?_
        have h65 := hw.1
        have hw := hw.2
        refine va_iald hx hb hK hP 8 0 rfl rfl h65 dX8_back_65 ?_
        refine lv_topi (fun v65 e65 => ?_)
        have hw := hw v65 e65
        have h66 := hw.1
        have hw := hw.2
        refine va_iast hx hb hK hP hD hS 2 0 rfl rfl h66 dX8_back_66 (fun H locs hP hD hS => ?_)
        have hP : va_P D vwCl (w_X8_back cI cJ cZ cO aM aM_strength aM_kind aM_more aM_glues aM_sheet aM_since aM_imageStrength aM_imageKind aM_imageMore aM_imageGlues aM_imagePieces aM_imageWarmth aM_imageSheet aM_imageDraw aM_stepWhat aM_stepPiece aM_stepPlace aM_stepSince aM_tape aM_shapes aM_pile aM_met aM_next aM_inputs aM_then M_pieces M_warmth M_draw M_steps M_undoable M_brought M_taped M_shapeMany M_ended M_cut M_mostPieces M_walks M_walked M_strength (upd M_kind x2.toNatClampNeg v65) M_more M_glues M_sheet M_since M_imageStrength M_imageKind M_imageMore M_imageGlues M_imagePieces M_imageWarmth M_imageSheet M_imageDraw) H := hP
        have hD : va_D A (w_X8_back cI cJ cZ cO aM aM_strength aM_kind aM_more aM_glues aM_sheet aM_since aM_imageStrength aM_imageKind aM_imageMore aM_imageGlues aM_imagePieces aM_imageWarmth aM_imageSheet aM_imageDraw aM_stepWhat aM_stepPiece aM_stepPlace aM_stepSince aM_tape aM_shapes aM_pile aM_met aM_next aM_inputs aM_then M_pieces M_warmth M_draw M_steps M_undoable M_brought M_taped M_shapeMany M_ended M_cut M_mostPieces M_walks M_walked M_strength (upd M_kind x2.toNatClampNeg v65) M_more M_glues M_sheet M_since M_imageStrength M_imageKind M_imageMore M_imageGlues M_imagePieces M_imageWarmth M_imageSheet M_imageDraw) := hD
        obtain ⟨M_kind_66, e66⟩ : ∃ y : Nat → Int32, y = upd M_kind x2.toNatClampNeg v65 := ⟨_, rfl⟩
        rw [← e66] at hP hD
        have hw := hw M_kind_66 e66
        refine lv_aload_n hx hb dX8_back_67 rfl (lv_at hl 0 rfl) ?_
        refine va_get (D := D) (ci := 8) (v := .ref aM_more) (C := RX8) (T := TX8) (N := 38) hx hb hts in_X8_back_X8 hown hK hP 0 rfl rfl 2 (by decide) k_14 (fun _ h9 => h9) rfl dX8_back_68 ?_
        refine lv_iload_n hx hb dX8_back_71 rfl (lv_at hl 2 rfl) ?_
        refine lv_aload_n hx hb dX8_back_72 rfl (lv_at hl 0 rfl) ?_
        refine va_get (D := D) (ci := 8) (v := .ref aM_imageMore) (C := RX8) (T := TX8) (N := 38) hx hb hts in_X8_back_X8 hown hK hP 0 rfl rfl 11 (by decide) k_15 (fun _ h9 => h9) rfl dX8_back_73 ?_
        refine lv_bipush (v := (40 : Int32)) hx hb dX8_back_76 kB_40 ?_
        refine lv_iload_n hx hb dX8_back_78 rfl (lv_at hl 1 rfl) ?_
        refine lv_imul hx hb dX8_back_79 ?_
        refine lv_iload_n hx hb dX8_back_80 rfl (lv_at hl 2 rfl) ?_
        refine lv_iadd hx hb dX8_back_81 ?_
        have h82 := hw.1
        have hw := hw.2
        refine va_iald hx hb hK hP 9 0 rfl rfl h82 dX8_back_82 ?_
        refine lv_topi (fun v82 e82 => ?_)
        have hw := hw v82 e82
        have h83 := hw.1
        have hw := hw.2
        refine va_iast hx hb hK hP hD hS 3 0 rfl rfl h83 dX8_back_83 (fun H locs hP hD hS => ?_)
        have hP : va_P D vwCl (w_X8_back cI cJ cZ cO aM aM_strength aM_kind aM_more aM_glues aM_sheet aM_since aM_imageStrength aM_imageKind aM_imageMore aM_imageGlues aM_imagePieces aM_imageWarmth aM_imageSheet aM_imageDraw aM_stepWhat aM_stepPiece aM_stepPlace aM_stepSince aM_tape aM_shapes aM_pile aM_met aM_next aM_inputs aM_then M_pieces M_warmth M_draw M_steps M_undoable M_brought M_taped M_shapeMany M_ended M_cut M_mostPieces M_walks M_walked M_strength M_kind_66 (upd M_more x2.toNatClampNeg v82) M_glues M_sheet M_since M_imageStrength M_imageKind M_imageMore M_imageGlues M_imagePieces M_imageWarmth M_imageSheet M_imageDraw) H := hP
        have hD : va_D A (w_X8_back cI cJ cZ cO aM aM_strength aM_kind aM_more aM_glues aM_sheet aM_since aM_imageStrength aM_imageKind aM_imageMore aM_imageGlues aM_imagePieces aM_imageWarmth aM_imageSheet aM_imageDraw aM_stepWhat aM_stepPiece aM_stepPlace aM_stepSince aM_tape aM_shapes aM_pile aM_met aM_next aM_inputs aM_then M_pieces M_warmth M_draw M_steps M_undoable M_brought M_taped M_shapeMany M_ended M_cut M_mostPieces M_walks M_walked M_strength M_kind_66 (upd M_more x2.toNatClampNeg v82) M_glues M_sheet M_since M_imageStrength M_imageKind M_imageMore M_imageGlues M_imagePieces M_imageWarmth M_imageSheet M_imageDraw) := hD
        obtain ⟨M_more_83, e83⟩ : ∃ y : Nat → Int32, y = upd M_more x2.toNatClampNeg v82 := ⟨_, rfl⟩
        rw [← e83] at hP hD
        have hw := hw M_more_83 e83
        refine lv_iconst (v := (0 : Int32)) hx hb dX8_back_84 kI_0 ?_
        refine lv_istore_n (lv' := [(3, .int (0 : Int32)), (0, .ref aM), (1, .int x1), (2, .int x2)]) hx hb dX8_back_85 rfl hl (by decide) rfl (fun ls hl => ?_)
        obtain ⟨k, hw⟩ := hw
        exact b_86 k M_strength M_kind_66 M_more_83 M_glues M_pieces M_warmth M_draw M_sheet M_since M_steps M_undoable M_brought x1 x2 (0 : Int32) hw H locs hP hD hS ls (lv_sub hl [1, 2, 3, 0] rfl)
  have b_13 : ∀ n_13 : Nat, ∀ (M_strength : Nat → Int32) (M_kind : Nat → Int32) (M_more : Nat → Int32) (M_glues : Nat → Int32) (M_pieces : Int32) (M_warmth : Int32) (M_draw : Int64) (M_sheet : Nat → Int32) (M_since : Nat → Int32) (M_steps : Int32) (M_undoable : Int32) (M_brought : Int32) (x1 : Int32) (x2 : Int32), wq_X8_back_13 M_imageStrength M_imageKind M_imageMore M_imageGlues M_imagePieces M_imageWarmth M_imageSheet M_imageDraw Q n_13 M_strength M_kind M_more M_glues M_pieces M_warmth M_draw M_sheet M_since M_steps M_undoable M_brought x1 x2 → ∀ (H : Heap) (locs : List Loc), va_P D vwCl (w_X8_back cI cJ cZ cO aM aM_strength aM_kind aM_more aM_glues aM_sheet aM_since aM_imageStrength aM_imageKind aM_imageMore aM_imageGlues aM_imagePieces aM_imageWarmth aM_imageSheet aM_imageDraw aM_stepWhat aM_stepPiece aM_stepPlace aM_stepSince aM_tape aM_shapes aM_pile aM_met aM_next aM_inputs aM_then M_pieces M_warmth M_draw M_steps M_undoable M_brought M_taped M_shapeMany M_ended M_cut M_mostPieces M_walks M_walked M_strength M_kind M_more M_glues M_sheet M_since M_imageStrength M_imageKind M_imageMore M_imageGlues M_imagePieces M_imageWarmth M_imageSheet M_imageDraw) H → va_D A (w_X8_back cI cJ cZ cO aM aM_strength aM_kind aM_more aM_glues aM_sheet aM_since aM_imageStrength aM_imageKind aM_imageMore aM_imageGlues aM_imagePieces aM_imageWarmth aM_imageSheet aM_imageDraw aM_stepWhat aM_stepPiece aM_stepPlace aM_stepSince aM_tape aM_shapes aM_pile aM_met aM_next aM_inputs aM_then M_pieces M_warmth M_draw M_steps M_undoable M_brought M_taped M_shapeMany M_ended M_cut M_mostPieces M_walks M_walked M_strength M_kind M_more M_glues M_sheet M_since M_imageStrength M_imageKind M_imageMore M_imageGlues M_imagePieces M_imageWarmth M_imageSheet M_imageDraw) → va_S A s.heap H locs → ∀ ls : Array Slot, lv_has ls 4 [(0, .ref aM), (1, .int x1), (2, .int x2)] → W p l e rm_X8_back s m args below meth c H locs 0 0 Z (F0 m 13 ls []) := by
    intro n_13
    induction n_13 with
    | zero => intro M_strength M_kind M_more M_glues M_pieces M_warmth M_draw M_sheet M_since M_steps M_undoable M_brought x1 x2 hw; exact False.elim hw
    | succ n_13 ih_13 =>
      intro M_strength M_kind M_more M_glues M_pieces M_warmth M_draw M_sheet M_since M_steps M_undoable M_brought x1 x2 hw H locs hP hD hS ls hl
      have hw : wf_X8_back_13 M_imageStrength M_imageKind M_imageMore M_imageGlues M_imagePieces M_imageWarmth M_imageSheet M_imageDraw Q (wq_X8_back_13 M_imageStrength M_imageKind M_imageMore M_imageGlues M_imagePieces M_imageWarmth M_imageSheet M_imageDraw Q n_13) M_strength M_kind M_more M_glues M_pieces M_warmth M_draw M_sheet M_since M_steps M_undoable M_brought x1 x2 := hw
      unfold wf_X8_back_13 at hw
      refine lv_iload_n hx hb dX8_back_13 rfl (lv_at hl 2 rfl) ?_
      refine lv_bipush (v := (50 : Int32)) hx hb dX8_back_14 kB_50 ?_
      refine lv_icmp_gt (tgt := 42) hx hb dX8_back_16 (by decide) (fun c16 => ?_) (fun c16 => ?_)
      · have hw := hw.1 c16
        refine lv_iconst (v := (0 : Int32)) hx hb dX8_back_42 kI_0 ?_
        refine lv_istore_n (lv' := [(2, .int (0 : Int32)), (0, .ref aM), (1, .int x1)]) hx hb dX8_back_43 rfl hl (by decide) rfl (fun ls hl => ?_)
        obtain ⟨k, hw⟩ := hw
        exact b_44 k M_strength M_kind M_more M_glues M_pieces M_warmth M_draw M_sheet M_since M_steps M_undoable M_brought x1 (0 : Int32) hw H locs hP hD hS ls (lv_sub hl [1, 2, 0] rfl)
      · have hw := hw.2 c16
        refine lv_aload_n hx hb dX8_back_19 rfl (lv_at hl 0 rfl) ?_
        refine va_get (D := D) (ci := 8) (v := .ref aM_strength) (C := RX8) (T := TX8) (N := 38) hx hb hts in_X8_back_X8 hown hK hP 0 rfl rfl 0 (by decide) k_16 (fun _ h9 => h9) rfl dX8_back_20 ?_
        refine lv_iload_n hx hb dX8_back_23 rfl (lv_at hl 2 rfl) ?_
        refine lv_aload_n hx hb dX8_back_24 rfl (lv_at hl 0 rfl) ?_
        refine va_get (D := D) (ci := 8) (v := .ref aM_imageStrength) (C := RX8) (T := TX8) (N := 38) hx hb hts in_X8_back_X8 hown hK hP 0 rfl rfl 9 (by decide) k_17 (fun _ h9 => h9) rfl dX8_back_25 ?_
        refine lv_bipush (v := (51 : Int32)) hx hb dX8_back_28 kB_51 ?_
        refine lv_iload_n hx hb dX8_back_30 rfl (lv_at hl 1 rfl) ?_
        refine lv_imul hx hb dX8_back_31 ?_
        refine lv_iload_n hx hb dX8_back_32 rfl (lv_at hl 2 rfl) ?_
        refine lv_iadd hx hb dX8_back_33 ?_
        have h34 := hw.1
        have hw := hw.2
        refine va_iald hx hb hK hP 7 0 rfl rfl h34 dX8_back_34 ?_
        refine lv_topi (fun v34 e34 => ?_)
        have hw := hw v34 e34
        have h35 := hw.1
        have hw := hw.2
        refine va_iast hx hb hK hP hD hS 1 0 rfl rfl h35 dX8_back_35 (fun H locs hP hD hS => ?_)
        have hP : va_P D vwCl (w_X8_back cI cJ cZ cO aM aM_strength aM_kind aM_more aM_glues aM_sheet aM_since aM_imageStrength aM_imageKind aM_imageMore aM_imageGlues aM_imagePieces aM_imageWarmth aM_imageSheet aM_imageDraw aM_stepWhat aM_stepPiece aM_stepPlace aM_stepSince aM_tape aM_shapes aM_pile aM_met aM_next aM_inputs aM_then M_pieces M_warmth M_draw M_steps M_undoable M_brought M_taped M_shapeMany M_ended M_cut M_mostPieces M_walks M_walked (upd M_strength x2.toNatClampNeg v34) M_kind M_more M_glues M_sheet M_since M_imageStrength M_imageKind M_imageMore M_imageGlues M_imagePieces M_imageWarmth M_imageSheet M_imageDraw) H := hP
        have hD : va_D A (w_X8_back cI cJ cZ cO aM aM_strength aM_kind aM_more aM_glues aM_sheet aM_since aM_imageStrength aM_imageKind aM_imageMore aM_imageGlues aM_imagePieces aM_imageWarmth aM_imageSheet aM_imageDraw aM_stepWhat aM_stepPiece aM_stepPlace aM_stepSince aM_tape aM_shapes aM_pile aM_met aM_next aM_inputs aM_then M_pieces M_warmth M_draw M_steps M_undoable M_brought M_taped M_shapeMany M_ended M_cut M_mostPieces M_walks M_walked (upd M_strength x2.toNatClampNeg v34) M_kind M_more M_glues M_sheet M_since M_imageStrength M_imageKind M_imageMore M_imageGlues M_imagePieces M_imageWarmth M_imageSheet M_imageDraw) := hD
        obtain ⟨M_strength_35, e35⟩ : ∃ y : Nat → Int32, y = upd M_strength x2.toNatClampNeg v34 := ⟨_, rfl⟩
        rw [← e35] at hP hD
        have hw := hw M_strength_35 e35
        obtain ⟨v36, e36⟩ : ∃ y : Int32, y = x2 + (1 : Int32) := ⟨_, rfl⟩
        have hw := hw v36 e36
        refine lv_iinc (v := v36) (lv' := [(2, .int v36), (0, .ref aM), (1, .int x1)]) hx hb dX8_back_36 hl (k := 2) rfl (by rw [e36, kI_1]) (by decide) rfl (fun ls hl => ?_)
        refine lv_goto (tgt := 13) hx hb dX8_back_39 (by decide) ?_
        exact ih_13 M_strength_35 M_kind M_more M_glues M_pieces M_warmth M_draw M_sheet M_since M_steps M_undoable M_brought x1 v36 hw H locs hP hD hS ls (lv_sub hl [1, 2, 0] rfl)
  intro H locs hP hD hS ls hl
  unfold wp_X8_back at hw
  refine lv_iload_n hx hb dX8_back_0 rfl (lv_at hl 1 rfl) ?_
  refine lv_if_lt (tgt := 9) hx hb dX8_back_1 (by decide) (fun c1 => ?_) (fun c1 => ?_)
  · have hw := hw.1 c1
    refine lv_iconst (v := (0 : Int32)) hx hb dX8_back_9 kI_0 ?_
    rw [hZ]
    exact cx_retz (M_strength, M_kind, M_more, M_glues, M_pieces, M_warmth, M_draw, M_sheet, M_since, M_steps, M_undoable, M_brought) hx hb hr hlocks rfl hw hP hS dX8_back_10
  · have hw := hw.2 c1
    refine lv_iload_n hx hb dX8_back_4 rfl (lv_at hl 1 rfl) ?_
    refine lv_iconst (v := (2 : Int32)) hx hb dX8_back_5 kI_2 ?_
    refine lv_icmp_le (tgt := 11) hx hb dX8_back_6 (by decide) (fun c6 => ?_) (fun c6 => ?_)
    · have hw := hw.1 c6
      refine lv_iconst (v := (0 : Int32)) hx hb dX8_back_11 kI_0 ?_
      refine lv_istore_n (lv' := [(2, .int (0 : Int32)), (0, .ref aM), (1, .int p1)]) hx hb dX8_back_12 rfl hl (by decide) rfl (fun ls hl => ?_)
      obtain ⟨k, hw⟩ := hw
      exact b_13 k M_strength M_kind M_more M_glues M_pieces M_warmth M_draw M_sheet M_since M_steps M_undoable M_brought p1 (0 : Int32) hw H locs hP hD hS ls (lv_sub hl [1, 2, 0] rfl)
    · have hw := hw.2 c6
      refine lv_iconst (v := (0 : Int32)) hx hb dX8_back_9 kI_0 ?_
      rw [hZ]
      exact cx_retz (M_strength, M_kind, M_more, M_glues, M_pieces, M_warmth, M_draw, M_sheet, M_since, M_steps, M_undoable, M_brought) hx hb hr hlocks rfl hw hP hS dX8_back_10
