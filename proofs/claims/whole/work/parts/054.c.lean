set_option maxRecDepth 100000 in
set_option maxHeartbeats 4000000 in
theorem c_X8_hangs (l : Launch) (D : va_G) (cI cJ cZ cO : ClassId) (tS tT : Nat) (sz : Nat) (aM aM_strength aM_kind aM_more aM_glues aM_sheet aM_since aM_imageStrength aM_imageKind aM_imageMore aM_imageGlues aM_imagePieces aM_imageWarmth aM_imageSheet aM_imageDraw aM_stepWhat aM_stepPiece aM_stepPlace aM_stepSince aM_tape aM_shapes aM_pile aM_met aM_next aM_inputs aM_then : Nat) (M_pieces : Int32) (M_warmth : Int32) (M_draw : Int64) (M_steps : Int32) (M_undoable : Int32) (M_brought : Int32) (M_taped : Int32) (M_shapeMany : Int32) (M_ended : Int32) (M_cut : Int32) (M_mostPieces : Int32) (M_walks : Int32) (M_walked : Int32) (M_strength : Nat → Int32) (M_kind : Nat → Int32) (M_more : Nat → Int32) (M_glues : Nat → Int32) (M_sheet : Nat → Int32) (M_pile : Nat → Int32) (M_met : Nat → Int32) (p1 : Int32) (Q : Int32 → (Nat → Int32) → (Nat → Int32) → Prop) (hw : wp_X8_hangs M_strength M_kind M_more M_glues M_sheet M_pile M_met p1 Q) : Met l yX8_hangs wsX8_hangs rm_X8_hangs (va_Pc [.ref aM, .int p1] (cx_B tS tT cI cJ cZ cO D sz (w_X8_hangs cI cJ cZ cO aM aM_strength aM_kind aM_more aM_glues aM_sheet aM_since aM_imageStrength aM_imageKind aM_imageMore aM_imageGlues aM_imagePieces aM_imageWarmth aM_imageSheet aM_imageDraw aM_stepWhat aM_stepPiece aM_stepPlace aM_stepSince aM_tape aM_shapes aM_pile aM_met aM_next aM_inputs aM_then M_pieces M_warmth M_draw M_steps M_undoable M_brought M_taped M_shapeMany M_ended M_cut M_mostPieces M_walks M_walked M_strength M_kind M_more M_glues M_sheet M_pile M_met))) (va_Qi (fun (r : Int32) (u : (Nat → Int32) × (Nat → Int32)) => Q r u.1 u.2) (fun (u : (Nat → Int32) × (Nat → Int32)) t => va_P D vwCl (w_X8_hangs cI cJ cZ cO aM aM_strength aM_kind aM_more aM_glues aM_sheet aM_since aM_imageStrength aM_imageKind aM_imageMore aM_imageGlues aM_imagePieces aM_imageWarmth aM_imageSheet aM_imageDraw aM_stepWhat aM_stepPiece aM_stepPlace aM_stepSince aM_tape aM_shapes aM_pile aM_met aM_next aM_inputs aM_then M_pieces M_warmth M_draw M_steps M_undoable M_brought M_taped M_shapeMany M_ended M_cut M_mostPieces M_walks M_walked M_strength M_kind M_more M_glues M_sheet u.1 u.2) t.heap) (va_A (w_X8_hangs cI cJ cZ cO aM aM_strength aM_kind aM_more aM_glues aM_sheet aM_since aM_imageStrength aM_imageKind aM_imageMore aM_imageGlues aM_imagePieces aM_imageWarmth aM_imageSheet aM_imageDraw aM_stepWhat aM_stepPiece aM_stepPlace aM_stepSince aM_tape aM_shapes aM_pile aM_met aM_next aM_inputs aM_then M_pieces M_warmth M_draw M_steps M_undoable M_brought M_taped M_shapeMany M_ended M_cut M_mostPieces M_walks M_walked M_strength M_kind M_more M_glues M_sheet M_pile M_met) sz)) 0 0 (va_A (w_X8_hangs cI cJ cZ cO aM aM_strength aM_kind aM_more aM_glues aM_sheet aM_since aM_imageStrength aM_imageKind aM_imageMore aM_imageGlues aM_imagePieces aM_imageWarmth aM_imageSheet aM_imageDraw aM_stepWhat aM_stepPiece aM_stepPlace aM_stepSince aM_tape aM_shapes aM_pile aM_met aM_next aM_inputs aM_then M_pieces M_warmth M_draw M_steps M_undoable M_brought M_taped M_shapeMany M_ended M_cut M_mostPieces M_walks M_walked M_strength M_kind M_more M_glues M_sheet M_pile M_met) sz) := by
  refine cx_met (cc := cX8_hangs) (maxL := 13) (ret := (some .boolean)) (Qc := fun A => va_Qi (fun (r : Int32) (u : (Nat → Int32) × (Nat → Int32)) => Q r u.1 u.2) (fun (u : (Nat → Int32) × (Nat → Int32)) t => va_P D vwCl (w_X8_hangs cI cJ cZ cO aM aM_strength aM_kind aM_more aM_glues aM_sheet aM_since aM_imageStrength aM_imageKind aM_imageMore aM_imageGlues aM_imagePieces aM_imageWarmth aM_imageSheet aM_imageDraw aM_stepWhat aM_stepPiece aM_stepPlace aM_stepSince aM_tape aM_shapes aM_pile aM_met aM_next aM_inputs aM_then M_pieces M_warmth M_draw M_steps M_undoable M_brought M_taped M_shapeMany M_ended M_cut M_mostPieces M_walks M_walked M_strength M_kind M_more M_glues M_sheet u.1 u.2) t.heap) A) (lv := [(0, .ref aM), (1, .int p1)]) (by decide) rfl (Nat.le_of_ble_eq_true rfl) rfl ?_
  intro p e s m args below meth c A Z hx hb hr hlocks hts hown hml hE hK hA hZ
  have hown : s.vm.findClass RX8 = some m.cls := hown
  have k_0 := hts (.fieldLink RX8 26 "GrowingTilesModel" "sheet" "[I") (List.mem_of_getElem? (i := 2) (by decide +kernel))
  have k_1 := hts (.fieldLink RX8 79 "GrowingTilesModel" "met" "[Z") (List.mem_of_getElem? (i := 1) (by decide +kernel))
  have k_2 := hts (.fieldLink RX8 76 "GrowingTilesModel" "pile" "[I") (List.mem_of_getElem? (i := 3) (by decide +kernel))
  have k_3 := hts (.fieldLink RX8 13 "GrowingTilesModel" "kind" "[I") (List.mem_of_getElem? (i := 4) (by decide +kernel))
  have b_311 : ∀ n_311 : Nat, ∀ (M_pile : Nat → Int32) (M_met : Nat → Int32) (x1 : Int32) (x4 : Int32) (x5 : Int32), wq_X8_hangs_311 M_strength M_kind M_more M_glues M_sheet Q n_311 M_pile M_met x1 x4 x5 → ∀ (H : Heap) (locs : List Loc), va_P D vwCl (w_X8_hangs cI cJ cZ cO aM aM_strength aM_kind aM_more aM_glues aM_sheet aM_since aM_imageStrength aM_imageKind aM_imageMore aM_imageGlues aM_imagePieces aM_imageWarmth aM_imageSheet aM_imageDraw aM_stepWhat aM_stepPiece aM_stepPlace aM_stepSince aM_tape aM_shapes aM_pile aM_met aM_next aM_inputs aM_then M_pieces M_warmth M_draw M_steps M_undoable M_brought M_taped M_shapeMany M_ended M_cut M_mostPieces M_walks M_walked M_strength M_kind M_more M_glues M_sheet M_pile M_met) H → va_D A (w_X8_hangs cI cJ cZ cO aM aM_strength aM_kind aM_more aM_glues aM_sheet aM_since aM_imageStrength aM_imageKind aM_imageMore aM_imageGlues aM_imagePieces aM_imageWarmth aM_imageSheet aM_imageDraw aM_stepWhat aM_stepPiece aM_stepPlace aM_stepSince aM_tape aM_shapes aM_pile aM_met aM_next aM_inputs aM_then M_pieces M_warmth M_draw M_steps M_undoable M_brought M_taped M_shapeMany M_ended M_cut M_mostPieces M_walks M_walked M_strength M_kind M_more M_glues M_sheet M_pile M_met) → va_S A s.heap H locs → ∀ ls : Array Slot, lv_has ls 13 [(0, .ref aM), (1, .int x1), (4, .int x4), (5, .int x5)] → W p l e rm_X8_hangs s m args below meth c H locs 0 0 Z (F0 m 311 ls []) := by
    intro n_311
    induction n_311 with
    | zero => intro M_pile M_met x1 x4 x5 hw; exact False.elim hw
    | succ n_311 ih_311 =>
      intro M_pile M_met x1 x4 x5 hw H locs hP hD hS ls hl
      have hw : wf_X8_hangs_311 M_strength M_kind M_more M_glues M_sheet Q (wq_X8_hangs_311 M_strength M_kind M_more M_glues M_sheet Q n_311) M_pile M_met x1 x4 x5 := hw
      unfold wf_X8_hangs_311 at hw
      refine lv_iload hx hb dX8_hangs_311 (lv_at hl 3 rfl) ?_
      refine lv_sipush (v := (256 : Int32)) hx hb dX8_hangs_313 kS_256 ?_
      refine lv_icmp_ge (tgt := 363) hx hb dX8_hangs_316 (by decide) (fun c316 => ?_) (fun c316 => ?_)
      · have hw := hw.1 c316
        refine lv_iload hx hb dX8_hangs_363 (lv_at hl 2 rfl) ?_
        rw [hZ]
        exact cx_retz (M_pile, M_met) hx hb hr hlocks (cx_bool hw.1).1 hw.2 hP hS dX8_hangs_365
      · have hw := hw.2 c316
        refine lv_iload hx hb dX8_hangs_319 (lv_at hl 2 rfl) ?_
        refine lv_if_eq (tgt := 363) hx hb dX8_hangs_321 (by decide) (fun c321 => ?_) (fun c321 => ?_)
        · have hw := hw.1 c321
          refine lv_iload hx hb dX8_hangs_363 (lv_at hl 2 rfl) ?_
          rw [hZ]
          exact cx_retz (M_pile, M_met) hx hb hr hlocks (cx_bool hw.1).1 hw.2 hP hS dX8_hangs_365
        · have hw := hw.2 c321
          refine lv_aload_n hx hb dX8_hangs_324 rfl (lv_at hl 0 rfl) ?_
          refine va_get (D := D) (ci := 8) (v := .ref aM_sheet) (C := RX8) (T := TX8) (N := 38) hx hb hts in_X8_hangs_X8 hown hK hP 0 rfl rfl 7 (by decide) k_0 (fun _ h9 => h9) rfl dX8_hangs_325 ?_
          refine lv_iload hx hb dX8_hangs_328 (lv_at hl 3 rfl) ?_
          have h330 := hw.1
          have hw := hw.2
          refine va_iald hx hb hK hP 5 0 rfl rfl h330 dX8_hangs_330 ?_
          refine lv_topi (fun v330 e330 => ?_)
          have hw := hw v330 e330
          refine lv_if_eq (tgt := 350) hx hb dX8_hangs_331 (by decide) (fun c331 => ?_) (fun c331 => ?_)
          · have hw := hw.1 c331
            refine lv_iconst (v := (1 : Int32)) hx hb dX8_hangs_350 kI_1 ?_
            refine lv_goto (tgt := 355) hx hb dX8_hangs_351 (by decide) ?_
            refine lv_istore (lv' := [(4, .int (1 : Int32)), (0, .ref aM), (1, .int x1), (5, .int x5)]) hx hb dX8_hangs_355 hl (by decide) rfl (fun ls hl => ?_)
            obtain ⟨v357, e357⟩ : ∃ y : Int32, y = x5 + (1 : Int32) := ⟨_, rfl⟩
            have hw := hw v357 e357
            refine lv_iinc (v := v357) (lv' := [(5, .int v357), (4, .int (1 : Int32)), (0, .ref aM), (1, .int x1)]) hx hb dX8_hangs_357 hl (k := 3) rfl (by rw [e357, kI_1]) (by decide) rfl (fun ls hl => ?_)
            refine lv_goto (tgt := 311) hx hb dX8_hangs_360 (by decide) ?_
            exact ih_311 M_pile M_met x1 (1 : Int32) v357 hw H locs hP hD hS ls (lv_sub hl [2, 3, 1, 0] rfl)
          · have hw := hw.2 c331
            refine lv_iload hx hb dX8_hangs_334 (lv_at hl 3 rfl) ?_
            refine lv_iload_n hx hb dX8_hangs_336 rfl (lv_at hl 1 rfl) ?_
            refine lv_icmp_eq (tgt := 350) hx hb dX8_hangs_337 (by decide) (fun c337 => ?_) (fun c337 => ?_)
            · have hw := hw.1 c337
              refine lv_iconst (v := (1 : Int32)) hx hb dX8_hangs_350 kI_1 ?_
              refine lv_goto (tgt := 355) hx hb dX8_hangs_351 (by decide) ?_
              refine lv_istore (lv' := [(4, .int (1 : Int32)), (0, .ref aM), (1, .int x1), (5, .int x5)]) hx hb dX8_hangs_355 hl (by decide) rfl (fun ls hl => ?_)
              obtain ⟨v357, e357⟩ : ∃ y : Int32, y = x5 + (1 : Int32) := ⟨_, rfl⟩
              have hw := hw v357 e357
              refine lv_iinc (v := v357) (lv' := [(5, .int v357), (4, .int (1 : Int32)), (0, .ref aM), (1, .int x1)]) hx hb dX8_hangs_357 hl (k := 3) rfl (by rw [e357, kI_1]) (by decide) rfl (fun ls hl => ?_)
              refine lv_goto (tgt := 311) hx hb dX8_hangs_360 (by decide) ?_
              exact ih_311 M_pile M_met x1 (1 : Int32) v357 hw H locs hP hD hS ls (lv_sub hl [2, 3, 1, 0] rfl)
            · have hw := hw.2 c337
              refine lv_aload_n hx hb dX8_hangs_340 rfl (lv_at hl 0 rfl) ?_
              refine va_get (D := D) (ci := 8) (v := .ref aM_met) (C := RX8) (T := TX8) (N := 38) hx hb hts in_X8_hangs_X8 hown hK hP 0 rfl rfl 34 (by decide) k_1 (fun _ h9 => h9) rfl dX8_hangs_341 ?_
              refine lv_iload hx hb dX8_hangs_344 (lv_at hl 3 rfl) ?_
              have h346 := hw.1
              have hw := hw.2
              refine va_zald hx hb hK hP 7 2 rfl rfl h346 dX8_hangs_346 ?_
              refine lv_topi (fun v346 e346 => ?_)
              have hw := hw v346 e346
              refine lv_if_eq (tgt := 354) hx hb dX8_hangs_347 (by decide) (fun c347 => ?_) (fun c347 => ?_)
              · have hw := hw.1 c347
                refine lv_iconst (v := (0 : Int32)) hx hb dX8_hangs_354 kI_0 ?_
                refine lv_istore (lv' := [(4, .int (0 : Int32)), (0, .ref aM), (1, .int x1), (5, .int x5)]) hx hb dX8_hangs_355 hl (by decide) rfl (fun ls hl => ?_)
                obtain ⟨v357, e357⟩ : ∃ y : Int32, y = x5 + (1 : Int32) := ⟨_, rfl⟩
                have hw := hw v357 e357
                refine lv_iinc (v := v357) (lv' := [(5, .int v357), (4, .int (0 : Int32)), (0, .ref aM), (1, .int x1)]) hx hb dX8_hangs_357 hl (k := 3) rfl (by rw [e357, kI_1]) (by decide) rfl (fun ls hl => ?_)
                refine lv_goto (tgt := 311) hx hb dX8_hangs_360 (by decide) ?_
                exact ih_311 M_pile M_met x1 (0 : Int32) v357 hw H locs hP hD hS ls (lv_sub hl [2, 3, 1, 0] rfl)
              · have hw := hw.2 c347
                refine lv_iconst (v := (1 : Int32)) hx hb dX8_hangs_350 kI_1 ?_
                refine lv_goto (tgt := 355) hx hb dX8_hangs_351 (by decide) ?_
                refine lv_istore (lv' := [(4, .int (1 : Int32)), (0, .ref aM), (1, .int x1), (5, .int x5)]) hx hb dX8_hangs_355 hl (by decide) rfl (fun ls hl => ?_)
                obtain ⟨v357, e357⟩ : ∃ y : Int32, y = x5 + (1 : Int32) := ⟨_, rfl⟩
                have hw := hw v357 e357
                refine lv_iinc (v := v357) (lv' := [(5, .int v357), (4, .int (1 : Int32)), (0, .ref aM), (1, .int x1)]) hx hb dX8_hangs_357 hl (k := 3) rfl (by rw [e357, kI_1]) (by decide) rfl (fun ls hl => ?_)
                refine lv_goto (tgt := 311) hx hb dX8_hangs_360 (by decide) ?_
                exact ih_311 M_pile M_met x1 (1 : Int32) v357 hw H locs hP hD hS ls (lv_sub hl [2, 3, 1, 0] rfl)
  have b_69 : ∀ n_69 : Nat, ∀ (M_pile : Nat → Int32) (M_met : Nat → Int32) (x1 : Int32) (x3 : Int32) (x4 : Int32), wq_X8_hangs_69 M_strength M_kind M_more M_glues M_sheet Q n_69 M_pile M_met x1 x3 x4 → ∀ (H : Heap) (locs : List Loc), va_P D vwCl (w_X8_hangs cI cJ cZ cO aM aM_strength aM_kind aM_more aM_glues aM_sheet aM_since aM_imageStrength aM_imageKind aM_imageMore aM_imageGlues aM_imagePieces aM_imageWarmth aM_imageSheet aM_imageDraw aM_stepWhat aM_stepPiece aM_stepPlace aM_stepSince aM_tape aM_shapes aM_pile aM_met aM_next aM_inputs aM_then M_pieces M_warmth M_draw M_steps M_undoable M_brought M_taped M_shapeMany M_ended M_cut M_mostPieces M_walks M_walked M_strength M_kind M_more M_glues M_sheet M_pile M_met) H → va_D A (w_X8_hangs cI cJ cZ cO aM aM_strength aM_kind aM_more aM_glues aM_sheet aM_since aM_imageStrength aM_imageKind aM_imageMore aM_imageGlues aM_imagePieces aM_imageWarmth aM_imageSheet aM_imageDraw aM_stepWhat aM_stepPiece aM_stepPlace aM_stepSince aM_tape aM_shapes aM_pile aM_met aM_next aM_inputs aM_then M_pieces M_warmth M_draw M_steps M_undoable M_brought M_taped M_shapeMany M_ended M_cut M_mostPieces M_walks M_walked M_strength M_kind M_more M_glues M_sheet M_pile M_met) → va_S A s.heap H locs → ∀ ls : Array Slot, lv_has ls 13 [(0, .ref aM), (1, .int x1), (3, .int x3), (4, .int x4)] → W p l e rm_X8_hangs s m args below meth c H locs 0 0 Z (F0 m 69 ls []) := by
    intro n_69
    induction n_69 with
    | zero => intro M_pile M_met x1 x3 x4 hw; exact False.elim hw
    | succ n_69 ih_69 =>
      have b_118 : ∀ n_118 : Nat, ∀ (M_pile : Nat → Int32) (M_met : Nat → Int32) (x1 : Int32) (x3 : Int32) (x4 : Int32) (x5 : Int32) (x6 : Int32) (x7 : Int32) (x8 : Int32), wq_X8_hangs_118 M_strength M_kind M_more M_glues M_sheet (wq_X8_hangs_69 M_strength M_kind M_more M_glues M_sheet Q n_69) Q n_118 M_pile M_met x1 x3 x4 x5 x6 x7 x8 → ∀ (H : Heap) (locs : List Loc), va_P D vwCl (w_X8_hangs cI cJ cZ cO aM aM_strength aM_kind aM_more aM_glues aM_sheet aM_since aM_imageStrength aM_imageKind aM_imageMore aM_imageGlues aM_imagePieces aM_imageWarmth aM_imageSheet aM_imageDraw aM_stepWhat aM_stepPiece aM_stepPlace aM_stepSince aM_tape aM_shapes aM_pile aM_met aM_next aM_inputs aM_then M_pieces M_warmth M_draw M_steps M_undoable M_brought M_taped M_shapeMany M_ended M_cut M_mostPieces M_walks M_walked M_strength M_kind M_more M_glues M_sheet M_pile M_met) H → va_D A (w_X8_hangs cI cJ cZ cO aM aM_strength aM_kind aM_more aM_glues aM_sheet aM_since aM_imageStrength aM_imageKind aM_imageMore aM_imageGlues aM_imagePieces aM_imageWarmth aM_imageSheet aM_imageDraw aM_stepWhat aM_stepPiece aM_stepPlace aM_stepSince aM_tape aM_shapes aM_pile aM_met aM_next aM_inputs aM_then M_pieces M_warmth M_draw M_steps M_undoable M_brought M_taped M_shapeMany M_ended M_cut M_mostPieces M_walks M_walked M_strength M_kind M_more M_glues M_sheet M_pile M_met) → va_S A s.heap H locs → ∀ ls : Array Slot, lv_has ls 13 [(0, .ref aM), (1, .int x1), (3, .int x3), (4, .int x4), (5, .int x5), (6, .int x6), (7, .int x7), (8, .int x8)] → W p l e rm_X8_hangs s m args below meth c H locs 0 0 Z (F0 m 118 ls []) := by
        intro n_118
        induction n_118 with
        | zero => intro M_pile M_met x1 x3 x4 x5 x6 x7 x8 hw; exact False.elim hw
        | succ n_118 ih_118 =>
          have b_274 : ∀ (M_pile : Nat → Int32) (M_met : Nat → Int32) (x1 : Int32) (x3 : Int32) (x4 : Int32) (x5 : Int32) (x6 : Int32) (x7 : Int32) (x8 : Int32) (x11 : Int32), wq_X8_hangs_274 M_strength M_kind M_more M_glues M_sheet (wq_X8_hangs_69 M_strength M_kind M_more M_glues M_sheet Q n_69) (wq_X8_hangs_118 M_strength M_kind M_more M_glues M_sheet (wq_X8_hangs_69 M_strength M_kind M_more M_glues M_sheet Q n_69) Q n_118) Q M_pile M_met x1 x3 x4 x5 x6 x7 x8 x11 → ∀ (H : Heap) (locs : List Loc), va_P D vwCl (w_X8_hangs cI cJ cZ cO aM aM_strength aM_kind aM_more aM_glues aM_sheet aM_since aM_imageStrength aM_imageKind aM_imageMore aM_imageGlues aM_imagePieces aM_imageWarmth aM_imageSheet aM_imageDraw aM_stepWhat aM_stepPiece aM_stepPlace aM_stepSince aM_tape aM_shapes aM_pile aM_met aM_next aM_inputs aM_then M_pieces M_warmth M_draw M_steps M_undoable M_brought M_taped M_shapeMany M_ended M_cut M_mostPieces M_walks M_walked M_strength M_kind M_more M_glues M_sheet M_pile M_met) H → va_D A (w_X8_hangs cI cJ cZ cO aM aM_strength aM_kind aM_more aM_glues aM_sheet aM_since aM_imageStrength aM_imageKind aM_imageMore aM_imageGlues aM_imagePieces aM_imageWarmth aM_imageSheet aM_imageDraw aM_stepWhat aM_stepPiece aM_stepPlace aM_stepSince aM_tape aM_shapes aM_pile aM_met aM_next aM_inputs aM_then M_pieces M_warmth M_draw M_steps M_undoable M_brought M_taped M_shapeMany M_ended M_cut M_mostPieces M_walks M_walked M_strength M_kind M_more M_glues M_sheet M_pile M_met) → va_S A s.heap H locs → ∀ ls : Array Slot, lv_has ls 13 [(0, .ref aM), (1, .int x1), (3, .int x3), (4, .int x4), (5, .int x5), (6, .int x6), (7, .int x7), (8, .int x8), (11, .int x11)] → W p l e rm_X8_hangs s m args below meth c H locs 0 0 Z (F0 m 274 ls []) := by
            intro M_pile M_met x1 x3 x4 x5 x6 x7 x8 x11 hw H locs hP hD hS ls hl
            unfold wq_X8_hangs_274 at hw
            refine lv_aload_n hx hb dX8_hangs_274 rfl (lv_at hl 0 rfl) ?_
            refine va_get (D := D) (ci := 8) (v := .ref aM_met) (C := RX8) (T := TX8) (N := 38) hx hb hts in_X8_hangs_X8 hown hK hP 0 rfl rfl 34 (by decide) k_1 (fun _ h9 => h9) rfl dX8_hangs_275 ?_
            refine lv_iload hx hb dX8_hangs_278 (lv_at hl 8 rfl) ?_
            refine lv_iconst (v := (1 : Int32)) hx hb dX8_hangs_280 kI_1 ?_
            have h281 := hw.1
            have hw := hw.2
            refine va_zast hx hb hK hP hD hS 7 2 rfl rfl h281 dX8_hangs_281 (fun H locs hP hD hS => ?_)
            have hP : va_P D vwCl (w_X8_hangs cI cJ cZ cO aM aM_strength aM_kind aM_more aM_glues aM_sheet aM_since aM_imageStrength aM_imageKind aM_imageMore aM_imageGlues aM_imagePieces aM_imageWarmth aM_imageSheet aM_imageDraw aM_stepWhat aM_stepPiece aM_stepPlace aM_stepSince aM_tape aM_shapes aM_pile aM_met aM_next aM_inputs aM_then M_pieces M_warmth M_draw M_steps M_undoable M_brought M_taped M_shapeMany M_ended M_cut M_mostPieces M_walks M_walked M_strength M_kind M_more M_glues M_sheet M_pile (upd M_met x11.toNatClampNeg (vp_nar .boolean (1 : Int32)))) H := hP
            have hD : va_D A (w_X8_hangs cI cJ cZ cO aM aM_strength aM_kind aM_more aM_glues aM_sheet aM_since aM_imageStrength aM_imageKind aM_imageMore aM_imageGlues aM_imagePieces aM_imageWarmth aM_imageSheet aM_imageDraw aM_stepWhat aM_stepPiece aM_stepPlace aM_stepSince aM_tape aM_shapes aM_pile aM_met aM_next aM_inputs aM_then M_pieces M_warmth M_draw M_steps M_undoable M_brought M_taped M_shapeMany M_ended M_cut M_mostPieces M_walks M_walked M_strength M_kind M_more M_glues M_sheet M_pile (upd M_met x11.toNatClampNeg (vp_nar .boolean (1 : Int32)))) := hD
            obtain ⟨M_met_281, e281⟩ : ∃ y : Nat → Int32, y = upd M_met x11.toNatClampNeg (vp_nar .boolean (1 : Int32)) := ⟨_, rfl⟩
            rw [← e281] at hP hD
            have hw := hw M_met_281 e281
            refine lv_aload_n hx hb dX8_hangs_282 rfl (lv_at hl 0 rfl) ?_
            refine va_get (D := D) (ci := 8) (v := .ref aM_pile) (C := RX8) (T := TX8) (N := 38) hx hb hts in_X8_hangs_X8 hown hK hP 0 rfl rfl 33 (by decide) k_2 (fun _ h9 => h9) rfl dX8_hangs_283 ?_
            refine lv_iload_n hx hb dX8_hangs_286 rfl (lv_at hl 2 rfl) ?_
            refine lv_iload hx hb dX8_hangs_287 (lv_at hl 8 rfl) ?_
            have h289 := hw.1
            have hw := hw.2
            refine va_iast hx hb hK hP hD hS 6 0 rfl rfl h289 dX8_hangs_289 (fun H locs hP hD hS => ?_)
            have hP : va_P D vwCl (w_X8_hangs cI cJ cZ cO aM aM_strength aM_kind aM_more aM_glues aM_sheet aM_since aM_imageStrength aM_imageKind aM_imageMore aM_imageGlues aM_imagePieces aM_imageWarmth aM_imageSheet aM_imageDraw aM_stepWhat aM_stepPiece aM_stepPlace aM_stepSince aM_tape aM_shapes aM_pile aM_met aM_next aM_inputs aM_then M_pieces M_warmth M_draw M_steps M_undoable M_brought M_taped M_shapeMany M_ended M_cut M_mostPieces M_walks M_walked M_strength M_kind M_more M_glues M_sheet (upd M_pile x3.toNatClampNeg x11) M_met_281) H := hP
            have hD : va_D A (w_X8_hangs cI cJ cZ cO aM aM_strength aM_kind aM_more aM_glues aM_sheet aM_since aM_imageStrength aM_imageKind aM_imageMore aM_imageGlues aM_imagePieces aM_imageWarmth aM_imageSheet aM_imageDraw aM_stepWhat aM_stepPiece aM_stepPlace aM_stepSince aM_tape aM_shapes aM_pile aM_met aM_next aM_inputs aM_then M_pieces M_warmth M_draw M_steps M_undoable M_brought M_taped M_shapeMany M_ended M_cut M_mostPieces M_walks M_walked M_strength M_kind M_more M_glues M_sheet (upd M_pile x3.toNatClampNeg x11) M_met_281) := hD
            obtain ⟨M_pile_289, e289⟩ : ∃ y : Nat → Int32, y = upd M_pile x3.toNatClampNeg x11 := ⟨_, rfl⟩
            rw [← e289] at hP hD
            have hw := hw M_pile_289 e289
            obtain ⟨v290, e290⟩ : ∃ y : Int32, y = x3 + (1 : Int32) := ⟨_, rfl⟩
            have hw := hw v290 e290
            refine lv_iinc (v := v290) (lv' := [(3, .int v290), (0, .ref aM), (1, .int x1), (4, .int x4), (5, .int x5), (6, .int x6), (7, .int x7), (8, .int x8), (11, .int x11)]) hx hb dX8_hangs_290 hl (k := 2) rfl (by rw [e290, kI_1]) (by decide) rfl (fun ls hl => ?_)
            obtain ⟨v293, e293⟩ : ∃ y : Int32, y = x8 + (1 : Int32) := ⟨_, rfl⟩
            have hw := hw v293 e293
            refine lv_iinc (v := v293) (lv' := [(8, .int v293), (3, .int v290), (0, .ref aM), (1, .int x1), (4, .int x4), (5, .int x5), (6, .int x6), (7, .int x7), (11, .int x11)]) hx hb dX8_hangs_293 hl (k := 7) rfl (by rw [e293, kI_1]) (by decide) rfl (fun ls hl => ?_)
            refine lv_goto (tgt := 118) hx hb dX8_hangs_296 (by decide) ?_
            exact ih_118 M_pile_289 M_met_281 x1 v290 x4 x5 x6 x7 v293 hw H locs hP hD hS ls (lv_sub hl [2, 3, 1, 4, 5, 6, 7, 0] rfl)
          have b_238 : ∀ (M_pile : Nat → Int32) (M_met : Nat → Int32) (x1 : Int32) (x3 : Int32) (x4 : Int32) (x5 : Int32) (x6 : Int32) (x7 : Int32) (x8 : Int32) (x11 : Int32) (y0 : Int32), wq_X8_hangs_238 M_strength M_kind M_more M_glues M_sheet (wq_X8_hangs_69 M_strength M_kind M_more M_glues M_sheet Q n_69) (wq_X8_hangs_118 M_strength M_kind M_more M_glues M_sheet (wq_X8_hangs_69 M_strength M_kind M_more M_glues M_sheet Q n_69) Q n_118) Q M_pile M_met x1 x3 x4 x5 x6 x7 x8 x11 y0 → ∀ (H : Heap) (locs : List Loc), va_P D vwCl (w_X8_hangs cI cJ cZ cO aM aM_strength aM_kind aM_more aM_glues aM_sheet aM_since aM_imageStrength aM_imageKind aM_imageMore aM_imageGlues aM_imagePieces aM_imageWarmth aM_imageSheet aM_imageDraw aM_stepWhat aM_stepPiece aM_stepPlace aM_stepSince aM_tape aM_shapes aM_pile aM_met aM_next aM_inputs aM_then M_pieces M_warmth M_draw M_steps M_undoable M_brought M_taped M_shapeMany M_ended M_cut M_mostPieces M_walks M_walked M_strength M_kind M_more M_glues M_sheet M_pile M_met) H → va_D A (w_X8_hangs cI cJ cZ cO aM aM_strength aM_kind aM_more aM_glues aM_sheet aM_since aM_imageStrength aM_imageKind aM_imageMore aM_imageGlues aM_imagePieces aM_imageWarmth aM_imageSheet aM_imageDraw aM_stepWhat aM_stepPiece aM_stepPlace aM_stepSince aM_tape aM_shapes aM_pile aM_met aM_next aM_inputs aM_then M_pieces M_warmth M_draw M_steps M_undoable M_brought M_taped M_shapeMany M_ended M_cut M_mostPieces M_walks M_walked M_strength M_kind M_more M_glues M_sheet M_pile M_met) → va_S A s.heap H locs → ∀ ls : Array Slot, lv_has ls 13 [(0, .ref aM), (1, .int x1), (3, .int x3), (4, .int x4), (5, .int x5), (6, .int x6), (7, .int x7), (8, .int x8), (11, .int x11)] → W p l e rm_X8_hangs s m args below meth c H locs 0 0 Z (F0 m 238 ls [.int y0]) := by
            intro M_pile M_met x1 x3 x4 x5 x6 x7 x8 x11 y0 hw H locs hP hD hS ls hl
            unfold wq_X8_hangs_238 at hw
            refine lv_istore (lv' := [(12, .int y0), (0, .ref aM), (1, .int x1), (3, .int x3), (4, .int x4), (5, .int x5), (6, .int x6), (7, .int x7), (8, .int x8), (11, .int x11)]) hx hb dX8_hangs_238 hl (by decide) rfl (fun ls hl => ?_)
            refine lv_iload hx hb dX8_hangs_240 (lv_at hl 0 rfl) ?_
            refine lv_if_ne (tgt := 274) hx hb dX8_hangs_242 (by decide) (fun c242 => ?_) (fun c242 => ?_)
            · have hw := hw.1 c242
              exact b_274 M_pile M_met x1 x3 x4 x5 x6 x7 x8 x11 hw H locs hP hD hS ls (lv_sub hl [1, 2, 3, 4, 5, 6, 7, 8, 9] rfl)
            · have hw := hw.2 c242
              refine lv_aload_n hx hb dX8_hangs_245 rfl (lv_at hl 1 rfl) ?_
              refine lv_aload_n hx hb dX8_hangs_246 rfl (lv_at hl 1 rfl) ?_
              refine va_get (D := D) (ci := 8) (v := .ref aM_sheet) (C := RX8) (T := TX8) (N := 38) hx hb hts in_X8_hangs_X8 hown hK hP 0 rfl rfl 7 (by decide) k_0 (fun _ h9 => h9) rfl dX8_hangs_247 ?_
              refine lv_iconst (v := (0 : Int32)) hx hb dX8_hangs_250 kI_0 ?_
              refine lv_iload hx hb dX8_hangs_251 (lv_at hl 7 rfl) ?_
              refine lv_iconst (v := (2 : Int32)) hx hb dX8_hangs_253 kI_2 ?_
              refine lv_idiv hx hb dX8_hangs_254 (by decide) ?_
              refine lv_iload hx hb dX8_hangs_255 (lv_at hl 7 rfl) ?_
              refine lv_iconst (v := (2 : Int32)) hx hb dX8_hangs_257 kI_2 ?_
              refine lv_irem hx hb dX8_hangs_258 (by decide) ?_
              refine lv_iload hx hb dX8_hangs_259 (lv_at hl 5 rfl) ?_
              refine lv_iload hx hb dX8_hangs_261 (lv_at hl 6 rfl) ?_
              refine lv_iload hx hb dX8_hangs_263 (lv_at hl 8 rfl) ?_
              refine cx_goi (va_runV (As := [.ref aM_sheet, .int (0 : Int32), .int (x7 / (2 : Int32)), .int (x7 - x7 / (2 : Int32) * (2 : Int32)), .int x5, .int x6, .int x8]) (rest := []) ⟨hx, hb, hml, hown, hts⟩ (c_X8_holdAt l D cI cJ cZ cO tS tT H.size aM_sheet aM aM_strength aM_kind aM_more aM_glues aM_sheet aM_since aM_imageStrength aM_imageKind aM_imageMore aM_imageGlues aM_imagePieces aM_imageWarmth aM_imageSheet aM_imageDraw aM_stepWhat aM_stepPiece aM_stepPlace aM_stepSince aM_tape aM_shapes aM_pile aM_met aM_next aM_inputs aM_then 256 M_sheet M_pieces M_warmth M_draw M_steps M_undoable M_brought M_taped M_shapeMany M_ended M_cut M_mostPieces M_walks M_walked M_strength M_kind M_more M_glues (0 : Int32) (x7 / (2 : Int32)) (x7 - x7 / (2 : Int32) * (2 : Int32)) x5 x6 x8 _ hw) (cwV 7 hts gX8_hangs_X8_holdAt rfl rfl rfl pv_X8_holdAt ⟨Nat.le_of_ble_eq_true rfl, Nat.le_of_ble_eq_true rfl⟩) (cx_preV (wc := w_X8_holdAt cI cJ cZ cO aM_sheet aM aM_strength aM_kind aM_more aM_glues aM_sheet aM_since aM_imageStrength aM_imageKind aM_imageMore aM_imageGlues aM_imagePieces aM_imageWarmth aM_imageSheet aM_imageDraw aM_stepWhat aM_stepPiece aM_stepPlace aM_stepSince aM_tape aM_shapes aM_pile aM_met aM_next aM_inputs aM_then 256 M_sheet M_pieces M_warmth M_draw M_steps M_undoable M_brought M_taped M_shapeMany M_ended M_cut M_mostPieces M_walks M_walked M_strength M_kind M_more M_glues) hE hK hP hD hS hA [5, 0, 1, 2, 3, 4] rfl rfl (va_recv hK hP (ci := 8) (q0 := 0) rfl rfl)) rfl rfl hl.1 rfl (lv_room (Nat.le_of_ble_eq_true rfl)) dX8_hangs_265 ⟨Nat.le_of_ble_eq_true rfl, Nat.le_of_ble_eq_true rfl⟩) (fun (_ : Unit) => (w_X8_hangs cI cJ cZ cO aM aM_strength aM_kind aM_more aM_glues aM_sheet aM_since aM_imageStrength aM_imageKind aM_imageMore aM_imageGlues aM_imagePieces aM_imageWarmth aM_imageSheet aM_imageDraw aM_stepWhat aM_stepPiece aM_stepPlace aM_stepSince aM_tape aM_shapes aM_pile aM_met aM_next aM_inputs aM_then M_pieces M_warmth M_draw M_steps M_undoable M_brought M_taped M_shapeMany M_ended M_cut M_mostPieces M_walks M_walked M_strength M_kind M_more M_glues M_sheet M_pile M_met)) [5, 0, 1, 2, 3, 4] [6, 7] (ads := [aM_sheet, aM, aM_strength, aM_kind, aM_more, aM_glues]) (wr := [(aM_pile, .inl (cI, 256, .inl M_pile)), (aM_met, .inl (cZ, 256, .inl M_met))]) rfl rfl (fun u => rfl) (fun u => rfl) rfl (fun u => rfl) rfl (fun u => rfl) rfl hP hD hS hA (fun r265 u H locs hw hP hD hS => ?_)
              have hP : va_P D vwCl (w_X8_hangs cI cJ cZ cO aM aM_strength aM_kind aM_more aM_glues aM_sheet aM_since aM_imageStrength aM_imageKind aM_imageMore aM_imageGlues aM_imagePieces aM_imageWarmth aM_imageSheet aM_imageDraw aM_stepWhat aM_stepPiece aM_stepPlace aM_stepSince aM_tape aM_shapes aM_pile aM_met aM_next aM_inputs aM_then M_pieces M_warmth M_draw M_steps M_undoable M_brought M_taped M_shapeMany M_ended M_cut M_mostPieces M_walks M_walked M_strength M_kind M_more M_glues M_sheet M_pile M_met) H := hP
              have hD : va_D A (w_X8_hangs cI cJ cZ cO aM aM_strength aM_kind aM_more aM_glues aM_sheet aM_since aM_imageStrength aM_imageKind aM_imageMore aM_imageGlues aM_imagePieces aM_imageWarmth aM_imageSheet aM_imageDraw aM_stepWhat aM_stepPiece aM_stepPlace aM_stepSince aM_tape aM_shapes aM_pile aM_met aM_next aM_inputs aM_then M_pieces M_warmth M_draw M_steps M_undoable M_brought M_taped M_shapeMany M_ended M_cut M_mostPieces M_walks M_walked M_strength M_kind M_more M_glues M_sheet M_pile M_met) := hD
              refine lv_if_ne (tgt := 274) hx hb dX8_hangs_268 (by decide) (fun c268 => ?_) (fun c268 => ?_)
              · have hw := hw.1 c268
                exact b_274 M_pile M_met x1 x3 x4 x5 x6 x7 x8 x11 hw H locs hP hD hS ls (lv_sub hl [1, 2, 3, 4, 5, 6, 7, 8, 9] rfl)
              · have hw := hw.2 c268
                refine lv_goto (tgt := 293) hx hb dX8_hangs_271 (by decide) ?_
                obtain ⟨v293, e293⟩ : ∃ y : Int32, y = x8 + (1 : Int32) := ⟨_, rfl⟩
                have hw := hw v293 e293
                refine lv_iinc (v := v293) (lv' := [(8, .int v293), (12, .int y0), (0, .ref aM), (1, .int x1), (3, .int x3), (4, .int x4), (5, .int x5), (6, .int x6), (7, .int x7), (11, .int x11)]) hx hb dX8_hangs_293 hl (k := 8) rfl (by rw [e293, kI_1]) (by decide) rfl (fun ls hl => ?_)
                refine lv_goto (tgt := 118) hx hb dX8_hangs_296 (by decide) ?_
                exact ih_118 M_pile M_met x1 x3 x4 x5 x6 x7 v293 hw H locs hP hD hS ls (lv_sub hl [2, 3, 4, 5, 6, 7, 8, 0] rfl)
          have b_237 : ∀ (M_pile : Nat → Int32) (M_met : Nat → Int32) (x1 : Int32) (x3 : Int32) (x4 : Int32) (x5 : Int32) (x6 : Int32) (x7 : Int32) (x8 : Int32) (x11 : Int32), wq_X8_hangs_237 M_strength M_kind M_more M_glues M_sheet (wq_X8_hangs_69 M_strength M_kind M_more M_glues M_sheet Q n_69) (wq_X8_hangs_118 M_strength M_kind M_more M_glues M_sheet (wq_X8_hangs_69 M_strength M_kind M_more M_glues M_sheet Q n_69) Q n_118) Q M_pile M_met x1 x3 x4 x5 x6 x7 x8 x11 → ∀ (H : Heap) (locs : List Loc), va_P D vwCl (w_X8_hangs cI cJ cZ cO aM aM_strength aM_kind aM_more aM_glues aM_sheet aM_since aM_imageStrength aM_imageKind aM_imageMore aM_imageGlues aM_imagePieces aM_imageWarmth aM_imageSheet aM_imageDraw aM_stepWhat aM_stepPiece aM_stepPlace aM_stepSince aM_tape aM_shapes aM_pile aM_met aM_next aM_inputs aM_then M_pieces M_warmth M_draw M_steps M_undoable M_brought M_taped M_shapeMany M_ended M_cut M_mostPieces M_walks M_walked M_strength M_kind M_more M_glues M_sheet M_pile M_met) H → va_D A (w_X8_hangs cI cJ cZ cO aM aM_strength aM_kind aM_more aM_glues aM_sheet aM_since aM_imageStrength aM_imageKind aM_imageMore aM_imageGlues aM_imagePieces aM_imageWarmth aM_imageSheet aM_imageDraw aM_stepWhat aM_stepPiece aM_stepPlace aM_stepSince aM_tape aM_shapes aM_pile aM_met aM_next aM_inputs aM_then M_pieces M_warmth M_draw M_steps M_undoable M_brought M_taped M_shapeMany M_ended M_cut M_mostPieces M_walks M_walked M_strength M_kind M_more M_glues M_sheet M_pile M_met) → va_S A s.heap H locs → ∀ ls : Array Slot, lv_has ls 13 [(0, .ref aM), (1, .int x1), (3, .int x3), (4, .int x4), (5, .int x5), (6, .int x6), (7, .int x7), (8, .int x8), (11, .int x11)] → W p l e rm_X8_hangs s m args below meth c H locs 0 0 Z (F0 m 237 ls []) := by
            intro M_pile M_met x1 x3 x4 x5 x6 x7 x8 x11 hw H locs hP hD hS ls hl
            unfold wq_X8_hangs_237 at hw
            refine lv_iconst (v := (0 : Int32)) hx hb dX8_hangs_237 kI_0 ?_
            exact b_238 M_pile M_met x1 x3 x4 x5 x6 x7 x8 x11 (0 : Int32) hw H locs hP hD hS ls (lv_sub hl [0, 1, 2, 3, 4, 5, 6, 7, 8] rfl)
          have b_233 : ∀ (M_pile : Nat → Int32) (M_met : Nat → Int32) (x1 : Int32) (x3 : Int32) (x4 : Int32) (x5 : Int32) (x6 : Int32) (x7 : Int32) (x8 : Int32) (x11 : Int32), wq_X8_hangs_233 M_strength M_kind M_more M_glues M_sheet (wq_X8_hangs_69 M_strength M_kind M_more M_glues M_sheet Q n_69) (wq_X8_hangs_118 M_strength M_kind M_more M_glues M_sheet (wq_X8_hangs_69 M_strength M_kind M_more M_glues M_sheet Q n_69) Q n_118) Q M_pile M_met x1 x3 x4 x5 x6 x7 x8 x11 → ∀ (H : Heap) (locs : List Loc), va_P D vwCl (w_X8_hangs cI cJ cZ cO aM aM_strength aM_kind aM_more aM_glues aM_sheet aM_since aM_imageStrength aM_imageKind aM_imageMore aM_imageGlues aM_imagePieces aM_imageWarmth aM_imageSheet aM_imageDraw aM_stepWhat aM_stepPiece aM_stepPlace aM_stepSince aM_tape aM_shapes aM_pile aM_met aM_next aM_inputs aM_then M_pieces M_warmth M_draw M_steps M_undoable M_brought M_taped M_shapeMany M_ended M_cut M_mostPieces M_walks M_walked M_strength M_kind M_more M_glues M_sheet M_pile M_met) H → va_D A (w_X8_hangs cI cJ cZ cO aM aM_strength aM_kind aM_more aM_glues aM_sheet aM_since aM_imageStrength aM_imageKind aM_imageMore aM_imageGlues aM_imagePieces aM_imageWarmth aM_imageSheet aM_imageDraw aM_stepWhat aM_stepPiece aM_stepPlace aM_stepSince aM_tape aM_shapes aM_pile aM_met aM_next aM_inputs aM_then M_pieces M_warmth M_draw M_steps M_undoable M_brought M_taped M_shapeMany M_ended M_cut M_mostPieces M_walks M_walked M_strength M_kind M_more M_glues M_sheet M_pile M_met) → va_S A s.heap H locs → ∀ ls : Array Slot, lv_has ls 13 [(0, .ref aM), (1, .int x1), (3, .int x3), (4, .int x4), (5, .int x5), (6, .int x6), (7, .int x7), (8, .int x8), (11, .int x11)] → W p l e rm_X8_hangs s m args below meth c H locs 0 0 Z (F0 m 233 ls []) := by
            intro M_pile M_met x1 x3 x4 x5 x6 x7 x8 x11 hw H locs hP hD hS ls hl
            unfold wq_X8_hangs_233 at hw
            refine lv_iconst (v := (1 : Int32)) hx hb dX8_hangs_233 kI_1 ?_
            refine lv_goto (tgt := 238) hx hb dX8_hangs_234 (by decide) ?_
            exact b_238 M_pile M_met x1 x3 x4 x5 x6 x7 x8 x11 (1 : Int32) hw H locs hP hD hS ls (lv_sub hl [0, 1, 2, 3, 4, 5, 6, 7, 8] rfl)
          have b_219 : ∀ (M_pile : Nat → Int32) (M_met : Nat → Int32) (x1 : Int32) (x3 : Int32) (x4 : Int32) (x5 : Int32) (x6 : Int32) (x7 : Int32) (x8 : Int32) (x11 : Int32), wq_X8_hangs_219 M_strength M_kind M_more M_glues M_sheet (wq_X8_hangs_69 M_strength M_kind M_more M_glues M_sheet Q n_69) (wq_X8_hangs_118 M_strength M_kind M_more M_glues M_sheet (wq_X8_hangs_69 M_strength M_kind M_more M_glues M_sheet Q n_69) Q n_118) Q M_pile M_met x1 x3 x4 x5 x6 x7 x8 x11 → ∀ (H : Heap) (locs : List Loc), va_P D vwCl (w_X8_hangs cI cJ cZ cO aM aM_strength aM_kind aM_more aM_glues aM_sheet aM_since aM_imageStrength aM_imageKind aM_imageMore aM_imageGlues aM_imagePieces aM_imageWarmth aM_imageSheet aM_imageDraw aM_stepWhat aM_stepPiece aM_stepPlace aM_stepSince aM_tape aM_shapes aM_pile aM_met aM_next aM_inputs aM_then M_pieces M_warmth M_draw M_steps M_undoable M_brought M_taped M_shapeMany M_ended M_cut M_mostPieces M_walks M_walked M_strength M_kind M_more M_glues M_sheet M_pile M_met) H → va_D A (w_X8_hangs cI cJ cZ cO aM aM_strength aM_kind aM_more aM_glues aM_sheet aM_since aM_imageStrength aM_imageKind aM_imageMore aM_imageGlues aM_imagePieces aM_imageWarmth aM_imageSheet aM_imageDraw aM_stepWhat aM_stepPiece aM_stepPlace aM_stepSince aM_tape aM_shapes aM_pile aM_met aM_next aM_inputs aM_then M_pieces M_warmth M_draw M_steps M_undoable M_brought M_taped M_shapeMany M_ended M_cut M_mostPieces M_walks M_walked M_strength M_kind M_more M_glues M_sheet M_pile M_met) → va_S A s.heap H locs → ∀ ls : Array Slot, lv_has ls 13 [(0, .ref aM), (1, .int x1), (3, .int x3), (4, .int x4), (5, .int x5), (6, .int x6), (7, .int x7), (8, .int x8), (11, .int x11)] → W p l e rm_X8_hangs s m args below meth c H locs 0 0 Z (F0 m 219 ls []) := by
            intro M_pile M_met x1 x3 x4 x5 x6 x7 x8 x11 hw H locs hP hD hS ls hl
            unfold wq_X8_hangs_219 at hw
            refine lv_iload hx hb dX8_hangs_219 (lv_at hl 7 rfl) ?_
            refine lv_iconst (v := (3 : Int32)) hx hb dX8_hangs_221 kI_3 ?_
            refine lv_icmp_ne (tgt := 237) hx hb dX8_hangs_222 (by decide) (fun c222 => ?_) (fun c222 => ?_)
            · have hw := hw.1 c222
              exact b_237 M_pile M_met x1 x3 x4 x5 x6 x7 x8 x11 hw H locs hP hD hS ls (lv_sub hl [0, 1, 2, 3, 4, 5, 6, 7, 8] rfl)
            · have hw := hw.2 c222
              refine lv_iload hx hb dX8_hangs_225 (lv_at hl 6 rfl) ?_
              refine lv_iconst (v := (2 : Int32)) hx hb dX8_hangs_227 kI_2 ?_
              refine lv_irem hx hb dX8_hangs_228 (by decide) ?_
              refine lv_iconst (v := (1 : Int32)) hx hb dX8_hangs_229 kI_1 ?_
              refine lv_icmp_ne (tgt := 237) hx hb dX8_hangs_230 (by decide) (fun c230 => ?_) (fun c230 => ?_)
              · have hw := hw.1 c230
                exact b_237 M_pile M_met x1 x3 x4 x5 x6 x7 x8 x11 hw H locs hP hD hS ls (lv_sub hl [0, 1, 2, 3, 4, 5, 6, 7, 8] rfl)
              · have hw := hw.2 c230
                exact b_233 M_pile M_met x1 x3 x4 x5 x6 x7 x8 x11 hw H locs hP hD hS ls (lv_sub hl [0, 1, 2, 3, 4, 5, 6, 7, 8] rfl)
          intro M_pile M_met x1 x3 x4 x5 x6 x7 x8 hw H locs hP hD hS ls hl
          have hw : wf_X8_hangs_118 M_strength M_kind M_more M_glues M_sheet (wq_X8_hangs_69 M_strength M_kind M_more M_glues M_sheet Q n_69) Q (wq_X8_hangs_118 M_strength M_kind M_more M_glues M_sheet (wq_X8_hangs_69 M_strength M_kind M_more M_glues M_sheet Q n_69) Q n_118) M_pile M_met x1 x3 x4 x5 x6 x7 x8 := hw
          unfold wf_X8_hangs_118 at hw
          refine lv_iload hx hb dX8_hangs_118 (lv_at hl 7 rfl) ?_
          refine lv_iconst (v := (4 : Int32)) hx hb dX8_hangs_120 kI_4 ?_
          refine lv_icmp_ge (tgt := 299) hx hb dX8_hangs_121 (by decide) (fun c121 => ?_) (fun c121 => ?_)
          · have hw := hw.1 c121
            obtain ⟨v299, e299⟩ : ∃ y : Int32, y = x4 + (1 : Int32) := ⟨_, rfl⟩
            have hw := hw v299 e299
            refine lv_iinc (v := v299) (lv' := [(4, .int v299), (0, .ref aM), (1, .int x1), (3, .int x3), (5, .int x5), (6, .int x6), (7, .int x7), (8, .int x8)]) hx hb dX8_hangs_299 hl (k := 3) rfl (by rw [e299, kI_1]) (by decide) rfl (fun ls hl => ?_)
            refine lv_goto (tgt := 69) hx hb dX8_hangs_302 (by decide) ?_
            exact ih_69 M_pile M_met x1 x3 v299 hw H locs hP hD hS ls (lv_sub hl [1, 2, 3, 0] rfl)
          · have hw := hw.2 c121
            refine lv_iload hx hb dX8_hangs_124 (lv_at hl 4 rfl) ?_
            refine lv_iload hx hb dX8_hangs_126 (lv_at hl 7 rfl) ?_
            refine cx_goi (va_runS (As := [.int x8]) (rest := [.int x5]) ⟨hx, hb, hml, hown, hts⟩ (c_X8_xAt l D cI cJ cZ cO tS tT H.size x8 _ hw) (va_cwS 1 hts gX8_hangs_X8_xAt rfl rfl rfl ps_X8_xAt ⟨Nat.le_of_ble_eq_true rfl, Nat.le_of_ble_eq_true rfl⟩) (cx_preS (wc := w_X8_xAt) hE hK hP hD hS hA [] rfl rfl) rfl rfl hl.1 rfl (lv_room (Nat.le_of_ble_eq_true rfl)) dX8_hangs_128 ⟨Nat.le_of_ble_eq_true rfl, Nat.le_of_ble_eq_true rfl⟩) (fun (_ : Unit) => (w_X8_hangs cI cJ cZ cO aM aM_strength aM_kind aM_more aM_glues aM_sheet aM_since aM_imageStrength aM_imageKind aM_imageMore aM_imageGlues aM_imagePieces aM_imageWarmth aM_imageSheet aM_imageDraw aM_stepWhat aM_stepPiece aM_stepPlace aM_stepSince aM_tape aM_shapes aM_pile aM_met aM_next aM_inputs aM_then M_pieces M_warmth M_draw M_steps M_undoable M_brought M_taped M_shapeMany M_ended M_cut M_mostPieces M_walks M_walked M_strength M_kind M_more M_glues M_sheet M_pile M_met)) [] [0, 1, 2, 3, 4, 5, 6, 7] (ads := []) (wr := [(aM, .inr (8, [.ref aM_strength, .ref aM_kind, .ref aM_more, .ref aM_glues, .int M_pieces, .int M_warmth, .long M_draw, .ref aM_sheet, .ref aM_since, .ref aM_imageStrength, .ref aM_imageKind, .ref aM_imageMore, .ref aM_imageGlues, .ref aM_imagePieces, .ref aM_imageWarmth, .ref aM_imageSheet, .ref aM_imageDraw, .ref aM_stepWhat, .ref aM_stepPiece, .ref aM_stepPlace, .ref aM_stepSince, .int M_steps, .int M_undoable, .int M_brought, .ref aM_tape, .int M_taped, .ref aM_shapes, .int M_shapeMany, .int M_ended, .int M_cut, .int M_mostPieces, .int M_walks, .int M_walked, .ref aM_pile, .ref aM_met, .ref aM_next, .ref aM_inputs, .ref aM_then])), (aM_strength, .inl (cI, 51, .inl M_strength)), (aM_kind, .inl (cI, 40, .inl M_kind)), (aM_more, .inl (cI, 40, .inl M_more)), (aM_glues, .inl (cI, 160, .inl M_glues)), (aM_sheet, .inl (cI, 256, .inl M_sheet)), (aM_pile, .inl (cI, 256, .inl M_pile)), (aM_met, .inl (cZ, 256, .inl M_met))]) rfl rfl (fun u => rfl) (fun u => rfl) rfl (fun u => rfl) rfl (fun u => rfl) rfl hP hD hS hA (fun r128 u H locs hw hP hD hS => ?_)
            refine lv_iadd hx hb dX8_hangs_131 ?_
            refine lv_topi (fun v132 e132 => ?_)
            have hw := hw v132 e132
            refine lv_istore (lv' := [(9, .int v132), (0, .ref aM), (1, .int x1), (3, .int x3), (4, .int x4), (5, .int x5), (6, .int x6), (7, .int x7), (8, .int x8)]) hx hb dX8_hangs_132 hl (by decide) rfl (fun ls hl => ?_)
            refine lv_iload hx hb dX8_hangs_134 (lv_at hl 6 rfl) ?_
            refine lv_iload hx hb dX8_hangs_136 (lv_at hl 8 rfl) ?_
            refine cx_goi (va_runS (As := [.int x8]) (rest := [.int x6]) ⟨hx, hb, hml, hown, hts⟩ (c_X8_yAt l D cI cJ cZ cO tS tT H.size x8 _ hw) (va_cwS 1 hts gX8_hangs_X8_yAt rfl rfl rfl ps_X8_yAt ⟨Nat.le_of_ble_eq_true rfl, Nat.le_of_ble_eq_true rfl⟩) (cx_preS (wc := w_X8_yAt) hE hK hP hD hS hA [] rfl rfl) rfl rfl hl.1 rfl (lv_room (Nat.le_of_ble_eq_true rfl)) dX8_hangs_138 ⟨Nat.le_of_ble_eq_true rfl, Nat.le_of_ble_eq_true rfl⟩) (fun (_ : Unit) => (w_X8_hangs cI cJ cZ cO aM aM_strength aM_kind aM_more aM_glues aM_sheet aM_since aM_imageStrength aM_imageKind aM_imageMore aM_imageGlues aM_imagePieces aM_imageWarmth aM_imageSheet aM_imageDraw aM_stepWhat aM_stepPiece aM_stepPlace aM_stepSince aM_tape aM_shapes aM_pile aM_met aM_next aM_inputs aM_then M_pieces M_warmth M_draw M_steps M_undoable M_brought M_taped M_shapeMany M_ended M_cut M_mostPieces M_walks M_walked M_strength M_kind M_more M_glues M_sheet M_pile M_met)) [] [0, 1, 2, 3, 4, 5, 6, 7] (ads := []) (wr := [(aM, .inr (8, [.ref aM_strength, .ref aM_kind, .ref aM_more, .ref aM_glues, .int M_pieces, .int M_warmth, .long M_draw, .ref aM_sheet, .ref aM_since, .ref aM_imageStrength, .ref aM_imageKind, .ref aM_imageMore, .ref aM_imageGlues, .ref aM_imagePieces, .ref aM_imageWarmth, .ref aM_imageSheet, .ref aM_imageDraw, .ref aM_stepWhat, .ref aM_stepPiece, .ref aM_stepPlace, .ref aM_stepSince, .int M_steps, .int M_undoable, .int M_brought, .ref aM_tape, .int M_taped, .ref aM_shapes, .int M_shapeMany, .int M_ended, .int M_cut, .int M_mostPieces, .int M_walks, .int M_walked, .ref aM_pile, .ref aM_met, .ref aM_next, .ref aM_inputs, .ref aM_then])), (aM_strength, .inl (cI, 51, .inl M_strength)), (aM_kind, .inl (cI, 40, .inl M_kind)), (aM_more, .inl (cI, 40, .inl M_more)), (aM_glues, .inl (cI, 160, .inl M_glues)), (aM_sheet, .inl (cI, 256, .inl M_sheet)), (aM_pile, .inl (cI, 256, .inl M_pile)), (aM_met, .inl (cZ, 256, .inl M_met))]) rfl rfl (fun u => rfl) (fun u => rfl) rfl (fun u => rfl) rfl (fun u => rfl) rfl hP hD hS hA (fun r138 u H locs hw hP hD hS => ?_)
            refine lv_iadd hx hb dX8_hangs_141 ?_
            refine lv_topi (fun v142 e142 => ?_)
            have hw := hw v142 e142
            refine lv_istore (lv' := [(10, .int v142), (9, .int v132), (0, .ref aM), (1, .int x1), (3, .int x3), (4, .int x4), (5, .int x5), (6, .int x6), (7, .int x7), (8, .int x8)]) hx hb dX8_hangs_142 hl (by decide) rfl (fun ls hl => ?_)
            refine lv_iload hx hb dX8_hangs_144 (lv_at hl 1 rfl) ?_
            refine lv_bipush (v := (16 : Int32)) hx hb dX8_hangs_146 kB_16 ?_
            refine lv_iload hx hb dX8_hangs_148 (lv_at hl 0 rfl) ?_
            refine lv_imul hx hb dX8_hangs_150 ?_
            refine lv_iadd hx hb dX8_hangs_151 ?_
            refine lv_topi (fun v152 e152 => ?_)
            have hw := hw v152 e152
            refine lv_istore (lv' := [(11, .int v152), (10, .int v142), (9, .int v132), (0, .ref aM), (1, .int x1), (3, .int x3), (4, .int x4), (5, .int x5), (6, .int x6), (7, .int x7), (8, .int x8)]) hx hb dX8_hangs_152 hl (by decide) rfl (fun ls hl => ?_)
            refine lv_iload hx hb dX8_hangs_154 (lv_at hl 2 rfl) ?_
            refine lv_iload hx hb dX8_hangs_156 (lv_at hl 1 rfl) ?_
            refine cx_goi (va_runS (As := [.int v132, .int v142]) (rest := []) ⟨hx, hb, hml, hown, hts⟩ (c_X8_isOn l D cI cJ cZ cO tS tT H.size v132 v142 _ hw) (va_cwS 2 hts gX8_hangs_X8_isOn rfl rfl rfl ps_X8_isOn ⟨Nat.le_of_ble_eq_true rfl, Nat.le_of_ble_eq_true rfl⟩) (cx_preS (wc := w_X8_isOn) hE hK hP hD hS hA [] rfl rfl) rfl rfl hl.1 rfl (lv_room (Nat.le_of_ble_eq_true rfl)) dX8_hangs_158 ⟨Nat.le_of_ble_eq_true rfl, Nat.le_of_ble_eq_true rfl⟩) (fun (_ : Unit) => (w_X8_hangs cI cJ cZ cO aM aM_strength aM_kind aM_more aM_glues aM_sheet aM_since aM_imageStrength aM_imageKind aM_imageMore aM_imageGlues aM_imagePieces aM_imageWarmth aM_imageSheet aM_imageDraw aM_stepWhat aM_stepPiece aM_stepPlace aM_stepSince aM_tape aM_shapes aM_pile aM_met aM_next aM_inputs aM_then M_pieces M_warmth M_draw M_steps M_undoable M_brought M_taped M_shapeMany M_ended M_cut M_mostPieces M_walks M_walked M_strength M_kind M_more M_glues M_sheet M_pile M_met)) [] [0, 1, 2, 3, 4, 5, 6, 7] (ads := []) (wr := [(aM, .inr (8, [.ref aM_strength, .ref aM_kind, .ref aM_more, .ref aM_glues, .int M_pieces, .int M_warmth, .long M_draw, .ref aM_sheet, .ref aM_since, .ref aM_imageStrength, .ref aM_imageKind, .ref aM_imageMore, .ref aM_imageGlues, .ref aM_imagePieces, .ref aM_imageWarmth, .ref aM_imageSheet, .ref aM_imageDraw, .ref aM_stepWhat, .ref aM_stepPiece, .ref aM_stepPlace, .ref aM_stepSince, .int M_steps, .int M_undoable, .int M_brought, .ref aM_tape, .int M_taped, .ref aM_shapes, .int M_shapeMany, .int M_ended, .int M_cut, .int M_mostPieces, .int M_walks, .int M_walked, .ref aM_pile, .ref aM_met, .ref aM_next, .ref aM_inputs, .ref aM_then])), (aM_strength, .inl (cI, 51, .inl M_strength)), (aM_kind, .inl (cI, 40, .inl M_kind)), (aM_more, .inl (cI, 40, .inl M_more)), (aM_glues, .inl (cI, 160, .inl M_glues)), (aM_sheet, .inl (cI, 256, .inl M_sheet)), (aM_pile, .inl (cI, 256, .inl M_pile)), (aM_met, .inl (cZ, 256, .inl M_met))]) rfl rfl (fun u => rfl) (fun u => rfl) rfl (fun u => rfl) rfl (fun u => rfl) rfl hP hD hS hA (fun r158 u H locs hw hP hD hS => ?_)
            refine lv_if_eq (tgt := 293) hx hb dX8_hangs_161 (by decide) (fun c161 => ?_) (fun c161 => ?_)
            · have hw := hw.1 c161
              obtain ⟨v293, e293⟩ : ∃ y : Int32, y = x8 + (1 : Int32) := ⟨_, rfl⟩
              have hw := hw v293 e293
              refine lv_iinc (v := v293) (lv' := [(8, .int v293), (11, .int v152), (10, .int v142), (9, .int v132), (0, .ref aM), (1, .int x1), (3, .int x3), (4, .int x4), (5, .int x5), (6, .int x6), (7, .int x7)]) hx hb dX8_hangs_293 hl (k := 10) rfl (by rw [e293, kI_1]) (by decide) rfl (fun ls hl => ?_)
              refine lv_goto (tgt := 118) hx hb dX8_hangs_296 (by decide) ?_
              exact ih_118 M_pile M_met x1 x3 x4 x5 x6 x7 v293 hw H locs hP hD hS ls (lv_sub hl [4, 5, 6, 7, 8, 9, 10, 0] rfl)
            · have hw := hw.2 c161
              refine lv_aload_n hx hb dX8_hangs_164 rfl (lv_at hl 3 rfl) ?_
              refine va_get (D := D) (ci := 8) (v := .ref aM_sheet) (C := RX8) (T := TX8) (N := 38) hx hb hts in_X8_hangs_X8 hown hK hP 0 rfl rfl 7 (by decide) k_0 (fun _ h9 => h9) rfl dX8_hangs_165 ?_
              refine lv_iload hx hb dX8_hangs_168 (lv_at hl 0 rfl) ?_
              have h170 := hw.1
              have hw := hw.2
              refine va_iald hx hb hK hP 5 0 rfl rfl h170 dX8_hangs_170 ?_
              refine lv_topi (fun v170 e170 => ?_)
              have hw := hw v170 e170
              refine lv_if_eq (tgt := 293) hx hb dX8_hangs_171 (by decide) (fun c171 => ?_) (fun c171 => ?_)
              · have hw := hw.1 c171
                obtain ⟨v293, e293⟩ : ∃ y : Int32, y = x8 + (1 : Int32) := ⟨_, rfl⟩
                have hw := hw v293 e293
                refine lv_iinc (v := v293) (lv' := [(8, .int v293), (11, .int v152), (10, .int v142), (9, .int v132), (0, .ref aM), (1, .int x1), (3, .int x3), (4, .int x4), (5, .int x5), (6, .int x6), (7, .int x7)]) hx hb dX8_hangs_293 hl (k := 10) rfl (by rw [e293, kI_1]) (by decide) rfl (fun ls hl => ?_)
                refine lv_goto (tgt := 118) hx hb dX8_hangs_296 (by decide) ?_
                exact ih_118 M_pile M_met x1 x3 x4 x5 x6 x7 v293 hw H locs hP hD hS ls (lv_sub hl [4, 5, 6, 7, 8, 9, 10, 0] rfl)
              · have hw := hw.2 c171
                refine lv_iload hx hb dX8_hangs_174 (lv_at hl 0 rfl) ?_
                refine lv_iload_n hx hb dX8_hangs_176 rfl (lv_at hl 4 rfl) ?_
                refine lv_icmp_eq (tgt := 293) hx hb dX8_hangs_177 (by decide) (fun c177 => ?_) (fun c177 => ?_)
                · have hw := hw.1 c177
                  obtain ⟨v293, e293⟩ : ∃ y : Int32, y = x8 + (1 : Int32) := ⟨_, rfl⟩
                  have hw := hw v293 e293
                  refine lv_iinc (v := v293) (lv' := [(8, .int v293), (11, .int v152), (10, .int v142), (9, .int v132), (0, .ref aM), (1, .int x1), (3, .int x3), (4, .int x4), (5, .int x5), (6, .int x6), (7, .int x7)]) hx hb dX8_hangs_293 hl (k := 10) rfl (by rw [e293, kI_1]) (by decide) rfl (fun ls hl => ?_)
                  refine lv_goto (tgt := 118) hx hb dX8_hangs_296 (by decide) ?_
                  exact ih_118 M_pile M_met x1 x3 x4 x5 x6 x7 v293 hw H locs hP hD hS ls (lv_sub hl [4, 5, 6, 7, 8, 9, 10, 0] rfl)
                · have hw := hw.2 c177
                  refine lv_aload_n hx hb dX8_hangs_180 rfl (lv_at hl 3 rfl) ?_
                  refine va_get (D := D) (ci := 8) (v := .ref aM_met) (C := RX8) (T := TX8) (N := 38) hx hb hts in_X8_hangs_X8 hown hK hP 0 rfl rfl 34 (by decide) k_1 (fun _ h9 => h9) rfl dX8_hangs_181 ?_
                  refine lv_iload hx hb dX8_hangs_184 (lv_at hl 0 rfl) ?_
                  have h186 := hw.1
                  have hw := hw.2
                  refine va_zald hx hb hK hP 7 2 rfl rfl h186 dX8_hangs_186 ?_
                  refine lv_topi (fun v186 e186 => ?_)
                  have hw := hw v186 e186
                  refine lv_if_eq (tgt := 193) hx hb dX8_hangs_187 (by decide) (fun c187 => ?_) (fun c187 => ?_)
                  · have hw := hw.1 c187
                    refine lv_aload_n hx hb dX8_hangs_193 rfl (lv_at hl 3 rfl) ?_
                    refine va_get (D := D) (ci := 8) (v := .ref aM_kind) (C := RX8) (T := TX8) (N := 38) hx hb hts in_X8_hangs_X8 hown hK hP 0 rfl rfl 1 (by decide) k_3 (fun _ h9 => h9) rfl dX8_hangs_194 ?_
                    refine lv_iload hx hb dX8_hangs_197 (lv_at hl 9 rfl) ?_
                    refine lv_iconst (v := (2 : Int32)) hx hb dX8_hangs_199 kI_2 ?_
                    refine lv_idiv hx hb dX8_hangs_200 (by decide) ?_
                    have h201 := hw.1
                    have hw := hw.2
                    refine va_iald hx hb hK hP 2 0 rfl rfl h201 dX8_hangs_201 ?_
                    refine lv_topi (fun v201 e201 => ?_)
                    have hw := hw v201 e201
                    refine lv_iconst (v := (2 : Int32)) hx hb dX8_hangs_202 kI_2 ?_
                    refine lv_icmp_ne (tgt := 237) hx hb dX8_hangs_203 (by decide) (fun c203 => ?_) (fun c203 => ?_)
                    · have hw := hw.1 c203
                      exact b_237 M_pile M_met x1 x3 x4 x5 x6 x7 x8 v152 hw H locs hP hD hS ls (lv_sub hl [3, 4, 5, 6, 7, 8, 9, 10, 0] rfl)
                    · have hw := hw.2 c203
                      refine lv_iload hx hb dX8_hangs_206 (lv_at hl 10 rfl) ?_
                      refine lv_iconst (v := (1 : Int32)) hx hb dX8_hangs_208 kI_1 ?_
                      refine lv_icmp_ne (tgt := 219) hx hb dX8_hangs_209 (by decide) (fun c209 => ?_) (fun c209 => ?_)
                      · have hw := hw.1 c209
                        exact b_219 M_pile M_met x1 x3 x4 x5 x6 x7 x8 v152 hw H locs hP hD hS ls (lv_sub hl [3, 4, 5, 6, 7, 8, 9, 10, 0] rfl)
                      · have hw := hw.2 c209
                        refine lv_iload hx hb dX8_hangs_212 (lv_at hl 9 rfl) ?_
                        refine lv_iconst (v := (2 : Int32)) hx hb dX8_hangs_214 kI_2 ?_
                        refine lv_irem hx hb dX8_hangs_215 (by decide) ?_
                        refine lv_if_eq (tgt := 233) hx hb dX8_hangs_216 (by decide) (fun c216 => ?_) (fun c216 => ?_)
                        · have hw := hw.1 c216
                          exact b_233 M_pile M_met x1 x3 x4 x5 x6 x7 x8 v152 hw H locs hP hD hS ls (lv_sub hl [3, 4, 5, 6, 7, 8, 9, 10, 0] rfl)
                        · have hw := hw.2 c216
                          exact b_219 M_pile M_met x1 x3 x4 x5 x6 x7 x8 v152 hw H locs hP hD hS ls (lv_sub hl [3, 4, 5, 6, 7, 8, 9, 10, 0] rfl)
                  · have hw := hw.2 c187
                    refine lv_goto (tgt := 293) hx hb dX8_hangs_190 (by decide) ?_
                    obtain ⟨v293, e293⟩ : ∃ y : Int32, y = x8 + (1 : Int32) := ⟨_, rfl⟩
                    have hw := hw v293 e293
                    refine lv_iinc (v := v293) (lv' := [(8, .int v293), (11, .int v152), (10, .int v142), (9, .int v132), (0, .ref aM), (1, .int x1), (3, .int x3), (4, .int x4), (5, .int x5), (6, .int x6), (7, .int x7)]) hx hb dX8_hangs_293 hl (k := 10) rfl (by rw [e293, kI_1]) (by decide) rfl (fun ls hl => ?_)
                    refine lv_goto (tgt := 118) hx hb dX8_hangs_296 (by decide) ?_
                    exact ih_118 M_pile M_met x1 x3 x4 x5 x6 x7 v293 hw H locs hP hD hS ls (lv_sub hl [4, 5, 6, 7, 8, 9, 10, 0] rfl)
      intro M_pile M_met x1 x3 x4 hw H locs hP hD hS ls hl
      have hw : wf_X8_hangs_69 M_strength M_kind M_more M_glues M_sheet Q (wq_X8_hangs_69 M_strength M_kind M_more M_glues M_sheet Q n_69) M_pile M_met x1 x3 x4 := hw
      unfold wf_X8_hangs_69 at hw
      refine lv_iload hx hb dX8_hangs_69 (lv_at hl 3 rfl) ?_
      refine lv_iload_n hx hb dX8_hangs_71 rfl (lv_at hl 2 rfl) ?_
      refine lv_icmp_ge (tgt := 305) hx hb dX8_hangs_72 (by decide) (fun c72 => ?_) (fun c72 => ?_)
      · have hw := hw.1 c72
        refine lv_iconst (v := (1 : Int32)) hx hb dX8_hangs_305 kI_1 ?_
        refine lv_istore (lv' := [(4, .int (1 : Int32)), (0, .ref aM), (1, .int x1), (3, .int x3)]) hx hb dX8_hangs_306 hl (by decide) rfl (fun ls hl => ?_)
        refine lv_iconst (v := (0 : Int32)) hx hb dX8_hangs_308 kI_0 ?_
        refine lv_istore (lv' := [(5, .int (0 : Int32)), (4, .int (1 : Int32)), (0, .ref aM), (1, .int x1), (3, .int x3)]) hx hb dX8_hangs_309 hl (by decide) rfl (fun ls hl => ?_)
        obtain ⟨k, hw⟩ := hw
        exact b_311 k M_pile M_met x1 (1 : Int32) (0 : Int32) hw H locs hP hD hS ls (lv_sub hl [2, 3, 1, 0] rfl)
      · have hw := hw.2 c72
        refine lv_aload_n hx hb dX8_hangs_75 rfl (lv_at hl 0 rfl) ?_
        refine va_get (D := D) (ci := 8) (v := .ref aM_pile) (C := RX8) (T := TX8) (N := 38) hx hb hts in_X8_hangs_X8 hown hK hP 0 rfl rfl 33 (by decide) k_2 (fun _ h9 => h9) rfl dX8_hangs_76 ?_
        refine lv_iload hx hb dX8_hangs_79 (lv_at hl 3 rfl) ?_
        have h81 := hw.1
        have hw := hw.2
        refine va_iald hx hb hK hP 6 0 rfl rfl h81 dX8_hangs_81 ?_
        refine lv_topi (fun v81 e81 => ?_)
        have hw := hw v81 e81
        refine lv_bipush (v := (16 : Int32)) hx hb dX8_hangs_82 kB_16 ?_
        refine lv_irem hx hb dX8_hangs_84 (by decide) ?_
        refine lv_topi (fun v85 e85 => ?_)
        have hw := hw v85 e85
        refine lv_istore (lv' := [(5, .int v85), (0, .ref aM), (1, .int x1), (3, .int x3), (4, .int x4)]) hx hb dX8_hangs_85 hl (by decide) rfl (fun ls hl => ?_)
        refine lv_aload_n hx hb dX8_hangs_87 rfl (lv_at hl 1 rfl) ?_
        refine va_get (D := D) (ci := 8) (v := .ref aM_pile) (C := RX8) (T := TX8) (N := 38) hx hb hts in_X8_hangs_X8 hown hK hP 0 rfl rfl 33 (by decide) k_2 (fun _ h9 => h9) rfl dX8_hangs_88 ?_
        refine lv_iload hx hb dX8_hangs_91 (lv_at hl 4 rfl) ?_
        have h93 := hw.1
        have hw := hw.2
        refine va_iald hx hb hK hP 6 0 rfl rfl h93 dX8_hangs_93 ?_
        refine lv_topi (fun v93 e93 => ?_)
        have hw := hw v93 e93
        refine lv_bipush (v := (16 : Int32)) hx hb dX8_hangs_94 kB_16 ?_
        refine lv_idiv hx hb dX8_hangs_96 (by decide) ?_
        refine lv_topi (fun v97 e97 => ?_)
        have hw := hw v97 e97
        refine lv_istore (lv' := [(6, .int v97), (5, .int v85), (0, .ref aM), (1, .int x1), (3, .int x3), (4, .int x4)]) hx hb dX8_hangs_97 hl (by decide) rfl (fun ls hl => ?_)
        refine lv_aload_n hx hb dX8_hangs_99 rfl (lv_at hl 2 rfl) ?_
        refine va_get (D := D) (ci := 8) (v := .ref aM_sheet) (C := RX8) (T := TX8) (N := 38) hx hb hts in_X8_hangs_X8 hown hK hP 0 rfl rfl 7 (by decide) k_0 (fun _ h9 => h9) rfl dX8_hangs_100 ?_
        refine lv_aload_n hx hb dX8_hangs_103 rfl (lv_at hl 2 rfl) ?_
        refine va_get (D := D) (ci := 8) (v := .ref aM_pile) (C := RX8) (T := TX8) (N := 38) hx hb hts in_X8_hangs_X8 hown hK hP 0 rfl rfl 33 (by decide) k_2 (fun _ h9 => h9) rfl dX8_hangs_104 ?_
        refine lv_iload hx hb dX8_hangs_107 (lv_at hl 5 rfl) ?_
        have h109 := hw.1
        have hw := hw.2
        refine va_iald hx hb hK hP 6 0 rfl rfl h109 dX8_hangs_109 ?_
        refine lv_topi (fun v109 e109 => ?_)
        have hw := hw v109 e109
        have h110 := hw.1
        have hw := hw.2
        refine va_iald hx hb hK hP 5 0 rfl rfl h110 dX8_hangs_110 ?_
        refine lv_topi (fun v110 e110 => ?_)
        have hw := hw v110 e110
        refine lv_iconst (v := (1 : Int32)) hx hb dX8_hangs_111 kI_1 ?_
        refine lv_isub hx hb dX8_hangs_112 ?_
        refine lv_topi (fun v113 e113 => ?_)
        have hw := hw v113 e113
        refine lv_istore (lv' := [(7, .int v113), (6, .int v97), (5, .int v85), (0, .ref aM), (1, .int x1), (3, .int x3), (4, .int x4)]) hx hb dX8_hangs_113 hl (by decide) rfl (fun ls hl => ?_)
        refine lv_iconst (v := (0 : Int32)) hx hb dX8_hangs_115 kI_0 ?_
        refine lv_istore (lv' := [(8, .int (0 : Int32)), (7, .int v113), (6, .int v97), (5, .int v85), (0, .ref aM), (1, .int x1), (3, .int x3), (4, .int x4)]) hx hb dX8_hangs_116 hl (by decide) rfl (fun ls hl => ?_)
        obtain ⟨k, hw⟩ := hw
        exact b_118 k M_pile M_met x1 x3 x4 v85 v97 v113 (0 : Int32) hw H locs hP hD hS ls (lv_sub hl [4, 5, 6, 7, 3, 2, 1, 0] rfl)
  have b_4 : ∀ n_4 : Nat, ∀ (M_pile : Nat → Int32) (M_met : Nat → Int32) (x1 : Int32) (x2 : Int32) (x3 : Int32), wq_X8_hangs_4 M_strength M_kind M_more M_glues M_sheet Q n_4 M_pile M_met x1 x2 x3 → ∀ (H : Heap) (locs : List Loc), va_P D vwCl (w_X8_hangs cI cJ cZ cO aM aM_strength aM_kind aM_more aM_glues aM_sheet aM_since aM_imageStrength aM_imageKind aM_imageMore aM_imageGlues aM_imagePieces aM_imageWarmth aM_imageSheet aM_imageDraw aM_stepWhat aM_stepPiece aM_stepPlace aM_stepSince aM_tape aM_shapes aM_pile aM_met aM_next aM_inputs aM_then M_pieces M_warmth M_draw M_steps M_undoable M_brought M_taped M_shapeMany M_ended M_cut M_mostPieces M_walks M_walked M_strength M_kind M_more M_glues M_sheet M_pile M_met) H → va_D A (w_X8_hangs cI cJ cZ cO aM aM_strength aM_kind aM_more aM_glues aM_sheet aM_since aM_imageStrength aM_imageKind aM_imageMore aM_imageGlues aM_imagePieces aM_imageWarmth aM_imageSheet aM_imageDraw aM_stepWhat aM_stepPiece aM_stepPlace aM_stepSince aM_tape aM_shapes aM_pile aM_met aM_next aM_inputs aM_then M_pieces M_warmth M_draw M_steps M_undoable M_brought M_taped M_shapeMany M_ended M_cut M_mostPieces M_walks M_walked M_strength M_kind M_more M_glues M_sheet M_pile M_met) → va_S A s.heap H locs → ∀ ls : Array Slot, lv_has ls 13 [(0, .ref aM), (1, .int x1), (2, .int x2), (3, .int x3)] → W p l e rm_X8_hangs s m args below meth c H locs 0 0 Z (F0 m 4 ls []) := by
    intro n_4
    induction n_4 with
    | zero => intro M_pile M_met x1 x2 x3 hw; exact False.elim hw
    | succ n_4 ih_4 =>
      intro M_pile M_met x1 x2 x3 hw H locs hP hD hS ls hl
      have hw : wf_X8_hangs_4 M_strength M_kind M_more M_glues M_sheet Q (wq_X8_hangs_4 M_strength M_kind M_more M_glues M_sheet Q n_4) M_pile M_met x1 x2 x3 := hw
      unfold wf_X8_hangs_4 at hw
      refine lv_iload_n hx hb dX8_hangs_4 rfl (lv_at hl 3 rfl) ?_
      refine lv_sipush (v := (256 : Int32)) hx hb dX8_hangs_5 kS_256 ?_
      refine lv_icmp_ge (tgt := 44) hx hb dX8_hangs_8 (by decide) (fun c8 => ?_) (fun c8 => ?_)
      · have hw := hw.1 c8
        refine lv_iconst (v := (0 : Int32)) hx hb dX8_hangs_44 kI_0 ?_
        refine lv_istore_n (lv' := [(3, .int (0 : Int32)), (0, .ref aM), (1, .int x1), (2, .int x2)]) hx hb dX8_hangs_45 rfl hl (by decide) rfl (fun ls hl => ?_)
        refine lv_iload_n hx hb dX8_hangs_46 rfl (lv_at hl 3 rfl) ?_
        refine lv_if_lt (tgt := 66) hx hb dX8_hangs_47 (by decide) (fun c47 => ?_) (fun c47 => ?_)
        · have hw := hw.1 c47
          refine lv_iconst (v := (0 : Int32)) hx hb dX8_hangs_66 kI_0 ?_
          refine lv_istore (lv' := [(4, .int (0 : Int32)), (3, .int (0 : Int32)), (0, .ref aM), (1, .int x1), (2, .int x2)]) hx hb dX8_hangs_67 hl (by decide) rfl (fun ls hl => ?_)
          obtain ⟨k, hw⟩ := hw
          exact b_69 k M_pile M_met x1 (0 : Int32) (0 : Int32) hw H locs hP hD hS ls (lv_sub hl [2, 3, 1, 0] rfl)
        · have hw := hw.2 c47
          refine lv_aload_n hx hb dX8_hangs_50 rfl (lv_at hl 1 rfl) ?_
          refine va_get (D := D) (ci := 8) (v := .ref aM_pile) (C := RX8) (T := TX8) (N := 38) hx hb hts in_X8_hangs_X8 hown hK hP 0 rfl rfl 33 (by decide) k_2 (fun _ h9 => h9) rfl dX8_hangs_51 ?_
          refine lv_iconst (v := (0 : Int32)) hx hb dX8_hangs_54 kI_0 ?_
          refine lv_iload_n hx hb dX8_hangs_55 rfl (lv_at hl 3 rfl) ?_
          refine va_iast hx hb hK hP hD hS 6 0 rfl rfl (cx_in (by decide)) dX8_hangs_56 (fun H locs hP hD hS => ?_)
          have hP : va_P D vwCl (w_X8_hangs cI cJ cZ cO aM aM_strength aM_kind aM_more aM_glues aM_sheet aM_since aM_imageStrength aM_imageKind aM_imageMore aM_imageGlues aM_imagePieces aM_imageWarmth aM_imageSheet aM_imageDraw aM_stepWhat aM_stepPiece aM_stepPlace aM_stepSince aM_tape aM_shapes aM_pile aM_met aM_next aM_inputs aM_then M_pieces M_warmth M_draw M_steps M_undoable M_brought M_taped M_shapeMany M_ended M_cut M_mostPieces M_walks M_walked M_strength M_kind M_more M_glues M_sheet (upd M_pile (0 : Int32).toNatClampNeg x2) M_met) H := hP
          have hD : va_D A (w_X8_hangs cI cJ cZ cO aM aM_strength aM_kind aM_more aM_glues aM_sheet aM_since aM_imageStrength aM_imageKind aM_imageMore aM_imageGlues aM_imagePieces aM_imageWarmth aM_imageSheet aM_imageDraw aM_stepWhat aM_stepPiece aM_stepPlace aM_stepSince aM_tape aM_shapes aM_pile aM_met aM_next aM_inputs aM_then M_pieces M_warmth M_draw M_steps M_undoable M_brought M_taped M_shapeMany M_ended M_cut M_mostPieces M_walks M_walked M_strength M_kind M_more M_glues M_sheet (upd M_pile (0 : Int32).toNatClampNeg x2) M_met) := hD
          obtain ⟨M_pile_56, e56⟩ : ∃ y : Nat → Int32, y = upd M_pile (0 : Int32).toNatClampNeg x2 := ⟨_, rfl⟩
          rw [← e56] at hP hD
          have hw := hw M_pile_56 e56
          refine lv_aload_n hx hb dX8_hangs_57 rfl (lv_at hl 1 rfl) ?_
          refine va_get (D := D) (ci := 8) (v := .ref aM_met) (C := RX8) (T := TX8) (N := 38) hx hb hts in_X8_hangs_X8 hown hK hP 0 rfl rfl 34 (by decide) k_1 (fun _ h9 => h9) rfl dX8_hangs_58 ?_
          refine lv_iload_n hx hb dX8_hangs_61 rfl (lv_at hl 3 rfl) ?_
          refine lv_iconst (v := (1 : Int32)) hx hb dX8_hangs_62 kI_1 ?_
          have h63 := hw.1
          have hw := hw.2
          refine va_zast hx hb hK hP hD hS 7 2 rfl rfl h63 dX8_hangs_63 (fun H locs hP hD hS => ?_)
          have hP : va_P D vwCl (w_X8_hangs cI cJ cZ cO aM aM_strength aM_kind aM_more aM_glues aM_sheet aM_since aM_imageStrength aM_imageKind aM_imageMore aM_imageGlues aM_imagePieces aM_imageWarmth aM_imageSheet aM_imageDraw aM_stepWhat aM_stepPiece aM_stepPlace aM_stepSince aM_tape aM_shapes aM_pile aM_met aM_next aM_inputs aM_then M_pieces M_warmth M_draw M_steps M_undoable M_brought M_taped M_shapeMany M_ended M_cut M_mostPieces M_walks M_walked M_strength M_kind M_more M_glues M_sheet M_pile_56 (upd M_met x2.toNatClampNeg (vp_nar .boolean (1 : Int32)))) H := hP
          have hD : va_D A (w_X8_hangs cI cJ cZ cO aM aM_strength aM_kind aM_more aM_glues aM_sheet aM_since aM_imageStrength aM_imageKind aM_imageMore aM_imageGlues aM_imagePieces aM_imageWarmth aM_imageSheet aM_imageDraw aM_stepWhat aM_stepPiece aM_stepPlace aM_stepSince aM_tape aM_shapes aM_pile aM_met aM_next aM_inputs aM_then M_pieces M_warmth M_draw M_steps M_undoable M_brought M_taped M_shapeMany M_ended M_cut M_mostPieces M_walks M_walked M_strength M_kind M_more M_glues M_sheet M_pile_56 (upd M_met x2.toNatClampNeg (vp_nar .boolean (1 : Int32)))) := hD
          obtain ⟨M_met_63, e63⟩ : ∃ y : Nat → Int32, y = upd M_met x2.toNatClampNeg (vp_nar .boolean (1 : Int32)) := ⟨_, rfl⟩
          rw [← e63] at hP hD
          have hw := hw M_met_63 e63
          refine lv_iconst (v := (1 : Int32)) hx hb dX8_hangs_64 kI_1 ?_
          refine lv_istore_n (lv' := [(3, .int (1 : Int32)), (0, .ref aM), (1, .int x1), (2, .int x2)]) hx hb dX8_hangs_65 rfl hl (by decide) rfl (fun ls hl => ?_)
          refine lv_iconst (v := (0 : Int32)) hx hb dX8_hangs_66 kI_0 ?_
          refine lv_istore (lv' := [(4, .int (0 : Int32)), (3, .int (1 : Int32)), (0, .ref aM), (1, .int x1), (2, .int x2)]) hx hb dX8_hangs_67 hl (by decide) rfl (fun ls hl => ?_)
          obtain ⟨k, hw⟩ := hw
          exact b_69 k M_pile_56 M_met_63 x1 (1 : Int32) (0 : Int32) hw H locs hP hD hS ls (lv_sub hl [2, 3, 1, 0] rfl)
      · have hw := hw.2 c8
        refine lv_aload_n hx hb dX8_hangs_11 rfl (lv_at hl 0 rfl) ?_
        refine va_get (D := D) (ci := 8) (v := .ref aM_met) (C := RX8) (T := TX8) (N := 38) hx hb hts in_X8_hangs_X8 hown hK hP 0 rfl rfl 34 (by decide) k_1 (fun _ h9 => h9) rfl dX8_hangs_12 ?_
        refine lv_iload_n hx hb dX8_hangs_15 rfl (lv_at hl 3 rfl) ?_
        refine lv_iconst (v := (0 : Int32)) hx hb dX8_hangs_16 kI_0 ?_
        have h17 := hw.1
        have hw := hw.2
        refine va_zast hx hb hK hP hD hS 7 2 rfl rfl h17 dX8_hangs_17 (fun H locs hP hD hS => ?_)
        have hP : va_P D vwCl (w_X8_hangs cI cJ cZ cO aM aM_strength aM_kind aM_more aM_glues aM_sheet aM_since aM_imageStrength aM_imageKind aM_imageMore aM_imageGlues aM_imagePieces aM_imageWarmth aM_imageSheet aM_imageDraw aM_stepWhat aM_stepPiece aM_stepPlace aM_stepSince aM_tape aM_shapes aM_pile aM_met aM_next aM_inputs aM_then M_pieces M_warmth M_draw M_steps M_undoable M_brought M_taped M_shapeMany M_ended M_cut M_mostPieces M_walks M_walked M_strength M_kind M_more M_glues M_sheet M_pile (upd M_met x3.toNatClampNeg (vp_nar .boolean (0 : Int32)))) H := hP
        have hD : va_D A (w_X8_hangs cI cJ cZ cO aM aM_strength aM_kind aM_more aM_glues aM_sheet aM_since aM_imageStrength aM_imageKind aM_imageMore aM_imageGlues aM_imagePieces aM_imageWarmth aM_imageSheet aM_imageDraw aM_stepWhat aM_stepPiece aM_stepPlace aM_stepSince aM_tape aM_shapes aM_pile aM_met aM_next aM_inputs aM_then M_pieces M_warmth M_draw M_steps M_undoable M_brought M_taped M_shapeMany M_ended M_cut M_mostPieces M_walks M_walked M_strength M_kind M_more M_glues M_sheet M_pile (upd M_met x3.toNatClampNeg (vp_nar .boolean (0 : Int32)))) := hD
        obtain ⟨M_met_17, e17⟩ : ∃ y : Nat → Int32, y = upd M_met x3.toNatClampNeg (vp_nar .boolean (0 : Int32)) := ⟨_, rfl⟩
        rw [← e17] at hP hD
        have hw := hw M_met_17 e17
        refine lv_iload_n hx hb dX8_hangs_18 rfl (lv_at hl 2 rfl) ?_
        refine lv_if_ge (tgt := 38) hx hb dX8_hangs_19 (by decide) (fun c19 => ?_) (fun c19 => ?_)
        · have hw := hw.1 c19
          obtain ⟨v38, e38⟩ : ∃ y : Int32, y = x3 + (1 : Int32) := ⟨_, rfl⟩
          have hw := hw v38 e38
          refine lv_iinc (v := v38) (lv' := [(3, .int v38), (0, .ref aM), (1, .int x1), (2, .int x2)]) hx hb dX8_hangs_38 hl (k := 3) rfl (by rw [e38, kI_1]) (by decide) rfl (fun ls hl => ?_)
          refine lv_goto (tgt := 4) hx hb dX8_hangs_41 (by decide) ?_
          exact ih_4 M_pile M_met_17 x1 x2 v38 hw H locs hP hD hS ls (lv_sub hl [1, 2, 3, 0] rfl)
        · have hw := hw.2 c19
          refine lv_aload_n hx hb dX8_hangs_22 rfl (lv_at hl 0 rfl) ?_
          refine va_get (D := D) (ci := 8) (v := .ref aM_sheet) (C := RX8) (T := TX8) (N := 38) hx hb hts in_X8_hangs_X8 hown hK hP 0 rfl rfl 7 (by decide) k_0 (fun _ h9 => h9) rfl dX8_hangs_23 ?_
          refine lv_iload_n hx hb dX8_hangs_26 rfl (lv_at hl 3 rfl) ?_
          have h27 := hw.1
          have hw := hw.2
          refine va_iald hx hb hK hP 5 0 rfl rfl h27 dX8_hangs_27 ?_
          refine lv_topi (fun v27 e27 => ?_)
          have hw := hw v27 e27
          refine lv_if_eq (tgt := 38) hx hb dX8_hangs_28 (by decide) (fun c28 => ?_) (fun c28 => ?_)
          · have hw := hw.1 c28
            obtain ⟨v38, e38⟩ : ∃ y : Int32, y = x3 + (1 : Int32) := ⟨_, rfl⟩
            have hw := hw v38 e38
            refine lv_iinc (v := v38) (lv' := [(3, .int v38), (0, .ref aM), (1, .int x1), (2, .int x2)]) hx hb dX8_hangs_38 hl (k := 3) rfl (by rw [e38, kI_1]) (by decide) rfl (fun ls hl => ?_)
            refine lv_goto (tgt := 4) hx hb dX8_hangs_41 (by decide) ?_
            exact ih_4 M_pile M_met_17 x1 x2 v38 hw H locs hP hD hS ls (lv_sub hl [1, 2, 3, 0] rfl)
          · have hw := hw.2 c28
            refine lv_iload_n hx hb dX8_hangs_31 rfl (lv_at hl 3 rfl) ?_
            refine lv_iload_n hx hb dX8_hangs_32 rfl (lv_at hl 1 rfl) ?_
            refine lv_icmp_eq (tgt := 38) hx hb dX8_hangs_33 (by decide) (fun c33 => ?_) (fun c33 => ?_)
            · have hw := hw.1 c33
              obtain ⟨v38, e38⟩ : ∃ y : Int32, y = x3 + (1 : Int32) := ⟨_, rfl⟩
              have hw := hw v38 e38
              refine lv_iinc (v := v38) (lv' := [(3, .int v38), (0, .ref aM), (1, .int x1), (2, .int x2)]) hx hb dX8_hangs_38 hl (k := 3) rfl (by rw [e38, kI_1]) (by decide) rfl (fun ls hl => ?_)
              refine lv_goto (tgt := 4) hx hb dX8_hangs_41 (by decide) ?_
              exact ih_4 M_pile M_met_17 x1 x2 v38 hw H locs hP hD hS ls (lv_sub hl [1, 2, 3, 0] rfl)
            · have hw := hw.2 c33
              refine lv_iload_n hx hb dX8_hangs_36 rfl (lv_at hl 3 rfl) ?_
              refine lv_istore_n (lv' := [(2, .int x3), (0, .ref aM), (1, .int x1), (3, .int x3)]) hx hb dX8_hangs_37 rfl hl (by decide) rfl (fun ls hl => ?_)
              obtain ⟨v38, e38⟩ : ∃ y : Int32, y = x3 + (1 : Int32) := ⟨_, rfl⟩
              have hw := hw v38 e38
              refine lv_iinc (v := v38) (lv' := [(3, .int v38), (2, .int x3), (0, .ref aM), (1, .int x1)]) hx hb dX8_hangs_38 hl (k := 3) rfl (by rw [e38, kI_1]) (by decide) rfl (fun ls hl => ?_)
              refine lv_goto (tgt := 4) hx hb dX8_hangs_41 (by decide) ?_
              exact ih_4 M_pile M_met_17 x1 x3 v38 hw H locs hP hD hS ls (lv_sub hl [2, 3, 1, 0] rfl)
  intro H locs hP hD hS ls hl
  unfold wp_X8_hangs at hw
  refine lv_iconst (v := (-1 : Int32)) hx hb dX8_hangs_0 kI_m1 ?_
  refine lv_istore_n (lv' := [(2, .int (-1 : Int32)), (0, .ref aM), (1, .int p1)]) hx hb dX8_hangs_1 rfl hl (by decide) rfl (fun ls hl => ?_)
  refine lv_iconst (v := (0 : Int32)) hx hb dX8_hangs_2 kI_0 ?_
  refine lv_istore_n (lv' := [(3, .int (0 : Int32)), (2, .int (-1 : Int32)), (0, .ref aM), (1, .int p1)]) hx hb dX8_hangs_3 rfl hl (by decide) rfl (fun ls hl => ?_)
  obtain ⟨k, hw⟩ := hw
  exact b_4 k M_pile M_met p1 (-1 : Int32) (0 : Int32) hw H locs hP hD hS ls (lv_sub hl [2, 3, 1, 0] rfl)
set_option maxRecDepth 100000 in
set_option maxHeartbeats 4000000 in
theorem c_X8_go (l : Launch) (D : va_G) (cI cJ cZ cO : ClassId) (tS tT : Nat) (sz : Nat) (aM aM_strength aM_kind aM_more aM_glues aM_sheet aM_since aM_imageStrength aM_imageKind aM_imageMore aM_imageGlues aM_imagePieces aM_imageWarmth aM_imageSheet aM_imageDraw aM_stepWhat aM_stepPiece aM_stepPlace aM_stepSince aM_tape aM_shapes aM_pile aM_met aM_next aM_inputs aM_then : Nat) (M_pieces : Int32) (M_warmth : Int32) (M_draw : Int64) (M_steps : Int32) (M_undoable : Int32) (M_brought : Int32) (M_taped : Int32) (M_shapeMany : Int32) (M_ended : Int32) (M_cut : Int32) (M_mostPieces : Int32) (M_walks : Int32) (M_walked : Int32) (M_strength : Nat → Int32) (M_kind : Nat → Int32) (M_more : Nat → Int32) (M_glues : Nat → Int32) (M_sheet : Nat → Int32) (M_since : Nat → Int32) (M_stepWhat : Nat → Int32) (M_stepPiece : Nat → Int32) (M_stepPlace : Nat → Int32) (M_stepSince : Nat → Int32) (M_pile : Nat → Int32) (M_met : Nat → Int32) (p1 : Int32) (p2 : Int32) (Q : Int32 → (Nat → Int32) → (Nat → Int32) → (Nat → Int32) → (Nat → Int32) → (Nat → Int32) → (Nat → Int32) → (Int32) → (Int32) → (Nat → Int32) → (Nat → Int32) → Prop) (hw : wp_X8_go M_strength M_kind M_more M_glues M_warmth M_sheet M_since M_stepWhat M_stepPiece M_stepPlace M_stepSince M_steps M_undoable M_pile M_met p1 p2 Q) : Met l yX8_go wsX8_go rm_X8_go (va_Pc [.ref aM, .int p1, .int p2] (cx_B tS tT cI cJ cZ cO D sz (w_X8_go cI cJ cZ cO aM aM_strength aM_kind aM_more aM_glues aM_sheet aM_since aM_imageStrength aM_imageKind aM_imageMore aM_imageGlues aM_imagePieces aM_imageWarmth aM_imageSheet aM_imageDraw aM_stepWhat aM_stepPiece aM_stepPlace aM_stepSince aM_tape aM_shapes aM_pile aM_met aM_next aM_inputs aM_then M_pieces M_warmth M_draw M_steps M_undoable M_brought M_taped M_shapeMany M_ended M_cut M_mostPieces M_walks M_walked M_strength M_kind M_more M_glues M_sheet M_since M_stepWhat M_stepPiece M_stepPlace M_stepSince M_pile M_met))) (va_Qi (fun (r : Int32) (u : (Nat → Int32) × (Nat → Int32) × (Nat → Int32) × (Nat → Int32) × (Nat → Int32) × (Nat → Int32) × (Int32) × (Int32) × (Nat → Int32) × (Nat → Int32)) => Q r u.1 u.2.1 u.2.2.1 u.2.2.2.1 u.2.2.2.2.1 u.2.2.2.2.2.1 u.2.2.2.2.2.2.1 u.2.2.2.2.2.2.2.1 u.2.2.2.2.2.2.2.2.1 u.2.2.2.2.2.2.2.2.2) (fun (u : (Nat → Int32) × (Nat → Int32) × (Nat → Int32) × (Nat → Int32) × (Nat → Int32) × (Nat → Int32) × (Int32) × (Int32) × (Nat → Int32) × (Nat → Int32)) t => va_P D vwCl (w_X8_go cI cJ cZ cO aM aM_strength aM_kind aM_more aM_glues aM_sheet aM_since aM_imageStrength aM_imageKind aM_imageMore aM_imageGlues aM_imagePieces aM_imageWarmth aM_imageSheet aM_imageDraw aM_stepWhat aM_stepPiece aM_stepPlace aM_stepSince aM_tape aM_shapes aM_pile aM_met aM_next aM_inputs aM_then M_pieces M_warmth M_draw u.2.2.2.2.2.2.1 u.2.2.2.2.2.2.2.1 M_brought M_taped M_shapeMany M_ended M_cut M_mostPieces M_walks M_walked M_strength M_kind M_more M_glues u.1 u.2.1 u.2.2.1 u.2.2.2.1 u.2.2.2.2.1 u.2.2.2.2.2.1 u.2.2.2.2.2.2.2.2.1 u.2.2.2.2.2.2.2.2.2) t.heap) (va_A (w_X8_go cI cJ cZ cO aM aM_strength aM_kind aM_more aM_glues aM_sheet aM_since aM_imageStrength aM_imageKind aM_imageMore aM_imageGlues aM_imagePieces aM_imageWarmth aM_imageSheet aM_imageDraw aM_stepWhat aM_stepPiece aM_stepPlace aM_stepSince aM_tape aM_shapes aM_pile aM_met aM_next aM_inputs aM_then M_pieces M_warmth M_draw M_steps M_undoable M_brought M_taped M_shapeMany M_ended M_cut M_mostPieces M_walks M_walked M_strength M_kind M_more M_glues M_sheet M_since M_stepWhat M_stepPiece M_stepPlace M_stepSince M_pile M_met) sz)) 0 0 (va_A (w_X8_go cI cJ cZ cO aM aM_strength aM_kind aM_more aM_glues aM_sheet aM_since aM_imageStrength aM_imageKind aM_imageMore aM_imageGlues aM_imagePieces aM_imageWarmth aM_imageSheet aM_imageDraw aM_stepWhat aM_stepPiece aM_stepPlace aM_stepSince aM_tape aM_shapes aM_pile aM_met aM_next aM_inputs aM_then M_pieces M_warmth M_draw M_steps M_undoable M_brought M_taped M_shapeMany M_ended M_cut M_mostPieces M_walks M_walked M_strength M_kind M_more M_glues M_sheet M_since M_stepWhat M_stepPiece M_stepPlace M_stepSince M_pile M_met) sz) := by
  refine cx_met (cc := cX8_go) (maxL := 6) (ret := (some .boolean)) (Qc := fun A => va_Qi (fun (r : Int32) (u : (Nat → Int32) × (Nat → Int32) × (Nat → Int32) × (Nat → Int32) × (Nat → Int32) × (Nat → Int32) × (Int32) × (Int32) × (Nat → Int32) × (Nat → Int32)) => Q r u.1 u.2.1 u.2.2.1 u.2.2.2.1 u.2.2.2.2.1 u.2.2.2.2.2.1 u.2.2.2.2.2.2.1 u.2.2.2.2.2.2.2.1 u.2.2.2.2.2.2.2.2.1 u.2.2.2.2.2.2.2.2.2) (fun (u : (Nat → Int32) × (Nat → Int32) × (Nat → Int32) × (Nat → Int32) × (Nat → Int32) × (Nat → Int32) × (Int32) × (Int32) × (Nat → Int32) × (Nat → Int32)) t => va_P D vwCl (w_X8_go cI cJ cZ cO aM aM_strength aM_kind aM_more aM_glues aM_sheet aM_since aM_imageStrength aM_imageKind aM_imageMore aM_imageGlues aM_imagePieces aM_imageWarmth aM_imageSheet aM_imageDraw aM_stepWhat aM_stepPiece aM_stepPlace aM_stepSince aM_tape aM_shapes aM_pile aM_met aM_next aM_inputs aM_then M_pieces M_warmth M_draw u.2.2.2.2.2.2.1 u.2.2.2.2.2.2.2.1 M_brought M_taped M_shapeMany M_ended M_cut M_mostPieces M_walks M_walked M_strength M_kind M_more M_glues u.1 u.2.1 u.2.2.1 u.2.2.2.1 u.2.2.2.2.1 u.2.2.2.2.2.1 u.2.2.2.2.2.2.2.2.1 u.2.2.2.2.2.2.2.2.2) t.heap) A) (lv := [(0, .ref aM), (1, .int p1), (2, .int p2)]) (by decide) rfl (Nat.le_of_ble_eq_true rfl) rfl ?_
  intro p e s m args below meth c A Z hx hb hr hlocks hts hown hml hE hK hA hZ
  have hown : s.vm.findClass RX8 = some m.cls := hown
  have k_0 := hts (.fieldLink RX8 26 "GrowingTilesModel" "sheet" "[I") (List.mem_of_getElem? (i := 1) (by decide +kernel))
  have k_1 := hts (.fieldLink RX8 13 "GrowingTilesModel" "kind" "[I") (List.mem_of_getElem? (i := 2) (by decide +kernel))
  have k_2 := hts (.fieldLink RX8 22 "GrowingTilesModel" "warmth" "I") (List.mem_of_getElem? (i := 3) (by decide +kernel))
  have k_3 := hts (.fieldLink RX8 29 "GrowingTilesModel" "since" "[I") (List.mem_of_getElem? (i := 4) (by decide +kernel))
  intro H locs hP hD hS ls hl
  unfold wp_X8_go at hw
  refine lv_iload_n hx hb dX8_go_0 rfl (lv_at hl 1 rfl) ?_
  refine lv_iload_n hx hb dX8_go_1 rfl (lv_at hl 2 rfl) ?_
  refine cx_goi (va_runS (As := [.int p1, .int p2]) (rest := []) ⟨hx, hb, hml, hown, hts⟩ (c_X8_isOn l D cI cJ cZ cO tS tT H.size p1 p2 _ hw) (va_cwS 2 hts gX8_go_X8_isOn rfl rfl rfl ps_X8_isOn ⟨Nat.le_of_ble_eq_true rfl, Nat.le_of_ble_eq_true rfl⟩) (cx_preS (wc := w_X8_isOn) hE hK hP hD hS hA [] rfl rfl) rfl rfl hl.1 rfl (lv_room (Nat.le_of_ble_eq_true rfl)) dX8_go_2 ⟨Nat.le_of_ble_eq_true rfl, Nat.le_of_ble_eq_true rfl⟩) (fun (_ : Unit) => (w_X8_go cI cJ cZ cO aM aM_strength aM_kind aM_more aM_glues aM_sheet aM_since aM_imageStrength aM_imageKind aM_imageMore aM_imageGlues aM_imagePieces aM_imageWarmth aM_imageSheet aM_imageDraw aM_stepWhat aM_stepPiece aM_stepPlace aM_stepSince aM_tape aM_shapes aM_pile aM_met aM_next aM_inputs aM_then M_pieces M_warmth M_draw M_steps M_undoable M_brought M_taped M_shapeMany M_ended M_cut M_mostPieces M_walks M_walked M_strength M_kind M_more M_glues M_sheet M_since M_stepWhat M_stepPiece M_stepPlace M_stepSince M_pile M_met)) [] [0, 1, 2, 3, 4, 5, 6, 7, 8, 9, 10, 11, 12] (ads := []) (wr := [(aM, .inr (8, [.ref aM_strength, .ref aM_kind, .ref aM_more, .ref aM_glues, .int M_pieces, .int M_warmth, .long M_draw, .ref aM_sheet, .ref aM_since, .ref aM_imageStrength, .ref aM_imageKind, .ref aM_imageMore, .ref aM_imageGlues, .ref aM_imagePieces, .ref aM_imageWarmth, .ref aM_imageSheet, .ref aM_imageDraw, .ref aM_stepWhat, .ref aM_stepPiece, .ref aM_stepPlace, .ref aM_stepSince, .int M_steps, .int M_undoable, .int M_brought, .ref aM_tape, .int M_taped, .ref aM_shapes, .int M_shapeMany, .int M_ended, .int M_cut, .int M_mostPieces, .int M_walks, .int M_walked, .ref aM_pile, .ref aM_met, .ref aM_next, .ref aM_inputs, .ref aM_then])), (aM_strength, .inl (cI, 51, .inl M_strength)), (aM_kind, .inl (cI, 40, .inl M_kind)), (aM_more, .inl (cI, 40, .inl M_more)), (aM_glues, .inl (cI, 160, .inl M_glues)), (aM_sheet, .inl (cI, 256, .inl M_sheet)), (aM_since, .inl (cI, 256, .inl M_since)), (aM_stepWhat, .inl (cI, 200, .inl M_stepWhat)), (aM_stepPiece, .inl (cI, 200, .inl M_stepPiece)), (aM_stepPlace, .inl (cI, 200, .inl M_stepPlace)), (aM_stepSince, .inl (cI, 200, .inl M_stepSince)), (aM_pile, .inl (cI, 256, .inl M_pile)), (aM_met, .inl (cZ, 256, .inl M_met))]) rfl rfl (fun u => rfl) (fun u => rfl) rfl (fun u => rfl) rfl (fun u => rfl) rfl hP hD hS hA (fun r2 u H locs hw hP hD hS => ?_)
  refine lv_if_eq (tgt := 22) hx hb dX8_go_5 (by decide) (fun c5 => ?_) (fun c5 => ?_)
  · have hw := hw.1 c5
    refine lv_iconst (v := (0 : Int32)) hx hb dX8_go_22 kI_0 ?_
    rw [hZ]
    exact cx_retz (M_sheet, M_since, M_stepWhat, M_stepPiece, M_stepPlace, M_stepSince, M_steps, M_undoable, M_pile, M_met) hx hb hr hlocks rfl hw hP hS dX8_go_23
  · have hw := hw.2 c5
    refine lv_aload_n hx hb dX8_go_8 rfl (lv_at hl 0 rfl) ?_
    refine va_get (D := D) (ci := 8) (v := .ref aM_sheet) (C := RX8) (T := TX8) (N := 38) hx hb hts in_X8_go_X8 hown hK hP 0 rfl rfl 7 (by decide) k_0 (fun _ h9 => h9) rfl dX8_go_9 ?_
    refine lv_iload_n hx hb dX8_go_12 rfl (lv_at hl 1 rfl) ?_
    refine lv_bipush (v := (16 : Int32)) hx hb dX8_go_13 kB_16 ?_
    refine lv_iload_n hx hb dX8_go_15 rfl (lv_at hl 2 rfl) ?_
    refine lv_imul hx hb dX8_go_16 ?_
    refine lv_iadd hx hb dX8_go_17 ?_
    have h18 := hw.1
    have hw := hw.2
    refine va_iald hx hb hK hP 5 0 rfl rfl h18 dX8_go_18 ?_
    refine lv_topi (fun v18 e18 => ?_)
    have hw := hw v18 e18
    refine lv_if_ne (tgt := 24) hx hb dX8_go_19 (by decide) (fun c19 => ?_) (fun c19 => ?_)
    · have hw := hw.1 c19
      refine lv_iload_n hx hb dX8_go_24 rfl (lv_at hl 1 rfl) ?_
      refine lv_bipush (v := (16 : Int32)) hx hb dX8_go_25 kB_16 ?_
      refine lv_iload_n hx hb dX8_go_27 rfl (lv_at hl 2 rfl) ?_
      refine lv_imul hx hb dX8_go_28 ?_
      refine lv_iadd hx hb dX8_go_29 ?_
      refine lv_topi (fun v30 e30 => ?_)
      have hw := hw v30 e30
      refine lv_istore_n (lv' := [(3, .int v30), (0, .ref aM), (1, .int p1), (2, .int p2)]) hx hb dX8_go_30 rfl hl (by decide) rfl (fun ls hl => ?_)
      refine lv_aload_n hx hb dX8_go_31 rfl (lv_at hl 1 rfl) ?_
      refine va_get (D := D) (ci := 8) (v := .ref aM_sheet) (C := RX8) (T := TX8) (N := 38) hx hb hts in_X8_go_X8 hown hK hP 0 rfl rfl 7 (by decide) k_0 (fun _ h9 => h9) rfl dX8_go_32 ?_
      refine lv_iload_n hx hb dX8_go_35 rfl (lv_at hl 0 rfl) ?_
      have h36 := hw.1
      have hw := hw.2
      refine va_iald hx hb hK hP 5 0 rfl rfl h36 dX8_go_36 ?_
      refine lv_topi (fun v36 e36 => ?_)
      have hw := hw v36 e36
      refine lv_iconst (v := (1 : Int32)) hx hb dX8_go_37 kI_1 ?_
      refine lv_isub hx hb dX8_go_38 ?_
      refine lv_iconst (v := (2 : Int32)) hx hb dX8_go_39 kI_2 ?_
      refine lv_idiv hx hb dX8_go_40 (by decide) ?_
      refine lv_topi (fun v41 e41 => ?_)
      have hw := hw v41 e41
      refine lv_istore (lv' := [(4, .int v41), (3, .int v30), (0, .ref aM), (1, .int p1), (2, .int p2)]) hx hb dX8_go_41 hl (by decide) rfl (fun ls hl => ?_)
      refine lv_aload_n hx hb dX8_go_43 rfl (lv_at hl 2 rfl) ?_
      refine va_get (D := D) (ci := 8) (v := .ref aM_kind) (C := RX8) (T := TX8) (N := 38) hx hb hts in_X8_go_X8 hown hK hP 0 rfl rfl 1 (by decide) k_1 (fun _ h9 => h9) rfl dX8_go_44 ?_
      refine lv_iload hx hb dX8_go_47 (lv_at hl 0 rfl) ?_
      have h49 := hw.1
      have hw := hw.2
      refine va_iald hx hb hK hP 2 0 rfl rfl h49 dX8_go_49 ?_
      refine lv_topi (fun v49 e49 => ?_)
      have hw := hw v49 e49
      refine lv_iconst (v := (3 : Int32)) hx hb dX8_go_50 kI_3 ?_
      refine lv_icmp_ne (tgt := 82) hx hb dX8_go_51 (by decide) (fun c51 => ?_) (fun c51 => ?_)
      · have hw := hw.1 c51
        refine lv_iconst (v := (0 : Int32)) hx hb dX8_go_82 kI_0 ?_
        rw [hZ]
        exact cx_retz (M_sheet, M_since, M_stepWhat, M_stepPiece, M_stepPlace, M_stepSince, M_steps, M_undoable, M_pile, M_met) hx hb hr hlocks rfl hw hP hS dX8_go_83
      · have hw := hw.2 c51
        refine lv_aload_n hx hb dX8_go_54 rfl (lv_at hl 2 rfl) ?_
        refine lv_aload_n hx hb dX8_go_55 rfl (lv_at hl 2 rfl) ?_
        refine va_get (D := D) (ci := 8) (v := .ref aM_sheet) (C := RX8) (T := TX8) (N := 38) hx hb hts in_X8_go_X8 hown hK hP 0 rfl rfl 7 (by decide) k_0 (fun _ h9 => h9) rfl dX8_go_56 ?_
        refine lv_iconst (v := (0 : Int32)) hx hb dX8_go_59 kI_0 ?_
        refine lv_iload hx hb dX8_go_60 (lv_at hl 0 rfl) ?_
        refine lv_iload_n hx hb dX8_go_62 rfl (lv_at hl 3 rfl) ?_
        refine lv_iload_n hx hb dX8_go_63 rfl (lv_at hl 4 rfl) ?_
        refine cx_goi (va_runV (As := [.ref aM_sheet, .int (0 : Int32), .int v41, .int p1, .int p2]) (rest := []) ⟨hx, hb, hml, hown, hts⟩ (c_X8_holdOf l D cI cJ cZ cO tS tT H.size aM_sheet aM aM_strength aM_kind aM_more aM_glues aM_sheet aM_since aM_imageStrength aM_imageKind aM_imageMore aM_imageGlues aM_imagePieces aM_imageWarmth aM_imageSheet aM_imageDraw aM_stepWhat aM_stepPiece aM_stepPlace aM_stepSince aM_tape aM_shapes aM_pile aM_met aM_next aM_inputs aM_then 256 M_sheet M_pieces M_warmth M_draw M_steps M_undoable M_brought M_taped M_shapeMany M_ended M_cut M_mostPieces M_walks M_walked M_strength M_kind M_more M_glues (0 : Int32) v41 p1 p2 _ hw) (cwV 5 hts gX8_go_X8_holdOf rfl rfl rfl pv_X8_holdOf ⟨Nat.le_of_ble_eq_true rfl, Nat.le_of_ble_eq_true rfl⟩) (cx_preV (wc := w_X8_holdOf cI cJ cZ cO aM_sheet aM aM_strength aM_kind aM_more aM_glues aM_sheet aM_since aM_imageStrength aM_imageKind aM_imageMore aM_imageGlues aM_imagePieces aM_imageWarmth aM_imageSheet aM_imageDraw aM_stepWhat aM_stepPiece aM_stepPlace aM_stepSince aM_tape aM_shapes aM_pile aM_met aM_next aM_inputs aM_then 256 M_sheet M_pieces M_warmth M_draw M_steps M_undoable M_brought M_taped M_shapeMany M_ended M_cut M_mostPieces M_walks M_walked M_strength M_kind M_more M_glues) hE hK hP hD hS hA [5, 0, 1, 2, 3, 4] rfl rfl (va_recv hK hP (ci := 8) (q0 := 0) rfl rfl)) rfl rfl hl.1 rfl (lv_room (Nat.le_of_ble_eq_true rfl)) dX8_go_64 ⟨Nat.le_of_ble_eq_true rfl, Nat.le_of_ble_eq_true rfl⟩) (fun (_ : Unit) => (w_X8_go cI cJ cZ cO aM aM_strength aM_kind aM_more aM_glues aM_sheet aM_since aM_imageStrength aM_imageKind aM_imageMore aM_imageGlues aM_imagePieces aM_imageWarmth aM_imageSheet aM_imageDraw aM_stepWhat aM_stepPiece aM_stepPlace aM_stepSince aM_tape aM_shapes aM_pile aM_met aM_next aM_inputs aM_then M_pieces M_warmth M_draw M_steps M_undoable M_brought M_taped M_shapeMany M_ended M_cut M_mostPieces M_walks M_walked M_strength M_kind M_more M_glues M_sheet M_since M_stepWhat M_stepPiece M_stepPlace M_stepSince M_pile M_met)) [5, 0, 1, 2, 3, 4] [6, 7, 8, 9, 10, 11, 12] (ads := [aM_sheet, aM, aM_strength, aM_kind, aM_more, aM_glues]) (wr := [(aM_since, .inl (cI, 256, .inl M_since)), (aM_stepWhat, .inl (cI, 200, .inl M_stepWhat)), (aM_stepPiece, .inl (cI, 200, .inl M_stepPiece)), (aM_stepPlace, .inl (cI, 200, .inl M_stepPlace)), (aM_stepSince, .inl (cI, 200, .inl M_stepSince)), (aM_pile, .inl (cI, 256, .inl M_pile)), (aM_met, .inl (cZ, 256, .inl M_met))]) rfl rfl (fun u => rfl) (fun u => rfl) rfl (fun u => rfl) rfl (fun u => rfl) rfl hP hD hS hA (fun r64 u H locs hw hP hD hS => ?_)
        have hP : va_P D vwCl (w_X8_go cI cJ cZ cO aM aM_strength aM_kind aM_more aM_glues aM_sheet aM_since aM_imageStrength aM_imageKind aM_imageMore aM_imageGlues aM_imagePieces aM_imageWarmth aM_imageSheet aM_imageDraw aM_stepWhat aM_stepPiece aM_stepPlace aM_stepSince aM_tape aM_shapes aM_pile aM_met aM_next aM_inputs aM_then M_pieces M_warmth M_draw M_steps M_undoable M_brought M_taped M_shapeMany M_ended M_cut M_mostPieces M_walks M_walked M_strength M_kind M_more M_glues M_sheet M_since M_stepWhat M_stepPiece M_stepPlace M_stepSince M_pile M_met) H := hP
        have hD : va_D A (w_X8_go cI cJ cZ cO aM aM_strength aM_kind aM_more aM_glues aM_sheet aM_since aM_imageStrength aM_imageKind aM_imageMore aM_imageGlues aM_imagePieces aM_imageWarmth aM_imageSheet aM_imageDraw aM_stepWhat aM_stepPiece aM_stepPlace aM_stepSince aM_tape aM_shapes aM_pile aM_met aM_next aM_inputs aM_then M_pieces M_warmth M_draw M_steps M_undoable M_brought M_taped M_shapeMany M_ended M_cut M_mostPieces M_walks M_walked M_strength M_kind M_more M_glues M_sheet M_since M_stepWhat M_stepPiece M_stepPlace M_stepSince M_pile M_met) := hD
        refine lv_aload_n hx hb dX8_go_67 rfl (lv_at hl 2 rfl) ?_
        refine va_get (D := D) (ci := 8) (v := .int M_warmth) (C := RX8) (T := TX8) (N := 38) hx hb hts in_X8_go_X8 hown hK hP 0 rfl rfl 5 (by decide) k_2 (fun _ h9 => h9) rfl dX8_go_68 ?_
        refine lv_icmp_ne (tgt := 82) hx hb dX8_go_71 (by decide) (fun c71 => ?_) (fun c71 => ?_)
        · have hw := hw.1 c71
          refine lv_iconst (v := (0 : Int32)) hx hb dX8_go_82 kI_0 ?_
          rw [hZ]
          exact cx_retz (M_sheet, M_since, M_stepWhat, M_stepPiece, M_stepPlace, M_stepSince, M_steps, M_undoable, M_pile, M_met) hx hb hr hlocks rfl hw hP hS dX8_go_83
        · have hw := hw.2 c71
          refine lv_aload_n hx hb dX8_go_74 rfl (lv_at hl 2 rfl) ?_
          refine lv_iload_n hx hb dX8_go_75 rfl (lv_at hl 1 rfl) ?_
          refine cx_goi (va_runV (As := [.int v30]) (rest := []) ⟨hx, hb, hml, hown, hts⟩ (c_X8_hangs l D cI cJ cZ cO tS tT H.size aM aM_strength aM_kind aM_more aM_glues aM_sheet aM_since aM_imageStrength aM_imageKind aM_imageMore aM_imageGlues aM_imagePieces aM_imageWarmth aM_imageSheet aM_imageDraw aM_stepWhat aM_stepPiece aM_stepPlace aM_stepSince aM_tape aM_shapes aM_pile aM_met aM_next aM_inputs aM_then M_pieces M_warmth M_draw M_steps M_undoable M_brought M_taped M_shapeMany M_ended M_cut M_mostPieces M_walks M_walked M_strength M_kind M_more M_glues M_sheet M_pile M_met v30 _ hw) (cwV 1 hts gX8_go_X8_hangs rfl rfl rfl pv_X8_hangs ⟨Nat.le_of_ble_eq_true rfl, Nat.le_of_ble_eq_true rfl⟩) (cx_preV (wc := w_X8_hangs cI cJ cZ cO aM aM_strength aM_kind aM_more aM_glues aM_sheet aM_since aM_imageStrength aM_imageKind aM_imageMore aM_imageGlues aM_imagePieces aM_imageWarmth aM_imageSheet aM_imageDraw aM_stepWhat aM_stepPiece aM_stepPlace aM_stepSince aM_tape aM_shapes aM_pile aM_met aM_next aM_inputs aM_then M_pieces M_warmth M_draw M_steps M_undoable M_brought M_taped M_shapeMany M_ended M_cut M_mostPieces M_walks M_walked M_strength M_kind M_more M_glues M_sheet M_pile M_met) hE hK hP hD hS hA [0, 1, 2, 3, 4, 5, 11, 12] rfl rfl (va_recv hK hP (ci := 8) (q0 := 0) rfl rfl)) rfl rfl hl.1 rfl (lv_room (Nat.le_of_ble_eq_true rfl)) dX8_go_76 ⟨Nat.le_of_ble_eq_true rfl, Nat.le_of_ble_eq_true rfl⟩) (fun (u : (Nat → Int32) × (Nat → Int32)) => (w_X8_go cI cJ cZ cO aM aM_strength aM_kind aM_more aM_glues aM_sheet aM_since aM_imageStrength aM_imageKind aM_imageMore aM_imageGlues aM_imagePieces aM_imageWarmth aM_imageSheet aM_imageDraw aM_stepWhat aM_stepPiece aM_stepPlace aM_stepSince aM_tape aM_shapes aM_pile aM_met aM_next aM_inputs aM_then M_pieces M_warmth M_draw M_steps M_undoable M_brought M_taped M_shapeMany M_ended M_cut M_mostPieces M_walks M_walked M_strength M_kind M_more M_glues M_sheet M_since M_stepWhat M_stepPiece M_stepPlace M_stepSince u.1 u.2)) [0, 1, 2, 3, 4, 5, 11, 12] [6, 7, 8, 9, 10] (ads := [aM, aM_strength, aM_kind, aM_more, aM_glues, aM_sheet, aM_pile, aM_met]) (wr := [(aM_since, .inl (cI, 256, .inl M_since)), (aM_stepWhat, .inl (cI, 200, .inl M_stepWhat)), (aM_stepPiece, .inl (cI, 200, .inl M_stepPiece)), (aM_stepPlace, .inl (cI, 200, .inl M_stepPlace)), (aM_stepSince, .inl (cI, 200, .inl M_stepSince))]) rfl rfl (fun u => rfl) (fun u => rfl) rfl (fun u => rfl) rfl (fun u => rfl) rfl hP hD hS hA (fun r76 u H locs hw hP hD hS => ?_)
          obtain ⟨M_pile_76, M_met_76⟩ := u
          try dsimp only at hw
          have hP : va_P D vwCl (w_X8_go cI cJ cZ cO aM aM_strength aM_kind aM_more aM_glues aM_sheet aM_since aM_imageStrength aM_imageKind aM_imageMore aM_imageGlues aM_imagePieces aM_imageWarmth aM_imageSheet aM_imageDraw aM_stepWhat aM_stepPiece aM_stepPlace aM_stepSince aM_tape aM_shapes aM_pile aM_met aM_next aM_inputs aM_then M_pieces M_warmth M_draw M_steps M_undoable M_brought M_taped M_shapeMany M_ended M_cut M_mostPieces M_walks M_walked M_strength M_kind M_more M_glues M_sheet M_since M_stepWhat M_stepPiece M_stepPlace M_stepSince M_pile_76 M_met_76) H := hP
          have hD : va_D A (w_X8_go cI cJ cZ cO aM aM_strength aM_kind aM_more aM_glues aM_sheet aM_since aM_imageStrength aM_imageKind aM_imageMore aM_imageGlues aM_imagePieces aM_imageWarmth aM_imageSheet aM_imageDraw aM_stepWhat aM_stepPiece aM_stepPlace aM_stepSince aM_tape aM_shapes aM_pile aM_met aM_next aM_inputs aM_then M_pieces M_warmth M_draw M_steps M_undoable M_brought M_taped M_shapeMany M_ended M_cut M_mostPieces M_walks M_walked M_strength M_kind M_more M_glues M_sheet M_since M_stepWhat M_stepPiece M_stepPlace M_stepSince M_pile_76 M_met_76) := hD
          refine lv_if_ne (tgt := 84) hx hb dX8_go_79 (by decide) (fun c79 => ?_) (fun c79 => ?_)
          · have hw := hw.1 c79
            refine lv_aload_n hx hb dX8_go_84 rfl (lv_at hl 2 rfl) ?_
            refine va_get (D := D) (ci := 8) (v := .ref aM_since) (C := RX8) (T := TX8) (N := 38) hx hb hts in_X8_go_X8 hown hK hP 0 rfl rfl 8 (by decide) k_3 (fun _ h9 => h9) rfl dX8_go_85 ?_
            refine lv_iload_n hx hb dX8_go_88 rfl (lv_at hl 1 rfl) ?_
            have h89 := hw.1
            have hw := hw.2
            refine va_iald hx hb hK hP 6 0 rfl rfl h89 dX8_go_89 ?_
            refine lv_topi (fun v89 e89 => ?_)
            have hw := hw v89 e89
            refine lv_istore (lv' := [(5, .int v89), (4, .int v41), (3, .int v30), (0, .ref aM), (1, .int p1), (2, .int p2)]) hx hb dX8_go_90 hl (by decide) rfl (fun ls hl => ?_)
            refine lv_aload_n hx hb dX8_go_92 rfl (lv_at hl 3 rfl) ?_
            refine va_get (D := D) (ci := 8) (v := .ref aM_sheet) (C := RX8) (T := TX8) (N := 38) hx hb hts in_X8_go_X8 hown hK hP 0 rfl rfl 7 (by decide) k_0 (fun _ h9 => h9) rfl dX8_go_93 ?_
            refine lv_iload_n hx hb dX8_go_96 rfl (lv_at hl 2 rfl) ?_
            refine lv_iconst (v := (0 : Int32)) hx hb dX8_go_97 kI_0 ?_
            have h98 := hw.1
            have hw := hw.2
            refine va_iast hx hb hK hP hD hS 5 0 rfl rfl h98 dX8_go_98 (fun H locs hP hD hS => ?_)
            have hP : va_P D vwCl (w_X8_go cI cJ cZ cO aM aM_strength aM_kind aM_more aM_glues aM_sheet aM_since aM_imageStrength aM_imageKind aM_imageMore aM_imageGlues aM_imagePieces aM_imageWarmth aM_imageSheet aM_imageDraw aM_stepWhat aM_stepPiece aM_stepPlace aM_stepSince aM_tape aM_shapes aM_pile aM_met aM_next aM_inputs aM_then M_pieces M_warmth M_draw M_steps M_undoable M_brought M_taped M_shapeMany M_ended M_cut M_mostPieces M_walks M_walked M_strength M_kind M_more M_glues (upd M_sheet v30.toNatClampNeg (0 : Int32)) M_since M_stepWhat M_stepPiece M_stepPlace M_stepSince M_pile_76 M_met_76) H := hP
            have hD : va_D A (w_X8_go cI cJ cZ cO aM aM_strength aM_kind aM_more aM_glues aM_sheet aM_since aM_imageStrength aM_imageKind aM_imageMore aM_imageGlues aM_imagePieces aM_imageWarmth aM_imageSheet aM_imageDraw aM_stepWhat aM_stepPiece aM_stepPlace aM_stepSince aM_tape aM_shapes aM_pile aM_met aM_next aM_inputs aM_then M_pieces M_warmth M_draw M_steps M_undoable M_brought M_taped M_shapeMany M_ended M_cut M_mostPieces M_walks M_walked M_strength M_kind M_more M_glues (upd M_sheet v30.toNatClampNeg (0 : Int32)) M_since M_stepWhat M_stepPiece M_stepPlace M_stepSince M_pile_76 M_met_76) := hD
            obtain ⟨M_sheet_98, e98⟩ : ∃ y : Nat → Int32, y = upd M_sheet v30.toNatClampNeg (0 : Int32) := ⟨_, rfl⟩
            rw [← e98] at hP hD
            have hw := hw M_sheet_98 e98
            refine lv_aload_n hx hb dX8_go_99 rfl (lv_at hl 3 rfl) ?_
            refine va_get (D := D) (ci := 8) (v := .ref aM_since) (C := RX8) (T := TX8) (N := 38) hx hb hts in_X8_go_X8 hown hK hP 0 rfl rfl 8 (by decide) k_3 (fun _ h9 => h9) rfl dX8_go_100 ?_
            refine lv_iload_n hx hb dX8_go_103 rfl (lv_at hl 2 rfl) ?_
            refine lv_iconst (v := (-1 : Int32)) hx hb dX8_go_104 kI_m1 ?_
            have h105 := hw.1
            have hw := hw.2
            refine va_iast hx hb hK hP hD hS 6 0 rfl rfl h105 dX8_go_105 (fun H locs hP hD hS => ?_)
            have hP : va_P D vwCl (w_X8_go cI cJ cZ cO aM aM_strength aM_kind aM_more aM_glues aM_sheet aM_since aM_imageStrength aM_imageKind aM_imageMore aM_imageGlues aM_imagePieces aM_imageWarmth aM_imageSheet aM_imageDraw aM_stepWhat aM_stepPiece aM_stepPlace aM_stepSince aM_tape aM_shapes aM_pile aM_met aM_next aM_inputs aM_then M_pieces M_warmth M_draw M_steps M_undoable M_brought M_taped M_shapeMany M_ended M_cut M_mostPieces M_walks M_walked M_strength M_kind M_more M_glues M_sheet_98 (upd M_since v30.toNatClampNeg (-1 : Int32)) M_stepWhat M_stepPiece M_stepPlace M_stepSince M_pile_76 M_met_76) H := hP
            have hD : va_D A (w_X8_go cI cJ cZ cO aM aM_strength aM_kind aM_more aM_glues aM_sheet aM_since aM_imageStrength aM_imageKind aM_imageMore aM_imageGlues aM_imagePieces aM_imageWarmth aM_imageSheet aM_imageDraw aM_stepWhat aM_stepPiece aM_stepPlace aM_stepSince aM_tape aM_shapes aM_pile aM_met aM_next aM_inputs aM_then M_pieces M_warmth M_draw M_steps M_undoable M_brought M_taped M_shapeMany M_ended M_cut M_mostPieces M_walks M_walked M_strength M_kind M_more M_glues M_sheet_98 (upd M_since v30.toNatClampNeg (-1 : Int32)) M_stepWhat M_stepPiece M_stepPlace M_stepSince M_pile_76 M_met_76) := hD
            obtain ⟨M_since_105, e105⟩ : ∃ y : Nat → Int32, y = upd M_since v30.toNatClampNeg (-1 : Int32) := ⟨_, rfl⟩
            rw [← e105] at hP hD
            have hw := hw M_since_105 e105
            refine lv_aload_n hx hb dX8_go_106 rfl (lv_at hl 3 rfl) ?_
            refine lv_iconst (v := (2 : Int32)) hx hb dX8_go_107 kI_2 ?_
            refine lv_iload hx hb dX8_go_108 (lv_at hl 1 rfl) ?_
            refine lv_iload_n hx hb dX8_go_110 rfl (lv_at hl 2 rfl) ?_
            refine lv_iload hx hb dX8_go_111 (lv_at hl 0 rfl) ?_
            refine cx_gov (va_runV (As := [.int (2 : Int32), .int v41, .int v30, .int v89]) (rest := []) ⟨hx, hb, hml, hown, hts⟩ (c_X8_step l D cI cJ cZ cO tS tT H.size aM aM_strength aM_kind aM_more aM_glues aM_sheet aM_since aM_imageStrength aM_imageKind aM_imageMore aM_imageGlues aM_imagePieces aM_imageWarmth aM_imageSheet aM_imageDraw aM_stepWhat aM_stepPiece aM_stepPlace aM_stepSince aM_tape aM_shapes aM_pile aM_met aM_next aM_inputs aM_then M_pieces M_warmth M_draw M_steps M_undoable M_brought M_taped M_shapeMany M_ended M_cut M_mostPieces M_walks M_walked M_stepWhat M_stepPiece M_stepPlace M_stepSince (2 : Int32) v41 v30 v89 _ hw) (cwV 4 hts gX8_go_X8_step rfl rfl rfl pv_X8_step ⟨Nat.le_of_ble_eq_true rfl, Nat.le_of_ble_eq_true rfl⟩) (cx_preV (wc := w_X8_step cI cJ cZ cO aM aM_strength aM_kind aM_more aM_glues aM_sheet aM_since aM_imageStrength aM_imageKind aM_imageMore aM_imageGlues aM_imagePieces aM_imageWarmth aM_imageSheet aM_imageDraw aM_stepWhat aM_stepPiece aM_stepPlace aM_stepSince aM_tape aM_shapes aM_pile aM_met aM_next aM_inputs aM_then M_pieces M_warmth M_draw M_steps M_undoable M_brought M_taped M_shapeMany M_ended M_cut M_mostPieces M_walks M_walked M_stepWhat M_stepPiece M_stepPlace M_stepSince) hE hK hP hD hS hA [0, 7, 8, 9, 10] rfl rfl (va_recv hK hP (ci := 8) (q0 := 0) rfl rfl)) rfl rfl hl.1 rfl (lv_room (Nat.le_of_ble_eq_true rfl)) dX8_go_113 ⟨Nat.le_of_ble_eq_true rfl, Nat.le_of_ble_eq_true rfl⟩) (fun (u : (Nat → Int32) × (Nat → Int32) × (Nat → Int32) × (Nat → Int32) × (Int32) × (Int32)) => (w_X8_go cI cJ cZ cO aM aM_strength aM_kind aM_more aM_glues aM_sheet aM_since aM_imageStrength aM_imageKind aM_imageMore aM_imageGlues aM_imagePieces aM_imageWarmth aM_imageSheet aM_imageDraw aM_stepWhat aM_stepPiece aM_stepPlace aM_stepSince aM_tape aM_shapes aM_pile aM_met aM_next aM_inputs aM_then M_pieces M_warmth M_draw u.2.2.2.2.1 u.2.2.2.2.2 M_brought M_taped M_shapeMany M_ended M_cut M_mostPieces M_walks M_walked M_strength M_kind M_more M_glues M_sheet_98 M_since_105 u.1 u.2.1 u.2.2.1 u.2.2.2.1 M_pile_76 M_met_76)) [0, 7, 8, 9, 10] [1, 2, 3, 4, 5, 6, 11, 12] (ads := [aM, aM_stepWhat, aM_stepPiece, aM_stepPlace, aM_stepSince]) (wr := [(aM_strength, .inl (cI, 51, .inl M_strength)), (aM_kind, .inl (cI, 40, .inl M_kind)), (aM_more, .inl (cI, 40, .inl M_more)), (aM_glues, .inl (cI, 160, .inl M_glues)), (aM_sheet, .inl (cI, 256, .inl M_sheet_98)), (aM_since, .inl (cI, 256, .inl M_since_105)), (aM_pile, .inl (cI, 256, .inl M_pile_76)), (aM_met, .inl (cZ, 256, .inl M_met_76))]) rfl rfl (fun u => rfl) (fun u => rfl) rfl (fun u => rfl) rfl (fun u => rfl) rfl hP hD hS hA (fun u H locs hw hP hD hS => ?_)
            obtain ⟨M_stepWhat_113, M_stepPiece_113, M_stepPlace_113, M_stepSince_113, M_steps_113, M_undoable_113⟩ := u
            try dsimp only at hw
            have hP : va_P D vwCl (w_X8_go cI cJ cZ cO aM aM_strength aM_kind aM_more aM_glues aM_sheet aM_since aM_imageStrength aM_imageKind aM_imageMore aM_imageGlues aM_imagePieces aM_imageWarmth aM_imageSheet aM_imageDraw aM_stepWhat aM_stepPiece aM_stepPlace aM_stepSince aM_tape aM_shapes aM_pile aM_met aM_next aM_inputs aM_then M_pieces M_warmth M_draw M_steps_113 M_undoable_113 M_brought M_taped M_shapeMany M_ended M_cut M_mostPieces M_walks M_walked M_strength M_kind M_more M_glues M_sheet_98 M_since_105 M_stepWhat_113 M_stepPiece_113 M_stepPlace_113 M_stepSince_113 M_pile_76 M_met_76) H := hP
            have hD : va_D A (w_X8_go cI cJ cZ cO aM aM_strength aM_kind aM_more aM_glues aM_sheet aM_since aM_imageStrength aM_imageKind aM_imageMore aM_imageGlues aM_imagePieces aM_imageWarmth aM_imageSheet aM_imageDraw aM_stepWhat aM_stepPiece aM_stepPlace aM_stepSince aM_tape aM_shapes aM_pile aM_met aM_next aM_inputs aM_then M_pieces M_warmth M_draw M_steps_113 M_undoable_113 M_brought M_taped M_shapeMany M_ended M_cut M_mostPieces M_walks M_walked M_strength M_kind M_more M_glues M_sheet_98 M_since_105 M_stepWhat_113 M_stepPiece_113 M_stepPlace_113 M_stepSince_113 M_pile_76 M_met_76) := hD
            refine lv_iconst (v := (1 : Int32)) hx hb dX8_go_116 kI_1 ?_
            rw [hZ]
            exact cx_retz (M_sheet_98, M_since_105, M_stepWhat_113, M_stepPiece_113, M_stepPlace_113, M_stepSince_113, M_steps_113, M_undoable_113, M_pile_76, M_met_76) hx hb hr hlocks rfl hw hP hS dX8_go_117
          · have hw := hw.2 c79
            refine lv_iconst (v := (0 : Int32)) hx hb dX8_go_82 kI_0 ?_
            rw [hZ]
            exact cx_retz (M_sheet, M_since, M_stepWhat, M_stepPiece, M_stepPlace, M_stepSince, M_steps, M_undoable, M_pile_76, M_met_76) hx hb hr hlocks rfl hw hP hS dX8_go_83
    · have hw := hw.2 c19
      refine lv_iconst (v := (0 : Int32)) hx hb dX8_go_22 kI_0 ?_
      rw [hZ]
      exact cx_retz (M_sheet, M_since, M_stepWhat, M_stepPiece, M_stepPlace, M_stepSince, M_steps, M_undoable, M_pile, M_met) hx hb hr hlocks rfl hw hP hS dX8_go_23
set_option maxRecDepth 100000 in
set_option maxHeartbeats 4000000 in
theorem c_X8_choices (l : Launch) (D : va_G) (cI cJ cZ cO : ClassId) (tS tT : Nat) (sz : Nat) (aM aM_strength aM_kind aM_more aM_glues aM_sheet aM_since aM_imageStrength aM_imageKind aM_imageMore aM_imageGlues aM_imagePieces aM_imageWarmth aM_imageSheet aM_imageDraw aM_stepWhat aM_stepPiece aM_stepPlace aM_stepSince aM_tape aM_shapes aM_pile aM_met aM_next aM_inputs aM_then : Nat) (M_pieces : Int32) (M_warmth : Int32) (M_draw : Int64) (M_steps : Int32) (M_undoable : Int32) (M_brought : Int32) (M_taped : Int32) (M_shapeMany : Int32) (M_ended : Int32) (M_cut : Int32) (M_mostPieces : Int32) (M_walks : Int32) (M_walked : Int32) (M_strength : Nat → Int32) (M_kind : Nat → Int32) (M_more : Nat → Int32) (M_glues : Nat → Int32) (M_sheet : Nat → Int32) (Q : Int32 → Prop) (hw : wp_X8_choices M_strength M_kind M_more M_glues M_pieces M_warmth M_sheet Q) : Met l yX8_choices wsX8_choices rm_X8_choices (va_Pc [.ref aM] (cx_B tS tT cI cJ cZ cO D sz (w_X8_choices cI cJ cZ cO aM aM_strength aM_kind aM_more aM_glues aM_sheet aM_since aM_imageStrength aM_imageKind aM_imageMore aM_imageGlues aM_imagePieces aM_imageWarmth aM_imageSheet aM_imageDraw aM_stepWhat aM_stepPiece aM_stepPlace aM_stepSince aM_tape aM_shapes aM_pile aM_met aM_next aM_inputs aM_then M_pieces M_warmth M_draw M_steps M_undoable M_brought M_taped M_shapeMany M_ended M_cut M_mostPieces M_walks M_walked M_strength M_kind M_more M_glues M_sheet))) (va_Qi (fun (r : Int32) (_ : Unit) => Q r) (fun (u : Unit) t => va_P D vwCl (w_X8_choices cI cJ cZ cO aM aM_strength aM_kind aM_more aM_glues aM_sheet aM_since aM_imageStrength aM_imageKind aM_imageMore aM_imageGlues aM_imagePieces aM_imageWarmth aM_imageSheet aM_imageDraw aM_stepWhat aM_stepPiece aM_stepPlace aM_stepSince aM_tape aM_shapes aM_pile aM_met aM_next aM_inputs aM_then M_pieces M_warmth M_draw M_steps M_undoable M_brought M_taped M_shapeMany M_ended M_cut M_mostPieces M_walks M_walked M_strength M_kind M_more M_glues M_sheet) t.heap) (va_A (w_X8_choices cI cJ cZ cO aM aM_strength aM_kind aM_more aM_glues aM_sheet aM_since aM_imageStrength aM_imageKind aM_imageMore aM_imageGlues aM_imagePieces aM_imageWarmth aM_imageSheet aM_imageDraw aM_stepWhat aM_stepPiece aM_stepPlace aM_stepSince aM_tape aM_shapes aM_pile aM_met aM_next aM_inputs aM_then M_pieces M_warmth M_draw M_steps M_undoable M_brought M_taped M_shapeMany M_ended M_cut M_mostPieces M_walks M_walked M_strength M_kind M_more M_glues M_sheet) sz)) 0 0 (va_A (w_X8_choices cI cJ cZ cO aM aM_strength aM_kind aM_more aM_glues aM_sheet aM_since aM_imageStrength aM_imageKind aM_imageMore aM_imageGlues aM_imagePieces aM_imageWarmth aM_imageSheet aM_imageDraw aM_stepWhat aM_stepPiece aM_stepPlace aM_stepSince aM_tape aM_shapes aM_pile aM_met aM_next aM_inputs aM_then M_pieces M_warmth M_draw M_steps M_undoable M_brought M_taped M_shapeMany M_ended M_cut M_mostPieces M_walks M_walked M_strength M_kind M_more M_glues M_sheet) sz) := by
  refine cx_met (cc := cX8_choices) (maxL := 5) (ret := (some .int)) (Qc := fun A => va_Qi (fun (r : Int32) (_ : Unit) => Q r) (fun (u : Unit) t => va_P D vwCl (w_X8_choices cI cJ cZ cO aM aM_strength aM_kind aM_more aM_glues aM_sheet aM_since aM_imageStrength aM_imageKind aM_imageMore aM_imageGlues aM_imagePieces aM_imageWarmth aM_imageSheet aM_imageDraw aM_stepWhat aM_stepPiece aM_stepPlace aM_stepSince aM_tape aM_shapes aM_pile aM_met aM_next aM_inputs aM_then M_pieces M_warmth M_draw M_steps M_undoable M_brought M_taped M_shapeMany M_ended M_cut M_mostPieces M_walks M_walked M_strength M_kind M_more M_glues M_sheet) t.heap) A) (lv := [(0, .ref aM)]) (by decide) rfl (Nat.le_of_ble_eq_true rfl) rfl ?_
  intro p e s m args below meth c A Z hx hb hr hlocks hts hown hml hE hK hA hZ
  have hown : s.vm.findClass RX8 = some m.cls := hown
  have k_0 := hts (.fieldLink RX8 92 "GrowingTilesModel" "pieces" "I") (List.mem_of_getElem? (i := 1) (by decide +kernel))
  have k_1 := hts (.fieldLink RX8 26 "GrowingTilesModel" "sheet" "[I") (List.mem_of_getElem? (i := 2) (by decide +kernel))
  have b_4 : ∀ n_4 : Nat, ∀ (x1 : Int32) (x2 : Int32), wq_X8_choices_4 M_strength M_kind M_more M_glues M_pieces M_warmth M_sheet Q n_4 x1 x2 → ∀ (H : Heap) (locs : List Loc), va_P D vwCl (w_X8_choices cI cJ cZ cO aM aM_strength aM_kind aM_more aM_glues aM_sheet aM_since aM_imageStrength aM_imageKind aM_imageMore aM_imageGlues aM_imagePieces aM_imageWarmth aM_imageSheet aM_imageDraw aM_stepWhat aM_stepPiece aM_stepPlace aM_stepSince aM_tape aM_shapes aM_pile aM_met aM_next aM_inputs aM_then M_pieces M_warmth M_draw M_steps M_undoable M_brought M_taped M_shapeMany M_ended M_cut M_mostPieces M_walks M_walked M_strength M_kind M_more M_glues M_sheet) H → va_D A (w_X8_choices cI cJ cZ cO aM aM_strength aM_kind aM_more aM_glues aM_sheet aM_since aM_imageStrength aM_imageKind aM_imageMore aM_imageGlues aM_imagePieces aM_imageWarmth aM_imageSheet aM_imageDraw aM_stepWhat aM_stepPiece aM_stepPlace aM_stepSince aM_tape aM_shapes aM_pile aM_met aM_next aM_inputs aM_then M_pieces M_warmth M_draw M_steps M_undoable M_brought M_taped M_shapeMany M_ended M_cut M_mostPieces M_walks M_walked M_strength M_kind M_more M_glues M_sheet) → va_S A s.heap H locs → ∀ ls : Array Slot, lv_has ls 5 [(0, .ref aM), (1, .int x1), (2, .int x2)] → W p l e rm_X8_choices s m args below meth c H locs 0 0 Z (F0 m 4 ls []) := by
    intro n_4
    induction n_4 with
    | zero => intro x1 x2 hw; exact False.elim hw
    | succ n_4 ih_4 =>
      have b_12 : ∀ n_12 : Nat, ∀ (x1 : Int32) (x2 : Int32) (x3 : Int32), wq_X8_choices_12 M_strength M_kind M_more M_glues M_pieces M_warmth M_sheet (wq_X8_choices_4 M_strength M_kind M_more M_glues M_pieces M_warmth M_sheet Q n_4) Q n_12 x1 x2 x3 → ∀ (H : Heap) (locs : List Loc), va_P D vwCl (w_X8_choices cI cJ cZ cO aM aM_strength aM_kind aM_more aM_glues aM_sheet aM_since aM_imageStrength aM_imageKind aM_imageMore aM_imageGlues aM_imagePieces aM_imageWarmth aM_imageSheet aM_imageDraw aM_stepWhat aM_stepPiece aM_stepPlace aM_stepSince aM_tape aM_shapes aM_pile aM_met aM_next aM_inputs aM_then M_pieces M_warmth M_draw M_steps M_undoable M_brought M_taped M_shapeMany M_ended M_cut M_mostPieces M_walks M_walked M_strength M_kind M_more M_glues M_sheet) H → va_D A (w_X8_choices cI cJ cZ cO aM aM_strength aM_kind aM_more aM_glues aM_sheet aM_since aM_imageStrength aM_imageKind aM_imageMore aM_imageGlues aM_imagePieces aM_imageWarmth aM_imageSheet aM_imageDraw aM_stepWhat aM_stepPiece aM_stepPlace aM_stepSince aM_tape aM_shapes aM_pile aM_met aM_next aM_inputs aM_then M_pieces M_warmth M_draw M_steps M_undoable M_brought M_taped M_shapeMany M_ended M_cut M_mostPieces M_walks M_walked M_strength M_kind M_more M_glues M_sheet) → va_S A s.heap H locs → ∀ ls : Array Slot, lv_has ls 5 [(0, .ref aM), (1, .int x1), (2, .int x2), (3, .int x3)] → W p l e rm_X8_choices s m args below meth c H locs 0 0 Z (F0 m 12 ls []) := by
        intro n_12
        induction n_12 with
        | zero => intro x1 x2 x3 hw; exact False.elim hw
        | succ n_12 ih_12 =>
          have b_21 : ∀ n_21 : Nat, ∀ (x1 : Int32) (x2 : Int32) (x3 : Int32) (x4 : Int32), wq_X8_choices_21 M_strength M_kind M_more M_glues M_pieces M_warmth M_sheet (wq_X8_choices_4 M_strength M_kind M_more M_glues M_pieces M_warmth M_sheet Q n_4) (wq_X8_choices_12 M_strength M_kind M_more M_glues M_pieces M_warmth M_sheet (wq_X8_choices_4 M_strength M_kind M_more M_glues M_pieces M_warmth M_sheet Q n_4) Q n_12) Q n_21 x1 x2 x3 x4 → ∀ (H : Heap) (locs : List Loc), va_P D vwCl (w_X8_choices cI cJ cZ cO aM aM_strength aM_kind aM_more aM_glues aM_sheet aM_since aM_imageStrength aM_imageKind aM_imageMore aM_imageGlues aM_imagePieces aM_imageWarmth aM_imageSheet aM_imageDraw aM_stepWhat aM_stepPiece aM_stepPlace aM_stepSince aM_tape aM_shapes aM_pile aM_met aM_next aM_inputs aM_then M_pieces M_warmth M_draw M_steps M_undoable M_brought M_taped M_shapeMany M_ended M_cut M_mostPieces M_walks M_walked M_strength M_kind M_more M_glues M_sheet) H → va_D A (w_X8_choices cI cJ cZ cO aM aM_strength aM_kind aM_more aM_glues aM_sheet aM_since aM_imageStrength aM_imageKind aM_imageMore aM_imageGlues aM_imagePieces aM_imageWarmth aM_imageSheet aM_imageDraw aM_stepWhat aM_stepPiece aM_stepPlace aM_stepSince aM_tape aM_shapes aM_pile aM_met aM_next aM_inputs aM_then M_pieces M_warmth M_draw M_steps M_undoable M_brought M_taped M_shapeMany M_ended M_cut M_mostPieces M_walks M_walked M_strength M_kind M_more M_glues M_sheet) → va_S A s.heap H locs → ∀ ls : Array Slot, lv_has ls 5 [(0, .ref aM), (1, .int x1), (2, .int x2), (3, .int x3), (4, .int x4)] → W p l e rm_X8_choices s m args below meth c H locs 0 0 Z (F0 m 21 ls []) := by
            intro n_21
            induction n_21 with
            | zero => intro x1 x2 x3 x4 hw; exact False.elim hw
            | succ n_21 ih_21 =>
              intro x1 x2 x3 x4 hw H locs hP hD hS ls hl
              have hw : wf_X8_choices_21 M_strength M_kind M_more M_glues M_pieces M_warmth M_sheet (wq_X8_choices_4 M_strength M_kind M_more M_glues M_pieces M_warmth M_sheet Q n_4) (wq_X8_choices_12 M_strength M_kind M_more M_glues M_pieces M_warmth M_sheet (wq_X8_choices_4 M_strength M_kind M_more M_glues M_pieces M_warmth M_sheet Q n_4) Q n_12) Q (wq_X8_choices_21 M_strength M_kind M_more M_glues M_pieces M_warmth M_sheet (wq_X8_choices_4 M_strength M_kind M_more M_glues M_pieces M_warmth M_sheet Q n_4) (wq_X8_choices_12 M_strength M_kind M_more M_glues M_pieces M_warmth M_sheet (wq_X8_choices_4 M_strength M_kind M_more M_glues M_pieces M_warmth M_sheet Q n_4) Q n_12) Q n_21) x1 x2 x3 x4 := hw
              unfold wf_X8_choices_21 at hw
              refine lv_iload hx hb dX8_choices_21 (lv_at hl 4 rfl) ?_
              refine lv_aload_n hx hb dX8_choices_23 rfl (lv_at hl 0 rfl) ?_
              refine va_get (D := D) (ci := 8) (v := .int M_pieces) (C := RX8) (T := TX8) (N := 38) hx hb hts in_X8_choices_X8 hown hK hP 0 rfl rfl 4 (by decide) k_0 (fun _ h9 => h9) rfl dX8_choices_24 ?_
              refine lv_icmp_ge (tgt := 60) hx hb dX8_choices_27 (by decide) (fun c27 => ?_) (fun c27 => ?_)
              · have hw := hw.1 c27
                obtain ⟨v60, e60⟩ : ∃ y : Int32, y = x3 + (1 : Int32) := ⟨_, rfl⟩
                have hw := hw v60 e60
                refine lv_iinc (v := v60) (lv' := [(3, .int v60), (0, .ref aM), (1, .int x1), (2, .int x2), (4, .int x4)]) hx hb dX8_choices_60 hl (k := 3) rfl (by rw [e60, kI_1]) (by decide) rfl (fun ls hl => ?_)
                refine lv_goto (tgt := 12) hx hb dX8_choices_63 (by decide) ?_
                exact ih_12 x1 x2 v60 hw H locs hP hD hS ls (lv_sub hl [1, 2, 3, 0] rfl)
              · have hw := hw.2 c27
                refine lv_iload_n hx hb dX8_choices_30 rfl (lv_at hl 1 rfl) ?_
                refine lv_aload_n hx hb dX8_choices_31 rfl (lv_at hl 0 rfl) ?_
                refine lv_aload_n hx hb dX8_choices_32 rfl (lv_at hl 0 rfl) ?_
                refine va_get (D := D) (ci := 8) (v := .ref aM_sheet) (C := RX8) (T := TX8) (N := 38) hx hb hts in_X8_choices_X8 hown hK hP 0 rfl rfl 7 (by decide) k_1 (fun _ h9 => h9) rfl dX8_choices_33 ?_
                refine lv_iconst (v := (0 : Int32)) hx hb dX8_choices_36 kI_0 ?_
                refine lv_iload hx hb dX8_choices_37 (lv_at hl 4 rfl) ?_
                refine lv_iload_n hx hb dX8_choices_39 rfl (lv_at hl 3 rfl) ?_
                refine lv_iload_n hx hb dX8_choices_40 rfl (lv_at hl 2 rfl) ?_
                refine cx_goi (va_runV (As := [.ref aM_sheet, .int (0 : Int32), .int x4, .int x3, .int x2]) (rest := [.int x1]) ⟨hx, hb, hml, hown, hts⟩ (c_X8_mayCome l D cI cJ cZ cO tS tT H.size aM_sheet aM aM_strength aM_kind aM_more aM_glues aM_sheet aM_since aM_imageStrength aM_imageKind aM_imageMore aM_imageGlues aM_imagePieces aM_imageWarmth aM_imageSheet aM_imageDraw aM_stepWhat aM_stepPiece aM_stepPlace aM_stepSince aM_tape aM_shapes aM_pile aM_met aM_next aM_inputs aM_then 256 M_sheet M_pieces M_warmth M_draw M_steps M_undoable M_brought M_taped M_shapeMany M_ended M_cut M_mostPieces M_walks M_walked M_strength M_kind M_more M_glues (0 : Int32) x4 x3 x2 _ hw) (cwV 5 hts gX8_choices_X8_mayCome rfl rfl rfl pv_X8_mayCome ⟨Nat.le_of_ble_eq_true rfl, Nat.le_of_ble_eq_true rfl⟩) (cx_preV (wc := w_X8_mayCome cI cJ cZ cO aM_sheet aM aM_strength aM_kind aM_more aM_glues aM_sheet aM_since aM_imageStrength aM_imageKind aM_imageMore aM_imageGlues aM_imagePieces aM_imageWarmth aM_imageSheet aM_imageDraw aM_stepWhat aM_stepPiece aM_stepPlace aM_stepSince aM_tape aM_shapes aM_pile aM_met aM_next aM_inputs aM_then 256 M_sheet M_pieces M_warmth M_draw M_steps M_undoable M_brought M_taped M_shapeMany M_ended M_cut M_mostPieces M_walks M_walked M_strength M_kind M_more M_glues) hE hK hP hD hS hA [5, 0, 1, 2, 3, 4] rfl rfl (va_recv hK hP (ci := 8) (q0 := 0) rfl rfl)) rfl rfl hl.1 rfl (lv_room (Nat.le_of_ble_eq_true rfl)) dX8_choices_41 ⟨Nat.le_of_ble_eq_true rfl, Nat.le_of_ble_eq_true rfl⟩) (fun (_ : Unit) => (w_X8_choices cI cJ cZ cO aM aM_strength aM_kind aM_more aM_glues aM_sheet aM_since aM_imageStrength aM_imageKind aM_imageMore aM_imageGlues aM_imagePieces aM_imageWarmth aM_imageSheet aM_imageDraw aM_stepWhat aM_stepPiece aM_stepPlace aM_stepSince aM_tape aM_shapes aM_pile aM_met aM_next aM_inputs aM_then M_pieces M_warmth M_draw M_steps M_undoable M_brought M_taped M_shapeMany M_ended M_cut M_mostPieces M_walks M_walked M_strength M_kind M_more M_glues M_sheet)) [5, 0, 1, 2, 3, 4] [] (ads := [aM_sheet, aM, aM_strength, aM_kind, aM_more, aM_glues]) (wr := []) rfl rfl (fun u => rfl) (fun u => rfl) rfl (fun u => rfl) rfl (fun u => rfl) rfl hP hD hS hA (fun r41 u H locs hw hP hD hS => ?_)
                have hP : va_P D vwCl (w_X8_choices cI cJ cZ cO aM aM_strength aM_kind aM_more aM_glues aM_sheet aM_since aM_imageStrength aM_imageKind aM_imageMore aM_imageGlues aM_imagePieces aM_imageWarmth aM_imageSheet aM_imageDraw aM_stepWhat aM_stepPiece aM_stepPlace aM_stepSince aM_tape aM_shapes aM_pile aM_met aM_next aM_inputs aM_then M_pieces M_warmth M_draw M_steps M_undoable M_brought M_taped M_shapeMany M_ended M_cut M_mostPieces M_walks M_walked M_strength M_kind M_more M_glues M_sheet) H := hP
                have hD : va_D A (w_X8_choices cI cJ cZ cO aM aM_strength aM_kind aM_more aM_glues aM_sheet aM_since aM_imageStrength aM_imageKind aM_imageMore aM_imageGlues aM_imagePieces aM_imageWarmth aM_imageSheet aM_imageDraw aM_stepWhat aM_stepPiece aM_stepPlace aM_stepSince aM_tape aM_shapes aM_pile aM_met aM_next aM_inputs aM_then M_pieces M_warmth M_draw M_steps M_undoable M_brought M_taped M_shapeMany M_ended M_cut M_mostPieces M_walks M_walked M_strength M_kind M_more M_glues M_sheet) := hD
                refine lv_if_eq (tgt := 51) hx hb dX8_choices_44 (by decide) (fun c44 => ?_) (fun c44 => ?_)
                · have hw := hw.1 c44
                  refine lv_iconst (v := (0 : Int32)) hx hb dX8_choices_51 kI_0 ?_
                  refine lv_iadd hx hb dX8_choices_52 ?_
                  refine lv_topi (fun v53 e53 => ?_)
                  have hw := hw v53 e53
                  refine lv_istore_n (lv' := [(1, .int v53), (0, .ref aM), (2, .int x2), (3, .int x3), (4, .int x4)]) hx hb dX8_choices_53 rfl hl (by decide) rfl (fun ls hl => ?_)
                  obtain ⟨v54, e54⟩ : ∃ y : Int32, y = x4 + (1 : Int32) := ⟨_, rfl⟩
                  have hw := hw v54 e54
                  refine lv_iinc (v := v54) (lv' := [(4, .int v54), (1, .int v53), (0, .ref aM), (2, .int x2), (3, .int x3)]) hx hb dX8_choices_54 hl (k := 4) rfl (by rw [e54, kI_1]) (by decide) rfl (fun ls hl => ?_)
                  refine lv_goto (tgt := 21) hx hb dX8_choices_57 (by decide) ?_
                  exact ih_21 v53 x2 x3 v54 hw H locs hP hD hS ls (lv_sub hl [2, 1, 3, 4, 0] rfl)
                · have hw := hw.2 c44
                  refine lv_iconst (v := (1 : Int32)) hx hb dX8_choices_47 kI_1 ?_
                  refine lv_goto (tgt := 52) hx hb dX8_choices_48 (by decide) ?_
                  refine lv_iadd hx hb dX8_choices_52 ?_
                  refine lv_topi (fun v53 e53 => ?_)
                  have hw := hw v53 e53
                  refine lv_istore_n (lv' := [(1, .int v53), (0, .ref aM), (2, .int x2), (3, .int x3), (4, .int x4)]) hx hb dX8_choices_53 rfl hl (by decide) rfl (fun ls hl => ?_)
                  obtain ⟨v54, e54⟩ : ∃ y : Int32, y = x4 + (1 : Int32) := ⟨_, rfl⟩
                  have hw := hw v54 e54
                  refine lv_iinc (v := v54) (lv' := [(4, .int v54), (1, .int v53), (0, .ref aM), (2, .int x2), (3, .int x3)]) hx hb dX8_choices_54 hl (k := 4) rfl (by rw [e54, kI_1]) (by decide) rfl (fun ls hl => ?_)
                  refine lv_goto (tgt := 21) hx hb dX8_choices_57 (by decide) ?_
                  exact ih_21 v53 x2 x3 v54 hw H locs hP hD hS ls (lv_sub hl [2, 1, 3, 4, 0] rfl)
          intro x1 x2 x3 hw H locs hP hD hS ls hl
          have hw : wf_X8_choices_12 M_strength M_kind M_more M_glues M_pieces M_warmth M_sheet (wq_X8_choices_4 M_strength M_kind M_more M_glues M_pieces M_warmth M_sheet Q n_4) Q (wq_X8_choices_12 M_strength M_kind M_more M_glues M_pieces M_warmth M_sheet (wq_X8_choices_4 M_strength M_kind M_more M_glues M_pieces M_warmth M_sheet Q n_4) Q n_12) x1 x2 x3 := hw
          unfold wf_X8_choices_12 at hw
          refine lv_iload_n hx hb dX8_choices_12 rfl (lv_at hl 3 rfl) ?_
          refine lv_bipush (v := (16 : Int32)) hx hb dX8_choices_13 kB_16 ?_
          refine lv_icmp_ge (tgt := 66) hx hb dX8_choices_15 (by decide) (fun c15 => ?_) (fun c15 => ?_)
          · have hw := hw.1 c15
            obtain ⟨v66, e66⟩ : ∃ y : Int32, y = x2 + (1 : Int32) := ⟨_, rfl⟩
            have hw := hw v66 e66
            refine lv_iinc (v := v66) (lv' := [(2, .int v66), (0, .ref aM), (1, .int x1), (3, .int x3)]) hx hb dX8_choices_66 hl (k := 2) rfl (by rw [e66, kI_1]) (by decide) rfl (fun ls hl => ?_)
            refine lv_goto (tgt := 4) hx hb dX8_choices_69 (by decide) ?_
            exact ih_4 x1 v66 hw H locs hP hD hS ls (lv_sub hl [1, 2, 0] rfl)
          · have hw := hw.2 c15
            refine lv_iconst (v := (0 : Int32)) hx hb dX8_choices_18 kI_0 ?_
            refine lv_istore (lv' := [(4, .int (0 : Int32)), (0, .ref aM), (1, .int x1), (2, .int x2), (3, .int x3)]) hx hb dX8_choices_19 hl (by decide) rfl (fun ls hl => ?_)
            obtain ⟨k, hw⟩ := hw
            exact b_21 k x1 x2 x3 (0 : Int32) hw H locs hP hD hS ls (lv_sub hl [1, 2, 3, 4, 0] rfl)
      intro x1 x2 hw H locs hP hD hS ls hl
      have hw : wf_X8_choices_4 M_strength M_kind M_more M_glues M_pieces M_warmth M_sheet Q (wq_X8_choices_4 M_strength M_kind M_more M_glues M_pieces M_warmth M_sheet Q n_4) x1 x2 := hw
      unfold wf_X8_choices_4 at hw
      refine lv_iload_n hx hb dX8_choices_4 rfl (lv_at hl 2 rfl) ?_
      refine lv_bipush (v := (16 : Int32)) hx hb dX8_choices_5 kB_16 ?_
      refine lv_icmp_ge (tgt := 72) hx hb dX8_choices_7 (by decide) (fun c7 => ?_) (fun c7 => ?_)
      · have hw := hw.1 c7
        refine lv_iload_n hx hb dX8_choices_72 rfl (lv_at hl 1 rfl) ?_
        rw [hZ]
        exact cx_reti () hx hb hr hlocks hw hP hS dX8_choices_73
      · have hw := hw.2 c7
        refine lv_iconst (v := (0 : Int32)) hx hb dX8_choices_10 kI_0 ?_
        refine lv_istore_n (lv' := [(3, .int (0 : Int32)), (0, .ref aM), (1, .int x1), (2, .int x2)]) hx hb dX8_choices_11 rfl hl (by decide) rfl (fun ls hl => ?_)
        obtain ⟨k, hw⟩ := hw
        exact b_12 k x1 x2 (0 : Int32) hw H locs hP hD hS ls (lv_sub hl [1, 2, 3, 0] rfl)
  intro H locs hP hD hS ls hl
  unfold wp_X8_choices at hw
  refine lv_iconst (v := (0 : Int32)) hx hb dX8_choices_0 kI_0 ?_
  refine lv_istore_n (lv' := [(1, .int (0 : Int32)), (0, .ref aM)]) hx hb dX8_choices_1 rfl hl (by decide) rfl (fun ls hl => ?_)
  refine lv_iconst (v := (0 : Int32)) hx hb dX8_choices_2 kI_0 ?_
  refine lv_istore_n (lv' := [(2, .int (0 : Int32)), (1, .int (0 : Int32)), (0, .ref aM)]) hx hb dX8_choices_3 rfl hl (by decide) rfl (fun ls hl => ?_)
  obtain ⟨k, hw⟩ := hw
  exact b_4 k (0 : Int32) (0 : Int32) hw H locs hP hD hS ls (lv_sub hl [2, 1, 0] rfl)
set_option maxRecDepth 100000 in
set_option maxHeartbeats 4000000 in
theorem c_X8_choiceAt (l : Launch) (D : va_G) (cI cJ cZ cO : ClassId) (tS tT : Nat) (sz : Nat) (aM aM_strength aM_kind aM_more aM_glues aM_sheet aM_since aM_imageStrength aM_imageKind aM_imageMore aM_imageGlues aM_imagePieces aM_imageWarmth aM_imageSheet aM_imageDraw aM_stepWhat aM_stepPiece aM_stepPlace aM_stepSince aM_tape aM_shapes aM_pile aM_met aM_next aM_inputs aM_then : Nat) (M_pieces : Int32) (M_warmth : Int32) (M_draw : Int64) (M_steps : Int32) (M_undoable : Int32) (M_brought : Int32) (M_taped : Int32) (M_shapeMany : Int32) (M_ended : Int32) (M_cut : Int32) (M_mostPieces : Int32) (M_walks : Int32) (M_walked : Int32) (M_strength : Nat → Int32) (M_kind : Nat → Int32) (M_more : Nat → Int32) (M_glues : Nat → Int32) (M_sheet : Nat → Int32) (p1 : Int32) (Q : Int32 → Prop) (hw : wp_X8_choiceAt M_strength M_kind M_more M_glues M_pieces M_warmth M_sheet p1 Q) : Met l yX8_choiceAt wsX8_choiceAt rm_X8_choiceAt (va_Pc [.ref aM, .int p1] (cx_B tS tT cI cJ cZ cO D sz (w_X8_choiceAt cI cJ cZ cO aM aM_strength aM_kind aM_more aM_glues aM_sheet aM_since aM_imageStrength aM_imageKind aM_imageMore aM_imageGlues aM_imagePieces aM_imageWarmth aM_imageSheet aM_imageDraw aM_stepWhat aM_stepPiece aM_stepPlace aM_stepSince aM_tape aM_shapes aM_pile aM_met aM_next aM_inputs aM_then M_pieces M_warmth M_draw M_steps M_undoable M_brought M_taped M_shapeMany M_ended M_cut M_mostPieces M_walks M_walked M_strength M_kind M_more M_glues M_sheet))) (va_Qi (fun (r : Int32) (_ : Unit) => Q r) (fun (u : Unit) t => va_P D vwCl (w_X8_choiceAt cI cJ cZ cO aM aM_strength aM_kind aM_more aM_glues aM_sheet aM_since aM_imageStrength aM_imageKind aM_imageMore aM_imageGlues aM_imagePieces aM_imageWarmth aM_imageSheet aM_imageDraw aM_stepWhat aM_stepPiece aM_stepPlace aM_stepSince aM_tape aM_shapes aM_pile aM_met aM_next aM_inputs aM_then M_pieces M_warmth M_draw M_steps M_undoable M_brought M_taped M_shapeMany M_ended M_cut M_mostPieces M_walks M_walked M_strength M_kind M_more M_glues M_sheet) t.heap) (va_A (w_X8_choiceAt cI cJ cZ cO aM aM_strength aM_kind aM_more aM_glues aM_sheet aM_since aM_imageStrength aM_imageKind aM_imageMore aM_imageGlues aM_imagePieces aM_imageWarmth aM_imageSheet aM_imageDraw aM_stepWhat aM_stepPiece aM_stepPlace aM_stepSince aM_tape aM_shapes aM_pile aM_met aM_next aM_inputs aM_then M_pieces M_warmth M_draw M_steps M_undoable M_brought M_taped M_shapeMany M_ended M_cut M_mostPieces M_walks M_walked M_strength M_kind M_more M_glues M_sheet) sz)) 0 0 (va_A (w_X8_choiceAt cI cJ cZ cO aM aM_strength aM_kind aM_more aM_glues aM_sheet aM_since aM_imageStrength aM_imageKind aM_imageMore aM_imageGlues aM_imagePieces aM_imageWarmth aM_imageSheet aM_imageDraw aM_stepWhat aM_stepPiece aM_stepPlace aM_stepSince aM_tape aM_shapes aM_pile aM_met aM_next aM_inputs aM_then M_pieces M_warmth M_draw M_steps M_undoable M_brought M_taped M_shapeMany M_ended M_cut M_mostPieces M_walks M_walked M_strength M_kind M_more M_glues M_sheet) sz) := by
  refine cx_met (cc := cX8_choiceAt) (maxL := 6) (ret := (some .int)) (Qc := fun A => va_Qi (fun (r : Int32) (_ : Unit) => Q r) (fun (u : Unit) t => va_P D vwCl (w_X8_choiceAt cI cJ cZ cO aM aM_strength aM_kind aM_more aM_glues aM_sheet aM_since aM_imageStrength aM_imageKind aM_imageMore aM_imageGlues aM_imagePieces aM_imageWarmth aM_imageSheet aM_imageDraw aM_stepWhat aM_stepPiece aM_stepPlace aM_stepSince aM_tape aM_shapes aM_pile aM_met aM_next aM_inputs aM_then M_pieces M_warmth M_draw M_steps M_undoable M_brought M_taped M_shapeMany M_ended M_cut M_mostPieces M_walks M_walked M_strength M_kind M_more M_glues M_sheet) t.heap) A) (lv := [(0, .ref aM), (1, .int p1)]) (by decide) rfl (Nat.le_of_ble_eq_true rfl) rfl ?_
  intro p e s m args below meth c A Z hx hb hr hlocks hts hown hml hE hK hA hZ
  have hown : s.vm.findClass RX8 = some m.cls := hown
  have k_0 := hts (.fieldLink RX8 92 "GrowingTilesModel" "pieces" "I") (List.mem_of_getElem? (i := 1) (by decide +kernel))
  have k_1 := hts (.fieldLink RX8 26 "GrowingTilesModel" "sheet" "[I") (List.mem_of_getElem? (i := 2) (by decide +kernel))
  have b_4 : ∀ n_4 : Nat, ∀ (x1 : Int32) (x2 : Int32) (x3 : Int32), wq_X8_choiceAt_4 M_strength M_kind M_more M_glues M_pieces M_warmth M_sheet Q n_4 x1 x2 x3 → ∀ (H : Heap) (locs : List Loc), va_P D vwCl (w_X8_choiceAt cI cJ cZ cO aM aM_strength aM_kind aM_more aM_glues aM_sheet aM_since aM_imageStrength aM_imageKind aM_imageMore aM_imageGlues aM_imagePieces aM_imageWarmth aM_imageSheet aM_imageDraw aM_stepWhat aM_stepPiece aM_stepPlace aM_stepSince aM_tape aM_shapes aM_pile aM_met aM_next aM_inputs aM_then M_pieces M_warmth M_draw M_steps M_undoable M_brought M_taped M_shapeMany M_ended M_cut M_mostPieces M_walks M_walked M_strength M_kind M_more M_glues M_sheet) H → va_D A (w_X8_choiceAt cI cJ cZ cO aM aM_strength aM_kind aM_more aM_glues aM_sheet aM_since aM_imageStrength aM_imageKind aM_imageMore aM_imageGlues aM_imagePieces aM_imageWarmth aM_imageSheet aM_imageDraw aM_stepWhat aM_stepPiece aM_stepPlace aM_stepSince aM_tape aM_shapes aM_pile aM_met aM_next aM_inputs aM_then M_pieces M_warmth M_draw M_steps M_undoable M_brought M_taped M_shapeMany M_ended M_cut M_mostPieces M_walks M_walked M_strength M_kind M_more M_glues M_sheet) → va_S A s.heap H locs → ∀ ls : Array Slot, lv_has ls 6 [(0, .ref aM), (1, .int x1), (2, .int x2), (3, .int x3)] → W p l e rm_X8_choiceAt s m args below meth c H locs 0 0 Z (F0 m 4 ls []) := by
    intro n_4
    induction n_4 with
    | zero => intro x1 x2 x3 hw; exact False.elim hw
    | succ n_4 ih_4 =>
      have b_17 : ∀ n_17 : Nat, ∀ (x1 : Int32) (x2 : Int32) (x3 : Int32) (x4 : Int32), wq_X8_choiceAt_17 M_strength M_kind M_more M_glues M_pieces M_warmth M_sheet (wq_X8_choiceAt_4 M_strength M_kind M_more M_glues M_pieces M_warmth M_sheet Q n_4) Q n_17 x1 x2 x3 x4 → ∀ (H : Heap) (locs : List Loc), va_P D vwCl (w_X8_choiceAt cI cJ cZ cO aM aM_strength aM_kind aM_more aM_glues aM_sheet aM_since aM_imageStrength aM_imageKind aM_imageMore aM_imageGlues aM_imagePieces aM_imageWarmth aM_imageSheet aM_imageDraw aM_stepWhat aM_stepPiece aM_stepPlace aM_stepSince aM_tape aM_shapes aM_pile aM_met aM_next aM_inputs aM_then M_pieces M_warmth M_draw M_steps M_undoable M_brought M_taped M_shapeMany M_ended M_cut M_mostPieces M_walks M_walked M_strength M_kind M_more M_glues M_sheet) H → va_D A (w_X8_choiceAt cI cJ cZ cO aM aM_strength aM_kind aM_more aM_glues aM_sheet aM_since aM_imageStrength aM_imageKind aM_imageMore aM_imageGlues aM_imagePieces aM_imageWarmth aM_imageSheet aM_imageDraw aM_stepWhat aM_stepPiece aM_stepPlace aM_stepSince aM_tape aM_shapes aM_pile aM_met aM_next aM_inputs aM_then M_pieces M_warmth M_draw M_steps M_undoable M_brought M_taped M_shapeMany M_ended M_cut M_mostPieces M_walks M_walked M_strength M_kind M_more M_glues M_sheet) → va_S A s.heap H locs → ∀ ls : Array Slot, lv_has ls 6 [(0, .ref aM), (1, .int x1), (2, .int x2), (3, .int x3), (4, .int x4)] → W p l e rm_X8_choiceAt s m args below meth c H locs 0 0 Z (F0 m 17 ls []) := by
        intro n_17
        induction n_17 with
        | zero => intro x1 x2 x3 x4 hw; exact False.elim hw
        | succ n_17 ih_17 =>
          have b_27 : ∀ n_27 : Nat, ∀ (x1 : Int32) (x2 : Int32) (x3 : Int32) (x4 : Int32) (x5 : Int32), wq_X8_choiceAt_27 M_strength M_kind M_more M_glues M_pieces M_warmth M_sheet (wq_X8_choiceAt_4 M_strength M_kind M_more M_glues M_pieces M_warmth M_sheet Q n_4) (wq_X8_choiceAt_17 M_strength M_kind M_more M_glues M_pieces M_warmth M_sheet (wq_X8_choiceAt_4 M_strength M_kind M_more M_glues M_pieces M_warmth M_sheet Q n_4) Q n_17) Q n_27 x1 x2 x3 x4 x5 → ∀ (H : Heap) (locs : List Loc), va_P D vwCl (w_X8_choiceAt cI cJ cZ cO aM aM_strength aM_kind aM_more aM_glues aM_sheet aM_since aM_imageStrength aM_imageKind aM_imageMore aM_imageGlues aM_imagePieces aM_imageWarmth aM_imageSheet aM_imageDraw aM_stepWhat aM_stepPiece aM_stepPlace aM_stepSince aM_tape aM_shapes aM_pile aM_met aM_next aM_inputs aM_then M_pieces M_warmth M_draw M_steps M_undoable M_brought M_taped M_shapeMany M_ended M_cut M_mostPieces M_walks M_walked M_strength M_kind M_more M_glues M_sheet) H → va_D A (w_X8_choiceAt cI cJ cZ cO aM aM_strength aM_kind aM_more aM_glues aM_sheet aM_since aM_imageStrength aM_imageKind aM_imageMore aM_imageGlues aM_imagePieces aM_imageWarmth aM_imageSheet aM_imageDraw aM_stepWhat aM_stepPiece aM_stepPlace aM_stepSince aM_tape aM_shapes aM_pile aM_met aM_next aM_inputs aM_then M_pieces M_warmth M_draw M_steps M_undoable M_brought M_taped M_shapeMany M_ended M_cut M_mostPieces M_walks M_walked M_strength M_kind M_more M_glues M_sheet) → va_S A s.heap H locs → ∀ ls : Array Slot, lv_has ls 6 [(0, .ref aM), (1, .int x1), (2, .int x2), (3, .int x3), (4, .int x4), (5, .int x5)] → W p l e rm_X8_choiceAt s m args below meth c H locs 0 0 Z (F0 m 27 ls []) := by
            intro n_27
            induction n_27 with
            | zero => intro x1 x2 x3 x4 x5 hw; exact False.elim hw
            | succ n_27 ih_27 =>
              intro x1 x2 x3 x4 x5 hw H locs hP hD hS ls hl
              have hw : wf_X8_choiceAt_27 M_strength M_kind M_more M_glues M_pieces M_warmth M_sheet (wq_X8_choiceAt_4 M_strength M_kind M_more M_glues M_pieces M_warmth M_sheet Q n_4) (wq_X8_choiceAt_17 M_strength M_kind M_more M_glues M_pieces M_warmth M_sheet (wq_X8_choiceAt_4 M_strength M_kind M_more M_glues M_pieces M_warmth M_sheet Q n_4) Q n_17) Q (wq_X8_choiceAt_27 M_strength M_kind M_more M_glues M_pieces M_warmth M_sheet (wq_X8_choiceAt_4 M_strength M_kind M_more M_glues M_pieces M_warmth M_sheet Q n_4) (wq_X8_choiceAt_17 M_strength M_kind M_more M_glues M_pieces M_warmth M_sheet (wq_X8_choiceAt_4 M_strength M_kind M_more M_glues M_pieces M_warmth M_sheet Q n_4) Q n_17) Q n_27) x1 x2 x3 x4 x5 := hw
              unfold wf_X8_choiceAt_27 at hw
              refine lv_iload hx hb dX8_choiceAt_27 (lv_at hl 5 rfl) ?_
              refine lv_aload_n hx hb dX8_choiceAt_29 rfl (lv_at hl 0 rfl) ?_
              refine va_get (D := D) (ci := 8) (v := .int M_pieces) (C := RX8) (T := TX8) (N := 38) hx hb hts in_X8_choiceAt_X8 hown hK hP 0 rfl rfl 4 (by decide) k_0 (fun _ h9 => h9) rfl dX8_choiceAt_30 ?_
              refine lv_icmp_ge (tgt := 84) hx hb dX8_choiceAt_33 (by decide) (fun c33 => ?_) (fun c33 => ?_)
              · have hw := hw.1 c33
                obtain ⟨v84, e84⟩ : ∃ y : Int32, y = x4 + (1 : Int32) := ⟨_, rfl⟩
                have hw := hw v84 e84
                refine lv_iinc (v := v84) (lv' := [(4, .int v84), (0, .ref aM), (1, .int x1), (2, .int x2), (3, .int x3), (5, .int x5)]) hx hb dX8_choiceAt_84 hl (k := 4) rfl (by rw [e84, kI_1]) (by decide) rfl (fun ls hl => ?_)
                refine lv_goto (tgt := 17) hx hb dX8_choiceAt_87 (by decide) ?_
                exact ih_17 x1 x2 x3 v84 hw H locs hP hD hS ls (lv_sub hl [1, 2, 3, 4, 0] rfl)
              · have hw := hw.2 c33
                refine lv_aload_n hx hb dX8_choiceAt_36 rfl (lv_at hl 0 rfl) ?_
                refine lv_aload_n hx hb dX8_choiceAt_37 rfl (lv_at hl 0 rfl) ?_
                refine va_get (D := D) (ci := 8) (v := .ref aM_sheet) (C := RX8) (T := TX8) (N := 38) hx hb hts in_X8_choiceAt_X8 hown hK hP 0 rfl rfl 7 (by decide) k_1 (fun _ h9 => h9) rfl dX8_choiceAt_38 ?_
                refine lv_iconst (v := (0 : Int32)) hx hb dX8_choiceAt_41 kI_0 ?_
                refine lv_iload hx hb dX8_choiceAt_42 (lv_at hl 5 rfl) ?_
                refine lv_iload hx hb dX8_choiceAt_44 (lv_at hl 4 rfl) ?_
                refine lv_iload_n hx hb dX8_choiceAt_46 rfl (lv_at hl 3 rfl) ?_
                refine cx_goi (va_runV (As := [.ref aM_sheet, .int (0 : Int32), .int x5, .int x4, .int x3]) (rest := []) ⟨hx, hb, hml, hown, hts⟩ (c_X8_mayCome l D cI cJ cZ cO tS tT H.size aM_sheet aM aM_strength aM_kind aM_more aM_glues aM_sheet aM_since aM_imageStrength aM_imageKind aM_imageMore aM_imageGlues aM_imagePieces aM_imageWarmth aM_imageSheet aM_imageDraw aM_stepWhat aM_stepPiece aM_stepPlace aM_stepSince aM_tape aM_shapes aM_pile aM_met aM_next aM_inputs aM_then 256 M_sheet M_pieces M_warmth M_draw M_steps M_undoable M_brought M_taped M_shapeMany M_ended M_cut M_mostPieces M_walks M_walked M_strength M_kind M_more M_glues (0 : Int32) x5 x4 x3 _ hw) (cwV 5 hts gX8_choiceAt_X8_mayCome rfl rfl rfl pv_X8_mayCome ⟨Nat.le_of_ble_eq_true rfl, Nat.le_of_ble_eq_true rfl⟩) (cx_preV (wc := w_X8_mayCome cI cJ cZ cO aM_sheet aM aM_strength aM_kind aM_more aM_glues aM_sheet aM_since aM_imageStrength aM_imageKind aM_imageMore aM_imageGlues aM_imagePieces aM_imageWarmth aM_imageSheet aM_imageDraw aM_stepWhat aM_stepPiece aM_stepPlace aM_stepSince aM_tape aM_shapes aM_pile aM_met aM_next aM_inputs aM_then 256 M_sheet M_pieces M_warmth M_draw M_steps M_undoable M_brought M_taped M_shapeMany M_ended M_cut M_mostPieces M_walks M_walked M_strength M_kind M_more M_glues) hE hK hP hD hS hA [5, 0, 1, 2, 3, 4] rfl rfl (va_recv hK hP (ci := 8) (q0 := 0) rfl rfl)) rfl rfl hl.1 rfl (lv_room (Nat.le_of_ble_eq_true rfl)) dX8_choiceAt_47 ⟨Nat.le_of_ble_eq_true rfl, Nat.le_of_ble_eq_true rfl⟩) (fun (_ : Unit) => (w_X8_choiceAt cI cJ cZ cO aM aM_strength aM_kind aM_more aM_glues aM_sheet aM_since aM_imageStrength aM_imageKind aM_imageMore aM_imageGlues aM_imagePieces aM_imageWarmth aM_imageSheet aM_imageDraw aM_stepWhat aM_stepPiece aM_stepPlace aM_stepSince aM_tape aM_shapes aM_pile aM_met aM_next aM_inputs aM_then M_pieces M_warmth M_draw M_steps M_undoable M_brought M_taped M_shapeMany M_ended M_cut M_mostPieces M_walks M_walked M_strength M_kind M_more M_glues M_sheet)) [5, 0, 1, 2, 3, 4] [] (ads := [aM_sheet, aM, aM_strength, aM_kind, aM_more, aM_glues]) (wr := []) rfl rfl (fun u => rfl) (fun u => rfl) rfl (fun u => rfl) rfl (fun u => rfl) rfl hP hD hS hA (fun r47 u H locs hw hP hD hS => ?_)
                have hP : va_P D vwCl (w_X8_choiceAt cI cJ cZ cO aM aM_strength aM_kind aM_more aM_glues aM_sheet aM_since aM_imageStrength aM_imageKind aM_imageMore aM_imageGlues aM_imagePieces aM_imageWarmth aM_imageSheet aM_imageDraw aM_stepWhat aM_stepPiece aM_stepPlace aM_stepSince aM_tape aM_shapes aM_pile aM_met aM_next aM_inputs aM_then M_pieces M_warmth M_draw M_steps M_undoable M_brought M_taped M_shapeMany M_ended M_cut M_mostPieces M_walks M_walked M_strength M_kind M_more M_glues M_sheet) H := hP
                have hD : va_D A (w_X8_choiceAt cI cJ cZ cO aM aM_strength aM_kind aM_more aM_glues aM_sheet aM_since aM_imageStrength aM_imageKind aM_imageMore aM_imageGlues aM_imagePieces aM_imageWarmth aM_imageSheet aM_imageDraw aM_stepWhat aM_stepPiece aM_stepPlace aM_stepSince aM_tape aM_shapes aM_pile aM_met aM_next aM_inputs aM_then M_pieces M_warmth M_draw M_steps M_undoable M_brought M_taped M_shapeMany M_ended M_cut M_mostPieces M_walks M_walked M_strength M_kind M_more M_glues M_sheet) := hD
                refine lv_if_ne (tgt := 56) hx hb dX8_choiceAt_50 (by decide) (fun c50 => ?_) (fun c50 => ?_)
                · have hw := hw.1 c50
                  refine lv_iload_n hx hb dX8_choiceAt_56 rfl (lv_at hl 2 rfl) ?_
                  refine lv_iload_n hx hb dX8_choiceAt_57 rfl (lv_at hl 1 rfl) ?_
                  refine lv_icmp_ne (tgt := 75) hx hb dX8_choiceAt_58 (by decide) (fun c58 => ?_) (fun c58 => ?_)
                  · have hw := hw.1 c58
                    obtain ⟨v75, e75⟩ : ∃ y : Int32, y = x2 + (1 : Int32) := ⟨_, rfl⟩
                    have hw := hw v75 e75
                    refine lv_iinc (v := v75) (lv' := [(2, .int v75), (0, .ref aM), (1, .int x1), (3, .int x3), (4, .int x4), (5, .int x5)]) hx hb dX8_choiceAt_75 hl (k := 2) rfl (by rw [e75, kI_1]) (by decide) rfl (fun ls hl => ?_)
                    obtain ⟨v78, e78⟩ : ∃ y : Int32, y = x5 + (1 : Int32) := ⟨_, rfl⟩
                    have hw := hw v78 e78
                    refine lv_iinc (v := v78) (lv' := [(5, .int v78), (2, .int v75), (0, .ref aM), (1, .int x1), (3, .int x3), (4, .int x4)]) hx hb dX8_choiceAt_78 hl (k := 5) rfl (by rw [e78, kI_1]) (by decide) rfl (fun ls hl => ?_)
                    refine lv_goto (tgt := 27) hx hb dX8_choiceAt_81 (by decide) ?_
                    exact ih_27 x1 v75 x3 x4 v78 hw H locs hP hD hS ls (lv_sub hl [2, 3, 1, 4, 5, 0] rfl)
                  · have hw := hw.2 c58
                    refine lv_iload hx hb dX8_choiceAt_61 (lv_at hl 5 rfl) ?_
                    refine lv_bipush (v := (64 : Int32)) hx hb dX8_choiceAt_63 kB_64 ?_
                    refine lv_iload hx hb dX8_choiceAt_65 (lv_at hl 4 rfl) ?_
                    refine lv_bipush (v := (16 : Int32)) hx hb dX8_choiceAt_67 kB_16 ?_
                    refine lv_iload_n hx hb dX8_choiceAt_69 rfl (lv_at hl 3 rfl) ?_
                    refine lv_imul hx hb dX8_choiceAt_70 ?_
                    refine lv_iadd hx hb dX8_choiceAt_71 ?_
                    refine lv_imul hx hb dX8_choiceAt_72 ?_
                    refine lv_iadd hx hb dX8_choiceAt_73 ?_
                    rw [hZ]
                    exact cx_reti () hx hb hr hlocks hw hP hS dX8_choiceAt_74
                · have hw := hw.2 c50
                  refine lv_goto (tgt := 78) hx hb dX8_choiceAt_53 (by decide) ?_
                  obtain ⟨v78, e78⟩ : ∃ y : Int32, y = x5 + (1 : Int32) := ⟨_, rfl⟩
                  have hw := hw v78 e78
                  refine lv_iinc (v := v78) (lv' := [(5, .int v78), (0, .ref aM), (1, .int x1), (2, .int x2), (3, .int x3), (4, .int x4)]) hx hb dX8_choiceAt_78 hl (k := 5) rfl (by rw [e78, kI_1]) (by decide) rfl (fun ls hl => ?_)
                  refine lv_goto (tgt := 27) hx hb dX8_choiceAt_81 (by decide) ?_
                  exact ih_27 x1 x2 x3 x4 v78 hw H locs hP hD hS ls (lv_sub hl [1, 2, 3, 4, 5, 0] rfl)
          intro x1 x2 x3 x4 hw H locs hP hD hS ls hl
          have hw : wf_X8_choiceAt_17 M_strength M_kind M_more M_glues M_pieces M_warmth M_sheet (wq_X8_choiceAt_4 M_strength M_kind M_more M_glues M_pieces M_warmth M_sheet Q n_4) Q (wq_X8_choiceAt_17 M_strength M_kind M_more M_glues M_pieces M_warmth M_sheet (wq_X8_choiceAt_4 M_strength M_kind M_more M_glues M_pieces M_warmth M_sheet Q n_4) Q n_17) x1 x2 x3 x4 := hw
          unfold wf_X8_choiceAt_17 at hw
          refine lv_iload hx hb dX8_choiceAt_17 (lv_at hl 4 rfl) ?_
          refine lv_bipush (v := (16 : Int32)) hx hb dX8_choiceAt_19 kB_16 ?_
          refine lv_icmp_ge (tgt := 90) hx hb dX8_choiceAt_21 (by decide) (fun c21 => ?_) (fun c21 => ?_)
          · have hw := hw.1 c21
            obtain ⟨v90, e90⟩ : ∃ y : Int32, y = x3 + (1 : Int32) := ⟨_, rfl⟩
            have hw := hw v90 e90
            refine lv_iinc (v := v90) (lv' := [(3, .int v90), (0, .ref aM), (1, .int x1), (2, .int x2), (4, .int x4)]) hx hb dX8_choiceAt_90 hl (k := 3) rfl (by rw [e90, kI_1]) (by decide) rfl (fun ls hl => ?_)
            refine lv_goto (tgt := 4) hx hb dX8_choiceAt_93 (by decide) ?_
            exact ih_4 x1 x2 v90 hw H locs hP hD hS ls (lv_sub hl [1, 2, 3, 0] rfl)
          · have hw := hw.2 c21
            refine lv_iconst (v := (0 : Int32)) hx hb dX8_choiceAt_24 kI_0 ?_
            refine lv_istore (lv' := [(5, .int (0 : Int32)), (0, .ref aM), (1, .int x1), (2, .int x2), (3, .int x3), (4, .int x4)]) hx hb dX8_choiceAt_25 hl (by decide) rfl (fun ls hl => ?_)
            obtain ⟨k, hw⟩ := hw
            exact b_27 k x1 x2 x3 x4 (0 : Int32) hw H locs hP hD hS ls (lv_sub hl [1, 2, 3, 4, 5, 0] rfl)
      intro x1 x2 x3 hw H locs hP hD hS ls hl
      have hw : wf_X8_choiceAt_4 M_strength M_kind M_more M_glues M_pieces M_warmth M_sheet Q (wq_X8_choiceAt_4 M_strength M_kind M_more M_glues M_pieces M_warmth M_sheet Q n_4) x1 x2 x3 := hw
      unfold wf_X8_choiceAt_4 at hw
      refine lv_iload_n hx hb dX8_choiceAt_4 rfl (lv_at hl 3 rfl) ?_
      refine lv_bipush (v := (16 : Int32)) hx hb dX8_choiceAt_5 kB_16 ?_
      refine lv_icmp_ge (tgt := 96) hx hb dX8_choiceAt_7 (by decide) (fun c7 => ?_) (fun c7 => ?_)
      · have hw := hw.1 c7
        refine lv_iconst (v := (-1 : Int32)) hx hb dX8_choiceAt_96 kI_m1 ?_
        rw [hZ]
        exact cx_reti () hx hb hr hlocks hw hP hS dX8_choiceAt_97
      · have hw := hw.2 c7
        refine lv_iload_n hx hb dX8_choiceAt_10 rfl (lv_at hl 1 rfl) ?_
        refine lv_if_lt (tgt := 96) hx hb dX8_choiceAt_11 (by decide) (fun c11 => ?_) (fun c11 => ?_)
        · have hw := hw.1 c11
          refine lv_iconst (v := (-1 : Int32)) hx hb dX8_choiceAt_96 kI_m1 ?_
          rw [hZ]
          exact cx_reti () hx hb hr hlocks hw hP hS dX8_choiceAt_97
        · have hw := hw.2 c11
          refine lv_iconst (v := (0 : Int32)) hx hb dX8_choiceAt_14 kI_0 ?_
          refine lv_istore (lv' := [(4, .int (0 : Int32)), (0, .ref aM), (1, .int x1), (2, .int x2), (3, .int x3)]) hx hb dX8_choiceAt_15 hl (by decide) rfl (fun ls hl => ?_)
          obtain ⟨k, hw⟩ := hw
          exact b_17 k x1 x2 x3 (0 : Int32) hw H locs hP hD hS ls (lv_sub hl [1, 2, 3, 4, 0] rfl)
  intro H locs hP hD hS ls hl
  unfold wp_X8_choiceAt at hw
  refine lv_iconst (v := (0 : Int32)) hx hb dX8_choiceAt_0 kI_0 ?_
  refine lv_istore_n (lv' := [(2, .int (0 : Int32)), (0, .ref aM), (1, .int p1)]) hx hb dX8_choiceAt_1 rfl hl (by decide) rfl (fun ls hl => ?_)
  refine lv_iconst (v := (0 : Int32)) hx hb dX8_choiceAt_2 kI_0 ?_
  refine lv_istore_n (lv' := [(3, .int (0 : Int32)), (2, .int (0 : Int32)), (0, .ref aM), (1, .int p1)]) hx hb dX8_choiceAt_3 rfl hl (by decide) rfl (fun ls hl => ?_)
  obtain ⟨k, hw⟩ := hw
  exact b_4 k p1 (0 : Int32) (0 : Int32) hw H locs hP hD hS ls (lv_sub hl [2, 3, 1, 0] rfl)
set_option maxRecDepth 100000 in
set_option maxHeartbeats 4000000 in
theorem c_X8_choice (l : Launch) (D : va_G) (cI cJ cZ cO : ClassId) (tS tT : Nat) (sz : Nat) (aM aM_strength aM_kind aM_more aM_glues aM_sheet aM_since aM_imageStrength aM_imageKind aM_imageMore aM_imageGlues aM_imagePieces aM_imageWarmth aM_imageSheet aM_imageDraw aM_stepWhat aM_stepPiece aM_stepPlace aM_stepSince aM_tape aM_shapes aM_pile aM_met aM_next aM_inputs aM_then : Nat) (M_pieces : Int32) (M_warmth : Int32) (M_draw : Int64) (M_steps : Int32) (M_undoable : Int32) (M_brought : Int32) (M_taped : Int32) (M_shapeMany : Int32) (M_ended : Int32) (M_cut : Int32) (M_mostPieces : Int32) (M_walks : Int32) (M_walked : Int32) (M_strength : Nat → Int32) (M_kind : Nat → Int32) (M_more : Nat → Int32) (M_glues : Nat → Int32) (M_sheet : Nat → Int32) (p1 : Int32) (p2 : Int32) (Q : Int32 → Prop) (hw : wp_X8_choice M_strength M_kind M_more M_glues M_pieces M_warmth M_sheet p1 p2 Q) : Met l yX8_choice wsX8_choice rm_X8_choice (va_Pc [.ref aM, .int p1, .int p2] (cx_B tS tT cI cJ cZ cO D sz (w_X8_choice cI cJ cZ cO aM aM_strength aM_kind aM_more aM_glues aM_sheet aM_since aM_imageStrength aM_imageKind aM_imageMore aM_imageGlues aM_imagePieces aM_imageWarmth aM_imageSheet aM_imageDraw aM_stepWhat aM_stepPiece aM_stepPlace aM_stepSince aM_tape aM_shapes aM_pile aM_met aM_next aM_inputs aM_then M_pieces M_warmth M_draw M_steps M_undoable M_brought M_taped M_shapeMany M_ended M_cut M_mostPieces M_walks M_walked M_strength M_kind M_more M_glues M_sheet))) (va_Qi (fun (r : Int32) (_ : Unit) => Q r) (fun (u : Unit) t => va_P D vwCl (w_X8_choice cI cJ cZ cO aM aM_strength aM_kind aM_more aM_glues aM_sheet aM_since aM_imageStrength aM_imageKind aM_imageMore aM_imageGlues aM_imagePieces aM_imageWarmth aM_imageSheet aM_imageDraw aM_stepWhat aM_stepPiece aM_stepPlace aM_stepSince aM_tape aM_shapes aM_pile aM_met aM_next aM_inputs aM_then M_pieces M_warmth M_draw M_steps M_undoable M_brought M_taped M_shapeMany M_ended M_cut M_mostPieces M_walks M_walked M_strength M_kind M_more M_glues M_sheet) t.heap) (va_A (w_X8_choice cI cJ cZ cO aM aM_strength aM_kind aM_more aM_glues aM_sheet aM_since aM_imageStrength aM_imageKind aM_imageMore aM_imageGlues aM_imagePieces aM_imageWarmth aM_imageSheet aM_imageDraw aM_stepWhat aM_stepPiece aM_stepPlace aM_stepSince aM_tape aM_shapes aM_pile aM_met aM_next aM_inputs aM_then M_pieces M_warmth M_draw M_steps M_undoable M_brought M_taped M_shapeMany M_ended M_cut M_mostPieces M_walks M_walked M_strength M_kind M_more M_glues M_sheet) sz)) 0 0 (va_A (w_X8_choice cI cJ cZ cO aM aM_strength aM_kind aM_more aM_glues aM_sheet aM_since aM_imageStrength aM_imageKind aM_imageMore aM_imageGlues aM_imagePieces aM_imageWarmth aM_imageSheet aM_imageDraw aM_stepWhat aM_stepPiece aM_stepPlace aM_stepSince aM_tape aM_shapes aM_pile aM_met aM_next aM_inputs aM_then M_pieces M_warmth M_draw M_steps M_undoable M_brought M_taped M_shapeMany M_ended M_cut M_mostPieces M_walks M_walked M_strength M_kind M_more M_glues M_sheet) sz) := by
  refine cx_met (cc := cX8_choice) (maxL := 5) (ret := (some .int)) (Qc := fun A => va_Qi (fun (r : Int32) (_ : Unit) => Q r) (fun (u : Unit) t => va_P D vwCl (w_X8_choice cI cJ cZ cO aM aM_strength aM_kind aM_more aM_glues aM_sheet aM_since aM_imageStrength aM_imageKind aM_imageMore aM_imageGlues aM_imagePieces aM_imageWarmth aM_imageSheet aM_imageDraw aM_stepWhat aM_stepPiece aM_stepPlace aM_stepSince aM_tape aM_shapes aM_pile aM_met aM_next aM_inputs aM_then M_pieces M_warmth M_draw M_steps M_undoable M_brought M_taped M_shapeMany M_ended M_cut M_mostPieces M_walks M_walked M_strength M_kind M_more M_glues M_sheet) t.heap) A) (lv := [(0, .ref aM), (1, .int p1), (2, .int p2)]) (by decide) rfl (Nat.le_of_ble_eq_true rfl) rfl ?_
  intro p e s m args below meth c A Z hx hb hr hlocks hts hown hml hE hK hA hZ
  have hown : s.vm.findClass RX8 = some m.cls := hown
  intro H locs hP hD hS ls hl
  unfold wp_X8_choice at hw
  refine lv_aload_n hx hb dX8_choice_0 rfl (lv_at hl 0 rfl) ?_
  refine lv_iload_n hx hb dX8_choice_1 rfl (lv_at hl 1 rfl) ?_
  refine cx_goi (va_runV (As := [.int p1]) (rest := []) ⟨hx, hb, hml, hown, hts⟩ (c_X8_choiceAt l D cI cJ cZ cO tS tT H.size aM aM_strength aM_kind aM_more aM_glues aM_sheet aM_since aM_imageStrength aM_imageKind aM_imageMore aM_imageGlues aM_imagePieces aM_imageWarmth aM_imageSheet aM_imageDraw aM_stepWhat aM_stepPiece aM_stepPlace aM_stepSince aM_tape aM_shapes aM_pile aM_met aM_next aM_inputs aM_then M_pieces M_warmth M_draw M_steps M_undoable M_brought M_taped M_shapeMany M_ended M_cut M_mostPieces M_walks M_walked M_strength M_kind M_more M_glues M_sheet p1 _ hw) (cwV 1 hts gX8_choice_X8_choiceAt rfl rfl rfl pv_X8_choiceAt ⟨Nat.le_of_ble_eq_true rfl, Nat.le_of_ble_eq_true rfl⟩) (cx_preV (wc := w_X8_choiceAt cI cJ cZ cO aM aM_strength aM_kind aM_more aM_glues aM_sheet aM_since aM_imageStrength aM_imageKind aM_imageMore aM_imageGlues aM_imagePieces aM_imageWarmth aM_imageSheet aM_imageDraw aM_stepWhat aM_stepPiece aM_stepPlace aM_stepSince aM_tape aM_shapes aM_pile aM_met aM_next aM_inputs aM_then M_pieces M_warmth M_draw M_steps M_undoable M_brought M_taped M_shapeMany M_ended M_cut M_mostPieces M_walks M_walked M_strength M_kind M_more M_glues M_sheet) hE hK hP hD hS hA [0, 1, 2, 3, 4, 5] rfl rfl (va_recv hK hP (ci := 8) (q0 := 0) rfl rfl)) rfl rfl hl.1 rfl (lv_room (Nat.le_of_ble_eq_true rfl)) dX8_choice_2 ⟨Nat.le_of_ble_eq_true rfl, Nat.le_of_ble_eq_true rfl⟩) (fun (_ : Unit) => (w_X8_choice cI cJ cZ cO aM aM_strength aM_kind aM_more aM_glues aM_sheet aM_since aM_imageStrength aM_imageKind aM_imageMore aM_imageGlues aM_imagePieces aM_imageWarmth aM_imageSheet aM_imageDraw aM_stepWhat aM_stepPiece aM_stepPlace aM_stepSince aM_tape aM_shapes aM_pile aM_met aM_next aM_inputs aM_then M_pieces M_warmth M_draw M_steps M_undoable M_brought M_taped M_shapeMany M_ended M_cut M_mostPieces M_walks M_walked M_strength M_kind M_more M_glues M_sheet)) [0, 1, 2, 3, 4, 5] [] (ads := [aM, aM_strength, aM_kind, aM_more, aM_glues, aM_sheet]) (wr := []) rfl rfl (fun u => rfl) (fun u => rfl) rfl (fun u => rfl) rfl (fun u => rfl) rfl hP hD hS hA (fun r2 u H locs hw hP hD hS => ?_)
  have hP : va_P D vwCl (w_X8_choice cI cJ cZ cO aM aM_strength aM_kind aM_more aM_glues aM_sheet aM_since aM_imageStrength aM_imageKind aM_imageMore aM_imageGlues aM_imagePieces aM_imageWarmth aM_imageSheet aM_imageDraw aM_stepWhat aM_stepPiece aM_stepPlace aM_stepSince aM_tape aM_shapes aM_pile aM_met aM_next aM_inputs aM_then M_pieces M_warmth M_draw M_steps M_undoable M_brought M_taped M_shapeMany M_ended M_cut M_mostPieces M_walks M_walked M_strength M_kind M_more M_glues M_sheet) H := hP
  have hD : va_D A (w_X8_choice cI cJ cZ cO aM aM_strength aM_kind aM_more aM_glues aM_sheet aM_since aM_imageStrength aM_imageKind aM_imageMore aM_imageGlues aM_imagePieces aM_imageWarmth aM_imageSheet aM_imageDraw aM_stepWhat aM_stepPiece aM_stepPlace aM_stepSince aM_tape aM_shapes aM_pile aM_met aM_next aM_inputs aM_then M_pieces M_warmth M_draw M_steps M_undoable M_brought M_taped M_shapeMany M_ended M_cut M_mostPieces M_walks M_walked M_strength M_kind M_more M_glues M_sheet) := hD
  refine lv_istore_n (lv' := [(3, .int r2), (0, .ref aM), (1, .int p1), (2, .int p2)]) hx hb dX8_choice_5 rfl hl (by decide) rfl (fun ls hl => ?_)
  refine lv_iload_n hx hb dX8_choice_6 rfl (lv_at hl 0 rfl) ?_
  refine lv_if_ge (tgt := 12) hx hb dX8_choice_7 (by decide) (fun c7 => ?_) (fun c7 => ?_)
  · have hw := hw.1 c7
    refine lv_iload_n hx hb dX8_choice_12 rfl (lv_at hl 0 rfl) ?_
    refine lv_bipush (v := (64 : Int32)) hx hb dX8_choice_13 kB_64 ?_
    refine lv_idiv hx hb dX8_choice_15 (by decide) ?_
    refine lv_topi (fun v16 e16 => ?_)
    have hw := hw v16 e16
    refine lv_istore (lv' := [(4, .int v16), (3, .int r2), (0, .ref aM), (1, .int p1), (2, .int p2)]) hx hb dX8_choice_16 hl (by decide) rfl (fun ls hl => ?_)
    refine lv_iload_n hx hb dX8_choice_18 rfl (lv_at hl 4 rfl) ?_
    refine lv_if_ne (tgt := 29) hx hb dX8_choice_19 (by decide) (fun c19 => ?_) (fun c19 => ?_)
    · have hw := hw.1 c19
      refine lv_iload_n hx hb dX8_choice_29 rfl (lv_at hl 4 rfl) ?_
      refine lv_iconst (v := (1 : Int32)) hx hb dX8_choice_30 kI_1 ?_
      refine lv_icmp_ne (tgt := 42) hx hb dX8_choice_31 (by decide) (fun c31 => ?_) (fun c31 => ?_)
      · have hw := hw.1 c31
        refine lv_iload_n hx hb dX8_choice_42 rfl (lv_at hl 4 rfl) ?_
        refine lv_iconst (v := (2 : Int32)) hx hb dX8_choice_43 kI_2 ?_
        refine lv_icmp_ne (tgt := 55) hx hb dX8_choice_44 (by decide) (fun c44 => ?_) (fun c44 => ?_)
        · have hw := hw.1 c44
          refine lv_iconst (v := (-1 : Int32)) hx hb dX8_choice_55 kI_m1 ?_
          rw [hZ]
          exact cx_reti () hx hb hr hlocks hw hP hS dX8_choice_56
        · have hw := hw.2 c44
          refine lv_iload hx hb dX8_choice_47 (lv_at hl 0 rfl) ?_
          refine lv_bipush (v := (16 : Int32)) hx hb dX8_choice_49 kB_16 ?_
          refine lv_idiv hx hb dX8_choice_51 (by decide) ?_
          refine lv_goto (tgt := 56) hx hb dX8_choice_52 (by decide) ?_
          rw [hZ]
          exact cx_reti () hx hb hr hlocks hw hP hS dX8_choice_56
      · have hw := hw.2 c31
        refine lv_iload hx hb dX8_choice_34 (lv_at hl 0 rfl) ?_
        refine lv_bipush (v := (16 : Int32)) hx hb dX8_choice_36 kB_16 ?_
        refine lv_irem hx hb dX8_choice_38 (by decide) ?_
        refine lv_goto (tgt := 56) hx hb dX8_choice_39 (by decide) ?_
        rw [hZ]
        exact cx_reti () hx hb hr hlocks hw hP hS dX8_choice_56
    · have hw := hw.2 c19
      refine lv_iload_n hx hb dX8_choice_22 rfl (lv_at hl 1 rfl) ?_
      refine lv_bipush (v := (64 : Int32)) hx hb dX8_choice_23 kB_64 ?_
      refine lv_irem hx hb dX8_choice_25 (by decide) ?_
      refine lv_goto (tgt := 56) hx hb dX8_choice_26 (by decide) ?_
      rw [hZ]
      exact cx_reti () hx hb hr hlocks hw hP hS dX8_choice_56
  · have hw := hw.2 c7
    refine lv_iconst (v := (-1 : Int32)) hx hb dX8_choice_10 kI_m1 ?_
    rw [hZ]
    exact cx_reti () hx hb hr hlocks hw hP hS dX8_choice_11
