set_option maxRecDepth 100000 in
set_option maxHeartbeats 4000000 in
theorem c_X4_findFit (l : Launch) (D : va_G) (cI cJ cZ cO : ClassId) (tS tT : Nat) (sz : Nat) (aK aK_strengths aK_kinds aK_marks aK_faces aK_bars aK_showing aK_showingRight aK_barring aS aS_cells aS_fits aS_fitsInLine aS_stale aS_staleCells aS_seen aS_queue : Nat) (K_warm : Int32) (K_count : Int32) (K_seeds : Int64) (K_blocks : Int64) (K_rivals : Int64) (K_strengths : Nat → Int32) (K_faces : Nat → Int32) (K_bars : Nat → Int32) (K_showing : Nat → Int64) (K_showingRight : Nat → Int64) (K_barring : Nat → Int64) (S_pieces : Int32) (S_grown : Int32) (S_fitsInAll : Int32) (S_staleCount : Int32) (S_atLeast1 : Int64) (S_atLeast2 : Int64) (S_atLeast3 : Int64) (S_cells : Nat → Int32) (S_fits : Nat → Int64) (S_fitsInLine : Nat → Int32) (S_stale : Nat → Int32) (S_staleCells : Nat → Int32) (p1 : Int32) (Q : Int32 → (Nat → Int64) → (Nat → Int32) → (Int32) → (Nat → Int32) → (Int32) → (Int64) → (Int64) → (Int64) → Prop) (hw : wp_X4_findFit K_warm K_strengths K_faces K_bars K_showing K_showingRight K_barring K_seeds K_blocks S_cells S_staleCells S_fits S_fitsInLine S_fitsInAll S_stale S_staleCount S_atLeast1 S_atLeast2 S_atLeast3 p1 Q) : Met l yX4_findFit wsX4_findFit rm_X4_findFit (va_Pc [.ref aS, .int p1] (cx_B tS tT cI cJ cZ cO D sz (w_X4_findFit cI cJ cZ cO aK aK_strengths aK_kinds aK_marks aK_faces aK_bars aK_showing aK_showingRight aK_barring aS aS_cells aS_fits aS_fitsInLine aS_stale aS_staleCells aS_seen aS_queue K_warm K_count K_seeds K_blocks K_rivals K_strengths K_faces K_bars K_showing K_showingRight K_barring S_pieces S_grown S_fitsInAll S_staleCount S_atLeast1 S_atLeast2 S_atLeast3 S_cells S_fits S_fitsInLine S_stale S_staleCells))) (va_Qi (fun (r : Int32) (u : (Nat → Int64) × (Nat → Int32) × (Int32) × (Nat → Int32) × (Int32) × (Int64) × (Int64) × (Int64)) => Q r u.1 u.2.1 u.2.2.1 u.2.2.2.1 u.2.2.2.2.1 u.2.2.2.2.2.1 u.2.2.2.2.2.2.1 u.2.2.2.2.2.2.2) (fun (u : (Nat → Int64) × (Nat → Int32) × (Int32) × (Nat → Int32) × (Int32) × (Int64) × (Int64) × (Int64)) t => va_P D vwCl (w_X4_findFit cI cJ cZ cO aK aK_strengths aK_kinds aK_marks aK_faces aK_bars aK_showing aK_showingRight aK_barring aS aS_cells aS_fits aS_fitsInLine aS_stale aS_staleCells aS_seen aS_queue K_warm K_count K_seeds K_blocks K_rivals K_strengths K_faces K_bars K_showing K_showingRight K_barring S_pieces S_grown u.2.2.1 u.2.2.2.2.1 u.2.2.2.2.2.1 u.2.2.2.2.2.2.1 u.2.2.2.2.2.2.2 S_cells u.1 u.2.1 u.2.2.2.1 S_staleCells) t.heap) (va_A (w_X4_findFit cI cJ cZ cO aK aK_strengths aK_kinds aK_marks aK_faces aK_bars aK_showing aK_showingRight aK_barring aS aS_cells aS_fits aS_fitsInLine aS_stale aS_staleCells aS_seen aS_queue K_warm K_count K_seeds K_blocks K_rivals K_strengths K_faces K_bars K_showing K_showingRight K_barring S_pieces S_grown S_fitsInAll S_staleCount S_atLeast1 S_atLeast2 S_atLeast3 S_cells S_fits S_fitsInLine S_stale S_staleCells) sz)) 0 0 (va_A (w_X4_findFit cI cJ cZ cO aK aK_strengths aK_kinds aK_marks aK_faces aK_bars aK_showing aK_showingRight aK_barring aS aS_cells aS_fits aS_fitsInLine aS_stale aS_staleCells aS_seen aS_queue K_warm K_count K_seeds K_blocks K_rivals K_strengths K_faces K_bars K_showing K_showingRight K_barring S_pieces S_grown S_fitsInAll S_staleCount S_atLeast1 S_atLeast2 S_atLeast3 S_cells S_fits S_fitsInLine S_stale S_staleCells) sz) := by
  refine cx_met (cc := cX4_findFit) (maxL := 4) (ret := (some .int)) (Qc := fun A => va_Qi (fun (r : Int32) (u : (Nat → Int64) × (Nat → Int32) × (Int32) × (Nat → Int32) × (Int32) × (Int64) × (Int64) × (Int64)) => Q r u.1 u.2.1 u.2.2.1 u.2.2.2.1 u.2.2.2.2.1 u.2.2.2.2.2.1 u.2.2.2.2.2.2.1 u.2.2.2.2.2.2.2) (fun (u : (Nat → Int64) × (Nat → Int32) × (Int32) × (Nat → Int32) × (Int32) × (Int64) × (Int64) × (Int64)) t => va_P D vwCl (w_X4_findFit cI cJ cZ cO aK aK_strengths aK_kinds aK_marks aK_faces aK_bars aK_showing aK_showingRight aK_barring aS aS_cells aS_fits aS_fitsInLine aS_stale aS_staleCells aS_seen aS_queue K_warm K_count K_seeds K_blocks K_rivals K_strengths K_faces K_bars K_showing K_showingRight K_barring S_pieces S_grown u.2.2.1 u.2.2.2.2.1 u.2.2.2.2.2.1 u.2.2.2.2.2.2.1 u.2.2.2.2.2.2.2 S_cells u.1 u.2.1 u.2.2.2.1 S_staleCells) t.heap) A) (lv := [(0, .ref aS), (1, .int p1)]) (by decide) rfl (Nat.le_of_ble_eq_true rfl) rfl ?_
  intro p e s m args below meth c A Z hx hb hr hlocks hts hown hml hE hK hA hZ
  have hown : s.vm.findClass RX4 = some m.cls := hown
  have k_0 := hts (.fieldLink RX4 30 "GrowingTiles$Sheet" "fitsInLine" "[I") (List.mem_of_getElem? (i := 1) (by decide +kernel))
  have b_8 : ∀ n_8 : Nat, ∀ (S_fits : Nat → Int64) (S_fitsInLine : Nat → Int32) (S_fitsInAll : Int32) (S_stale : Nat → Int32) (S_staleCount : Int32) (S_atLeast1 : Int64) (S_atLeast2 : Int64) (S_atLeast3 : Int64) (x2 : Int32) (x3 : Int32), wq_X4_findFit_8 K_warm K_strengths K_faces K_bars K_showing K_showingRight K_barring K_seeds K_blocks S_cells S_staleCells Q n_8 S_fits S_fitsInLine S_fitsInAll S_stale S_staleCount S_atLeast1 S_atLeast2 S_atLeast3 x2 x3 → ∀ (H : Heap) (locs : List Loc), va_P D vwCl (w_X4_findFit cI cJ cZ cO aK aK_strengths aK_kinds aK_marks aK_faces aK_bars aK_showing aK_showingRight aK_barring aS aS_cells aS_fits aS_fitsInLine aS_stale aS_staleCells aS_seen aS_queue K_warm K_count K_seeds K_blocks K_rivals K_strengths K_faces K_bars K_showing K_showingRight K_barring S_pieces S_grown S_fitsInAll S_staleCount S_atLeast1 S_atLeast2 S_atLeast3 S_cells S_fits S_fitsInLine S_stale S_staleCells) H → va_D A (w_X4_findFit cI cJ cZ cO aK aK_strengths aK_kinds aK_marks aK_faces aK_bars aK_showing aK_showingRight aK_barring aS aS_cells aS_fits aS_fitsInLine aS_stale aS_staleCells aS_seen aS_queue K_warm K_count K_seeds K_blocks K_rivals K_strengths K_faces K_bars K_showing K_showingRight K_barring S_pieces S_grown S_fitsInAll S_staleCount S_atLeast1 S_atLeast2 S_atLeast3 S_cells S_fits S_fitsInLine S_stale S_staleCells) → va_S A s.heap H locs → ∀ ls : Array Slot, lv_has ls 4 [(0, .ref aS), (2, .int x2), (3, .int x3)] → W p l e rm_X4_findFit s m args below meth c H locs 0 0 Z (F0 m 8 ls []) := by
    intro n_8
    induction n_8 with
    | zero => intro S_fits S_fitsInLine S_fitsInAll S_stale S_staleCount S_atLeast1 S_atLeast2 S_atLeast3 x2 x3 hw; exact False.elim hw
    | succ n_8 ih_8 =>
      intro S_fits S_fitsInLine S_fitsInAll S_stale S_staleCount S_atLeast1 S_atLeast2 S_atLeast3 x2 x3 hw H locs hP hD hS ls hl
      have hw : wf_X4_findFit_8 K_warm K_strengths K_faces K_bars K_showing K_showingRight K_barring K_seeds K_blocks S_cells S_staleCells Q (wq_X4_findFit_8 K_warm K_strengths K_faces K_bars K_showing K_showingRight K_barring K_seeds K_blocks S_cells S_staleCells Q n_8) S_fits S_fitsInLine S_fitsInAll S_stale S_staleCount S_atLeast1 S_atLeast2 S_atLeast3 x2 x3 := hw
      unfold wf_X4_findFit_8 at hw
      refine lv_iload_n hx hb dX4_findFit_8 rfl (lv_at hl 2 rfl) ?_
      refine lv_bipush (v := (16 : Int32)) hx hb dX4_findFit_9 kB_16 ?_
      refine lv_icmp_ge (tgt := 46) hx hb dX4_findFit_11 (by decide) (fun c11 => ?_) (fun c11 => ?_)
      · have hw := hw.1 c11
        refine lv_iconst (v := (-1 : Int32)) hx hb dX4_findFit_46 kI_m1 ?_
        rw [hZ]
        exact cx_reti (S_fits, S_fitsInLine, S_fitsInAll, S_stale, S_staleCount, S_atLeast1, S_atLeast2, S_atLeast3) hx hb hr hlocks hw hP hS dX4_findFit_47
      · have hw := hw.2 c11
        refine lv_iload_n hx hb dX4_findFit_14 rfl (lv_at hl 1 rfl) ?_
        refine lv_aload_n hx hb dX4_findFit_15 rfl (lv_at hl 0 rfl) ?_
        refine va_get (D := D) (ci := 4) (v := .ref aS_fitsInLine) (C := RX4) (T := TX4) (N := 15) hx hb hts in_X4_findFit_X4 hown hK hP 7 rfl rfl 5 (by decide) k_0 (fun _ h9 => h9) rfl dX4_findFit_16 ?_
        refine lv_iload_n hx hb dX4_findFit_19 rfl (lv_at hl 2 rfl) ?_
        have h20 := hw.1
        have hw := hw.2
        refine va_iald hx hb hK hP 10 0 rfl rfl h20 dX4_findFit_20 ?_
        refine lv_topi (fun v20 e20 => ?_)
        have hw := hw v20 e20
        refine lv_icmp_ge (tgt := 31) hx hb dX4_findFit_21 (by decide) (fun c21 => ?_) (fun c21 => ?_)
        · have hw := hw.1 c21
          refine lv_iload_n hx hb dX4_findFit_31 rfl (lv_at hl 1 rfl) ?_
          refine lv_aload_n hx hb dX4_findFit_32 rfl (lv_at hl 0 rfl) ?_
          refine va_get (D := D) (ci := 4) (v := .ref aS_fitsInLine) (C := RX4) (T := TX4) (N := 15) hx hb hts in_X4_findFit_X4 hown hK hP 7 rfl rfl 5 (by decide) k_0 (fun _ h9 => h9) rfl dX4_findFit_33 ?_
          refine lv_iload_n hx hb dX4_findFit_36 rfl (lv_at hl 2 rfl) ?_
          have h37 := hw.1
          have hw := hw.2
          refine va_iald hx hb hK hP 10 0 rfl rfl h37 dX4_findFit_37 ?_
          refine lv_topi (fun v37 e37 => ?_)
          have hw := hw v37 e37
          refine lv_isub hx hb dX4_findFit_38 ?_
          refine lv_topi (fun v39 e39 => ?_)
          have hw := hw v39 e39
          refine lv_istore_n (lv' := [(2, .int v39), (0, .ref aS), (3, .int x3)]) hx hb dX4_findFit_39 rfl hl (by decide) rfl (fun ls hl => ?_)
          obtain ⟨v40, e40⟩ : ∃ y : Int32, y = x3 + (1 : Int32) := ⟨_, rfl⟩
          have hw := hw v40 e40
          refine lv_iinc (v := v40) (lv' := [(3, .int v40), (2, .int v39), (0, .ref aS)]) hx hb dX4_findFit_40 hl (k := 2) rfl (by rw [e40, kI_1]) (by decide) rfl (fun ls hl => ?_)
          refine lv_goto (tgt := 8) hx hb dX4_findFit_43 (by decide) ?_
          exact ih_8 S_fits S_fitsInLine S_fitsInAll S_stale S_staleCount S_atLeast1 S_atLeast2 S_atLeast3 v39 v40 hw H locs hP hD hS ls (lv_sub hl [2, 1, 0] rfl)
        · have hw := hw.2 c21
          refine lv_aload_n hx hb dX4_findFit_24 rfl (lv_at hl 0 rfl) ?_
          refine lv_iload_n hx hb dX4_findFit_25 rfl (lv_at hl 2 rfl) ?_
          refine lv_iload_n hx hb dX4_findFit_26 rfl (lv_at hl 1 rfl) ?_
          refine cx_goi (va_runV (As := [.int x3, .int x2]) (rest := []) ⟨hx, hb, hml, hown, hts⟩ (c_X4_findInLine l D cI cJ cZ cO tS tT H.size aS aK aS_cells aS_fits aS_fitsInLine aS_stale aS_staleCells aS_seen aS_queue S_pieces S_grown S_fitsInAll S_staleCount S_atLeast1 S_atLeast2 S_atLeast3 S_fits x3 x2 _ hw) (cwV 2 hts gX4_findFit_X4_findInLine rfl rfl rfl pv_X4_findInLine ⟨Nat.le_of_ble_eq_true rfl, Nat.le_of_ble_eq_true rfl⟩) (cx_preV (wc := w_X4_findInLine cI cJ cZ cO aS aK aS_cells aS_fits aS_fitsInLine aS_stale aS_staleCells aS_seen aS_queue S_pieces S_grown S_fitsInAll S_staleCount S_atLeast1 S_atLeast2 S_atLeast3 S_fits) hE hK hP hD hS hA [7, 9] rfl rfl (va_recv hK hP (ci := 4) (q0 := 7) rfl rfl)) rfl rfl hl.1 rfl (lv_room (Nat.le_of_ble_eq_true rfl)) dX4_findFit_27 ⟨Nat.le_of_ble_eq_true rfl, Nat.le_of_ble_eq_true rfl⟩) (fun (_ : Unit) => (w_X4_findFit cI cJ cZ cO aK aK_strengths aK_kinds aK_marks aK_faces aK_bars aK_showing aK_showingRight aK_barring aS aS_cells aS_fits aS_fitsInLine aS_stale aS_staleCells aS_seen aS_queue K_warm K_count K_seeds K_blocks K_rivals K_strengths K_faces K_bars K_showing K_showingRight K_barring S_pieces S_grown S_fitsInAll S_staleCount S_atLeast1 S_atLeast2 S_atLeast3 S_cells S_fits S_fitsInLine S_stale S_staleCells)) [7, 9] [0, 1, 2, 3, 4, 5, 6, 8, 10, 11, 12] (ads := [aS, aS_fits]) (wr := [(aK, .inr (1, [.int K_warm, .int K_count, .ref aK_strengths, .ref aK_kinds, .ref aK_marks, .ref aK_faces, .ref aK_bars, .ref aK_showing, .ref aK_showingRight, .ref aK_barring, .long K_seeds, .long K_blocks, .long K_rivals])), (aK_strengths, .inl (cI, 51, .inl K_strengths)), (aK_faces, .inl (cI, 512, .inl K_faces)), (aK_bars, .inl (cI, 128, .inl K_bars)), (aK_showing, .inl (cJ, 204, .inr (.inl K_showing))), (aK_showingRight, .inl (cJ, 204, .inr (.inl K_showingRight))), (aK_barring, .inl (cJ, 4, .inr (.inl K_barring))), (aS_cells, .inl (cI, 324, .inl S_cells)), (aS_fitsInLine, .inl (cI, 16, .inl S_fitsInLine)), (aS_stale, .inl (cZ, 324, .inl S_stale)), (aS_staleCells, .inl (cI, 256, .inl S_staleCells))]) rfl rfl (fun u => rfl) (fun u => rfl) rfl (fun u => rfl) rfl (fun u => rfl) rfl hP hD hS hA (fun r27 u H locs hw hP hD hS => ?_)
          have hP : va_P D vwCl (w_X4_findFit cI cJ cZ cO aK aK_strengths aK_kinds aK_marks aK_faces aK_bars aK_showing aK_showingRight aK_barring aS aS_cells aS_fits aS_fitsInLine aS_stale aS_staleCells aS_seen aS_queue K_warm K_count K_seeds K_blocks K_rivals K_strengths K_faces K_bars K_showing K_showingRight K_barring S_pieces S_grown S_fitsInAll S_staleCount S_atLeast1 S_atLeast2 S_atLeast3 S_cells S_fits S_fitsInLine S_stale S_staleCells) H := hP
          have hD : va_D A (w_X4_findFit cI cJ cZ cO aK aK_strengths aK_kinds aK_marks aK_faces aK_bars aK_showing aK_showingRight aK_barring aS aS_cells aS_fits aS_fitsInLine aS_stale aS_staleCells aS_seen aS_queue K_warm K_count K_seeds K_blocks K_rivals K_strengths K_faces K_bars K_showing K_showingRight K_barring S_pieces S_grown S_fitsInAll S_staleCount S_atLeast1 S_atLeast2 S_atLeast3 S_cells S_fits S_fitsInLine S_stale S_staleCells) := hD
          rw [hZ]
          exact cx_reti (S_fits, S_fitsInLine, S_fitsInAll, S_stale, S_staleCount, S_atLeast1, S_atLeast2, S_atLeast3) hx hb hr hlocks hw hP hS dX4_findFit_30
  intro H locs hP hD hS ls hl
  unfold wp_X4_findFit at hw
  refine lv_aload_n hx hb dX4_findFit_0 rfl (lv_at hl 0 rfl) ?_
  refine cx_gov (va_runV (As := []) (rest := []) ⟨hx, hb, hml, hown, hts⟩ (c_X4_renewStale l D cI cJ cZ cO tS tT H.size aK aK_strengths aK_kinds aK_marks aK_faces aK_bars aK_showing aK_showingRight aK_barring aS aS_cells aS_fits aS_fitsInLine aS_stale aS_staleCells aS_seen aS_queue K_warm K_count K_seeds K_blocks K_rivals K_strengths K_faces K_bars K_showing K_showingRight K_barring S_pieces S_grown S_fitsInAll S_staleCount S_atLeast1 S_atLeast2 S_atLeast3 S_cells S_fits S_fitsInLine S_stale S_staleCells _ hw) (cwV 0 hts gX4_findFit_X4_renewStale rfl rfl rfl pv_X4_renewStale ⟨Nat.le_of_ble_eq_true rfl, Nat.le_of_ble_eq_true rfl⟩) (cx_preV (wc := w_X4_renewStale cI cJ cZ cO aK aK_strengths aK_kinds aK_marks aK_faces aK_bars aK_showing aK_showingRight aK_barring aS aS_cells aS_fits aS_fitsInLine aS_stale aS_staleCells aS_seen aS_queue K_warm K_count K_seeds K_blocks K_rivals K_strengths K_faces K_bars K_showing K_showingRight K_barring S_pieces S_grown S_fitsInAll S_staleCount S_atLeast1 S_atLeast2 S_atLeast3 S_cells S_fits S_fitsInLine S_stale S_staleCells) hE hK hP hD hS hA [0, 1, 2, 3, 4, 5, 6, 7, 8, 9, 10, 11, 12] rfl rfl (va_recv hK hP (ci := 4) (q0 := 7) rfl rfl)) rfl rfl hl.1 rfl (lv_room (Nat.le_of_ble_eq_true rfl)) dX4_findFit_1 ⟨Nat.le_of_ble_eq_true rfl, Nat.le_of_ble_eq_true rfl⟩) (fun (u : (Nat → Int64) × (Nat → Int32) × (Int32) × (Nat → Int32) × (Int32) × (Int64) × (Int64) × (Int64)) => (w_X4_findFit cI cJ cZ cO aK aK_strengths aK_kinds aK_marks aK_faces aK_bars aK_showing aK_showingRight aK_barring aS aS_cells aS_fits aS_fitsInLine aS_stale aS_staleCells aS_seen aS_queue K_warm K_count K_seeds K_blocks K_rivals K_strengths K_faces K_bars K_showing K_showingRight K_barring S_pieces S_grown u.2.2.1 u.2.2.2.2.1 u.2.2.2.2.2.1 u.2.2.2.2.2.2.1 u.2.2.2.2.2.2.2 S_cells u.1 u.2.1 u.2.2.2.1 S_staleCells)) [0, 1, 2, 3, 4, 5, 6, 7, 8, 9, 10, 11, 12] [] (ads := [aK, aK_strengths, aK_faces, aK_bars, aK_showing, aK_showingRight, aK_barring, aS, aS_cells, aS_fits, aS_fitsInLine, aS_stale, aS_staleCells]) (wr := []) rfl rfl (fun u => rfl) (fun u => rfl) rfl (fun u => rfl) rfl (fun u => rfl) rfl hP hD hS hA (fun u H locs hw hP hD hS => ?_)
  obtain ⟨S_fits_1, S_fitsInLine_1, S_fitsInAll_1, S_stale_1, S_staleCount_1, S_atLeast1_1, S_atLeast2_1, S_atLeast3_1⟩ := u
  try dsimp only at hw
  have hP : va_P D vwCl (w_X4_findFit cI cJ cZ cO aK aK_strengths aK_kinds aK_marks aK_faces aK_bars aK_showing aK_showingRight aK_barring aS aS_cells aS_fits aS_fitsInLine aS_stale aS_staleCells aS_seen aS_queue K_warm K_count K_seeds K_blocks K_rivals K_strengths K_faces K_bars K_showing K_showingRight K_barring S_pieces S_grown S_fitsInAll_1 S_staleCount_1 S_atLeast1_1 S_atLeast2_1 S_atLeast3_1 S_cells S_fits_1 S_fitsInLine_1 S_stale_1 S_staleCells) H := hP
  have hD : va_D A (w_X4_findFit cI cJ cZ cO aK aK_strengths aK_kinds aK_marks aK_faces aK_bars aK_showing aK_showingRight aK_barring aS aS_cells aS_fits aS_fitsInLine aS_stale aS_staleCells aS_seen aS_queue K_warm K_count K_seeds K_blocks K_rivals K_strengths K_faces K_bars K_showing K_showingRight K_barring S_pieces S_grown S_fitsInAll_1 S_staleCount_1 S_atLeast1_1 S_atLeast2_1 S_atLeast3_1 S_cells S_fits_1 S_fitsInLine_1 S_stale_1 S_staleCells) := hD
  refine lv_iload_n hx hb dX4_findFit_4 rfl (lv_at hl 1 rfl) ?_
  refine lv_istore_n (lv' := [(2, .int p1), (0, .ref aS), (1, .int p1)]) hx hb dX4_findFit_5 rfl hl (by decide) rfl (fun ls hl => ?_)
  refine lv_iconst (v := (0 : Int32)) hx hb dX4_findFit_6 kI_0 ?_
  refine lv_istore_n (lv' := [(3, .int (0 : Int32)), (2, .int p1), (0, .ref aS), (1, .int p1)]) hx hb dX4_findFit_7 rfl hl (by decide) rfl (fun ls hl => ?_)
  obtain ⟨k, hw⟩ := hw
  exact b_8 k S_fits_1 S_fitsInLine_1 S_fitsInAll_1 S_stale_1 S_staleCount_1 S_atLeast1_1 S_atLeast2_1 S_atLeast3_1 p1 (0 : Int32) hw H locs hP hD hS ls (lv_sub hl [2, 1, 0] rfl)
set_option maxRecDepth 100000 in
set_option maxHeartbeats 4000000 in
theorem c_X4_holdOf (l : Launch) (D : va_G) (cI cJ cZ cO : ClassId) (tS tT : Nat) (sz : Nat) (aK aK_strengths aK_kinds aK_marks aK_faces aK_bars aK_showing aK_showingRight aK_barring aS aS_cells aS_fits aS_fitsInLine aS_stale aS_staleCells aS_seen aS_queue : Nat) (K_warm : Int32) (K_count : Int32) (K_seeds : Int64) (K_blocks : Int64) (K_rivals : Int64) (K_strengths : Nat → Int32) (K_kinds : Nat → Int32) (K_faces : Nat → Int32) (S_pieces : Int32) (S_grown : Int32) (S_fitsInAll : Int32) (S_staleCount : Int32) (S_atLeast1 : Int64) (S_atLeast2 : Int64) (S_atLeast3 : Int64) (S_cells : Nat → Int32) (p1 : Int32) (p2 : Int32) (Q : Int32 → Prop) (hw : wp_X4_holdOf K_strengths K_kinds K_faces S_cells p1 p2 Q) : Met l yX4_holdOf wsX4_holdOf rm_X4_holdOf (va_Pc [.ref aS, .int p1, .int p2] (cx_B tS tT cI cJ cZ cO D sz (w_X4_holdOf cI cJ cZ cO aK aK_strengths aK_kinds aK_marks aK_faces aK_bars aK_showing aK_showingRight aK_barring aS aS_cells aS_fits aS_fitsInLine aS_stale aS_staleCells aS_seen aS_queue K_warm K_count K_seeds K_blocks K_rivals K_strengths K_kinds K_faces S_pieces S_grown S_fitsInAll S_staleCount S_atLeast1 S_atLeast2 S_atLeast3 S_cells))) (va_Qi (fun (r : Int32) (_ : Unit) => Q r) (fun (u : Unit) t => va_P D vwCl (w_X4_holdOf cI cJ cZ cO aK aK_strengths aK_kinds aK_marks aK_faces aK_bars aK_showing aK_showingRight aK_barring aS aS_cells aS_fits aS_fitsInLine aS_stale aS_staleCells aS_seen aS_queue K_warm K_count K_seeds K_blocks K_rivals K_strengths K_kinds K_faces S_pieces S_grown S_fitsInAll S_staleCount S_atLeast1 S_atLeast2 S_atLeast3 S_cells) t.heap) (va_A (w_X4_holdOf cI cJ cZ cO aK aK_strengths aK_kinds aK_marks aK_faces aK_bars aK_showing aK_showingRight aK_barring aS aS_cells aS_fits aS_fitsInLine aS_stale aS_staleCells aS_seen aS_queue K_warm K_count K_seeds K_blocks K_rivals K_strengths K_kinds K_faces S_pieces S_grown S_fitsInAll S_staleCount S_atLeast1 S_atLeast2 S_atLeast3 S_cells) sz)) 0 0 (va_A (w_X4_holdOf cI cJ cZ cO aK aK_strengths aK_kinds aK_marks aK_faces aK_bars aK_showing aK_showingRight aK_barring aS aS_cells aS_fits aS_fitsInLine aS_stale aS_staleCells aS_seen aS_queue K_warm K_count K_seeds K_blocks K_rivals K_strengths K_kinds K_faces S_pieces S_grown S_fitsInAll S_staleCount S_atLeast1 S_atLeast2 S_atLeast3 S_cells) sz) := by
  refine cx_met (cc := cX4_holdOf) (maxL := 4) (ret := (some .int)) (Qc := fun A => va_Qi (fun (r : Int32) (_ : Unit) => Q r) (fun (u : Unit) t => va_P D vwCl (w_X4_holdOf cI cJ cZ cO aK aK_strengths aK_kinds aK_marks aK_faces aK_bars aK_showing aK_showingRight aK_barring aS aS_cells aS_fits aS_fitsInLine aS_stale aS_staleCells aS_seen aS_queue K_warm K_count K_seeds K_blocks K_rivals K_strengths K_kinds K_faces S_pieces S_grown S_fitsInAll S_staleCount S_atLeast1 S_atLeast2 S_atLeast3 S_cells) t.heap) A) (lv := [(0, .ref aS), (1, .int p1), (2, .int p2)]) (by decide) rfl (Nat.le_of_ble_eq_true rfl) rfl ?_
  intro p e s m args below meth c A Z hx hb hr hlocks hts hown hml hE hK hA hZ
  have hown : s.vm.findClass RX4 = some m.cls := hown
  have k_0 := hts (.fieldLink RX4 9 "GrowingTiles$Sheet" "kit" "LGrowingTiles$Kit;") (List.mem_of_getElem? (i := 1) (by decide +kernel))
  have k_1 := hts (.fieldLink RX4 52 "GrowingTiles$Kit" "kinds" "[I") (List.mem_of_getElem? (i := 2) (by decide +kernel))
  intro H locs hP hD hS ls hl
  unfold wp_X4_holdOf at hw
  refine lv_aload_n hx hb dX4_holdOf_0 rfl (lv_at hl 0 rfl) ?_
  refine lv_iconst (v := (1 : Int32)) hx hb dX4_holdOf_1 kI_1 ?_
  refine lv_iload_n hx hb dX4_holdOf_2 rfl (lv_at hl 1 rfl) ?_
  refine lv_iadd hx hb dX4_holdOf_3 ?_
  refine lv_iload_n hx hb dX4_holdOf_4 rfl (lv_at hl 2 rfl) ?_
  refine lv_iconst (v := (0 : Int32)) hx hb dX4_holdOf_5 kI_0 ?_
  refine cx_goi (va_runV (As := [.int ((1 : Int32) + p1), .int p2, .int (0 : Int32)]) (rest := []) ⟨hx, hb, hml, hown, hts⟩ (c_X4_holdOfCode l D cI cJ cZ cO tS tT H.size aK aK_strengths aK_kinds aK_marks aK_faces aK_bars aK_showing aK_showingRight aK_barring aS aS_cells aS_fits aS_fitsInLine aS_stale aS_staleCells aS_seen aS_queue K_warm K_count K_seeds K_blocks K_rivals K_strengths K_faces S_pieces S_grown S_fitsInAll S_staleCount S_atLeast1 S_atLeast2 S_atLeast3 S_cells ((1 : Int32) + p1) p2 (0 : Int32) _ hw) (cwV 3 hts gX4_holdOf_X4_holdOfCode rfl rfl rfl pv_X4_holdOfCode ⟨Nat.le_of_ble_eq_true rfl, Nat.le_of_ble_eq_true rfl⟩) (cx_preV (wc := w_X4_holdOfCode cI cJ cZ cO aK aK_strengths aK_kinds aK_marks aK_faces aK_bars aK_showing aK_showingRight aK_barring aS aS_cells aS_fits aS_fitsInLine aS_stale aS_staleCells aS_seen aS_queue K_warm K_count K_seeds K_blocks K_rivals K_strengths K_faces S_pieces S_grown S_fitsInAll S_staleCount S_atLeast1 S_atLeast2 S_atLeast3 S_cells) hE hK hP hD hS hA [0, 1, 3, 4, 5] rfl rfl (va_recv hK hP (ci := 4) (q0 := 4) rfl rfl)) rfl rfl hl.1 rfl (lv_room (Nat.le_of_ble_eq_true rfl)) dX4_holdOf_6 ⟨Nat.le_of_ble_eq_true rfl, Nat.le_of_ble_eq_true rfl⟩) (fun (_ : Unit) => (w_X4_holdOf cI cJ cZ cO aK aK_strengths aK_kinds aK_marks aK_faces aK_bars aK_showing aK_showingRight aK_barring aS aS_cells aS_fits aS_fitsInLine aS_stale aS_staleCells aS_seen aS_queue K_warm K_count K_seeds K_blocks K_rivals K_strengths K_kinds K_faces S_pieces S_grown S_fitsInAll S_staleCount S_atLeast1 S_atLeast2 S_atLeast3 S_cells)) [0, 1, 3, 4, 5] [2] (ads := [aK, aK_strengths, aK_faces, aS, aS_cells]) (wr := [(aK_kinds, .inl (cI, 40, .inl K_kinds))]) rfl rfl (fun u => rfl) (fun u => rfl) rfl (fun u => rfl) rfl (fun u => rfl) rfl hP hD hS hA (fun r6 u H locs hw hP hD hS => ?_)
  have hP : va_P D vwCl (w_X4_holdOf cI cJ cZ cO aK aK_strengths aK_kinds aK_marks aK_faces aK_bars aK_showing aK_showingRight aK_barring aS aS_cells aS_fits aS_fitsInLine aS_stale aS_staleCells aS_seen aS_queue K_warm K_count K_seeds K_blocks K_rivals K_strengths K_kinds K_faces S_pieces S_grown S_fitsInAll S_staleCount S_atLeast1 S_atLeast2 S_atLeast3 S_cells) H := hP
  have hD : va_D A (w_X4_holdOf cI cJ cZ cO aK aK_strengths aK_kinds aK_marks aK_faces aK_bars aK_showing aK_showingRight aK_barring aS aS_cells aS_fits aS_fitsInLine aS_stale aS_staleCells aS_seen aS_queue K_warm K_count K_seeds K_blocks K_rivals K_strengths K_kinds K_faces S_pieces S_grown S_fitsInAll S_staleCount S_atLeast1 S_atLeast2 S_atLeast3 S_cells) := hD
  refine lv_istore_n (lv' := [(3, .int r6), (0, .ref aS), (1, .int p1), (2, .int p2)]) hx hb dX4_holdOf_9 rfl hl (by decide) rfl (fun ls hl => ?_)
  refine lv_aload_n hx hb dX4_holdOf_10 rfl (lv_at hl 1 rfl) ?_
  refine va_get (D := D) (ci := 4) (v := .ref aK) (C := RX4) (T := TX4) (N := 15) hx hb hts in_X4_holdOf_X4 hown hK hP 4 rfl rfl 0 (by decide) k_0 (fun _ h9 => h9) rfl dX4_holdOf_11 ?_
  refine va_get (D := D) (ci := 1) (v := .ref aK_kinds) (C := RX1) (T := TX1) (N := 13) hx hb hts in_X4_holdOf_X1 hown hK hP 0 rfl rfl 3 (by decide) k_1 (fun _ h9 => h9) rfl dX4_holdOf_14 ?_
  refine lv_iload_n hx hb dX4_holdOf_17 rfl (lv_at hl 2 rfl) ?_
  have h18 := hw.1
  have hw := hw.2
  refine va_iald hx hb hK hP 2 0 rfl rfl h18 dX4_holdOf_18 ?_
  refine lv_topi (fun v18 e18 => ?_)
  have hw := hw v18 e18
  refine lv_iconst (v := (2 : Int32)) hx hb dX4_holdOf_19 kI_2 ?_
  refine lv_icmp_ne (tgt := 40) hx hb dX4_holdOf_20 (by decide) (fun c20 => ?_) (fun c20 => ?_)
  · have hw := hw.1 c20
    refine lv_iload_n hx hb dX4_holdOf_40 rfl (lv_at hl 0 rfl) ?_
    rw [hZ]
    exact cx_reti () hx hb hr hlocks hw hP hS dX4_holdOf_41
  · have hw := hw.2 c20
    refine lv_iload_n hx hb dX4_holdOf_23 rfl (lv_at hl 0 rfl) ?_
    refine lv_aload_n hx hb dX4_holdOf_24 rfl (lv_at hl 1 rfl) ?_
    refine lv_iconst (v := (1 : Int32)) hx hb dX4_holdOf_25 kI_1 ?_
    refine lv_iload_n hx hb dX4_holdOf_26 rfl (lv_at hl 2 rfl) ?_
    refine lv_iadd hx hb dX4_holdOf_27 ?_
    refine lv_bipush (v := (64 : Int32)) hx hb dX4_holdOf_28 kB_64 ?_
    refine lv_iadd hx hb dX4_holdOf_30 ?_
    refine lv_iload_n hx hb dX4_holdOf_31 rfl (lv_at hl 3 rfl) ?_
    refine lv_iconst (v := (1 : Int32)) hx hb dX4_holdOf_32 kI_1 ?_
    refine lv_iadd hx hb dX4_holdOf_33 ?_
    refine lv_iconst (v := (0 : Int32)) hx hb dX4_holdOf_34 kI_0 ?_
    refine cx_goi (va_runV (As := [.int (((1 : Int32) + p1) + (64 : Int32)), .int (p2 + (1 : Int32)), .int (0 : Int32)]) (rest := [.int r6]) ⟨hx, hb, hml, hown, hts⟩ (c_X4_holdOfCode l D cI cJ cZ cO tS tT H.size aK aK_strengths aK_kinds aK_marks aK_faces aK_bars aK_showing aK_showingRight aK_barring aS aS_cells aS_fits aS_fitsInLine aS_stale aS_staleCells aS_seen aS_queue K_warm K_count K_seeds K_blocks K_rivals K_strengths K_faces S_pieces S_grown S_fitsInAll S_staleCount S_atLeast1 S_atLeast2 S_atLeast3 S_cells (((1 : Int32) + p1) + (64 : Int32)) (p2 + (1 : Int32)) (0 : Int32) _ hw) (cwV 3 hts gX4_holdOf_X4_holdOfCode rfl rfl rfl pv_X4_holdOfCode ⟨Nat.le_of_ble_eq_true rfl, Nat.le_of_ble_eq_true rfl⟩) (cx_preV (wc := w_X4_holdOfCode cI cJ cZ cO aK aK_strengths aK_kinds aK_marks aK_faces aK_bars aK_showing aK_showingRight aK_barring aS aS_cells aS_fits aS_fitsInLine aS_stale aS_staleCells aS_seen aS_queue K_warm K_count K_seeds K_blocks K_rivals K_strengths K_faces S_pieces S_grown S_fitsInAll S_staleCount S_atLeast1 S_atLeast2 S_atLeast3 S_cells) hE hK hP hD hS hA [0, 1, 3, 4, 5] rfl rfl (va_recv hK hP (ci := 4) (q0 := 4) rfl rfl)) rfl rfl hl.1 rfl (lv_room (Nat.le_of_ble_eq_true rfl)) dX4_holdOf_35 ⟨Nat.le_of_ble_eq_true rfl, Nat.le_of_ble_eq_true rfl⟩) (fun (_ : Unit) => (w_X4_holdOf cI cJ cZ cO aK aK_strengths aK_kinds aK_marks aK_faces aK_bars aK_showing aK_showingRight aK_barring aS aS_cells aS_fits aS_fitsInLine aS_stale aS_staleCells aS_seen aS_queue K_warm K_count K_seeds K_blocks K_rivals K_strengths K_kinds K_faces S_pieces S_grown S_fitsInAll S_staleCount S_atLeast1 S_atLeast2 S_atLeast3 S_cells)) [0, 1, 3, 4, 5] [2] (ads := [aK, aK_strengths, aK_faces, aS, aS_cells]) (wr := [(aK_kinds, .inl (cI, 40, .inl K_kinds))]) rfl rfl (fun u => rfl) (fun u => rfl) rfl (fun u => rfl) rfl (fun u => rfl) rfl hP hD hS hA (fun r35 u H locs hw hP hD hS => ?_)
    have hP : va_P D vwCl (w_X4_holdOf cI cJ cZ cO aK aK_strengths aK_kinds aK_marks aK_faces aK_bars aK_showing aK_showingRight aK_barring aS aS_cells aS_fits aS_fitsInLine aS_stale aS_staleCells aS_seen aS_queue K_warm K_count K_seeds K_blocks K_rivals K_strengths K_kinds K_faces S_pieces S_grown S_fitsInAll S_staleCount S_atLeast1 S_atLeast2 S_atLeast3 S_cells) H := hP
    have hD : va_D A (w_X4_holdOf cI cJ cZ cO aK aK_strengths aK_kinds aK_marks aK_faces aK_bars aK_showing aK_showingRight aK_barring aS aS_cells aS_fits aS_fitsInLine aS_stale aS_staleCells aS_seen aS_queue K_warm K_count K_seeds K_blocks K_rivals K_strengths K_kinds K_faces S_pieces S_grown S_fitsInAll S_staleCount S_atLeast1 S_atLeast2 S_atLeast3 S_cells) := hD
    refine lv_iadd hx hb dX4_holdOf_38 ?_
    refine lv_topi (fun v39 e39 => ?_)
    have hw := hw v39 e39
    refine lv_istore_n (lv' := [(3, .int v39), (0, .ref aS), (1, .int p1), (2, .int p2)]) hx hb dX4_holdOf_39 rfl hl (by decide) rfl (fun ls hl => ?_)
    refine lv_iload_n hx hb dX4_holdOf_40 rfl (lv_at hl 0 rfl) ?_
    rw [hZ]
    exact cx_reti () hx hb hr hlocks hw hP hS dX4_holdOf_41
set_option maxRecDepth 100000 in
set_option maxHeartbeats 4000000 in
theorem c_X4_leadsOn (l : Launch) (D : va_G) (cI cJ cZ cO : ClassId) (tS tT : Nat) (sz : Nat) (aK aK_strengths aK_kinds aK_marks aK_faces aK_bars aK_showing aK_showingRight aK_barring aS aS_cells aS_fits aS_fitsInLine aS_stale aS_staleCells aS_seen aS_queue : Nat) (K_warm : Int32) (K_count : Int32) (K_seeds : Int64) (K_blocks : Int64) (K_rivals : Int64) (K_strengths : Nat → Int32) (K_faces : Nat → Int32) (S_pieces : Int32) (S_grown : Int32) (S_fitsInAll : Int32) (S_staleCount : Int32) (S_atLeast1 : Int64) (S_atLeast2 : Int64) (S_atLeast3 : Int64) (S_cells : Nat → Int32) (p1 : Int32) (p2 : Int32) (Q : Int32 → Prop) (hw : wp_X4_leadsOn K_strengths K_faces S_cells p1 p2 Q) : Met l yX4_leadsOn wsX4_leadsOn rm_X4_leadsOn (va_Pc [.ref aS, .int p1, .int p2] (cx_B tS tT cI cJ cZ cO D sz (w_X4_leadsOn cI cJ cZ cO aK aK_strengths aK_kinds aK_marks aK_faces aK_bars aK_showing aK_showingRight aK_barring aS aS_cells aS_fits aS_fitsInLine aS_stale aS_staleCells aS_seen aS_queue K_warm K_count K_seeds K_blocks K_rivals K_strengths K_faces S_pieces S_grown S_fitsInAll S_staleCount S_atLeast1 S_atLeast2 S_atLeast3 S_cells))) (va_Qi (fun (r : Int32) (_ : Unit) => Q r) (fun (u : Unit) t => va_P D vwCl (w_X4_leadsOn cI cJ cZ cO aK aK_strengths aK_kinds aK_marks aK_faces aK_bars aK_showing aK_showingRight aK_barring aS aS_cells aS_fits aS_fitsInLine aS_stale aS_staleCells aS_seen aS_queue K_warm K_count K_seeds K_blocks K_rivals K_strengths K_faces S_pieces S_grown S_fitsInAll S_staleCount S_atLeast1 S_atLeast2 S_atLeast3 S_cells) t.heap) (va_A (w_X4_leadsOn cI cJ cZ cO aK aK_strengths aK_kinds aK_marks aK_faces aK_bars aK_showing aK_showingRight aK_barring aS aS_cells aS_fits aS_fitsInLine aS_stale aS_staleCells aS_seen aS_queue K_warm K_count K_seeds K_blocks K_rivals K_strengths K_faces S_pieces S_grown S_fitsInAll S_staleCount S_atLeast1 S_atLeast2 S_atLeast3 S_cells) sz)) 0 0 (va_A (w_X4_leadsOn cI cJ cZ cO aK aK_strengths aK_kinds aK_marks aK_faces aK_bars aK_showing aK_showingRight aK_barring aS aS_cells aS_fits aS_fitsInLine aS_stale aS_staleCells aS_seen aS_queue K_warm K_count K_seeds K_blocks K_rivals K_strengths K_faces S_pieces S_grown S_fitsInAll S_staleCount S_atLeast1 S_atLeast2 S_atLeast3 S_cells) sz) := by
  refine cx_met (cc := cX4_leadsOn) (maxL := 6) (ret := (some .boolean)) (Qc := fun A => va_Qi (fun (r : Int32) (_ : Unit) => Q r) (fun (u : Unit) t => va_P D vwCl (w_X4_leadsOn cI cJ cZ cO aK aK_strengths aK_kinds aK_marks aK_faces aK_bars aK_showing aK_showingRight aK_barring aS aS_cells aS_fits aS_fitsInLine aS_stale aS_staleCells aS_seen aS_queue K_warm K_count K_seeds K_blocks K_rivals K_strengths K_faces S_pieces S_grown S_fitsInAll S_staleCount S_atLeast1 S_atLeast2 S_atLeast3 S_cells) t.heap) A) (lv := [(0, .ref aS), (1, .int p1), (2, .int p2)]) (by decide) rfl (Nat.le_of_ble_eq_true rfl) rfl ?_
  intro p e s m args below meth c A Z hx hb hr hlocks hts hown hml hE hK hA hZ
  have hown : s.vm.findClass RX4 = some m.cls := hown
  have k_0 := hts (.fieldLink RX4 15 "GrowingTiles$Sheet" "cells" "[I") (List.mem_of_getElem? (i := 1) (by decide +kernel))
  have b_54 : ∀ (x1 : Int32) (x2 : Int32) (x3 : Int32) (x4 : Int32) (y0 : Int32), wq_X4_leadsOn_54 K_strengths K_faces S_cells Q x1 x2 x3 x4 y0 → ∀ (H : Heap) (locs : List Loc), va_P D vwCl (w_X4_leadsOn cI cJ cZ cO aK aK_strengths aK_kinds aK_marks aK_faces aK_bars aK_showing aK_showingRight aK_barring aS aS_cells aS_fits aS_fitsInLine aS_stale aS_staleCells aS_seen aS_queue K_warm K_count K_seeds K_blocks K_rivals K_strengths K_faces S_pieces S_grown S_fitsInAll S_staleCount S_atLeast1 S_atLeast2 S_atLeast3 S_cells) H → va_D A (w_X4_leadsOn cI cJ cZ cO aK aK_strengths aK_kinds aK_marks aK_faces aK_bars aK_showing aK_showingRight aK_barring aS aS_cells aS_fits aS_fitsInLine aS_stale aS_staleCells aS_seen aS_queue K_warm K_count K_seeds K_blocks K_rivals K_strengths K_faces S_pieces S_grown S_fitsInAll S_staleCount S_atLeast1 S_atLeast2 S_atLeast3 S_cells) → va_S A s.heap H locs → ∀ ls : Array Slot, lv_has ls 6 [(0, .ref aS), (1, .int x1), (2, .int x2), (3, .int x3), (4, .int x4)] → W p l e rm_X4_leadsOn s m args below meth c H locs 0 0 Z (F0 m 54 ls [.int y0]) := by
    intro x1 x2 x3 x4 y0 hw H locs hP hD hS ls hl
    unfold wq_X4_leadsOn_54 at hw
    refine lv_istore (lv' := [(5, .int y0), (0, .ref aS), (1, .int x1), (2, .int x2), (3, .int x3), (4, .int x4)]) hx hb dX4_leadsOn_54 hl (by decide) rfl (fun ls hl => ?_)
    refine lv_iload hx hb dX4_leadsOn_56 (lv_at hl 5 rfl) ?_
    refine lv_if_eq (tgt := 80) hx hb dX4_leadsOn_58 (by decide) (fun c58 => ?_) (fun c58 => ?_)
    · have hw := hw.1 c58
      refine lv_iconst (v := (0 : Int32)) hx hb dX4_leadsOn_80 kI_0 ?_
      rw [hZ]
      exact cx_retz () hx hb hr hlocks rfl hw hP hS dX4_leadsOn_81
    · have hw := hw.2 c58
      refine lv_iload hx hb dX4_leadsOn_61 (lv_at hl 0 rfl) ?_
      refine lv_if_ne (tgt := 76) hx hb dX4_leadsOn_63 (by decide) (fun c63 => ?_) (fun c63 => ?_)
      · have hw := hw.1 c63
        refine lv_iconst (v := (1 : Int32)) hx hb dX4_leadsOn_76 kI_1 ?_
        refine lv_goto (tgt := 81) hx hb dX4_leadsOn_77 (by decide) ?_
        rw [hZ]
        exact cx_retz () hx hb hr hlocks rfl hw hP hS dX4_leadsOn_81
      · have hw := hw.2 c63
        refine lv_aload_n hx hb dX4_leadsOn_66 rfl (lv_at hl 1 rfl) ?_
        refine lv_iload_n hx hb dX4_leadsOn_67 rfl (lv_at hl 4 rfl) ?_
        refine lv_iload_n hx hb dX4_leadsOn_68 rfl (lv_at hl 2 rfl) ?_
        refine lv_iload_n hx hb dX4_leadsOn_69 rfl (lv_at hl 3 rfl) ?_
        refine cx_goi (va_runV (As := [.int x3, .int x1, .int x2]) (rest := []) ⟨hx, hb, hml, hown, hts⟩ (c_X4_strengthAt l D cI cJ cZ cO tS tT H.size aK aK_strengths aK_kinds aK_marks aK_faces aK_bars aK_showing aK_showingRight aK_barring aS aS_cells aS_fits aS_fitsInLine aS_stale aS_staleCells aS_seen aS_queue K_warm K_count K_seeds K_blocks K_rivals K_strengths K_faces S_pieces S_grown S_fitsInAll S_staleCount S_atLeast1 S_atLeast2 S_atLeast3 S_cells x3 x1 x2 _ hw) (cwV 3 hts gX4_leadsOn_X4_strengthAt rfl rfl rfl pv_X4_strengthAt ⟨Nat.le_of_ble_eq_true rfl, Nat.le_of_ble_eq_true rfl⟩) (cx_preV (wc := w_X4_strengthAt cI cJ cZ cO aK aK_strengths aK_kinds aK_marks aK_faces aK_bars aK_showing aK_showingRight aK_barring aS aS_cells aS_fits aS_fitsInLine aS_stale aS_staleCells aS_seen aS_queue K_warm K_count K_seeds K_blocks K_rivals K_strengths K_faces S_pieces S_grown S_fitsInAll S_staleCount S_atLeast1 S_atLeast2 S_atLeast3 S_cells) hE hK hP hD hS hA [0, 1, 2, 3, 4] rfl rfl (va_recv hK hP (ci := 4) (q0 := 3) rfl rfl)) rfl rfl hl.1 rfl (lv_room (Nat.le_of_ble_eq_true rfl)) dX4_leadsOn_70 ⟨Nat.le_of_ble_eq_true rfl, Nat.le_of_ble_eq_true rfl⟩) (fun (_ : Unit) => (w_X4_leadsOn cI cJ cZ cO aK aK_strengths aK_kinds aK_marks aK_faces aK_bars aK_showing aK_showingRight aK_barring aS aS_cells aS_fits aS_fitsInLine aS_stale aS_staleCells aS_seen aS_queue K_warm K_count K_seeds K_blocks K_rivals K_strengths K_faces S_pieces S_grown S_fitsInAll S_staleCount S_atLeast1 S_atLeast2 S_atLeast3 S_cells)) [0, 1, 2, 3, 4] [] (ads := [aK, aK_strengths, aK_faces, aS, aS_cells]) (wr := []) rfl rfl (fun u => rfl) (fun u => rfl) rfl (fun u => rfl) rfl (fun u => rfl) rfl hP hD hS hA (fun r70 u H locs hw hP hD hS => ?_)
        have hP : va_P D vwCl (w_X4_leadsOn cI cJ cZ cO aK aK_strengths aK_kinds aK_marks aK_faces aK_bars aK_showing aK_showingRight aK_barring aS aS_cells aS_fits aS_fitsInLine aS_stale aS_staleCells aS_seen aS_queue K_warm K_count K_seeds K_blocks K_rivals K_strengths K_faces S_pieces S_grown S_fitsInAll S_staleCount S_atLeast1 S_atLeast2 S_atLeast3 S_cells) H := hP
        have hD : va_D A (w_X4_leadsOn cI cJ cZ cO aK aK_strengths aK_kinds aK_marks aK_faces aK_bars aK_showing aK_showingRight aK_barring aS aS_cells aS_fits aS_fitsInLine aS_stale aS_staleCells aS_seen aS_queue K_warm K_count K_seeds K_blocks K_rivals K_strengths K_faces S_pieces S_grown S_fitsInAll S_staleCount S_atLeast1 S_atLeast2 S_atLeast3 S_cells) := hD
        refine lv_if_le (tgt := 80) hx hb dX4_leadsOn_73 (by decide) (fun c73 => ?_) (fun c73 => ?_)
        · have hw := hw.1 c73
          refine lv_iconst (v := (0 : Int32)) hx hb dX4_leadsOn_80 kI_0 ?_
          rw [hZ]
          exact cx_retz () hx hb hr hlocks rfl hw hP hS dX4_leadsOn_81
        · have hw := hw.2 c73
          refine lv_iconst (v := (1 : Int32)) hx hb dX4_leadsOn_76 kI_1 ?_
          refine lv_goto (tgt := 81) hx hb dX4_leadsOn_77 (by decide) ?_
          rw [hZ]
          exact cx_retz () hx hb hr hlocks rfl hw hP hS dX4_leadsOn_81
  have b_53 : ∀ (x1 : Int32) (x2 : Int32) (x3 : Int32) (x4 : Int32), wq_X4_leadsOn_53 K_strengths K_faces S_cells Q x1 x2 x3 x4 → ∀ (H : Heap) (locs : List Loc), va_P D vwCl (w_X4_leadsOn cI cJ cZ cO aK aK_strengths aK_kinds aK_marks aK_faces aK_bars aK_showing aK_showingRight aK_barring aS aS_cells aS_fits aS_fitsInLine aS_stale aS_staleCells aS_seen aS_queue K_warm K_count K_seeds K_blocks K_rivals K_strengths K_faces S_pieces S_grown S_fitsInAll S_staleCount S_atLeast1 S_atLeast2 S_atLeast3 S_cells) H → va_D A (w_X4_leadsOn cI cJ cZ cO aK aK_strengths aK_kinds aK_marks aK_faces aK_bars aK_showing aK_showingRight aK_barring aS aS_cells aS_fits aS_fitsInLine aS_stale aS_staleCells aS_seen aS_queue K_warm K_count K_seeds K_blocks K_rivals K_strengths K_faces S_pieces S_grown S_fitsInAll S_staleCount S_atLeast1 S_atLeast2 S_atLeast3 S_cells) → va_S A s.heap H locs → ∀ ls : Array Slot, lv_has ls 6 [(0, .ref aS), (1, .int x1), (2, .int x2), (3, .int x3), (4, .int x4)] → W p l e rm_X4_leadsOn s m args below meth c H locs 0 0 Z (F0 m 53 ls []) := by
    intro x1 x2 x3 x4 hw H locs hP hD hS ls hl
    unfold wq_X4_leadsOn_53 at hw
    refine lv_iconst (v := (0 : Int32)) hx hb dX4_leadsOn_53 kI_0 ?_
    exact b_54 x1 x2 x3 x4 (0 : Int32) hw H locs hP hD hS ls (lv_sub hl [0, 1, 2, 3, 4] rfl)
  have b_49 : ∀ (x1 : Int32) (x2 : Int32) (x3 : Int32) (x4 : Int32), wq_X4_leadsOn_49 K_strengths K_faces S_cells Q x1 x2 x3 x4 → ∀ (H : Heap) (locs : List Loc), va_P D vwCl (w_X4_leadsOn cI cJ cZ cO aK aK_strengths aK_kinds aK_marks aK_faces aK_bars aK_showing aK_showingRight aK_barring aS aS_cells aS_fits aS_fitsInLine aS_stale aS_staleCells aS_seen aS_queue K_warm K_count K_seeds K_blocks K_rivals K_strengths K_faces S_pieces S_grown S_fitsInAll S_staleCount S_atLeast1 S_atLeast2 S_atLeast3 S_cells) H → va_D A (w_X4_leadsOn cI cJ cZ cO aK aK_strengths aK_kinds aK_marks aK_faces aK_bars aK_showing aK_showingRight aK_barring aS aS_cells aS_fits aS_fitsInLine aS_stale aS_staleCells aS_seen aS_queue K_warm K_count K_seeds K_blocks K_rivals K_strengths K_faces S_pieces S_grown S_fitsInAll S_staleCount S_atLeast1 S_atLeast2 S_atLeast3 S_cells) → va_S A s.heap H locs → ∀ ls : Array Slot, lv_has ls 6 [(0, .ref aS), (1, .int x1), (2, .int x2), (3, .int x3), (4, .int x4)] → W p l e rm_X4_leadsOn s m args below meth c H locs 0 0 Z (F0 m 49 ls []) := by
    intro x1 x2 x3 x4 hw H locs hP hD hS ls hl
    unfold wq_X4_leadsOn_49 at hw
    refine lv_iconst (v := (1 : Int32)) hx hb dX4_leadsOn_49 kI_1 ?_
    refine lv_goto (tgt := 54) hx hb dX4_leadsOn_50 (by decide) ?_
    exact b_54 x1 x2 x3 x4 (1 : Int32) hw H locs hP hD hS ls (lv_sub hl [0, 1, 2, 3, 4] rfl)
  have b_35 : ∀ (x1 : Int32) (x2 : Int32) (x3 : Int32) (x4 : Int32), wq_X4_leadsOn_35 K_strengths K_faces S_cells Q x1 x2 x3 x4 → ∀ (H : Heap) (locs : List Loc), va_P D vwCl (w_X4_leadsOn cI cJ cZ cO aK aK_strengths aK_kinds aK_marks aK_faces aK_bars aK_showing aK_showingRight aK_barring aS aS_cells aS_fits aS_fitsInLine aS_stale aS_staleCells aS_seen aS_queue K_warm K_count K_seeds K_blocks K_rivals K_strengths K_faces S_pieces S_grown S_fitsInAll S_staleCount S_atLeast1 S_atLeast2 S_atLeast3 S_cells) H → va_D A (w_X4_leadsOn cI cJ cZ cO aK aK_strengths aK_kinds aK_marks aK_faces aK_bars aK_showing aK_showingRight aK_barring aS aS_cells aS_fits aS_fitsInLine aS_stale aS_staleCells aS_seen aS_queue K_warm K_count K_seeds K_blocks K_rivals K_strengths K_faces S_pieces S_grown S_fitsInAll S_staleCount S_atLeast1 S_atLeast2 S_atLeast3 S_cells) → va_S A s.heap H locs → ∀ ls : Array Slot, lv_has ls 6 [(0, .ref aS), (1, .int x1), (2, .int x2), (3, .int x3), (4, .int x4)] → W p l e rm_X4_leadsOn s m args below meth c H locs 0 0 Z (F0 m 35 ls []) := by
    intro x1 x2 x3 x4 hw H locs hP hD hS ls hl
    unfold wq_X4_leadsOn_35 at hw
    refine lv_iload_n hx hb dX4_leadsOn_35 rfl (lv_at hl 2 rfl) ?_
    refine lv_iconst (v := (3 : Int32)) hx hb dX4_leadsOn_36 kI_3 ?_
    refine lv_icmp_ne (tgt := 53) hx hb dX4_leadsOn_37 (by decide) (fun c37 => ?_) (fun c37 => ?_)
    · have hw := hw.1 c37
      exact b_53 x1 x2 x3 x4 hw H locs hP hD hS ls (lv_sub hl [0, 1, 2, 3, 4] rfl)
    · have hw := hw.2 c37
      refine lv_iload_n hx hb dX4_leadsOn_40 rfl (lv_at hl 3 rfl) ?_
      refine lv_iload hx hb dX4_leadsOn_41 (lv_at hl 4 rfl) ?_
      refine lv_bipush (v := (64 : Int32)) hx hb dX4_leadsOn_43 kB_64 ?_
      refine lv_iadd hx hb dX4_leadsOn_45 ?_
      refine lv_icmp_ne (tgt := 53) hx hb dX4_leadsOn_46 (by decide) (fun c46 => ?_) (fun c46 => ?_)
      · have hw := hw.1 c46
        exact b_53 x1 x2 x3 x4 hw H locs hP hD hS ls (lv_sub hl [0, 1, 2, 3, 4] rfl)
      · have hw := hw.2 c46
        exact b_49 x1 x2 x3 x4 hw H locs hP hD hS ls (lv_sub hl [0, 1, 2, 3, 4] rfl)
  intro H locs hP hD hS ls hl
  unfold wp_X4_leadsOn at hw
  refine lv_aload_n hx hb dX4_leadsOn_0 rfl (lv_at hl 0 rfl) ?_
  refine va_get (D := D) (ci := 4) (v := .ref aS_cells) (C := RX4) (T := TX4) (N := 15) hx hb hts in_X4_leadsOn_X4 hown hK hP 3 rfl rfl 1 (by decide) k_0 (fun _ h9 => h9) rfl dX4_leadsOn_1 ?_
  refine lv_iload_n hx hb dX4_leadsOn_4 rfl (lv_at hl 1 rfl) ?_
  have h5 := hw.1
  have hw := hw.2
  refine va_iald hx hb hK hP 4 0 rfl rfl h5 dX4_leadsOn_5 ?_
  refine lv_topi (fun v5 e5 => ?_)
  have hw := hw v5 e5
  refine lv_istore_n (lv' := [(3, .int v5), (0, .ref aS), (1, .int p1), (2, .int p2)]) hx hb dX4_leadsOn_6 rfl hl (by decide) rfl (fun ls hl => ?_)
  refine lv_aload_n hx hb dX4_leadsOn_7 rfl (lv_at hl 1 rfl) ?_
  refine va_get (D := D) (ci := 4) (v := .ref aS_cells) (C := RX4) (T := TX4) (N := 15) hx hb hts in_X4_leadsOn_X4 hown hK hP 3 rfl rfl 1 (by decide) k_0 (fun _ h9 => h9) rfl dX4_leadsOn_8 ?_
  refine lv_iload_n hx hb dX4_leadsOn_11 rfl (lv_at hl 2 rfl) ?_
  refine va_getsN hx hb hE.2.1 hS hown (va_Nw.use rfl (hE.1.2.2.2.2.1)) (fun _ h9 => h9) dX4_leadsOn_12 ?_
  refine lv_iload_n hx hb dX4_leadsOn_15 rfl (lv_at hl 3 rfl) ?_
  have h16 := hw.1
  have hw := hw.2
  refine va_ti hx hb hE.2.2.1 hS h16 rfl dX4_leadsOn_16 ?_
  refine lv_topi (fun v16 e16 => ?_)
  have hw := hw v16 e16
  refine lv_iadd hx hb dX4_leadsOn_17 ?_
  have h18 := hw.1
  have hw := hw.2
  refine va_iald hx hb hK hP 4 0 rfl rfl h18 dX4_leadsOn_18 ?_
  refine lv_topi (fun v18 e18 => ?_)
  have hw := hw v18 e18
  refine lv_istore (lv' := [(4, .int v18), (3, .int v5), (0, .ref aS), (1, .int p1), (2, .int p2)]) hx hb dX4_leadsOn_19 hl (by decide) rfl (fun ls hl => ?_)
  refine lv_iload_n hx hb dX4_leadsOn_21 rfl (lv_at hl 4 rfl) ?_
  refine lv_iconst (v := (1 : Int32)) hx hb dX4_leadsOn_22 kI_1 ?_
  refine lv_icmp_ne (tgt := 35) hx hb dX4_leadsOn_23 (by decide) (fun c23 => ?_) (fun c23 => ?_)
  · have hw := hw.1 c23
    exact b_35 p1 p2 v5 v18 hw H locs hP hD hS ls (lv_sub hl [2, 3, 4, 1, 0] rfl)
  · have hw := hw.2 c23
    refine lv_iload hx hb dX4_leadsOn_26 (lv_at hl 0 rfl) ?_
    refine lv_iload_n hx hb dX4_leadsOn_28 rfl (lv_at hl 1 rfl) ?_
    refine lv_bipush (v := (64 : Int32)) hx hb dX4_leadsOn_29 kB_64 ?_
    refine lv_iadd hx hb dX4_leadsOn_31 ?_
    refine lv_icmp_eq (tgt := 49) hx hb dX4_leadsOn_32 (by decide) (fun c32 => ?_) (fun c32 => ?_)
    · have hw := hw.1 c32
      exact b_49 p1 p2 v5 v18 hw H locs hP hD hS ls (lv_sub hl [2, 3, 4, 1, 0] rfl)
    · have hw := hw.2 c32
      exact b_35 p1 p2 v5 v18 hw H locs hP hD hS ls (lv_sub hl [2, 3, 4, 1, 0] rfl)
set_option maxRecDepth 100000 in
set_option maxHeartbeats 4000000 in
theorem c_X4_countLedTo (l : Launch) (D : va_G) (cI cJ cZ cO : ClassId) (tS tT : Nat) (sz : Nat) (aK aK_strengths aK_kinds aK_marks aK_faces aK_bars aK_showing aK_showingRight aK_barring aS aS_cells aS_fits aS_fitsInLine aS_stale aS_staleCells aS_seen aS_queue : Nat) (K_warm : Int32) (K_count : Int32) (K_seeds : Int64) (K_blocks : Int64) (K_rivals : Int64) (K_strengths : Nat → Int32) (K_faces : Nat → Int32) (S_pieces : Int32) (S_grown : Int32) (S_fitsInAll : Int32) (S_staleCount : Int32) (S_atLeast1 : Int64) (S_atLeast2 : Int64) (S_atLeast3 : Int64) (S_cells : Nat → Int32) (S_seen : Nat → Int32) (S_queue : Nat → Int32) (p1 : Int32) (p2 : Int32) (Q : Int32 → (Nat → Int32) → (Nat → Int32) → Prop) (hw : wp_X4_countLedTo K_strengths K_faces S_cells S_seen S_queue p1 p2 Q) : Met l yX4_countLedTo wsX4_countLedTo rm_X4_countLedTo (va_Pc [.ref aS, .int p1, .int p2] (cx_B tS tT cI cJ cZ cO D sz (w_X4_countLedTo cI cJ cZ cO aK aK_strengths aK_kinds aK_marks aK_faces aK_bars aK_showing aK_showingRight aK_barring aS aS_cells aS_fits aS_fitsInLine aS_stale aS_staleCells aS_seen aS_queue K_warm K_count K_seeds K_blocks K_rivals K_strengths K_faces S_pieces S_grown S_fitsInAll S_staleCount S_atLeast1 S_atLeast2 S_atLeast3 S_cells S_seen S_queue))) (va_Qi (fun (r : Int32) (u : (Nat → Int32) × (Nat → Int32)) => Q r u.1 u.2) (fun (u : (Nat → Int32) × (Nat → Int32)) t => va_P D vwCl (w_X4_countLedTo cI cJ cZ cO aK aK_strengths aK_kinds aK_marks aK_faces aK_bars aK_showing aK_showingRight aK_barring aS aS_cells aS_fits aS_fitsInLine aS_stale aS_staleCells aS_seen aS_queue K_warm K_count K_seeds K_blocks K_rivals K_strengths K_faces S_pieces S_grown S_fitsInAll S_staleCount S_atLeast1 S_atLeast2 S_atLeast3 S_cells u.1 u.2) t.heap) (va_A (w_X4_countLedTo cI cJ cZ cO aK aK_strengths aK_kinds aK_marks aK_faces aK_bars aK_showing aK_showingRight aK_barring aS aS_cells aS_fits aS_fitsInLine aS_stale aS_staleCells aS_seen aS_queue K_warm K_count K_seeds K_blocks K_rivals K_strengths K_faces S_pieces S_grown S_fitsInAll S_staleCount S_atLeast1 S_atLeast2 S_atLeast3 S_cells S_seen S_queue) sz)) 0 0 (va_A (w_X4_countLedTo cI cJ cZ cO aK aK_strengths aK_kinds aK_marks aK_faces aK_bars aK_showing aK_showingRight aK_barring aS aS_cells aS_fits aS_fitsInLine aS_stale aS_staleCells aS_seen aS_queue K_warm K_count K_seeds K_blocks K_rivals K_strengths K_faces S_pieces S_grown S_fitsInAll S_staleCount S_atLeast1 S_atLeast2 S_atLeast3 S_cells S_seen S_queue) sz) := by
  refine cx_met (cc := cX4_countLedTo) (maxL := 8) (ret := (some .int)) (Qc := fun A => va_Qi (fun (r : Int32) (u : (Nat → Int32) × (Nat → Int32)) => Q r u.1 u.2) (fun (u : (Nat → Int32) × (Nat → Int32)) t => va_P D vwCl (w_X4_countLedTo cI cJ cZ cO aK aK_strengths aK_kinds aK_marks aK_faces aK_bars aK_showing aK_showingRight aK_barring aS aS_cells aS_fits aS_fitsInLine aS_stale aS_staleCells aS_seen aS_queue K_warm K_count K_seeds K_blocks K_rivals K_strengths K_faces S_pieces S_grown S_fitsInAll S_staleCount S_atLeast1 S_atLeast2 S_atLeast3 S_cells u.1 u.2) t.heap) A) (lv := [(0, .ref aS), (1, .int p1), (2, .int p2)]) (by decide) rfl (Nat.le_of_ble_eq_true rfl) rfl ?_
  intro p e s m args below meth c A Z hx hb hr hlocks hts hown hml hE hK hA hZ
  have hown : s.vm.findClass RX4 = some m.cls := hown
  have k_0 := hts (.fieldLink RX4 46 "GrowingTiles$Sheet" "seen" "[I") (List.mem_of_getElem? (i := 1) (by decide +kernel))
  have k_1 := hts (.fieldLink RX4 49 "GrowingTiles$Sheet" "queue" "[I") (List.mem_of_getElem? (i := 2) (by decide +kernel))
  have b_26 : ∀ n_26 : Nat, ∀ (S_seen : Nat → Int32) (S_queue : Nat → Int32) (x3 : Int32) (x4 : Int32), wq_X4_countLedTo_26 K_strengths K_faces S_cells Q n_26 S_seen S_queue x3 x4 → ∀ (H : Heap) (locs : List Loc), va_P D vwCl (w_X4_countLedTo cI cJ cZ cO aK aK_strengths aK_kinds aK_marks aK_faces aK_bars aK_showing aK_showingRight aK_barring aS aS_cells aS_fits aS_fitsInLine aS_stale aS_staleCells aS_seen aS_queue K_warm K_count K_seeds K_blocks K_rivals K_strengths K_faces S_pieces S_grown S_fitsInAll S_staleCount S_atLeast1 S_atLeast2 S_atLeast3 S_cells S_seen S_queue) H → va_D A (w_X4_countLedTo cI cJ cZ cO aK aK_strengths aK_kinds aK_marks aK_faces aK_bars aK_showing aK_showingRight aK_barring aS aS_cells aS_fits aS_fitsInLine aS_stale aS_staleCells aS_seen aS_queue K_warm K_count K_seeds K_blocks K_rivals K_strengths K_faces S_pieces S_grown S_fitsInAll S_staleCount S_atLeast1 S_atLeast2 S_atLeast3 S_cells S_seen S_queue) → va_S A s.heap H locs → ∀ ls : Array Slot, lv_has ls 8 [(0, .ref aS), (3, .int x3), (4, .int x4)] → W p l e rm_X4_countLedTo s m args below meth c H locs 0 0 Z (F0 m 26 ls []) := by
    intro n_26
    induction n_26 with
    | zero => intro S_seen S_queue x3 x4 hw; exact False.elim hw
    | succ n_26 ih_26 =>
      have b_52 : ∀ n_52 : Nat, ∀ (S_seen : Nat → Int32) (S_queue : Nat → Int32) (x3 : Int32) (x4 : Int32) (x5 : Int32) (x6 : Int32), wq_X4_countLedTo_52 K_strengths K_faces S_cells (wq_X4_countLedTo_26 K_strengths K_faces S_cells Q n_26) Q n_52 S_seen S_queue x3 x4 x5 x6 → ∀ (H : Heap) (locs : List Loc), va_P D vwCl (w_X4_countLedTo cI cJ cZ cO aK aK_strengths aK_kinds aK_marks aK_faces aK_bars aK_showing aK_showingRight aK_barring aS aS_cells aS_fits aS_fitsInLine aS_stale aS_staleCells aS_seen aS_queue K_warm K_count K_seeds K_blocks K_rivals K_strengths K_faces S_pieces S_grown S_fitsInAll S_staleCount S_atLeast1 S_atLeast2 S_atLeast3 S_cells S_seen S_queue) H → va_D A (w_X4_countLedTo cI cJ cZ cO aK aK_strengths aK_kinds aK_marks aK_faces aK_bars aK_showing aK_showingRight aK_barring aS aS_cells aS_fits aS_fitsInLine aS_stale aS_staleCells aS_seen aS_queue K_warm K_count K_seeds K_blocks K_rivals K_strengths K_faces S_pieces S_grown S_fitsInAll S_staleCount S_atLeast1 S_atLeast2 S_atLeast3 S_cells S_seen S_queue) → va_S A s.heap H locs → ∀ ls : Array Slot, lv_has ls 8 [(0, .ref aS), (3, .int x3), (4, .int x4), (5, .int x5), (6, .int x6)] → W p l e rm_X4_countLedTo s m args below meth c H locs 0 0 Z (F0 m 52 ls []) := by
        intro n_52
        induction n_52 with
        | zero => intro S_seen S_queue x3 x4 x5 x6 hw; exact False.elim hw
        | succ n_52 ih_52 =>
          intro S_seen S_queue x3 x4 x5 x6 hw H locs hP hD hS ls hl
          have hw : wf_X4_countLedTo_52 K_strengths K_faces S_cells (wq_X4_countLedTo_26 K_strengths K_faces S_cells Q n_26) Q (wq_X4_countLedTo_52 K_strengths K_faces S_cells (wq_X4_countLedTo_26 K_strengths K_faces S_cells Q n_26) Q n_52) S_seen S_queue x3 x4 x5 x6 := hw
          unfold wf_X4_countLedTo_52 at hw
          refine lv_iload hx hb dX4_countLedTo_52 (lv_at hl 4 rfl) ?_
          refine lv_iconst (v := (4 : Int32)) hx hb dX4_countLedTo_54 kI_4 ?_
          refine lv_icmp_ge (tgt := 115) hx hb dX4_countLedTo_55 (by decide) (fun c55 => ?_) (fun c55 => ?_)
          · have hw := hw.1 c55
            obtain ⟨v115, e115⟩ : ∃ y : Int32, y = x4 + (1 : Int32) := ⟨_, rfl⟩
            have hw := hw v115 e115
            refine lv_iinc (v := v115) (lv' := [(4, .int v115), (0, .ref aS), (3, .int x3), (5, .int x5), (6, .int x6)]) hx hb dX4_countLedTo_115 hl (k := 2) rfl (by rw [e115, kI_1]) (by decide) rfl (fun ls hl => ?_)
            refine lv_goto (tgt := 26) hx hb dX4_countLedTo_118 (by decide) ?_
            exact ih_26 S_seen S_queue x3 v115 hw H locs hP hD hS ls (lv_sub hl [1, 2, 0] rfl)
          · have hw := hw.2 c55
            refine lv_iload hx hb dX4_countLedTo_58 (lv_at hl 3 rfl) ?_
            refine va_getsN hx hb hE.2.1 hS hown (va_Nw.use rfl (hE.1.2.2.2.2.1)) (fun _ h9 => h9) dX4_countLedTo_60 ?_
            refine lv_iload hx hb dX4_countLedTo_63 (lv_at hl 4 rfl) ?_
            have h65 := hw.1
            have hw := hw.2
            refine va_ti hx hb hE.2.2.1 hS h65 rfl dX4_countLedTo_65 ?_
            refine lv_topi (fun v65 e65 => ?_)
            have hw := hw v65 e65
            refine lv_iadd hx hb dX4_countLedTo_66 ?_
            refine lv_topi (fun v67 e67 => ?_)
            have hw := hw v67 e67
            refine lv_istore (lv' := [(7, .int v67), (0, .ref aS), (3, .int x3), (4, .int x4), (5, .int x5), (6, .int x6)]) hx hb dX4_countLedTo_67 hl (by decide) rfl (fun ls hl => ?_)
            refine lv_aload_n hx hb dX4_countLedTo_69 rfl (lv_at hl 1 rfl) ?_
            refine va_get (D := D) (ci := 4) (v := .ref aS_seen) (C := RX4) (T := TX4) (N := 15) hx hb hts in_X4_countLedTo_X4 hown hK hP 3 rfl rfl 13 (by decide) k_0 (fun _ h9 => h9) rfl dX4_countLedTo_70 ?_
            refine lv_iload hx hb dX4_countLedTo_73 (lv_at hl 0 rfl) ?_
            have h75 := hw.1
            have hw := hw.2
            refine va_iald hx hb hK hP 5 0 rfl rfl h75 dX4_countLedTo_75 ?_
            refine lv_topi (fun v75 e75 => ?_)
            have hw := hw v75 e75
            refine lv_if_ne (tgt := 109) hx hb dX4_countLedTo_76 (by decide) (fun c76 => ?_) (fun c76 => ?_)
            · have hw := hw.1 c76
              obtain ⟨v109, e109⟩ : ∃ y : Int32, y = x6 + (1 : Int32) := ⟨_, rfl⟩
              have hw := hw v109 e109
              refine lv_iinc (v := v109) (lv' := [(6, .int v109), (7, .int v67), (0, .ref aS), (3, .int x3), (4, .int x4), (5, .int x5)]) hx hb dX4_countLedTo_109 hl (k := 5) rfl (by rw [e109, kI_1]) (by decide) rfl (fun ls hl => ?_)
              refine lv_goto (tgt := 52) hx hb dX4_countLedTo_112 (by decide) ?_
              exact ih_52 S_seen S_queue x3 x4 x5 v109 hw H locs hP hD hS ls (lv_sub hl [2, 3, 4, 5, 0] rfl)
            · have hw := hw.2 c76
              refine lv_aload_n hx hb dX4_countLedTo_79 rfl (lv_at hl 1 rfl) ?_
              refine lv_iload hx hb dX4_countLedTo_80 (lv_at hl 4 rfl) ?_
              refine lv_iload hx hb dX4_countLedTo_82 (lv_at hl 5 rfl) ?_
              refine cx_goi (va_runV (As := [.int x5, .int x6]) (rest := []) ⟨hx, hb, hml, hown, hts⟩ (c_X4_leadsOn l D cI cJ cZ cO tS tT H.size aK aK_strengths aK_kinds aK_marks aK_faces aK_bars aK_showing aK_showingRight aK_barring aS aS_cells aS_fits aS_fitsInLine aS_stale aS_staleCells aS_seen aS_queue K_warm K_count K_seeds K_blocks K_rivals K_strengths K_faces S_pieces S_grown S_fitsInAll S_staleCount S_atLeast1 S_atLeast2 S_atLeast3 S_cells x5 x6 _ hw) (cwV 2 hts gX4_countLedTo_X4_leadsOn rfl rfl rfl pv_X4_leadsOn ⟨Nat.le_of_ble_eq_true rfl, Nat.le_of_ble_eq_true rfl⟩) (cx_preV (wc := w_X4_leadsOn cI cJ cZ cO aK aK_strengths aK_kinds aK_marks aK_faces aK_bars aK_showing aK_showingRight aK_barring aS aS_cells aS_fits aS_fitsInLine aS_stale aS_staleCells aS_seen aS_queue K_warm K_count K_seeds K_blocks K_rivals K_strengths K_faces S_pieces S_grown S_fitsInAll S_staleCount S_atLeast1 S_atLeast2 S_atLeast3 S_cells) hE hK hP hD hS hA [0, 1, 2, 3, 4] rfl rfl (va_recv hK hP (ci := 4) (q0 := 3) rfl rfl)) rfl rfl hl.1 rfl (lv_room (Nat.le_of_ble_eq_true rfl)) dX4_countLedTo_84 ⟨Nat.le_of_ble_eq_true rfl, Nat.le_of_ble_eq_true rfl⟩) (fun (_ : Unit) => (w_X4_countLedTo cI cJ cZ cO aK aK_strengths aK_kinds aK_marks aK_faces aK_bars aK_showing aK_showingRight aK_barring aS aS_cells aS_fits aS_fitsInLine aS_stale aS_staleCells aS_seen aS_queue K_warm K_count K_seeds K_blocks K_rivals K_strengths K_faces S_pieces S_grown S_fitsInAll S_staleCount S_atLeast1 S_atLeast2 S_atLeast3 S_cells S_seen S_queue)) [0, 1, 2, 3, 4] [5, 6] (ads := [aK, aK_strengths, aK_faces, aS, aS_cells]) (wr := [(aS_seen, .inl (cI, 324, .inl S_seen)), (aS_queue, .inl (cI, 256, .inl S_queue))]) rfl rfl (fun u => rfl) (fun u => rfl) rfl (fun u => rfl) rfl (fun u => rfl) rfl hP hD hS hA (fun r84 u H locs hw hP hD hS => ?_)
              have hP : va_P D vwCl (w_X4_countLedTo cI cJ cZ cO aK aK_strengths aK_kinds aK_marks aK_faces aK_bars aK_showing aK_showingRight aK_barring aS aS_cells aS_fits aS_fitsInLine aS_stale aS_staleCells aS_seen aS_queue K_warm K_count K_seeds K_blocks K_rivals K_strengths K_faces S_pieces S_grown S_fitsInAll S_staleCount S_atLeast1 S_atLeast2 S_atLeast3 S_cells S_seen S_queue) H := hP
              have hD : va_D A (w_X4_countLedTo cI cJ cZ cO aK aK_strengths aK_kinds aK_marks aK_faces aK_bars aK_showing aK_showingRight aK_barring aS aS_cells aS_fits aS_fitsInLine aS_stale aS_staleCells aS_seen aS_queue K_warm K_count K_seeds K_blocks K_rivals K_strengths K_faces S_pieces S_grown S_fitsInAll S_staleCount S_atLeast1 S_atLeast2 S_atLeast3 S_cells S_seen S_queue) := hD
              refine lv_if_eq (tgt := 109) hx hb dX4_countLedTo_87 (by decide) (fun c87 => ?_) (fun c87 => ?_)
              · have hw := hw.1 c87
                obtain ⟨v109, e109⟩ : ∃ y : Int32, y = x6 + (1 : Int32) := ⟨_, rfl⟩
                have hw := hw v109 e109
                refine lv_iinc (v := v109) (lv' := [(6, .int v109), (7, .int v67), (0, .ref aS), (3, .int x3), (4, .int x4), (5, .int x5)]) hx hb dX4_countLedTo_109 hl (k := 5) rfl (by rw [e109, kI_1]) (by decide) rfl (fun ls hl => ?_)
                refine lv_goto (tgt := 52) hx hb dX4_countLedTo_112 (by decide) ?_
                exact ih_52 S_seen S_queue x3 x4 x5 v109 hw H locs hP hD hS ls (lv_sub hl [2, 3, 4, 5, 0] rfl)
              · have hw := hw.2 c87
                refine lv_aload_n hx hb dX4_countLedTo_90 rfl (lv_at hl 1 rfl) ?_
                refine va_get (D := D) (ci := 4) (v := .ref aS_seen) (C := RX4) (T := TX4) (N := 15) hx hb hts in_X4_countLedTo_X4 hown hK hP 3 rfl rfl 13 (by decide) k_0 (fun _ h9 => h9) rfl dX4_countLedTo_91 ?_
                refine lv_iload hx hb dX4_countLedTo_94 (lv_at hl 0 rfl) ?_
                refine lv_iconst (v := (1 : Int32)) hx hb dX4_countLedTo_96 kI_1 ?_
                have h97 := hw.1
                have hw := hw.2
                refine va_iast hx hb hK hP hD hS 5 0 rfl rfl h97 dX4_countLedTo_97 (fun H locs hP hD hS => ?_)
                have hP : va_P D vwCl (w_X4_countLedTo cI cJ cZ cO aK aK_strengths aK_kinds aK_marks aK_faces aK_bars aK_showing aK_showingRight aK_barring aS aS_cells aS_fits aS_fitsInLine aS_stale aS_staleCells aS_seen aS_queue K_warm K_count K_seeds K_blocks K_rivals K_strengths K_faces S_pieces S_grown S_fitsInAll S_staleCount S_atLeast1 S_atLeast2 S_atLeast3 S_cells (upd S_seen v67.toNatClampNeg (1 : Int32)) S_queue) H := hP
                have hD : va_D A (w_X4_countLedTo cI cJ cZ cO aK aK_strengths aK_kinds aK_marks aK_faces aK_bars aK_showing aK_showingRight aK_barring aS aS_cells aS_fits aS_fitsInLine aS_stale aS_staleCells aS_seen aS_queue K_warm K_count K_seeds K_blocks K_rivals K_strengths K_faces S_pieces S_grown S_fitsInAll S_staleCount S_atLeast1 S_atLeast2 S_atLeast3 S_cells (upd S_seen v67.toNatClampNeg (1 : Int32)) S_queue) := hD
                obtain ⟨S_seen_97, e97⟩ : ∃ y : Nat → Int32, y = upd S_seen v67.toNatClampNeg (1 : Int32) := ⟨_, rfl⟩
                rw [← e97] at hP hD
                have hw := hw S_seen_97 e97
                refine lv_aload_n hx hb dX4_countLedTo_98 rfl (lv_at hl 1 rfl) ?_
                refine va_get (D := D) (ci := 4) (v := .ref aS_queue) (C := RX4) (T := TX4) (N := 15) hx hb hts in_X4_countLedTo_X4 hown hK hP 3 rfl rfl 14 (by decide) k_1 (fun _ h9 => h9) rfl dX4_countLedTo_99 ?_
                refine lv_iload_n hx hb dX4_countLedTo_102 rfl (lv_at hl 2 rfl) ?_
                refine lv_iload hx hb dX4_countLedTo_103 (lv_at hl 0 rfl) ?_
                have h105 := hw.1
                have hw := hw.2
                refine va_iast hx hb hK hP hD hS 6 0 rfl rfl h105 dX4_countLedTo_105 (fun H locs hP hD hS => ?_)
                have hP : va_P D vwCl (w_X4_countLedTo cI cJ cZ cO aK aK_strengths aK_kinds aK_marks aK_faces aK_bars aK_showing aK_showingRight aK_barring aS aS_cells aS_fits aS_fitsInLine aS_stale aS_staleCells aS_seen aS_queue K_warm K_count K_seeds K_blocks K_rivals K_strengths K_faces S_pieces S_grown S_fitsInAll S_staleCount S_atLeast1 S_atLeast2 S_atLeast3 S_cells S_seen_97 (upd S_queue x3.toNatClampNeg v67)) H := hP
                have hD : va_D A (w_X4_countLedTo cI cJ cZ cO aK aK_strengths aK_kinds aK_marks aK_faces aK_bars aK_showing aK_showingRight aK_barring aS aS_cells aS_fits aS_fitsInLine aS_stale aS_staleCells aS_seen aS_queue K_warm K_count K_seeds K_blocks K_rivals K_strengths K_faces S_pieces S_grown S_fitsInAll S_staleCount S_atLeast1 S_atLeast2 S_atLeast3 S_cells S_seen_97 (upd S_queue x3.toNatClampNeg v67)) := hD
                obtain ⟨S_queue_105, e105⟩ : ∃ y : Nat → Int32, y = upd S_queue x3.toNatClampNeg v67 := ⟨_, rfl⟩
                rw [← e105] at hP hD
                have hw := hw S_queue_105 e105
                obtain ⟨v106, e106⟩ : ∃ y : Int32, y = x3 + (1 : Int32) := ⟨_, rfl⟩
                have hw := hw v106 e106
                refine lv_iinc (v := v106) (lv' := [(3, .int v106), (7, .int v67), (0, .ref aS), (4, .int x4), (5, .int x5), (6, .int x6)]) hx hb dX4_countLedTo_106 hl (k := 2) rfl (by rw [e106, kI_1]) (by decide) rfl (fun ls hl => ?_)
                obtain ⟨v109, e109⟩ : ∃ y : Int32, y = x6 + (1 : Int32) := ⟨_, rfl⟩
                have hw := hw v109 e109
                refine lv_iinc (v := v109) (lv' := [(6, .int v109), (3, .int v106), (7, .int v67), (0, .ref aS), (4, .int x4), (5, .int x5)]) hx hb dX4_countLedTo_109 hl (k := 5) rfl (by rw [e109, kI_1]) (by decide) rfl (fun ls hl => ?_)
                refine lv_goto (tgt := 52) hx hb dX4_countLedTo_112 (by decide) ?_
                exact ih_52 S_seen_97 S_queue_105 v106 x4 x5 v109 hw H locs hP hD hS ls (lv_sub hl [3, 1, 4, 5, 0] rfl)
      intro S_seen S_queue x3 x4 hw H locs hP hD hS ls hl
      have hw : wf_X4_countLedTo_26 K_strengths K_faces S_cells Q (wq_X4_countLedTo_26 K_strengths K_faces S_cells Q n_26) S_seen S_queue x3 x4 := hw
      unfold wf_X4_countLedTo_26 at hw
      refine lv_iload hx hb dX4_countLedTo_26 (lv_at hl 2 rfl) ?_
      refine lv_iload_n hx hb dX4_countLedTo_28 rfl (lv_at hl 1 rfl) ?_
      refine lv_icmp_ge (tgt := 121) hx hb dX4_countLedTo_29 (by decide) (fun c29 => ?_) (fun c29 => ?_)
      · have hw := hw.1 c29
        refine lv_iload_n hx hb dX4_countLedTo_121 rfl (lv_at hl 1 rfl) ?_
        rw [hZ]
        exact cx_reti (S_seen, S_queue) hx hb hr hlocks hw hP hS dX4_countLedTo_122
      · have hw := hw.2 c29
        refine lv_iload hx hb dX4_countLedTo_32 (lv_at hl 2 rfl) ?_
        refine lv_sipush (v := (256 : Int32)) hx hb dX4_countLedTo_34 kS_256 ?_
        refine lv_icmp_ge (tgt := 121) hx hb dX4_countLedTo_37 (by decide) (fun c37 => ?_) (fun c37 => ?_)
        · have hw := hw.1 c37
          refine lv_iload_n hx hb dX4_countLedTo_121 rfl (lv_at hl 1 rfl) ?_
          rw [hZ]
          exact cx_reti (S_seen, S_queue) hx hb hr hlocks hw hP hS dX4_countLedTo_122
        · have hw := hw.2 c37
          refine lv_aload_n hx hb dX4_countLedTo_40 rfl (lv_at hl 0 rfl) ?_
          refine va_get (D := D) (ci := 4) (v := .ref aS_queue) (C := RX4) (T := TX4) (N := 15) hx hb hts in_X4_countLedTo_X4 hown hK hP 3 rfl rfl 14 (by decide) k_1 (fun _ h9 => h9) rfl dX4_countLedTo_41 ?_
          refine lv_iload hx hb dX4_countLedTo_44 (lv_at hl 2 rfl) ?_
          have h46 := hw.1
          have hw := hw.2
          refine va_iald hx hb hK hP 6 0 rfl rfl h46 dX4_countLedTo_46 ?_
          refine lv_topi (fun v46 e46 => ?_)
          have hw := hw v46 e46
          refine lv_istore (lv' := [(5, .int v46), (0, .ref aS), (3, .int x3), (4, .int x4)]) hx hb dX4_countLedTo_47 hl (by decide) rfl (fun ls hl => ?_)
          refine lv_iconst (v := (0 : Int32)) hx hb dX4_countLedTo_49 kI_0 ?_
          refine lv_istore (lv' := [(6, .int (0 : Int32)), (5, .int v46), (0, .ref aS), (3, .int x3), (4, .int x4)]) hx hb dX4_countLedTo_50 hl (by decide) rfl (fun ls hl => ?_)
          obtain ⟨k, hw⟩ := hw
          exact b_52 k S_seen S_queue x3 x4 v46 (0 : Int32) hw H locs hP hD hS ls (lv_sub hl [2, 3, 4, 1, 0] rfl)
  intro H locs hP hD hS ls hl
  unfold wp_X4_countLedTo at hw
  refine lv_aload_n hx hb dX4_countLedTo_0 rfl (lv_at hl 0 rfl) ?_
  refine va_get (D := D) (ci := 4) (v := .ref aS_seen) (C := RX4) (T := TX4) (N := 15) hx hb hts in_X4_countLedTo_X4 hown hK hP 3 rfl rfl 13 (by decide) k_0 (fun _ h9 => h9) rfl dX4_countLedTo_1 ?_
  refine lv_iload_n hx hb dX4_countLedTo_4 rfl (lv_at hl 2 rfl) ?_
  refine lv_iconst (v := (1 : Int32)) hx hb dX4_countLedTo_5 kI_1 ?_
  have h6 := hw.1
  have hw := hw.2
  refine va_iast hx hb hK hP hD hS 5 0 rfl rfl h6 dX4_countLedTo_6 (fun H locs hP hD hS => ?_)
  have hP : va_P D vwCl (w_X4_countLedTo cI cJ cZ cO aK aK_strengths aK_kinds aK_marks aK_faces aK_bars aK_showing aK_showingRight aK_barring aS aS_cells aS_fits aS_fitsInLine aS_stale aS_staleCells aS_seen aS_queue K_warm K_count K_seeds K_blocks K_rivals K_strengths K_faces S_pieces S_grown S_fitsInAll S_staleCount S_atLeast1 S_atLeast2 S_atLeast3 S_cells (upd S_seen p2.toNatClampNeg (1 : Int32)) S_queue) H := hP
  have hD : va_D A (w_X4_countLedTo cI cJ cZ cO aK aK_strengths aK_kinds aK_marks aK_faces aK_bars aK_showing aK_showingRight aK_barring aS aS_cells aS_fits aS_fitsInLine aS_stale aS_staleCells aS_seen aS_queue K_warm K_count K_seeds K_blocks K_rivals K_strengths K_faces S_pieces S_grown S_fitsInAll S_staleCount S_atLeast1 S_atLeast2 S_atLeast3 S_cells (upd S_seen p2.toNatClampNeg (1 : Int32)) S_queue) := hD
  obtain ⟨S_seen_6, e6⟩ : ∃ y : Nat → Int32, y = upd S_seen p2.toNatClampNeg (1 : Int32) := ⟨_, rfl⟩
  rw [← e6] at hP hD
  have hw := hw S_seen_6 e6
  refine lv_aload_n hx hb dX4_countLedTo_7 rfl (lv_at hl 0 rfl) ?_
  refine va_get (D := D) (ci := 4) (v := .ref aS_seen) (C := RX4) (T := TX4) (N := 15) hx hb hts in_X4_countLedTo_X4 hown hK hP 3 rfl rfl 13 (by decide) k_0 (fun _ h9 => h9) rfl dX4_countLedTo_8 ?_
  refine lv_iload_n hx hb dX4_countLedTo_11 rfl (lv_at hl 1 rfl) ?_
  refine lv_iconst (v := (1 : Int32)) hx hb dX4_countLedTo_12 kI_1 ?_
  have h13 := hw.1
  have hw := hw.2
  refine va_iast hx hb hK hP hD hS 5 0 rfl rfl h13 dX4_countLedTo_13 (fun H locs hP hD hS => ?_)
  have hP : va_P D vwCl (w_X4_countLedTo cI cJ cZ cO aK aK_strengths aK_kinds aK_marks aK_faces aK_bars aK_showing aK_showingRight aK_barring aS aS_cells aS_fits aS_fitsInLine aS_stale aS_staleCells aS_seen aS_queue K_warm K_count K_seeds K_blocks K_rivals K_strengths K_faces S_pieces S_grown S_fitsInAll S_staleCount S_atLeast1 S_atLeast2 S_atLeast3 S_cells (upd S_seen_6 p1.toNatClampNeg (1 : Int32)) S_queue) H := hP
  have hD : va_D A (w_X4_countLedTo cI cJ cZ cO aK aK_strengths aK_kinds aK_marks aK_faces aK_bars aK_showing aK_showingRight aK_barring aS aS_cells aS_fits aS_fitsInLine aS_stale aS_staleCells aS_seen aS_queue K_warm K_count K_seeds K_blocks K_rivals K_strengths K_faces S_pieces S_grown S_fitsInAll S_staleCount S_atLeast1 S_atLeast2 S_atLeast3 S_cells (upd S_seen_6 p1.toNatClampNeg (1 : Int32)) S_queue) := hD
  obtain ⟨S_seen_13, e13⟩ : ∃ y : Nat → Int32, y = upd S_seen_6 p1.toNatClampNeg (1 : Int32) := ⟨_, rfl⟩
  rw [← e13] at hP hD
  have hw := hw S_seen_13 e13
  refine lv_aload_n hx hb dX4_countLedTo_14 rfl (lv_at hl 0 rfl) ?_
  refine va_get (D := D) (ci := 4) (v := .ref aS_queue) (C := RX4) (T := TX4) (N := 15) hx hb hts in_X4_countLedTo_X4 hown hK hP 3 rfl rfl 14 (by decide) k_1 (fun _ h9 => h9) rfl dX4_countLedTo_15 ?_
  refine lv_iconst (v := (0 : Int32)) hx hb dX4_countLedTo_18 kI_0 ?_
  refine lv_iload_n hx hb dX4_countLedTo_19 rfl (lv_at hl 1 rfl) ?_
  refine va_iast hx hb hK hP hD hS 6 0 rfl rfl (cx_in (by decide)) dX4_countLedTo_20 (fun H locs hP hD hS => ?_)
  have hP : va_P D vwCl (w_X4_countLedTo cI cJ cZ cO aK aK_strengths aK_kinds aK_marks aK_faces aK_bars aK_showing aK_showingRight aK_barring aS aS_cells aS_fits aS_fitsInLine aS_stale aS_staleCells aS_seen aS_queue K_warm K_count K_seeds K_blocks K_rivals K_strengths K_faces S_pieces S_grown S_fitsInAll S_staleCount S_atLeast1 S_atLeast2 S_atLeast3 S_cells S_seen_13 (upd S_queue (0 : Int32).toNatClampNeg p1)) H := hP
  have hD : va_D A (w_X4_countLedTo cI cJ cZ cO aK aK_strengths aK_kinds aK_marks aK_faces aK_bars aK_showing aK_showingRight aK_barring aS aS_cells aS_fits aS_fitsInLine aS_stale aS_staleCells aS_seen aS_queue K_warm K_count K_seeds K_blocks K_rivals K_strengths K_faces S_pieces S_grown S_fitsInAll S_staleCount S_atLeast1 S_atLeast2 S_atLeast3 S_cells S_seen_13 (upd S_queue (0 : Int32).toNatClampNeg p1)) := hD
  obtain ⟨S_queue_20, e20⟩ : ∃ y : Nat → Int32, y = upd S_queue (0 : Int32).toNatClampNeg p1 := ⟨_, rfl⟩
  rw [← e20] at hP hD
  have hw := hw S_queue_20 e20
  refine lv_iconst (v := (1 : Int32)) hx hb dX4_countLedTo_21 kI_1 ?_
  refine lv_istore_n (lv' := [(3, .int (1 : Int32)), (0, .ref aS), (1, .int p1), (2, .int p2)]) hx hb dX4_countLedTo_22 rfl hl (by decide) rfl (fun ls hl => ?_)
  refine lv_iconst (v := (0 : Int32)) hx hb dX4_countLedTo_23 kI_0 ?_
  refine lv_istore (lv' := [(4, .int (0 : Int32)), (3, .int (1 : Int32)), (0, .ref aS), (1, .int p1), (2, .int p2)]) hx hb dX4_countLedTo_24 hl (by decide) rfl (fun ls hl => ?_)
  obtain ⟨k, hw⟩ := hw
  exact b_26 k S_seen_13 S_queue_20 (1 : Int32) (0 : Int32) hw H locs hP hD hS ls (lv_sub hl [2, 1, 0] rfl)
set_option maxRecDepth 100000 in
set_option maxHeartbeats 4000000 in
theorem c_X4_hangsTogetherWithout (l : Launch) (D : va_G) (cI cJ cZ cO : ClassId) (tS tT : Nat) (sz : Nat) (aK aK_strengths aK_kinds aK_marks aK_faces aK_bars aK_showing aK_showingRight aK_barring aS aS_cells aS_fits aS_fitsInLine aS_stale aS_staleCells aS_seen aS_queue : Nat) (K_warm : Int32) (K_count : Int32) (K_seeds : Int64) (K_blocks : Int64) (K_rivals : Int64) (K_strengths : Nat → Int32) (K_faces : Nat → Int32) (S_pieces : Int32) (S_grown : Int32) (S_fitsInAll : Int32) (S_staleCount : Int32) (S_atLeast1 : Int64) (S_atLeast2 : Int64) (S_atLeast3 : Int64) (S_cells : Nat → Int32) (S_seen : Nat → Int32) (S_queue : Nat → Int32) (p1 : Int32) (Q : Int32 → (Nat → Int32) → (Nat → Int32) → Prop) (hw : wp_X4_hangsTogetherWithout K_strengths K_faces S_cells S_seen S_queue p1 Q) : Met l yX4_hangsTogetherWithout wsX4_hangsTogetherWithout rm_X4_hangsTogetherWithout (va_Pc [.ref aS, .int p1] (cx_B tS tT cI cJ cZ cO D sz (w_X4_hangsTogetherWithout cI cJ cZ cO aK aK_strengths aK_kinds aK_marks aK_faces aK_bars aK_showing aK_showingRight aK_barring aS aS_cells aS_fits aS_fitsInLine aS_stale aS_staleCells aS_seen aS_queue K_warm K_count K_seeds K_blocks K_rivals K_strengths K_faces S_pieces S_grown S_fitsInAll S_staleCount S_atLeast1 S_atLeast2 S_atLeast3 S_cells S_seen S_queue))) (va_Qi (fun (r : Int32) (u : (Nat → Int32) × (Nat → Int32)) => Q r u.1 u.2) (fun (u : (Nat → Int32) × (Nat → Int32)) t => va_P D vwCl (w_X4_hangsTogetherWithout cI cJ cZ cO aK aK_strengths aK_kinds aK_marks aK_faces aK_bars aK_showing aK_showingRight aK_barring aS aS_cells aS_fits aS_fitsInLine aS_stale aS_staleCells aS_seen aS_queue K_warm K_count K_seeds K_blocks K_rivals K_strengths K_faces S_pieces S_grown S_fitsInAll S_staleCount S_atLeast1 S_atLeast2 S_atLeast3 S_cells u.1 u.2) t.heap) (va_A (w_X4_hangsTogetherWithout cI cJ cZ cO aK aK_strengths aK_kinds aK_marks aK_faces aK_bars aK_showing aK_showingRight aK_barring aS aS_cells aS_fits aS_fitsInLine aS_stale aS_staleCells aS_seen aS_queue K_warm K_count K_seeds K_blocks K_rivals K_strengths K_faces S_pieces S_grown S_fitsInAll S_staleCount S_atLeast1 S_atLeast2 S_atLeast3 S_cells S_seen S_queue) sz)) 0 0 (va_A (w_X4_hangsTogetherWithout cI cJ cZ cO aK aK_strengths aK_kinds aK_marks aK_faces aK_bars aK_showing aK_showingRight aK_barring aS aS_cells aS_fits aS_fitsInLine aS_stale aS_staleCells aS_seen aS_queue K_warm K_count K_seeds K_blocks K_rivals K_strengths K_faces S_pieces S_grown S_fitsInAll S_staleCount S_atLeast1 S_atLeast2 S_atLeast3 S_cells S_seen S_queue) sz) := by
  refine cx_met (cc := cX4_hangsTogetherWithout) (maxL := 5) (ret := (some .boolean)) (Qc := fun A => va_Qi (fun (r : Int32) (u : (Nat → Int32) × (Nat → Int32)) => Q r u.1 u.2) (fun (u : (Nat → Int32) × (Nat → Int32)) t => va_P D vwCl (w_X4_hangsTogetherWithout cI cJ cZ cO aK aK_strengths aK_kinds aK_marks aK_faces aK_bars aK_showing aK_showingRight aK_barring aS aS_cells aS_fits aS_fitsInLine aS_stale aS_staleCells aS_seen aS_queue K_warm K_count K_seeds K_blocks K_rivals K_strengths K_faces S_pieces S_grown S_fitsInAll S_staleCount S_atLeast1 S_atLeast2 S_atLeast3 S_cells u.1 u.2) t.heap) A) (lv := [(0, .ref aS), (1, .int p1)]) (by decide) rfl (Nat.le_of_ble_eq_true rfl) rfl ?_
  intro p e s m args below meth c A Z hx hb hr hlocks hts hown hml hE hK hA hZ
  have hown : s.vm.findClass RX4 = some m.cls := hown
  have k_0 := hts (.fieldLink RX4 15 "GrowingTiles$Sheet" "cells" "[I") (List.mem_of_getElem? (i := 2) (by decide +kernel))
  have k_1 := hts (.fieldLink RX4 46 "GrowingTiles$Sheet" "seen" "[I") (List.mem_of_getElem? (i := 1) (by decide +kernel))
  have b_15 : ∀ n_15 : Nat, ∀ (S_seen : Nat → Int32) (S_queue : Nat → Int32) (x1 : Int32) (x2 : Int32) (x3 : Int32) (x4 : Int32), wq_X4_hangsTogetherWithout_15 K_strengths K_faces S_cells Q n_15 S_seen S_queue x1 x2 x3 x4 → ∀ (H : Heap) (locs : List Loc), va_P D vwCl (w_X4_hangsTogetherWithout cI cJ cZ cO aK aK_strengths aK_kinds aK_marks aK_faces aK_bars aK_showing aK_showingRight aK_barring aS aS_cells aS_fits aS_fitsInLine aS_stale aS_staleCells aS_seen aS_queue K_warm K_count K_seeds K_blocks K_rivals K_strengths K_faces S_pieces S_grown S_fitsInAll S_staleCount S_atLeast1 S_atLeast2 S_atLeast3 S_cells S_seen S_queue) H → va_D A (w_X4_hangsTogetherWithout cI cJ cZ cO aK aK_strengths aK_kinds aK_marks aK_faces aK_bars aK_showing aK_showingRight aK_barring aS aS_cells aS_fits aS_fitsInLine aS_stale aS_staleCells aS_seen aS_queue K_warm K_count K_seeds K_blocks K_rivals K_strengths K_faces S_pieces S_grown S_fitsInAll S_staleCount S_atLeast1 S_atLeast2 S_atLeast3 S_cells S_seen S_queue) → va_S A s.heap H locs → ∀ ls : Array Slot, lv_has ls 5 [(0, .ref aS), (1, .int x1), (2, .int x2), (3, .int x3), (4, .int x4)] → W p l e rm_X4_hangsTogetherWithout s m args below meth c H locs 0 0 Z (F0 m 15 ls []) := by
    intro n_15
    induction n_15 with
    | zero => intro S_seen S_queue x1 x2 x3 x4 hw; exact False.elim hw
    | succ n_15 ih_15 =>
      intro S_seen S_queue x1 x2 x3 x4 hw H locs hP hD hS ls hl
      have hw : wf_X4_hangsTogetherWithout_15 K_strengths K_faces S_cells Q (wq_X4_hangsTogetherWithout_15 K_strengths K_faces S_cells Q n_15) S_seen S_queue x1 x2 x3 x4 := hw
      unfold wf_X4_hangsTogetherWithout_15 at hw
      refine lv_iload hx hb dX4_hangsTogetherWithout_15 (lv_at hl 4 rfl) ?_
      refine lv_sipush (v := (324 : Int32)) hx hb dX4_hangsTogetherWithout_17 kS_324 ?_
      refine lv_icmp_ge (tgt := 51) hx hb dX4_hangsTogetherWithout_20 (by decide) (fun c20 => ?_) (fun c20 => ?_)
      · have hw := hw.1 c20
        refine lv_iload_n hx hb dX4_hangsTogetherWithout_51 rfl (lv_at hl 3 rfl) ?_
        refine lv_iconst (v := (-1 : Int32)) hx hb dX4_hangsTogetherWithout_52 kI_m1 ?_
        refine lv_icmp_eq (tgt := 66) hx hb dX4_hangsTogetherWithout_53 (by decide) (fun c53 => ?_) (fun c53 => ?_)
        · have hw := hw.1 c53
          refine lv_iconst (v := (1 : Int32)) hx hb dX4_hangsTogetherWithout_66 kI_1 ?_
          refine lv_goto (tgt := 71) hx hb dX4_hangsTogetherWithout_67 (by decide) ?_
          rw [hZ]
          exact cx_retz (S_seen, S_queue) hx hb hr hlocks rfl hw hP hS dX4_hangsTogetherWithout_71
        · have hw := hw.2 c53
          refine lv_aload_n hx hb dX4_hangsTogetherWithout_56 rfl (lv_at hl 0 rfl) ?_
          refine lv_iload_n hx hb dX4_hangsTogetherWithout_57 rfl (lv_at hl 3 rfl) ?_
          refine lv_iload_n hx hb dX4_hangsTogetherWithout_58 rfl (lv_at hl 1 rfl) ?_
          refine cx_goi (va_runV (As := [.int x3, .int x1]) (rest := []) ⟨hx, hb, hml, hown, hts⟩ (c_X4_countLedTo l D cI cJ cZ cO tS tT H.size aK aK_strengths aK_kinds aK_marks aK_faces aK_bars aK_showing aK_showingRight aK_barring aS aS_cells aS_fits aS_fitsInLine aS_stale aS_staleCells aS_seen aS_queue K_warm K_count K_seeds K_blocks K_rivals K_strengths K_faces S_pieces S_grown S_fitsInAll S_staleCount S_atLeast1 S_atLeast2 S_atLeast3 S_cells S_seen S_queue x3 x1 _ hw) (cwV 2 hts gX4_hangsTogetherWithout_X4_countLedTo rfl rfl rfl pv_X4_countLedTo ⟨Nat.le_of_ble_eq_true rfl, Nat.le_of_ble_eq_true rfl⟩) (cx_preV (wc := w_X4_countLedTo cI cJ cZ cO aK aK_strengths aK_kinds aK_marks aK_faces aK_bars aK_showing aK_showingRight aK_barring aS aS_cells aS_fits aS_fitsInLine aS_stale aS_staleCells aS_seen aS_queue K_warm K_count K_seeds K_blocks K_rivals K_strengths K_faces S_pieces S_grown S_fitsInAll S_staleCount S_atLeast1 S_atLeast2 S_atLeast3 S_cells S_seen S_queue) hE hK hP hD hS hA [0, 1, 2, 3, 4, 5, 6] rfl rfl (va_recv hK hP (ci := 4) (q0 := 3) rfl rfl)) rfl rfl hl.1 rfl (lv_room (Nat.le_of_ble_eq_true rfl)) dX4_hangsTogetherWithout_59 ⟨Nat.le_of_ble_eq_true rfl, Nat.le_of_ble_eq_true rfl⟩) (fun (u : (Nat → Int32) × (Nat → Int32)) => (w_X4_hangsTogetherWithout cI cJ cZ cO aK aK_strengths aK_kinds aK_marks aK_faces aK_bars aK_showing aK_showingRight aK_barring aS aS_cells aS_fits aS_fitsInLine aS_stale aS_staleCells aS_seen aS_queue K_warm K_count K_seeds K_blocks K_rivals K_strengths K_faces S_pieces S_grown S_fitsInAll S_staleCount S_atLeast1 S_atLeast2 S_atLeast3 S_cells u.1 u.2)) [0, 1, 2, 3, 4, 5, 6] [] (ads := [aK, aK_strengths, aK_faces, aS, aS_cells, aS_seen, aS_queue]) (wr := []) rfl rfl (fun u => rfl) (fun u => rfl) rfl (fun u => rfl) rfl (fun u => rfl) rfl hP hD hS hA (fun r59 u H locs hw hP hD hS => ?_)
          obtain ⟨S_seen_59, S_queue_59⟩ := u
          try dsimp only at hw
          have hP : va_P D vwCl (w_X4_hangsTogetherWithout cI cJ cZ cO aK aK_strengths aK_kinds aK_marks aK_faces aK_bars aK_showing aK_showingRight aK_barring aS aS_cells aS_fits aS_fitsInLine aS_stale aS_staleCells aS_seen aS_queue K_warm K_count K_seeds K_blocks K_rivals K_strengths K_faces S_pieces S_grown S_fitsInAll S_staleCount S_atLeast1 S_atLeast2 S_atLeast3 S_cells S_seen_59 S_queue_59) H := hP
          have hD : va_D A (w_X4_hangsTogetherWithout cI cJ cZ cO aK aK_strengths aK_kinds aK_marks aK_faces aK_bars aK_showing aK_showingRight aK_barring aS aS_cells aS_fits aS_fitsInLine aS_stale aS_staleCells aS_seen aS_queue K_warm K_count K_seeds K_blocks K_rivals K_strengths K_faces S_pieces S_grown S_fitsInAll S_staleCount S_atLeast1 S_atLeast2 S_atLeast3 S_cells S_seen_59 S_queue_59) := hD
          refine lv_iload_n hx hb dX4_hangsTogetherWithout_62 rfl (lv_at hl 2 rfl) ?_
          refine lv_icmp_ne (tgt := 70) hx hb dX4_hangsTogetherWithout_63 (by decide) (fun c63 => ?_) (fun c63 => ?_)
          · have hw := hw.1 c63
            refine lv_iconst (v := (0 : Int32)) hx hb dX4_hangsTogetherWithout_70 kI_0 ?_
            rw [hZ]
            exact cx_retz (S_seen_59, S_queue_59) hx hb hr hlocks rfl hw hP hS dX4_hangsTogetherWithout_71
          · have hw := hw.2 c63
            refine lv_iconst (v := (1 : Int32)) hx hb dX4_hangsTogetherWithout_66 kI_1 ?_
            refine lv_goto (tgt := 71) hx hb dX4_hangsTogetherWithout_67 (by decide) ?_
            rw [hZ]
            exact cx_retz (S_seen_59, S_queue_59) hx hb hr hlocks rfl hw hP hS dX4_hangsTogetherWithout_71
      · have hw := hw.2 c20
        refine lv_aload_n hx hb dX4_hangsTogetherWithout_23 rfl (lv_at hl 0 rfl) ?_
        refine va_get (D := D) (ci := 4) (v := .ref aS_cells) (C := RX4) (T := TX4) (N := 15) hx hb hts in_X4_hangsTogetherWithout_X4 hown hK hP 3 rfl rfl 1 (by decide) k_0 (fun _ h9 => h9) rfl dX4_hangsTogetherWithout_24 ?_
        refine lv_iload hx hb dX4_hangsTogetherWithout_27 (lv_at hl 4 rfl) ?_
        have h29 := hw.1
        have hw := hw.2
        refine va_iald hx hb hK hP 4 0 rfl rfl h29 dX4_hangsTogetherWithout_29 ?_
        refine lv_topi (fun v29 e29 => ?_)
        have hw := hw v29 e29
        refine lv_if_eq (tgt := 45) hx hb dX4_hangsTogetherWithout_30 (by decide) (fun c30 => ?_) (fun c30 => ?_)
        · have hw := hw.1 c30
          obtain ⟨v45, e45⟩ : ∃ y : Int32, y = x4 + (1 : Int32) := ⟨_, rfl⟩
          have hw := hw v45 e45
          refine lv_iinc (v := v45) (lv' := [(4, .int v45), (0, .ref aS), (1, .int x1), (2, .int x2), (3, .int x3)]) hx hb dX4_hangsTogetherWithout_45 hl (k := 4) rfl (by rw [e45, kI_1]) (by decide) rfl (fun ls hl => ?_)
          refine lv_goto (tgt := 15) hx hb dX4_hangsTogetherWithout_48 (by decide) ?_
          exact ih_15 S_seen S_queue x1 x2 x3 v45 hw H locs hP hD hS ls (lv_sub hl [1, 2, 3, 4, 0] rfl)
        · have hw := hw.2 c30
          refine lv_iload hx hb dX4_hangsTogetherWithout_33 (lv_at hl 4 rfl) ?_
          refine lv_iload_n hx hb dX4_hangsTogetherWithout_35 rfl (lv_at hl 1 rfl) ?_
          refine lv_icmp_eq (tgt := 45) hx hb dX4_hangsTogetherWithout_36 (by decide) (fun c36 => ?_) (fun c36 => ?_)
          · have hw := hw.1 c36
            obtain ⟨v45, e45⟩ : ∃ y : Int32, y = x4 + (1 : Int32) := ⟨_, rfl⟩
            have hw := hw v45 e45
            refine lv_iinc (v := v45) (lv' := [(4, .int v45), (0, .ref aS), (1, .int x1), (2, .int x2), (3, .int x3)]) hx hb dX4_hangsTogetherWithout_45 hl (k := 4) rfl (by rw [e45, kI_1]) (by decide) rfl (fun ls hl => ?_)
            refine lv_goto (tgt := 15) hx hb dX4_hangsTogetherWithout_48 (by decide) ?_
            exact ih_15 S_seen S_queue x1 x2 x3 v45 hw H locs hP hD hS ls (lv_sub hl [1, 2, 3, 4, 0] rfl)
          · have hw := hw.2 c36
            obtain ⟨v39, e39⟩ : ∃ y : Int32, y = x2 + (1 : Int32) := ⟨_, rfl⟩
            have hw := hw v39 e39
            refine lv_iinc (v := v39) (lv' := [(2, .int v39), (0, .ref aS), (1, .int x1), (3, .int x3), (4, .int x4)]) hx hb dX4_hangsTogetherWithout_39 hl (k := 2) rfl (by rw [e39, kI_1]) (by decide) rfl (fun ls hl => ?_)
            refine lv_iload hx hb dX4_hangsTogetherWithout_42 (lv_at hl 4 rfl) ?_
            refine lv_istore_n (lv' := [(3, .int x4), (2, .int v39), (0, .ref aS), (1, .int x1), (4, .int x4)]) hx hb dX4_hangsTogetherWithout_44 rfl hl (by decide) rfl (fun ls hl => ?_)
            obtain ⟨v45, e45⟩ : ∃ y : Int32, y = x4 + (1 : Int32) := ⟨_, rfl⟩
            have hw := hw v45 e45
            refine lv_iinc (v := v45) (lv' := [(4, .int v45), (3, .int x4), (2, .int v39), (0, .ref aS), (1, .int x1)]) hx hb dX4_hangsTogetherWithout_45 hl (k := 4) rfl (by rw [e45, kI_1]) (by decide) rfl (fun ls hl => ?_)
            refine lv_goto (tgt := 15) hx hb dX4_hangsTogetherWithout_48 (by decide) ?_
            exact ih_15 S_seen S_queue x1 v39 x4 v45 hw H locs hP hD hS ls (lv_sub hl [3, 4, 2, 1, 0] rfl)
  intro H locs hP hD hS ls hl
  unfold wp_X4_hangsTogetherWithout at hw
  refine lv_aload_n hx hb dX4_hangsTogetherWithout_0 rfl (lv_at hl 0 rfl) ?_
  refine va_get (D := D) (ci := 4) (v := .ref aS_seen) (C := RX4) (T := TX4) (N := 15) hx hb hts in_X4_hangsTogetherWithout_X4 hown hK hP 3 rfl rfl 13 (by decide) k_1 (fun _ h9 => h9) rfl dX4_hangsTogetherWithout_1 ?_
  refine lv_iconst (v := (0 : Int32)) hx hb dX4_hangsTogetherWithout_4 kI_0 ?_
  refine cx_gov (va_runS (As := [.ref aS_seen, .int (0 : Int32)]) (rest := []) ⟨hx, hb, hml, hown, hts⟩ (c_J7_fill_53178 l D cI cJ cZ cO tS tT H.size aS_seen 324 S_seen (0 : Int32) _ hw) (va_cwS 2 hts gX4_hangsTogetherWithout_J7_fill_53178 rfl rfl rfl ps_J7_fill_53178 ⟨Nat.le_of_ble_eq_true rfl, Nat.le_of_ble_eq_true rfl⟩) (cx_preS (wc := w_J7_fill_53178 cI cJ cZ cO aS_seen 324 S_seen) hE hK hP hD hS hA [5] rfl rfl) rfl rfl hl.1 rfl (lv_room (Nat.le_of_ble_eq_true rfl)) dX4_hangsTogetherWithout_5 ⟨Nat.le_of_ble_eq_true rfl, Nat.le_of_ble_eq_true rfl⟩) (fun (u : (Nat → Int32)) => (w_X4_hangsTogetherWithout cI cJ cZ cO aK aK_strengths aK_kinds aK_marks aK_faces aK_bars aK_showing aK_showingRight aK_barring aS aS_cells aS_fits aS_fitsInLine aS_stale aS_staleCells aS_seen aS_queue K_warm K_count K_seeds K_blocks K_rivals K_strengths K_faces S_pieces S_grown S_fitsInAll S_staleCount S_atLeast1 S_atLeast2 S_atLeast3 S_cells u S_queue)) [5] [0, 1, 2, 3, 4, 6] (ads := [aS_seen]) (wr := [(aK, .inr (1, [.int K_warm, .int K_count, .ref aK_strengths, .ref aK_kinds, .ref aK_marks, .ref aK_faces, .ref aK_bars, .ref aK_showing, .ref aK_showingRight, .ref aK_barring, .long K_seeds, .long K_blocks, .long K_rivals])), (aK_strengths, .inl (cI, 51, .inl K_strengths)), (aK_faces, .inl (cI, 512, .inl K_faces)), (aS, .inr (4, [.ref aK, .ref aS_cells, .int S_pieces, .int S_grown, .ref aS_fits, .ref aS_fitsInLine, .int S_fitsInAll, .ref aS_stale, .ref aS_staleCells, .int S_staleCount, .long S_atLeast1, .long S_atLeast2, .long S_atLeast3, .ref aS_seen, .ref aS_queue])), (aS_cells, .inl (cI, 324, .inl S_cells)), (aS_queue, .inl (cI, 256, .inl S_queue))]) rfl rfl (fun u => rfl) (fun u => rfl) rfl (fun u => rfl) rfl (fun u => rfl) rfl hP hD hS hA (fun S_seen_5 H locs hw hP hD hS => ?_)
  try dsimp only at hw
  have hP : va_P D vwCl (w_X4_hangsTogetherWithout cI cJ cZ cO aK aK_strengths aK_kinds aK_marks aK_faces aK_bars aK_showing aK_showingRight aK_barring aS aS_cells aS_fits aS_fitsInLine aS_stale aS_staleCells aS_seen aS_queue K_warm K_count K_seeds K_blocks K_rivals K_strengths K_faces S_pieces S_grown S_fitsInAll S_staleCount S_atLeast1 S_atLeast2 S_atLeast3 S_cells S_seen_5 S_queue) H := hP
  have hD : va_D A (w_X4_hangsTogetherWithout cI cJ cZ cO aK aK_strengths aK_kinds aK_marks aK_faces aK_bars aK_showing aK_showingRight aK_barring aS aS_cells aS_fits aS_fitsInLine aS_stale aS_staleCells aS_seen aS_queue K_warm K_count K_seeds K_blocks K_rivals K_strengths K_faces S_pieces S_grown S_fitsInAll S_staleCount S_atLeast1 S_atLeast2 S_atLeast3 S_cells S_seen_5 S_queue) := hD
  refine lv_iconst (v := (0 : Int32)) hx hb dX4_hangsTogetherWithout_8 kI_0 ?_
  refine lv_istore_n (lv' := [(2, .int (0 : Int32)), (0, .ref aS), (1, .int p1)]) hx hb dX4_hangsTogetherWithout_9 rfl hl (by decide) rfl (fun ls hl => ?_)
  refine lv_iconst (v := (-1 : Int32)) hx hb dX4_hangsTogetherWithout_10 kI_m1 ?_
  refine lv_istore_n (lv' := [(3, .int (-1 : Int32)), (2, .int (0 : Int32)), (0, .ref aS), (1, .int p1)]) hx hb dX4_hangsTogetherWithout_11 rfl hl (by decide) rfl (fun ls hl => ?_)
  refine lv_iconst (v := (0 : Int32)) hx hb dX4_hangsTogetherWithout_12 kI_0 ?_
  refine lv_istore (lv' := [(4, .int (0 : Int32)), (3, .int (-1 : Int32)), (2, .int (0 : Int32)), (0, .ref aS), (1, .int p1)]) hx hb dX4_hangsTogetherWithout_13 hl (by decide) rfl (fun ls hl => ?_)
  obtain ⟨k, hw⟩ := hw
  exact b_15 k S_seen_5 S_queue p1 (0 : Int32) (-1 : Int32) (0 : Int32) hw H locs hP hD hS ls (lv_sub hl [3, 4, 2, 1, 0] rfl)
set_option maxRecDepth 100000 in
set_option maxHeartbeats 4000000 in
theorem c_X4_mayLeave (l : Launch) (D : va_G) (cI cJ cZ cO : ClassId) (tS tT : Nat) (sz : Nat) (aK aK_strengths aK_kinds aK_marks aK_faces aK_bars aK_showing aK_showingRight aK_barring aS aS_cells aS_fits aS_fitsInLine aS_stale aS_staleCells aS_seen aS_queue : Nat) (K_warm : Int32) (K_count : Int32) (K_seeds : Int64) (K_blocks : Int64) (K_rivals : Int64) (K_strengths : Nat → Int32) (K_kinds : Nat → Int32) (K_faces : Nat → Int32) (S_pieces : Int32) (S_grown : Int32) (S_fitsInAll : Int32) (S_staleCount : Int32) (S_atLeast1 : Int64) (S_atLeast2 : Int64) (S_atLeast3 : Int64) (S_cells : Nat → Int32) (S_seen : Nat → Int32) (S_queue : Nat → Int32) (p1 : Int32) (Q : Int32 → (Nat → Int32) → (Nat → Int32) → Prop) (hw : wp_X4_mayLeave K_warm K_count K_strengths K_kinds K_faces S_cells S_seen S_queue p1 Q) : Met l yX4_mayLeave wsX4_mayLeave rm_X4_mayLeave (va_Pc [.ref aS, .int p1] (cx_B tS tT cI cJ cZ cO D sz (w_X4_mayLeave cI cJ cZ cO aK aK_strengths aK_kinds aK_marks aK_faces aK_bars aK_showing aK_showingRight aK_barring aS aS_cells aS_fits aS_fitsInLine aS_stale aS_staleCells aS_seen aS_queue K_warm K_count K_seeds K_blocks K_rivals K_strengths K_kinds K_faces S_pieces S_grown S_fitsInAll S_staleCount S_atLeast1 S_atLeast2 S_atLeast3 S_cells S_seen S_queue))) (va_Qi (fun (r : Int32) (u : (Nat → Int32) × (Nat → Int32)) => Q r u.1 u.2) (fun (u : (Nat → Int32) × (Nat → Int32)) t => va_P D vwCl (w_X4_mayLeave cI cJ cZ cO aK aK_strengths aK_kinds aK_marks aK_faces aK_bars aK_showing aK_showingRight aK_barring aS aS_cells aS_fits aS_fitsInLine aS_stale aS_staleCells aS_seen aS_queue K_warm K_count K_seeds K_blocks K_rivals K_strengths K_kinds K_faces S_pieces S_grown S_fitsInAll S_staleCount S_atLeast1 S_atLeast2 S_atLeast3 S_cells u.1 u.2) t.heap) (va_A (w_X4_mayLeave cI cJ cZ cO aK aK_strengths aK_kinds aK_marks aK_faces aK_bars aK_showing aK_showingRight aK_barring aS aS_cells aS_fits aS_fitsInLine aS_stale aS_staleCells aS_seen aS_queue K_warm K_count K_seeds K_blocks K_rivals K_strengths K_kinds K_faces S_pieces S_grown S_fitsInAll S_staleCount S_atLeast1 S_atLeast2 S_atLeast3 S_cells S_seen S_queue) sz)) 0 0 (va_A (w_X4_mayLeave cI cJ cZ cO aK aK_strengths aK_kinds aK_marks aK_faces aK_bars aK_showing aK_showingRight aK_barring aS aS_cells aS_fits aS_fitsInLine aS_stale aS_staleCells aS_seen aS_queue K_warm K_count K_seeds K_blocks K_rivals K_strengths K_kinds K_faces S_pieces S_grown S_fitsInAll S_staleCount S_atLeast1 S_atLeast2 S_atLeast3 S_cells S_seen S_queue) sz) := by
  refine cx_met (cc := cX4_mayLeave) (maxL := 3) (ret := (some .boolean)) (Qc := fun A => va_Qi (fun (r : Int32) (u : (Nat → Int32) × (Nat → Int32)) => Q r u.1 u.2) (fun (u : (Nat → Int32) × (Nat → Int32)) t => va_P D vwCl (w_X4_mayLeave cI cJ cZ cO aK aK_strengths aK_kinds aK_marks aK_faces aK_bars aK_showing aK_showingRight aK_barring aS aS_cells aS_fits aS_fitsInLine aS_stale aS_staleCells aS_seen aS_queue K_warm K_count K_seeds K_blocks K_rivals K_strengths K_kinds K_faces S_pieces S_grown S_fitsInAll S_staleCount S_atLeast1 S_atLeast2 S_atLeast3 S_cells u.1 u.2) t.heap) A) (lv := [(0, .ref aS), (1, .int p1)]) (by decide) rfl (Nat.le_of_ble_eq_true rfl) rfl ?_
  intro p e s m args below meth c A Z hx hb hr hlocks hts hown hml hE hK hA hZ
  have hown : s.vm.findClass RX4 = some m.cls := hown
  have k_0 := hts (.fieldLink RX4 15 "GrowingTiles$Sheet" "cells" "[I") (List.mem_of_getElem? (i := 1) (by decide +kernel))
  have k_1 := hts (.initialized RX7) (List.mem_of_getElem? (i := 5) (by decide +kernel))
  have k_2 := hts (.static yX7_pieceIn) (List.mem_of_getElem? (i := 4) (by decide +kernel))
  have k_3 := hts (.fieldLink RX4 9 "GrowingTiles$Sheet" "kit" "LGrowingTiles$Kit;") (List.mem_of_getElem? (i := 2) (by decide +kernel))
  have k_4 := hts (.fieldLink RX4 179 "GrowingTiles$Kit" "warm" "I") (List.mem_of_getElem? (i := 3) (by decide +kernel))
  intro H locs hP hD hS ls hl
  unfold wp_X4_mayLeave at hw
  refine lv_aload_n hx hb dX4_mayLeave_0 rfl (lv_at hl 0 rfl) ?_
  refine va_get (D := D) (ci := 4) (v := .ref aS_cells) (C := RX4) (T := TX4) (N := 15) hx hb hts in_X4_mayLeave_X4 hown hK hP 4 rfl rfl 1 (by decide) k_0 (fun _ h9 => h9) rfl dX4_mayLeave_1 ?_
  refine lv_iload_n hx hb dX4_mayLeave_4 rfl (lv_at hl 1 rfl) ?_
  have h5 := hw.1
  have hw := hw.2
  refine va_iald hx hb hK hP 5 0 rfl rfl h5 dX4_mayLeave_5 ?_
  refine lv_topi (fun v5 e5 => ?_)
  have hw := hw v5 e5
  refine cx_goi (va_runSN (As := [.int v5]) (rest := []) ⟨hx, hb, hml, hown, hts⟩ (c_X7_pieceIn l D cI cJ cZ cO tS tT H.size v5 _ hw) ⟨va_cnB 1 hts gX4_mayLeave_X7_pieceIn_n69 rfl rfl rfl (hE.1.2.2.2.2.2.2.2.1) k_1 ps_X7_pieceIn ⟨Nat.le_of_ble_eq_true rfl, Nat.le_of_ble_eq_true rfl⟩, k_2, trivial⟩ (cx_preS (wc := w_X7_pieceIn) hE hK hP hD hS hA [] rfl rfl) rfl rfl hl.1 rfl (lv_room (Nat.le_of_ble_eq_true rfl)) dX4_mayLeave_6 ⟨Nat.le_of_ble_eq_true rfl, Nat.le_of_ble_eq_true rfl⟩) (fun (_ : Unit) => (w_X4_mayLeave cI cJ cZ cO aK aK_strengths aK_kinds aK_marks aK_faces aK_bars aK_showing aK_showingRight aK_barring aS aS_cells aS_fits aS_fitsInLine aS_stale aS_staleCells aS_seen aS_queue K_warm K_count K_seeds K_blocks K_rivals K_strengths K_kinds K_faces S_pieces S_grown S_fitsInAll S_staleCount S_atLeast1 S_atLeast2 S_atLeast3 S_cells S_seen S_queue)) [] [0, 1, 2, 3, 4, 5, 6, 7] (ads := []) (wr := [(aK, .inr (1, [.int K_warm, .int K_count, .ref aK_strengths, .ref aK_kinds, .ref aK_marks, .ref aK_faces, .ref aK_bars, .ref aK_showing, .ref aK_showingRight, .ref aK_barring, .long K_seeds, .long K_blocks, .long K_rivals])), (aK_strengths, .inl (cI, 51, .inl K_strengths)), (aK_kinds, .inl (cI, 40, .inl K_kinds)), (aK_faces, .inl (cI, 512, .inl K_faces)), (aS, .inr (4, [.ref aK, .ref aS_cells, .int S_pieces, .int S_grown, .ref aS_fits, .ref aS_fitsInLine, .int S_fitsInAll, .ref aS_stale, .ref aS_staleCells, .int S_staleCount, .long S_atLeast1, .long S_atLeast2, .long S_atLeast3, .ref aS_seen, .ref aS_queue])), (aS_cells, .inl (cI, 324, .inl S_cells)), (aS_seen, .inl (cI, 324, .inl S_seen)), (aS_queue, .inl (cI, 256, .inl S_queue))]) rfl rfl (fun u => rfl) (fun u => rfl) rfl (fun u => rfl) rfl (fun u => rfl) rfl hP hD hS hA (fun r6 u H locs hw hP hD hS => ?_)
  refine lv_istore_n (lv' := [(2, .int r6), (0, .ref aS), (1, .int p1)]) hx hb dX4_mayLeave_9 rfl hl (by decide) rfl (fun ls hl => ?_)
  refine lv_aload_n hx hb dX4_mayLeave_10 rfl (lv_at hl 1 rfl) ?_
  refine va_get (D := D) (ci := 4) (v := .ref aK) (C := RX4) (T := TX4) (N := 15) hx hb hts in_X4_mayLeave_X4 hown hK hP 4 rfl rfl 0 (by decide) k_3 (fun _ h9 => h9) rfl dX4_mayLeave_11 ?_
  refine lv_iload_n hx hb dX4_mayLeave_14 rfl (lv_at hl 0 rfl) ?_
  refine lv_iconst (v := (3 : Int32)) hx hb dX4_mayLeave_15 kI_3 ?_
  refine cx_goi (va_runV (As := [.int r6, .int (3 : Int32)]) (rest := []) ⟨hx, hb, hml, hown, hts⟩ (c_X1_isOfKind l D cI cJ cZ cO tS tT H.size aK aK_strengths aK_kinds aK_marks aK_faces aK_bars aK_showing aK_showingRight aK_barring K_warm K_count K_seeds K_blocks K_rivals K_kinds r6 (3 : Int32) _ hw) (cwV 2 hts gX4_mayLeave_X1_isOfKind rfl rfl rfl pv_X1_isOfKind ⟨Nat.le_of_ble_eq_true rfl, Nat.le_of_ble_eq_true rfl⟩) (cx_preV (wc := w_X1_isOfKind cI cJ cZ cO aK aK_strengths aK_kinds aK_marks aK_faces aK_bars aK_showing aK_showingRight aK_barring K_warm K_count K_seeds K_blocks K_rivals K_kinds) hE hK hP hD hS hA [0, 2] rfl rfl (va_recv hK hP (ci := 1) (q0 := 0) rfl rfl)) rfl rfl hl.1 rfl (lv_room (Nat.le_of_ble_eq_true rfl)) dX4_mayLeave_16 ⟨Nat.le_of_ble_eq_true rfl, Nat.le_of_ble_eq_true rfl⟩) (fun (_ : Unit) => (w_X4_mayLeave cI cJ cZ cO aK aK_strengths aK_kinds aK_marks aK_faces aK_bars aK_showing aK_showingRight aK_barring aS aS_cells aS_fits aS_fitsInLine aS_stale aS_staleCells aS_seen aS_queue K_warm K_count K_seeds K_blocks K_rivals K_strengths K_kinds K_faces S_pieces S_grown S_fitsInAll S_staleCount S_atLeast1 S_atLeast2 S_atLeast3 S_cells S_seen S_queue)) [0, 2] [1, 3, 4, 5, 6, 7] (ads := [aK, aK_kinds]) (wr := [(aK_strengths, .inl (cI, 51, .inl K_strengths)), (aK_faces, .inl (cI, 512, .inl K_faces)), (aS, .inr (4, [.ref aK, .ref aS_cells, .int S_pieces, .int S_grown, .ref aS_fits, .ref aS_fitsInLine, .int S_fitsInAll, .ref aS_stale, .ref aS_staleCells, .int S_staleCount, .long S_atLeast1, .long S_atLeast2, .long S_atLeast3, .ref aS_seen, .ref aS_queue])), (aS_cells, .inl (cI, 324, .inl S_cells)), (aS_seen, .inl (cI, 324, .inl S_seen)), (aS_queue, .inl (cI, 256, .inl S_queue))]) rfl rfl (fun u => rfl) (fun u => rfl) rfl (fun u => rfl) rfl (fun u => rfl) rfl hP hD hS hA (fun r16 u H locs hw hP hD hS => ?_)
  have hP : va_P D vwCl (w_X4_mayLeave cI cJ cZ cO aK aK_strengths aK_kinds aK_marks aK_faces aK_bars aK_showing aK_showingRight aK_barring aS aS_cells aS_fits aS_fitsInLine aS_stale aS_staleCells aS_seen aS_queue K_warm K_count K_seeds K_blocks K_rivals K_strengths K_kinds K_faces S_pieces S_grown S_fitsInAll S_staleCount S_atLeast1 S_atLeast2 S_atLeast3 S_cells S_seen S_queue) H := hP
  have hD : va_D A (w_X4_mayLeave cI cJ cZ cO aK aK_strengths aK_kinds aK_marks aK_faces aK_bars aK_showing aK_showingRight aK_barring aS aS_cells aS_fits aS_fitsInLine aS_stale aS_staleCells aS_seen aS_queue K_warm K_count K_seeds K_blocks K_rivals K_strengths K_kinds K_faces S_pieces S_grown S_fitsInAll S_staleCount S_atLeast1 S_atLeast2 S_atLeast3 S_cells S_seen S_queue) := hD
  refine lv_if_eq (tgt := 50) hx hb dX4_mayLeave_19 (by decide) (fun c19 => ?_) (fun c19 => ?_)
  · have hw := hw.1 c19
    refine lv_iconst (v := (0 : Int32)) hx hb dX4_mayLeave_50 kI_0 ?_
    rw [hZ]
    exact cx_retz (S_seen, S_queue) hx hb hr hlocks rfl hw hP hS dX4_mayLeave_51
  · have hw := hw.2 c19
    refine lv_aload_n hx hb dX4_mayLeave_22 rfl (lv_at hl 1 rfl) ?_
    refine lv_iload_n hx hb dX4_mayLeave_23 rfl (lv_at hl 0 rfl) ?_
    refine lv_iload_n hx hb dX4_mayLeave_24 rfl (lv_at hl 2 rfl) ?_
    refine cx_goi (va_runV (As := [.int r6, .int p1]) (rest := []) ⟨hx, hb, hml, hown, hts⟩ (c_X4_holdOf l D cI cJ cZ cO tS tT H.size aK aK_strengths aK_kinds aK_marks aK_faces aK_bars aK_showing aK_showingRight aK_barring aS aS_cells aS_fits aS_fitsInLine aS_stale aS_staleCells aS_seen aS_queue K_warm K_count K_seeds K_blocks K_rivals K_strengths K_kinds K_faces S_pieces S_grown S_fitsInAll S_staleCount S_atLeast1 S_atLeast2 S_atLeast3 S_cells r6 p1 _ hw) (cwV 2 hts gX4_mayLeave_X4_holdOf rfl rfl rfl pv_X4_holdOf ⟨Nat.le_of_ble_eq_true rfl, Nat.le_of_ble_eq_true rfl⟩) (cx_preV (wc := w_X4_holdOf cI cJ cZ cO aK aK_strengths aK_kinds aK_marks aK_faces aK_bars aK_showing aK_showingRight aK_barring aS aS_cells aS_fits aS_fitsInLine aS_stale aS_staleCells aS_seen aS_queue K_warm K_count K_seeds K_blocks K_rivals K_strengths K_kinds K_faces S_pieces S_grown S_fitsInAll S_staleCount S_atLeast1 S_atLeast2 S_atLeast3 S_cells) hE hK hP hD hS hA [0, 1, 2, 3, 4, 5] rfl rfl (va_recv hK hP (ci := 4) (q0 := 4) rfl rfl)) rfl rfl hl.1 rfl (lv_room (Nat.le_of_ble_eq_true rfl)) dX4_mayLeave_25 ⟨Nat.le_of_ble_eq_true rfl, Nat.le_of_ble_eq_true rfl⟩) (fun (_ : Unit) => (w_X4_mayLeave cI cJ cZ cO aK aK_strengths aK_kinds aK_marks aK_faces aK_bars aK_showing aK_showingRight aK_barring aS aS_cells aS_fits aS_fitsInLine aS_stale aS_staleCells aS_seen aS_queue K_warm K_count K_seeds K_blocks K_rivals K_strengths K_kinds K_faces S_pieces S_grown S_fitsInAll S_staleCount S_atLeast1 S_atLeast2 S_atLeast3 S_cells S_seen S_queue)) [0, 1, 2, 3, 4, 5] [6, 7] (ads := [aK, aK_strengths, aK_kinds, aK_faces, aS, aS_cells]) (wr := [(aS_seen, .inl (cI, 324, .inl S_seen)), (aS_queue, .inl (cI, 256, .inl S_queue))]) rfl rfl (fun u => rfl) (fun u => rfl) rfl (fun u => rfl) rfl (fun u => rfl) rfl hP hD hS hA (fun r25 u H locs hw hP hD hS => ?_)
    have hP : va_P D vwCl (w_X4_mayLeave cI cJ cZ cO aK aK_strengths aK_kinds aK_marks aK_faces aK_bars aK_showing aK_showingRight aK_barring aS aS_cells aS_fits aS_fitsInLine aS_stale aS_staleCells aS_seen aS_queue K_warm K_count K_seeds K_blocks K_rivals K_strengths K_kinds K_faces S_pieces S_grown S_fitsInAll S_staleCount S_atLeast1 S_atLeast2 S_atLeast3 S_cells S_seen S_queue) H := hP
    have hD : va_D A (w_X4_mayLeave cI cJ cZ cO aK aK_strengths aK_kinds aK_marks aK_faces aK_bars aK_showing aK_showingRight aK_barring aS aS_cells aS_fits aS_fitsInLine aS_stale aS_staleCells aS_seen aS_queue K_warm K_count K_seeds K_blocks K_rivals K_strengths K_kinds K_faces S_pieces S_grown S_fitsInAll S_staleCount S_atLeast1 S_atLeast2 S_atLeast3 S_cells S_seen S_queue) := hD
    refine lv_aload_n hx hb dX4_mayLeave_28 rfl (lv_at hl 1 rfl) ?_
    refine va_get (D := D) (ci := 4) (v := .ref aK) (C := RX4) (T := TX4) (N := 15) hx hb hts in_X4_mayLeave_X4 hown hK hP 4 rfl rfl 0 (by decide) k_3 (fun _ h9 => h9) rfl dX4_mayLeave_29 ?_
    refine va_get (D := D) (ci := 1) (v := .int K_warm) (C := RX1) (T := TX1) (N := 13) hx hb hts in_X4_mayLeave_X1 hown hK hP 0 rfl rfl 0 (by decide) k_4 (fun _ h9 => h9) rfl dX4_mayLeave_32 ?_
    refine lv_icmp_ne (tgt := 50) hx hb dX4_mayLeave_35 (by decide) (fun c35 => ?_) (fun c35 => ?_)
    · have hw := hw.1 c35
      refine lv_iconst (v := (0 : Int32)) hx hb dX4_mayLeave_50 kI_0 ?_
      rw [hZ]
      exact cx_retz (S_seen, S_queue) hx hb hr hlocks rfl hw hP hS dX4_mayLeave_51
    · have hw := hw.2 c35
      refine lv_aload_n hx hb dX4_mayLeave_38 rfl (lv_at hl 1 rfl) ?_
      refine lv_iload_n hx hb dX4_mayLeave_39 rfl (lv_at hl 2 rfl) ?_
      refine cx_goi (va_runV (As := [.int p1]) (rest := []) ⟨hx, hb, hml, hown, hts⟩ (c_X4_hangsTogetherWithout l D cI cJ cZ cO tS tT H.size aK aK_strengths aK_kinds aK_marks aK_faces aK_bars aK_showing aK_showingRight aK_barring aS aS_cells aS_fits aS_fitsInLine aS_stale aS_staleCells aS_seen aS_queue K_warm K_count K_seeds K_blocks K_rivals K_strengths K_faces S_pieces S_grown S_fitsInAll S_staleCount S_atLeast1 S_atLeast2 S_atLeast3 S_cells S_seen S_queue p1 _ hw) (cwV 1 hts gX4_mayLeave_X4_hangsTogetherWithout rfl rfl rfl pv_X4_hangsTogetherWithout ⟨Nat.le_of_ble_eq_true rfl, Nat.le_of_ble_eq_true rfl⟩) (cx_preV (wc := w_X4_hangsTogetherWithout cI cJ cZ cO aK aK_strengths aK_kinds aK_marks aK_faces aK_bars aK_showing aK_showingRight aK_barring aS aS_cells aS_fits aS_fitsInLine aS_stale aS_staleCells aS_seen aS_queue K_warm K_count K_seeds K_blocks K_rivals K_strengths K_faces S_pieces S_grown S_fitsInAll S_staleCount S_atLeast1 S_atLeast2 S_atLeast3 S_cells S_seen S_queue) hE hK hP hD hS hA [0, 1, 3, 4, 5, 6, 7] rfl rfl (va_recv hK hP (ci := 4) (q0 := 4) rfl rfl)) rfl rfl hl.1 rfl (lv_room (Nat.le_of_ble_eq_true rfl)) dX4_mayLeave_40 ⟨Nat.le_of_ble_eq_true rfl, Nat.le_of_ble_eq_true rfl⟩) (fun (u : (Nat → Int32) × (Nat → Int32)) => (w_X4_mayLeave cI cJ cZ cO aK aK_strengths aK_kinds aK_marks aK_faces aK_bars aK_showing aK_showingRight aK_barring aS aS_cells aS_fits aS_fitsInLine aS_stale aS_staleCells aS_seen aS_queue K_warm K_count K_seeds K_blocks K_rivals K_strengths K_kinds K_faces S_pieces S_grown S_fitsInAll S_staleCount S_atLeast1 S_atLeast2 S_atLeast3 S_cells u.1 u.2)) [0, 1, 3, 4, 5, 6, 7] [2] (ads := [aK, aK_strengths, aK_faces, aS, aS_cells, aS_seen, aS_queue]) (wr := [(aK_kinds, .inl (cI, 40, .inl K_kinds))]) rfl rfl (fun u => rfl) (fun u => rfl) rfl (fun u => rfl) rfl (fun u => rfl) rfl hP hD hS hA (fun r40 u H locs hw hP hD hS => ?_)
      obtain ⟨S_seen_40, S_queue_40⟩ := u
      try dsimp only at hw
      have hP : va_P D vwCl (w_X4_mayLeave cI cJ cZ cO aK aK_strengths aK_kinds aK_marks aK_faces aK_bars aK_showing aK_showingRight aK_barring aS aS_cells aS_fits aS_fitsInLine aS_stale aS_staleCells aS_seen aS_queue K_warm K_count K_seeds K_blocks K_rivals K_strengths K_kinds K_faces S_pieces S_grown S_fitsInAll S_staleCount S_atLeast1 S_atLeast2 S_atLeast3 S_cells S_seen_40 S_queue_40) H := hP
      have hD : va_D A (w_X4_mayLeave cI cJ cZ cO aK aK_strengths aK_kinds aK_marks aK_faces aK_bars aK_showing aK_showingRight aK_barring aS aS_cells aS_fits aS_fitsInLine aS_stale aS_staleCells aS_seen aS_queue K_warm K_count K_seeds K_blocks K_rivals K_strengths K_kinds K_faces S_pieces S_grown S_fitsInAll S_staleCount S_atLeast1 S_atLeast2 S_atLeast3 S_cells S_seen_40 S_queue_40) := hD
      refine lv_if_eq (tgt := 50) hx hb dX4_mayLeave_43 (by decide) (fun c43 => ?_) (fun c43 => ?_)
      · have hw := hw.1 c43
        refine lv_iconst (v := (0 : Int32)) hx hb dX4_mayLeave_50 kI_0 ?_
        rw [hZ]
        exact cx_retz (S_seen_40, S_queue_40) hx hb hr hlocks rfl hw hP hS dX4_mayLeave_51
      · have hw := hw.2 c43
        refine lv_iconst (v := (1 : Int32)) hx hb dX4_mayLeave_46 kI_1 ?_
        refine lv_goto (tgt := 51) hx hb dX4_mayLeave_47 (by decide) ?_
        rw [hZ]
        exact cx_retz (S_seen_40, S_queue_40) hx hb hr hlocks rfl hw hP hS dX4_mayLeave_51
set_option maxRecDepth 100000 in
set_option maxHeartbeats 4000000 in
theorem c_X5_restart (l : Launch) (D : va_G) (cI cJ cZ cO : ClassId) (tS tT : Nat) (sz : Nat) (aT aT_acts aT_pieces aT_places aT_before aT_since : Nat) (T_made : Int32) (T_kept : Int32) (T_fromClear : Int32) (T_since : Nat → Int32) (p1 : Int32) (Q : (Int32) → (Int32) → (Int32) → (Nat → Int32) → Prop) (hw : wp_X5_restart T_made T_kept T_fromClear T_since p1 Q) : Met l yX5_restart wsX5_restart rm_X5_restart (va_Pc [.ref aT, .int p1] (cx_B tS tT cI cJ cZ cO D sz (w_X5_restart cI cJ cZ cO aT aT_acts aT_pieces aT_places aT_before aT_since T_made T_kept T_fromClear T_since))) (va_Qv (fun (u : (Int32) × (Int32) × (Int32) × (Nat → Int32)) => Q u.1 u.2.1 u.2.2.1 u.2.2.2) (fun (u : (Int32) × (Int32) × (Int32) × (Nat → Int32)) t => va_P D vwCl (w_X5_restart cI cJ cZ cO aT aT_acts aT_pieces aT_places aT_before aT_since u.1 u.2.1 u.2.2.1 u.2.2.2) t.heap) (va_A (w_X5_restart cI cJ cZ cO aT aT_acts aT_pieces aT_places aT_before aT_since T_made T_kept T_fromClear T_since) sz)) 0 0 (va_A (w_X5_restart cI cJ cZ cO aT aT_acts aT_pieces aT_places aT_before aT_since T_made T_kept T_fromClear T_since) sz) := by
  refine cx_met (cc := cX5_restart) (maxL := 2) (ret := none) (Qc := fun A => va_Qv (fun (u : (Int32) × (Int32) × (Int32) × (Nat → Int32)) => Q u.1 u.2.1 u.2.2.1 u.2.2.2) (fun (u : (Int32) × (Int32) × (Int32) × (Nat → Int32)) t => va_P D vwCl (w_X5_restart cI cJ cZ cO aT aT_acts aT_pieces aT_places aT_before aT_since u.1 u.2.1 u.2.2.1 u.2.2.2) t.heap) A) (lv := [(0, .ref aT), (1, .int p1)]) (by decide) rfl (Nat.le_of_ble_eq_true rfl) rfl ?_
  intro p e s m args below meth c A Z hx hb hr hlocks hts hown hml hE hK hA hZ
  have hown : s.vm.findClass RX5 = some m.cls := hown
  have k_0 := hts (.fieldLink RX5 9 "GrowingTiles$Steps" "made" "I") (List.mem_of_getElem? (i := 1) (by decide +kernel))
  have k_1 := hts (.fieldLink RX5 15 "GrowingTiles$Steps" "kept" "I") (List.mem_of_getElem? (i := 2) (by decide +kernel))
  have k_2 := hts (.fieldLink RX5 18 "GrowingTiles$Steps" "fromClear" "Z") (List.mem_of_getElem? (i := 3) (by decide +kernel))
  have k_3 := hts (.fieldLink RX5 35 "GrowingTiles$Steps" "since" "[I") (List.mem_of_getElem? (i := 4) (by decide +kernel))
  intro H locs hP hD hS ls hl
  unfold wp_X5_restart at hw
  refine lv_aload_n hx hb dX5_restart_0 rfl (lv_at hl 0 rfl) ?_
  refine lv_iconst (v := (0 : Int32)) hx hb dX5_restart_1 kI_0 ?_
  refine va_put (D := D) (ci := 5) (v := .int (0 : Int32)) (ty := .int) (C := RX5) (T := TX5) (N := 8) hx hb hts in_X5_restart_X5 tyX5 tyX5_ok nmX5 hown hK hP hD hS 0 rfl rfl 0 (by decide) k_0 (fun _ h9 => h9) rfl (tyX5_ok 0 (by decide)) rfl rfl (Nat.le_of_ble_eq_true rfl) dX5_restart_2 (fun H locs hP hD hS => ?_)
  have hP : va_P D vwCl (w_X5_restart cI cJ cZ cO aT aT_acts aT_pieces aT_places aT_before aT_since (0 : Int32) T_kept T_fromClear T_since) H := hP
  have hD : va_D A (w_X5_restart cI cJ cZ cO aT aT_acts aT_pieces aT_places aT_before aT_since (0 : Int32) T_kept T_fromClear T_since) := hD
  refine lv_aload_n hx hb dX5_restart_5 rfl (lv_at hl 0 rfl) ?_
  refine lv_iconst (v := (0 : Int32)) hx hb dX5_restart_6 kI_0 ?_
  refine va_put (D := D) (ci := 5) (v := .int (0 : Int32)) (ty := .int) (C := RX5) (T := TX5) (N := 8) hx hb hts in_X5_restart_X5 tyX5 tyX5_ok nmX5 hown hK hP hD hS 0 rfl rfl 1 (by decide) k_1 (fun _ h9 => h9) rfl (tyX5_ok 1 (by decide)) rfl rfl (Nat.le_of_ble_eq_true rfl) dX5_restart_7 (fun H locs hP hD hS => ?_)
  have hP : va_P D vwCl (w_X5_restart cI cJ cZ cO aT aT_acts aT_pieces aT_places aT_before aT_since (0 : Int32) (0 : Int32) T_fromClear T_since) H := hP
  have hD : va_D A (w_X5_restart cI cJ cZ cO aT aT_acts aT_pieces aT_places aT_before aT_since (0 : Int32) (0 : Int32) T_fromClear T_since) := hD
  refine lv_aload_n hx hb dX5_restart_10 rfl (lv_at hl 0 rfl) ?_
  refine lv_iload_n hx hb dX5_restart_11 rfl (lv_at hl 1 rfl) ?_
  have h12 := hw.1
  have hw := hw.2
  refine va_put (D := D) (ci := 5) (v := .int p1) (ty := .boolean) (C := RX5) (T := TX5) (N := 8) hx hb hts in_X5_restart_X5 tyX5 tyX5_ok nmX5 hown hK hP hD hS 0 rfl rfl 2 (by decide) k_2 (fun _ h9 => h9) rfl (tyX5_ok 2 (by decide)) (cx_bool h12).1 (cx_bool h12).2 (Nat.le_of_ble_eq_true rfl) dX5_restart_12 (fun H locs hP hD hS => ?_)
  have hP : va_P D vwCl (w_X5_restart cI cJ cZ cO aT aT_acts aT_pieces aT_places aT_before aT_since (0 : Int32) (0 : Int32) p1 T_since) H := hP
  have hD : va_D A (w_X5_restart cI cJ cZ cO aT aT_acts aT_pieces aT_places aT_before aT_since (0 : Int32) (0 : Int32) p1 T_since) := hD
  refine lv_aload_n hx hb dX5_restart_15 rfl (lv_at hl 0 rfl) ?_
  refine va_get (D := D) (ci := 5) (v := .ref aT_since) (C := RX5) (T := TX5) (N := 8) hx hb hts in_X5_restart_X5 hown hK hP 0 rfl rfl 7 (by decide) k_3 (fun _ h9 => h9) rfl dX5_restart_16 ?_
  refine lv_iconst (v := (-1 : Int32)) hx hb dX5_restart_19 kI_m1 ?_
  refine cx_gov (va_runS (As := [.ref aT_since, .int (-1 : Int32)]) (rest := []) ⟨hx, hb, hml, hown, hts⟩ (c_J7_fill_53178 l D cI cJ cZ cO tS tT H.size aT_since 324 T_since (-1 : Int32) _ hw) (va_cwS 2 hts gX5_restart_J7_fill_53178 rfl rfl rfl ps_J7_fill_53178 ⟨Nat.le_of_ble_eq_true rfl, Nat.le_of_ble_eq_true rfl⟩) (cx_preS (wc := w_J7_fill_53178 cI cJ cZ cO aT_since 324 T_since) hE hK hP hD hS hA [1] rfl rfl) rfl rfl hl.1 rfl (lv_room (Nat.le_of_ble_eq_true rfl)) dX5_restart_20 ⟨Nat.le_of_ble_eq_true rfl, Nat.le_of_ble_eq_true rfl⟩) (fun (u : (Nat → Int32)) => (w_X5_restart cI cJ cZ cO aT aT_acts aT_pieces aT_places aT_before aT_since (0 : Int32) (0 : Int32) p1 u)) [1] [0] (ads := [aT_since]) (wr := [(aT, .inr (5, [.int (0 : Int32), .int (0 : Int32), .int p1, .ref aT_acts, .ref aT_pieces, .ref aT_places, .ref aT_before, .ref aT_since]))]) rfl rfl (fun u => rfl) (fun u => rfl) rfl (fun u => rfl) rfl (fun u => rfl) rfl hP hD hS hA (fun T_since_20 H locs hw hP hD hS => ?_)
  try dsimp only at hw
  have hP : va_P D vwCl (w_X5_restart cI cJ cZ cO aT aT_acts aT_pieces aT_places aT_before aT_since (0 : Int32) (0 : Int32) p1 T_since_20) H := hP
  have hD : va_D A (w_X5_restart cI cJ cZ cO aT aT_acts aT_pieces aT_places aT_before aT_since (0 : Int32) (0 : Int32) p1 T_since_20) := hD
  rw [hZ]
  exact cx_retv ((0 : Int32), (0 : Int32), p1, T_since_20) hx hb hr hlocks hw hP hS dX5_restart_23
set_option maxRecDepth 100000 in
set_option maxHeartbeats 4000000 in
theorem c_X5_note (l : Launch) (D : va_G) (cI cJ cZ cO : ClassId) (tS tT : Nat) (sz : Nat) (aT aT_acts aT_pieces aT_places aT_before aT_since : Nat) (T_made : Int32) (T_kept : Int32) (T_fromClear : Int32) (T_acts : Nat → Int32) (T_pieces : Nat → Int32) (T_places : Nat → Int32) (T_before : Nat → Int32) (T_since : Nat → Int32) (p1 : Int32) (p2 : Int32) (p3 : Int32) (Q : (Int32) → (Int32) → (Nat → Int32) → (Nat → Int32) → (Nat → Int32) → (Nat → Int32) → (Nat → Int32) → Prop) (hw : wp_X5_note T_made T_kept T_acts T_pieces T_places T_before T_since p1 p2 p3 Q) : Met l yX5_note wsX5_note rm_X5_note (va_Pc [.ref aT, .int p1, .int p2, .int p3] (cx_B tS tT cI cJ cZ cO D sz (w_X5_note cI cJ cZ cO aT aT_acts aT_pieces aT_places aT_before aT_since T_made T_kept T_fromClear T_acts T_pieces T_places T_before T_since))) (va_Qv (fun (u : (Int32) × (Int32) × (Nat → Int32) × (Nat → Int32) × (Nat → Int32) × (Nat → Int32) × (Nat → Int32)) => Q u.1 u.2.1 u.2.2.1 u.2.2.2.1 u.2.2.2.2.1 u.2.2.2.2.2.1 u.2.2.2.2.2.2) (fun (u : (Int32) × (Int32) × (Nat → Int32) × (Nat → Int32) × (Nat → Int32) × (Nat → Int32) × (Nat → Int32)) t => va_P D vwCl (w_X5_note cI cJ cZ cO aT aT_acts aT_pieces aT_places aT_before aT_since u.1 u.2.1 T_fromClear u.2.2.1 u.2.2.2.1 u.2.2.2.2.1 u.2.2.2.2.2.1 u.2.2.2.2.2.2) t.heap) (va_A (w_X5_note cI cJ cZ cO aT aT_acts aT_pieces aT_places aT_before aT_since T_made T_kept T_fromClear T_acts T_pieces T_places T_before T_since) sz)) 0 0 (va_A (w_X5_note cI cJ cZ cO aT aT_acts aT_pieces aT_places aT_before aT_since T_made T_kept T_fromClear T_acts T_pieces T_places T_before T_since) sz) := by
  refine cx_met (cc := cX5_note) (maxL := 5) (ret := none) (Qc := fun A => va_Qv (fun (u : (Int32) × (Int32) × (Nat → Int32) × (Nat → Int32) × (Nat → Int32) × (Nat → Int32) × (Nat → Int32)) => Q u.1 u.2.1 u.2.2.1 u.2.2.2.1 u.2.2.2.2.1 u.2.2.2.2.2.1 u.2.2.2.2.2.2) (fun (u : (Int32) × (Int32) × (Nat → Int32) × (Nat → Int32) × (Nat → Int32) × (Nat → Int32) × (Nat → Int32)) t => va_P D vwCl (w_X5_note cI cJ cZ cO aT aT_acts aT_pieces aT_places aT_before aT_since u.1 u.2.1 T_fromClear u.2.2.1 u.2.2.2.1 u.2.2.2.2.1 u.2.2.2.2.2.1 u.2.2.2.2.2.2) t.heap) A) (lv := [(0, .ref aT), (1, .int p1), (2, .int p2), (3, .int p3)]) (by decide) rfl (Nat.le_of_ble_eq_true rfl) rfl ?_
  intro p e s m args below meth c A Z hx hb hr hlocks hts hown hml hE hK hA hZ
  have hown : s.vm.findClass RX5 = some m.cls := hown
  have k_0 := hts (.fieldLink RX5 9 "GrowingTiles$Steps" "made" "I") (List.mem_of_getElem? (i := 1) (by decide +kernel))
  have k_1 := hts (.fieldLink RX5 22 "GrowingTiles$Steps" "acts" "[I") (List.mem_of_getElem? (i := 2) (by decide +kernel))
  have k_2 := hts (.fieldLink RX5 26 "GrowingTiles$Steps" "pieces" "[I") (List.mem_of_getElem? (i := 3) (by decide +kernel))
  have k_3 := hts (.fieldLink RX5 29 "GrowingTiles$Steps" "places" "[I") (List.mem_of_getElem? (i := 4) (by decide +kernel))
  have k_4 := hts (.fieldLink RX5 32 "GrowingTiles$Steps" "before" "[I") (List.mem_of_getElem? (i := 5) (by decide +kernel))
  have k_5 := hts (.fieldLink RX5 35 "GrowingTiles$Steps" "since" "[I") (List.mem_of_getElem? (i := 6) (by decide +kernel))
  have k_6 := hts (.fieldLink RX5 15 "GrowingTiles$Steps" "kept" "I") (List.mem_of_getElem? (i := 7) (by decide +kernel))
  have k_7 := hts (.methodLink RX5 44 Lib.Math.min.name) (List.mem_of_getElem? (i := 8) (by decide +kernel))
  have k_8 := hts (.static Lib.Math.min.name) (List.mem_of_getElem? (i := 9) (by decide +kernel))
  have k_9 := hts (.initialized "java/lang/Math") (List.mem_of_getElem? (i := 10) (by decide +kernel))
  have k_10 := hts (.code Lib.Math.min.name Lib.Math.min.code 2 (some .int)) (List.mem_of_getElem? (i := 11) (by decide +kernel))
  intro H locs hP hD hS ls hl
  unfold wp_X5_note at hw
  refine lv_aload_n hx hb dX5_note_0 rfl (lv_at hl 0 rfl) ?_
  refine va_get (D := D) (ci := 5) (v := .int T_made) (C := RX5) (T := TX5) (N := 8) hx hb hts in_X5_note_X5 hown hK hP 0 rfl rfl 0 (by decide) k_0 (fun _ h9 => h9) rfl dX5_note_1 ?_
  refine lv_sipush (v := (200 : Int32)) hx hb dX5_note_4 kS_200 ?_
  refine lv_irem hx hb dX5_note_7 (by decide) ?_
  refine lv_topi (fun v8 e8 => ?_)
  have hw := hw v8 e8
  refine lv_istore (lv' := [(4, .int v8), (0, .ref aT), (1, .int p1), (2, .int p2), (3, .int p3)]) hx hb dX5_note_8 hl (by decide) rfl (fun ls hl => ?_)
  refine lv_aload_n hx hb dX5_note_10 rfl (lv_at hl 1 rfl) ?_
  refine va_get (D := D) (ci := 5) (v := .ref aT_acts) (C := RX5) (T := TX5) (N := 8) hx hb hts in_X5_note_X5 hown hK hP 0 rfl rfl 3 (by decide) k_1 (fun _ h9 => h9) rfl dX5_note_11 ?_
  refine lv_iload hx hb dX5_note_14 (lv_at hl 0 rfl) ?_
  refine lv_iload_n hx hb dX5_note_16 rfl (lv_at hl 2 rfl) ?_
  have h17 := hw.1
  have hw := hw.2
  refine va_iast hx hb hK hP hD hS 1 0 rfl rfl h17 dX5_note_17 (fun H locs hP hD hS => ?_)
  have hP : va_P D vwCl (w_X5_note cI cJ cZ cO aT aT_acts aT_pieces aT_places aT_before aT_since T_made T_kept T_fromClear (upd T_acts v8.toNatClampNeg p1) T_pieces T_places T_before T_since) H := hP
  have hD : va_D A (w_X5_note cI cJ cZ cO aT aT_acts aT_pieces aT_places aT_before aT_since T_made T_kept T_fromClear (upd T_acts v8.toNatClampNeg p1) T_pieces T_places T_before T_since) := hD
  obtain ⟨T_acts_17, e17⟩ : ∃ y : Nat → Int32, y = upd T_acts v8.toNatClampNeg p1 := ⟨_, rfl⟩
  rw [← e17] at hP hD
  have hw := hw T_acts_17 e17
  refine lv_aload_n hx hb dX5_note_18 rfl (lv_at hl 1 rfl) ?_
  refine va_get (D := D) (ci := 5) (v := .ref aT_pieces) (C := RX5) (T := TX5) (N := 8) hx hb hts in_X5_note_X5 hown hK hP 0 rfl rfl 4 (by decide) k_2 (fun _ h9 => h9) rfl dX5_note_19 ?_
  refine lv_iload hx hb dX5_note_22 (lv_at hl 0 rfl) ?_
  refine lv_iload_n hx hb dX5_note_24 rfl (lv_at hl 3 rfl) ?_
  have h25 := hw.1
  have hw := hw.2
  refine va_iast hx hb hK hP hD hS 2 0 rfl rfl h25 dX5_note_25 (fun H locs hP hD hS => ?_)
  have hP : va_P D vwCl (w_X5_note cI cJ cZ cO aT aT_acts aT_pieces aT_places aT_before aT_since T_made T_kept T_fromClear T_acts_17 (upd T_pieces v8.toNatClampNeg p2) T_places T_before T_since) H := hP
  have hD : va_D A (w_X5_note cI cJ cZ cO aT aT_acts aT_pieces aT_places aT_before aT_since T_made T_kept T_fromClear T_acts_17 (upd T_pieces v8.toNatClampNeg p2) T_places T_before T_since) := hD
  obtain ⟨T_pieces_25, e25⟩ : ∃ y : Nat → Int32, y = upd T_pieces v8.toNatClampNeg p2 := ⟨_, rfl⟩
  rw [← e25] at hP hD
  have hw := hw T_pieces_25 e25
  refine lv_aload_n hx hb dX5_note_26 rfl (lv_at hl 1 rfl) ?_
  refine va_get (D := D) (ci := 5) (v := .ref aT_places) (C := RX5) (T := TX5) (N := 8) hx hb hts in_X5_note_X5 hown hK hP 0 rfl rfl 5 (by decide) k_3 (fun _ h9 => h9) rfl dX5_note_27 ?_
  refine lv_iload hx hb dX5_note_30 (lv_at hl 0 rfl) ?_
  refine lv_iload_n hx hb dX5_note_32 rfl (lv_at hl 4 rfl) ?_
  have h33 := hw.1
  have hw := hw.2
  refine va_iast hx hb hK hP hD hS 3 0 rfl rfl h33 dX5_note_33 (fun H locs hP hD hS => ?_)
  have hP : va_P D vwCl (w_X5_note cI cJ cZ cO aT aT_acts aT_pieces aT_places aT_before aT_since T_made T_kept T_fromClear T_acts_17 T_pieces_25 (upd T_places v8.toNatClampNeg p3) T_before T_since) H := hP
  have hD : va_D A (w_X5_note cI cJ cZ cO aT aT_acts aT_pieces aT_places aT_before aT_since T_made T_kept T_fromClear T_acts_17 T_pieces_25 (upd T_places v8.toNatClampNeg p3) T_before T_since) := hD
  obtain ⟨T_places_33, e33⟩ : ∃ y : Nat → Int32, y = upd T_places v8.toNatClampNeg p3 := ⟨_, rfl⟩
  rw [← e33] at hP hD
  have hw := hw T_places_33 e33
  refine lv_aload_n hx hb dX5_note_34 rfl (lv_at hl 1 rfl) ?_
  refine va_get (D := D) (ci := 5) (v := .ref aT_before) (C := RX5) (T := TX5) (N := 8) hx hb hts in_X5_note_X5 hown hK hP 0 rfl rfl 6 (by decide) k_4 (fun _ h9 => h9) rfl dX5_note_35 ?_
  refine lv_iload hx hb dX5_note_38 (lv_at hl 0 rfl) ?_
  refine lv_aload_n hx hb dX5_note_40 rfl (lv_at hl 1 rfl) ?_
  refine va_get (D := D) (ci := 5) (v := .ref aT_since) (C := RX5) (T := TX5) (N := 8) hx hb hts in_X5_note_X5 hown hK hP 0 rfl rfl 7 (by decide) k_5 (fun _ h9 => h9) rfl dX5_note_41 ?_
  refine lv_iload_n hx hb dX5_note_44 rfl (lv_at hl 4 rfl) ?_
  have h45 := hw.1
  have hw := hw.2
  refine va_iald hx hb hK hP 5 0 rfl rfl h45 dX5_note_45 ?_
  refine lv_topi (fun v45 e45 => ?_)
  have hw := hw v45 e45
  have h46 := hw.1
  have hw := hw.2
  refine va_iast hx hb hK hP hD hS 4 0 rfl rfl h46 dX5_note_46 (fun H locs hP hD hS => ?_)
  have hP : va_P D vwCl (w_X5_note cI cJ cZ cO aT aT_acts aT_pieces aT_places aT_before aT_since T_made T_kept T_fromClear T_acts_17 T_pieces_25 T_places_33 (upd T_before v8.toNatClampNeg v45) T_since) H := hP
  have hD : va_D A (w_X5_note cI cJ cZ cO aT aT_acts aT_pieces aT_places aT_before aT_since T_made T_kept T_fromClear T_acts_17 T_pieces_25 T_places_33 (upd T_before v8.toNatClampNeg v45) T_since) := hD
  obtain ⟨T_before_46, e46⟩ : ∃ y : Nat → Int32, y = upd T_before v8.toNatClampNeg v45 := ⟨_, rfl⟩
  rw [← e46] at hP hD
  have hw := hw T_before_46 e46
  refine lv_aload_n hx hb dX5_note_47 rfl (lv_at hl 1 rfl) ?_
  refine va_get (D := D) (ci := 5) (v := .ref aT_since) (C := RX5) (T := TX5) (N := 8) hx hb hts in_X5_note_X5 hown hK hP 0 rfl rfl 7 (by decide) k_5 (fun _ h9 => h9) rfl dX5_note_48 ?_
  refine lv_iload_n hx hb dX5_note_51 rfl (lv_at hl 4 rfl) ?_
  refine lv_aload_n hx hb dX5_note_52 rfl (lv_at hl 1 rfl) ?_
  refine va_get (D := D) (ci := 5) (v := .int T_made) (C := RX5) (T := TX5) (N := 8) hx hb hts in_X5_note_X5 hown hK hP 0 rfl rfl 0 (by decide) k_0 (fun _ h9 => h9) rfl dX5_note_53 ?_
  have h56 := hw.1
  have hw := hw.2
  refine va_iast hx hb hK hP hD hS 5 0 rfl rfl h56 dX5_note_56 (fun H locs hP hD hS => ?_)
  have hP : va_P D vwCl (w_X5_note cI cJ cZ cO aT aT_acts aT_pieces aT_places aT_before aT_since T_made T_kept T_fromClear T_acts_17 T_pieces_25 T_places_33 T_before_46 (upd T_since p3.toNatClampNeg T_made)) H := hP
  have hD : va_D A (w_X5_note cI cJ cZ cO aT aT_acts aT_pieces aT_places aT_before aT_since T_made T_kept T_fromClear T_acts_17 T_pieces_25 T_places_33 T_before_46 (upd T_since p3.toNatClampNeg T_made)) := hD
  obtain ⟨T_since_56, e56⟩ : ∃ y : Nat → Int32, y = upd T_since p3.toNatClampNeg T_made := ⟨_, rfl⟩
  rw [← e56] at hP hD
  have hw := hw T_since_56 e56
  refine lv_aload_n hx hb dX5_note_57 rfl (lv_at hl 1 rfl) ?_
  refine lv_dup hx hb dX5_note_58 rfl ?_
  refine va_get (D := D) (ci := 5) (v := .int T_made) (C := RX5) (T := TX5) (N := 8) hx hb hts in_X5_note_X5 hown hK hP 0 rfl rfl 0 (by decide) k_0 (fun _ h9 => h9) rfl dX5_note_59 ?_
  refine lv_iconst (v := (1 : Int32)) hx hb dX5_note_62 kI_1 ?_
  refine lv_iadd hx hb dX5_note_63 ?_
  refine lv_topi (fun T_made_64 e64 => ?_)
  have hw := hw T_made_64 e64
  refine va_put (D := D) (ci := 5) (v := .int T_made_64) (ty := .int) (C := RX5) (T := TX5) (N := 8) hx hb hts in_X5_note_X5 tyX5 tyX5_ok nmX5 hown hK hP hD hS 0 rfl rfl 0 (by decide) k_0 (fun _ h9 => h9) rfl (tyX5_ok 0 (by decide)) rfl rfl (Nat.le_of_ble_eq_true rfl) dX5_note_64 (fun H locs hP hD hS => ?_)
  have hP : va_P D vwCl (w_X5_note cI cJ cZ cO aT aT_acts aT_pieces aT_places aT_before aT_since T_made_64 T_kept T_fromClear T_acts_17 T_pieces_25 T_places_33 T_before_46 T_since_56) H := hP
  have hD : va_D A (w_X5_note cI cJ cZ cO aT aT_acts aT_pieces aT_places aT_before aT_since T_made_64 T_kept T_fromClear T_acts_17 T_pieces_25 T_places_33 T_before_46 T_since_56) := hD
  refine lv_aload_n hx hb dX5_note_67 rfl (lv_at hl 1 rfl) ?_
  refine lv_aload_n hx hb dX5_note_68 rfl (lv_at hl 1 rfl) ?_
  refine va_get (D := D) (ci := 5) (v := .int T_kept) (C := RX5) (T := TX5) (N := 8) hx hb hts in_X5_note_X5 hown hK hP 0 rfl rfl 1 (by decide) k_6 (fun _ h9 => h9) rfl dX5_note_69 ?_
  refine lv_iconst (v := (1 : Int32)) hx hb dX5_note_72 kI_1 ?_
  refine lv_iadd hx hb dX5_note_73 ?_
  refine lv_sipush (v := (200 : Int32)) hx hb dX5_note_74 kS_200 ?_
  refine va_mmin hx hb (hml.trans hl.1.symm) hown k_7 k_8 k_9 k_10 (Nat.le_of_ble_eq_true rfl) (Nat.le_of_ble_eq_true rfl) (Nat.le_of_ble_eq_true rfl) (Nat.le_of_ble_eq_true rfl) dX5_note_77 ?_
  refine lv_topi (fun T_kept_80 e80 => ?_)
  have hw := hw T_kept_80 e80
  refine va_put (D := D) (ci := 5) (v := .int T_kept_80) (ty := .int) (C := RX5) (T := TX5) (N := 8) hx hb hts in_X5_note_X5 tyX5 tyX5_ok nmX5 hown hK hP hD hS 0 rfl rfl 1 (by decide) k_6 (fun _ h9 => h9) rfl (tyX5_ok 1 (by decide)) rfl rfl (Nat.le_of_ble_eq_true rfl) dX5_note_80 (fun H locs hP hD hS => ?_)
  have hP : va_P D vwCl (w_X5_note cI cJ cZ cO aT aT_acts aT_pieces aT_places aT_before aT_since T_made_64 T_kept_80 T_fromClear T_acts_17 T_pieces_25 T_places_33 T_before_46 T_since_56) H := hP
  have hD : va_D A (w_X5_note cI cJ cZ cO aT aT_acts aT_pieces aT_places aT_before aT_since T_made_64 T_kept_80 T_fromClear T_acts_17 T_pieces_25 T_places_33 T_before_46 T_since_56) := hD
  rw [hZ]
  exact cx_retv (T_made_64, T_kept_80, T_acts_17, T_pieces_25, T_places_33, T_before_46, T_since_56) hx hb hr hlocks hw hP hS dX5_note_83
set_option maxRecDepth 100000 in
set_option maxHeartbeats 4000000 in
theorem c_X5_dropLatest (l : Launch) (D : va_G) (cI cJ cZ cO : ClassId) (tS tT : Nat) (sz : Nat) (aT aT_acts aT_pieces aT_places aT_before aT_since : Nat) (T_made : Int32) (T_kept : Int32) (T_fromClear : Int32) (Q : Int32 → (Int32) → (Int32) → Prop) (hw : wp_X5_dropLatest T_made T_kept Q) : Met l yX5_dropLatest wsX5_dropLatest rm_X5_dropLatest (va_Pc [.ref aT] (cx_B tS tT cI cJ cZ cO D sz (w_X5_dropLatest cI cJ cZ cO aT aT_acts aT_pieces aT_places aT_before aT_since T_made T_kept T_fromClear))) (va_Qi (fun (r : Int32) (u : (Int32) × (Int32)) => Q r u.1 u.2) (fun (u : (Int32) × (Int32)) t => va_P D vwCl (w_X5_dropLatest cI cJ cZ cO aT aT_acts aT_pieces aT_places aT_before aT_since u.1 u.2 T_fromClear) t.heap) (va_A (w_X5_dropLatest cI cJ cZ cO aT aT_acts aT_pieces aT_places aT_before aT_since T_made T_kept T_fromClear) sz)) 0 0 (va_A (w_X5_dropLatest cI cJ cZ cO aT aT_acts aT_pieces aT_places aT_before aT_since T_made T_kept T_fromClear) sz) := by
  refine cx_met (cc := cX5_dropLatest) (maxL := 1) (ret := (some .int)) (Qc := fun A => va_Qi (fun (r : Int32) (u : (Int32) × (Int32)) => Q r u.1 u.2) (fun (u : (Int32) × (Int32)) t => va_P D vwCl (w_X5_dropLatest cI cJ cZ cO aT aT_acts aT_pieces aT_places aT_before aT_since u.1 u.2 T_fromClear) t.heap) A) (lv := [(0, .ref aT)]) (by decide) rfl (Nat.le_of_ble_eq_true rfl) rfl ?_
  intro p e s m args below meth c A Z hx hb hr hlocks hts hown hml hE hK hA hZ
  have hown : s.vm.findClass RX5 = some m.cls := hown
  have k_0 := hts (.fieldLink RX5 9 "GrowingTiles$Steps" "made" "I") (List.mem_of_getElem? (i := 2) (by decide +kernel))
  have k_1 := hts (.fieldLink RX5 15 "GrowingTiles$Steps" "kept" "I") (List.mem_of_getElem? (i := 1) (by decide +kernel))
  have b_27 : ∀ (T_made : Int32) (T_kept : Int32), wq_X5_dropLatest_27  Q T_made T_kept → ∀ (H : Heap) (locs : List Loc), va_P D vwCl (w_X5_dropLatest cI cJ cZ cO aT aT_acts aT_pieces aT_places aT_before aT_since T_made T_kept T_fromClear) H → va_D A (w_X5_dropLatest cI cJ cZ cO aT aT_acts aT_pieces aT_places aT_before aT_since T_made T_kept T_fromClear) → va_S A s.heap H locs → ∀ ls : Array Slot, lv_has ls 1 [(0, .ref aT)] → W p l e rm_X5_dropLatest s m args below meth c H locs 0 0 Z (F0 m 27 ls []) := by
    intro T_made T_kept hw H locs hP hD hS ls hl
    unfold wq_X5_dropLatest_27 at hw
    refine lv_aload_n hx hb dX5_dropLatest_27 rfl (lv_at hl 0 rfl) ?_
    refine va_get (D := D) (ci := 5) (v := .int T_made) (C := RX5) (T := TX5) (N := 8) hx hb hts in_X5_dropLatest_X5 hown hK hP 0 rfl rfl 0 (by decide) k_0 (fun _ h9 => h9) rfl dX5_dropLatest_28 ?_
    refine lv_sipush (v := (200 : Int32)) hx hb dX5_dropLatest_31 kS_200 ?_
    refine lv_irem hx hb dX5_dropLatest_34 (by decide) ?_
    rw [hZ]
    exact cx_reti (T_made, T_kept) hx hb hr hlocks hw hP hS dX5_dropLatest_35
  intro H locs hP hD hS ls hl
  unfold wp_X5_dropLatest at hw
  refine lv_aload_n hx hb dX5_dropLatest_0 rfl (lv_at hl 0 rfl) ?_
  refine va_get (D := D) (ci := 5) (v := .int T_kept) (C := RX5) (T := TX5) (N := 8) hx hb hts in_X5_dropLatest_X5 hown hK hP 0 rfl rfl 1 (by decide) k_1 (fun _ h9 => h9) rfl dX5_dropLatest_1 ?_
  refine lv_if_le (tgt := 27) hx hb dX5_dropLatest_4 (by decide) (fun c4 => ?_) (fun c4 => ?_)
  · have hw := hw.1 c4
    exact b_27 T_made T_kept hw H locs hP hD hS ls (lv_sub hl [0] rfl)
  · have hw := hw.2 c4
    refine lv_aload_n hx hb dX5_dropLatest_7 rfl (lv_at hl 0 rfl) ?_
    refine lv_dup hx hb dX5_dropLatest_8 rfl ?_
    refine va_get (D := D) (ci := 5) (v := .int T_kept) (C := RX5) (T := TX5) (N := 8) hx hb hts in_X5_dropLatest_X5 hown hK hP 0 rfl rfl 1 (by decide) k_1 (fun _ h9 => h9) rfl dX5_dropLatest_9 ?_
    refine lv_iconst (v := (1 : Int32)) hx hb dX5_dropLatest_12 kI_1 ?_
    refine lv_isub hx hb dX5_dropLatest_13 ?_
    refine lv_topi (fun T_kept_14 e14 => ?_)
    have hw := hw T_kept_14 e14
    refine va_put (D := D) (ci := 5) (v := .int T_kept_14) (ty := .int) (C := RX5) (T := TX5) (N := 8) hx hb hts in_X5_dropLatest_X5 tyX5 tyX5_ok nmX5 hown hK hP hD hS 0 rfl rfl 1 (by decide) k_1 (fun _ h9 => h9) rfl (tyX5_ok 1 (by decide)) rfl rfl (Nat.le_of_ble_eq_true rfl) dX5_dropLatest_14 (fun H locs hP hD hS => ?_)
    have hP : va_P D vwCl (w_X5_dropLatest cI cJ cZ cO aT aT_acts aT_pieces aT_places aT_before aT_since T_made T_kept_14 T_fromClear) H := hP
    have hD : va_D A (w_X5_dropLatest cI cJ cZ cO aT aT_acts aT_pieces aT_places aT_before aT_since T_made T_kept_14 T_fromClear) := hD
    refine lv_aload_n hx hb dX5_dropLatest_17 rfl (lv_at hl 0 rfl) ?_
    refine lv_dup hx hb dX5_dropLatest_18 rfl ?_
    refine va_get (D := D) (ci := 5) (v := .int T_made) (C := RX5) (T := TX5) (N := 8) hx hb hts in_X5_dropLatest_X5 hown hK hP 0 rfl rfl 0 (by decide) k_0 (fun _ h9 => h9) rfl dX5_dropLatest_19 ?_
    refine lv_iconst (v := (1 : Int32)) hx hb dX5_dropLatest_22 kI_1 ?_
    refine lv_isub hx hb dX5_dropLatest_23 ?_
    refine lv_topi (fun T_made_24 e24 => ?_)
    have hw := hw T_made_24 e24
    refine va_put (D := D) (ci := 5) (v := .int T_made_24) (ty := .int) (C := RX5) (T := TX5) (N := 8) hx hb hts in_X5_dropLatest_X5 tyX5 tyX5_ok nmX5 hown hK hP hD hS 0 rfl rfl 0 (by decide) k_0 (fun _ h9 => h9) rfl (tyX5_ok 0 (by decide)) rfl rfl (Nat.le_of_ble_eq_true rfl) dX5_dropLatest_24 (fun H locs hP hD hS => ?_)
    have hP : va_P D vwCl (w_X5_dropLatest cI cJ cZ cO aT aT_acts aT_pieces aT_places aT_before aT_since T_made_24 T_kept_14 T_fromClear) H := hP
    have hD : va_D A (w_X5_dropLatest cI cJ cZ cO aT aT_acts aT_pieces aT_places aT_before aT_since T_made_24 T_kept_14 T_fromClear) := hD
    exact b_27 T_made_24 T_kept_14 hw H locs hP hD hS ls (lv_sub hl [0] rfl)
set_option maxRecDepth 100000 in
set_option maxHeartbeats 4000000 in
theorem c_X6_hasRoomForFive (l : Launch) (D : va_G) (cI cJ cZ cO : ClassId) (tS tT : Nat) (sz : Nat) (aP aP_bytes : Nat) (P_length : Int32) (Q : Int32 → Prop) (hw : wp_X6_hasRoomForFive P_length Q) : Met l yX6_hasRoomForFive wsX6_hasRoomForFive rm_X6_hasRoomForFive (va_Pc [.ref aP] (cx_B tS tT cI cJ cZ cO D sz (w_X6_hasRoomForFive cI cJ cZ cO aP aP_bytes P_length))) (va_Qi (fun (r : Int32) (_ : Unit) => Q r) (fun (u : Unit) t => va_P D vwCl (w_X6_hasRoomForFive cI cJ cZ cO aP aP_bytes P_length) t.heap) (va_A (w_X6_hasRoomForFive cI cJ cZ cO aP aP_bytes P_length) sz)) 0 0 (va_A (w_X6_hasRoomForFive cI cJ cZ cO aP aP_bytes P_length) sz) := by
  refine cx_met (cc := cX6_hasRoomForFive) (maxL := 1) (ret := (some .boolean)) (Qc := fun A => va_Qi (fun (r : Int32) (_ : Unit) => Q r) (fun (u : Unit) t => va_P D vwCl (w_X6_hasRoomForFive cI cJ cZ cO aP aP_bytes P_length) t.heap) A) (lv := [(0, .ref aP)]) (by decide) rfl (Nat.le_of_ble_eq_true rfl) rfl ?_
  intro p e s m args below meth c A Z hx hb hr hlocks hts hown hml hE hK hA hZ
  have hown : s.vm.findClass RX6 = some m.cls := hown
  have k_0 := hts (.fieldLink RX6 9 "GrowingTiles$Tape" "length" "I") (List.mem_of_getElem? (i := 1) (by decide +kernel))
  intro H locs hP hD hS ls hl
  unfold wp_X6_hasRoomForFive at hw
  refine lv_aload_n hx hb dX6_hasRoomForFive_0 rfl (lv_at hl 0 rfl) ?_
  refine va_get (D := D) (ci := 6) (v := .int P_length) (C := RX6) (T := TX6) (N := 2) hx hb hts in_X6_hasRoomForFive_X6 hown hK hP 0 rfl rfl 0 (by decide) k_0 (fun _ h9 => h9) rfl dX6_hasRoomForFive_1 ?_
  refine lv_bipush (v := (20 : Int32)) hx hb dX6_hasRoomForFive_4 kB_20 ?_
  refine lv_iadd hx hb dX6_hasRoomForFive_6 ?_
  refine lv_sipush (v := (400 : Int32)) hx hb dX6_hasRoomForFive_7 kS_400 ?_
  refine lv_icmp_gt (tgt := 17) hx hb dX6_hasRoomForFive_10 (by decide) (fun c10 => ?_) (fun c10 => ?_)
  · have hw := hw.1 c10
    refine lv_iconst (v := (0 : Int32)) hx hb dX6_hasRoomForFive_17 kI_0 ?_
    rw [hZ]
    exact cx_retz () hx hb hr hlocks rfl hw hP hS dX6_hasRoomForFive_18
  · have hw := hw.2 c10
    refine lv_iconst (v := (1 : Int32)) hx hb dX6_hasRoomForFive_13 kI_1 ?_
    refine lv_goto (tgt := 18) hx hb dX6_hasRoomForFive_14 (by decide) ?_
    rw [hZ]
    exact cx_retz () hx hb hr hlocks rfl hw hP hS dX6_hasRoomForFive_18
set_option maxRecDepth 100000 in
set_option maxHeartbeats 4000000 in
theorem c_X6_append (l : Launch) (D : va_G) (cI cJ cZ cO : ClassId) (tS tT : Nat) (sz : Nat) (aP aP_bytes : Nat) (P_length : Int32) (P_bytes : Nat → Int32) (p1 : Int32) (Q : (Int32) → (Nat → Int32) → Prop) (hw : wp_X6_append P_length P_bytes p1 Q) : Met l yX6_append wsX6_append rm_X6_append (va_Pc [.ref aP, .int p1] (cx_B tS tT cI cJ cZ cO D sz (w_X6_append cI cJ cZ cO aP aP_bytes P_length P_bytes))) (va_Qv (fun (u : (Int32) × (Nat → Int32)) => Q u.1 u.2) (fun (u : (Int32) × (Nat → Int32)) t => va_P D vwCl (w_X6_append cI cJ cZ cO aP aP_bytes u.1 u.2) t.heap) (va_A (w_X6_append cI cJ cZ cO aP aP_bytes P_length P_bytes) sz)) 0 0 (va_A (w_X6_append cI cJ cZ cO aP aP_bytes P_length P_bytes) sz) := by
  refine cx_met (cc := cX6_append) (maxL := 3) (ret := none) (Qc := fun A => va_Qv (fun (u : (Int32) × (Nat → Int32)) => Q u.1 u.2) (fun (u : (Int32) × (Nat → Int32)) t => va_P D vwCl (w_X6_append cI cJ cZ cO aP aP_bytes u.1 u.2) t.heap) A) (lv := [(0, .ref aP), (1, .int p1)]) (by decide) rfl (Nat.le_of_ble_eq_true rfl) rfl ?_
  intro p e s m args below meth c A Z hx hb hr hlocks hts hown hml hE hK hA hZ
  have hown : s.vm.findClass RX6 = some m.cls := hown
  have k_0 := hts (.fieldLink RX6 15 "GrowingTiles$Tape" "bytes" "[I") (List.mem_of_getElem? (i := 1) (by decide +kernel))
  have k_1 := hts (.fieldLink RX6 9 "GrowingTiles$Tape" "length" "I") (List.mem_of_getElem? (i := 2) (by decide +kernel))
  have b_3 : ∀ n_3 : Nat, ∀ (P_length : Int32) (P_bytes : Nat → Int32) (x1 : Int32) (x2 : Int32), wq_X6_append_3  Q n_3 P_length P_bytes x1 x2 → ∀ (H : Heap) (locs : List Loc), va_P D vwCl (w_X6_append cI cJ cZ cO aP aP_bytes P_length P_bytes) H → va_D A (w_X6_append cI cJ cZ cO aP aP_bytes P_length P_bytes) → va_S A s.heap H locs → ∀ ls : Array Slot, lv_has ls 3 [(0, .ref aP), (1, .int x1), (2, .int x2)] → W p l e rm_X6_append s m args below meth c H locs 0 0 Z (F0 m 3 ls []) := by
    intro n_3
    induction n_3 with
    | zero => intro P_length P_bytes x1 x2 hw; exact False.elim hw
    | succ n_3 ih_3 =>
      intro P_length P_bytes x1 x2 hw H locs hP hD hS ls hl
      have hw : wf_X6_append_3  Q (wq_X6_append_3  Q n_3) P_length P_bytes x1 x2 := hw
      unfold wf_X6_append_3 at hw
      refine lv_iload_n hx hb dX6_append_3 rfl (lv_at hl 2 rfl) ?_
      refine lv_if_lt (tgt := 39) hx hb dX6_append_4 (by decide) (fun c4 => ?_) (fun c4 => ?_)
      · have hw := hw.1 c4
        rw [hZ]
        exact cx_retv (P_length, P_bytes) hx hb hr hlocks hw hP hS dX6_append_39
      · have hw := hw.2 c4
        refine lv_aload_n hx hb dX6_append_7 rfl (lv_at hl 0 rfl) ?_
        refine va_get (D := D) (ci := 6) (v := .ref aP_bytes) (C := RX6) (T := TX6) (N := 2) hx hb hts in_X6_append_X6 hown hK hP 0 rfl rfl 1 (by decide) k_0 (fun _ h9 => h9) rfl dX6_append_8 ?_
        refine lv_aload_n hx hb dX6_append_11 rfl (lv_at hl 0 rfl) ?_
        refine va_get (D := D) (ci := 6) (v := .int P_length) (C := RX6) (T := TX6) (N := 2) hx hb hts in_X6_append_X6 hown hK hP 0 rfl rfl 0 (by decide) k_1 (fun _ h9 => h9) rfl dX6_append_12 ?_
        refine lv_iload_n hx hb dX6_append_15 rfl (lv_at hl 1 rfl) ?_
        refine lv_iload_n hx hb dX6_append_16 rfl (lv_at hl 2 rfl) ?_
        refine lv_iushr hx hb dX6_append_17 rfl ?_
        refine lv_sipush (v := (255 : Int32)) hx hb dX6_append_18 kS_255 ?_
        refine lv_iand hx hb dX6_append_21 ?_
        have h22 := hw.1
        have hw := hw.2
        refine va_iast hx hb hK hP hD hS 1 0 rfl rfl h22 dX6_append_22 (fun H locs hP hD hS => ?_)
        have hP : va_P D vwCl (w_X6_append cI cJ cZ cO aP aP_bytes P_length (upd P_bytes P_length.toNatClampNeg (((x1.toUInt32 >>> (x2.toUInt32 &&& Int32.toUInt32 31)).toInt32) &&& (255 : Int32)))) H := hP
        have hD : va_D A (w_X6_append cI cJ cZ cO aP aP_bytes P_length (upd P_bytes P_length.toNatClampNeg (((x1.toUInt32 >>> (x2.toUInt32 &&& Int32.toUInt32 31)).toInt32) &&& (255 : Int32)))) := hD
        obtain ⟨P_bytes_22, e22⟩ : ∃ y : Nat → Int32, y = upd P_bytes P_length.toNatClampNeg (((x1.toUInt32 >>> (x2.toUInt32 &&& Int32.toUInt32 31)).toInt32) &&& (255 : Int32)) := ⟨_, rfl⟩
        rw [← e22] at hP hD
        have hw := hw P_bytes_22 e22
        refine lv_aload_n hx hb dX6_append_23 rfl (lv_at hl 0 rfl) ?_
        refine lv_dup hx hb dX6_append_24 rfl ?_
        refine va_get (D := D) (ci := 6) (v := .int P_length) (C := RX6) (T := TX6) (N := 2) hx hb hts in_X6_append_X6 hown hK hP 0 rfl rfl 0 (by decide) k_1 (fun _ h9 => h9) rfl dX6_append_25 ?_
        refine lv_iconst (v := (1 : Int32)) hx hb dX6_append_28 kI_1 ?_
        refine lv_iadd hx hb dX6_append_29 ?_
        refine lv_topi (fun P_length_30 e30 => ?_)
        have hw := hw P_length_30 e30
        refine va_put (D := D) (ci := 6) (v := .int P_length_30) (ty := .int) (C := RX6) (T := TX6) (N := 2) hx hb hts in_X6_append_X6 tyX6 tyX6_ok nmX6 hown hK hP hD hS 0 rfl rfl 0 (by decide) k_1 (fun _ h9 => h9) rfl (tyX6_ok 0 (by decide)) rfl rfl (Nat.le_of_ble_eq_true rfl) dX6_append_30 (fun H locs hP hD hS => ?_)
        have hP : va_P D vwCl (w_X6_append cI cJ cZ cO aP aP_bytes P_length_30 P_bytes_22) H := hP
        have hD : va_D A (w_X6_append cI cJ cZ cO aP aP_bytes P_length_30 P_bytes_22) := hD
        obtain ⟨v33, e33⟩ : ∃ y : Int32, y = x2 + (-8 : Int32) := ⟨_, rfl⟩
        have hw := hw v33 e33
        refine lv_iinc (v := v33) (lv' := [(2, .int v33), (0, .ref aP), (1, .int x1)]) hx hb dX6_append_33 hl (k := 2) rfl (by rw [e33, kI_m8]) (by decide) rfl (fun ls hl => ?_)
        refine lv_goto (tgt := 3) hx hb dX6_append_36 (by decide) ?_
        exact ih_3 P_length_30 P_bytes_22 x1 v33 hw H locs hP hD hS ls (lv_sub hl [1, 2, 0] rfl)
  intro H locs hP hD hS ls hl
  unfold wp_X6_append at hw
  refine lv_bipush (v := (24 : Int32)) hx hb dX6_append_0 kB_24 ?_
  refine lv_istore_n (lv' := [(2, .int (24 : Int32)), (0, .ref aP), (1, .int p1)]) hx hb dX6_append_2 rfl hl (by decide) rfl (fun ls hl => ?_)
  obtain ⟨k, hw⟩ := hw
  exact b_3 k P_length P_bytes p1 (24 : Int32) hw H locs hP hD hS ls (lv_sub hl [1, 2, 0] rfl)
set_option maxRecDepth 100000 in
set_option maxHeartbeats 4000000 in
theorem c_X6_addTo (l : Launch) (D : va_G) (cI cJ cZ cO : ClassId) (tS tT : Nat) (sz : Nat) (aK aK_strengths aK_kinds aK_marks aK_faces aK_bars aK_showing aK_showingRight aK_barring aP aP_bytes : Nat) (K_warm : Int32) (K_count : Int32) (K_seeds : Int64) (K_blocks : Int64) (K_rivals : Int64) (K_kinds : Nat → Int32) (K_marks : Nat → Int32) (K_faces : Nat → Int32) (K_bars : Nat → Int32) (K_showing : Nat → Int64) (K_showingRight : Nat → Int64) (K_barring : Nat → Int64) (P_length : Int32) (P_bytes : Nat → Int32) (p2 : Int32) (Q : Int32 → (Int32) → (Nat → Int32) → (Nat → Int32) → (Nat → Int32) → (Nat → Int32) → (Nat → Int64) → (Nat → Int64) → (Nat → Int64) → (Int64) → (Int64) → (Int64) → Prop) (hw : wp_X6_addTo P_bytes K_count K_kinds K_marks K_faces K_bars K_showing K_showingRight K_barring K_seeds K_blocks K_rivals p2 Q) : Met l yX6_addTo wsX6_addTo rm_X6_addTo (va_Pc [.ref aP, .ref aK, .int p2] (cx_B tS tT cI cJ cZ cO D sz (w_X6_addTo cI cJ cZ cO aK aK_strengths aK_kinds aK_marks aK_faces aK_bars aK_showing aK_showingRight aK_barring aP aP_bytes K_warm K_count K_seeds K_blocks K_rivals K_kinds K_marks K_faces K_bars K_showing K_showingRight K_barring P_length P_bytes))) (va_Qi (fun (r : Int32) (u : (Int32) × (Nat → Int32) × (Nat → Int32) × (Nat → Int32) × (Nat → Int32) × (Nat → Int64) × (Nat → Int64) × (Nat → Int64) × (Int64) × (Int64) × (Int64)) => Q r u.1 u.2.1 u.2.2.1 u.2.2.2.1 u.2.2.2.2.1 u.2.2.2.2.2.1 u.2.2.2.2.2.2.1 u.2.2.2.2.2.2.2.1 u.2.2.2.2.2.2.2.2.1 u.2.2.2.2.2.2.2.2.2.1 u.2.2.2.2.2.2.2.2.2.2) (fun (u : (Int32) × (Nat → Int32) × (Nat → Int32) × (Nat → Int32) × (Nat → Int32) × (Nat → Int64) × (Nat → Int64) × (Nat → Int64) × (Int64) × (Int64) × (Int64)) t => va_P D vwCl (w_X6_addTo cI cJ cZ cO aK aK_strengths aK_kinds aK_marks aK_faces aK_bars aK_showing aK_showingRight aK_barring aP aP_bytes K_warm u.1 u.2.2.2.2.2.2.2.2.1 u.2.2.2.2.2.2.2.2.2.1 u.2.2.2.2.2.2.2.2.2.2 u.2.1 u.2.2.1 u.2.2.2.1 u.2.2.2.2.1 u.2.2.2.2.2.1 u.2.2.2.2.2.2.1 u.2.2.2.2.2.2.2.1 P_length P_bytes) t.heap) (va_A (w_X6_addTo cI cJ cZ cO aK aK_strengths aK_kinds aK_marks aK_faces aK_bars aK_showing aK_showingRight aK_barring aP aP_bytes K_warm K_count K_seeds K_blocks K_rivals K_kinds K_marks K_faces K_bars K_showing K_showingRight K_barring P_length P_bytes) sz)) 0 0 (va_A (w_X6_addTo cI cJ cZ cO aK aK_strengths aK_kinds aK_marks aK_faces aK_bars aK_showing aK_showingRight aK_barring aP aP_bytes K_warm K_count K_seeds K_blocks K_rivals K_kinds K_marks K_faces K_bars K_showing K_showingRight K_barring P_length P_bytes) sz) := by
  refine cx_met (cc := cX6_addTo) (maxL := 4) (ret := (some .boolean)) (Qc := fun A => va_Qi (fun (r : Int32) (u : (Int32) × (Nat → Int32) × (Nat → Int32) × (Nat → Int32) × (Nat → Int32) × (Nat → Int64) × (Nat → Int64) × (Nat → Int64) × (Int64) × (Int64) × (Int64)) => Q r u.1 u.2.1 u.2.2.1 u.2.2.2.1 u.2.2.2.2.1 u.2.2.2.2.2.1 u.2.2.2.2.2.2.1 u.2.2.2.2.2.2.2.1 u.2.2.2.2.2.2.2.2.1 u.2.2.2.2.2.2.2.2.2.1 u.2.2.2.2.2.2.2.2.2.2) (fun (u : (Int32) × (Nat → Int32) × (Nat → Int32) × (Nat → Int32) × (Nat → Int32) × (Nat → Int64) × (Nat → Int64) × (Nat → Int64) × (Int64) × (Int64) × (Int64)) t => va_P D vwCl (w_X6_addTo cI cJ cZ cO aK aK_strengths aK_kinds aK_marks aK_faces aK_bars aK_showing aK_showingRight aK_barring aP aP_bytes K_warm u.1 u.2.2.2.2.2.2.2.2.1 u.2.2.2.2.2.2.2.2.2.1 u.2.2.2.2.2.2.2.2.2.2 u.2.1 u.2.2.1 u.2.2.2.1 u.2.2.2.2.1 u.2.2.2.2.2.1 u.2.2.2.2.2.2.1 u.2.2.2.2.2.2.2.1 P_length P_bytes) t.heap) A) (lv := [(0, .ref aP), (1, .ref aK), (2, .int p2)]) (by decide) rfl (Nat.le_of_ble_eq_true rfl) rfl ?_
  intro p e s m args below meth c A Z hx hb hr hlocks hts hown hml hE hK hA hZ
  have hown : s.vm.findClass RX6 = some m.cls := hown
  have k_0 := hts (.fieldLink RX6 15 "GrowingTiles$Tape" "bytes" "[I") (List.mem_of_getElem? (i := 1) (by decide +kernel))
  intro H locs hP hD hS ls hl
  unfold wp_X6_addTo at hw
  refine lv_sipush (v := (256 : Int32)) hx hb dX6_addTo_0 kS_256 ?_
  refine lv_aload_n hx hb dX6_addTo_3 rfl (lv_at hl 0 rfl) ?_
  refine va_get (D := D) (ci := 6) (v := .ref aP_bytes) (C := RX6) (T := TX6) (N := 2) hx hb hts in_X6_addTo_X6 hown hK hP 8 rfl rfl 1 (by decide) k_0 (fun _ h9 => h9) rfl dX6_addTo_4 ?_
  refine lv_iload_n hx hb dX6_addTo_7 rfl (lv_at hl 2 rfl) ?_
  refine lv_bipush (v := (6 : Int32)) hx hb dX6_addTo_8 kB_6 ?_
  refine lv_iadd hx hb dX6_addTo_10 ?_
  have h11 := hw.1
  have hw := hw.2
  refine va_iald hx hb hK hP 9 0 rfl rfl h11 dX6_addTo_11 ?_
  refine lv_topi (fun v11 e11 => ?_)
  have hw := hw v11 e11
  refine lv_imul hx hb dX6_addTo_12 ?_
  refine lv_aload_n hx hb dX6_addTo_13 rfl (lv_at hl 0 rfl) ?_
  refine va_get (D := D) (ci := 6) (v := .ref aP_bytes) (C := RX6) (T := TX6) (N := 2) hx hb hts in_X6_addTo_X6 hown hK hP 8 rfl rfl 1 (by decide) k_0 (fun _ h9 => h9) rfl dX6_addTo_14 ?_
  refine lv_iload_n hx hb dX6_addTo_17 rfl (lv_at hl 2 rfl) ?_
  refine lv_bipush (v := (7 : Int32)) hx hb dX6_addTo_18 kB_7 ?_
  refine lv_iadd hx hb dX6_addTo_20 ?_
  have h21 := hw.1
  have hw := hw.2
  refine va_iald hx hb hK hP 9 0 rfl rfl h21 dX6_addTo_21 ?_
  refine lv_topi (fun v21 e21 => ?_)
  have hw := hw v21 e21
  refine lv_iadd hx hb dX6_addTo_22 ?_
  refine lv_topi (fun v23 e23 => ?_)
  have hw := hw v23 e23
  refine lv_istore_n (lv' := [(3, .int v23), (0, .ref aP), (1, .ref aK), (2, .int p2)]) hx hb dX6_addTo_23 rfl hl (by decide) rfl (fun ls hl => ?_)
  refine lv_aload_n hx hb dX6_addTo_24 rfl (lv_at hl 2 rfl) ?_
  refine lv_aload_n hx hb dX6_addTo_25 rfl (lv_at hl 1 rfl) ?_
  refine va_get (D := D) (ci := 6) (v := .ref aP_bytes) (C := RX6) (T := TX6) (N := 2) hx hb hts in_X6_addTo_X6 hown hK hP 8 rfl rfl 1 (by decide) k_0 (fun _ h9 => h9) rfl dX6_addTo_26 ?_
  refine lv_iload_n hx hb dX6_addTo_29 rfl (lv_at hl 3 rfl) ?_
  have h30 := hw.1
  have hw := hw.2
  refine va_iald hx hb hK hP 9 0 rfl rfl h30 dX6_addTo_30 ?_
  refine lv_topi (fun v30 e30 => ?_)
  have hw := hw v30 e30
  refine lv_aload_n hx hb dX6_addTo_31 rfl (lv_at hl 1 rfl) ?_
  refine va_get (D := D) (ci := 6) (v := .ref aP_bytes) (C := RX6) (T := TX6) (N := 2) hx hb hts in_X6_addTo_X6 hown hK hP 8 rfl rfl 1 (by decide) k_0 (fun _ h9 => h9) rfl dX6_addTo_32 ?_
  refine lv_iload_n hx hb dX6_addTo_35 rfl (lv_at hl 3 rfl) ?_
  refine lv_iconst (v := (1 : Int32)) hx hb dX6_addTo_36 kI_1 ?_
  refine lv_iadd hx hb dX6_addTo_37 ?_
  have h38 := hw.1
  have hw := hw.2
  refine va_iald hx hb hK hP 9 0 rfl rfl h38 dX6_addTo_38 ?_
  refine lv_topi (fun v38 e38 => ?_)
  have hw := hw v38 e38
  refine lv_aload_n hx hb dX6_addTo_39 rfl (lv_at hl 1 rfl) ?_
  refine va_get (D := D) (ci := 6) (v := .ref aP_bytes) (C := RX6) (T := TX6) (N := 2) hx hb hts in_X6_addTo_X6 hown hK hP 8 rfl rfl 1 (by decide) k_0 (fun _ h9 => h9) rfl dX6_addTo_40 ?_
  refine lv_iload_n hx hb dX6_addTo_43 rfl (lv_at hl 3 rfl) ?_
  refine lv_iconst (v := (2 : Int32)) hx hb dX6_addTo_44 kI_2 ?_
  refine lv_iadd hx hb dX6_addTo_45 ?_
  have h46 := hw.1
  have hw := hw.2
  refine va_iald hx hb hK hP 9 0 rfl rfl h46 dX6_addTo_46 ?_
  refine lv_topi (fun v46 e46 => ?_)
  have hw := hw v46 e46
  refine lv_aload_n hx hb dX6_addTo_47 rfl (lv_at hl 1 rfl) ?_
  refine va_get (D := D) (ci := 6) (v := .ref aP_bytes) (C := RX6) (T := TX6) (N := 2) hx hb hts in_X6_addTo_X6 hown hK hP 8 rfl rfl 1 (by decide) k_0 (fun _ h9 => h9) rfl dX6_addTo_48 ?_
  refine lv_iload_n hx hb dX6_addTo_51 rfl (lv_at hl 3 rfl) ?_
  refine lv_iconst (v := (3 : Int32)) hx hb dX6_addTo_52 kI_3 ?_
  refine lv_iadd hx hb dX6_addTo_53 ?_
  have h54 := hw.1
  have hw := hw.2
  refine va_iald hx hb hK hP 9 0 rfl rfl h54 dX6_addTo_54 ?_
  refine lv_topi (fun v54 e54 => ?_)
  have hw := hw v54 e54
  refine lv_aload_n hx hb dX6_addTo_55 rfl (lv_at hl 1 rfl) ?_
  refine va_get (D := D) (ci := 6) (v := .ref aP_bytes) (C := RX6) (T := TX6) (N := 2) hx hb hts in_X6_addTo_X6 hown hK hP 8 rfl rfl 1 (by decide) k_0 (fun _ h9 => h9) rfl dX6_addTo_56 ?_
  refine lv_iload_n hx hb dX6_addTo_59 rfl (lv_at hl 3 rfl) ?_
  refine lv_iconst (v := (4 : Int32)) hx hb dX6_addTo_60 kI_4 ?_
  refine lv_iadd hx hb dX6_addTo_61 ?_
  have h62 := hw.1
  have hw := hw.2
  refine va_iald hx hb hK hP 9 0 rfl rfl h62 dX6_addTo_62 ?_
  refine lv_topi (fun v62 e62 => ?_)
  have hw := hw v62 e62
  refine lv_iload_n hx hb dX6_addTo_63 rfl (lv_at hl 0 rfl) ?_
  refine cx_goi (va_runV (As := [.int v30, .int v38, .int v46, .int v54, .int v62, .int v23]) (rest := []) ⟨hx, hb, hml, hown, hts⟩ (c_X1_addPiece l D cI cJ cZ cO tS tT H.size aK aK_strengths aK_kinds aK_marks aK_faces aK_bars aK_showing aK_showingRight aK_barring K_warm K_count K_seeds K_blocks K_rivals K_kinds K_marks K_faces K_bars K_showing K_showingRight K_barring v30 v38 v46 v54 v62 v23 _ hw) (cwV 6 hts gX6_addTo_X1_addPiece rfl rfl rfl pv_X1_addPiece ⟨Nat.le_of_ble_eq_true rfl, Nat.le_of_ble_eq_true rfl⟩) (cx_preV (wc := w_X1_addPiece cI cJ cZ cO aK aK_strengths aK_kinds aK_marks aK_faces aK_bars aK_showing aK_showingRight aK_barring K_warm K_count K_seeds K_blocks K_rivals K_kinds K_marks K_faces K_bars K_showing K_showingRight K_barring) hE hK hP hD hS hA [0, 1, 2, 3, 4, 5, 6, 7] rfl rfl (va_recv hK hP (ci := 1) (q0 := 0) rfl rfl)) rfl rfl hl.1 rfl (lv_room (Nat.le_of_ble_eq_true rfl)) dX6_addTo_64 ⟨Nat.le_of_ble_eq_true rfl, Nat.le_of_ble_eq_true rfl⟩) (fun (u : (Int32) × (Nat → Int32) × (Nat → Int32) × (Nat → Int32) × (Nat → Int32) × (Nat → Int64) × (Nat → Int64) × (Nat → Int64) × (Int64) × (Int64) × (Int64)) => (w_X6_addTo cI cJ cZ cO aK aK_strengths aK_kinds aK_marks aK_faces aK_bars aK_showing aK_showingRight aK_barring aP aP_bytes K_warm u.1 u.2.2.2.2.2.2.2.2.1 u.2.2.2.2.2.2.2.2.2.1 u.2.2.2.2.2.2.2.2.2.2 u.2.1 u.2.2.1 u.2.2.2.1 u.2.2.2.2.1 u.2.2.2.2.2.1 u.2.2.2.2.2.2.1 u.2.2.2.2.2.2.2.1 P_length P_bytes)) [0, 1, 2, 3, 4, 5, 6, 7] [8, 9] (ads := [aK, aK_kinds, aK_marks, aK_faces, aK_bars, aK_showing, aK_showingRight, aK_barring]) (wr := [(aP, .inr (6, [.int P_length, .ref aP_bytes])), (aP_bytes, .inl (cI, 400, .inl P_bytes))]) rfl rfl (fun u => rfl) (fun u => rfl) rfl (fun u => rfl) rfl (fun u => rfl) rfl hP hD hS hA (fun r64 u H locs hw hP hD hS => ?_)
  obtain ⟨K_count_64, K_kinds_64, K_marks_64, K_faces_64, K_bars_64, K_showing_64, K_showingRight_64, K_barring_64, K_seeds_64, K_blocks_64, K_rivals_64⟩ := u
  try dsimp only at hw
  have hP : va_P D vwCl (w_X6_addTo cI cJ cZ cO aK aK_strengths aK_kinds aK_marks aK_faces aK_bars aK_showing aK_showingRight aK_barring aP aP_bytes K_warm K_count_64 K_seeds_64 K_blocks_64 K_rivals_64 K_kinds_64 K_marks_64 K_faces_64 K_bars_64 K_showing_64 K_showingRight_64 K_barring_64 P_length P_bytes) H := hP
  have hD : va_D A (w_X6_addTo cI cJ cZ cO aK aK_strengths aK_kinds aK_marks aK_faces aK_bars aK_showing aK_showingRight aK_barring aP aP_bytes K_warm K_count_64 K_seeds_64 K_blocks_64 K_rivals_64 K_kinds_64 K_marks_64 K_faces_64 K_bars_64 K_showing_64 K_showingRight_64 K_barring_64 P_length P_bytes) := hD
  refine lv_iconst (v := (-1 : Int32)) hx hb dX6_addTo_67 kI_m1 ?_
  refine lv_icmp_eq (tgt := 75) hx hb dX6_addTo_68 (by decide) (fun c68 => ?_) (fun c68 => ?_)
  · have hw := hw.1 c68
    refine lv_iconst (v := (0 : Int32)) hx hb dX6_addTo_75 kI_0 ?_
    rw [hZ]
    exact cx_retz (K_count_64, K_kinds_64, K_marks_64, K_faces_64, K_bars_64, K_showing_64, K_showingRight_64, K_barring_64, K_seeds_64, K_blocks_64, K_rivals_64) hx hb hr hlocks rfl hw hP hS dX6_addTo_76
  · have hw := hw.2 c68
    refine lv_iconst (v := (1 : Int32)) hx hb dX6_addTo_71 kI_1 ?_
    refine lv_goto (tgt := 76) hx hb dX6_addTo_72 (by decide) ?_
    rw [hZ]
    exact cx_retz (K_count_64, K_kinds_64, K_marks_64, K_faces_64, K_bars_64, K_showing_64, K_showingRight_64, K_barring_64, K_seeds_64, K_blocks_64, K_rivals_64) hx hb hr hlocks rfl hw hP hS dX6_addTo_76
set_option maxRecDepth 100000 in
set_option maxHeartbeats 4000000 in
theorem c_X7_glue (l : Launch) (D : va_G) (cI cJ cZ cO : ClassId) (tS tT : Nat) (sz : Nat) (aG aK aS aT aP aR aO aG_images aK_strengths aK_kinds aK_marks aK_faces aK_bars aK_showing aK_showingRight aK_barring aS_cells aS_fits aS_fitsInLine aS_stale aS_staleCells aS_seen aS_queue : Nat) (G_s : Int64) (K_warm : Int32) (K_count : Int32) (K_seeds : Int64) (K_blocks : Int64) (K_rivals : Int64) (K_strengths : Nat → Int32) (S_pieces : Int32) (S_grown : Int32) (S_fitsInAll : Int32) (S_staleCount : Int32) (S_atLeast1 : Int64) (S_atLeast2 : Int64) (S_atLeast3 : Int64) (p1 : Int32) (p2 : Int32) (Q : Int32 → (Nat → Int32) → Prop) (hw : wp_X7_glue S_pieces K_strengths p1 p2 Q) : Met l yX7_glue wsX7_glue rm_X7_glue (va_Pc [.ref aG, .int p1, .int p2] (cx_B tS tT cI cJ cZ cO D sz (w_X7_glue cI cJ cZ cO aG aK aS aT aP aR aO aG_images aK_strengths aK_kinds aK_marks aK_faces aK_bars aK_showing aK_showingRight aK_barring aS_cells aS_fits aS_fitsInLine aS_stale aS_staleCells aS_seen aS_queue G_s K_warm K_count K_seeds K_blocks K_rivals K_strengths S_pieces S_grown S_fitsInAll S_staleCount S_atLeast1 S_atLeast2 S_atLeast3))) (va_Qi (fun (r : Int32) (u : (Nat → Int32)) => Q r u) (fun (u : (Nat → Int32)) t => va_P D vwCl (w_X7_glue cI cJ cZ cO aG aK aS aT aP aR aO aG_images aK_strengths aK_kinds aK_marks aK_faces aK_bars aK_showing aK_showingRight aK_barring aS_cells aS_fits aS_fitsInLine aS_stale aS_staleCells aS_seen aS_queue G_s K_warm K_count K_seeds K_blocks K_rivals u S_pieces S_grown S_fitsInAll S_staleCount S_atLeast1 S_atLeast2 S_atLeast3) t.heap) (va_A (w_X7_glue cI cJ cZ cO aG aK aS aT aP aR aO aG_images aK_strengths aK_kinds aK_marks aK_faces aK_bars aK_showing aK_showingRight aK_barring aS_cells aS_fits aS_fitsInLine aS_stale aS_staleCells aS_seen aS_queue G_s K_warm K_count K_seeds K_blocks K_rivals K_strengths S_pieces S_grown S_fitsInAll S_staleCount S_atLeast1 S_atLeast2 S_atLeast3) sz)) 0 0 (va_A (w_X7_glue cI cJ cZ cO aG aK aS aT aP aR aO aG_images aK_strengths aK_kinds aK_marks aK_faces aK_bars aK_showing aK_showingRight aK_barring aS_cells aS_fits aS_fitsInLine aS_stale aS_staleCells aS_seen aS_queue G_s K_warm K_count K_seeds K_blocks K_rivals K_strengths S_pieces S_grown S_fitsInAll S_staleCount S_atLeast1 S_atLeast2 S_atLeast3) sz) := by
  refine cx_met (cc := cX7_glue) (maxL := 3) (ret := (some .boolean)) (Qc := fun A => va_Qi (fun (r : Int32) (u : (Nat → Int32)) => Q r u) (fun (u : (Nat → Int32)) t => va_P D vwCl (w_X7_glue cI cJ cZ cO aG aK aS aT aP aR aO aG_images aK_strengths aK_kinds aK_marks aK_faces aK_bars aK_showing aK_showingRight aK_barring aS_cells aS_fits aS_fitsInLine aS_stale aS_staleCells aS_seen aS_queue G_s K_warm K_count K_seeds K_blocks K_rivals u S_pieces S_grown S_fitsInAll S_staleCount S_atLeast1 S_atLeast2 S_atLeast3) t.heap) A) (lv := [(0, .ref aG), (1, .int p1), (2, .int p2)]) (by decide) rfl (Nat.le_of_ble_eq_true rfl) rfl ?_
  intro p e s m args below meth c A Z hx hb hr hlocks hts hown hml hE hK hA hZ
  have hown : s.vm.findClass RX7 = some m.cls := hown
  have k_0 := hts (.fieldLink RX7 21 "GrowingTiles" "sheet" "LGrowingTiles$Sheet;") (List.mem_of_getElem? (i := 1) (by decide +kernel))
  have k_1 := hts (.fieldLink RX7 68 "GrowingTiles$Sheet" "pieces" "I") (List.mem_of_getElem? (i := 2) (by decide +kernel))
  have k_2 := hts (.fieldLink RX7 12 "GrowingTiles" "kit" "LGrowingTiles$Kit;") (List.mem_of_getElem? (i := 3) (by decide +kernel))
  have k_3 := hts (.fieldLink RX7 72 "GrowingTiles$Kit" "strengths" "[I") (List.mem_of_getElem? (i := 4) (by decide +kernel))
  intro H locs hP hD hS ls hl
  unfold wp_X7_glue at hw
  refine lv_iload_n hx hb dX7_glue_0 rfl (lv_at hl 1 rfl) ?_
  refine lv_iconst (v := (1 : Int32)) hx hb dX7_glue_1 kI_1 ?_
  refine lv_icmp_lt (tgt := 30) hx hb dX7_glue_2 (by decide) (fun c2 => ?_) (fun c2 => ?_)
  · have hw := hw.1 c2
    refine lv_iconst (v := (0 : Int32)) hx hb dX7_glue_30 kI_0 ?_
    rw [hZ]
    exact cx_retz K_strengths hx hb hr hlocks rfl hw hP hS dX7_glue_31
  · have hw := hw.2 c2
    refine lv_iload_n hx hb dX7_glue_5 rfl (lv_at hl 1 rfl) ?_
    refine lv_bipush (v := (51 : Int32)) hx hb dX7_glue_6 kB_51 ?_
    refine lv_icmp_ge (tgt := 30) hx hb dX7_glue_8 (by decide) (fun c8 => ?_) (fun c8 => ?_)
    · have hw := hw.1 c8
      refine lv_iconst (v := (0 : Int32)) hx hb dX7_glue_30 kI_0 ?_
      rw [hZ]
      exact cx_retz K_strengths hx hb hr hlocks rfl hw hP hS dX7_glue_31
    · have hw := hw.2 c8
      refine lv_iload_n hx hb dX7_glue_11 rfl (lv_at hl 2 rfl) ?_
      refine lv_if_lt (tgt := 30) hx hb dX7_glue_12 (by decide) (fun c12 => ?_) (fun c12 => ?_)
      · have hw := hw.1 c12
        refine lv_iconst (v := (0 : Int32)) hx hb dX7_glue_30 kI_0 ?_
        rw [hZ]
        exact cx_retz K_strengths hx hb hr hlocks rfl hw hP hS dX7_glue_31
      · have hw := hw.2 c12
        refine lv_iload_n hx hb dX7_glue_15 rfl (lv_at hl 2 rfl) ?_
        refine lv_iconst (v := (3 : Int32)) hx hb dX7_glue_16 kI_3 ?_
        refine lv_icmp_gt (tgt := 30) hx hb dX7_glue_17 (by decide) (fun c17 => ?_) (fun c17 => ?_)
        · have hw := hw.1 c17
          refine lv_iconst (v := (0 : Int32)) hx hb dX7_glue_30 kI_0 ?_
          rw [hZ]
          exact cx_retz K_strengths hx hb hr hlocks rfl hw hP hS dX7_glue_31
        · have hw := hw.2 c17
          refine lv_aload_n hx hb dX7_glue_20 rfl (lv_at hl 0 rfl) ?_
          refine va_get (D := D) (ci := 7) (v := .ref aS) (C := RX7) (T := TX7) (N := 8) hx hb hts in_X7_glue_X7 hown hK hP 0 rfl rfl 1 (by decide) k_0 (fun _ h9 => h9) rfl dX7_glue_21 ?_
          refine va_get (D := D) (ci := 4) (v := .int S_pieces) (C := RX4) (T := TX4) (N := 15) hx hb hts in_X7_glue_X4 hown hK hP 3 rfl rfl 2 (by decide) k_1 (fun _ h9 => h9) rfl dX7_glue_24 ?_
          refine lv_if_eq (tgt := 32) hx hb dX7_glue_27 (by decide) (fun c27 => ?_) (fun c27 => ?_)
          · have hw := hw.1 c27
            refine lv_aload_n hx hb dX7_glue_32 rfl (lv_at hl 0 rfl) ?_
            refine va_get (D := D) (ci := 7) (v := .ref aK) (C := RX7) (T := TX7) (N := 8) hx hb hts in_X7_glue_X7 hown hK hP 0 rfl rfl 0 (by decide) k_2 (fun _ h9 => h9) rfl dX7_glue_33 ?_
            refine va_get (D := D) (ci := 1) (v := .ref aK_strengths) (C := RX1) (T := TX1) (N := 13) hx hb hts in_X7_glue_X1 hown hK hP 1 rfl rfl 2 (by decide) k_3 (fun _ h9 => h9) rfl dX7_glue_36 ?_
            refine lv_iload_n hx hb dX7_glue_39 rfl (lv_at hl 1 rfl) ?_
            refine lv_iload_n hx hb dX7_glue_40 rfl (lv_at hl 2 rfl) ?_
            have h41 := hw.1
            have hw := hw.2
            refine va_iast hx hb hK hP hD hS 2 0 rfl rfl h41 dX7_glue_41 (fun H locs hP hD hS => ?_)
            have hP : va_P D vwCl (w_X7_glue cI cJ cZ cO aG aK aS aT aP aR aO aG_images aK_strengths aK_kinds aK_marks aK_faces aK_bars aK_showing aK_showingRight aK_barring aS_cells aS_fits aS_fitsInLine aS_stale aS_staleCells aS_seen aS_queue G_s K_warm K_count K_seeds K_blocks K_rivals (upd K_strengths p1.toNatClampNeg p2) S_pieces S_grown S_fitsInAll S_staleCount S_atLeast1 S_atLeast2 S_atLeast3) H := hP
            have hD : va_D A (w_X7_glue cI cJ cZ cO aG aK aS aT aP aR aO aG_images aK_strengths aK_kinds aK_marks aK_faces aK_bars aK_showing aK_showingRight aK_barring aS_cells aS_fits aS_fitsInLine aS_stale aS_staleCells aS_seen aS_queue G_s K_warm K_count K_seeds K_blocks K_rivals (upd K_strengths p1.toNatClampNeg p2) S_pieces S_grown S_fitsInAll S_staleCount S_atLeast1 S_atLeast2 S_atLeast3) := hD
            obtain ⟨K_strengths_41, e41⟩ : ∃ y : Nat → Int32, y = upd K_strengths p1.toNatClampNeg p2 := ⟨_, rfl⟩
            rw [← e41] at hP hD
            have hw := hw K_strengths_41 e41
            refine lv_iconst (v := (1 : Int32)) hx hb dX7_glue_42 kI_1 ?_
            rw [hZ]
            exact cx_retz K_strengths_41 hx hb hr hlocks rfl hw hP hS dX7_glue_43
          · have hw := hw.2 c27
            refine lv_iconst (v := (0 : Int32)) hx hb dX7_glue_30 kI_0 ?_
            rw [hZ]
            exact cx_retz K_strengths hx hb hr hlocks rfl hw hP hS dX7_glue_31
