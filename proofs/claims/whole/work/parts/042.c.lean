set_option maxRecDepth 100000 in
set_option maxHeartbeats 4000000 in
theorem c_X4_startSums (l : Launch) (D : va_G) (cI cJ cZ cO : ClassId) (tS tT : Nat) (sz : Nat) (aS aK aS_cells aS_fits aS_fitsInLine aS_stale aS_staleCells aS_seen aS_queue : Nat) (S_pieces : Int32) (S_grown : Int32) (S_fitsInAll : Int32) (S_staleCount : Int32) (S_atLeast1 : Int64) (S_atLeast2 : Int64) (S_atLeast3 : Int64) (Q : (Int64) → (Int64) → (Int64) → Prop) (hw : wp_X4_startSums S_atLeast1 S_atLeast2 S_atLeast3 Q) : Met l yX4_startSums wsX4_startSums rm_X4_startSums (va_Pc [.ref aS] (cx_B tS tT cI cJ cZ cO D sz (w_X4_startSums cI cJ cZ cO aS aK aS_cells aS_fits aS_fitsInLine aS_stale aS_staleCells aS_seen aS_queue S_pieces S_grown S_fitsInAll S_staleCount S_atLeast1 S_atLeast2 S_atLeast3))) (va_Qv (fun (u : (Int64) × (Int64) × (Int64)) => Q u.1 u.2.1 u.2.2) (fun (u : (Int64) × (Int64) × (Int64)) t => va_P D vwCl (w_X4_startSums cI cJ cZ cO aS aK aS_cells aS_fits aS_fitsInLine aS_stale aS_staleCells aS_seen aS_queue S_pieces S_grown S_fitsInAll S_staleCount u.1 u.2.1 u.2.2) t.heap) (va_A (w_X4_startSums cI cJ cZ cO aS aK aS_cells aS_fits aS_fitsInLine aS_stale aS_staleCells aS_seen aS_queue S_pieces S_grown S_fitsInAll S_staleCount S_atLeast1 S_atLeast2 S_atLeast3) sz)) 0 0 (va_A (w_X4_startSums cI cJ cZ cO aS aK aS_cells aS_fits aS_fitsInLine aS_stale aS_staleCells aS_seen aS_queue S_pieces S_grown S_fitsInAll S_staleCount S_atLeast1 S_atLeast2 S_atLeast3) sz) := by
  refine cx_met (cc := cX4_startSums) (maxL := 1) (ret := none) (Qc := fun A => va_Qv (fun (u : (Int64) × (Int64) × (Int64)) => Q u.1 u.2.1 u.2.2) (fun (u : (Int64) × (Int64) × (Int64)) t => va_P D vwCl (w_X4_startSums cI cJ cZ cO aS aK aS_cells aS_fits aS_fitsInLine aS_stale aS_staleCells aS_seen aS_queue S_pieces S_grown S_fitsInAll S_staleCount u.1 u.2.1 u.2.2) t.heap) A) (lv := [(0, .ref aS)]) (by decide) rfl (Nat.le_of_ble_eq_true rfl) rfl ?_
  intro p e s m args below meth c A Z hx hb hr hlocks hts hown hml hE hK hA hZ
  have hown : s.vm.findClass RX4 = some m.cls := hown
  have k_0 := hts (.fieldLink RX4 158 "GrowingTiles$Sheet" "atLeast1" "J") (List.mem_of_getElem? (i := 1) (by decide +kernel))
  have k_1 := hts (.fieldLink RX4 161 "GrowingTiles$Sheet" "atLeast2" "J") (List.mem_of_getElem? (i := 2) (by decide +kernel))
  have k_2 := hts (.fieldLink RX4 164 "GrowingTiles$Sheet" "atLeast3" "J") (List.mem_of_getElem? (i := 3) (by decide +kernel))
  intro H locs hP hD hS ls hl
  unfold wp_X4_startSums at hw
  refine lv_aload_n hx hb dX4_startSums_0 rfl (lv_at hl 0 rfl) ?_
  refine lv_lconst (v := (0 : Int64)) hx hb dX4_startSums_1 kL_0 ?_
  refine va_put (D := D) (ci := 4) (v := .long (0 : Int64)) (ty := .long) (C := RX4) (T := TX4) (N := 15) hx hb hts in_X4_startSums_X4 tyX4 tyX4_ok nmX4 hown hK hP hD hS 0 rfl rfl 10 (by decide) k_0 (fun _ h9 => h9) rfl (tyX4_ok 10 (by decide)) rfl rfl (Nat.le_of_ble_eq_true rfl) dX4_startSums_2 (fun H locs hP hD hS => ?_)
  have hP : va_P D vwCl (w_X4_startSums cI cJ cZ cO aS aK aS_cells aS_fits aS_fitsInLine aS_stale aS_staleCells aS_seen aS_queue S_pieces S_grown S_fitsInAll S_staleCount (0 : Int64) S_atLeast2 S_atLeast3) H := hP
  have hD : va_D A (w_X4_startSums cI cJ cZ cO aS aK aS_cells aS_fits aS_fitsInLine aS_stale aS_staleCells aS_seen aS_queue S_pieces S_grown S_fitsInAll S_staleCount (0 : Int64) S_atLeast2 S_atLeast3) := hD
  refine lv_aload_n hx hb dX4_startSums_5 rfl (lv_at hl 0 rfl) ?_
  refine lv_lconst (v := (0 : Int64)) hx hb dX4_startSums_6 kL_0 ?_
  refine va_put (D := D) (ci := 4) (v := .long (0 : Int64)) (ty := .long) (C := RX4) (T := TX4) (N := 15) hx hb hts in_X4_startSums_X4 tyX4 tyX4_ok nmX4 hown hK hP hD hS 0 rfl rfl 11 (by decide) k_1 (fun _ h9 => h9) rfl (tyX4_ok 11 (by decide)) rfl rfl (Nat.le_of_ble_eq_true rfl) dX4_startSums_7 (fun H locs hP hD hS => ?_)
  have hP : va_P D vwCl (w_X4_startSums cI cJ cZ cO aS aK aS_cells aS_fits aS_fitsInLine aS_stale aS_staleCells aS_seen aS_queue S_pieces S_grown S_fitsInAll S_staleCount (0 : Int64) (0 : Int64) S_atLeast3) H := hP
  have hD : va_D A (w_X4_startSums cI cJ cZ cO aS aK aS_cells aS_fits aS_fitsInLine aS_stale aS_staleCells aS_seen aS_queue S_pieces S_grown S_fitsInAll S_staleCount (0 : Int64) (0 : Int64) S_atLeast3) := hD
  refine lv_aload_n hx hb dX4_startSums_10 rfl (lv_at hl 0 rfl) ?_
  refine lv_lconst (v := (0 : Int64)) hx hb dX4_startSums_11 kL_0 ?_
  refine va_put (D := D) (ci := 4) (v := .long (0 : Int64)) (ty := .long) (C := RX4) (T := TX4) (N := 15) hx hb hts in_X4_startSums_X4 tyX4 tyX4_ok nmX4 hown hK hP hD hS 0 rfl rfl 12 (by decide) k_2 (fun _ h9 => h9) rfl (tyX4_ok 12 (by decide)) rfl rfl (Nat.le_of_ble_eq_true rfl) dX4_startSums_12 (fun H locs hP hD hS => ?_)
  have hP : va_P D vwCl (w_X4_startSums cI cJ cZ cO aS aK aS_cells aS_fits aS_fitsInLine aS_stale aS_staleCells aS_seen aS_queue S_pieces S_grown S_fitsInAll S_staleCount (0 : Int64) (0 : Int64) (0 : Int64)) H := hP
  have hD : va_D A (w_X4_startSums cI cJ cZ cO aS aK aS_cells aS_fits aS_fitsInLine aS_stale aS_staleCells aS_seen aS_queue S_pieces S_grown S_fitsInAll S_staleCount (0 : Int64) (0 : Int64) (0 : Int64)) := hD
  rw [hZ]
  exact cx_retv ((0 : Int64), (0 : Int64), (0 : Int64)) hx hb hr hlocks hw hP hS dX4_startSums_15
set_option maxRecDepth 100000 in
set_option maxHeartbeats 4000000 in
theorem c_X4_sumUp (l : Launch) (D : va_G) (cI cJ cZ cO : ClassId) (tS tT : Nat) (sz : Nat) (aA aK aK_strengths aK_kinds aK_marks aK_faces aK_bars aK_showing aK_showingRight aK_barring aS aS_cells aS_fits aS_fitsInLine aS_stale aS_staleCells aS_seen aS_queue : Nat) (nA : Nat) (arr : Nat → Int64) (K_warm : Int32) (K_count : Int32) (K_seeds : Int64) (K_blocks : Int64) (K_rivals : Int64) (K_strengths : Nat → Int32) (K_faces : Nat → Int32) (S_pieces : Int32) (S_grown : Int32) (S_fitsInAll : Int32) (S_staleCount : Int32) (S_atLeast1 : Int64) (S_atLeast2 : Int64) (S_atLeast3 : Int64) (S_cells : Nat → Int32) (p2 : Int32) (p3 : Int32) (Q : (Int64) → (Int64) → (Int64) → Prop) (hw : wp_X4_sumUp nA arr K_strengths K_faces S_cells S_atLeast1 S_atLeast2 S_atLeast3 p2 p3 Q) : Met l yX4_sumUp wsX4_sumUp rm_X4_sumUp (va_Pc [.ref aS, .ref aA, .int p2, .int p3] (cx_B tS tT cI cJ cZ cO D sz (w_X4_sumUp cI cJ cZ cO aA aK aK_strengths aK_kinds aK_marks aK_faces aK_bars aK_showing aK_showingRight aK_barring aS aS_cells aS_fits aS_fitsInLine aS_stale aS_staleCells aS_seen aS_queue nA arr K_warm K_count K_seeds K_blocks K_rivals K_strengths K_faces S_pieces S_grown S_fitsInAll S_staleCount S_atLeast1 S_atLeast2 S_atLeast3 S_cells))) (va_Qv (fun (u : (Int64) × (Int64) × (Int64)) => Q u.1 u.2.1 u.2.2) (fun (u : (Int64) × (Int64) × (Int64)) t => va_P D vwCl (w_X4_sumUp cI cJ cZ cO aA aK aK_strengths aK_kinds aK_marks aK_faces aK_bars aK_showing aK_showingRight aK_barring aS aS_cells aS_fits aS_fitsInLine aS_stale aS_staleCells aS_seen aS_queue nA arr K_warm K_count K_seeds K_blocks K_rivals K_strengths K_faces S_pieces S_grown S_fitsInAll S_staleCount u.1 u.2.1 u.2.2 S_cells) t.heap) (va_A (w_X4_sumUp cI cJ cZ cO aA aK aK_strengths aK_kinds aK_marks aK_faces aK_bars aK_showing aK_showingRight aK_barring aS aS_cells aS_fits aS_fitsInLine aS_stale aS_staleCells aS_seen aS_queue nA arr K_warm K_count K_seeds K_blocks K_rivals K_strengths K_faces S_pieces S_grown S_fitsInAll S_staleCount S_atLeast1 S_atLeast2 S_atLeast3 S_cells) sz)) 0 0 (va_A (w_X4_sumUp cI cJ cZ cO aA aK aK_strengths aK_kinds aK_marks aK_faces aK_bars aK_showing aK_showingRight aK_barring aS aS_cells aS_fits aS_fitsInLine aS_stale aS_staleCells aS_seen aS_queue nA arr K_warm K_count K_seeds K_blocks K_rivals K_strengths K_faces S_pieces S_grown S_fitsInAll S_staleCount S_atLeast1 S_atLeast2 S_atLeast3 S_cells) sz) := by
  refine cx_met (cc := cX4_sumUp) (maxL := 10) (ret := none) (Qc := fun A => va_Qv (fun (u : (Int64) × (Int64) × (Int64)) => Q u.1 u.2.1 u.2.2) (fun (u : (Int64) × (Int64) × (Int64)) t => va_P D vwCl (w_X4_sumUp cI cJ cZ cO aA aK aK_strengths aK_kinds aK_marks aK_faces aK_bars aK_showing aK_showingRight aK_barring aS aS_cells aS_fits aS_fitsInLine aS_stale aS_staleCells aS_seen aS_queue nA arr K_warm K_count K_seeds K_blocks K_rivals K_strengths K_faces S_pieces S_grown S_fitsInAll S_staleCount u.1 u.2.1 u.2.2 S_cells) t.heap) A) (lv := [(0, .ref aS), (1, .ref aA), (2, .int p2), (3, .int p3)]) (by decide) rfl (Nat.le_of_ble_eq_true rfl) rfl ?_
  intro p e s m args below meth c A Z hx hb hr hlocks hts hown hml hE hK hA hZ
  have hown : s.vm.findClass RX4 = some m.cls := hown
  have k_0 := hts (.fieldLink RX4 9 "GrowingTiles$Sheet" "kit" "LGrowingTiles$Kit;") (List.mem_of_getElem? (i := 2) (by decide +kernel))
  have k_1 := hts (.fieldLink RX4 176 "GrowingTiles$Kit" "strengths" "[I") (List.mem_of_getElem? (i := 4) (by decide +kernel))
  have k_2 := hts (.fieldLink RX4 164 "GrowingTiles$Sheet" "atLeast3" "J") (List.mem_of_getElem? (i := 5) (by decide +kernel))
  have k_3 := hts (.fieldLink RX4 161 "GrowingTiles$Sheet" "atLeast2" "J") (List.mem_of_getElem? (i := 6) (by decide +kernel))
  have k_4 := hts (.fieldLink RX4 158 "GrowingTiles$Sheet" "atLeast1" "J") (List.mem_of_getElem? (i := 7) (by decide +kernel))
  have k_5 := hts (.fieldLink RX4 15 "GrowingTiles$Sheet" "cells" "[I") (List.mem_of_getElem? (i := 1) (by decide +kernel))
  have k_6 := hts (.initialized RX7) (List.mem_of_getElem? (i := 9) (by decide +kernel))
  have k_7 := hts (.static yX7_bitOf) (List.mem_of_getElem? (i := 8) (by decide +kernel))
  have k_8 := hts (.fieldLink RX4 173 "GrowingTiles$Kit" "faces" "[I") (List.mem_of_getElem? (i := 3) (by decide +kernel))
  have b_3 : ∀ n_3 : Nat, ∀ (S_atLeast1 : Int64) (S_atLeast2 : Int64) (S_atLeast3 : Int64) (x2 : Int32) (x3 : Int32) (x4 : Int32), wq_X4_sumUp_3 nA arr K_strengths K_faces S_cells Q n_3 S_atLeast1 S_atLeast2 S_atLeast3 x2 x3 x4 → ∀ (H : Heap) (locs : List Loc), va_P D vwCl (w_X4_sumUp cI cJ cZ cO aA aK aK_strengths aK_kinds aK_marks aK_faces aK_bars aK_showing aK_showingRight aK_barring aS aS_cells aS_fits aS_fitsInLine aS_stale aS_staleCells aS_seen aS_queue nA arr K_warm K_count K_seeds K_blocks K_rivals K_strengths K_faces S_pieces S_grown S_fitsInAll S_staleCount S_atLeast1 S_atLeast2 S_atLeast3 S_cells) H → va_D A (w_X4_sumUp cI cJ cZ cO aA aK aK_strengths aK_kinds aK_marks aK_faces aK_bars aK_showing aK_showingRight aK_barring aS aS_cells aS_fits aS_fitsInLine aS_stale aS_staleCells aS_seen aS_queue nA arr K_warm K_count K_seeds K_blocks K_rivals K_strengths K_faces S_pieces S_grown S_fitsInAll S_staleCount S_atLeast1 S_atLeast2 S_atLeast3 S_cells) → va_S A s.heap H locs → ∀ ls : Array Slot, lv_has ls 10 [(0, .ref aS), (1, .ref aA), (2, .int x2), (3, .int x3), (4, .int x4)] → W p l e rm_X4_sumUp s m args below meth c H locs 0 0 Z (F0 m 3 ls []) := by
    intro n_3
    induction n_3 with
    | zero => intro S_atLeast1 S_atLeast2 S_atLeast3 x2 x3 x4 hw; exact False.elim hw
    | succ n_3 ih_3 =>
      have b_76 : ∀ n_76 : Nat, ∀ (S_atLeast1 : Int64) (S_atLeast2 : Int64) (S_atLeast3 : Int64) (x2 : Int32) (x3 : Int32) (x4 : Int32) (x6 : Int32) (x7 : Int64) (x9 : Int32), wq_X4_sumUp_76 nA arr K_strengths K_faces S_cells (wq_X4_sumUp_3 nA arr K_strengths K_faces S_cells Q n_3) Q n_76 S_atLeast1 S_atLeast2 S_atLeast3 x2 x3 x4 x6 x7 x9 → ∀ (H : Heap) (locs : List Loc), va_P D vwCl (w_X4_sumUp cI cJ cZ cO aA aK aK_strengths aK_kinds aK_marks aK_faces aK_bars aK_showing aK_showingRight aK_barring aS aS_cells aS_fits aS_fitsInLine aS_stale aS_staleCells aS_seen aS_queue nA arr K_warm K_count K_seeds K_blocks K_rivals K_strengths K_faces S_pieces S_grown S_fitsInAll S_staleCount S_atLeast1 S_atLeast2 S_atLeast3 S_cells) H → va_D A (w_X4_sumUp cI cJ cZ cO aA aK aK_strengths aK_kinds aK_marks aK_faces aK_bars aK_showing aK_showingRight aK_barring aS aS_cells aS_fits aS_fitsInLine aS_stale aS_staleCells aS_seen aS_queue nA arr K_warm K_count K_seeds K_blocks K_rivals K_strengths K_faces S_pieces S_grown S_fitsInAll S_staleCount S_atLeast1 S_atLeast2 S_atLeast3 S_cells) → va_S A s.heap H locs → ∀ ls : Array Slot, lv_has ls 10 [(0, .ref aS), (1, .ref aA), (2, .int x2), (3, .int x3), (4, .int x4), (6, .int x6), (7, .long x7), (9, .int x9)] → W p l e rm_X4_sumUp s m args below meth c H locs 0 0 Z (F0 m 76 ls []) := by
        intro n_76
        induction n_76 with
        | zero => intro S_atLeast1 S_atLeast2 S_atLeast3 x2 x3 x4 x6 x7 x9 hw; exact False.elim hw
        | succ n_76 ih_76 =>
          intro S_atLeast1 S_atLeast2 S_atLeast3 x2 x3 x4 x6 x7 x9 hw H locs hP hD hS ls hl
          have hw : wf_X4_sumUp_76 nA arr K_strengths K_faces S_cells (wq_X4_sumUp_3 nA arr K_strengths K_faces S_cells Q n_3) Q (wq_X4_sumUp_76 nA arr K_strengths K_faces S_cells (wq_X4_sumUp_3 nA arr K_strengths K_faces S_cells Q n_3) Q n_76) S_atLeast1 S_atLeast2 S_atLeast3 x2 x3 x4 x6 x7 x9 := hw
          unfold wf_X4_sumUp_76 at hw
          refine lv_iload hx hb dX4_sumUp_76 (lv_at hl 7 rfl) ?_
          refine lv_aload_n hx hb dX4_sumUp_78 rfl (lv_at hl 0 rfl) ?_
          refine va_get (D := D) (ci := 4) (v := .ref aK) (C := RX4) (T := TX4) (N := 15) hx hb hts in_X4_sumUp_X4 hown hK hP 4 rfl rfl 0 (by decide) k_0 (fun _ h9 => h9) rfl dX4_sumUp_79 ?_
          refine va_get (D := D) (ci := 1) (v := .ref aK_strengths) (C := RX1) (T := TX1) (N := 13) hx hb hts in_X4_sumUp_X1 hown hK hP 1 rfl rfl 2 (by decide) k_1 (fun _ h9 => h9) rfl dX4_sumUp_82 ?_
          refine lv_iload hx hb dX4_sumUp_85 (lv_at hl 5 rfl) ?_
          have h87 := hw.1
          have hw := hw.2
          refine va_iald hx hb hK hP 2 0 rfl rfl h87 dX4_sumUp_87 ?_
          refine lv_topi (fun v87 e87 => ?_)
          have hw := hw v87 e87
          refine lv_icmp_ge (tgt := 140) hx hb dX4_sumUp_88 (by decide) (fun c88 => ?_) (fun c88 => ?_)
          · have hw := hw.1 c88
            obtain ⟨v140, e140⟩ : ∃ y : Int32, y = x4 + (1 : Int32) := ⟨_, rfl⟩
            have hw := hw v140 e140
            refine lv_iinc (v := v140) (lv' := [(4, .int v140), (0, .ref aS), (1, .ref aA), (2, .int x2), (3, .int x3), (6, .int x6), (7, .long x7), (9, .int x9)]) hx hb dX4_sumUp_140 hl (k := 4) rfl (by rw [e140, kI_1]) (by decide) rfl (fun ls hl => ?_)
            refine lv_goto (tgt := 3) hx hb dX4_sumUp_143 (by decide) ?_
            exact ih_3 S_atLeast1 S_atLeast2 S_atLeast3 x2 x3 v140 hw H locs hP hD hS ls (lv_sub hl [1, 2, 3, 4, 0] rfl)
          · have hw := hw.2 c88
            refine lv_aload_n hx hb dX4_sumUp_91 rfl (lv_at hl 0 rfl) ?_
            refine lv_dup hx hb dX4_sumUp_92 rfl ?_
            refine va_get (D := D) (ci := 4) (v := .long S_atLeast3) (C := RX4) (T := TX4) (N := 15) hx hb hts in_X4_sumUp_X4 hown hK hP 4 rfl rfl 12 (by decide) k_2 (fun _ h9 => h9) rfl dX4_sumUp_93 ?_
            refine lv_aload_n hx hb dX4_sumUp_96 rfl (lv_at hl 0 rfl) ?_
            refine va_get (D := D) (ci := 4) (v := .long S_atLeast2) (C := RX4) (T := TX4) (N := 15) hx hb hts in_X4_sumUp_X4 hown hK hP 4 rfl rfl 11 (by decide) k_3 (fun _ h9 => h9) rfl dX4_sumUp_97 ?_
            refine lv_lload hx hb dX4_sumUp_100 (lv_at hl 6 rfl) ?_
            refine lv_land hx hb dX4_sumUp_102 ?_
            refine lv_lor hx hb dX4_sumUp_103 ?_
            refine lv_topl (fun S_atLeast3_104 e104 => ?_)
            have hw := hw S_atLeast3_104 e104
            refine va_put (D := D) (ci := 4) (v := .long S_atLeast3_104) (ty := .long) (C := RX4) (T := TX4) (N := 15) hx hb hts in_X4_sumUp_X4 tyX4 tyX4_ok nmX4 hown hK hP hD hS 4 rfl rfl 12 (by decide) k_2 (fun _ h9 => h9) rfl (tyX4_ok 12 (by decide)) rfl rfl (Nat.le_of_ble_eq_true rfl) dX4_sumUp_104 (fun H locs hP hD hS => ?_)
            have hP : va_P D vwCl (w_X4_sumUp cI cJ cZ cO aA aK aK_strengths aK_kinds aK_marks aK_faces aK_bars aK_showing aK_showingRight aK_barring aS aS_cells aS_fits aS_fitsInLine aS_stale aS_staleCells aS_seen aS_queue nA arr K_warm K_count K_seeds K_blocks K_rivals K_strengths K_faces S_pieces S_grown S_fitsInAll S_staleCount S_atLeast1 S_atLeast2 S_atLeast3_104 S_cells) H := hP
            have hD : va_D A (w_X4_sumUp cI cJ cZ cO aA aK aK_strengths aK_kinds aK_marks aK_faces aK_bars aK_showing aK_showingRight aK_barring aS aS_cells aS_fits aS_fitsInLine aS_stale aS_staleCells aS_seen aS_queue nA arr K_warm K_count K_seeds K_blocks K_rivals K_strengths K_faces S_pieces S_grown S_fitsInAll S_staleCount S_atLeast1 S_atLeast2 S_atLeast3_104 S_cells) := hD
            refine lv_aload_n hx hb dX4_sumUp_107 rfl (lv_at hl 0 rfl) ?_
            refine lv_dup hx hb dX4_sumUp_108 rfl ?_
            refine va_get (D := D) (ci := 4) (v := .long S_atLeast2) (C := RX4) (T := TX4) (N := 15) hx hb hts in_X4_sumUp_X4 hown hK hP 4 rfl rfl 11 (by decide) k_3 (fun _ h9 => h9) rfl dX4_sumUp_109 ?_
            refine lv_aload_n hx hb dX4_sumUp_112 rfl (lv_at hl 0 rfl) ?_
            refine va_get (D := D) (ci := 4) (v := .long S_atLeast1) (C := RX4) (T := TX4) (N := 15) hx hb hts in_X4_sumUp_X4 hown hK hP 4 rfl rfl 10 (by decide) k_4 (fun _ h9 => h9) rfl dX4_sumUp_113 ?_
            refine lv_lload hx hb dX4_sumUp_116 (lv_at hl 6 rfl) ?_
            refine lv_land hx hb dX4_sumUp_118 ?_
            refine lv_lor hx hb dX4_sumUp_119 ?_
            refine lv_topl (fun S_atLeast2_120 e120 => ?_)
            have hw := hw S_atLeast2_120 e120
            refine va_put (D := D) (ci := 4) (v := .long S_atLeast2_120) (ty := .long) (C := RX4) (T := TX4) (N := 15) hx hb hts in_X4_sumUp_X4 tyX4 tyX4_ok nmX4 hown hK hP hD hS 4 rfl rfl 11 (by decide) k_3 (fun _ h9 => h9) rfl (tyX4_ok 11 (by decide)) rfl rfl (Nat.le_of_ble_eq_true rfl) dX4_sumUp_120 (fun H locs hP hD hS => ?_)
            have hP : va_P D vwCl (w_X4_sumUp cI cJ cZ cO aA aK aK_strengths aK_kinds aK_marks aK_faces aK_bars aK_showing aK_showingRight aK_barring aS aS_cells aS_fits aS_fitsInLine aS_stale aS_staleCells aS_seen aS_queue nA arr K_warm K_count K_seeds K_blocks K_rivals K_strengths K_faces S_pieces S_grown S_fitsInAll S_staleCount S_atLeast1 S_atLeast2_120 S_atLeast3_104 S_cells) H := hP
            have hD : va_D A (w_X4_sumUp cI cJ cZ cO aA aK aK_strengths aK_kinds aK_marks aK_faces aK_bars aK_showing aK_showingRight aK_barring aS aS_cells aS_fits aS_fitsInLine aS_stale aS_staleCells aS_seen aS_queue nA arr K_warm K_count K_seeds K_blocks K_rivals K_strengths K_faces S_pieces S_grown S_fitsInAll S_staleCount S_atLeast1 S_atLeast2_120 S_atLeast3_104 S_cells) := hD
            refine lv_aload_n hx hb dX4_sumUp_123 rfl (lv_at hl 0 rfl) ?_
            refine lv_dup hx hb dX4_sumUp_124 rfl ?_
            refine va_get (D := D) (ci := 4) (v := .long S_atLeast1) (C := RX4) (T := TX4) (N := 15) hx hb hts in_X4_sumUp_X4 hown hK hP 4 rfl rfl 10 (by decide) k_4 (fun _ h9 => h9) rfl dX4_sumUp_125 ?_
            refine lv_lload hx hb dX4_sumUp_128 (lv_at hl 6 rfl) ?_
            refine lv_lor hx hb dX4_sumUp_130 ?_
            refine lv_topl (fun S_atLeast1_131 e131 => ?_)
            have hw := hw S_atLeast1_131 e131
            refine va_put (D := D) (ci := 4) (v := .long S_atLeast1_131) (ty := .long) (C := RX4) (T := TX4) (N := 15) hx hb hts in_X4_sumUp_X4 tyX4 tyX4_ok nmX4 hown hK hP hD hS 4 rfl rfl 10 (by decide) k_4 (fun _ h9 => h9) rfl (tyX4_ok 10 (by decide)) rfl rfl (Nat.le_of_ble_eq_true rfl) dX4_sumUp_131 (fun H locs hP hD hS => ?_)
            have hP : va_P D vwCl (w_X4_sumUp cI cJ cZ cO aA aK aK_strengths aK_kinds aK_marks aK_faces aK_bars aK_showing aK_showingRight aK_barring aS aS_cells aS_fits aS_fitsInLine aS_stale aS_staleCells aS_seen aS_queue nA arr K_warm K_count K_seeds K_blocks K_rivals K_strengths K_faces S_pieces S_grown S_fitsInAll S_staleCount S_atLeast1_131 S_atLeast2_120 S_atLeast3_104 S_cells) H := hP
            have hD : va_D A (w_X4_sumUp cI cJ cZ cO aA aK aK_strengths aK_kinds aK_marks aK_faces aK_bars aK_showing aK_showingRight aK_barring aS aS_cells aS_fits aS_fitsInLine aS_stale aS_staleCells aS_seen aS_queue nA arr K_warm K_count K_seeds K_blocks K_rivals K_strengths K_faces S_pieces S_grown S_fitsInAll S_staleCount S_atLeast1_131 S_atLeast2_120 S_atLeast3_104 S_cells) := hD
            obtain ⟨v134, e134⟩ : ∃ y : Int32, y = x9 + (1 : Int32) := ⟨_, rfl⟩
            have hw := hw v134 e134
            refine lv_iinc (v := v134) (lv' := [(9, .int v134), (0, .ref aS), (1, .ref aA), (2, .int x2), (3, .int x3), (4, .int x4), (6, .int x6), (7, .long x7)]) hx hb dX4_sumUp_134 hl (k := 7) rfl (by rw [e134, kI_1]) (by decide) rfl (fun ls hl => ?_)
            refine lv_goto (tgt := 76) hx hb dX4_sumUp_137 (by decide) ?_
            exact ih_76 S_atLeast1_131 S_atLeast2_120 S_atLeast3_104 x2 x3 x4 x6 x7 v134 hw H locs hP hD hS ls (lv_sub hl [1, 2, 3, 4, 5, 6, 7, 0] rfl)
      intro S_atLeast1 S_atLeast2 S_atLeast3 x2 x3 x4 hw H locs hP hD hS ls hl
      have hw : wf_X4_sumUp_3 nA arr K_strengths K_faces S_cells Q (wq_X4_sumUp_3 nA arr K_strengths K_faces S_cells Q n_3) S_atLeast1 S_atLeast2 S_atLeast3 x2 x3 x4 := hw
      unfold wf_X4_sumUp_3 at hw
      refine lv_iload hx hb dX4_sumUp_3 (lv_at hl 4 rfl) ?_
      refine lv_iconst (v := (4 : Int32)) hx hb dX4_sumUp_5 kI_4 ?_
      refine lv_icmp_ge (tgt := 146) hx hb dX4_sumUp_6 (by decide) (fun c6 => ?_) (fun c6 => ?_)
      · have hw := hw.1 c6
        rw [hZ]
        exact cx_retv (S_atLeast1, S_atLeast2, S_atLeast3) hx hb hr hlocks hw hP hS dX4_sumUp_146
      · have hw := hw.2 c6
        refine lv_aload_n hx hb dX4_sumUp_9 rfl (lv_at hl 0 rfl) ?_
        refine va_get (D := D) (ci := 4) (v := .ref aS_cells) (C := RX4) (T := TX4) (N := 15) hx hb hts in_X4_sumUp_X4 hown hK hP 4 rfl rfl 1 (by decide) k_5 (fun _ h9 => h9) rfl dX4_sumUp_10 ?_
        refine lv_iload_n hx hb dX4_sumUp_13 rfl (lv_at hl 2 rfl) ?_
        refine va_getsN hx hb hE.2.1 hS hown (va_Nw.use rfl (hE.1.2.2.2.2.1)) (fun _ h9 => h9) dX4_sumUp_14 ?_
        refine lv_iload hx hb dX4_sumUp_17 (lv_at hl 4 rfl) ?_
        have h19 := hw.1
        have hw := hw.2
        refine va_ti hx hb hE.2.2.1 hS h19 rfl dX4_sumUp_19 ?_
        refine lv_topi (fun v19 e19 => ?_)
        have hw := hw v19 e19
        refine lv_iadd hx hb dX4_sumUp_20 ?_
        have h21 := hw.1
        have hw := hw.2
        refine va_iald hx hb hK hP 5 0 rfl rfl h21 dX4_sumUp_21 ?_
        refine lv_topi (fun v21 e21 => ?_)
        have hw := hw v21 e21
        refine lv_istore (lv' := [(5, .int v21), (0, .ref aS), (1, .ref aA), (2, .int x2), (3, .int x3), (4, .int x4)]) hx hb dX4_sumUp_22 hl (by decide) rfl (fun ls hl => ?_)
        refine lv_iload hx hb dX4_sumUp_24 (lv_at hl 0 rfl) ?_
        refine lv_if_eq (tgt := 140) hx hb dX4_sumUp_26 (by decide) (fun c26 => ?_) (fun c26 => ?_)
        · have hw := hw.1 c26
          obtain ⟨v140, e140⟩ : ∃ y : Int32, y = x4 + (1 : Int32) := ⟨_, rfl⟩
          have hw := hw v140 e140
          refine lv_iinc (v := v140) (lv' := [(4, .int v140), (5, .int v21), (0, .ref aS), (1, .ref aA), (2, .int x2), (3, .int x3)]) hx hb dX4_sumUp_140 hl (k := 5) rfl (by rw [e140, kI_1]) (by decide) rfl (fun ls hl => ?_)
          refine lv_goto (tgt := 3) hx hb dX4_sumUp_143 (by decide) ?_
          exact ih_3 S_atLeast1 S_atLeast2 S_atLeast3 x2 x3 v140 hw H locs hP hD hS ls (lv_sub hl [2, 3, 4, 5, 0] rfl)
        · have hw := hw.2 c26
          refine lv_iload_n hx hb dX4_sumUp_29 rfl (lv_at hl 4 rfl) ?_
          refine lv_iload hx hb dX4_sumUp_30 (lv_at hl 5 rfl) ?_
          refine cx_goi (va_runSN (As := [.int x3, .int x4]) (rest := []) ⟨hx, hb, hml, hown, hts⟩ (c_X7_bitOf l D cI cJ cZ cO tS tT H.size x3 x4 _ hw) ⟨va_cnB 2 hts gX4_sumUp_X7_bitOf_n170 rfl rfl rfl (hE.1.2.2.2.2.2.1) k_6 ps_X7_bitOf ⟨Nat.le_of_ble_eq_true rfl, Nat.le_of_ble_eq_true rfl⟩, k_7, trivial⟩ (cx_preS (wc := w_X7_bitOf) hE hK hP hD hS hA [] rfl rfl) rfl rfl hl.1 rfl (lv_room (Nat.le_of_ble_eq_true rfl)) dX4_sumUp_32 ⟨Nat.le_of_ble_eq_true rfl, Nat.le_of_ble_eq_true rfl⟩) (fun (_ : Unit) => (w_X4_sumUp cI cJ cZ cO aA aK aK_strengths aK_kinds aK_marks aK_faces aK_bars aK_showing aK_showingRight aK_barring aS aS_cells aS_fits aS_fitsInLine aS_stale aS_staleCells aS_seen aS_queue nA arr K_warm K_count K_seeds K_blocks K_rivals K_strengths K_faces S_pieces S_grown S_fitsInAll S_staleCount S_atLeast1 S_atLeast2 S_atLeast3 S_cells)) [] [0, 1, 2, 3, 4, 5] (ads := []) (wr := [(aA, .inl (cJ, nA, .inr (.inl arr))), (aK, .inr (1, [.int K_warm, .int K_count, .ref aK_strengths, .ref aK_kinds, .ref aK_marks, .ref aK_faces, .ref aK_bars, .ref aK_showing, .ref aK_showingRight, .ref aK_barring, .long K_seeds, .long K_blocks, .long K_rivals])), (aK_strengths, .inl (cI, 51, .inl K_strengths)), (aK_faces, .inl (cI, 512, .inl K_faces)), (aS, .inr (4, [.ref aK, .ref aS_cells, .int S_pieces, .int S_grown, .ref aS_fits, .ref aS_fitsInLine, .int S_fitsInAll, .ref aS_stale, .ref aS_staleCells, .int S_staleCount, .long S_atLeast1, .long S_atLeast2, .long S_atLeast3, .ref aS_seen, .ref aS_queue])), (aS_cells, .inl (cI, 324, .inl S_cells))]) rfl rfl (fun u => rfl) (fun u => rfl) rfl (fun u => rfl) rfl (fun u => rfl) rfl hP hD hS hA (fun r32 u H locs hw hP hD hS => ?_)
          refine lv_iconst (v := (1 : Int32)) hx hb dX4_sumUp_35 kI_1 ?_
          refine lv_icmp_ne (tgt := 42) hx hb dX4_sumUp_36 (by decide) (fun c36 => ?_) (fun c36 => ?_)
          · have hw := hw.1 c36
            refine lv_aload_n hx hb dX4_sumUp_42 rfl (lv_at hl 1 rfl) ?_
            refine va_get (D := D) (ci := 4) (v := .ref aK) (C := RX4) (T := TX4) (N := 15) hx hb hts in_X4_sumUp_X4 hown hK hP 4 rfl rfl 0 (by decide) k_0 (fun _ h9 => h9) rfl dX4_sumUp_43 ?_
            refine va_get (D := D) (ci := 1) (v := .ref aK_faces) (C := RX1) (T := TX1) (N := 13) hx hb hts in_X4_sumUp_X1 hown hK hP 1 rfl rfl 5 (by decide) k_8 (fun _ h9 => h9) rfl dX4_sumUp_46 ?_
            refine lv_iconst (v := (4 : Int32)) hx hb dX4_sumUp_49 kI_4 ?_
            refine lv_iload hx hb dX4_sumUp_50 (lv_at hl 0 rfl) ?_
            refine lv_imul hx hb dX4_sumUp_52 ?_
            refine lv_iload hx hb dX4_sumUp_53 (lv_at hl 5 rfl) ?_
            refine lv_iconst (v := (2 : Int32)) hx hb dX4_sumUp_55 kI_2 ?_
            refine lv_ixor hx hb dX4_sumUp_56 ?_
            refine lv_iadd hx hb dX4_sumUp_57 ?_
            have h58 := hw.1
            have hw := hw.2
            refine va_iald hx hb hK hP 3 0 rfl rfl h58 dX4_sumUp_58 ?_
            refine lv_topi (fun v58 e58 => ?_)
            have hw := hw v58 e58
            refine lv_istore (lv' := [(6, .int v58), (5, .int v21), (0, .ref aS), (1, .ref aA), (2, .int x2), (3, .int x3), (4, .int x4)]) hx hb dX4_sumUp_59 hl (by decide) rfl (fun ls hl => ?_)
            refine lv_aload_n hx hb dX4_sumUp_61 rfl (lv_at hl 3 rfl) ?_
            refine lv_bipush (v := (51 : Int32)) hx hb dX4_sumUp_62 kB_51 ?_
            refine lv_iload hx hb dX4_sumUp_64 (lv_at hl 6 rfl) ?_
            refine lv_imul hx hb dX4_sumUp_66 ?_
            refine lv_iload hx hb dX4_sumUp_67 (lv_at hl 0 rfl) ?_
            refine lv_iadd hx hb dX4_sumUp_69 ?_
            have h70 := hw.1
            have hw := hw.2
            refine va_lald hx hb hK hP 0 1 rfl rfl h70 dX4_sumUp_70 ?_
            refine lv_topl (fun v70 e70 => ?_)
            have hw := hw v70 e70
            refine lv_lstore (lv' := [(7, .long v70), (6, .int v58), (5, .int v21), (0, .ref aS), (1, .ref aA), (2, .int x2), (3, .int x3), (4, .int x4)]) hx hb dX4_sumUp_71 hl (by decide) rfl (fun ls hl => ?_)
            refine lv_iconst (v := (0 : Int32)) hx hb dX4_sumUp_73 kI_0 ?_
            refine lv_istore (lv' := [(9, .int (0 : Int32)), (7, .long v70), (6, .int v58), (5, .int v21), (0, .ref aS), (1, .ref aA), (2, .int x2), (3, .int x3), (4, .int x4)]) hx hb dX4_sumUp_74 hl (by decide) rfl (fun ls hl => ?_)
            obtain ⟨k, hw⟩ := hw
            exact b_76 k S_atLeast1 S_atLeast2 S_atLeast3 x2 x3 x4 v58 v70 (0 : Int32) hw H locs hP hD hS ls (lv_sub hl [4, 5, 6, 7, 8, 2, 1, 0] rfl)
          · have hw := hw.2 c36
            refine lv_goto (tgt := 140) hx hb dX4_sumUp_39 (by decide) ?_
            obtain ⟨v140, e140⟩ : ∃ y : Int32, y = x4 + (1 : Int32) := ⟨_, rfl⟩
            have hw := hw v140 e140
            refine lv_iinc (v := v140) (lv' := [(4, .int v140), (5, .int v21), (0, .ref aS), (1, .ref aA), (2, .int x2), (3, .int x3)]) hx hb dX4_sumUp_140 hl (k := 5) rfl (by rw [e140, kI_1]) (by decide) rfl (fun ls hl => ?_)
            refine lv_goto (tgt := 3) hx hb dX4_sumUp_143 (by decide) ?_
            exact ih_3 S_atLeast1 S_atLeast2 S_atLeast3 x2 x3 v140 hw H locs hP hD hS ls (lv_sub hl [2, 3, 4, 5, 0] rfl)
  intro H locs hP hD hS ls hl
  unfold wp_X4_sumUp at hw
  refine lv_iconst (v := (0 : Int32)) hx hb dX4_sumUp_0 kI_0 ?_
  refine lv_istore (lv' := [(4, .int (0 : Int32)), (0, .ref aS), (1, .ref aA), (2, .int p2), (3, .int p3)]) hx hb dX4_sumUp_1 hl (by decide) rfl (fun ls hl => ?_)
  obtain ⟨k, hw⟩ := hw
  exact b_3 k S_atLeast1 S_atLeast2 S_atLeast3 p2 p3 (0 : Int32) hw H locs hP hD hS ls (lv_sub hl [1, 2, 3, 4, 0] rfl)
set_option maxRecDepth 100000 in
set_option maxHeartbeats 4000000 in
theorem c_X4_heldEnough (l : Launch) (D : va_G) (cI cJ cZ cO : ClassId) (tS tT : Nat) (sz : Nat) (aK aK_strengths aK_kinds aK_marks aK_faces aK_bars aK_showing aK_showingRight aK_barring aS aS_cells aS_fits aS_fitsInLine aS_stale aS_staleCells aS_seen aS_queue : Nat) (K_warm : Int32) (K_count : Int32) (K_seeds : Int64) (K_blocks : Int64) (K_rivals : Int64) (S_pieces : Int32) (S_grown : Int32) (S_fitsInAll : Int32) (S_staleCount : Int32) (S_atLeast1 : Int64) (S_atLeast2 : Int64) (S_atLeast3 : Int64) (Q : Int64 → Prop) (hw : wp_X4_heldEnough K_warm S_atLeast1 S_atLeast2 S_atLeast3 Q) : Met l yX4_heldEnough wsX4_heldEnough rm_X4_heldEnough (va_Pc [.ref aS] (cx_B tS tT cI cJ cZ cO D sz (w_X4_heldEnough cI cJ cZ cO aK aK_strengths aK_kinds aK_marks aK_faces aK_bars aK_showing aK_showingRight aK_barring aS aS_cells aS_fits aS_fitsInLine aS_stale aS_staleCells aS_seen aS_queue K_warm K_count K_seeds K_blocks K_rivals S_pieces S_grown S_fitsInAll S_staleCount S_atLeast1 S_atLeast2 S_atLeast3))) (va_Ql (fun (r : Int64) (_ : Unit) => Q r) (fun (u : Unit) t => va_P D vwCl (w_X4_heldEnough cI cJ cZ cO aK aK_strengths aK_kinds aK_marks aK_faces aK_bars aK_showing aK_showingRight aK_barring aS aS_cells aS_fits aS_fitsInLine aS_stale aS_staleCells aS_seen aS_queue K_warm K_count K_seeds K_blocks K_rivals S_pieces S_grown S_fitsInAll S_staleCount S_atLeast1 S_atLeast2 S_atLeast3) t.heap) (va_A (w_X4_heldEnough cI cJ cZ cO aK aK_strengths aK_kinds aK_marks aK_faces aK_bars aK_showing aK_showingRight aK_barring aS aS_cells aS_fits aS_fitsInLine aS_stale aS_staleCells aS_seen aS_queue K_warm K_count K_seeds K_blocks K_rivals S_pieces S_grown S_fitsInAll S_staleCount S_atLeast1 S_atLeast2 S_atLeast3) sz)) 0 0 (va_A (w_X4_heldEnough cI cJ cZ cO aK aK_strengths aK_kinds aK_marks aK_faces aK_bars aK_showing aK_showingRight aK_barring aS aS_cells aS_fits aS_fitsInLine aS_stale aS_staleCells aS_seen aS_queue K_warm K_count K_seeds K_blocks K_rivals S_pieces S_grown S_fitsInAll S_staleCount S_atLeast1 S_atLeast2 S_atLeast3) sz) := by
  refine cx_met (cc := cX4_heldEnough) (maxL := 1) (ret := (some .long)) (Qc := fun A => va_Ql (fun (r : Int64) (_ : Unit) => Q r) (fun (u : Unit) t => va_P D vwCl (w_X4_heldEnough cI cJ cZ cO aK aK_strengths aK_kinds aK_marks aK_faces aK_bars aK_showing aK_showingRight aK_barring aS aS_cells aS_fits aS_fitsInLine aS_stale aS_staleCells aS_seen aS_queue K_warm K_count K_seeds K_blocks K_rivals S_pieces S_grown S_fitsInAll S_staleCount S_atLeast1 S_atLeast2 S_atLeast3) t.heap) A) (lv := [(0, .ref aS)]) (by decide) rfl (Nat.le_of_ble_eq_true rfl) rfl ?_
  intro p e s m args below meth c A Z hx hb hr hlocks hts hown hml hE hK hA hZ
  have hown : s.vm.findClass RX4 = some m.cls := hown
  have k_0 := hts (.fieldLink RX4 9 "GrowingTiles$Sheet" "kit" "LGrowingTiles$Kit;") (List.mem_of_getElem? (i := 1) (by decide +kernel))
  have k_1 := hts (.fieldLink RX4 179 "GrowingTiles$Kit" "warm" "I") (List.mem_of_getElem? (i := 2) (by decide +kernel))
  have k_2 := hts (.fieldLink RX4 164 "GrowingTiles$Sheet" "atLeast3" "J") (List.mem_of_getElem? (i := 5) (by decide +kernel))
  have k_3 := hts (.fieldLink RX4 161 "GrowingTiles$Sheet" "atLeast2" "J") (List.mem_of_getElem? (i := 4) (by decide +kernel))
  have k_4 := hts (.fieldLink RX4 158 "GrowingTiles$Sheet" "atLeast1" "J") (List.mem_of_getElem? (i := 3) (by decide +kernel))
  intro H locs hP hD hS ls hl
  unfold wp_X4_heldEnough at hw
  refine lv_aload_n hx hb dX4_heldEnough_0 rfl (lv_at hl 0 rfl) ?_
  refine va_get (D := D) (ci := 4) (v := .ref aK) (C := RX4) (T := TX4) (N := 15) hx hb hts in_X4_heldEnough_X4 hown hK hP 1 rfl rfl 0 (by decide) k_0 (fun _ h9 => h9) rfl dX4_heldEnough_1 ?_
  refine va_get (D := D) (ci := 1) (v := .int K_warm) (C := RX1) (T := TX1) (N := 13) hx hb hts in_X4_heldEnough_X1 hown hK hP 0 rfl rfl 0 (by decide) k_1 (fun _ h9 => h9) rfl dX4_heldEnough_4 ?_
  refine lv_iconst (v := (1 : Int32)) hx hb dX4_heldEnough_7 kI_1 ?_
  refine lv_icmp_ne (tgt := 16) hx hb dX4_heldEnough_8 (by decide) (fun c8 => ?_) (fun c8 => ?_)
  · have hw := hw.1 c8
    refine lv_aload_n hx hb dX4_heldEnough_16 rfl (lv_at hl 0 rfl) ?_
    refine va_get (D := D) (ci := 4) (v := .ref aK) (C := RX4) (T := TX4) (N := 15) hx hb hts in_X4_heldEnough_X4 hown hK hP 1 rfl rfl 0 (by decide) k_0 (fun _ h9 => h9) rfl dX4_heldEnough_17 ?_
    refine va_get (D := D) (ci := 1) (v := .int K_warm) (C := RX1) (T := TX1) (N := 13) hx hb hts in_X4_heldEnough_X1 hown hK hP 0 rfl rfl 0 (by decide) k_1 (fun _ h9 => h9) rfl dX4_heldEnough_20 ?_
    refine lv_iconst (v := (2 : Int32)) hx hb dX4_heldEnough_23 kI_2 ?_
    refine lv_icmp_ne (tgt := 34) hx hb dX4_heldEnough_24 (by decide) (fun c24 => ?_) (fun c24 => ?_)
    · have hw := hw.1 c24
      refine lv_aload_n hx hb dX4_heldEnough_34 rfl (lv_at hl 0 rfl) ?_
      refine va_get (D := D) (ci := 4) (v := .long S_atLeast3) (C := RX4) (T := TX4) (N := 15) hx hb hts in_X4_heldEnough_X4 hown hK hP 1 rfl rfl 12 (by decide) k_2 (fun _ h9 => h9) rfl dX4_heldEnough_35 ?_
      rw [hZ]
      exact cx_retl () hx hb hr hlocks hw hP hS dX4_heldEnough_38
    · have hw := hw.2 c24
      refine lv_aload_n hx hb dX4_heldEnough_27 rfl (lv_at hl 0 rfl) ?_
      refine va_get (D := D) (ci := 4) (v := .long S_atLeast2) (C := RX4) (T := TX4) (N := 15) hx hb hts in_X4_heldEnough_X4 hown hK hP 1 rfl rfl 11 (by decide) k_3 (fun _ h9 => h9) rfl dX4_heldEnough_28 ?_
      refine lv_goto (tgt := 38) hx hb dX4_heldEnough_31 (by decide) ?_
      rw [hZ]
      exact cx_retl () hx hb hr hlocks hw hP hS dX4_heldEnough_38
  · have hw := hw.2 c8
    refine lv_aload_n hx hb dX4_heldEnough_11 rfl (lv_at hl 0 rfl) ?_
    refine va_get (D := D) (ci := 4) (v := .long S_atLeast1) (C := RX4) (T := TX4) (N := 15) hx hb hts in_X4_heldEnough_X4 hown hK hP 1 rfl rfl 10 (by decide) k_4 (fun _ h9 => h9) rfl dX4_heldEnough_12 ?_
    rw [hZ]
    exact cx_retl () hx hb hr hlocks hw hP hS dX4_heldEnough_15
set_option maxRecDepth 100000 in
set_option maxHeartbeats 4000000 in
theorem c_X4_heldAt (l : Launch) (D : va_G) (cI cJ cZ cO : ClassId) (tS tT : Nat) (sz : Nat) (aK aK_strengths aK_kinds aK_marks aK_faces aK_bars aK_showing aK_showingRight aK_barring aS aS_cells aS_fits aS_fitsInLine aS_stale aS_staleCells aS_seen aS_queue : Nat) (K_warm : Int32) (K_count : Int32) (K_seeds : Int64) (K_blocks : Int64) (K_rivals : Int64) (K_strengths : Nat → Int32) (K_faces : Nat → Int32) (K_showing : Nat → Int64) (S_pieces : Int32) (S_grown : Int32) (S_fitsInAll : Int32) (S_staleCount : Int32) (S_atLeast1 : Int64) (S_atLeast2 : Int64) (S_atLeast3 : Int64) (S_cells : Nat → Int32) (p1 : Int32) (p2 : Int32) (Q : Int64 → (Int64) → (Int64) → (Int64) → Prop) (hw : wp_X4_heldAt K_warm K_strengths K_faces K_showing S_cells S_atLeast1 S_atLeast2 S_atLeast3 p1 p2 Q) : Met l yX4_heldAt wsX4_heldAt rm_X4_heldAt (va_Pc [.ref aS, .int p1, .int p2] (cx_B tS tT cI cJ cZ cO D sz (w_X4_heldAt cI cJ cZ cO aK aK_strengths aK_kinds aK_marks aK_faces aK_bars aK_showing aK_showingRight aK_barring aS aS_cells aS_fits aS_fitsInLine aS_stale aS_staleCells aS_seen aS_queue K_warm K_count K_seeds K_blocks K_rivals K_strengths K_faces K_showing S_pieces S_grown S_fitsInAll S_staleCount S_atLeast1 S_atLeast2 S_atLeast3 S_cells))) (va_Ql (fun (r : Int64) (u : (Int64) × (Int64) × (Int64)) => Q r u.1 u.2.1 u.2.2) (fun (u : (Int64) × (Int64) × (Int64)) t => va_P D vwCl (w_X4_heldAt cI cJ cZ cO aK aK_strengths aK_kinds aK_marks aK_faces aK_bars aK_showing aK_showingRight aK_barring aS aS_cells aS_fits aS_fitsInLine aS_stale aS_staleCells aS_seen aS_queue K_warm K_count K_seeds K_blocks K_rivals K_strengths K_faces K_showing S_pieces S_grown S_fitsInAll S_staleCount u.1 u.2.1 u.2.2 S_cells) t.heap) (va_A (w_X4_heldAt cI cJ cZ cO aK aK_strengths aK_kinds aK_marks aK_faces aK_bars aK_showing aK_showingRight aK_barring aS aS_cells aS_fits aS_fitsInLine aS_stale aS_staleCells aS_seen aS_queue K_warm K_count K_seeds K_blocks K_rivals K_strengths K_faces K_showing S_pieces S_grown S_fitsInAll S_staleCount S_atLeast1 S_atLeast2 S_atLeast3 S_cells) sz)) 0 0 (va_A (w_X4_heldAt cI cJ cZ cO aK aK_strengths aK_kinds aK_marks aK_faces aK_bars aK_showing aK_showingRight aK_barring aS aS_cells aS_fits aS_fitsInLine aS_stale aS_staleCells aS_seen aS_queue K_warm K_count K_seeds K_blocks K_rivals K_strengths K_faces K_showing S_pieces S_grown S_fitsInAll S_staleCount S_atLeast1 S_atLeast2 S_atLeast3 S_cells) sz) := by
  refine cx_met (cc := cX4_heldAt) (maxL := 3) (ret := (some .long)) (Qc := fun A => va_Ql (fun (r : Int64) (u : (Int64) × (Int64) × (Int64)) => Q r u.1 u.2.1 u.2.2) (fun (u : (Int64) × (Int64) × (Int64)) t => va_P D vwCl (w_X4_heldAt cI cJ cZ cO aK aK_strengths aK_kinds aK_marks aK_faces aK_bars aK_showing aK_showingRight aK_barring aS aS_cells aS_fits aS_fitsInLine aS_stale aS_staleCells aS_seen aS_queue K_warm K_count K_seeds K_blocks K_rivals K_strengths K_faces K_showing S_pieces S_grown S_fitsInAll S_staleCount u.1 u.2.1 u.2.2 S_cells) t.heap) A) (lv := [(0, .ref aS), (1, .int p1), (2, .int p2)]) (by decide) rfl (Nat.le_of_ble_eq_true rfl) rfl ?_
  intro p e s m args below meth c A Z hx hb hr hlocks hts hown hml hE hK hA hZ
  have hown : s.vm.findClass RX4 = some m.cls := hown
  have k_0 := hts (.fieldLink RX4 9 "GrowingTiles$Sheet" "kit" "LGrowingTiles$Kit;") (List.mem_of_getElem? (i := 1) (by decide +kernel))
  have k_1 := hts (.fieldLink RX4 129 "GrowingTiles$Kit" "showing" "[J") (List.mem_of_getElem? (i := 2) (by decide +kernel))
  intro H locs hP hD hS ls hl
  unfold wp_X4_heldAt at hw
  refine lv_aload_n hx hb dX4_heldAt_0 rfl (lv_at hl 0 rfl) ?_
  refine cx_gov (va_runV (As := []) (rest := []) ⟨hx, hb, hml, hown, hts⟩ (c_X4_startSums l D cI cJ cZ cO tS tT H.size aS aK aS_cells aS_fits aS_fitsInLine aS_stale aS_staleCells aS_seen aS_queue S_pieces S_grown S_fitsInAll S_staleCount S_atLeast1 S_atLeast2 S_atLeast3 _ hw) (cwV 0 hts gX4_heldAt_X4_startSums rfl rfl rfl pv_X4_startSums ⟨Nat.le_of_ble_eq_true rfl, Nat.le_of_ble_eq_true rfl⟩) (cx_preV (wc := w_X4_startSums cI cJ cZ cO aS aK aS_cells aS_fits aS_fitsInLine aS_stale aS_staleCells aS_seen aS_queue S_pieces S_grown S_fitsInAll S_staleCount S_atLeast1 S_atLeast2 S_atLeast3) hE hK hP hD hS hA [4] rfl rfl (va_recv hK hP (ci := 4) (q0 := 4) rfl rfl)) rfl rfl hl.1 rfl (lv_room (Nat.le_of_ble_eq_true rfl)) dX4_heldAt_1 ⟨Nat.le_of_ble_eq_true rfl, Nat.le_of_ble_eq_true rfl⟩) (fun (u : (Int64) × (Int64) × (Int64)) => (w_X4_heldAt cI cJ cZ cO aK aK_strengths aK_kinds aK_marks aK_faces aK_bars aK_showing aK_showingRight aK_barring aS aS_cells aS_fits aS_fitsInLine aS_stale aS_staleCells aS_seen aS_queue K_warm K_count K_seeds K_blocks K_rivals K_strengths K_faces K_showing S_pieces S_grown S_fitsInAll S_staleCount u.1 u.2.1 u.2.2 S_cells)) [4] [0, 1, 2, 3, 5] (ads := [aS]) (wr := [(aK, .inr (1, [.int K_warm, .int K_count, .ref aK_strengths, .ref aK_kinds, .ref aK_marks, .ref aK_faces, .ref aK_bars, .ref aK_showing, .ref aK_showingRight, .ref aK_barring, .long K_seeds, .long K_blocks, .long K_rivals])), (aK_strengths, .inl (cI, 51, .inl K_strengths)), (aK_faces, .inl (cI, 512, .inl K_faces)), (aK_showing, .inl (cJ, 204, .inr (.inl K_showing))), (aS_cells, .inl (cI, 324, .inl S_cells))]) rfl rfl (fun u => rfl) (fun u => rfl) rfl (fun u => rfl) rfl (fun u => rfl) rfl hP hD hS hA (fun u H locs hw hP hD hS => ?_)
  obtain ⟨S_atLeast1_1, S_atLeast2_1, S_atLeast3_1⟩ := u
  try dsimp only at hw
  have hP : va_P D vwCl (w_X4_heldAt cI cJ cZ cO aK aK_strengths aK_kinds aK_marks aK_faces aK_bars aK_showing aK_showingRight aK_barring aS aS_cells aS_fits aS_fitsInLine aS_stale aS_staleCells aS_seen aS_queue K_warm K_count K_seeds K_blocks K_rivals K_strengths K_faces K_showing S_pieces S_grown S_fitsInAll S_staleCount S_atLeast1_1 S_atLeast2_1 S_atLeast3_1 S_cells) H := hP
  have hD : va_D A (w_X4_heldAt cI cJ cZ cO aK aK_strengths aK_kinds aK_marks aK_faces aK_bars aK_showing aK_showingRight aK_barring aS aS_cells aS_fits aS_fitsInLine aS_stale aS_staleCells aS_seen aS_queue K_warm K_count K_seeds K_blocks K_rivals K_strengths K_faces K_showing S_pieces S_grown S_fitsInAll S_staleCount S_atLeast1_1 S_atLeast2_1 S_atLeast3_1 S_cells) := hD
  refine lv_aload_n hx hb dX4_heldAt_4 rfl (lv_at hl 0 rfl) ?_
  refine lv_aload_n hx hb dX4_heldAt_5 rfl (lv_at hl 0 rfl) ?_
  refine va_get (D := D) (ci := 4) (v := .ref aK) (C := RX4) (T := TX4) (N := 15) hx hb hts in_X4_heldAt_X4 hown hK hP 4 rfl rfl 0 (by decide) k_0 (fun _ h9 => h9) rfl dX4_heldAt_6 ?_
  refine va_get (D := D) (ci := 1) (v := .ref aK_showing) (C := RX1) (T := TX1) (N := 13) hx hb hts in_X4_heldAt_X1 hown hK hP 0 rfl rfl 7 (by decide) k_1 (fun _ h9 => h9) rfl dX4_heldAt_9 ?_
  refine lv_iload_n hx hb dX4_heldAt_12 rfl (lv_at hl 1 rfl) ?_
  refine lv_iload_n hx hb dX4_heldAt_13 rfl (lv_at hl 2 rfl) ?_
  refine cx_gov (va_runV (As := [.ref aK_showing, .int p1, .int p2]) (rest := []) ⟨hx, hb, hml, hown, hts⟩ (c_X4_sumUp l D cI cJ cZ cO tS tT H.size aK_showing aK aK_strengths aK_kinds aK_marks aK_faces aK_bars aK_showing aK_showingRight aK_barring aS aS_cells aS_fits aS_fitsInLine aS_stale aS_staleCells aS_seen aS_queue 204 K_showing K_warm K_count K_seeds K_blocks K_rivals K_strengths K_faces S_pieces S_grown S_fitsInAll S_staleCount S_atLeast1_1 S_atLeast2_1 S_atLeast3_1 S_cells p1 p2 _ hw) (cwV 3 hts gX4_heldAt_X4_sumUp rfl rfl rfl pv_X4_sumUp ⟨Nat.le_of_ble_eq_true rfl, Nat.le_of_ble_eq_true rfl⟩) (cx_preV (wc := w_X4_sumUp cI cJ cZ cO aK_showing aK aK_strengths aK_kinds aK_marks aK_faces aK_bars aK_showing aK_showingRight aK_barring aS aS_cells aS_fits aS_fitsInLine aS_stale aS_staleCells aS_seen aS_queue 204 K_showing K_warm K_count K_seeds K_blocks K_rivals K_strengths K_faces S_pieces S_grown S_fitsInAll S_staleCount S_atLeast1_1 S_atLeast2_1 S_atLeast3_1 S_cells) hE hK hP hD hS hA [3, 0, 1, 2, 4, 5] rfl rfl (va_recv hK hP (ci := 4) (q0 := 4) rfl rfl)) rfl rfl hl.1 rfl (lv_room (Nat.le_of_ble_eq_true rfl)) dX4_heldAt_14 ⟨Nat.le_of_ble_eq_true rfl, Nat.le_of_ble_eq_true rfl⟩) (fun (u : (Int64) × (Int64) × (Int64)) => (w_X4_heldAt cI cJ cZ cO aK aK_strengths aK_kinds aK_marks aK_faces aK_bars aK_showing aK_showingRight aK_barring aS aS_cells aS_fits aS_fitsInLine aS_stale aS_staleCells aS_seen aS_queue K_warm K_count K_seeds K_blocks K_rivals K_strengths K_faces K_showing S_pieces S_grown S_fitsInAll S_staleCount u.1 u.2.1 u.2.2 S_cells)) [3, 0, 1, 2, 4, 5] [] (ads := [aK_showing, aK, aK_strengths, aK_faces, aS, aS_cells]) (wr := []) rfl rfl (fun u => rfl) (fun u => rfl) rfl (fun u => rfl) rfl (fun u => rfl) rfl hP hD hS hA (fun u H locs hw hP hD hS => ?_)
  obtain ⟨S_atLeast1_14, S_atLeast2_14, S_atLeast3_14⟩ := u
  try dsimp only at hw
  have hP : va_P D vwCl (w_X4_heldAt cI cJ cZ cO aK aK_strengths aK_kinds aK_marks aK_faces aK_bars aK_showing aK_showingRight aK_barring aS aS_cells aS_fits aS_fitsInLine aS_stale aS_staleCells aS_seen aS_queue K_warm K_count K_seeds K_blocks K_rivals K_strengths K_faces K_showing S_pieces S_grown S_fitsInAll S_staleCount S_atLeast1_14 S_atLeast2_14 S_atLeast3_14 S_cells) H := hP
  have hD : va_D A (w_X4_heldAt cI cJ cZ cO aK aK_strengths aK_kinds aK_marks aK_faces aK_bars aK_showing aK_showingRight aK_barring aS aS_cells aS_fits aS_fitsInLine aS_stale aS_staleCells aS_seen aS_queue K_warm K_count K_seeds K_blocks K_rivals K_strengths K_faces K_showing S_pieces S_grown S_fitsInAll S_staleCount S_atLeast1_14 S_atLeast2_14 S_atLeast3_14 S_cells) := hD
  refine lv_aload_n hx hb dX4_heldAt_17 rfl (lv_at hl 0 rfl) ?_
  refine cx_gol (va_runV (As := []) (rest := []) ⟨hx, hb, hml, hown, hts⟩ (c_X4_heldEnough l D cI cJ cZ cO tS tT H.size aK aK_strengths aK_kinds aK_marks aK_faces aK_bars aK_showing aK_showingRight aK_barring aS aS_cells aS_fits aS_fitsInLine aS_stale aS_staleCells aS_seen aS_queue K_warm K_count K_seeds K_blocks K_rivals S_pieces S_grown S_fitsInAll S_staleCount S_atLeast1_14 S_atLeast2_14 S_atLeast3_14 _ hw) (cwV 0 hts gX4_heldAt_X4_heldEnough rfl rfl rfl pv_X4_heldEnough ⟨Nat.le_of_ble_eq_true rfl, Nat.le_of_ble_eq_true rfl⟩) (cx_preV (wc := w_X4_heldEnough cI cJ cZ cO aK aK_strengths aK_kinds aK_marks aK_faces aK_bars aK_showing aK_showingRight aK_barring aS aS_cells aS_fits aS_fitsInLine aS_stale aS_staleCells aS_seen aS_queue K_warm K_count K_seeds K_blocks K_rivals S_pieces S_grown S_fitsInAll S_staleCount S_atLeast1_14 S_atLeast2_14 S_atLeast3_14) hE hK hP hD hS hA [0, 4] rfl rfl (va_recv hK hP (ci := 4) (q0 := 4) rfl rfl)) rfl rfl hl.1 rfl (lv_room (Nat.le_of_ble_eq_true rfl)) dX4_heldAt_18 ⟨Nat.le_of_ble_eq_true rfl, Nat.le_of_ble_eq_true rfl⟩) (fun (_ : Unit) => (w_X4_heldAt cI cJ cZ cO aK aK_strengths aK_kinds aK_marks aK_faces aK_bars aK_showing aK_showingRight aK_barring aS aS_cells aS_fits aS_fitsInLine aS_stale aS_staleCells aS_seen aS_queue K_warm K_count K_seeds K_blocks K_rivals K_strengths K_faces K_showing S_pieces S_grown S_fitsInAll S_staleCount S_atLeast1_14 S_atLeast2_14 S_atLeast3_14 S_cells)) [0, 4] [1, 2, 3, 5] (ads := [aK, aS]) (wr := [(aK_strengths, .inl (cI, 51, .inl K_strengths)), (aK_faces, .inl (cI, 512, .inl K_faces)), (aK_showing, .inl (cJ, 204, .inr (.inl K_showing))), (aS_cells, .inl (cI, 324, .inl S_cells))]) rfl rfl (fun u => rfl) (fun u => rfl) rfl (fun u => rfl) rfl (fun u => rfl) rfl hP hD hS hA (fun r18 u H locs hw hP hD hS => ?_)
  have hP : va_P D vwCl (w_X4_heldAt cI cJ cZ cO aK aK_strengths aK_kinds aK_marks aK_faces aK_bars aK_showing aK_showingRight aK_barring aS aS_cells aS_fits aS_fitsInLine aS_stale aS_staleCells aS_seen aS_queue K_warm K_count K_seeds K_blocks K_rivals K_strengths K_faces K_showing S_pieces S_grown S_fitsInAll S_staleCount S_atLeast1_14 S_atLeast2_14 S_atLeast3_14 S_cells) H := hP
  have hD : va_D A (w_X4_heldAt cI cJ cZ cO aK aK_strengths aK_kinds aK_marks aK_faces aK_bars aK_showing aK_showingRight aK_barring aS aS_cells aS_fits aS_fitsInLine aS_stale aS_staleCells aS_seen aS_queue K_warm K_count K_seeds K_blocks K_rivals K_strengths K_faces K_showing S_pieces S_grown S_fitsInAll S_staleCount S_atLeast1_14 S_atLeast2_14 S_atLeast3_14 S_cells) := hD
  rw [hZ]
  exact cx_retl (S_atLeast1_14, S_atLeast2_14, S_atLeast3_14) hx hb hr hlocks hw hP hS dX4_heldAt_21
set_option maxRecDepth 100000 in
set_option maxHeartbeats 4000000 in
theorem c_X2_hasRival (l : Launch) (D : va_G) (cI cJ cZ cO : ClassId) (tS tT : Nat) (sz : Nat) (aK aK_strengths aK_kinds aK_marks aK_faces aK_bars aK_showing aK_showingRight aK_barring aS aS_cells aS_fits aS_fitsInLine aS_stale aS_staleCells aS_seen aS_queue aT aT_acts aT_pieces aT_places aT_before aT_since aO : Nat) (K_warm : Int32) (K_count : Int32) (K_seeds : Int64) (K_blocks : Int64) (K_rivals : Int64) (K_strengths : Nat → Int32) (K_faces : Nat → Int32) (K_showing : Nat → Int64) (S_pieces : Int32) (S_grown : Int32) (S_fitsInAll : Int32) (S_staleCount : Int32) (S_atLeast1 : Int64) (S_atLeast2 : Int64) (S_atLeast3 : Int64) (S_cells : Nat → Int32) (T_made : Int32) (T_kept : Int32) (T_fromClear : Int32) (T_pieces : Nat → Int32) (T_places : Nat → Int32) (T_since : Nat → Int32) (p1 : Int32) (Q : Int32 → (Int64) → (Int64) → (Int64) → Prop) (hw : wp_X2_hasRival K_warm K_strengths K_faces K_showing K_rivals S_cells T_pieces T_places T_since S_atLeast1 S_atLeast2 S_atLeast3 p1 Q) : Met l yX2_hasRival wsX2_hasRival rm_X2_hasRival (va_Pc [.ref aO, .int p1] (cx_B tS tT cI cJ cZ cO D sz (w_X2_hasRival cI cJ cZ cO aK aK_strengths aK_kinds aK_marks aK_faces aK_bars aK_showing aK_showingRight aK_barring aS aS_cells aS_fits aS_fitsInLine aS_stale aS_staleCells aS_seen aS_queue aT aT_acts aT_pieces aT_places aT_before aT_since aO K_warm K_count K_seeds K_blocks K_rivals K_strengths K_faces K_showing S_pieces S_grown S_fitsInAll S_staleCount S_atLeast1 S_atLeast2 S_atLeast3 S_cells T_made T_kept T_fromClear T_pieces T_places T_since))) (va_Qi (fun (r : Int32) (u : (Int64) × (Int64) × (Int64)) => Q r u.1 u.2.1 u.2.2) (fun (u : (Int64) × (Int64) × (Int64)) t => va_P D vwCl (w_X2_hasRival cI cJ cZ cO aK aK_strengths aK_kinds aK_marks aK_faces aK_bars aK_showing aK_showingRight aK_barring aS aS_cells aS_fits aS_fitsInLine aS_stale aS_staleCells aS_seen aS_queue aT aT_acts aT_pieces aT_places aT_before aT_since aO K_warm K_count K_seeds K_blocks K_rivals K_strengths K_faces K_showing S_pieces S_grown S_fitsInAll S_staleCount u.1 u.2.1 u.2.2 S_cells T_made T_kept T_fromClear T_pieces T_places T_since) t.heap) (va_A (w_X2_hasRival cI cJ cZ cO aK aK_strengths aK_kinds aK_marks aK_faces aK_bars aK_showing aK_showingRight aK_barring aS aS_cells aS_fits aS_fitsInLine aS_stale aS_staleCells aS_seen aS_queue aT aT_acts aT_pieces aT_places aT_before aT_since aO K_warm K_count K_seeds K_blocks K_rivals K_strengths K_faces K_showing S_pieces S_grown S_fitsInAll S_staleCount S_atLeast1 S_atLeast2 S_atLeast3 S_cells T_made T_kept T_fromClear T_pieces T_places T_since) sz)) 0 0 (va_A (w_X2_hasRival cI cJ cZ cO aK aK_strengths aK_kinds aK_marks aK_faces aK_bars aK_showing aK_showingRight aK_barring aS aS_cells aS_fits aS_fitsInLine aS_stale aS_staleCells aS_seen aS_queue aT aT_acts aT_pieces aT_places aT_before aT_since aO K_warm K_count K_seeds K_blocks K_rivals K_strengths K_faces K_showing S_pieces S_grown S_fitsInAll S_staleCount S_atLeast1 S_atLeast2 S_atLeast3 S_cells T_made T_kept T_fromClear T_pieces T_places T_since) sz) := by
  refine cx_met (cc := cX2_hasRival) (maxL := 6) (ret := (some .boolean)) (Qc := fun A => va_Qi (fun (r : Int32) (u : (Int64) × (Int64) × (Int64)) => Q r u.1 u.2.1 u.2.2) (fun (u : (Int64) × (Int64) × (Int64)) t => va_P D vwCl (w_X2_hasRival cI cJ cZ cO aK aK_strengths aK_kinds aK_marks aK_faces aK_bars aK_showing aK_showingRight aK_barring aS aS_cells aS_fits aS_fitsInLine aS_stale aS_staleCells aS_seen aS_queue aT aT_acts aT_pieces aT_places aT_before aT_since aO K_warm K_count K_seeds K_blocks K_rivals K_strengths K_faces K_showing S_pieces S_grown S_fitsInAll S_staleCount u.1 u.2.1 u.2.2 S_cells T_made T_kept T_fromClear T_pieces T_places T_since) t.heap) A) (lv := [(0, .ref aO), (1, .int p1)]) (by decide) rfl (Nat.le_of_ble_eq_true rfl) rfl ?_
  intro p e s m args below meth c A Z hx hb hr hlocks hts hown hml hE hK hA hZ
  have hown : s.vm.findClass RX2 = some m.cls := hown
  have k_0 := hts (.fieldLink RX2 19 "GrowingTiles$Order" "steps" "LGrowingTiles$Steps;") (List.mem_of_getElem? (i := 1) (by decide +kernel))
  have k_1 := hts (.fieldLink RX2 41 "GrowingTiles$Steps" "places" "[I") (List.mem_of_getElem? (i := 2) (by decide +kernel))
  have k_2 := hts (.fieldLink RX2 70 "GrowingTiles$Steps" "pieces" "[I") (List.mem_of_getElem? (i := 3) (by decide +kernel))
  have k_3 := hts (.fieldLink RX2 9 "GrowingTiles$Order" "kit" "LGrowingTiles$Kit;") (List.mem_of_getElem? (i := 4) (by decide +kernel))
  have k_4 := hts (.fieldLink RX2 103 "GrowingTiles$Kit" "rivals" "J") (List.mem_of_getElem? (i := 5) (by decide +kernel))
  have k_5 := hts (.constantLong RX2 107 (-1 : Int64)) (List.mem_of_getElem? (i := 6) (by decide +kernel))
  have k_6 := hts (.fieldLink RX2 15 "GrowingTiles$Order" "sheet" "LGrowingTiles$Sheet;") (List.mem_of_getElem? (i := 7) (by decide +kernel))
  intro H locs hP hD hS ls hl
  unfold wp_X2_hasRival at hw
  refine lv_aload_n hx hb dX2_hasRival_0 rfl (lv_at hl 0 rfl) ?_
  refine va_get (D := D) (ci := 2) (v := .ref aT) (C := RX2) (T := TX2) (N := 3) hx hb hts in_X2_hasRival_X2 hown hK hP 10 rfl rfl 2 (by decide) k_0 (fun _ h9 => h9) rfl dX2_hasRival_1 ?_
  refine va_get (D := D) (ci := 5) (v := .ref aT_places) (C := RX5) (T := TX5) (N := 8) hx hb hts in_X2_hasRival_X5 hown hK hP 6 rfl rfl 5 (by decide) k_1 (fun _ h9 => h9) rfl dX2_hasRival_4 ?_
  refine lv_iload_n hx hb dX2_hasRival_7 rfl (lv_at hl 1 rfl) ?_
  have h8 := hw.1
  have hw := hw.2
  refine va_iald hx hb hK hP 8 0 rfl rfl h8 dX2_hasRival_8 ?_
  refine lv_topi (fun v8 e8 => ?_)
  have hw := hw v8 e8
  refine lv_istore_n (lv' := [(2, .int v8), (0, .ref aO), (1, .int p1)]) hx hb dX2_hasRival_9 rfl hl (by decide) rfl (fun ls hl => ?_)
  refine lv_aload_n hx hb dX2_hasRival_10 rfl (lv_at hl 1 rfl) ?_
  refine va_get (D := D) (ci := 2) (v := .ref aT) (C := RX2) (T := TX2) (N := 3) hx hb hts in_X2_hasRival_X2 hown hK hP 10 rfl rfl 2 (by decide) k_0 (fun _ h9 => h9) rfl dX2_hasRival_11 ?_
  refine va_get (D := D) (ci := 5) (v := .ref aT_pieces) (C := RX5) (T := TX5) (N := 8) hx hb hts in_X2_hasRival_X5 hown hK hP 6 rfl rfl 4 (by decide) k_2 (fun _ h9 => h9) rfl dX2_hasRival_14 ?_
  refine lv_iload_n hx hb dX2_hasRival_17 rfl (lv_at hl 2 rfl) ?_
  have h18 := hw.1
  have hw := hw.2
  refine va_iald hx hb hK hP 7 0 rfl rfl h18 dX2_hasRival_18 ?_
  refine lv_topi (fun v18 e18 => ?_)
  have hw := hw v18 e18
  refine lv_istore_n (lv' := [(3, .int v18), (2, .int v8), (0, .ref aO), (1, .int p1)]) hx hb dX2_hasRival_19 rfl hl (by decide) rfl (fun ls hl => ?_)
  refine lv_aload_n hx hb dX2_hasRival_20 rfl (lv_at hl 2 rfl) ?_
  refine va_get (D := D) (ci := 2) (v := .ref aK) (C := RX2) (T := TX2) (N := 3) hx hb hts in_X2_hasRival_X2 hown hK hP 10 rfl rfl 0 (by decide) k_3 (fun _ h9 => h9) rfl dX2_hasRival_21 ?_
  refine va_get (D := D) (ci := 1) (v := .long K_rivals) (C := RX1) (T := TX1) (N := 13) hx hb hts in_X2_hasRival_X1 hown hK hP 0 rfl rfl 12 (by decide) k_4 (fun _ h9 => h9) rfl dX2_hasRival_24 ?_
  refine lv_lconst (v := (1 : Int64)) hx hb dX2_hasRival_27 kL_1 ?_
  refine lv_iload_n hx hb dX2_hasRival_28 rfl (lv_at hl 0 rfl) ?_
  refine lv_lshl hx hb dX2_hasRival_29 rfl ?_
  refine lv_ldc2 hx hb hown k_5 dX2_hasRival_30 ?_
  refine lv_lxor hx hb dX2_hasRival_33 ?_
  refine lv_land hx hb dX2_hasRival_34 ?_
  refine lv_topl (fun v35 e35 => ?_)
  have hw := hw v35 e35
  refine lv_lstore (lv' := [(4, .long v35), (3, .int v18), (2, .int v8), (0, .ref aO), (1, .int p1)]) hx hb dX2_hasRival_35 hl (by decide) rfl (fun ls hl => ?_)
  refine lv_aload_n hx hb dX2_hasRival_37 rfl (lv_at hl 3 rfl) ?_
  refine va_get (D := D) (ci := 2) (v := .ref aS) (C := RX2) (T := TX2) (N := 3) hx hb hts in_X2_hasRival_X2 hown hK hP 10 rfl rfl 1 (by decide) k_6 (fun _ h9 => h9) rfl dX2_hasRival_38 ?_
  refine lv_iload_n hx hb dX2_hasRival_41 rfl (lv_at hl 2 rfl) ?_
  refine lv_aload_n hx hb dX2_hasRival_42 rfl (lv_at hl 3 rfl) ?_
  refine lv_iconst (v := (1 : Int32)) hx hb dX2_hasRival_43 kI_1 ?_
  refine lv_iload_n hx hb dX2_hasRival_44 rfl (lv_at hl 1 rfl) ?_
  refine lv_iadd hx hb dX2_hasRival_45 ?_
  refine lv_iload_n hx hb dX2_hasRival_46 rfl (lv_at hl 2 rfl) ?_
  refine cx_goi (va_runV (As := [.int ((1 : Int32) + v18), .int v8]) (rest := [.int v8, .ref aS]) ⟨hx, hb, hml, hown, hts⟩ (c_X2_outputsOf l D cI cJ cZ cO tS tT H.size aK aK_strengths aK_kinds aK_marks aK_faces aK_bars aK_showing aK_showingRight aK_barring aS aS_cells aS_fits aS_fitsInLine aS_stale aS_staleCells aS_seen aS_queue aT aT_acts aT_pieces aT_places aT_before aT_since aO K_warm K_count K_seeds K_blocks K_rivals K_strengths K_faces S_pieces S_grown S_fitsInAll S_staleCount S_atLeast1 S_atLeast2 S_atLeast3 S_cells T_made T_kept T_fromClear T_since ((1 : Int32) + v18) v8 _ hw) (cwV 2 hts gX2_hasRival_X2_outputsOf rfl rfl rfl pv_X2_outputsOf ⟨Nat.le_of_ble_eq_true rfl, Nat.le_of_ble_eq_true rfl⟩) (cx_preV (wc := w_X2_outputsOf cI cJ cZ cO aK aK_strengths aK_kinds aK_marks aK_faces aK_bars aK_showing aK_showingRight aK_barring aS aS_cells aS_fits aS_fitsInLine aS_stale aS_staleCells aS_seen aS_queue aT aT_acts aT_pieces aT_places aT_before aT_since aO K_warm K_count K_seeds K_blocks K_rivals K_strengths K_faces S_pieces S_grown S_fitsInAll S_staleCount S_atLeast1 S_atLeast2 S_atLeast3 S_cells T_made T_kept T_fromClear T_since) hE hK hP hD hS hA [0, 1, 2, 4, 5, 6, 9, 10] rfl rfl (va_recv hK hP (ci := 2) (q0 := 10) rfl rfl)) rfl rfl hl.1 rfl (lv_room (Nat.le_of_ble_eq_true rfl)) dX2_hasRival_47 ⟨Nat.le_of_ble_eq_true rfl, Nat.le_of_ble_eq_true rfl⟩) (fun (_ : Unit) => (w_X2_hasRival cI cJ cZ cO aK aK_strengths aK_kinds aK_marks aK_faces aK_bars aK_showing aK_showingRight aK_barring aS aS_cells aS_fits aS_fitsInLine aS_stale aS_staleCells aS_seen aS_queue aT aT_acts aT_pieces aT_places aT_before aT_since aO K_warm K_count K_seeds K_blocks K_rivals K_strengths K_faces K_showing S_pieces S_grown S_fitsInAll S_staleCount S_atLeast1 S_atLeast2 S_atLeast3 S_cells T_made T_kept T_fromClear T_pieces T_places T_since)) [0, 1, 2, 4, 5, 6, 9, 10] [3, 7, 8] (ads := [aK, aK_strengths, aK_faces, aS, aS_cells, aT, aT_since, aO]) (wr := [(aK_showing, .inl (cJ, 204, .inr (.inl K_showing))), (aT_pieces, .inl (cI, 200, .inl T_pieces)), (aT_places, .inl (cI, 200, .inl T_places))]) rfl rfl (fun u => rfl) (fun u => rfl) rfl (fun u => rfl) rfl (fun u => rfl) rfl hP hD hS hA (fun r47 u H locs hw hP hD hS => ?_)
  have hP : va_P D vwCl (w_X2_hasRival cI cJ cZ cO aK aK_strengths aK_kinds aK_marks aK_faces aK_bars aK_showing aK_showingRight aK_barring aS aS_cells aS_fits aS_fitsInLine aS_stale aS_staleCells aS_seen aS_queue aT aT_acts aT_pieces aT_places aT_before aT_since aO K_warm K_count K_seeds K_blocks K_rivals K_strengths K_faces K_showing S_pieces S_grown S_fitsInAll S_staleCount S_atLeast1 S_atLeast2 S_atLeast3 S_cells T_made T_kept T_fromClear T_pieces T_places T_since) H := hP
  have hD : va_D A (w_X2_hasRival cI cJ cZ cO aK aK_strengths aK_kinds aK_marks aK_faces aK_bars aK_showing aK_showingRight aK_barring aS aS_cells aS_fits aS_fitsInLine aS_stale aS_staleCells aS_seen aS_queue aT aT_acts aT_pieces aT_places aT_before aT_since aO K_warm K_count K_seeds K_blocks K_rivals K_strengths K_faces K_showing S_pieces S_grown S_fitsInAll S_staleCount S_atLeast1 S_atLeast2 S_atLeast3 S_cells T_made T_kept T_fromClear T_pieces T_places T_since) := hD
  refine cx_gol (va_runV (As := [.int v8, .int r47]) (rest := []) ⟨hx, hb, hml, hown, hts⟩ (c_X4_heldAt l D cI cJ cZ cO tS tT H.size aK aK_strengths aK_kinds aK_marks aK_faces aK_bars aK_showing aK_showingRight aK_barring aS aS_cells aS_fits aS_fitsInLine aS_stale aS_staleCells aS_seen aS_queue K_warm K_count K_seeds K_blocks K_rivals K_strengths K_faces K_showing S_pieces S_grown S_fitsInAll S_staleCount S_atLeast1 S_atLeast2 S_atLeast3 S_cells v8 r47 _ hw) (cwV 2 hts gX2_hasRival_X4_heldAt rfl rfl rfl pv_X4_heldAt ⟨Nat.le_of_ble_eq_true rfl, Nat.le_of_ble_eq_true rfl⟩) (cx_preV (wc := w_X4_heldAt cI cJ cZ cO aK aK_strengths aK_kinds aK_marks aK_faces aK_bars aK_showing aK_showingRight aK_barring aS aS_cells aS_fits aS_fitsInLine aS_stale aS_staleCells aS_seen aS_queue K_warm K_count K_seeds K_blocks K_rivals K_strengths K_faces K_showing S_pieces S_grown S_fitsInAll S_staleCount S_atLeast1 S_atLeast2 S_atLeast3 S_cells) hE hK hP hD hS hA [0, 1, 2, 3, 4, 5] rfl rfl (va_recv hK hP (ci := 4) (q0 := 4) rfl rfl)) rfl rfl hl.1 rfl (lv_room (Nat.le_of_ble_eq_true rfl)) dX2_hasRival_50 ⟨Nat.le_of_ble_eq_true rfl, Nat.le_of_ble_eq_true rfl⟩) (fun (u : (Int64) × (Int64) × (Int64)) => (w_X2_hasRival cI cJ cZ cO aK aK_strengths aK_kinds aK_marks aK_faces aK_bars aK_showing aK_showingRight aK_barring aS aS_cells aS_fits aS_fitsInLine aS_stale aS_staleCells aS_seen aS_queue aT aT_acts aT_pieces aT_places aT_before aT_since aO K_warm K_count K_seeds K_blocks K_rivals K_strengths K_faces K_showing S_pieces S_grown S_fitsInAll S_staleCount u.1 u.2.1 u.2.2 S_cells T_made T_kept T_fromClear T_pieces T_places T_since)) [0, 1, 2, 3, 4, 5] [6, 7, 8, 9, 10] (ads := [aK, aK_strengths, aK_faces, aK_showing, aS, aS_cells]) (wr := [(aT, .inr (5, [.int T_made, .int T_kept, .int T_fromClear, .ref aT_acts, .ref aT_pieces, .ref aT_places, .ref aT_before, .ref aT_since])), (aT_pieces, .inl (cI, 200, .inl T_pieces)), (aT_places, .inl (cI, 200, .inl T_places)), (aT_since, .inl (cI, 324, .inl T_since)), (aO, .inr (2, [.ref aK, .ref aS, .ref aT]))]) rfl rfl (fun u => rfl) (fun u => rfl) rfl (fun u => rfl) rfl (fun u => rfl) rfl hP hD hS hA (fun r50 u H locs hw hP hD hS => ?_)
  obtain ⟨S_atLeast1_50, S_atLeast2_50, S_atLeast3_50⟩ := u
  try dsimp only at hw
  have hP : va_P D vwCl (w_X2_hasRival cI cJ cZ cO aK aK_strengths aK_kinds aK_marks aK_faces aK_bars aK_showing aK_showingRight aK_barring aS aS_cells aS_fits aS_fitsInLine aS_stale aS_staleCells aS_seen aS_queue aT aT_acts aT_pieces aT_places aT_before aT_since aO K_warm K_count K_seeds K_blocks K_rivals K_strengths K_faces K_showing S_pieces S_grown S_fitsInAll S_staleCount S_atLeast1_50 S_atLeast2_50 S_atLeast3_50 S_cells T_made T_kept T_fromClear T_pieces T_places T_since) H := hP
  have hD : va_D A (w_X2_hasRival cI cJ cZ cO aK aK_strengths aK_kinds aK_marks aK_faces aK_bars aK_showing aK_showingRight aK_barring aS aS_cells aS_fits aS_fitsInLine aS_stale aS_staleCells aS_seen aS_queue aT aT_acts aT_pieces aT_places aT_before aT_since aO K_warm K_count K_seeds K_blocks K_rivals K_strengths K_faces K_showing S_pieces S_grown S_fitsInAll S_staleCount S_atLeast1_50 S_atLeast2_50 S_atLeast3_50 S_cells T_made T_kept T_fromClear T_pieces T_places T_since) := hD
  refine lv_lload hx hb dX2_hasRival_53 (lv_at hl 0 rfl) ?_
  refine lv_land hx hb dX2_hasRival_55 ?_
  refine lv_lconst (v := (0 : Int64)) hx hb dX2_hasRival_56 kL_0 ?_
  refine W.lcmp hx hb dX2_hasRival_57 ?_
  refine lv_if_eq (tgt := 65) hx hb dX2_hasRival_58 (by decide) (fun c58 => ?_) (fun c58 => ?_)
  · have hw := hw.1 c58
    refine lv_iconst (v := (0 : Int32)) hx hb dX2_hasRival_65 kI_0 ?_
    rw [hZ]
    exact cx_retz (S_atLeast1_50, S_atLeast2_50, S_atLeast3_50) hx hb hr hlocks rfl hw hP hS dX2_hasRival_66
  · have hw := hw.2 c58
    refine lv_iconst (v := (1 : Int32)) hx hb dX2_hasRival_61 kI_1 ?_
    refine lv_goto (tgt := 66) hx hb dX2_hasRival_62 (by decide) ?_
    rw [hZ]
    exact cx_retz (S_atLeast1_50, S_atLeast2_50, S_atLeast3_50) hx hb hr hlocks rfl hw hP hS dX2_hasRival_66
set_option maxRecDepth 100000 in
set_option maxHeartbeats 4000000 in
theorem c_X4_isRightFree (l : Launch) (D : va_G) (cI cJ cZ cO : ClassId) (tS tT : Nat) (sz : Nat) (aS aK aS_cells aS_fits aS_fitsInLine aS_stale aS_staleCells aS_seen aS_queue : Nat) (S_pieces : Int32) (S_grown : Int32) (S_fitsInAll : Int32) (S_staleCount : Int32) (S_atLeast1 : Int64) (S_atLeast2 : Int64) (S_atLeast3 : Int64) (S_cells : Nat → Int32) (p1 : Int32) (Q : Int32 → Prop) (hw : wp_X4_isRightFree S_cells p1 Q) : Met l yX4_isRightFree wsX4_isRightFree rm_X4_isRightFree (va_Pc [.ref aS, .int p1] (cx_B tS tT cI cJ cZ cO D sz (w_X4_isRightFree cI cJ cZ cO aS aK aS_cells aS_fits aS_fitsInLine aS_stale aS_staleCells aS_seen aS_queue S_pieces S_grown S_fitsInAll S_staleCount S_atLeast1 S_atLeast2 S_atLeast3 S_cells))) (va_Qi (fun (r : Int32) (_ : Unit) => Q r) (fun (u : Unit) t => va_P D vwCl (w_X4_isRightFree cI cJ cZ cO aS aK aS_cells aS_fits aS_fitsInLine aS_stale aS_staleCells aS_seen aS_queue S_pieces S_grown S_fitsInAll S_staleCount S_atLeast1 S_atLeast2 S_atLeast3 S_cells) t.heap) (va_A (w_X4_isRightFree cI cJ cZ cO aS aK aS_cells aS_fits aS_fitsInLine aS_stale aS_staleCells aS_seen aS_queue S_pieces S_grown S_fitsInAll S_staleCount S_atLeast1 S_atLeast2 S_atLeast3 S_cells) sz)) 0 0 (va_A (w_X4_isRightFree cI cJ cZ cO aS aK aS_cells aS_fits aS_fitsInLine aS_stale aS_staleCells aS_seen aS_queue S_pieces S_grown S_fitsInAll S_staleCount S_atLeast1 S_atLeast2 S_atLeast3 S_cells) sz) := by
  refine cx_met (cc := cX4_isRightFree) (maxL := 2) (ret := (some .boolean)) (Qc := fun A => va_Qi (fun (r : Int32) (_ : Unit) => Q r) (fun (u : Unit) t => va_P D vwCl (w_X4_isRightFree cI cJ cZ cO aS aK aS_cells aS_fits aS_fitsInLine aS_stale aS_staleCells aS_seen aS_queue S_pieces S_grown S_fitsInAll S_staleCount S_atLeast1 S_atLeast2 S_atLeast3 S_cells) t.heap) A) (lv := [(0, .ref aS), (1, .int p1)]) (by decide) rfl (Nat.le_of_ble_eq_true rfl) rfl ?_
  intro p e s m args below meth c A Z hx hb hr hlocks hts hown hml hE hK hA hZ
  have hown : s.vm.findClass RX4 = some m.cls := hown
  have k_0 := hts (.initialized RX7) (List.mem_of_getElem? (i := 3) (by decide +kernel))
  have k_1 := hts (.static yX7_columnOf) (List.mem_of_getElem? (i := 2) (by decide +kernel))
  have k_2 := hts (.fieldLink RX4 15 "GrowingTiles$Sheet" "cells" "[I") (List.mem_of_getElem? (i := 1) (by decide +kernel))
  intro H locs hP hD hS ls hl
  unfold wp_X4_isRightFree at hw
  refine lv_iload_n hx hb dX4_isRightFree_0 rfl (lv_at hl 1 rfl) ?_
  refine cx_goi (va_runSN (As := [.int p1]) (rest := []) ⟨hx, hb, hml, hown, hts⟩ (c_X7_columnOf l D cI cJ cZ cO tS tT H.size p1 _ hw) ⟨va_cnB 1 hts gX4_isRightFree_X7_columnOf_n61 rfl rfl rfl (hE.1.2.2.2.1) k_0 ps_X7_columnOf ⟨Nat.le_of_ble_eq_true rfl, Nat.le_of_ble_eq_true rfl⟩, k_1, trivial⟩ (cx_preS (wc := w_X7_columnOf) hE hK hP hD hS hA [] rfl rfl) rfl rfl hl.1 rfl (lv_room (Nat.le_of_ble_eq_true rfl)) dX4_isRightFree_1 ⟨Nat.le_of_ble_eq_true rfl, Nat.le_of_ble_eq_true rfl⟩) (fun (_ : Unit) => (w_X4_isRightFree cI cJ cZ cO aS aK aS_cells aS_fits aS_fitsInLine aS_stale aS_staleCells aS_seen aS_queue S_pieces S_grown S_fitsInAll S_staleCount S_atLeast1 S_atLeast2 S_atLeast3 S_cells)) [] [0, 1] (ads := []) (wr := [(aS, .inr (4, [.ref aK, .ref aS_cells, .int S_pieces, .int S_grown, .ref aS_fits, .ref aS_fitsInLine, .int S_fitsInAll, .ref aS_stale, .ref aS_staleCells, .int S_staleCount, .long S_atLeast1, .long S_atLeast2, .long S_atLeast3, .ref aS_seen, .ref aS_queue])), (aS_cells, .inl (cI, 324, .inl S_cells))]) rfl rfl (fun u => rfl) (fun u => rfl) rfl (fun u => rfl) rfl (fun u => rfl) rfl hP hD hS hA (fun r1 u H locs hw hP hD hS => ?_)
  refine lv_bipush (v := (15 : Int32)) hx hb dX4_isRightFree_4 kB_15 ?_
  refine lv_icmp_ge (tgt := 24) hx hb dX4_isRightFree_6 (by decide) (fun c6 => ?_) (fun c6 => ?_)
  · have hw := hw.1 c6
    refine lv_iconst (v := (0 : Int32)) hx hb dX4_isRightFree_24 kI_0 ?_
    rw [hZ]
    exact cx_retz () hx hb hr hlocks rfl hw hP hS dX4_isRightFree_25
  · have hw := hw.2 c6
    refine lv_aload_n hx hb dX4_isRightFree_9 rfl (lv_at hl 0 rfl) ?_
    refine va_get (D := D) (ci := 4) (v := .ref aS_cells) (C := RX4) (T := TX4) (N := 15) hx hb hts in_X4_isRightFree_X4 hown hK hP 0 rfl rfl 1 (by decide) k_2 (fun _ h9 => h9) rfl dX4_isRightFree_10 ?_
    refine lv_iload_n hx hb dX4_isRightFree_13 rfl (lv_at hl 1 rfl) ?_
    refine lv_iconst (v := (1 : Int32)) hx hb dX4_isRightFree_14 kI_1 ?_
    refine lv_iadd hx hb dX4_isRightFree_15 ?_
    have h16 := hw.1
    have hw := hw.2
    refine va_iald hx hb hK hP 1 0 rfl rfl h16 dX4_isRightFree_16 ?_
    refine lv_topi (fun v16 e16 => ?_)
    have hw := hw v16 e16
    refine lv_if_ne (tgt := 24) hx hb dX4_isRightFree_17 (by decide) (fun c17 => ?_) (fun c17 => ?_)
    · have hw := hw.1 c17
      refine lv_iconst (v := (0 : Int32)) hx hb dX4_isRightFree_24 kI_0 ?_
      rw [hZ]
      exact cx_retz () hx hb hr hlocks rfl hw hP hS dX4_isRightFree_25
    · have hw := hw.2 c17
      refine lv_iconst (v := (1 : Int32)) hx hb dX4_isRightFree_20 kI_1 ?_
      refine lv_goto (tgt := 25) hx hb dX4_isRightFree_21 (by decide) ?_
      rw [hZ]
      exact cx_retz () hx hb hr hlocks rfl hw hP hS dX4_isRightFree_25
set_option maxRecDepth 100000 in
set_option maxHeartbeats 4000000 in
theorem c_X4_isBarredFromBeside (l : Launch) (D : va_G) (cI cJ cZ cO : ClassId) (tS tT : Nat) (sz : Nat) (aK aK_strengths aK_kinds aK_marks aK_faces aK_bars aK_showing aK_showingRight aK_barring aS aS_cells aS_fits aS_fitsInLine aS_stale aS_staleCells aS_seen aS_queue : Nat) (K_warm : Int32) (K_count : Int32) (K_seeds : Int64) (K_blocks : Int64) (K_rivals : Int64) (K_bars : Nat → Int32) (S_pieces : Int32) (S_grown : Int32) (S_fitsInAll : Int32) (S_staleCount : Int32) (S_atLeast1 : Int64) (S_atLeast2 : Int64) (S_atLeast3 : Int64) (S_cells : Nat → Int32) (p1 : Int32) (Q : Int32 → Prop) (hw : wp_X4_isBarredFromBeside K_bars S_cells p1 Q) : Met l yX4_isBarredFromBeside wsX4_isBarredFromBeside rm_X4_isBarredFromBeside (va_Pc [.ref aS, .int p1] (cx_B tS tT cI cJ cZ cO D sz (w_X4_isBarredFromBeside cI cJ cZ cO aK aK_strengths aK_kinds aK_marks aK_faces aK_bars aK_showing aK_showingRight aK_barring aS aS_cells aS_fits aS_fitsInLine aS_stale aS_staleCells aS_seen aS_queue K_warm K_count K_seeds K_blocks K_rivals K_bars S_pieces S_grown S_fitsInAll S_staleCount S_atLeast1 S_atLeast2 S_atLeast3 S_cells))) (va_Qi (fun (r : Int32) (_ : Unit) => Q r) (fun (u : Unit) t => va_P D vwCl (w_X4_isBarredFromBeside cI cJ cZ cO aK aK_strengths aK_kinds aK_marks aK_faces aK_bars aK_showing aK_showingRight aK_barring aS aS_cells aS_fits aS_fitsInLine aS_stale aS_staleCells aS_seen aS_queue K_warm K_count K_seeds K_blocks K_rivals K_bars S_pieces S_grown S_fitsInAll S_staleCount S_atLeast1 S_atLeast2 S_atLeast3 S_cells) t.heap) (va_A (w_X4_isBarredFromBeside cI cJ cZ cO aK aK_strengths aK_kinds aK_marks aK_faces aK_bars aK_showing aK_showingRight aK_barring aS aS_cells aS_fits aS_fitsInLine aS_stale aS_staleCells aS_seen aS_queue K_warm K_count K_seeds K_blocks K_rivals K_bars S_pieces S_grown S_fitsInAll S_staleCount S_atLeast1 S_atLeast2 S_atLeast3 S_cells) sz)) 0 0 (va_A (w_X4_isBarredFromBeside cI cJ cZ cO aK aK_strengths aK_kinds aK_marks aK_faces aK_bars aK_showing aK_showingRight aK_barring aS aS_cells aS_fits aS_fitsInLine aS_stale aS_staleCells aS_seen aS_queue K_warm K_count K_seeds K_blocks K_rivals K_bars S_pieces S_grown S_fitsInAll S_staleCount S_atLeast1 S_atLeast2 S_atLeast3 S_cells) sz) := by
  refine cx_met (cc := cX4_isBarredFromBeside) (maxL := 4) (ret := (some .boolean)) (Qc := fun A => va_Qi (fun (r : Int32) (_ : Unit) => Q r) (fun (u : Unit) t => va_P D vwCl (w_X4_isBarredFromBeside cI cJ cZ cO aK aK_strengths aK_kinds aK_marks aK_faces aK_bars aK_showing aK_showingRight aK_barring aS aS_cells aS_fits aS_fitsInLine aS_stale aS_staleCells aS_seen aS_queue K_warm K_count K_seeds K_blocks K_rivals K_bars S_pieces S_grown S_fitsInAll S_staleCount S_atLeast1 S_atLeast2 S_atLeast3 S_cells) t.heap) A) (lv := [(0, .ref aS), (1, .int p1)]) (by decide) rfl (Nat.le_of_ble_eq_true rfl) rfl ?_
  intro p e s m args below meth c A Z hx hb hr hlocks hts hown hml hE hK hA hZ
  have hown : s.vm.findClass RX4 = some m.cls := hown
  have k_0 := hts (.fieldLink RX4 15 "GrowingTiles$Sheet" "cells" "[I") (List.mem_of_getElem? (i := 1) (by decide +kernel))
  have k_1 := hts (.fieldLink RX4 9 "GrowingTiles$Sheet" "kit" "LGrowingTiles$Kit;") (List.mem_of_getElem? (i := 2) (by decide +kernel))
  have k_2 := hts (.fieldLink RX4 185 "GrowingTiles$Kit" "bars" "[I") (List.mem_of_getElem? (i := 3) (by decide +kernel))
  have b_2 : ∀ n_2 : Nat, ∀ (x1 : Int32) (x2 : Int32), wq_X4_isBarredFromBeside_2 K_bars S_cells Q n_2 x1 x2 → ∀ (H : Heap) (locs : List Loc), va_P D vwCl (w_X4_isBarredFromBeside cI cJ cZ cO aK aK_strengths aK_kinds aK_marks aK_faces aK_bars aK_showing aK_showingRight aK_barring aS aS_cells aS_fits aS_fitsInLine aS_stale aS_staleCells aS_seen aS_queue K_warm K_count K_seeds K_blocks K_rivals K_bars S_pieces S_grown S_fitsInAll S_staleCount S_atLeast1 S_atLeast2 S_atLeast3 S_cells) H → va_D A (w_X4_isBarredFromBeside cI cJ cZ cO aK aK_strengths aK_kinds aK_marks aK_faces aK_bars aK_showing aK_showingRight aK_barring aS aS_cells aS_fits aS_fitsInLine aS_stale aS_staleCells aS_seen aS_queue K_warm K_count K_seeds K_blocks K_rivals K_bars S_pieces S_grown S_fitsInAll S_staleCount S_atLeast1 S_atLeast2 S_atLeast3 S_cells) → va_S A s.heap H locs → ∀ ls : Array Slot, lv_has ls 4 [(0, .ref aS), (1, .int x1), (2, .int x2)] → W p l e rm_X4_isBarredFromBeside s m args below meth c H locs 0 0 Z (F0 m 2 ls []) := by
    intro n_2
    induction n_2 with
    | zero => intro x1 x2 hw; exact False.elim hw
    | succ n_2 ih_2 =>
      intro x1 x2 hw H locs hP hD hS ls hl
      have hw : wf_X4_isBarredFromBeside_2 K_bars S_cells Q (wq_X4_isBarredFromBeside_2 K_bars S_cells Q n_2) x1 x2 := hw
      unfold wf_X4_isBarredFromBeside_2 at hw
      refine lv_iload_n hx hb dX4_isBarredFromBeside_2 rfl (lv_at hl 2 rfl) ?_
      refine lv_iconst (v := (4 : Int32)) hx hb dX4_isBarredFromBeside_3 kI_4 ?_
      refine lv_icmp_ge (tgt := 47) hx hb dX4_isBarredFromBeside_4 (by decide) (fun c4 => ?_) (fun c4 => ?_)
      · have hw := hw.1 c4
        refine lv_iconst (v := (0 : Int32)) hx hb dX4_isBarredFromBeside_47 kI_0 ?_
        rw [hZ]
        exact cx_retz () hx hb hr hlocks rfl hw hP hS dX4_isBarredFromBeside_48
      · have hw := hw.2 c4
        refine lv_aload_n hx hb dX4_isBarredFromBeside_7 rfl (lv_at hl 0 rfl) ?_
        refine va_get (D := D) (ci := 4) (v := .ref aS_cells) (C := RX4) (T := TX4) (N := 15) hx hb hts in_X4_isBarredFromBeside_X4 hown hK hP 2 rfl rfl 1 (by decide) k_0 (fun _ h9 => h9) rfl dX4_isBarredFromBeside_8 ?_
        refine lv_iload_n hx hb dX4_isBarredFromBeside_11 rfl (lv_at hl 1 rfl) ?_
        refine va_getsN hx hb hE.2.1 hS hown (va_Nw.use rfl (hE.1.2.2.2.2.1)) (fun _ h9 => h9) dX4_isBarredFromBeside_12 ?_
        refine lv_iload_n hx hb dX4_isBarredFromBeside_15 rfl (lv_at hl 2 rfl) ?_
        have h16 := hw.1
        have hw := hw.2
        refine va_ti hx hb hE.2.2.1 hS h16 rfl dX4_isBarredFromBeside_16 ?_
        refine lv_topi (fun v16 e16 => ?_)
        have hw := hw v16 e16
        refine lv_iadd hx hb dX4_isBarredFromBeside_17 ?_
        have h18 := hw.1
        have hw := hw.2
        refine va_iald hx hb hK hP 3 0 rfl rfl h18 dX4_isBarredFromBeside_18 ?_
        refine lv_topi (fun v18 e18 => ?_)
        have hw := hw v18 e18
        refine lv_istore_n (lv' := [(3, .int v18), (0, .ref aS), (1, .int x1), (2, .int x2)]) hx hb dX4_isBarredFromBeside_19 rfl hl (by decide) rfl (fun ls hl => ?_)
        refine lv_aload_n hx hb dX4_isBarredFromBeside_20 rfl (lv_at hl 1 rfl) ?_
        refine va_get (D := D) (ci := 4) (v := .ref aK) (C := RX4) (T := TX4) (N := 15) hx hb hts in_X4_isBarredFromBeside_X4 hown hK hP 2 rfl rfl 0 (by decide) k_1 (fun _ h9 => h9) rfl dX4_isBarredFromBeside_21 ?_
        refine va_get (D := D) (ci := 1) (v := .ref aK_bars) (C := RX1) (T := TX1) (N := 13) hx hb hts in_X4_isBarredFromBeside_X1 hown hK hP 0 rfl rfl 6 (by decide) k_2 (fun _ h9 => h9) rfl dX4_isBarredFromBeside_24 ?_
        refine lv_iload_n hx hb dX4_isBarredFromBeside_27 rfl (lv_at hl 0 rfl) ?_
        have h28 := hw.1
        have hw := hw.2
        refine va_iald hx hb hK hP 1 0 rfl rfl h28 dX4_isBarredFromBeside_28 ?_
        refine lv_topi (fun v28 e28 => ?_)
        have hw := hw v28 e28
        refine lv_iload_n hx hb dX4_isBarredFromBeside_29 rfl (lv_at hl 3 rfl) ?_
        refine lv_iconst (v := (2 : Int32)) hx hb dX4_isBarredFromBeside_30 kI_2 ?_
        refine lv_ixor hx hb dX4_isBarredFromBeside_31 ?_
        refine lv_iushr hx hb dX4_isBarredFromBeside_32 rfl ?_
        refine lv_iconst (v := (1 : Int32)) hx hb dX4_isBarredFromBeside_33 kI_1 ?_
        refine lv_iand hx hb dX4_isBarredFromBeside_34 ?_
        refine lv_iconst (v := (1 : Int32)) hx hb dX4_isBarredFromBeside_35 kI_1 ?_
        refine lv_icmp_ne (tgt := 41) hx hb dX4_isBarredFromBeside_36 (by decide) (fun c36 => ?_) (fun c36 => ?_)
        · have hw := hw.1 c36
          obtain ⟨v41, e41⟩ : ∃ y : Int32, y = x2 + (1 : Int32) := ⟨_, rfl⟩
          have hw := hw v41 e41
          refine lv_iinc (v := v41) (lv' := [(2, .int v41), (3, .int v18), (0, .ref aS), (1, .int x1)]) hx hb dX4_isBarredFromBeside_41 hl (k := 3) rfl (by rw [e41, kI_1]) (by decide) rfl (fun ls hl => ?_)
          refine lv_goto (tgt := 2) hx hb dX4_isBarredFromBeside_44 (by decide) ?_
          exact ih_2 x1 v41 hw H locs hP hD hS ls (lv_sub hl [2, 3, 0] rfl)
        · have hw := hw.2 c36
          refine lv_iconst (v := (1 : Int32)) hx hb dX4_isBarredFromBeside_39 kI_1 ?_
          rw [hZ]
          exact cx_retz () hx hb hr hlocks rfl hw hP hS dX4_isBarredFromBeside_40
  intro H locs hP hD hS ls hl
  unfold wp_X4_isBarredFromBeside at hw
  refine lv_iconst (v := (0 : Int32)) hx hb dX4_isBarredFromBeside_0 kI_0 ?_
  refine lv_istore_n (lv' := [(2, .int (0 : Int32)), (0, .ref aS), (1, .int p1)]) hx hb dX4_isBarredFromBeside_1 rfl hl (by decide) rfl (fun ls hl => ?_)
  obtain ⟨k, hw⟩ := hw
  exact b_2 k p1 (0 : Int32) hw H locs hP hD hS ls (lv_sub hl [1, 2, 0] rfl)
set_option maxRecDepth 100000 in
set_option maxHeartbeats 4000000 in
theorem c_X4_barredAt (l : Launch) (D : va_G) (cI cJ cZ cO : ClassId) (tS tT : Nat) (sz : Nat) (aK aK_strengths aK_kinds aK_marks aK_faces aK_bars aK_showing aK_showingRight aK_barring aS aS_cells aS_fits aS_fitsInLine aS_stale aS_staleCells aS_seen aS_queue : Nat) (K_warm : Int32) (K_count : Int32) (K_seeds : Int64) (K_blocks : Int64) (K_rivals : Int64) (K_bars : Nat → Int32) (K_barring : Nat → Int64) (S_pieces : Int32) (S_grown : Int32) (S_fitsInAll : Int32) (S_staleCount : Int32) (S_atLeast1 : Int64) (S_atLeast2 : Int64) (S_atLeast3 : Int64) (S_cells : Nat → Int32) (p1 : Int32) (Q : Int64 → Prop) (hw : wp_X4_barredAt K_bars K_barring S_cells p1 Q) : Met l yX4_barredAt wsX4_barredAt rm_X4_barredAt (va_Pc [.ref aS, .int p1] (cx_B tS tT cI cJ cZ cO D sz (w_X4_barredAt cI cJ cZ cO aK aK_strengths aK_kinds aK_marks aK_faces aK_bars aK_showing aK_showingRight aK_barring aS aS_cells aS_fits aS_fitsInLine aS_stale aS_staleCells aS_seen aS_queue K_warm K_count K_seeds K_blocks K_rivals K_bars K_barring S_pieces S_grown S_fitsInAll S_staleCount S_atLeast1 S_atLeast2 S_atLeast3 S_cells))) (va_Ql (fun (r : Int64) (_ : Unit) => Q r) (fun (u : Unit) t => va_P D vwCl (w_X4_barredAt cI cJ cZ cO aK aK_strengths aK_kinds aK_marks aK_faces aK_bars aK_showing aK_showingRight aK_barring aS aS_cells aS_fits aS_fitsInLine aS_stale aS_staleCells aS_seen aS_queue K_warm K_count K_seeds K_blocks K_rivals K_bars K_barring S_pieces S_grown S_fitsInAll S_staleCount S_atLeast1 S_atLeast2 S_atLeast3 S_cells) t.heap) (va_A (w_X4_barredAt cI cJ cZ cO aK aK_strengths aK_kinds aK_marks aK_faces aK_bars aK_showing aK_showingRight aK_barring aS aS_cells aS_fits aS_fitsInLine aS_stale aS_staleCells aS_seen aS_queue K_warm K_count K_seeds K_blocks K_rivals K_bars K_barring S_pieces S_grown S_fitsInAll S_staleCount S_atLeast1 S_atLeast2 S_atLeast3 S_cells) sz)) 0 0 (va_A (w_X4_barredAt cI cJ cZ cO aK aK_strengths aK_kinds aK_marks aK_faces aK_bars aK_showing aK_showingRight aK_barring aS aS_cells aS_fits aS_fitsInLine aS_stale aS_staleCells aS_seen aS_queue K_warm K_count K_seeds K_blocks K_rivals K_bars K_barring S_pieces S_grown S_fitsInAll S_staleCount S_atLeast1 S_atLeast2 S_atLeast3 S_cells) sz) := by
  refine cx_met (cc := cX4_barredAt) (maxL := 5) (ret := (some .long)) (Qc := fun A => va_Ql (fun (r : Int64) (_ : Unit) => Q r) (fun (u : Unit) t => va_P D vwCl (w_X4_barredAt cI cJ cZ cO aK aK_strengths aK_kinds aK_marks aK_faces aK_bars aK_showing aK_showingRight aK_barring aS aS_cells aS_fits aS_fitsInLine aS_stale aS_staleCells aS_seen aS_queue K_warm K_count K_seeds K_blocks K_rivals K_bars K_barring S_pieces S_grown S_fitsInAll S_staleCount S_atLeast1 S_atLeast2 S_atLeast3 S_cells) t.heap) A) (lv := [(0, .ref aS), (1, .int p1)]) (by decide) rfl (Nat.le_of_ble_eq_true rfl) rfl ?_
  intro p e s m args below meth c A Z hx hb hr hlocks hts hown hml hE hK hA hZ
  have hown : s.vm.findClass RX4 = some m.cls := hown
  have k_0 := hts (.fieldLink RX4 15 "GrowingTiles$Sheet" "cells" "[I") (List.mem_of_getElem? (i := 2) (by decide +kernel))
  have k_1 := hts (.fieldLink RX4 9 "GrowingTiles$Sheet" "kit" "LGrowingTiles$Kit;") (List.mem_of_getElem? (i := 3) (by decide +kernel))
  have k_2 := hts (.fieldLink RX4 182 "GrowingTiles$Kit" "barring" "[J") (List.mem_of_getElem? (i := 4) (by decide +kernel))
  have k_3 := hts (.constantLong RX4 156 (-1 : Int64)) (List.mem_of_getElem? (i := 1) (by decide +kernel))
  have b_17 : ∀ n_17 : Nat, ∀ (x1 : Int32) (x2 : Int64) (x4 : Int32), wq_X4_barredAt_17 K_bars K_barring S_cells Q n_17 x1 x2 x4 → ∀ (H : Heap) (locs : List Loc), va_P D vwCl (w_X4_barredAt cI cJ cZ cO aK aK_strengths aK_kinds aK_marks aK_faces aK_bars aK_showing aK_showingRight aK_barring aS aS_cells aS_fits aS_fitsInLine aS_stale aS_staleCells aS_seen aS_queue K_warm K_count K_seeds K_blocks K_rivals K_bars K_barring S_pieces S_grown S_fitsInAll S_staleCount S_atLeast1 S_atLeast2 S_atLeast3 S_cells) H → va_D A (w_X4_barredAt cI cJ cZ cO aK aK_strengths aK_kinds aK_marks aK_faces aK_bars aK_showing aK_showingRight aK_barring aS aS_cells aS_fits aS_fitsInLine aS_stale aS_staleCells aS_seen aS_queue K_warm K_count K_seeds K_blocks K_rivals K_bars K_barring S_pieces S_grown S_fitsInAll S_staleCount S_atLeast1 S_atLeast2 S_atLeast3 S_cells) → va_S A s.heap H locs → ∀ ls : Array Slot, lv_has ls 5 [(0, .ref aS), (1, .int x1), (2, .long x2), (4, .int x4)] → W p l e rm_X4_barredAt s m args below meth c H locs 0 0 Z (F0 m 17 ls []) := by
    intro n_17
    induction n_17 with
    | zero => intro x1 x2 x4 hw; exact False.elim hw
    | succ n_17 ih_17 =>
      intro x1 x2 x4 hw H locs hP hD hS ls hl
      have hw : wf_X4_barredAt_17 K_bars K_barring S_cells Q (wq_X4_barredAt_17 K_bars K_barring S_cells Q n_17) x1 x2 x4 := hw
      unfold wf_X4_barredAt_17 at hw
      refine lv_iload hx hb dX4_barredAt_17 (lv_at hl 3 rfl) ?_
      refine lv_iconst (v := (4 : Int32)) hx hb dX4_barredAt_19 kI_4 ?_
      refine lv_icmp_ge (tgt := 58) hx hb dX4_barredAt_20 (by decide) (fun c20 => ?_) (fun c20 => ?_)
      · have hw := hw.1 c20
        refine lv_lload_n hx hb dX4_barredAt_58 rfl (lv_at hl 2 rfl) ?_
        rw [hZ]
        exact cx_retl () hx hb hr hlocks hw hP hS dX4_barredAt_59
      · have hw := hw.2 c20
        refine lv_aload_n hx hb dX4_barredAt_23 rfl (lv_at hl 0 rfl) ?_
        refine va_get (D := D) (ci := 4) (v := .ref aS_cells) (C := RX4) (T := TX4) (N := 15) hx hb hts in_X4_barredAt_X4 hown hK hP 3 rfl rfl 1 (by decide) k_0 (fun _ h9 => h9) rfl dX4_barredAt_24 ?_
        refine lv_iload_n hx hb dX4_barredAt_27 rfl (lv_at hl 1 rfl) ?_
        refine va_getsN hx hb hE.2.1 hS hown (va_Nw.use rfl (hE.1.2.2.2.2.1)) (fun _ h9 => h9) dX4_barredAt_28 ?_
        refine lv_iload hx hb dX4_barredAt_31 (lv_at hl 3 rfl) ?_
        have h33 := hw.1
        have hw := hw.2
        refine va_ti hx hb hE.2.2.1 hS h33 rfl dX4_barredAt_33 ?_
        refine lv_topi (fun v33 e33 => ?_)
        have hw := hw v33 e33
        refine lv_iadd hx hb dX4_barredAt_34 ?_
        have h35 := hw.1
        have hw := hw.2
        refine va_iald hx hb hK hP 4 0 rfl rfl h35 dX4_barredAt_35 ?_
        refine lv_topi (fun v35 e35 => ?_)
        have hw := hw v35 e35
        refine lv_if_eq (tgt := 52) hx hb dX4_barredAt_36 (by decide) (fun c36 => ?_) (fun c36 => ?_)
        · have hw := hw.1 c36
          obtain ⟨v52, e52⟩ : ∃ y : Int32, y = x4 + (1 : Int32) := ⟨_, rfl⟩
          have hw := hw v52 e52
          refine lv_iinc (v := v52) (lv' := [(4, .int v52), (0, .ref aS), (1, .int x1), (2, .long x2)]) hx hb dX4_barredAt_52 hl (k := 3) rfl (by rw [e52, kI_1]) (by decide) rfl (fun ls hl => ?_)
          refine lv_goto (tgt := 17) hx hb dX4_barredAt_55 (by decide) ?_
          exact ih_17 x1 x2 v52 hw H locs hP hD hS ls (lv_sub hl [1, 2, 3, 0] rfl)
        · have hw := hw.2 c36
          refine lv_lload_n hx hb dX4_barredAt_39 rfl (lv_at hl 2 rfl) ?_
          refine lv_aload_n hx hb dX4_barredAt_40 rfl (lv_at hl 0 rfl) ?_
          refine va_get (D := D) (ci := 4) (v := .ref aK) (C := RX4) (T := TX4) (N := 15) hx hb hts in_X4_barredAt_X4 hown hK hP 3 rfl rfl 0 (by decide) k_1 (fun _ h9 => h9) rfl dX4_barredAt_41 ?_
          refine va_get (D := D) (ci := 1) (v := .ref aK_barring) (C := RX1) (T := TX1) (N := 13) hx hb hts in_X4_barredAt_X1 hown hK hP 0 rfl rfl 9 (by decide) k_2 (fun _ h9 => h9) rfl dX4_barredAt_44 ?_
          refine lv_iload hx hb dX4_barredAt_47 (lv_at hl 3 rfl) ?_
          have h49 := hw.1
          have hw := hw.2
          refine va_lald hx hb hK hP 2 1 rfl rfl h49 dX4_barredAt_49 ?_
          refine lv_topl (fun v49 e49 => ?_)
          have hw := hw v49 e49
          refine lv_lor hx hb dX4_barredAt_50 ?_
          refine lv_topl (fun v51 e51 => ?_)
          have hw := hw v51 e51
          refine lv_lstore_n (lv' := [(2, .long v51), (0, .ref aS), (1, .int x1), (4, .int x4)]) hx hb dX4_barredAt_51 rfl hl (by decide) rfl (fun ls hl => ?_)
          obtain ⟨v52, e52⟩ : ∃ y : Int32, y = x4 + (1 : Int32) := ⟨_, rfl⟩
          have hw := hw v52 e52
          refine lv_iinc (v := v52) (lv' := [(4, .int v52), (2, .long v51), (0, .ref aS), (1, .int x1)]) hx hb dX4_barredAt_52 hl (k := 3) rfl (by rw [e52, kI_1]) (by decide) rfl (fun ls hl => ?_)
          refine lv_goto (tgt := 17) hx hb dX4_barredAt_55 (by decide) ?_
          exact ih_17 x1 v51 v52 hw H locs hP hD hS ls (lv_sub hl [2, 3, 1, 0] rfl)
  intro H locs hP hD hS ls hl
  unfold wp_X4_barredAt at hw
  refine lv_aload_n hx hb dX4_barredAt_0 rfl (lv_at hl 0 rfl) ?_
  refine lv_iload_n hx hb dX4_barredAt_1 rfl (lv_at hl 1 rfl) ?_
  refine cx_goi (va_runV (As := [.int p1]) (rest := []) ⟨hx, hb, hml, hown, hts⟩ (c_X4_isBarredFromBeside l D cI cJ cZ cO tS tT H.size aK aK_strengths aK_kinds aK_marks aK_faces aK_bars aK_showing aK_showingRight aK_barring aS aS_cells aS_fits aS_fitsInLine aS_stale aS_staleCells aS_seen aS_queue K_warm K_count K_seeds K_blocks K_rivals K_bars S_pieces S_grown S_fitsInAll S_staleCount S_atLeast1 S_atLeast2 S_atLeast3 S_cells p1 _ hw) (cwV 1 hts gX4_barredAt_X4_isBarredFromBeside rfl rfl rfl pv_X4_isBarredFromBeside ⟨Nat.le_of_ble_eq_true rfl, Nat.le_of_ble_eq_true rfl⟩) (cx_preV (wc := w_X4_isBarredFromBeside cI cJ cZ cO aK aK_strengths aK_kinds aK_marks aK_faces aK_bars aK_showing aK_showingRight aK_barring aS aS_cells aS_fits aS_fitsInLine aS_stale aS_staleCells aS_seen aS_queue K_warm K_count K_seeds K_blocks K_rivals K_bars S_pieces S_grown S_fitsInAll S_staleCount S_atLeast1 S_atLeast2 S_atLeast3 S_cells) hE hK hP hD hS hA [0, 1, 3, 4] rfl rfl (va_recv hK hP (ci := 4) (q0 := 3) rfl rfl)) rfl rfl hl.1 rfl (lv_room (Nat.le_of_ble_eq_true rfl)) dX4_barredAt_2 ⟨Nat.le_of_ble_eq_true rfl, Nat.le_of_ble_eq_true rfl⟩) (fun (_ : Unit) => (w_X4_barredAt cI cJ cZ cO aK aK_strengths aK_kinds aK_marks aK_faces aK_bars aK_showing aK_showingRight aK_barring aS aS_cells aS_fits aS_fitsInLine aS_stale aS_staleCells aS_seen aS_queue K_warm K_count K_seeds K_blocks K_rivals K_bars K_barring S_pieces S_grown S_fitsInAll S_staleCount S_atLeast1 S_atLeast2 S_atLeast3 S_cells)) [0, 1, 3, 4] [2] (ads := [aK, aK_bars, aS, aS_cells]) (wr := [(aK_barring, .inl (cJ, 4, .inr (.inl K_barring)))]) rfl rfl (fun u => rfl) (fun u => rfl) rfl (fun u => rfl) rfl (fun u => rfl) rfl hP hD hS hA (fun r2 u H locs hw hP hD hS => ?_)
  have hP : va_P D vwCl (w_X4_barredAt cI cJ cZ cO aK aK_strengths aK_kinds aK_marks aK_faces aK_bars aK_showing aK_showingRight aK_barring aS aS_cells aS_fits aS_fitsInLine aS_stale aS_staleCells aS_seen aS_queue K_warm K_count K_seeds K_blocks K_rivals K_bars K_barring S_pieces S_grown S_fitsInAll S_staleCount S_atLeast1 S_atLeast2 S_atLeast3 S_cells) H := hP
  have hD : va_D A (w_X4_barredAt cI cJ cZ cO aK aK_strengths aK_kinds aK_marks aK_faces aK_bars aK_showing aK_showingRight aK_barring aS aS_cells aS_fits aS_fitsInLine aS_stale aS_staleCells aS_seen aS_queue K_warm K_count K_seeds K_blocks K_rivals K_bars K_barring S_pieces S_grown S_fitsInAll S_staleCount S_atLeast1 S_atLeast2 S_atLeast3 S_cells) := hD
  refine lv_if_eq (tgt := 12) hx hb dX4_barredAt_5 (by decide) (fun c5 => ?_) (fun c5 => ?_)
  · have hw := hw.1 c5
    refine lv_lconst (v := (0 : Int64)) hx hb dX4_barredAt_12 kL_0 ?_
    refine lv_lstore_n (lv' := [(2, .long (0 : Int64)), (0, .ref aS), (1, .int p1)]) hx hb dX4_barredAt_13 rfl hl (by decide) rfl (fun ls hl => ?_)
    refine lv_iconst (v := (0 : Int32)) hx hb dX4_barredAt_14 kI_0 ?_
    refine lv_istore (lv' := [(4, .int (0 : Int32)), (2, .long (0 : Int64)), (0, .ref aS), (1, .int p1)]) hx hb dX4_barredAt_15 hl (by decide) rfl (fun ls hl => ?_)
    obtain ⟨k, hw⟩ := hw
    exact b_17 k p1 (0 : Int64) (0 : Int32) hw H locs hP hD hS ls (lv_sub hl [2, 3, 1, 0] rfl)
  · have hw := hw.2 c5
    refine lv_ldc2 hx hb hown k_3 dX4_barredAt_8 ?_
    rw [hZ]
    exact cx_retl () hx hb hr hlocks hw hP hS dX4_barredAt_11
set_option maxRecDepth 100000 in
set_option maxHeartbeats 4000000 in
theorem c_X4_fitsNow (l : Launch) (D : va_G) (cI cJ cZ cO : ClassId) (tS tT : Nat) (sz : Nat) (aK aK_strengths aK_kinds aK_marks aK_faces aK_bars aK_showing aK_showingRight aK_barring aS aS_cells aS_fits aS_fitsInLine aS_stale aS_staleCells aS_seen aS_queue : Nat) (K_warm : Int32) (K_count : Int32) (K_seeds : Int64) (K_blocks : Int64) (K_rivals : Int64) (K_strengths : Nat → Int32) (K_faces : Nat → Int32) (K_bars : Nat → Int32) (K_showing : Nat → Int64) (K_showingRight : Nat → Int64) (K_barring : Nat → Int64) (S_pieces : Int32) (S_grown : Int32) (S_fitsInAll : Int32) (S_staleCount : Int32) (S_atLeast1 : Int64) (S_atLeast2 : Int64) (S_atLeast3 : Int64) (S_cells : Nat → Int32) (p1 : Int32) (Q : Int64 → (Int64) → (Int64) → (Int64) → Prop) (hw : wp_X4_fitsNow K_warm K_strengths K_faces K_bars K_showing K_showingRight K_barring K_seeds K_blocks S_cells S_atLeast1 S_atLeast2 S_atLeast3 p1 Q) : Met l yX4_fitsNow wsX4_fitsNow rm_X4_fitsNow (va_Pc [.ref aS, .int p1] (cx_B tS tT cI cJ cZ cO D sz (w_X4_fitsNow cI cJ cZ cO aK aK_strengths aK_kinds aK_marks aK_faces aK_bars aK_showing aK_showingRight aK_barring aS aS_cells aS_fits aS_fitsInLine aS_stale aS_staleCells aS_seen aS_queue K_warm K_count K_seeds K_blocks K_rivals K_strengths K_faces K_bars K_showing K_showingRight K_barring S_pieces S_grown S_fitsInAll S_staleCount S_atLeast1 S_atLeast2 S_atLeast3 S_cells))) (va_Ql (fun (r : Int64) (u : (Int64) × (Int64) × (Int64)) => Q r u.1 u.2.1 u.2.2) (fun (u : (Int64) × (Int64) × (Int64)) t => va_P D vwCl (w_X4_fitsNow cI cJ cZ cO aK aK_strengths aK_kinds aK_marks aK_faces aK_bars aK_showing aK_showingRight aK_barring aS aS_cells aS_fits aS_fitsInLine aS_stale aS_staleCells aS_seen aS_queue K_warm K_count K_seeds K_blocks K_rivals K_strengths K_faces K_bars K_showing K_showingRight K_barring S_pieces S_grown S_fitsInAll S_staleCount u.1 u.2.1 u.2.2 S_cells) t.heap) (va_A (w_X4_fitsNow cI cJ cZ cO aK aK_strengths aK_kinds aK_marks aK_faces aK_bars aK_showing aK_showingRight aK_barring aS aS_cells aS_fits aS_fitsInLine aS_stale aS_staleCells aS_seen aS_queue K_warm K_count K_seeds K_blocks K_rivals K_strengths K_faces K_bars K_showing K_showingRight K_barring S_pieces S_grown S_fitsInAll S_staleCount S_atLeast1 S_atLeast2 S_atLeast3 S_cells) sz)) 0 0 (va_A (w_X4_fitsNow cI cJ cZ cO aK aK_strengths aK_kinds aK_marks aK_faces aK_bars aK_showing aK_showingRight aK_barring aS aS_cells aS_fits aS_fitsInLine aS_stale aS_staleCells aS_seen aS_queue K_warm K_count K_seeds K_blocks K_rivals K_strengths K_faces K_bars K_showing K_showingRight K_barring S_pieces S_grown S_fitsInAll S_staleCount S_atLeast1 S_atLeast2 S_atLeast3 S_cells) sz) := by
  refine cx_met (cc := cX4_fitsNow) (maxL := 7) (ret := (some .long)) (Qc := fun A => va_Ql (fun (r : Int64) (u : (Int64) × (Int64) × (Int64)) => Q r u.1 u.2.1 u.2.2) (fun (u : (Int64) × (Int64) × (Int64)) t => va_P D vwCl (w_X4_fitsNow cI cJ cZ cO aK aK_strengths aK_kinds aK_marks aK_faces aK_bars aK_showing aK_showingRight aK_barring aS aS_cells aS_fits aS_fitsInLine aS_stale aS_staleCells aS_seen aS_queue K_warm K_count K_seeds K_blocks K_rivals K_strengths K_faces K_bars K_showing K_showingRight K_barring S_pieces S_grown S_fitsInAll S_staleCount u.1 u.2.1 u.2.2 S_cells) t.heap) A) (lv := [(0, .ref aS), (1, .int p1)]) (by decide) rfl (Nat.le_of_ble_eq_true rfl) rfl ?_
  intro p e s m args below meth c A Z hx hb hr hlocks hts hown hml hE hK hA hZ
  have hown : s.vm.findClass RX4 = some m.cls := hown
  have k_0 := hts (.constantLong RX4 156 (-1 : Int64)) (List.mem_of_getElem? (i := 7) (by decide +kernel))
  have k_1 := hts (.fieldLink RX4 9 "GrowingTiles$Sheet" "kit" "LGrowingTiles$Kit;") (List.mem_of_getElem? (i := 2) (by decide +kernel))
  have k_2 := hts (.fieldLink RX4 153 "GrowingTiles$Kit" "blocks" "J") (List.mem_of_getElem? (i := 6) (by decide +kernel))
  have k_3 := hts (.fieldLink RX4 146 "GrowingTiles$Kit" "seeds" "J") (List.mem_of_getElem? (i := 5) (by decide +kernel))
  have k_4 := hts (.fieldLink RX4 15 "GrowingTiles$Sheet" "cells" "[I") (List.mem_of_getElem? (i := 1) (by decide +kernel))
  have k_5 := hts (.fieldLink RX4 129 "GrowingTiles$Kit" "showing" "[J") (List.mem_of_getElem? (i := 3) (by decide +kernel))
  have k_6 := hts (.fieldLink RX4 136 "GrowingTiles$Kit" "showingRight" "[J") (List.mem_of_getElem? (i := 4) (by decide +kernel))
  have b_107 : ∀ (S_atLeast1 : Int64) (S_atLeast2 : Int64) (S_atLeast3 : Int64) (x3 : Int64) (x5 : Int64), wq_X4_fitsNow_107 K_warm K_strengths K_faces K_bars K_showing K_showingRight K_barring K_seeds K_blocks S_cells Q S_atLeast1 S_atLeast2 S_atLeast3 x3 x5 → ∀ (H : Heap) (locs : List Loc), va_P D vwCl (w_X4_fitsNow cI cJ cZ cO aK aK_strengths aK_kinds aK_marks aK_faces aK_bars aK_showing aK_showingRight aK_barring aS aS_cells aS_fits aS_fitsInLine aS_stale aS_staleCells aS_seen aS_queue K_warm K_count K_seeds K_blocks K_rivals K_strengths K_faces K_bars K_showing K_showingRight K_barring S_pieces S_grown S_fitsInAll S_staleCount S_atLeast1 S_atLeast2 S_atLeast3 S_cells) H → va_D A (w_X4_fitsNow cI cJ cZ cO aK aK_strengths aK_kinds aK_marks aK_faces aK_bars aK_showing aK_showingRight aK_barring aS aS_cells aS_fits aS_fitsInLine aS_stale aS_staleCells aS_seen aS_queue K_warm K_count K_seeds K_blocks K_rivals K_strengths K_faces K_bars K_showing K_showingRight K_barring S_pieces S_grown S_fitsInAll S_staleCount S_atLeast1 S_atLeast2 S_atLeast3 S_cells) → va_S A s.heap H locs → ∀ ls : Array Slot, lv_has ls 7 [(3, .long x3), (5, .long x5)] → W p l e rm_X4_fitsNow s m args below meth c H locs 0 0 Z (F0 m 107 ls []) := by
    intro S_atLeast1 S_atLeast2 S_atLeast3 x3 x5 hw H locs hP hD hS ls hl
    unfold wq_X4_fitsNow_107 at hw
    refine lv_lload_n hx hb dX4_fitsNow_107 rfl (lv_at hl 0 rfl) ?_
    refine lv_lload hx hb dX4_fitsNow_108 (lv_at hl 1 rfl) ?_
    refine lv_ldc2 hx hb hown k_0 dX4_fitsNow_110 ?_
    refine lv_lxor hx hb dX4_fitsNow_113 ?_
    refine lv_land hx hb dX4_fitsNow_114 ?_
    rw [hZ]
    exact cx_retl (S_atLeast1, S_atLeast2, S_atLeast3) hx hb hr hlocks hw hP hS dX4_fitsNow_115
  have b_95 : ∀ (S_atLeast1 : Int64) (S_atLeast2 : Int64) (S_atLeast3 : Int64) (x3 : Int64) (x5 : Int64), wq_X4_fitsNow_95 K_warm K_strengths K_faces K_bars K_showing K_showingRight K_barring K_seeds K_blocks S_cells Q S_atLeast1 S_atLeast2 S_atLeast3 x3 x5 → ∀ (H : Heap) (locs : List Loc), va_P D vwCl (w_X4_fitsNow cI cJ cZ cO aK aK_strengths aK_kinds aK_marks aK_faces aK_bars aK_showing aK_showingRight aK_barring aS aS_cells aS_fits aS_fitsInLine aS_stale aS_staleCells aS_seen aS_queue K_warm K_count K_seeds K_blocks K_rivals K_strengths K_faces K_bars K_showing K_showingRight K_barring S_pieces S_grown S_fitsInAll S_staleCount S_atLeast1 S_atLeast2 S_atLeast3 S_cells) H → va_D A (w_X4_fitsNow cI cJ cZ cO aK aK_strengths aK_kinds aK_marks aK_faces aK_bars aK_showing aK_showingRight aK_barring aS aS_cells aS_fits aS_fitsInLine aS_stale aS_staleCells aS_seen aS_queue K_warm K_count K_seeds K_blocks K_rivals K_strengths K_faces K_bars K_showing K_showingRight K_barring S_pieces S_grown S_fitsInAll S_staleCount S_atLeast1 S_atLeast2 S_atLeast3 S_cells) → va_S A s.heap H locs → ∀ ls : Array Slot, lv_has ls 7 [(0, .ref aS), (3, .long x3), (5, .long x5)] → W p l e rm_X4_fitsNow s m args below meth c H locs 0 0 Z (F0 m 95 ls []) := by
    intro S_atLeast1 S_atLeast2 S_atLeast3 x3 x5 hw H locs hP hD hS ls hl
    unfold wq_X4_fitsNow_95 at hw
    refine lv_lload hx hb dX4_fitsNow_95 (lv_at hl 2 rfl) ?_
    refine lv_aload_n hx hb dX4_fitsNow_97 rfl (lv_at hl 0 rfl) ?_
    refine va_get (D := D) (ci := 4) (v := .ref aK) (C := RX4) (T := TX4) (N := 15) hx hb hts in_X4_fitsNow_X4 hown hK hP 7 rfl rfl 0 (by decide) k_1 (fun _ h9 => h9) rfl dX4_fitsNow_98 ?_
    refine va_get (D := D) (ci := 1) (v := .long K_blocks) (C := RX1) (T := TX1) (N := 13) hx hb hts in_X4_fitsNow_X1 hown hK hP 0 rfl rfl 11 (by decide) k_2 (fun _ h9 => h9) rfl dX4_fitsNow_101 ?_
    refine lv_lor hx hb dX4_fitsNow_104 ?_
    refine lv_topl (fun v105 e105 => ?_)
    have hw := hw v105 e105
    refine lv_lstore (lv' := [(5, .long v105), (0, .ref aS), (3, .long x3)]) hx hb dX4_fitsNow_105 hl (by decide) rfl (fun ls hl => ?_)
    exact b_107 S_atLeast1 S_atLeast2 S_atLeast3 x3 v105 hw H locs hP hD hS ls (lv_sub hl [2, 0] rfl)
  have b_53 : ∀ (S_atLeast1 : Int64) (S_atLeast2 : Int64) (S_atLeast3 : Int64) (x1 : Int32) (x2 : Int32), wq_X4_fitsNow_53 K_warm K_strengths K_faces K_bars K_showing K_showingRight K_barring K_seeds K_blocks S_cells Q S_atLeast1 S_atLeast2 S_atLeast3 x1 x2 → ∀ (H : Heap) (locs : List Loc), va_P D vwCl (w_X4_fitsNow cI cJ cZ cO aK aK_strengths aK_kinds aK_marks aK_faces aK_bars aK_showing aK_showingRight aK_barring aS aS_cells aS_fits aS_fitsInLine aS_stale aS_staleCells aS_seen aS_queue K_warm K_count K_seeds K_blocks K_rivals K_strengths K_faces K_bars K_showing K_showingRight K_barring S_pieces S_grown S_fitsInAll S_staleCount S_atLeast1 S_atLeast2 S_atLeast3 S_cells) H → va_D A (w_X4_fitsNow cI cJ cZ cO aK aK_strengths aK_kinds aK_marks aK_faces aK_bars aK_showing aK_showingRight aK_barring aS aS_cells aS_fits aS_fitsInLine aS_stale aS_staleCells aS_seen aS_queue K_warm K_count K_seeds K_blocks K_rivals K_strengths K_faces K_bars K_showing K_showingRight K_barring S_pieces S_grown S_fitsInAll S_staleCount S_atLeast1 S_atLeast2 S_atLeast3 S_cells) → va_S A s.heap H locs → ∀ ls : Array Slot, lv_has ls 7 [(0, .ref aS), (1, .int x1), (2, .int x2)] → W p l e rm_X4_fitsNow s m args below meth c H locs 0 0 Z (F0 m 53 ls []) := by
    intro S_atLeast1 S_atLeast2 S_atLeast3 x1 x2 hw H locs hP hD hS ls hl
    unfold wq_X4_fitsNow_53 at hw
    refine lv_aload_n hx hb dX4_fitsNow_53 rfl (lv_at hl 0 rfl) ?_
    refine cx_gol (va_runV (As := []) (rest := []) ⟨hx, hb, hml, hown, hts⟩ (c_X4_heldEnough l D cI cJ cZ cO tS tT H.size aK aK_strengths aK_kinds aK_marks aK_faces aK_bars aK_showing aK_showingRight aK_barring aS aS_cells aS_fits aS_fitsInLine aS_stale aS_staleCells aS_seen aS_queue K_warm K_count K_seeds K_blocks K_rivals S_pieces S_grown S_fitsInAll S_staleCount S_atLeast1 S_atLeast2 S_atLeast3 _ hw) (cwV 0 hts gX4_fitsNow_X4_heldEnough rfl rfl rfl pv_X4_heldEnough ⟨Nat.le_of_ble_eq_true rfl, Nat.le_of_ble_eq_true rfl⟩) (cx_preV (wc := w_X4_heldEnough cI cJ cZ cO aK aK_strengths aK_kinds aK_marks aK_faces aK_bars aK_showing aK_showingRight aK_barring aS aS_cells aS_fits aS_fitsInLine aS_stale aS_staleCells aS_seen aS_queue K_warm K_count K_seeds K_blocks K_rivals S_pieces S_grown S_fitsInAll S_staleCount S_atLeast1 S_atLeast2 S_atLeast3) hE hK hP hD hS hA [0, 7] rfl rfl (va_recv hK hP (ci := 4) (q0 := 7) rfl rfl)) rfl rfl hl.1 rfl (lv_room (Nat.le_of_ble_eq_true rfl)) dX4_fitsNow_54 ⟨Nat.le_of_ble_eq_true rfl, Nat.le_of_ble_eq_true rfl⟩) (fun (_ : Unit) => (w_X4_fitsNow cI cJ cZ cO aK aK_strengths aK_kinds aK_marks aK_faces aK_bars aK_showing aK_showingRight aK_barring aS aS_cells aS_fits aS_fitsInLine aS_stale aS_staleCells aS_seen aS_queue K_warm K_count K_seeds K_blocks K_rivals K_strengths K_faces K_bars K_showing K_showingRight K_barring S_pieces S_grown S_fitsInAll S_staleCount S_atLeast1 S_atLeast2 S_atLeast3 S_cells)) [0, 7] [1, 2, 3, 4, 5, 6, 8] (ads := [aK, aS]) (wr := [(aK_strengths, .inl (cI, 51, .inl K_strengths)), (aK_faces, .inl (cI, 512, .inl K_faces)), (aK_bars, .inl (cI, 128, .inl K_bars)), (aK_showing, .inl (cJ, 204, .inr (.inl K_showing))), (aK_showingRight, .inl (cJ, 204, .inr (.inl K_showingRight))), (aK_barring, .inl (cJ, 4, .inr (.inl K_barring))), (aS_cells, .inl (cI, 324, .inl S_cells))]) rfl rfl (fun u => rfl) (fun u => rfl) rfl (fun u => rfl) rfl (fun u => rfl) rfl hP hD hS hA (fun r54 u H locs hw hP hD hS => ?_)
    have hP : va_P D vwCl (w_X4_fitsNow cI cJ cZ cO aK aK_strengths aK_kinds aK_marks aK_faces aK_bars aK_showing aK_showingRight aK_barring aS aS_cells aS_fits aS_fitsInLine aS_stale aS_staleCells aS_seen aS_queue K_warm K_count K_seeds K_blocks K_rivals K_strengths K_faces K_bars K_showing K_showingRight K_barring S_pieces S_grown S_fitsInAll S_staleCount S_atLeast1 S_atLeast2 S_atLeast3 S_cells) H := hP
    have hD : va_D A (w_X4_fitsNow cI cJ cZ cO aK aK_strengths aK_kinds aK_marks aK_faces aK_bars aK_showing aK_showingRight aK_barring aS aS_cells aS_fits aS_fitsInLine aS_stale aS_staleCells aS_seen aS_queue K_warm K_count K_seeds K_blocks K_rivals K_strengths K_faces K_bars K_showing K_showingRight K_barring S_pieces S_grown S_fitsInAll S_staleCount S_atLeast1 S_atLeast2 S_atLeast3 S_cells) := hD
    refine lv_lstore_n (lv' := [(3, .long r54), (0, .ref aS), (1, .int x1), (2, .int x2)]) hx hb dX4_fitsNow_57 rfl hl (by decide) rfl (fun ls hl => ?_)
    refine lv_lload_n hx hb dX4_fitsNow_58 rfl (lv_at hl 0 rfl) ?_
    refine lv_lconst (v := (0 : Int64)) hx hb dX4_fitsNow_59 kL_0 ?_
    refine W.lcmp hx hb dX4_fitsNow_60 ?_
    refine lv_if_ne (tgt := 66) hx hb dX4_fitsNow_61 (by decide) (fun c61 => ?_) (fun c61 => ?_)
    · have hw := hw.1 c61
      refine lv_aload_n hx hb dX4_fitsNow_66 rfl (lv_at hl 1 rfl) ?_
      refine lv_iload_n hx hb dX4_fitsNow_67 rfl (lv_at hl 2 rfl) ?_
      refine cx_gol (va_runV (As := [.int x1]) (rest := []) ⟨hx, hb, hml, hown, hts⟩ (c_X4_barredAt l D cI cJ cZ cO tS tT H.size aK aK_strengths aK_kinds aK_marks aK_faces aK_bars aK_showing aK_showingRight aK_barring aS aS_cells aS_fits aS_fitsInLine aS_stale aS_staleCells aS_seen aS_queue K_warm K_count K_seeds K_blocks K_rivals K_bars K_barring S_pieces S_grown S_fitsInAll S_staleCount S_atLeast1 S_atLeast2 S_atLeast3 S_cells x1 _ hw) (cwV 1 hts gX4_fitsNow_X4_barredAt rfl rfl rfl pv_X4_barredAt ⟨Nat.le_of_ble_eq_true rfl, Nat.le_of_ble_eq_true rfl⟩) (cx_preV (wc := w_X4_barredAt cI cJ cZ cO aK aK_strengths aK_kinds aK_marks aK_faces aK_bars aK_showing aK_showingRight aK_barring aS aS_cells aS_fits aS_fitsInLine aS_stale aS_staleCells aS_seen aS_queue K_warm K_count K_seeds K_blocks K_rivals K_bars K_barring S_pieces S_grown S_fitsInAll S_staleCount S_atLeast1 S_atLeast2 S_atLeast3 S_cells) hE hK hP hD hS hA [0, 3, 6, 7, 8] rfl rfl (va_recv hK hP (ci := 4) (q0 := 7) rfl rfl)) rfl rfl hl.1 rfl (lv_room (Nat.le_of_ble_eq_true rfl)) dX4_fitsNow_68 ⟨Nat.le_of_ble_eq_true rfl, Nat.le_of_ble_eq_true rfl⟩) (fun (_ : Unit) => (w_X4_fitsNow cI cJ cZ cO aK aK_strengths aK_kinds aK_marks aK_faces aK_bars aK_showing aK_showingRight aK_barring aS aS_cells aS_fits aS_fitsInLine aS_stale aS_staleCells aS_seen aS_queue K_warm K_count K_seeds K_blocks K_rivals K_strengths K_faces K_bars K_showing K_showingRight K_barring S_pieces S_grown S_fitsInAll S_staleCount S_atLeast1 S_atLeast2 S_atLeast3 S_cells)) [0, 3, 6, 7, 8] [1, 2, 4, 5] (ads := [aK, aK_bars, aK_barring, aS, aS_cells]) (wr := [(aK_strengths, .inl (cI, 51, .inl K_strengths)), (aK_faces, .inl (cI, 512, .inl K_faces)), (aK_showing, .inl (cJ, 204, .inr (.inl K_showing))), (aK_showingRight, .inl (cJ, 204, .inr (.inl K_showingRight)))]) rfl rfl (fun u => rfl) (fun u => rfl) rfl (fun u => rfl) rfl (fun u => rfl) rfl hP hD hS hA (fun r68 u H locs hw hP hD hS => ?_)
      have hP : va_P D vwCl (w_X4_fitsNow cI cJ cZ cO aK aK_strengths aK_kinds aK_marks aK_faces aK_bars aK_showing aK_showingRight aK_barring aS aS_cells aS_fits aS_fitsInLine aS_stale aS_staleCells aS_seen aS_queue K_warm K_count K_seeds K_blocks K_rivals K_strengths K_faces K_bars K_showing K_showingRight K_barring S_pieces S_grown S_fitsInAll S_staleCount S_atLeast1 S_atLeast2 S_atLeast3 S_cells) H := hP
      have hD : va_D A (w_X4_fitsNow cI cJ cZ cO aK aK_strengths aK_kinds aK_marks aK_faces aK_bars aK_showing aK_showingRight aK_barring aS aS_cells aS_fits aS_fitsInLine aS_stale aS_staleCells aS_seen aS_queue K_warm K_count K_seeds K_blocks K_rivals K_strengths K_faces K_bars K_showing K_showingRight K_barring S_pieces S_grown S_fitsInAll S_staleCount S_atLeast1 S_atLeast2 S_atLeast3 S_cells) := hD
      refine lv_aload_n hx hb dX4_fitsNow_71 rfl (lv_at hl 1 rfl) ?_
      refine va_get (D := D) (ci := 4) (v := .ref aK) (C := RX4) (T := TX4) (N := 15) hx hb hts in_X4_fitsNow_X4 hown hK hP 7 rfl rfl 0 (by decide) k_1 (fun _ h9 => h9) rfl dX4_fitsNow_72 ?_
      refine va_get (D := D) (ci := 1) (v := .long K_seeds) (C := RX1) (T := TX1) (N := 13) hx hb hts in_X4_fitsNow_X1 hown hK hP 0 rfl rfl 10 (by decide) k_3 (fun _ h9 => h9) rfl dX4_fitsNow_75 ?_
      refine lv_lor hx hb dX4_fitsNow_78 ?_
      refine lv_topl (fun v79 e79 => ?_)
      have hw := hw v79 e79
      refine lv_lstore (lv' := [(5, .long v79), (3, .long r54), (0, .ref aS), (1, .int x1), (2, .int x2)]) hx hb dX4_fitsNow_79 hl (by decide) rfl (fun ls hl => ?_)
      refine lv_iload_n hx hb dX4_fitsNow_81 rfl (lv_at hl 4 rfl) ?_
      refine lv_if_eq (tgt := 95) hx hb dX4_fitsNow_82 (by decide) (fun c82 => ?_) (fun c82 => ?_)
      · have hw := hw.1 c82
        exact b_95 S_atLeast1 S_atLeast2 S_atLeast3 r54 v79 hw H locs hP hD hS ls (lv_sub hl [2, 1, 0] rfl)
      · have hw := hw.2 c82
        refine lv_aload_n hx hb dX4_fitsNow_85 rfl (lv_at hl 2 rfl) ?_
        refine lv_iload_n hx hb dX4_fitsNow_86 rfl (lv_at hl 3 rfl) ?_
        refine lv_iconst (v := (1 : Int32)) hx hb dX4_fitsNow_87 kI_1 ?_
        refine lv_iadd hx hb dX4_fitsNow_88 ?_
        refine cx_goi (va_runV (As := [.int (x1 + (1 : Int32))]) (rest := []) ⟨hx, hb, hml, hown, hts⟩ (c_X4_isBarredFromBeside l D cI cJ cZ cO tS tT H.size aK aK_strengths aK_kinds aK_marks aK_faces aK_bars aK_showing aK_showingRight aK_barring aS aS_cells aS_fits aS_fitsInLine aS_stale aS_staleCells aS_seen aS_queue K_warm K_count K_seeds K_blocks K_rivals K_bars S_pieces S_grown S_fitsInAll S_staleCount S_atLeast1 S_atLeast2 S_atLeast3 S_cells (x1 + (1 : Int32)) _ hw) (cwV 1 hts gX4_fitsNow_X4_isBarredFromBeside rfl rfl rfl pv_X4_isBarredFromBeside ⟨Nat.le_of_ble_eq_true rfl, Nat.le_of_ble_eq_true rfl⟩) (cx_preV (wc := w_X4_isBarredFromBeside cI cJ cZ cO aK aK_strengths aK_kinds aK_marks aK_faces aK_bars aK_showing aK_showingRight aK_barring aS aS_cells aS_fits aS_fitsInLine aS_stale aS_staleCells aS_seen aS_queue K_warm K_count K_seeds K_blocks K_rivals K_bars S_pieces S_grown S_fitsInAll S_staleCount S_atLeast1 S_atLeast2 S_atLeast3 S_cells) hE hK hP hD hS hA [0, 3, 7, 8] rfl rfl (va_recv hK hP (ci := 4) (q0 := 7) rfl rfl)) rfl rfl hl.1 rfl (lv_room (Nat.le_of_ble_eq_true rfl)) dX4_fitsNow_89 ⟨Nat.le_of_ble_eq_true rfl, Nat.le_of_ble_eq_true rfl⟩) (fun (_ : Unit) => (w_X4_fitsNow cI cJ cZ cO aK aK_strengths aK_kinds aK_marks aK_faces aK_bars aK_showing aK_showingRight aK_barring aS aS_cells aS_fits aS_fitsInLine aS_stale aS_staleCells aS_seen aS_queue K_warm K_count K_seeds K_blocks K_rivals K_strengths K_faces K_bars K_showing K_showingRight K_barring S_pieces S_grown S_fitsInAll S_staleCount S_atLeast1 S_atLeast2 S_atLeast3 S_cells)) [0, 3, 7, 8] [1, 2, 4, 5, 6] (ads := [aK, aK_bars, aS, aS_cells]) (wr := [(aK_strengths, .inl (cI, 51, .inl K_strengths)), (aK_faces, .inl (cI, 512, .inl K_faces)), (aK_showing, .inl (cJ, 204, .inr (.inl K_showing))), (aK_showingRight, .inl (cJ, 204, .inr (.inl K_showingRight))), (aK_barring, .inl (cJ, 4, .inr (.inl K_barring)))]) rfl rfl (fun u => rfl) (fun u => rfl) rfl (fun u => rfl) rfl (fun u => rfl) rfl hP hD hS hA (fun r89 u H locs hw hP hD hS => ?_)
        have hP : va_P D vwCl (w_X4_fitsNow cI cJ cZ cO aK aK_strengths aK_kinds aK_marks aK_faces aK_bars aK_showing aK_showingRight aK_barring aS aS_cells aS_fits aS_fitsInLine aS_stale aS_staleCells aS_seen aS_queue K_warm K_count K_seeds K_blocks K_rivals K_strengths K_faces K_bars K_showing K_showingRight K_barring S_pieces S_grown S_fitsInAll S_staleCount S_atLeast1 S_atLeast2 S_atLeast3 S_cells) H := hP
        have hD : va_D A (w_X4_fitsNow cI cJ cZ cO aK aK_strengths aK_kinds aK_marks aK_faces aK_bars aK_showing aK_showingRight aK_barring aS aS_cells aS_fits aS_fitsInLine aS_stale aS_staleCells aS_seen aS_queue K_warm K_count K_seeds K_blocks K_rivals K_strengths K_faces K_bars K_showing K_showingRight K_barring S_pieces S_grown S_fitsInAll S_staleCount S_atLeast1 S_atLeast2 S_atLeast3 S_cells) := hD
        refine lv_if_eq (tgt := 107) hx hb dX4_fitsNow_92 (by decide) (fun c92 => ?_) (fun c92 => ?_)
        · have hw := hw.1 c92
          exact b_107 S_atLeast1 S_atLeast2 S_atLeast3 r54 v79 hw H locs hP hD hS ls (lv_sub hl [1, 0] rfl)
        · have hw := hw.2 c92
          exact b_95 S_atLeast1 S_atLeast2 S_atLeast3 r54 v79 hw H locs hP hD hS ls (lv_sub hl [2, 1, 0] rfl)
    · have hw := hw.2 c61
      refine lv_lconst (v := (0 : Int64)) hx hb dX4_fitsNow_64 kL_0 ?_
      rw [hZ]
      exact cx_retl (S_atLeast1, S_atLeast2, S_atLeast3) hx hb hr hlocks hw hP hS dX4_fitsNow_65
  intro H locs hP hD hS ls hl
  unfold wp_X4_fitsNow at hw
  refine lv_aload_n hx hb dX4_fitsNow_0 rfl (lv_at hl 0 rfl) ?_
  refine va_get (D := D) (ci := 4) (v := .ref aS_cells) (C := RX4) (T := TX4) (N := 15) hx hb hts in_X4_fitsNow_X4 hown hK hP 7 rfl rfl 1 (by decide) k_4 (fun _ h9 => h9) rfl dX4_fitsNow_1 ?_
  refine lv_iload_n hx hb dX4_fitsNow_4 rfl (lv_at hl 1 rfl) ?_
  have h5 := hw.1
  have hw := hw.2
  refine va_iald hx hb hK hP 8 0 rfl rfl h5 dX4_fitsNow_5 ?_
  refine lv_topi (fun v5 e5 => ?_)
  have hw := hw v5 e5
  refine lv_if_eq (tgt := 11) hx hb dX4_fitsNow_6 (by decide) (fun c6 => ?_) (fun c6 => ?_)
  · have hw := hw.1 c6
    refine lv_aload_n hx hb dX4_fitsNow_11 rfl (lv_at hl 0 rfl) ?_
    refine lv_iload_n hx hb dX4_fitsNow_12 rfl (lv_at hl 1 rfl) ?_
    refine cx_goi (va_runV (As := [.int p1]) (rest := []) ⟨hx, hb, hml, hown, hts⟩ (c_X4_isRightFree l D cI cJ cZ cO tS tT H.size aS aK aS_cells aS_fits aS_fitsInLine aS_stale aS_staleCells aS_seen aS_queue S_pieces S_grown S_fitsInAll S_staleCount S_atLeast1 S_atLeast2 S_atLeast3 S_cells p1 _ hw) (cwV 1 hts gX4_fitsNow_X4_isRightFree rfl rfl rfl pv_X4_isRightFree ⟨Nat.le_of_ble_eq_true rfl, Nat.le_of_ble_eq_true rfl⟩) (cx_preV (wc := w_X4_isRightFree cI cJ cZ cO aS aK aS_cells aS_fits aS_fitsInLine aS_stale aS_staleCells aS_seen aS_queue S_pieces S_grown S_fitsInAll S_staleCount S_atLeast1 S_atLeast2 S_atLeast3 S_cells) hE hK hP hD hS hA [7, 8] rfl rfl (va_recv hK hP (ci := 4) (q0 := 7) rfl rfl)) rfl rfl hl.1 rfl (lv_room (Nat.le_of_ble_eq_true rfl)) dX4_fitsNow_13 ⟨Nat.le_of_ble_eq_true rfl, Nat.le_of_ble_eq_true rfl⟩) (fun (_ : Unit) => (w_X4_fitsNow cI cJ cZ cO aK aK_strengths aK_kinds aK_marks aK_faces aK_bars aK_showing aK_showingRight aK_barring aS aS_cells aS_fits aS_fitsInLine aS_stale aS_staleCells aS_seen aS_queue K_warm K_count K_seeds K_blocks K_rivals K_strengths K_faces K_bars K_showing K_showingRight K_barring S_pieces S_grown S_fitsInAll S_staleCount S_atLeast1 S_atLeast2 S_atLeast3 S_cells)) [7, 8] [0, 1, 2, 3, 4, 5, 6] (ads := [aS, aS_cells]) (wr := [(aK, .inr (1, [.int K_warm, .int K_count, .ref aK_strengths, .ref aK_kinds, .ref aK_marks, .ref aK_faces, .ref aK_bars, .ref aK_showing, .ref aK_showingRight, .ref aK_barring, .long K_seeds, .long K_blocks, .long K_rivals])), (aK_strengths, .inl (cI, 51, .inl K_strengths)), (aK_faces, .inl (cI, 512, .inl K_faces)), (aK_bars, .inl (cI, 128, .inl K_bars)), (aK_showing, .inl (cJ, 204, .inr (.inl K_showing))), (aK_showingRight, .inl (cJ, 204, .inr (.inl K_showingRight))), (aK_barring, .inl (cJ, 4, .inr (.inl K_barring)))]) rfl rfl (fun u => rfl) (fun u => rfl) rfl (fun u => rfl) rfl (fun u => rfl) rfl hP hD hS hA (fun r13 u H locs hw hP hD hS => ?_)
    have hP : va_P D vwCl (w_X4_fitsNow cI cJ cZ cO aK aK_strengths aK_kinds aK_marks aK_faces aK_bars aK_showing aK_showingRight aK_barring aS aS_cells aS_fits aS_fitsInLine aS_stale aS_staleCells aS_seen aS_queue K_warm K_count K_seeds K_blocks K_rivals K_strengths K_faces K_bars K_showing K_showingRight K_barring S_pieces S_grown S_fitsInAll S_staleCount S_atLeast1 S_atLeast2 S_atLeast3 S_cells) H := hP
    have hD : va_D A (w_X4_fitsNow cI cJ cZ cO aK aK_strengths aK_kinds aK_marks aK_faces aK_bars aK_showing aK_showingRight aK_barring aS aS_cells aS_fits aS_fitsInLine aS_stale aS_staleCells aS_seen aS_queue K_warm K_count K_seeds K_blocks K_rivals K_strengths K_faces K_bars K_showing K_showingRight K_barring S_pieces S_grown S_fitsInAll S_staleCount S_atLeast1 S_atLeast2 S_atLeast3 S_cells) := hD
    refine lv_istore_n (lv' := [(2, .int r13), (0, .ref aS), (1, .int p1)]) hx hb dX4_fitsNow_16 rfl hl (by decide) rfl (fun ls hl => ?_)
    refine lv_aload_n hx hb dX4_fitsNow_17 rfl (lv_at hl 1 rfl) ?_
    refine cx_gov (va_runV (As := []) (rest := []) ⟨hx, hb, hml, hown, hts⟩ (c_X4_startSums l D cI cJ cZ cO tS tT H.size aS aK aS_cells aS_fits aS_fitsInLine aS_stale aS_staleCells aS_seen aS_queue S_pieces S_grown S_fitsInAll S_staleCount S_atLeast1 S_atLeast2 S_atLeast3 _ hw) (cwV 0 hts gX4_fitsNow_X4_startSums rfl rfl rfl pv_X4_startSums ⟨Nat.le_of_ble_eq_true rfl, Nat.le_of_ble_eq_true rfl⟩) (cx_preV (wc := w_X4_startSums cI cJ cZ cO aS aK aS_cells aS_fits aS_fitsInLine aS_stale aS_staleCells aS_seen aS_queue S_pieces S_grown S_fitsInAll S_staleCount S_atLeast1 S_atLeast2 S_atLeast3) hE hK hP hD hS hA [7] rfl rfl (va_recv hK hP (ci := 4) (q0 := 7) rfl rfl)) rfl rfl hl.1 rfl (lv_room (Nat.le_of_ble_eq_true rfl)) dX4_fitsNow_18 ⟨Nat.le_of_ble_eq_true rfl, Nat.le_of_ble_eq_true rfl⟩) (fun (u : (Int64) × (Int64) × (Int64)) => (w_X4_fitsNow cI cJ cZ cO aK aK_strengths aK_kinds aK_marks aK_faces aK_bars aK_showing aK_showingRight aK_barring aS aS_cells aS_fits aS_fitsInLine aS_stale aS_staleCells aS_seen aS_queue K_warm K_count K_seeds K_blocks K_rivals K_strengths K_faces K_bars K_showing K_showingRight K_barring S_pieces S_grown S_fitsInAll S_staleCount u.1 u.2.1 u.2.2 S_cells)) [7] [0, 1, 2, 3, 4, 5, 6, 8] (ads := [aS]) (wr := [(aK, .inr (1, [.int K_warm, .int K_count, .ref aK_strengths, .ref aK_kinds, .ref aK_marks, .ref aK_faces, .ref aK_bars, .ref aK_showing, .ref aK_showingRight, .ref aK_barring, .long K_seeds, .long K_blocks, .long K_rivals])), (aK_strengths, .inl (cI, 51, .inl K_strengths)), (aK_faces, .inl (cI, 512, .inl K_faces)), (aK_bars, .inl (cI, 128, .inl K_bars)), (aK_showing, .inl (cJ, 204, .inr (.inl K_showing))), (aK_showingRight, .inl (cJ, 204, .inr (.inl K_showingRight))), (aK_barring, .inl (cJ, 4, .inr (.inl K_barring))), (aS_cells, .inl (cI, 324, .inl S_cells))]) rfl rfl (fun u => rfl) (fun u => rfl) rfl (fun u => rfl) rfl (fun u => rfl) rfl hP hD hS hA (fun u H locs hw hP hD hS => ?_)
    obtain ⟨S_atLeast1_18, S_atLeast2_18, S_atLeast3_18⟩ := u
    try dsimp only at hw
    have hP : va_P D vwCl (w_X4_fitsNow cI cJ cZ cO aK aK_strengths aK_kinds aK_marks aK_faces aK_bars aK_showing aK_showingRight aK_barring aS aS_cells aS_fits aS_fitsInLine aS_stale aS_staleCells aS_seen aS_queue K_warm K_count K_seeds K_blocks K_rivals K_strengths K_faces K_bars K_showing K_showingRight K_barring S_pieces S_grown S_fitsInAll S_staleCount S_atLeast1_18 S_atLeast2_18 S_atLeast3_18 S_cells) H := hP
    have hD : va_D A (w_X4_fitsNow cI cJ cZ cO aK aK_strengths aK_kinds aK_marks aK_faces aK_bars aK_showing aK_showingRight aK_barring aS aS_cells aS_fits aS_fitsInLine aS_stale aS_staleCells aS_seen aS_queue K_warm K_count K_seeds K_blocks K_rivals K_strengths K_faces K_bars K_showing K_showingRight K_barring S_pieces S_grown S_fitsInAll S_staleCount S_atLeast1_18 S_atLeast2_18 S_atLeast3_18 S_cells) := hD
    refine lv_aload_n hx hb dX4_fitsNow_21 rfl (lv_at hl 1 rfl) ?_
    refine lv_aload_n hx hb dX4_fitsNow_22 rfl (lv_at hl 1 rfl) ?_
    refine va_get (D := D) (ci := 4) (v := .ref aK) (C := RX4) (T := TX4) (N := 15) hx hb hts in_X4_fitsNow_X4 hown hK hP 7 rfl rfl 0 (by decide) k_1 (fun _ h9 => h9) rfl dX4_fitsNow_23 ?_
    refine va_get (D := D) (ci := 1) (v := .ref aK_showing) (C := RX1) (T := TX1) (N := 13) hx hb hts in_X4_fitsNow_X1 hown hK hP 0 rfl rfl 7 (by decide) k_5 (fun _ h9 => h9) rfl dX4_fitsNow_26 ?_
    refine lv_iload_n hx hb dX4_fitsNow_29 rfl (lv_at hl 2 rfl) ?_
    refine lv_iconst (v := (0 : Int32)) hx hb dX4_fitsNow_30 kI_0 ?_
    refine cx_gov (va_runV (As := [.ref aK_showing, .int p1, .int (0 : Int32)]) (rest := []) ⟨hx, hb, hml, hown, hts⟩ (c_X4_sumUp l D cI cJ cZ cO tS tT H.size aK_showing aK aK_strengths aK_kinds aK_marks aK_faces aK_bars aK_showing aK_showingRight aK_barring aS aS_cells aS_fits aS_fitsInLine aS_stale aS_staleCells aS_seen aS_queue 204 K_showing K_warm K_count K_seeds K_blocks K_rivals K_strengths K_faces S_pieces S_grown S_fitsInAll S_staleCount S_atLeast1_18 S_atLeast2_18 S_atLeast3_18 S_cells p1 (0 : Int32) _ hw) (cwV 3 hts gX4_fitsNow_X4_sumUp rfl rfl rfl pv_X4_sumUp ⟨Nat.le_of_ble_eq_true rfl, Nat.le_of_ble_eq_true rfl⟩) (cx_preV (wc := w_X4_sumUp cI cJ cZ cO aK_showing aK aK_strengths aK_kinds aK_marks aK_faces aK_bars aK_showing aK_showingRight aK_barring aS aS_cells aS_fits aS_fitsInLine aS_stale aS_staleCells aS_seen aS_queue 204 K_showing K_warm K_count K_seeds K_blocks K_rivals K_strengths K_faces S_pieces S_grown S_fitsInAll S_staleCount S_atLeast1_18 S_atLeast2_18 S_atLeast3_18 S_cells) hE hK hP hD hS hA [4, 0, 1, 2, 7, 8] rfl rfl (va_recv hK hP (ci := 4) (q0 := 7) rfl rfl)) rfl rfl hl.1 rfl (lv_room (Nat.le_of_ble_eq_true rfl)) dX4_fitsNow_31 ⟨Nat.le_of_ble_eq_true rfl, Nat.le_of_ble_eq_true rfl⟩) (fun (u : (Int64) × (Int64) × (Int64)) => (w_X4_fitsNow cI cJ cZ cO aK aK_strengths aK_kinds aK_marks aK_faces aK_bars aK_showing aK_showingRight aK_barring aS aS_cells aS_fits aS_fitsInLine aS_stale aS_staleCells aS_seen aS_queue K_warm K_count K_seeds K_blocks K_rivals K_strengths K_faces K_bars K_showing K_showingRight K_barring S_pieces S_grown S_fitsInAll S_staleCount u.1 u.2.1 u.2.2 S_cells)) [4, 0, 1, 2, 7, 8] [3, 5, 6] (ads := [aK_showing, aK, aK_strengths, aK_faces, aS, aS_cells]) (wr := [(aK_bars, .inl (cI, 128, .inl K_bars)), (aK_showingRight, .inl (cJ, 204, .inr (.inl K_showingRight))), (aK_barring, .inl (cJ, 4, .inr (.inl K_barring)))]) rfl rfl (fun u => rfl) (fun u => rfl) rfl (fun u => rfl) rfl (fun u => rfl) rfl hP hD hS hA (fun u H locs hw hP hD hS => ?_)
    obtain ⟨S_atLeast1_31, S_atLeast2_31, S_atLeast3_31⟩ := u
    try dsimp only at hw
    have hP : va_P D vwCl (w_X4_fitsNow cI cJ cZ cO aK aK_strengths aK_kinds aK_marks aK_faces aK_bars aK_showing aK_showingRight aK_barring aS aS_cells aS_fits aS_fitsInLine aS_stale aS_staleCells aS_seen aS_queue K_warm K_count K_seeds K_blocks K_rivals K_strengths K_faces K_bars K_showing K_showingRight K_barring S_pieces S_grown S_fitsInAll S_staleCount S_atLeast1_31 S_atLeast2_31 S_atLeast3_31 S_cells) H := hP
    have hD : va_D A (w_X4_fitsNow cI cJ cZ cO aK aK_strengths aK_kinds aK_marks aK_faces aK_bars aK_showing aK_showingRight aK_barring aS aS_cells aS_fits aS_fitsInLine aS_stale aS_staleCells aS_seen aS_queue K_warm K_count K_seeds K_blocks K_rivals K_strengths K_faces K_bars K_showing K_showingRight K_barring S_pieces S_grown S_fitsInAll S_staleCount S_atLeast1_31 S_atLeast2_31 S_atLeast3_31 S_cells) := hD
    refine lv_iload_n hx hb dX4_fitsNow_34 rfl (lv_at hl 0 rfl) ?_
    refine lv_if_eq (tgt := 53) hx hb dX4_fitsNow_35 (by decide) (fun c35 => ?_) (fun c35 => ?_)
    · have hw := hw.1 c35
      exact b_53 S_atLeast1_31 S_atLeast2_31 S_atLeast3_31 p1 r13 hw H locs hP hD hS ls (lv_sub hl [1, 2, 0] rfl)
    · have hw := hw.2 c35
      refine lv_aload_n hx hb dX4_fitsNow_38 rfl (lv_at hl 1 rfl) ?_
      refine lv_aload_n hx hb dX4_fitsNow_39 rfl (lv_at hl 1 rfl) ?_
      refine va_get (D := D) (ci := 4) (v := .ref aK) (C := RX4) (T := TX4) (N := 15) hx hb hts in_X4_fitsNow_X4 hown hK hP 7 rfl rfl 0 (by decide) k_1 (fun _ h9 => h9) rfl dX4_fitsNow_40 ?_
      refine va_get (D := D) (ci := 1) (v := .ref aK_showingRight) (C := RX1) (T := TX1) (N := 13) hx hb hts in_X4_fitsNow_X1 hown hK hP 0 rfl rfl 8 (by decide) k_6 (fun _ h9 => h9) rfl dX4_fitsNow_43 ?_
      refine lv_iload_n hx hb dX4_fitsNow_46 rfl (lv_at hl 2 rfl) ?_
      refine lv_iconst (v := (1 : Int32)) hx hb dX4_fitsNow_47 kI_1 ?_
      refine lv_iadd hx hb dX4_fitsNow_48 ?_
      refine lv_iconst (v := (0 : Int32)) hx hb dX4_fitsNow_49 kI_0 ?_
      refine cx_gov (va_runV (As := [.ref aK_showingRight, .int (p1 + (1 : Int32)), .int (0 : Int32)]) (rest := []) ⟨hx, hb, hml, hown, hts⟩ (c_X4_sumUp l D cI cJ cZ cO tS tT H.size aK_showingRight aK aK_strengths aK_kinds aK_marks aK_faces aK_bars aK_showing aK_showingRight aK_barring aS aS_cells aS_fits aS_fitsInLine aS_stale aS_staleCells aS_seen aS_queue 204 K_showingRight K_warm K_count K_seeds K_blocks K_rivals K_strengths K_faces S_pieces S_grown S_fitsInAll S_staleCount S_atLeast1_31 S_atLeast2_31 S_atLeast3_31 S_cells (p1 + (1 : Int32)) (0 : Int32) _ hw) (cwV 3 hts gX4_fitsNow_X4_sumUp rfl rfl rfl pv_X4_sumUp ⟨Nat.le_of_ble_eq_true rfl, Nat.le_of_ble_eq_true rfl⟩) (cx_preV (wc := w_X4_sumUp cI cJ cZ cO aK_showingRight aK aK_strengths aK_kinds aK_marks aK_faces aK_bars aK_showing aK_showingRight aK_barring aS aS_cells aS_fits aS_fitsInLine aS_stale aS_staleCells aS_seen aS_queue 204 K_showingRight K_warm K_count K_seeds K_blocks K_rivals K_strengths K_faces S_pieces S_grown S_fitsInAll S_staleCount S_atLeast1_31 S_atLeast2_31 S_atLeast3_31 S_cells) hE hK hP hD hS hA [5, 0, 1, 2, 7, 8] rfl rfl (va_recv hK hP (ci := 4) (q0 := 7) rfl rfl)) rfl rfl hl.1 rfl (lv_room (Nat.le_of_ble_eq_true rfl)) dX4_fitsNow_50 ⟨Nat.le_of_ble_eq_true rfl, Nat.le_of_ble_eq_true rfl⟩) (fun (u : (Int64) × (Int64) × (Int64)) => (w_X4_fitsNow cI cJ cZ cO aK aK_strengths aK_kinds aK_marks aK_faces aK_bars aK_showing aK_showingRight aK_barring aS aS_cells aS_fits aS_fitsInLine aS_stale aS_staleCells aS_seen aS_queue K_warm K_count K_seeds K_blocks K_rivals K_strengths K_faces K_bars K_showing K_showingRight K_barring S_pieces S_grown S_fitsInAll S_staleCount u.1 u.2.1 u.2.2 S_cells)) [5, 0, 1, 2, 7, 8] [3, 4, 6] (ads := [aK_showingRight, aK, aK_strengths, aK_faces, aS, aS_cells]) (wr := [(aK_bars, .inl (cI, 128, .inl K_bars)), (aK_showing, .inl (cJ, 204, .inr (.inl K_showing))), (aK_barring, .inl (cJ, 4, .inr (.inl K_barring)))]) rfl rfl (fun u => rfl) (fun u => rfl) rfl (fun u => rfl) rfl (fun u => rfl) rfl hP hD hS hA (fun u H locs hw hP hD hS => ?_)
      obtain ⟨S_atLeast1_50, S_atLeast2_50, S_atLeast3_50⟩ := u
      try dsimp only at hw
      have hP : va_P D vwCl (w_X4_fitsNow cI cJ cZ cO aK aK_strengths aK_kinds aK_marks aK_faces aK_bars aK_showing aK_showingRight aK_barring aS aS_cells aS_fits aS_fitsInLine aS_stale aS_staleCells aS_seen aS_queue K_warm K_count K_seeds K_blocks K_rivals K_strengths K_faces K_bars K_showing K_showingRight K_barring S_pieces S_grown S_fitsInAll S_staleCount S_atLeast1_50 S_atLeast2_50 S_atLeast3_50 S_cells) H := hP
      have hD : va_D A (w_X4_fitsNow cI cJ cZ cO aK aK_strengths aK_kinds aK_marks aK_faces aK_bars aK_showing aK_showingRight aK_barring aS aS_cells aS_fits aS_fitsInLine aS_stale aS_staleCells aS_seen aS_queue K_warm K_count K_seeds K_blocks K_rivals K_strengths K_faces K_bars K_showing K_showingRight K_barring S_pieces S_grown S_fitsInAll S_staleCount S_atLeast1_50 S_atLeast2_50 S_atLeast3_50 S_cells) := hD
      exact b_53 S_atLeast1_50 S_atLeast2_50 S_atLeast3_50 p1 r13 hw H locs hP hD hS ls (lv_sub hl [1, 2, 0] rfl)
  · have hw := hw.2 c6
    refine lv_lconst (v := (0 : Int64)) hx hb dX4_fitsNow_9 kL_0 ?_
    rw [hZ]
    exact cx_retl (S_atLeast1, S_atLeast2, S_atLeast3) hx hb hr hlocks hw hP hS dX4_fitsNow_10
set_option maxRecDepth 100000 in
set_option maxHeartbeats 4000000 in
theorem c_J13_bitCount_95d88 (l : Launch) (D : va_G) (cI cJ cZ cO : ClassId) (tS tT : Nat) (sz : Nat) (p1 : Int64) (Q : Int32 → Prop) (hw : wp_J13_bitCount_95d88 p1 Q) : Met l yJ13_bitCount_95d88 wsJ13_bitCount_95d88 rm_J13_bitCount_95d88 (va_Pc [.long p1] (cx_B tS tT cI cJ cZ cO D sz (w_J13_bitCount_95d88 : va_W))) (va_Qi (fun (r : Int32) (_ : Unit) => Q r) (fun (u : Unit) t => va_P D vwCl (w_J13_bitCount_95d88 : va_W) t.heap) (va_A (w_J13_bitCount_95d88 : va_W) sz)) 0 0 (va_A (w_J13_bitCount_95d88 : va_W) sz) := by
  refine cx_met (cc := cJ13_bitCount_95d88) (maxL := 2) (ret := (some .int)) (Qc := fun A => va_Qi (fun (r : Int32) (_ : Unit) => Q r) (fun (u : Unit) t => va_P D vwCl (w_J13_bitCount_95d88 : va_W) t.heap) A) (lv := [(0, .long p1)]) (by decide) rfl (Nat.le_of_ble_eq_true rfl) rfl ?_
  intro p e s m args below meth c A Z hx hb hr hlocks hts hown hml hE hK hA hZ
  have hown : s.vm.findClass RJ13 = some m.cls := hown
  have k_0 := hts (.constantLong RJ13 314 (6148914691236517205 : Int64)) (List.mem_of_getElem? (i := 1) (by decide +kernel))
  have k_1 := hts (.constantLong RJ13 316 (3689348814741910323 : Int64)) (List.mem_of_getElem? (i := 2) (by decide +kernel))
  have k_2 := hts (.constantLong RJ13 318 (1085102592571150095 : Int64)) (List.mem_of_getElem? (i := 3) (by decide +kernel))
  intro H locs hP hD hS ls hl
  unfold wp_J13_bitCount_95d88 at hw
  refine lv_lload_n hx hb dJ13_bitCount_95d88_0 rfl (lv_at hl 0 rfl) ?_
  refine lv_lload_n hx hb dJ13_bitCount_95d88_1 rfl (lv_at hl 0 rfl) ?_
  refine lv_iconst (v := (1 : Int32)) hx hb dJ13_bitCount_95d88_2 kI_1 ?_
  refine lv_lushr hx hb dJ13_bitCount_95d88_3 rfl ?_
  refine lv_ldc2 hx hb hown k_0 dJ13_bitCount_95d88_4 ?_
  refine lv_land hx hb dJ13_bitCount_95d88_7 ?_
  refine lv_lsub hx hb dJ13_bitCount_95d88_8 ?_
  refine lv_topl (fun v9 e9 => ?_)
  have hw := hw v9 e9
  refine lv_lstore_n (lv' := [(0, .long v9)]) hx hb dJ13_bitCount_95d88_9 rfl hl (by decide) rfl (fun ls hl => ?_)
  refine lv_lload_n hx hb dJ13_bitCount_95d88_10 rfl (lv_at hl 0 rfl) ?_
  refine lv_ldc2 hx hb hown k_1 dJ13_bitCount_95d88_11 ?_
  refine lv_land hx hb dJ13_bitCount_95d88_14 ?_
  refine lv_lload_n hx hb dJ13_bitCount_95d88_15 rfl (lv_at hl 0 rfl) ?_
  refine lv_iconst (v := (2 : Int32)) hx hb dJ13_bitCount_95d88_16 kI_2 ?_
  refine lv_lushr hx hb dJ13_bitCount_95d88_17 rfl ?_
  refine lv_ldc2 hx hb hown k_1 dJ13_bitCount_95d88_18 ?_
  refine lv_land hx hb dJ13_bitCount_95d88_21 ?_
  refine lv_ladd hx hb dJ13_bitCount_95d88_22 ?_
  refine lv_topl (fun v23 e23 => ?_)
  have hw := hw v23 e23
  refine lv_lstore_n (lv' := [(0, .long v23)]) hx hb dJ13_bitCount_95d88_23 rfl hl (by decide) rfl (fun ls hl => ?_)
  refine lv_lload_n hx hb dJ13_bitCount_95d88_24 rfl (lv_at hl 0 rfl) ?_
  refine lv_lload_n hx hb dJ13_bitCount_95d88_25 rfl (lv_at hl 0 rfl) ?_
  refine lv_iconst (v := (4 : Int32)) hx hb dJ13_bitCount_95d88_26 kI_4 ?_
  refine lv_lushr hx hb dJ13_bitCount_95d88_27 rfl ?_
  refine lv_ladd hx hb dJ13_bitCount_95d88_28 ?_
  refine lv_ldc2 hx hb hown k_2 dJ13_bitCount_95d88_29 ?_
  refine lv_land hx hb dJ13_bitCount_95d88_32 ?_
  refine lv_topl (fun v33 e33 => ?_)
  have hw := hw v33 e33
  refine lv_lstore_n (lv' := [(0, .long v33)]) hx hb dJ13_bitCount_95d88_33 rfl hl (by decide) rfl (fun ls hl => ?_)
  refine lv_lload_n hx hb dJ13_bitCount_95d88_34 rfl (lv_at hl 0 rfl) ?_
  refine lv_lload_n hx hb dJ13_bitCount_95d88_35 rfl (lv_at hl 0 rfl) ?_
  refine lv_bipush (v := (8 : Int32)) hx hb dJ13_bitCount_95d88_36 kB_8 ?_
  refine lv_lushr hx hb dJ13_bitCount_95d88_38 rfl ?_
  refine lv_ladd hx hb dJ13_bitCount_95d88_39 ?_
  refine lv_topl (fun v40 e40 => ?_)
  have hw := hw v40 e40
  refine lv_lstore_n (lv' := [(0, .long v40)]) hx hb dJ13_bitCount_95d88_40 rfl hl (by decide) rfl (fun ls hl => ?_)
  refine lv_lload_n hx hb dJ13_bitCount_95d88_41 rfl (lv_at hl 0 rfl) ?_
  refine lv_lload_n hx hb dJ13_bitCount_95d88_42 rfl (lv_at hl 0 rfl) ?_
  refine lv_bipush (v := (16 : Int32)) hx hb dJ13_bitCount_95d88_43 kB_16 ?_
  refine lv_lushr hx hb dJ13_bitCount_95d88_45 rfl ?_
  refine lv_ladd hx hb dJ13_bitCount_95d88_46 ?_
  refine lv_topl (fun v47 e47 => ?_)
  have hw := hw v47 e47
  refine lv_lstore_n (lv' := [(0, .long v47)]) hx hb dJ13_bitCount_95d88_47 rfl hl (by decide) rfl (fun ls hl => ?_)
  refine lv_lload_n hx hb dJ13_bitCount_95d88_48 rfl (lv_at hl 0 rfl) ?_
  refine lv_lload_n hx hb dJ13_bitCount_95d88_49 rfl (lv_at hl 0 rfl) ?_
  refine lv_bipush (v := (32 : Int32)) hx hb dJ13_bitCount_95d88_50 kB_32 ?_
  refine lv_lushr hx hb dJ13_bitCount_95d88_52 rfl ?_
  refine lv_ladd hx hb dJ13_bitCount_95d88_53 ?_
  refine lv_topl (fun v54 e54 => ?_)
  have hw := hw v54 e54
  refine lv_lstore_n (lv' := [(0, .long v54)]) hx hb dJ13_bitCount_95d88_54 rfl hl (by decide) rfl (fun ls hl => ?_)
  refine lv_lload_n hx hb dJ13_bitCount_95d88_55 rfl (lv_at hl 0 rfl) ?_
  refine lv_l2i hx hb dJ13_bitCount_95d88_56 rfl ?_
  refine lv_bipush (v := (127 : Int32)) hx hb dJ13_bitCount_95d88_57 kB_127 ?_
  refine lv_iand hx hb dJ13_bitCount_95d88_59 ?_
  rw [hZ]
  exact cx_reti () hx hb hr hlocks hw hP hS dJ13_bitCount_95d88_60
set_option maxRecDepth 100000 in
set_option maxHeartbeats 4000000 in
theorem c_X4_renewStale (l : Launch) (D : va_G) (cI cJ cZ cO : ClassId) (tS tT : Nat) (sz : Nat) (aK aK_strengths aK_kinds aK_marks aK_faces aK_bars aK_showing aK_showingRight aK_barring aS aS_cells aS_fits aS_fitsInLine aS_stale aS_staleCells aS_seen aS_queue : Nat) (K_warm : Int32) (K_count : Int32) (K_seeds : Int64) (K_blocks : Int64) (K_rivals : Int64) (K_strengths : Nat → Int32) (K_faces : Nat → Int32) (K_bars : Nat → Int32) (K_showing : Nat → Int64) (K_showingRight : Nat → Int64) (K_barring : Nat → Int64) (S_pieces : Int32) (S_grown : Int32) (S_fitsInAll : Int32) (S_staleCount : Int32) (S_atLeast1 : Int64) (S_atLeast2 : Int64) (S_atLeast3 : Int64) (S_cells : Nat → Int32) (S_fits : Nat → Int64) (S_fitsInLine : Nat → Int32) (S_stale : Nat → Int32) (S_staleCells : Nat → Int32) (Q : (Nat → Int64) → (Nat → Int32) → (Int32) → (Nat → Int32) → (Int32) → (Int64) → (Int64) → (Int64) → Prop) (hw : wp_X4_renewStale K_warm K_strengths K_faces K_bars K_showing K_showingRight K_barring K_seeds K_blocks S_cells S_staleCells S_fits S_fitsInLine S_fitsInAll S_stale S_staleCount S_atLeast1 S_atLeast2 S_atLeast3 Q) : Met l yX4_renewStale wsX4_renewStale rm_X4_renewStale (va_Pc [.ref aS] (cx_B tS tT cI cJ cZ cO D sz (w_X4_renewStale cI cJ cZ cO aK aK_strengths aK_kinds aK_marks aK_faces aK_bars aK_showing aK_showingRight aK_barring aS aS_cells aS_fits aS_fitsInLine aS_stale aS_staleCells aS_seen aS_queue K_warm K_count K_seeds K_blocks K_rivals K_strengths K_faces K_bars K_showing K_showingRight K_barring S_pieces S_grown S_fitsInAll S_staleCount S_atLeast1 S_atLeast2 S_atLeast3 S_cells S_fits S_fitsInLine S_stale S_staleCells))) (va_Qv (fun (u : (Nat → Int64) × (Nat → Int32) × (Int32) × (Nat → Int32) × (Int32) × (Int64) × (Int64) × (Int64)) => Q u.1 u.2.1 u.2.2.1 u.2.2.2.1 u.2.2.2.2.1 u.2.2.2.2.2.1 u.2.2.2.2.2.2.1 u.2.2.2.2.2.2.2) (fun (u : (Nat → Int64) × (Nat → Int32) × (Int32) × (Nat → Int32) × (Int32) × (Int64) × (Int64) × (Int64)) t => va_P D vwCl (w_X4_renewStale cI cJ cZ cO aK aK_strengths aK_kinds aK_marks aK_faces aK_bars aK_showing aK_showingRight aK_barring aS aS_cells aS_fits aS_fitsInLine aS_stale aS_staleCells aS_seen aS_queue K_warm K_count K_seeds K_blocks K_rivals K_strengths K_faces K_bars K_showing K_showingRight K_barring S_pieces S_grown u.2.2.1 u.2.2.2.2.1 u.2.2.2.2.2.1 u.2.2.2.2.2.2.1 u.2.2.2.2.2.2.2 S_cells u.1 u.2.1 u.2.2.2.1 S_staleCells) t.heap) (va_A (w_X4_renewStale cI cJ cZ cO aK aK_strengths aK_kinds aK_marks aK_faces aK_bars aK_showing aK_showingRight aK_barring aS aS_cells aS_fits aS_fitsInLine aS_stale aS_staleCells aS_seen aS_queue K_warm K_count K_seeds K_blocks K_rivals K_strengths K_faces K_bars K_showing K_showingRight K_barring S_pieces S_grown S_fitsInAll S_staleCount S_atLeast1 S_atLeast2 S_atLeast3 S_cells S_fits S_fitsInLine S_stale S_staleCells) sz)) 0 0 (va_A (w_X4_renewStale cI cJ cZ cO aK aK_strengths aK_kinds aK_marks aK_faces aK_bars aK_showing aK_showingRight aK_barring aS aS_cells aS_fits aS_fitsInLine aS_stale aS_staleCells aS_seen aS_queue K_warm K_count K_seeds K_blocks K_rivals K_strengths K_faces K_bars K_showing K_showingRight K_barring S_pieces S_grown S_fitsInAll S_staleCount S_atLeast1 S_atLeast2 S_atLeast3 S_cells S_fits S_fitsInLine S_stale S_staleCells) sz) := by
  refine cx_met (cc := cX4_renewStale) (maxL := 6) (ret := none) (Qc := fun A => va_Qv (fun (u : (Nat → Int64) × (Nat → Int32) × (Int32) × (Nat → Int32) × (Int32) × (Int64) × (Int64) × (Int64)) => Q u.1 u.2.1 u.2.2.1 u.2.2.2.1 u.2.2.2.2.1 u.2.2.2.2.2.1 u.2.2.2.2.2.2.1 u.2.2.2.2.2.2.2) (fun (u : (Nat → Int64) × (Nat → Int32) × (Int32) × (Nat → Int32) × (Int32) × (Int64) × (Int64) × (Int64)) t => va_P D vwCl (w_X4_renewStale cI cJ cZ cO aK aK_strengths aK_kinds aK_marks aK_faces aK_bars aK_showing aK_showingRight aK_barring aS aS_cells aS_fits aS_fitsInLine aS_stale aS_staleCells aS_seen aS_queue K_warm K_count K_seeds K_blocks K_rivals K_strengths K_faces K_bars K_showing K_showingRight K_barring S_pieces S_grown u.2.2.1 u.2.2.2.2.1 u.2.2.2.2.2.1 u.2.2.2.2.2.2.1 u.2.2.2.2.2.2.2 S_cells u.1 u.2.1 u.2.2.2.1 S_staleCells) t.heap) A) (lv := [(0, .ref aS)]) (by decide) rfl (Nat.le_of_ble_eq_true rfl) rfl ?_
  intro p e s m args below meth c A Z hx hb hr hlocks hts hown hml hE hK hA hZ
  have hown : s.vm.findClass RX4 = some m.cls := hown
  have k_0 := hts (.fieldLink RX4 43 "GrowingTiles$Sheet" "staleCount" "I") (List.mem_of_getElem? (i := 1) (by decide +kernel))
  have k_1 := hts (.fieldLink RX4 40 "GrowingTiles$Sheet" "staleCells" "[I") (List.mem_of_getElem? (i := 2) (by decide +kernel))
  have k_2 := hts (.fieldLink RX4 26 "GrowingTiles$Sheet" "fits" "[J") (List.mem_of_getElem? (i := 3) (by decide +kernel))
  have k_3 := hts (.fieldLink RX4 30 "GrowingTiles$Sheet" "fitsInLine" "[I") (List.mem_of_getElem? (i := 4) (by decide +kernel))
  have k_4 := hts (.initialized RX7) (List.mem_of_getElem? (i := 24) (by decide +kernel))
  have k_5 := hts (.static yX7_lineOf) (List.mem_of_getElem? (i := 63) (by decide +kernel))
  have k_6 := hts (.fieldLink RX4 33 "GrowingTiles$Sheet" "fitsInAll" "I") (List.mem_of_getElem? (i := 5) (by decide +kernel))
  have k_7 := hts (.fieldLink RX4 36 "GrowingTiles$Sheet" "stale" "[Z") (List.mem_of_getElem? (i := 6) (by decide +kernel))
  have b_2 : ∀ n_2 : Nat, ∀ (S_fits : Nat → Int64) (S_fitsInLine : Nat → Int32) (S_fitsInAll : Int32) (S_stale : Nat → Int32) (S_staleCount : Int32) (S_atLeast1 : Int64) (S_atLeast2 : Int64) (S_atLeast3 : Int64) (x1 : Int32), wq_X4_renewStale_2 K_warm K_strengths K_faces K_bars K_showing K_showingRight K_barring K_seeds K_blocks S_cells S_staleCells Q n_2 S_fits S_fitsInLine S_fitsInAll S_stale S_staleCount S_atLeast1 S_atLeast2 S_atLeast3 x1 → ∀ (H : Heap) (locs : List Loc), va_P D vwCl (w_X4_renewStale cI cJ cZ cO aK aK_strengths aK_kinds aK_marks aK_faces aK_bars aK_showing aK_showingRight aK_barring aS aS_cells aS_fits aS_fitsInLine aS_stale aS_staleCells aS_seen aS_queue K_warm K_count K_seeds K_blocks K_rivals K_strengths K_faces K_bars K_showing K_showingRight K_barring S_pieces S_grown S_fitsInAll S_staleCount S_atLeast1 S_atLeast2 S_atLeast3 S_cells S_fits S_fitsInLine S_stale S_staleCells) H → va_D A (w_X4_renewStale cI cJ cZ cO aK aK_strengths aK_kinds aK_marks aK_faces aK_bars aK_showing aK_showingRight aK_barring aS aS_cells aS_fits aS_fitsInLine aS_stale aS_staleCells aS_seen aS_queue K_warm K_count K_seeds K_blocks K_rivals K_strengths K_faces K_bars K_showing K_showingRight K_barring S_pieces S_grown S_fitsInAll S_staleCount S_atLeast1 S_atLeast2 S_atLeast3 S_cells S_fits S_fitsInLine S_stale S_staleCells) → va_S A s.heap H locs → ∀ ls : Array Slot, lv_has ls 6 [(0, .ref aS), (1, .int x1)] → W p l e rm_X4_renewStale s m args below meth c H locs 0 0 Z (F0 m 2 ls []) := by
    intro n_2
    induction n_2 with
    | zero => intro S_fits S_fitsInLine S_fitsInAll S_stale S_staleCount S_atLeast1 S_atLeast2 S_atLeast3 x1 hw; exact False.elim hw
    | succ n_2 ih_2 =>
      intro S_fits S_fitsInLine S_fitsInAll S_stale S_staleCount S_atLeast1 S_atLeast2 S_atLeast3 x1 hw H locs hP hD hS ls hl
      have hw : wf_X4_renewStale_2 K_warm K_strengths K_faces K_bars K_showing K_showingRight K_barring K_seeds K_blocks S_cells S_staleCells Q (wq_X4_renewStale_2 K_warm K_strengths K_faces K_bars K_showing K_showingRight K_barring K_seeds K_blocks S_cells S_staleCells Q n_2) S_fits S_fitsInLine S_fitsInAll S_stale S_staleCount S_atLeast1 S_atLeast2 S_atLeast3 x1 := hw
      unfold wf_X4_renewStale_2 at hw
      refine lv_iload_n hx hb dX4_renewStale_2 rfl (lv_at hl 1 rfl) ?_
      refine lv_aload_n hx hb dX4_renewStale_3 rfl (lv_at hl 0 rfl) ?_
      refine va_get (D := D) (ci := 4) (v := .int S_staleCount) (C := RX4) (T := TX4) (N := 15) hx hb hts in_X4_renewStale_X4 hown hK hP 7 rfl rfl 9 (by decide) k_0 (fun _ h9 => h9) rfl dX4_renewStale_4 ?_
      refine lv_icmp_ge (tgt := 84) hx hb dX4_renewStale_7 (by decide) (fun c7 => ?_) (fun c7 => ?_)
      · have hw := hw.1 c7
        refine lv_aload_n hx hb dX4_renewStale_84 rfl (lv_at hl 0 rfl) ?_
        refine lv_iconst (v := (0 : Int32)) hx hb dX4_renewStale_85 kI_0 ?_
        refine va_put (D := D) (ci := 4) (v := .int (0 : Int32)) (ty := .int) (C := RX4) (T := TX4) (N := 15) hx hb hts in_X4_renewStale_X4 tyX4 tyX4_ok nmX4 hown hK hP hD hS 7 rfl rfl 9 (by decide) k_0 (fun _ h9 => h9) rfl (tyX4_ok 9 (by decide)) rfl rfl (Nat.le_of_ble_eq_true rfl) dX4_renewStale_86 (fun H locs hP hD hS => ?_)
        have hP : va_P D vwCl (w_X4_renewStale cI cJ cZ cO aK aK_strengths aK_kinds aK_marks aK_faces aK_bars aK_showing aK_showingRight aK_barring aS aS_cells aS_fits aS_fitsInLine aS_stale aS_staleCells aS_seen aS_queue K_warm K_count K_seeds K_blocks K_rivals K_strengths K_faces K_bars K_showing K_showingRight K_barring S_pieces S_grown S_fitsInAll (0 : Int32) S_atLeast1 S_atLeast2 S_atLeast3 S_cells S_fits S_fitsInLine S_stale S_staleCells) H := hP
        have hD : va_D A (w_X4_renewStale cI cJ cZ cO aK aK_strengths aK_kinds aK_marks aK_faces aK_bars aK_showing aK_showingRight aK_barring aS aS_cells aS_fits aS_fitsInLine aS_stale aS_staleCells aS_seen aS_queue K_warm K_count K_seeds K_blocks K_rivals K_strengths K_faces K_bars K_showing K_showingRight K_barring S_pieces S_grown S_fitsInAll (0 : Int32) S_atLeast1 S_atLeast2 S_atLeast3 S_cells S_fits S_fitsInLine S_stale S_staleCells) := hD
        rw [hZ]
        exact cx_retv (S_fits, S_fitsInLine, S_fitsInAll, S_stale, (0 : Int32), S_atLeast1, S_atLeast2, S_atLeast3) hx hb hr hlocks hw hP hS dX4_renewStale_89
      · have hw := hw.2 c7
        refine lv_aload_n hx hb dX4_renewStale_10 rfl (lv_at hl 0 rfl) ?_
        refine va_get (D := D) (ci := 4) (v := .ref aS_staleCells) (C := RX4) (T := TX4) (N := 15) hx hb hts in_X4_renewStale_X4 hown hK hP 7 rfl rfl 8 (by decide) k_1 (fun _ h9 => h9) rfl dX4_renewStale_11 ?_
        refine lv_iload_n hx hb dX4_renewStale_14 rfl (lv_at hl 1 rfl) ?_
        have h15 := hw.1
        have hw := hw.2
        refine va_iald hx hb hK hP 12 0 rfl rfl h15 dX4_renewStale_15 ?_
        refine lv_topi (fun v15 e15 => ?_)
        have hw := hw v15 e15
        refine lv_istore_n (lv' := [(2, .int v15), (0, .ref aS), (1, .int x1)]) hx hb dX4_renewStale_16 rfl hl (by decide) rfl (fun ls hl => ?_)
        refine lv_aload_n hx hb dX4_renewStale_17 rfl (lv_at hl 1 rfl) ?_
        refine lv_iload_n hx hb dX4_renewStale_18 rfl (lv_at hl 0 rfl) ?_
        refine cx_gol (va_runV (As := [.int v15]) (rest := []) ⟨hx, hb, hml, hown, hts⟩ (c_X4_fitsNow l D cI cJ cZ cO tS tT H.size aK aK_strengths aK_kinds aK_marks aK_faces aK_bars aK_showing aK_showingRight aK_barring aS aS_cells aS_fits aS_fitsInLine aS_stale aS_staleCells aS_seen aS_queue K_warm K_count K_seeds K_blocks K_rivals K_strengths K_faces K_bars K_showing K_showingRight K_barring S_pieces S_grown S_fitsInAll S_staleCount S_atLeast1 S_atLeast2 S_atLeast3 S_cells v15 _ hw) (cwV 1 hts gX4_renewStale_X4_fitsNow rfl rfl rfl pv_X4_fitsNow ⟨Nat.le_of_ble_eq_true rfl, Nat.le_of_ble_eq_true rfl⟩) (cx_preV (wc := w_X4_fitsNow cI cJ cZ cO aK aK_strengths aK_kinds aK_marks aK_faces aK_bars aK_showing aK_showingRight aK_barring aS aS_cells aS_fits aS_fitsInLine aS_stale aS_staleCells aS_seen aS_queue K_warm K_count K_seeds K_blocks K_rivals K_strengths K_faces K_bars K_showing K_showingRight K_barring S_pieces S_grown S_fitsInAll S_staleCount S_atLeast1 S_atLeast2 S_atLeast3 S_cells) hE hK hP hD hS hA [0, 1, 2, 3, 4, 5, 6, 7, 8] rfl rfl (va_recv hK hP (ci := 4) (q0 := 7) rfl rfl)) rfl rfl hl.1 rfl (lv_room (Nat.le_of_ble_eq_true rfl)) dX4_renewStale_19 ⟨Nat.le_of_ble_eq_true rfl, Nat.le_of_ble_eq_true rfl⟩) (fun (u : (Int64) × (Int64) × (Int64)) => (w_X4_renewStale cI cJ cZ cO aK aK_strengths aK_kinds aK_marks aK_faces aK_bars aK_showing aK_showingRight aK_barring aS aS_cells aS_fits aS_fitsInLine aS_stale aS_staleCells aS_seen aS_queue K_warm K_count K_seeds K_blocks K_rivals K_strengths K_faces K_bars K_showing K_showingRight K_barring S_pieces S_grown S_fitsInAll S_staleCount u.1 u.2.1 u.2.2 S_cells S_fits S_fitsInLine S_stale S_staleCells)) [0, 1, 2, 3, 4, 5, 6, 7, 8] [9, 10, 11, 12] (ads := [aK, aK_strengths, aK_faces, aK_bars, aK_showing, aK_showingRight, aK_barring, aS, aS_cells]) (wr := [(aS_fits, .inl (cJ, 324, .inr (.inl S_fits))), (aS_fitsInLine, .inl (cI, 16, .inl S_fitsInLine)), (aS_stale, .inl (cZ, 324, .inl S_stale)), (aS_staleCells, .inl (cI, 256, .inl S_staleCells))]) rfl rfl (fun u => rfl) (fun u => rfl) rfl (fun u => rfl) rfl (fun u => rfl) rfl hP hD hS hA (fun r19 u H locs hw hP hD hS => ?_)
        obtain ⟨S_atLeast1_19, S_atLeast2_19, S_atLeast3_19⟩ := u
        try dsimp only at hw
        have hP : va_P D vwCl (w_X4_renewStale cI cJ cZ cO aK aK_strengths aK_kinds aK_marks aK_faces aK_bars aK_showing aK_showingRight aK_barring aS aS_cells aS_fits aS_fitsInLine aS_stale aS_staleCells aS_seen aS_queue K_warm K_count K_seeds K_blocks K_rivals K_strengths K_faces K_bars K_showing K_showingRight K_barring S_pieces S_grown S_fitsInAll S_staleCount S_atLeast1_19 S_atLeast2_19 S_atLeast3_19 S_cells S_fits S_fitsInLine S_stale S_staleCells) H := hP
        have hD : va_D A (w_X4_renewStale cI cJ cZ cO aK aK_strengths aK_kinds aK_marks aK_faces aK_bars aK_showing aK_showingRight aK_barring aS aS_cells aS_fits aS_fitsInLine aS_stale aS_staleCells aS_seen aS_queue K_warm K_count K_seeds K_blocks K_rivals K_strengths K_faces K_bars K_showing K_showingRight K_barring S_pieces S_grown S_fitsInAll S_staleCount S_atLeast1_19 S_atLeast2_19 S_atLeast3_19 S_cells S_fits S_fitsInLine S_stale S_staleCells) := hD
        refine lv_lstore_n (lv' := [(3, .long r19), (2, .int v15), (0, .ref aS), (1, .int x1)]) hx hb dX4_renewStale_22 rfl hl (by decide) rfl (fun ls hl => ?_)
        refine lv_lload_n hx hb dX4_renewStale_23 rfl (lv_at hl 0 rfl) ?_
        refine cx_goi (va_runS (As := [.long r19]) (rest := []) ⟨hx, hb, hml, hown, hts⟩ (c_J13_bitCount_95d88 l D cI cJ cZ cO tS tT H.size r19 _ hw) (va_cwS 1 hts gX4_renewStale_J13_bitCount_95d88 rfl rfl rfl ps_J13_bitCount_95d88 ⟨Nat.le_of_ble_eq_true rfl, Nat.le_of_ble_eq_true rfl⟩) (cx_preS (wc := w_J13_bitCount_95d88) hE hK hP hD hS hA [] rfl rfl) rfl rfl hl.1 rfl (lv_room (Nat.le_of_ble_eq_true rfl)) dX4_renewStale_24 ⟨Nat.le_of_ble_eq_true rfl, Nat.le_of_ble_eq_true rfl⟩) (fun (_ : Unit) => (w_X4_renewStale cI cJ cZ cO aK aK_strengths aK_kinds aK_marks aK_faces aK_bars aK_showing aK_showingRight aK_barring aS aS_cells aS_fits aS_fitsInLine aS_stale aS_staleCells aS_seen aS_queue K_warm K_count K_seeds K_blocks K_rivals K_strengths K_faces K_bars K_showing K_showingRight K_barring S_pieces S_grown S_fitsInAll S_staleCount S_atLeast1_19 S_atLeast2_19 S_atLeast3_19 S_cells S_fits S_fitsInLine S_stale S_staleCells)) [] [0, 1, 2, 3, 4, 5, 6, 7, 8, 9, 10, 11, 12] (ads := []) (wr := [(aK, .inr (1, [.int K_warm, .int K_count, .ref aK_strengths, .ref aK_kinds, .ref aK_marks, .ref aK_faces, .ref aK_bars, .ref aK_showing, .ref aK_showingRight, .ref aK_barring, .long K_seeds, .long K_blocks, .long K_rivals])), (aK_strengths, .inl (cI, 51, .inl K_strengths)), (aK_faces, .inl (cI, 512, .inl K_faces)), (aK_bars, .inl (cI, 128, .inl K_bars)), (aK_showing, .inl (cJ, 204, .inr (.inl K_showing))), (aK_showingRight, .inl (cJ, 204, .inr (.inl K_showingRight))), (aK_barring, .inl (cJ, 4, .inr (.inl K_barring))), (aS, .inr (4, [.ref aK, .ref aS_cells, .int S_pieces, .int S_grown, .ref aS_fits, .ref aS_fitsInLine, .int S_fitsInAll, .ref aS_stale, .ref aS_staleCells, .int S_staleCount, .long S_atLeast1_19, .long S_atLeast2_19, .long S_atLeast3_19, .ref aS_seen, .ref aS_queue])), (aS_cells, .inl (cI, 324, .inl S_cells)), (aS_fits, .inl (cJ, 324, .inr (.inl S_fits))), (aS_fitsInLine, .inl (cI, 16, .inl S_fitsInLine)), (aS_stale, .inl (cZ, 324, .inl S_stale)), (aS_staleCells, .inl (cI, 256, .inl S_staleCells))]) rfl rfl (fun u => rfl) (fun u => rfl) rfl (fun u => rfl) rfl (fun u => rfl) rfl hP hD hS hA (fun r24 u H locs hw hP hD hS => ?_)
        refine lv_aload_n hx hb dX4_renewStale_27 rfl (lv_at hl 2 rfl) ?_
        refine va_get (D := D) (ci := 4) (v := .ref aS_fits) (C := RX4) (T := TX4) (N := 15) hx hb hts in_X4_renewStale_X4 hown hK hP 7 rfl rfl 4 (by decide) k_2 (fun _ h9 => h9) rfl dX4_renewStale_28 ?_
        refine lv_iload_n hx hb dX4_renewStale_31 rfl (lv_at hl 1 rfl) ?_
        have h32 := hw.1
        have hw := hw.2
        refine va_lald hx hb hK hP 9 1 rfl rfl h32 dX4_renewStale_32 ?_
        refine lv_topl (fun v32 e32 => ?_)
        have hw := hw v32 e32
        refine cx_goi (va_runS (As := [.long v32]) (rest := [.int r24]) ⟨hx, hb, hml, hown, hts⟩ (c_J13_bitCount_95d88 l D cI cJ cZ cO tS tT H.size v32 _ hw) (va_cwS 1 hts gX4_renewStale_J13_bitCount_95d88 rfl rfl rfl ps_J13_bitCount_95d88 ⟨Nat.le_of_ble_eq_true rfl, Nat.le_of_ble_eq_true rfl⟩) (cx_preS (wc := w_J13_bitCount_95d88) hE hK hP hD hS hA [] rfl rfl) rfl rfl hl.1 rfl (lv_room (Nat.le_of_ble_eq_true rfl)) dX4_renewStale_33 ⟨Nat.le_of_ble_eq_true rfl, Nat.le_of_ble_eq_true rfl⟩) (fun (_ : Unit) => (w_X4_renewStale cI cJ cZ cO aK aK_strengths aK_kinds aK_marks aK_faces aK_bars aK_showing aK_showingRight aK_barring aS aS_cells aS_fits aS_fitsInLine aS_stale aS_staleCells aS_seen aS_queue K_warm K_count K_seeds K_blocks K_rivals K_strengths K_faces K_bars K_showing K_showingRight K_barring S_pieces S_grown S_fitsInAll S_staleCount S_atLeast1_19 S_atLeast2_19 S_atLeast3_19 S_cells S_fits S_fitsInLine S_stale S_staleCells)) [] [0, 1, 2, 3, 4, 5, 6, 7, 8, 9, 10, 11, 12] (ads := []) (wr := [(aK, .inr (1, [.int K_warm, .int K_count, .ref aK_strengths, .ref aK_kinds, .ref aK_marks, .ref aK_faces, .ref aK_bars, .ref aK_showing, .ref aK_showingRight, .ref aK_barring, .long K_seeds, .long K_blocks, .long K_rivals])), (aK_strengths, .inl (cI, 51, .inl K_strengths)), (aK_faces, .inl (cI, 512, .inl K_faces)), (aK_bars, .inl (cI, 128, .inl K_bars)), (aK_showing, .inl (cJ, 204, .inr (.inl K_showing))), (aK_showingRight, .inl (cJ, 204, .inr (.inl K_showingRight))), (aK_barring, .inl (cJ, 4, .inr (.inl K_barring))), (aS, .inr (4, [.ref aK, .ref aS_cells, .int S_pieces, .int S_grown, .ref aS_fits, .ref aS_fitsInLine, .int S_fitsInAll, .ref aS_stale, .ref aS_staleCells, .int S_staleCount, .long S_atLeast1_19, .long S_atLeast2_19, .long S_atLeast3_19, .ref aS_seen, .ref aS_queue])), (aS_cells, .inl (cI, 324, .inl S_cells)), (aS_fits, .inl (cJ, 324, .inr (.inl S_fits))), (aS_fitsInLine, .inl (cI, 16, .inl S_fitsInLine)), (aS_stale, .inl (cZ, 324, .inl S_stale)), (aS_staleCells, .inl (cI, 256, .inl S_staleCells))]) rfl rfl (fun u => rfl) (fun u => rfl) rfl (fun u => rfl) rfl (fun u => rfl) rfl hP hD hS hA (fun r33 u H locs hw hP hD hS => ?_)
        refine lv_isub hx hb dX4_renewStale_36 ?_
        refine lv_topi (fun v37 e37 => ?_)
        have hw := hw v37 e37
        refine lv_istore (lv' := [(5, .int v37), (3, .long r19), (2, .int v15), (0, .ref aS), (1, .int x1)]) hx hb dX4_renewStale_37 hl (by decide) rfl (fun ls hl => ?_)
        refine lv_aload_n hx hb dX4_renewStale_39 rfl (lv_at hl 3 rfl) ?_
        refine va_get (D := D) (ci := 4) (v := .ref aS_fits) (C := RX4) (T := TX4) (N := 15) hx hb hts in_X4_renewStale_X4 hown hK hP 7 rfl rfl 4 (by decide) k_2 (fun _ h9 => h9) rfl dX4_renewStale_40 ?_
        refine lv_iload_n hx hb dX4_renewStale_43 rfl (lv_at hl 2 rfl) ?_
        refine lv_lload_n hx hb dX4_renewStale_44 rfl (lv_at hl 1 rfl) ?_
        have h45 := hw.1
        have hw := hw.2
        refine va_last hx hb hK hP hD hS 9 1 rfl rfl h45 dX4_renewStale_45 (fun H locs hP hD hS => ?_)
        have hP : va_P D vwCl (w_X4_renewStale cI cJ cZ cO aK aK_strengths aK_kinds aK_marks aK_faces aK_bars aK_showing aK_showingRight aK_barring aS aS_cells aS_fits aS_fitsInLine aS_stale aS_staleCells aS_seen aS_queue K_warm K_count K_seeds K_blocks K_rivals K_strengths K_faces K_bars K_showing K_showingRight K_barring S_pieces S_grown S_fitsInAll S_staleCount S_atLeast1_19 S_atLeast2_19 S_atLeast3_19 S_cells (vp_updL S_fits v15.toNatClampNeg r19) S_fitsInLine S_stale S_staleCells) H := hP
        have hD : va_D A (w_X4_renewStale cI cJ cZ cO aK aK_strengths aK_kinds aK_marks aK_faces aK_bars aK_showing aK_showingRight aK_barring aS aS_cells aS_fits aS_fitsInLine aS_stale aS_staleCells aS_seen aS_queue K_warm K_count K_seeds K_blocks K_rivals K_strengths K_faces K_bars K_showing K_showingRight K_barring S_pieces S_grown S_fitsInAll S_staleCount S_atLeast1_19 S_atLeast2_19 S_atLeast3_19 S_cells (vp_updL S_fits v15.toNatClampNeg r19) S_fitsInLine S_stale S_staleCells) := hD
        obtain ⟨S_fits_45, e45⟩ : ∃ y : Nat → Int64, y = vp_updL S_fits v15.toNatClampNeg r19 := ⟨_, rfl⟩
        rw [← e45] at hP hD
        have hw := hw S_fits_45 e45
        refine lv_aload_n hx hb dX4_renewStale_46 rfl (lv_at hl 3 rfl) ?_
        refine va_get (D := D) (ci := 4) (v := .ref aS_fitsInLine) (C := RX4) (T := TX4) (N := 15) hx hb hts in_X4_renewStale_X4 hown hK hP 7 rfl rfl 5 (by decide) k_3 (fun _ h9 => h9) rfl dX4_renewStale_47 ?_
        refine lv_iload_n hx hb dX4_renewStale_50 rfl (lv_at hl 2 rfl) ?_
        refine cx_goi (va_runSN (As := [.int v15]) (rest := [.ref aS_fitsInLine]) ⟨hx, hb, hml, hown, hts⟩ (c_X7_lineOf l D cI cJ cZ cO tS tT H.size v15 _ hw) ⟨va_cnB 1 hts gX4_renewStale_X7_lineOf_n106 rfl rfl rfl (hE.1.2.2.2.2.2.2.1) k_4 ps_X7_lineOf ⟨Nat.le_of_ble_eq_true rfl, Nat.le_of_ble_eq_true rfl⟩, k_5, trivial⟩ (cx_preS (wc := w_X7_lineOf) hE hK hP hD hS hA [] rfl rfl) rfl rfl hl.1 rfl (lv_room (Nat.le_of_ble_eq_true rfl)) dX4_renewStale_51 ⟨Nat.le_of_ble_eq_true rfl, Nat.le_of_ble_eq_true rfl⟩) (fun (_ : Unit) => (w_X4_renewStale cI cJ cZ cO aK aK_strengths aK_kinds aK_marks aK_faces aK_bars aK_showing aK_showingRight aK_barring aS aS_cells aS_fits aS_fitsInLine aS_stale aS_staleCells aS_seen aS_queue K_warm K_count K_seeds K_blocks K_rivals K_strengths K_faces K_bars K_showing K_showingRight K_barring S_pieces S_grown S_fitsInAll S_staleCount S_atLeast1_19 S_atLeast2_19 S_atLeast3_19 S_cells S_fits_45 S_fitsInLine S_stale S_staleCells)) [] [0, 1, 2, 3, 4, 5, 6, 7, 8, 9, 10, 11, 12] (ads := []) (wr := [(aK, .inr (1, [.int K_warm, .int K_count, .ref aK_strengths, .ref aK_kinds, .ref aK_marks, .ref aK_faces, .ref aK_bars, .ref aK_showing, .ref aK_showingRight, .ref aK_barring, .long K_seeds, .long K_blocks, .long K_rivals])), (aK_strengths, .inl (cI, 51, .inl K_strengths)), (aK_faces, .inl (cI, 512, .inl K_faces)), (aK_bars, .inl (cI, 128, .inl K_bars)), (aK_showing, .inl (cJ, 204, .inr (.inl K_showing))), (aK_showingRight, .inl (cJ, 204, .inr (.inl K_showingRight))), (aK_barring, .inl (cJ, 4, .inr (.inl K_barring))), (aS, .inr (4, [.ref aK, .ref aS_cells, .int S_pieces, .int S_grown, .ref aS_fits, .ref aS_fitsInLine, .int S_fitsInAll, .ref aS_stale, .ref aS_staleCells, .int S_staleCount, .long S_atLeast1_19, .long S_atLeast2_19, .long S_atLeast3_19, .ref aS_seen, .ref aS_queue])), (aS_cells, .inl (cI, 324, .inl S_cells)), (aS_fits, .inl (cJ, 324, .inr (.inl S_fits_45))), (aS_fitsInLine, .inl (cI, 16, .inl S_fitsInLine)), (aS_stale, .inl (cZ, 324, .inl S_stale)), (aS_staleCells, .inl (cI, 256, .inl S_staleCells))]) rfl rfl (fun u => rfl) (fun u => rfl) rfl (fun u => rfl) rfl (fun u => rfl) rfl hP hD hS hA (fun r51 u H locs hw hP hD hS => ?_)
        refine lv_dup2_11 hx hb dX4_renewStale_54 rfl rfl ?_
        have h55 := hw.1
        have hw := hw.2
        refine va_iald hx hb hK hP 10 0 rfl rfl h55 dX4_renewStale_55 ?_
        refine lv_topi (fun v55 e55 => ?_)
        have hw := hw v55 e55
        refine lv_iload hx hb dX4_renewStale_56 (lv_at hl 0 rfl) ?_
        refine lv_iadd hx hb dX4_renewStale_58 ?_
        have h59 := hw.1
        have hw := hw.2
        refine va_iast hx hb hK hP hD hS 10 0 rfl rfl h59 dX4_renewStale_59 (fun H locs hP hD hS => ?_)
        have hP : va_P D vwCl (w_X4_renewStale cI cJ cZ cO aK aK_strengths aK_kinds aK_marks aK_faces aK_bars aK_showing aK_showingRight aK_barring aS aS_cells aS_fits aS_fitsInLine aS_stale aS_staleCells aS_seen aS_queue K_warm K_count K_seeds K_blocks K_rivals K_strengths K_faces K_bars K_showing K_showingRight K_barring S_pieces S_grown S_fitsInAll S_staleCount S_atLeast1_19 S_atLeast2_19 S_atLeast3_19 S_cells S_fits_45 (upd S_fitsInLine r51.toNatClampNeg (v55 + v37)) S_stale S_staleCells) H := hP
        have hD : va_D A (w_X4_renewStale cI cJ cZ cO aK aK_strengths aK_kinds aK_marks aK_faces aK_bars aK_showing aK_showingRight aK_barring aS aS_cells aS_fits aS_fitsInLine aS_stale aS_staleCells aS_seen aS_queue K_warm K_count K_seeds K_blocks K_rivals K_strengths K_faces K_bars K_showing K_showingRight K_barring S_pieces S_grown S_fitsInAll S_staleCount S_atLeast1_19 S_atLeast2_19 S_atLeast3_19 S_cells S_fits_45 (upd S_fitsInLine r51.toNatClampNeg (v55 + v37)) S_stale S_staleCells) := hD
        obtain ⟨S_fitsInLine_59, e59⟩ : ∃ y : Nat → Int32, y = upd S_fitsInLine r51.toNatClampNeg (v55 + v37) := ⟨_, rfl⟩
        rw [← e59] at hP hD
        have hw := hw S_fitsInLine_59 e59
        refine lv_aload_n hx hb dX4_renewStale_60 rfl (lv_at hl 3 rfl) ?_
        refine lv_dup hx hb dX4_renewStale_61 rfl ?_
        refine va_get (D := D) (ci := 4) (v := .int S_fitsInAll) (C := RX4) (T := TX4) (N := 15) hx hb hts in_X4_renewStale_X4 hown hK hP 7 rfl rfl 6 (by decide) k_6 (fun _ h9 => h9) rfl dX4_renewStale_62 ?_
        refine lv_iload hx hb dX4_renewStale_65 (lv_at hl 0 rfl) ?_
        refine lv_iadd hx hb dX4_renewStale_67 ?_
        refine lv_topi (fun S_fitsInAll_68 e68 => ?_)
        have hw := hw S_fitsInAll_68 e68
        refine va_put (D := D) (ci := 4) (v := .int S_fitsInAll_68) (ty := .int) (C := RX4) (T := TX4) (N := 15) hx hb hts in_X4_renewStale_X4 tyX4 tyX4_ok nmX4 hown hK hP hD hS 7 rfl rfl 6 (by decide) k_6 (fun _ h9 => h9) rfl (tyX4_ok 6 (by decide)) rfl rfl (Nat.le_of_ble_eq_true rfl) dX4_renewStale_68 (fun H locs hP hD hS => ?_)
        have hP : va_P D vwCl (w_X4_renewStale cI cJ cZ cO aK aK_strengths aK_kinds aK_marks aK_faces aK_bars aK_showing aK_showingRight aK_barring aS aS_cells aS_fits aS_fitsInLine aS_stale aS_staleCells aS_seen aS_queue K_warm K_count K_seeds K_blocks K_rivals K_strengths K_faces K_bars K_showing K_showingRight K_barring S_pieces S_grown S_fitsInAll_68 S_staleCount S_atLeast1_19 S_atLeast2_19 S_atLeast3_19 S_cells S_fits_45 S_fitsInLine_59 S_stale S_staleCells) H := hP
        have hD : va_D A (w_X4_renewStale cI cJ cZ cO aK aK_strengths aK_kinds aK_marks aK_faces aK_bars aK_showing aK_showingRight aK_barring aS aS_cells aS_fits aS_fitsInLine aS_stale aS_staleCells aS_seen aS_queue K_warm K_count K_seeds K_blocks K_rivals K_strengths K_faces K_bars K_showing K_showingRight K_barring S_pieces S_grown S_fitsInAll_68 S_staleCount S_atLeast1_19 S_atLeast2_19 S_atLeast3_19 S_cells S_fits_45 S_fitsInLine_59 S_stale S_staleCells) := hD
        refine lv_aload_n hx hb dX4_renewStale_71 rfl (lv_at hl 3 rfl) ?_
        refine va_get (D := D) (ci := 4) (v := .ref aS_stale) (C := RX4) (T := TX4) (N := 15) hx hb hts in_X4_renewStale_X4 hown hK hP 7 rfl rfl 7 (by decide) k_7 (fun _ h9 => h9) rfl dX4_renewStale_72 ?_
        refine lv_iload_n hx hb dX4_renewStale_75 rfl (lv_at hl 2 rfl) ?_
        refine lv_iconst (v := (0 : Int32)) hx hb dX4_renewStale_76 kI_0 ?_
        have h77 := hw.1
        have hw := hw.2
        refine va_zast hx hb hK hP hD hS 11 2 rfl rfl h77 dX4_renewStale_77 (fun H locs hP hD hS => ?_)
        have hP : va_P D vwCl (w_X4_renewStale cI cJ cZ cO aK aK_strengths aK_kinds aK_marks aK_faces aK_bars aK_showing aK_showingRight aK_barring aS aS_cells aS_fits aS_fitsInLine aS_stale aS_staleCells aS_seen aS_queue K_warm K_count K_seeds K_blocks K_rivals K_strengths K_faces K_bars K_showing K_showingRight K_barring S_pieces S_grown S_fitsInAll_68 S_staleCount S_atLeast1_19 S_atLeast2_19 S_atLeast3_19 S_cells S_fits_45 S_fitsInLine_59 (upd S_stale v15.toNatClampNeg (vp_nar .boolean (0 : Int32))) S_staleCells) H := hP
        have hD : va_D A (w_X4_renewStale cI cJ cZ cO aK aK_strengths aK_kinds aK_marks aK_faces aK_bars aK_showing aK_showingRight aK_barring aS aS_cells aS_fits aS_fitsInLine aS_stale aS_staleCells aS_seen aS_queue K_warm K_count K_seeds K_blocks K_rivals K_strengths K_faces K_bars K_showing K_showingRight K_barring S_pieces S_grown S_fitsInAll_68 S_staleCount S_atLeast1_19 S_atLeast2_19 S_atLeast3_19 S_cells S_fits_45 S_fitsInLine_59 (upd S_stale v15.toNatClampNeg (vp_nar .boolean (0 : Int32))) S_staleCells) := hD
        obtain ⟨S_stale_77, e77⟩ : ∃ y : Nat → Int32, y = upd S_stale v15.toNatClampNeg (vp_nar .boolean (0 : Int32)) := ⟨_, rfl⟩
        rw [← e77] at hP hD
        have hw := hw S_stale_77 e77
        obtain ⟨v78, e78⟩ : ∃ y : Int32, y = x1 + (1 : Int32) := ⟨_, rfl⟩
        have hw := hw v78 e78
        refine lv_iinc (v := v78) (lv' := [(1, .int v78), (5, .int v37), (3, .long r19), (2, .int v15), (0, .ref aS)]) hx hb dX4_renewStale_78 hl (k := 4) rfl (by rw [e78, kI_1]) (by decide) rfl (fun ls hl => ?_)
        refine lv_goto (tgt := 2) hx hb dX4_renewStale_81 (by decide) ?_
        exact ih_2 S_fits_45 S_fitsInLine_59 S_fitsInAll_68 S_stale_77 S_staleCount S_atLeast1_19 S_atLeast2_19 S_atLeast3_19 v78 hw H locs hP hD hS ls (lv_sub hl [4, 0] rfl)
  intro H locs hP hD hS ls hl
  unfold wp_X4_renewStale at hw
  refine lv_iconst (v := (0 : Int32)) hx hb dX4_renewStale_0 kI_0 ?_
  refine lv_istore_n (lv' := [(1, .int (0 : Int32)), (0, .ref aS)]) hx hb dX4_renewStale_1 rfl hl (by decide) rfl (fun ls hl => ?_)
  obtain ⟨k, hw⟩ := hw
  exact b_2 k S_fits S_fitsInLine S_fitsInAll S_stale S_staleCount S_atLeast1 S_atLeast2 S_atLeast3 (0 : Int32) hw H locs hP hD hS ls (lv_sub hl [1, 0] rfl)
