set_option maxRecDepth 100000 in
set_option maxHeartbeats 4000000 in
theorem c_X1_copyFrom (l : Launch) (D : va_G) (cI cJ cZ cO : ClassId) (tS tT : Nat) (sz : Nat) (aK aK_strengths aK_kinds aK_marks aK_faces aK_bars aK_showing aK_showingRight aK_barring aL aL_strengths aL_kinds aL_marks aL_faces aL_bars aL_showing aL_showingRight aL_barring : Nat) (K_warm : Int32) (K_count : Int32) (K_seeds : Int64) (K_blocks : Int64) (K_rivals : Int64) (K_strengths : Nat → Int32) (K_kinds : Nat → Int32) (K_marks : Nat → Int32) (K_faces : Nat → Int32) (K_bars : Nat → Int32) (K_showing : Nat → Int64) (K_showingRight : Nat → Int64) (K_barring : Nat → Int64) (L_warm : Int32) (L_count : Int32) (L_seeds : Int64) (L_blocks : Int64) (L_rivals : Int64) (L_strengths : Nat → Int32) (L_kinds : Nat → Int32) (L_marks : Nat → Int32) (L_faces : Nat → Int32) (L_bars : Nat → Int32) (L_showing : Nat → Int64) (L_showingRight : Nat → Int64) (L_barring : Nat → Int64) (Q : (Int32) → (Int32) → (Nat → Int32) → (Nat → Int32) → (Nat → Int32) → (Nat → Int32) → (Nat → Int32) → (Nat → Int64) → (Nat → Int64) → (Nat → Int64) → (Int64) → (Int64) → (Int64) → Prop) (hw : wp_X1_copyFrom L_warm L_count L_strengths L_kinds L_marks L_faces L_bars L_showing L_showingRight L_barring L_seeds L_blocks L_rivals K_warm K_count K_strengths K_kinds K_marks K_faces K_bars K_showing K_showingRight K_barring K_seeds K_blocks K_rivals Q) : Met l yX1_copyFrom wsX1_copyFrom rm_X1_copyFrom (va_Pc [.ref aK, .ref aL] (cx_B tS tT cI cJ cZ cO D sz (w_X1_copyFrom cI cJ cZ cO aK aK_strengths aK_kinds aK_marks aK_faces aK_bars aK_showing aK_showingRight aK_barring aL aL_strengths aL_kinds aL_marks aL_faces aL_bars aL_showing aL_showingRight aL_barring K_warm K_count K_seeds K_blocks K_rivals K_strengths K_kinds K_marks K_faces K_bars K_showing K_showingRight K_barring L_warm L_count L_seeds L_blocks L_rivals L_strengths L_kinds L_marks L_faces L_bars L_showing L_showingRight L_barring))) (va_Qv (fun (u : (Int32) × (Int32) × (Nat → Int32) × (Nat → Int32) × (Nat → Int32) × (Nat → Int32) × (Nat → Int32) × (Nat → Int64) × (Nat → Int64) × (Nat → Int64) × (Int64) × (Int64) × (Int64)) => Q u.1 u.2.1 u.2.2.1 u.2.2.2.1 u.2.2.2.2.1 u.2.2.2.2.2.1 u.2.2.2.2.2.2.1 u.2.2.2.2.2.2.2.1 u.2.2.2.2.2.2.2.2.1 u.2.2.2.2.2.2.2.2.2.1 u.2.2.2.2.2.2.2.2.2.2.1 u.2.2.2.2.2.2.2.2.2.2.2.1 u.2.2.2.2.2.2.2.2.2.2.2.2) (fun (u : (Int32) × (Int32) × (Nat → Int32) × (Nat → Int32) × (Nat → Int32) × (Nat → Int32) × (Nat → Int32) × (Nat → Int64) × (Nat → Int64) × (Nat → Int64) × (Int64) × (Int64) × (Int64)) t => va_P D vwCl (w_X1_copyFrom cI cJ cZ cO aK aK_strengths aK_kinds aK_marks aK_faces aK_bars aK_showing aK_showingRight aK_barring aL aL_strengths aL_kinds aL_marks aL_faces aL_bars aL_showing aL_showingRight aL_barring u.1 u.2.1 u.2.2.2.2.2.2.2.2.2.2.1 u.2.2.2.2.2.2.2.2.2.2.2.1 u.2.2.2.2.2.2.2.2.2.2.2.2 u.2.2.1 u.2.2.2.1 u.2.2.2.2.1 u.2.2.2.2.2.1 u.2.2.2.2.2.2.1 u.2.2.2.2.2.2.2.1 u.2.2.2.2.2.2.2.2.1 u.2.2.2.2.2.2.2.2.2.1 L_warm L_count L_seeds L_blocks L_rivals L_strengths L_kinds L_marks L_faces L_bars L_showing L_showingRight L_barring) t.heap) (va_A (w_X1_copyFrom cI cJ cZ cO aK aK_strengths aK_kinds aK_marks aK_faces aK_bars aK_showing aK_showingRight aK_barring aL aL_strengths aL_kinds aL_marks aL_faces aL_bars aL_showing aL_showingRight aL_barring K_warm K_count K_seeds K_blocks K_rivals K_strengths K_kinds K_marks K_faces K_bars K_showing K_showingRight K_barring L_warm L_count L_seeds L_blocks L_rivals L_strengths L_kinds L_marks L_faces L_bars L_showing L_showingRight L_barring) sz)) 0 0 (va_A (w_X1_copyFrom cI cJ cZ cO aK aK_strengths aK_kinds aK_marks aK_faces aK_bars aK_showing aK_showingRight aK_barring aL aL_strengths aL_kinds aL_marks aL_faces aL_bars aL_showing aL_showingRight aL_barring K_warm K_count K_seeds K_blocks K_rivals K_strengths K_kinds K_marks K_faces K_bars K_showing K_showingRight K_barring L_warm L_count L_seeds L_blocks L_rivals L_strengths L_kinds L_marks L_faces L_bars L_showing L_showingRight L_barring) sz) := by
  refine cx_met (cc := cX1_copyFrom) (maxL := 2) (ret := none) (Qc := fun A => va_Qv (fun (u : (Int32) × (Int32) × (Nat → Int32) × (Nat → Int32) × (Nat → Int32) × (Nat → Int32) × (Nat → Int32) × (Nat → Int64) × (Nat → Int64) × (Nat → Int64) × (Int64) × (Int64) × (Int64)) => Q u.1 u.2.1 u.2.2.1 u.2.2.2.1 u.2.2.2.2.1 u.2.2.2.2.2.1 u.2.2.2.2.2.2.1 u.2.2.2.2.2.2.2.1 u.2.2.2.2.2.2.2.2.1 u.2.2.2.2.2.2.2.2.2.1 u.2.2.2.2.2.2.2.2.2.2.1 u.2.2.2.2.2.2.2.2.2.2.2.1 u.2.2.2.2.2.2.2.2.2.2.2.2) (fun (u : (Int32) × (Int32) × (Nat → Int32) × (Nat → Int32) × (Nat → Int32) × (Nat → Int32) × (Nat → Int32) × (Nat → Int64) × (Nat → Int64) × (Nat → Int64) × (Int64) × (Int64) × (Int64)) t => va_P D vwCl (w_X1_copyFrom cI cJ cZ cO aK aK_strengths aK_kinds aK_marks aK_faces aK_bars aK_showing aK_showingRight aK_barring aL aL_strengths aL_kinds aL_marks aL_faces aL_bars aL_showing aL_showingRight aL_barring u.1 u.2.1 u.2.2.2.2.2.2.2.2.2.2.1 u.2.2.2.2.2.2.2.2.2.2.2.1 u.2.2.2.2.2.2.2.2.2.2.2.2 u.2.2.1 u.2.2.2.1 u.2.2.2.2.1 u.2.2.2.2.2.1 u.2.2.2.2.2.2.1 u.2.2.2.2.2.2.2.1 u.2.2.2.2.2.2.2.2.1 u.2.2.2.2.2.2.2.2.2.1 L_warm L_count L_seeds L_blocks L_rivals L_strengths L_kinds L_marks L_faces L_bars L_showing L_showingRight L_barring) t.heap) A) (lv := [(0, .ref aK), (1, .ref aL)]) (by decide) rfl (Nat.le_of_ble_eq_true rfl) rfl ?_
  intro p e s m args below meth c A Z hx hb hr hlocks hts hown hml hE hK hA hZ
  have hown : s.vm.findClass RX1 = some m.cls := hown
  have k_0 := hts (.fieldLink RX1 9 "GrowingTiles$Kit" "warm" "I") (List.mem_of_getElem? (i := 1) (by decide +kernel))
  have k_1 := hts (.fieldLink RX1 15 "GrowingTiles$Kit" "count" "I") (List.mem_of_getElem? (i := 2) (by decide +kernel))
  have k_2 := hts (.fieldLink RX1 18 "GrowingTiles$Kit" "strengths" "[I") (List.mem_of_getElem? (i := 3) (by decide +kernel))
  have k_3 := hts (.methodLink RX1 80 arraycopyName) (List.mem_of_getElem? (i := 4) (by decide +kernel))
  have k_4 := hts (.native arraycopyName) (List.mem_of_getElem? (i := 5) (by decide +kernel))
  have k_5 := hts (.static arraycopyName) (List.mem_of_getElem? (i := 6) (by decide +kernel))
  have k_6 := hts (.initialized "java/lang/System") (List.mem_of_getElem? (i := 7) (by decide +kernel))
  have k_7 := hts (.fieldLink RX1 22 "GrowingTiles$Kit" "kinds" "[I") (List.mem_of_getElem? (i := 8) (by decide +kernel))
  have k_8 := hts (.fieldLink RX1 25 "GrowingTiles$Kit" "marks" "[I") (List.mem_of_getElem? (i := 9) (by decide +kernel))
  have k_9 := hts (.fieldLink RX1 28 "GrowingTiles$Kit" "faces" "[I") (List.mem_of_getElem? (i := 10) (by decide +kernel))
  have k_10 := hts (.fieldLink RX1 31 "GrowingTiles$Kit" "bars" "[I") (List.mem_of_getElem? (i := 11) (by decide +kernel))
  have k_11 := hts (.fieldLink RX1 34 "GrowingTiles$Kit" "showing" "[J") (List.mem_of_getElem? (i := 12) (by decide +kernel))
  have k_12 := hts (.fieldLink RX1 38 "GrowingTiles$Kit" "showingRight" "[J") (List.mem_of_getElem? (i := 13) (by decide +kernel))
  have k_13 := hts (.fieldLink RX1 41 "GrowingTiles$Kit" "barring" "[J") (List.mem_of_getElem? (i := 14) (by decide +kernel))
  have k_14 := hts (.fieldLink RX1 44 "GrowingTiles$Kit" "seeds" "J") (List.mem_of_getElem? (i := 15) (by decide +kernel))
  have k_15 := hts (.fieldLink RX1 48 "GrowingTiles$Kit" "blocks" "J") (List.mem_of_getElem? (i := 16) (by decide +kernel))
  have k_16 := hts (.fieldLink RX1 51 "GrowingTiles$Kit" "rivals" "J") (List.mem_of_getElem? (i := 17) (by decide +kernel))
  intro H locs hP hD hS ls hl
  unfold wp_X1_copyFrom at hw
  refine lv_aload_n hx hb dX1_copyFrom_0 rfl (lv_at hl 0 rfl) ?_
  refine lv_aload_n hx hb dX1_copyFrom_1 rfl (lv_at hl 1 rfl) ?_
  refine va_get (D := D) (ci := 1) (v := .int L_warm) (C := RX1) (T := TX1) (N := 13) hx hb hts in_X1_copyFrom_X1 hown hK hP 9 rfl rfl 0 (by decide) k_0 (fun _ h9 => h9) rfl dX1_copyFrom_2 ?_
  refine va_put (D := D) (ci := 1) (v := .int L_warm) (ty := .int) (C := RX1) (T := TX1) (N := 13) hx hb hts in_X1_copyFrom_X1 tyX1 tyX1_ok nmX1 hown hK hP hD hS 0 rfl rfl 0 (by decide) k_0 (fun _ h9 => h9) rfl (tyX1_ok 0 (by decide)) rfl rfl (Nat.le_of_ble_eq_true rfl) dX1_copyFrom_5 (fun H locs hP hD hS => ?_)
  have hP : va_P D vwCl (w_X1_copyFrom cI cJ cZ cO aK aK_strengths aK_kinds aK_marks aK_faces aK_bars aK_showing aK_showingRight aK_barring aL aL_strengths aL_kinds aL_marks aL_faces aL_bars aL_showing aL_showingRight aL_barring L_warm K_count K_seeds K_blocks K_rivals K_strengths K_kinds K_marks K_faces K_bars K_showing K_showingRight K_barring L_warm L_count L_seeds L_blocks L_rivals L_strengths L_kinds L_marks L_faces L_bars L_showing L_showingRight L_barring) H := hP
  have hD : va_D A (w_X1_copyFrom cI cJ cZ cO aK aK_strengths aK_kinds aK_marks aK_faces aK_bars aK_showing aK_showingRight aK_barring aL aL_strengths aL_kinds aL_marks aL_faces aL_bars aL_showing aL_showingRight aL_barring L_warm K_count K_seeds K_blocks K_rivals K_strengths K_kinds K_marks K_faces K_bars K_showing K_showingRight K_barring L_warm L_count L_seeds L_blocks L_rivals L_strengths L_kinds L_marks L_faces L_bars L_showing L_showingRight L_barring) := hD
  refine lv_aload_n hx hb dX1_copyFrom_8 rfl (lv_at hl 0 rfl) ?_
  refine lv_aload_n hx hb dX1_copyFrom_9 rfl (lv_at hl 1 rfl) ?_
  refine va_get (D := D) (ci := 1) (v := .int L_count) (C := RX1) (T := TX1) (N := 13) hx hb hts in_X1_copyFrom_X1 hown hK hP 9 rfl rfl 1 (by decide) k_1 (fun _ h9 => h9) rfl dX1_copyFrom_10 ?_
  refine va_put (D := D) (ci := 1) (v := .int L_count) (ty := .int) (C := RX1) (T := TX1) (N := 13) hx hb hts in_X1_copyFrom_X1 tyX1 tyX1_ok nmX1 hown hK hP hD hS 0 rfl rfl 1 (by decide) k_1 (fun _ h9 => h9) rfl (tyX1_ok 1 (by decide)) rfl rfl (Nat.le_of_ble_eq_true rfl) dX1_copyFrom_13 (fun H locs hP hD hS => ?_)
  have hP : va_P D vwCl (w_X1_copyFrom cI cJ cZ cO aK aK_strengths aK_kinds aK_marks aK_faces aK_bars aK_showing aK_showingRight aK_barring aL aL_strengths aL_kinds aL_marks aL_faces aL_bars aL_showing aL_showingRight aL_barring L_warm L_count K_seeds K_blocks K_rivals K_strengths K_kinds K_marks K_faces K_bars K_showing K_showingRight K_barring L_warm L_count L_seeds L_blocks L_rivals L_strengths L_kinds L_marks L_faces L_bars L_showing L_showingRight L_barring) H := hP
  have hD : va_D A (w_X1_copyFrom cI cJ cZ cO aK aK_strengths aK_kinds aK_marks aK_faces aK_bars aK_showing aK_showingRight aK_barring aL aL_strengths aL_kinds aL_marks aL_faces aL_bars aL_showing aL_showingRight aL_barring L_warm L_count K_seeds K_blocks K_rivals K_strengths K_kinds K_marks K_faces K_bars K_showing K_showingRight K_barring L_warm L_count L_seeds L_blocks L_rivals L_strengths L_kinds L_marks L_faces L_bars L_showing L_showingRight L_barring) := hD
  refine lv_aload_n hx hb dX1_copyFrom_16 rfl (lv_at hl 1 rfl) ?_
  refine va_get (D := D) (ci := 1) (v := .ref aL_strengths) (C := RX1) (T := TX1) (N := 13) hx hb hts in_X1_copyFrom_X1 hown hK hP 9 rfl rfl 2 (by decide) k_2 (fun _ h9 => h9) rfl dX1_copyFrom_17 ?_
  refine lv_iconst (v := (0 : Int32)) hx hb dX1_copyFrom_20 kI_0 ?_
  refine lv_aload_n hx hb dX1_copyFrom_21 rfl (lv_at hl 0 rfl) ?_
  refine va_get (D := D) (ci := 1) (v := .ref aK_strengths) (C := RX1) (T := TX1) (N := 13) hx hb hts in_X1_copyFrom_X1 hown hK hP 0 rfl rfl 2 (by decide) k_2 (fun _ h9 => h9) rfl dX1_copyFrom_22 ?_
  refine lv_iconst (v := (0 : Int32)) hx hb dX1_copyFrom_25 kI_0 ?_
  refine lv_bipush (v := (51 : Int32)) hx hb dX1_copyFrom_26 kB_51 ?_
  refine va_copyi (ty := .int) hx hb (hml.trans hl.1.symm) hown k_3 k_4 k_5 k_6 hK hP hD hS 10 1 0 0 rfl rfl rfl rfl rfl (by decide) (by decide) (by decide) (by decide) (by decide) (fun _ _ => rfl) (Nat.le_of_ble_eq_true rfl) (by decide) dX1_copyFrom_28 (fun H locs hP hD hS => ?_)
  have hP : va_P D vwCl (w_X1_copyFrom cI cJ cZ cO aK aK_strengths aK_kinds aK_marks aK_faces aK_bars aK_showing aK_showingRight aK_barring aL aL_strengths aL_kinds aL_marks aL_faces aL_bars aL_showing aL_showingRight aL_barring L_warm L_count K_seeds K_blocks K_rivals (va_cpy L_strengths K_strengths (0 : Int32).toNatClampNeg (0 : Int32).toNatClampNeg (51 : Int32).toNatClampNeg) K_kinds K_marks K_faces K_bars K_showing K_showingRight K_barring L_warm L_count L_seeds L_blocks L_rivals L_strengths L_kinds L_marks L_faces L_bars L_showing L_showingRight L_barring) H := hP
  have hD : va_D A (w_X1_copyFrom cI cJ cZ cO aK aK_strengths aK_kinds aK_marks aK_faces aK_bars aK_showing aK_showingRight aK_barring aL aL_strengths aL_kinds aL_marks aL_faces aL_bars aL_showing aL_showingRight aL_barring L_warm L_count K_seeds K_blocks K_rivals (va_cpy L_strengths K_strengths (0 : Int32).toNatClampNeg (0 : Int32).toNatClampNeg (51 : Int32).toNatClampNeg) K_kinds K_marks K_faces K_bars K_showing K_showingRight K_barring L_warm L_count L_seeds L_blocks L_rivals L_strengths L_kinds L_marks L_faces L_bars L_showing L_showingRight L_barring) := hD
  obtain ⟨K_strengths_28, e28⟩ : ∃ y : Nat → Int32, y = va_cpy L_strengths K_strengths (0 : Int32).toNatClampNeg (0 : Int32).toNatClampNeg (51 : Int32).toNatClampNeg := ⟨_, rfl⟩
  rw [← e28] at hP hD
  have hw := hw K_strengths_28 e28
  refine lv_aload_n hx hb dX1_copyFrom_31 rfl (lv_at hl 1 rfl) ?_
  refine va_get (D := D) (ci := 1) (v := .ref aL_kinds) (C := RX1) (T := TX1) (N := 13) hx hb hts in_X1_copyFrom_X1 hown hK hP 9 rfl rfl 3 (by decide) k_7 (fun _ h9 => h9) rfl dX1_copyFrom_32 ?_
  refine lv_iconst (v := (0 : Int32)) hx hb dX1_copyFrom_35 kI_0 ?_
  refine lv_aload_n hx hb dX1_copyFrom_36 rfl (lv_at hl 0 rfl) ?_
  refine va_get (D := D) (ci := 1) (v := .ref aK_kinds) (C := RX1) (T := TX1) (N := 13) hx hb hts in_X1_copyFrom_X1 hown hK hP 0 rfl rfl 3 (by decide) k_7 (fun _ h9 => h9) rfl dX1_copyFrom_37 ?_
  refine lv_iconst (v := (0 : Int32)) hx hb dX1_copyFrom_40 kI_0 ?_
  refine lv_bipush (v := (40 : Int32)) hx hb dX1_copyFrom_41 kB_40 ?_
  refine va_copyi (ty := .int) hx hb (hml.trans hl.1.symm) hown k_3 k_4 k_5 k_6 hK hP hD hS 11 2 0 0 rfl rfl rfl rfl rfl (by decide) (by decide) (by decide) (by decide) (by decide) (fun _ _ => rfl) (Nat.le_of_ble_eq_true rfl) (by decide) dX1_copyFrom_43 (fun H locs hP hD hS => ?_)
  have hP : va_P D vwCl (w_X1_copyFrom cI cJ cZ cO aK aK_strengths aK_kinds aK_marks aK_faces aK_bars aK_showing aK_showingRight aK_barring aL aL_strengths aL_kinds aL_marks aL_faces aL_bars aL_showing aL_showingRight aL_barring L_warm L_count K_seeds K_blocks K_rivals K_strengths_28 (va_cpy L_kinds K_kinds (0 : Int32).toNatClampNeg (0 : Int32).toNatClampNeg (40 : Int32).toNatClampNeg) K_marks K_faces K_bars K_showing K_showingRight K_barring L_warm L_count L_seeds L_blocks L_rivals L_strengths L_kinds L_marks L_faces L_bars L_showing L_showingRight L_barring) H := hP
  have hD : va_D A (w_X1_copyFrom cI cJ cZ cO aK aK_strengths aK_kinds aK_marks aK_faces aK_bars aK_showing aK_showingRight aK_barring aL aL_strengths aL_kinds aL_marks aL_faces aL_bars aL_showing aL_showingRight aL_barring L_warm L_count K_seeds K_blocks K_rivals K_strengths_28 (va_cpy L_kinds K_kinds (0 : Int32).toNatClampNeg (0 : Int32).toNatClampNeg (40 : Int32).toNatClampNeg) K_marks K_faces K_bars K_showing K_showingRight K_barring L_warm L_count L_seeds L_blocks L_rivals L_strengths L_kinds L_marks L_faces L_bars L_showing L_showingRight L_barring) := hD
  obtain ⟨K_kinds_43, e43⟩ : ∃ y : Nat → Int32, y = va_cpy L_kinds K_kinds (0 : Int32).toNatClampNeg (0 : Int32).toNatClampNeg (40 : Int32).toNatClampNeg := ⟨_, rfl⟩
  rw [← e43] at hP hD
  have hw := hw K_kinds_43 e43
  refine lv_aload_n hx hb dX1_copyFrom_46 rfl (lv_at hl 1 rfl) ?_
  refine va_get (D := D) (ci := 1) (v := .ref aL_marks) (C := RX1) (T := TX1) (N := 13) hx hb hts in_X1_copyFrom_X1 hown hK hP 9 rfl rfl 4 (by decide) k_8 (fun _ h9 => h9) rfl dX1_copyFrom_47 ?_
  refine lv_iconst (v := (0 : Int32)) hx hb dX1_copyFrom_50 kI_0 ?_
  refine lv_aload_n hx hb dX1_copyFrom_51 rfl (lv_at hl 0 rfl) ?_
  refine va_get (D := D) (ci := 1) (v := .ref aK_marks) (C := RX1) (T := TX1) (N := 13) hx hb hts in_X1_copyFrom_X1 hown hK hP 0 rfl rfl 4 (by decide) k_8 (fun _ h9 => h9) rfl dX1_copyFrom_52 ?_
  refine lv_iconst (v := (0 : Int32)) hx hb dX1_copyFrom_55 kI_0 ?_
  refine lv_bipush (v := (40 : Int32)) hx hb dX1_copyFrom_56 kB_40 ?_
  refine va_copyi (ty := .int) hx hb (hml.trans hl.1.symm) hown k_3 k_4 k_5 k_6 hK hP hD hS 12 3 0 0 rfl rfl rfl rfl rfl (by decide) (by decide) (by decide) (by decide) (by decide) (fun _ _ => rfl) (Nat.le_of_ble_eq_true rfl) (by decide) dX1_copyFrom_58 (fun H locs hP hD hS => ?_)
  have hP : va_P D vwCl (w_X1_copyFrom cI cJ cZ cO aK aK_strengths aK_kinds aK_marks aK_faces aK_bars aK_showing aK_showingRight aK_barring aL aL_strengths aL_kinds aL_marks aL_faces aL_bars aL_showing aL_showingRight aL_barring L_warm L_count K_seeds K_blocks K_rivals K_strengths_28 K_kinds_43 (va_cpy L_marks K_marks (0 : Int32).toNatClampNeg (0 : Int32).toNatClampNeg (40 : Int32).toNatClampNeg) K_faces K_bars K_showing K_showingRight K_barring L_warm L_count L_seeds L_blocks L_rivals L_strengths L_kinds L_marks L_faces L_bars L_showing L_showingRight L_barring) H := hP
  have hD : va_D A (w_X1_copyFrom cI cJ cZ cO aK aK_strengths aK_kinds aK_marks aK_faces aK_bars aK_showing aK_showingRight aK_barring aL aL_strengths aL_kinds aL_marks aL_faces aL_bars aL_showing aL_showingRight aL_barring L_warm L_count K_seeds K_blocks K_rivals K_strengths_28 K_kinds_43 (va_cpy L_marks K_marks (0 : Int32).toNatClampNeg (0 : Int32).toNatClampNeg (40 : Int32).toNatClampNeg) K_faces K_bars K_showing K_showingRight K_barring L_warm L_count L_seeds L_blocks L_rivals L_strengths L_kinds L_marks L_faces L_bars L_showing L_showingRight L_barring) := hD
  obtain ⟨K_marks_58, e58⟩ : ∃ y : Nat → Int32, y = va_cpy L_marks K_marks (0 : Int32).toNatClampNeg (0 : Int32).toNatClampNeg (40 : Int32).toNatClampNeg := ⟨_, rfl⟩
  rw [← e58] at hP hD
  have hw := hw K_marks_58 e58
  refine lv_aload_n hx hb dX1_copyFrom_61 rfl (lv_at hl 1 rfl) ?_
  refine va_get (D := D) (ci := 1) (v := .ref aL_faces) (C := RX1) (T := TX1) (N := 13) hx hb hts in_X1_copyFrom_X1 hown hK hP 9 rfl rfl 5 (by decide) k_9 (fun _ h9 => h9) rfl dX1_copyFrom_62 ?_
  refine lv_iconst (v := (0 : Int32)) hx hb dX1_copyFrom_65 kI_0 ?_
  refine lv_aload_n hx hb dX1_copyFrom_66 rfl (lv_at hl 0 rfl) ?_
  refine va_get (D := D) (ci := 1) (v := .ref aK_faces) (C := RX1) (T := TX1) (N := 13) hx hb hts in_X1_copyFrom_X1 hown hK hP 0 rfl rfl 5 (by decide) k_9 (fun _ h9 => h9) rfl dX1_copyFrom_67 ?_
  refine lv_iconst (v := (0 : Int32)) hx hb dX1_copyFrom_70 kI_0 ?_
  refine lv_sipush (v := (512 : Int32)) hx hb dX1_copyFrom_71 kS_512 ?_
  refine va_copyi (ty := .int) hx hb (hml.trans hl.1.symm) hown k_3 k_4 k_5 k_6 hK hP hD hS 13 4 0 0 rfl rfl rfl rfl rfl (by decide) (by decide) (by decide) (by decide) (by decide) (fun _ _ => rfl) (Nat.le_of_ble_eq_true rfl) (by decide) dX1_copyFrom_74 (fun H locs hP hD hS => ?_)
  have hP : va_P D vwCl (w_X1_copyFrom cI cJ cZ cO aK aK_strengths aK_kinds aK_marks aK_faces aK_bars aK_showing aK_showingRight aK_barring aL aL_strengths aL_kinds aL_marks aL_faces aL_bars aL_showing aL_showingRight aL_barring L_warm L_count K_seeds K_blocks K_rivals K_strengths_28 K_kinds_43 K_marks_58 (va_cpy L_faces K_faces (0 : Int32).toNatClampNeg (0 : Int32).toNatClampNeg (512 : Int32).toNatClampNeg) K_bars K_showing K_showingRight K_barring L_warm L_count L_seeds L_blocks L_rivals L_strengths L_kinds L_marks L_faces L_bars L_showing L_showingRight L_barring) H := hP
  have hD : va_D A (w_X1_copyFrom cI cJ cZ cO aK aK_strengths aK_kinds aK_marks aK_faces aK_bars aK_showing aK_showingRight aK_barring aL aL_strengths aL_kinds aL_marks aL_faces aL_bars aL_showing aL_showingRight aL_barring L_warm L_count K_seeds K_blocks K_rivals K_strengths_28 K_kinds_43 K_marks_58 (va_cpy L_faces K_faces (0 : Int32).toNatClampNeg (0 : Int32).toNatClampNeg (512 : Int32).toNatClampNeg) K_bars K_showing K_showingRight K_barring L_warm L_count L_seeds L_blocks L_rivals L_strengths L_kinds L_marks L_faces L_bars L_showing L_showingRight L_barring) := hD
  obtain ⟨K_faces_74, e74⟩ : ∃ y : Nat → Int32, y = va_cpy L_faces K_faces (0 : Int32).toNatClampNeg (0 : Int32).toNatClampNeg (512 : Int32).toNatClampNeg := ⟨_, rfl⟩
  rw [← e74] at hP hD
  have hw := hw K_faces_74 e74
  refine lv_aload_n hx hb dX1_copyFrom_77 rfl (lv_at hl 1 rfl) ?_
  refine va_get (D := D) (ci := 1) (v := .ref aL_bars) (C := RX1) (T := TX1) (N := 13) hx hb hts in_X1_copyFrom_X1 hown hK hP 9 rfl rfl 6 (by decide) k_10 (fun _ h9 => h9) rfl dX1_copyFrom_78 ?_
  refine lv_iconst (v := (0 : Int32)) hx hb dX1_copyFrom_81 kI_0 ?_
  refine lv_aload_n hx hb dX1_copyFrom_82 rfl (lv_at hl 0 rfl) ?_
  refine va_get (D := D) (ci := 1) (v := .ref aK_bars) (C := RX1) (T := TX1) (N := 13) hx hb hts in_X1_copyFrom_X1 hown hK hP 0 rfl rfl 6 (by decide) k_10 (fun _ h9 => h9) rfl dX1_copyFrom_83 ?_
  refine lv_iconst (v := (0 : Int32)) hx hb dX1_copyFrom_86 kI_0 ?_
  refine lv_sipush (v := (128 : Int32)) hx hb dX1_copyFrom_87 kS_128 ?_
  refine va_copyi (ty := .int) hx hb (hml.trans hl.1.symm) hown k_3 k_4 k_5 k_6 hK hP hD hS 14 5 0 0 rfl rfl rfl rfl rfl (by decide) (by decide) (by decide) (by decide) (by decide) (fun _ _ => rfl) (Nat.le_of_ble_eq_true rfl) (by decide) dX1_copyFrom_90 (fun H locs hP hD hS => ?_)
  have hP : va_P D vwCl (w_X1_copyFrom cI cJ cZ cO aK aK_strengths aK_kinds aK_marks aK_faces aK_bars aK_showing aK_showingRight aK_barring aL aL_strengths aL_kinds aL_marks aL_faces aL_bars aL_showing aL_showingRight aL_barring L_warm L_count K_seeds K_blocks K_rivals K_strengths_28 K_kinds_43 K_marks_58 K_faces_74 (va_cpy L_bars K_bars (0 : Int32).toNatClampNeg (0 : Int32).toNatClampNeg (128 : Int32).toNatClampNeg) K_showing K_showingRight K_barring L_warm L_count L_seeds L_blocks L_rivals L_strengths L_kinds L_marks L_faces L_bars L_showing L_showingRight L_barring) H := hP
  have hD : va_D A (w_X1_copyFrom cI cJ cZ cO aK aK_strengths aK_kinds aK_marks aK_faces aK_bars aK_showing aK_showingRight aK_barring aL aL_strengths aL_kinds aL_marks aL_faces aL_bars aL_showing aL_showingRight aL_barring L_warm L_count K_seeds K_blocks K_rivals K_strengths_28 K_kinds_43 K_marks_58 K_faces_74 (va_cpy L_bars K_bars (0 : Int32).toNatClampNeg (0 : Int32).toNatClampNeg (128 : Int32).toNatClampNeg) K_showing K_showingRight K_barring L_warm L_count L_seeds L_blocks L_rivals L_strengths L_kinds L_marks L_faces L_bars L_showing L_showingRight L_barring) := hD
  obtain ⟨K_bars_90, e90⟩ : ∃ y : Nat → Int32, y = va_cpy L_bars K_bars (0 : Int32).toNatClampNeg (0 : Int32).toNatClampNeg (128 : Int32).toNatClampNeg := ⟨_, rfl⟩
  rw [← e90] at hP hD
  have hw := hw K_bars_90 e90
  refine lv_aload_n hx hb dX1_copyFrom_93 rfl (lv_at hl 1 rfl) ?_
  refine va_get (D := D) (ci := 1) (v := .ref aL_showing) (C := RX1) (T := TX1) (N := 13) hx hb hts in_X1_copyFrom_X1 hown hK hP 9 rfl rfl 7 (by decide) k_11 (fun _ h9 => h9) rfl dX1_copyFrom_94 ?_
  refine lv_iconst (v := (0 : Int32)) hx hb dX1_copyFrom_97 kI_0 ?_
  refine lv_aload_n hx hb dX1_copyFrom_98 rfl (lv_at hl 0 rfl) ?_
  refine va_get (D := D) (ci := 1) (v := .ref aK_showing) (C := RX1) (T := TX1) (N := 13) hx hb hts in_X1_copyFrom_X1 hown hK hP 0 rfl rfl 7 (by decide) k_11 (fun _ h9 => h9) rfl dX1_copyFrom_99 ?_
  refine lv_iconst (v := (0 : Int32)) hx hb dX1_copyFrom_102 kI_0 ?_
  refine lv_sipush (v := (204 : Int32)) hx hb dX1_copyFrom_103 kS_204 ?_
  refine va_copyl (ty := .long) hx hb (hml.trans hl.1.symm) hown k_3 k_4 k_5 k_6 hK hP hD hS 15 6 1 1 rfl rfl rfl rfl rfl (by decide) (by decide) (by decide) (by decide) (by decide) (fun _ _ => rfl) (Nat.le_of_ble_eq_true rfl) (by decide) dX1_copyFrom_106 (fun H locs hP hD hS => ?_)
  have hP : va_P D vwCl (w_X1_copyFrom cI cJ cZ cO aK aK_strengths aK_kinds aK_marks aK_faces aK_bars aK_showing aK_showingRight aK_barring aL aL_strengths aL_kinds aL_marks aL_faces aL_bars aL_showing aL_showingRight aL_barring L_warm L_count K_seeds K_blocks K_rivals K_strengths_28 K_kinds_43 K_marks_58 K_faces_74 K_bars_90 (va_cpy L_showing K_showing (0 : Int32).toNatClampNeg (0 : Int32).toNatClampNeg (204 : Int32).toNatClampNeg) K_showingRight K_barring L_warm L_count L_seeds L_blocks L_rivals L_strengths L_kinds L_marks L_faces L_bars L_showing L_showingRight L_barring) H := hP
  have hD : va_D A (w_X1_copyFrom cI cJ cZ cO aK aK_strengths aK_kinds aK_marks aK_faces aK_bars aK_showing aK_showingRight aK_barring aL aL_strengths aL_kinds aL_marks aL_faces aL_bars aL_showing aL_showingRight aL_barring L_warm L_count K_seeds K_blocks K_rivals K_strengths_28 K_kinds_43 K_marks_58 K_faces_74 K_bars_90 (va_cpy L_showing K_showing (0 : Int32).toNatClampNeg (0 : Int32).toNatClampNeg (204 : Int32).toNatClampNeg) K_showingRight K_barring L_warm L_count L_seeds L_blocks L_rivals L_strengths L_kinds L_marks L_faces L_bars L_showing L_showingRight L_barring) := hD
  obtain ⟨K_showing_106, e106⟩ : ∃ y : Nat → Int64, y = va_cpy L_showing K_showing (0 : Int32).toNatClampNeg (0 : Int32).toNatClampNeg (204 : Int32).toNatClampNeg := ⟨_, rfl⟩
  rw [← e106] at hP hD
  have hw := hw K_showing_106 e106
  refine lv_aload_n hx hb dX1_copyFrom_109 rfl (lv_at hl 1 rfl) ?_
  refine va_get (D := D) (ci := 1) (v := .ref aL_showingRight) (C := RX1) (T := TX1) (N := 13) hx hb hts in_X1_copyFrom_X1 hown hK hP 9 rfl rfl 8 (by decide) k_12 (fun _ h9 => h9) rfl dX1_copyFrom_110 ?_
  refine lv_iconst (v := (0 : Int32)) hx hb dX1_copyFrom_113 kI_0 ?_
  refine lv_aload_n hx hb dX1_copyFrom_114 rfl (lv_at hl 0 rfl) ?_
  refine va_get (D := D) (ci := 1) (v := .ref aK_showingRight) (C := RX1) (T := TX1) (N := 13) hx hb hts in_X1_copyFrom_X1 hown hK hP 0 rfl rfl 8 (by decide) k_12 (fun _ h9 => h9) rfl dX1_copyFrom_115 ?_
  refine lv_iconst (v := (0 : Int32)) hx hb dX1_copyFrom_118 kI_0 ?_
  refine lv_sipush (v := (204 : Int32)) hx hb dX1_copyFrom_119 kS_204 ?_
  refine va_copyl (ty := .long) hx hb (hml.trans hl.1.symm) hown k_3 k_4 k_5 k_6 hK hP hD hS 16 7 1 1 rfl rfl rfl rfl rfl (by decide) (by decide) (by decide) (by decide) (by decide) (fun _ _ => rfl) (Nat.le_of_ble_eq_true rfl) (by decide) dX1_copyFrom_122 (fun H locs hP hD hS => ?_)
  have hP : va_P D vwCl (w_X1_copyFrom cI cJ cZ cO aK aK_strengths aK_kinds aK_marks aK_faces aK_bars aK_showing aK_showingRight aK_barring aL aL_strengths aL_kinds aL_marks aL_faces aL_bars aL_showing aL_showingRight aL_barring L_warm L_count K_seeds K_blocks K_rivals K_strengths_28 K_kinds_43 K_marks_58 K_faces_74 K_bars_90 K_showing_106 (va_cpy L_showingRight K_showingRight (0 : Int32).toNatClampNeg (0 : Int32).toNatClampNeg (204 : Int32).toNatClampNeg) K_barring L_warm L_count L_seeds L_blocks L_rivals L_strengths L_kinds L_marks L_faces L_bars L_showing L_showingRight L_barring) H := hP
  have hD : va_D A (w_X1_copyFrom cI cJ cZ cO aK aK_strengths aK_kinds aK_marks aK_faces aK_bars aK_showing aK_showingRight aK_barring aL aL_strengths aL_kinds aL_marks aL_faces aL_bars aL_showing aL_showingRight aL_barring L_warm L_count K_seeds K_blocks K_rivals K_strengths_28 K_kinds_43 K_marks_58 K_faces_74 K_bars_90 K_showing_106 (va_cpy L_showingRight K_showingRight (0 : Int32).toNatClampNeg (0 : Int32).toNatClampNeg (204 : Int32).toNatClampNeg) K_barring L_warm L_count L_seeds L_blocks L_rivals L_strengths L_kinds L_marks L_faces L_bars L_showing L_showingRight L_barring) := hD
  obtain ⟨K_showingRight_122, e122⟩ : ∃ y : Nat → Int64, y = va_cpy L_showingRight K_showingRight (0 : Int32).toNatClampNeg (0 : Int32).toNatClampNeg (204 : Int32).toNatClampNeg := ⟨_, rfl⟩
  rw [← e122] at hP hD
  have hw := hw K_showingRight_122 e122
  refine lv_aload_n hx hb dX1_copyFrom_125 rfl (lv_at hl 1 rfl) ?_
  refine va_get (D := D) (ci := 1) (v := .ref aL_barring) (C := RX1) (T := TX1) (N := 13) hx hb hts in_X1_copyFrom_X1 hown hK hP 9 rfl rfl 9 (by decide) k_13 (fun _ h9 => h9) rfl dX1_copyFrom_126 ?_
  refine lv_iconst (v := (0 : Int32)) hx hb dX1_copyFrom_129 kI_0 ?_
  refine lv_aload_n hx hb dX1_copyFrom_130 rfl (lv_at hl 0 rfl) ?_
  refine va_get (D := D) (ci := 1) (v := .ref aK_barring) (C := RX1) (T := TX1) (N := 13) hx hb hts in_X1_copyFrom_X1 hown hK hP 0 rfl rfl 9 (by decide) k_13 (fun _ h9 => h9) rfl dX1_copyFrom_131 ?_
  refine lv_iconst (v := (0 : Int32)) hx hb dX1_copyFrom_134 kI_0 ?_
  refine lv_iconst (v := (4 : Int32)) hx hb dX1_copyFrom_135 kI_4 ?_
  refine va_copyl (ty := .long) hx hb (hml.trans hl.1.symm) hown k_3 k_4 k_5 k_6 hK hP hD hS 17 8 1 1 rfl rfl rfl rfl rfl (by decide) (by decide) (by decide) (by decide) (by decide) (fun _ _ => rfl) (Nat.le_of_ble_eq_true rfl) (by decide) dX1_copyFrom_136 (fun H locs hP hD hS => ?_)
  have hP : va_P D vwCl (w_X1_copyFrom cI cJ cZ cO aK aK_strengths aK_kinds aK_marks aK_faces aK_bars aK_showing aK_showingRight aK_barring aL aL_strengths aL_kinds aL_marks aL_faces aL_bars aL_showing aL_showingRight aL_barring L_warm L_count K_seeds K_blocks K_rivals K_strengths_28 K_kinds_43 K_marks_58 K_faces_74 K_bars_90 K_showing_106 K_showingRight_122 (va_cpy L_barring K_barring (0 : Int32).toNatClampNeg (0 : Int32).toNatClampNeg (4 : Int32).toNatClampNeg) L_warm L_count L_seeds L_blocks L_rivals L_strengths L_kinds L_marks L_faces L_bars L_showing L_showingRight L_barring) H := hP
  have hD : va_D A (w_X1_copyFrom cI cJ cZ cO aK aK_strengths aK_kinds aK_marks aK_faces aK_bars aK_showing aK_showingRight aK_barring aL aL_strengths aL_kinds aL_marks aL_faces aL_bars aL_showing aL_showingRight aL_barring L_warm L_count K_seeds K_blocks K_rivals K_strengths_28 K_kinds_43 K_marks_58 K_faces_74 K_bars_90 K_showing_106 K_showingRight_122 (va_cpy L_barring K_barring (0 : Int32).toNatClampNeg (0 : Int32).toNatClampNeg (4 : Int32).toNatClampNeg) L_warm L_count L_seeds L_blocks L_rivals L_strengths L_kinds L_marks L_faces L_bars L_showing L_showingRight L_barring) := hD
  obtain ⟨K_barring_136, e136⟩ : ∃ y : Nat → Int64, y = va_cpy L_barring K_barring (0 : Int32).toNatClampNeg (0 : Int32).toNatClampNeg (4 : Int32).toNatClampNeg := ⟨_, rfl⟩
  rw [← e136] at hP hD
  have hw := hw K_barring_136 e136
  refine lv_aload_n hx hb dX1_copyFrom_139 rfl (lv_at hl 0 rfl) ?_
  refine lv_aload_n hx hb dX1_copyFrom_140 rfl (lv_at hl 1 rfl) ?_
  refine va_get (D := D) (ci := 1) (v := .long L_seeds) (C := RX1) (T := TX1) (N := 13) hx hb hts in_X1_copyFrom_X1 hown hK hP 9 rfl rfl 10 (by decide) k_14 (fun _ h9 => h9) rfl dX1_copyFrom_141 ?_
  refine va_put (D := D) (ci := 1) (v := .long L_seeds) (ty := .long) (C := RX1) (T := TX1) (N := 13) hx hb hts in_X1_copyFrom_X1 tyX1 tyX1_ok nmX1 hown hK hP hD hS 0 rfl rfl 10 (by decide) k_14 (fun _ h9 => h9) rfl (tyX1_ok 10 (by decide)) rfl rfl (Nat.le_of_ble_eq_true rfl) dX1_copyFrom_144 (fun H locs hP hD hS => ?_)
  have hP : va_P D vwCl (w_X1_copyFrom cI cJ cZ cO aK aK_strengths aK_kinds aK_marks aK_faces aK_bars aK_showing aK_showingRight aK_barring aL aL_strengths aL_kinds aL_marks aL_faces aL_bars aL_showing aL_showingRight aL_barring L_warm L_count L_seeds K_blocks K_rivals K_strengths_28 K_kinds_43 K_marks_58 K_faces_74 K_bars_90 K_showing_106 K_showingRight_122 K_barring_136 L_warm L_count L_seeds L_blocks L_rivals L_strengths L_kinds L_marks L_faces L_bars L_showing L_showingRight L_barring) H := hP
  have hD : va_D A (w_X1_copyFrom cI cJ cZ cO aK aK_strengths aK_kinds aK_marks aK_faces aK_bars aK_showing aK_showingRight aK_barring aL aL_strengths aL_kinds aL_marks aL_faces aL_bars aL_showing aL_showingRight aL_barring L_warm L_count L_seeds K_blocks K_rivals K_strengths_28 K_kinds_43 K_marks_58 K_faces_74 K_bars_90 K_showing_106 K_showingRight_122 K_barring_136 L_warm L_count L_seeds L_blocks L_rivals L_strengths L_kinds L_marks L_faces L_bars L_showing L_showingRight L_barring) := hD
  refine lv_aload_n hx hb dX1_copyFrom_147 rfl (lv_at hl 0 rfl) ?_
  refine lv_aload_n hx hb dX1_copyFrom_148 rfl (lv_at hl 1 rfl) ?_
  refine va_get (D := D) (ci := 1) (v := .long L_blocks) (C := RX1) (T := TX1) (N := 13) hx hb hts in_X1_copyFrom_X1 hown hK hP 9 rfl rfl 11 (by decide) k_15 (fun _ h9 => h9) rfl dX1_copyFrom_149 ?_
  refine va_put (D := D) (ci := 1) (v := .long L_blocks) (ty := .long) (C := RX1) (T := TX1) (N := 13) hx hb hts in_X1_copyFrom_X1 tyX1 tyX1_ok nmX1 hown hK hP hD hS 0 rfl rfl 11 (by decide) k_15 (fun _ h9 => h9) rfl (tyX1_ok 11 (by decide)) rfl rfl (Nat.le_of_ble_eq_true rfl) dX1_copyFrom_152 (fun H locs hP hD hS => ?_)
  have hP : va_P D vwCl (w_X1_copyFrom cI cJ cZ cO aK aK_strengths aK_kinds aK_marks aK_faces aK_bars aK_showing aK_showingRight aK_barring aL aL_strengths aL_kinds aL_marks aL_faces aL_bars aL_showing aL_showingRight aL_barring L_warm L_count L_seeds L_blocks K_rivals K_strengths_28 K_kinds_43 K_marks_58 K_faces_74 K_bars_90 K_showing_106 K_showingRight_122 K_barring_136 L_warm L_count L_seeds L_blocks L_rivals L_strengths L_kinds L_marks L_faces L_bars L_showing L_showingRight L_barring) H := hP
  have hD : va_D A (w_X1_copyFrom cI cJ cZ cO aK aK_strengths aK_kinds aK_marks aK_faces aK_bars aK_showing aK_showingRight aK_barring aL aL_strengths aL_kinds aL_marks aL_faces aL_bars aL_showing aL_showingRight aL_barring L_warm L_count L_seeds L_blocks K_rivals K_strengths_28 K_kinds_43 K_marks_58 K_faces_74 K_bars_90 K_showing_106 K_showingRight_122 K_barring_136 L_warm L_count L_seeds L_blocks L_rivals L_strengths L_kinds L_marks L_faces L_bars L_showing L_showingRight L_barring) := hD
  refine lv_aload_n hx hb dX1_copyFrom_155 rfl (lv_at hl 0 rfl) ?_
  refine lv_aload_n hx hb dX1_copyFrom_156 rfl (lv_at hl 1 rfl) ?_
  refine va_get (D := D) (ci := 1) (v := .long L_rivals) (C := RX1) (T := TX1) (N := 13) hx hb hts in_X1_copyFrom_X1 hown hK hP 9 rfl rfl 12 (by decide) k_16 (fun _ h9 => h9) rfl dX1_copyFrom_157 ?_
  refine va_put (D := D) (ci := 1) (v := .long L_rivals) (ty := .long) (C := RX1) (T := TX1) (N := 13) hx hb hts in_X1_copyFrom_X1 tyX1 tyX1_ok nmX1 hown hK hP hD hS 0 rfl rfl 12 (by decide) k_16 (fun _ h9 => h9) rfl (tyX1_ok 12 (by decide)) rfl rfl (Nat.le_of_ble_eq_true rfl) dX1_copyFrom_160 (fun H locs hP hD hS => ?_)
  have hP : va_P D vwCl (w_X1_copyFrom cI cJ cZ cO aK aK_strengths aK_kinds aK_marks aK_faces aK_bars aK_showing aK_showingRight aK_barring aL aL_strengths aL_kinds aL_marks aL_faces aL_bars aL_showing aL_showingRight aL_barring L_warm L_count L_seeds L_blocks L_rivals K_strengths_28 K_kinds_43 K_marks_58 K_faces_74 K_bars_90 K_showing_106 K_showingRight_122 K_barring_136 L_warm L_count L_seeds L_blocks L_rivals L_strengths L_kinds L_marks L_faces L_bars L_showing L_showingRight L_barring) H := hP
  have hD : va_D A (w_X1_copyFrom cI cJ cZ cO aK aK_strengths aK_kinds aK_marks aK_faces aK_bars aK_showing aK_showingRight aK_barring aL aL_strengths aL_kinds aL_marks aL_faces aL_bars aL_showing aL_showingRight aL_barring L_warm L_count L_seeds L_blocks L_rivals K_strengths_28 K_kinds_43 K_marks_58 K_faces_74 K_bars_90 K_showing_106 K_showingRight_122 K_barring_136 L_warm L_count L_seeds L_blocks L_rivals L_strengths L_kinds L_marks L_faces L_bars L_showing L_showingRight L_barring) := hD
  rw [hZ]
  exact cx_retv (L_warm, L_count, K_strengths_28, K_kinds_43, K_marks_58, K_faces_74, K_bars_90, K_showing_106, K_showingRight_122, K_barring_136, L_seeds, L_blocks, L_rivals) hx hb hr hlocks hw hP hS dX1_copyFrom_163
set_option maxRecDepth 100000 in
set_option maxHeartbeats 4000000 in
theorem c_X0_take (l : Launch) (D : va_G) (cI cJ cZ cO : ClassId) (tS tT : Nat) (sz : Nat) (aK aK_strengths aK_kinds aK_marks aK_faces aK_bars aK_showing aK_showingRight aK_barring aS aS_cells aS_fits aS_fitsInLine aS_stale aS_staleCells aS_seen aS_queue aJ aL aJ_cells aL_strengths aL_kinds aL_marks aL_faces aL_bars aL_showing aL_showingRight aL_barring : Nat) (K_warm : Int32) (K_count : Int32) (K_seeds : Int64) (K_blocks : Int64) (K_rivals : Int64) (K_strengths : Nat → Int32) (K_kinds : Nat → Int32) (K_marks : Nat → Int32) (K_faces : Nat → Int32) (K_bars : Nat → Int32) (K_showing : Nat → Int64) (K_showingRight : Nat → Int64) (K_barring : Nat → Int64) (S_pieces : Int32) (S_grown : Int32) (S_fitsInAll : Int32) (S_staleCount : Int32) (S_atLeast1 : Int64) (S_atLeast2 : Int64) (S_atLeast3 : Int64) (S_cells : Nat → Int32) (J_s : Int64) (J_cells : Nat → Int32) (L_warm : Int32) (L_count : Int32) (L_seeds : Int64) (L_blocks : Int64) (L_rivals : Int64) (L_strengths : Nat → Int32) (L_kinds : Nat → Int32) (L_marks : Nat → Int32) (L_faces : Nat → Int32) (L_bars : Nat → Int32) (L_showing : Nat → Int64) (L_showingRight : Nat → Int64) (L_barring : Nat → Int64) (p3 : Int64) (Q : (Nat → Int32) → (Int64) → (Int32) → (Int32) → (Nat → Int32) → (Nat → Int32) → (Nat → Int32) → (Nat → Int32) → (Nat → Int32) → (Nat → Int64) → (Nat → Int64) → (Nat → Int64) → (Int64) → (Int64) → (Int64) → Prop) (hw : wp_X0_take K_warm K_count K_strengths K_kinds K_marks K_faces K_bars K_showing K_showingRight K_barring K_seeds K_blocks K_rivals S_cells J_cells J_s L_warm L_count L_strengths L_kinds L_marks L_faces L_bars L_showing L_showingRight L_barring L_seeds L_blocks L_rivals p3 Q) : Met l yX0_take wsX0_take rm_X0_take (va_Pc [.ref aJ, .ref aK, .ref aS, .long p3] (cx_B tS tT cI cJ cZ cO D sz (w_X0_take cI cJ cZ cO aK aK_strengths aK_kinds aK_marks aK_faces aK_bars aK_showing aK_showingRight aK_barring aS aS_cells aS_fits aS_fitsInLine aS_stale aS_staleCells aS_seen aS_queue aJ aL aJ_cells aL_strengths aL_kinds aL_marks aL_faces aL_bars aL_showing aL_showingRight aL_barring K_warm K_count K_seeds K_blocks K_rivals K_strengths K_kinds K_marks K_faces K_bars K_showing K_showingRight K_barring S_pieces S_grown S_fitsInAll S_staleCount S_atLeast1 S_atLeast2 S_atLeast3 S_cells J_s J_cells L_warm L_count L_seeds L_blocks L_rivals L_strengths L_kinds L_marks L_faces L_bars L_showing L_showingRight L_barring))) (va_Qv (fun (u : (Nat → Int32) × (Int64) × (Int32) × (Int32) × (Nat → Int32) × (Nat → Int32) × (Nat → Int32) × (Nat → Int32) × (Nat → Int32) × (Nat → Int64) × (Nat → Int64) × (Nat → Int64) × (Int64) × (Int64) × (Int64)) => Q u.1 u.2.1 u.2.2.1 u.2.2.2.1 u.2.2.2.2.1 u.2.2.2.2.2.1 u.2.2.2.2.2.2.1 u.2.2.2.2.2.2.2.1 u.2.2.2.2.2.2.2.2.1 u.2.2.2.2.2.2.2.2.2.1 u.2.2.2.2.2.2.2.2.2.2.1 u.2.2.2.2.2.2.2.2.2.2.2.1 u.2.2.2.2.2.2.2.2.2.2.2.2.1 u.2.2.2.2.2.2.2.2.2.2.2.2.2.1 u.2.2.2.2.2.2.2.2.2.2.2.2.2.2) (fun (u : (Nat → Int32) × (Int64) × (Int32) × (Int32) × (Nat → Int32) × (Nat → Int32) × (Nat → Int32) × (Nat → Int32) × (Nat → Int32) × (Nat → Int64) × (Nat → Int64) × (Nat → Int64) × (Int64) × (Int64) × (Int64)) t => va_P D vwCl (w_X0_take cI cJ cZ cO aK aK_strengths aK_kinds aK_marks aK_faces aK_bars aK_showing aK_showingRight aK_barring aS aS_cells aS_fits aS_fitsInLine aS_stale aS_staleCells aS_seen aS_queue aJ aL aJ_cells aL_strengths aL_kinds aL_marks aL_faces aL_bars aL_showing aL_showingRight aL_barring K_warm K_count K_seeds K_blocks K_rivals K_strengths K_kinds K_marks K_faces K_bars K_showing K_showingRight K_barring S_pieces S_grown S_fitsInAll S_staleCount S_atLeast1 S_atLeast2 S_atLeast3 S_cells u.2.1 u.1 u.2.2.1 u.2.2.2.1 u.2.2.2.2.2.2.2.2.2.2.2.2.1 u.2.2.2.2.2.2.2.2.2.2.2.2.2.1 u.2.2.2.2.2.2.2.2.2.2.2.2.2.2 u.2.2.2.2.1 u.2.2.2.2.2.1 u.2.2.2.2.2.2.1 u.2.2.2.2.2.2.2.1 u.2.2.2.2.2.2.2.2.1 u.2.2.2.2.2.2.2.2.2.1 u.2.2.2.2.2.2.2.2.2.2.1 u.2.2.2.2.2.2.2.2.2.2.2.1) t.heap) (va_A (w_X0_take cI cJ cZ cO aK aK_strengths aK_kinds aK_marks aK_faces aK_bars aK_showing aK_showingRight aK_barring aS aS_cells aS_fits aS_fitsInLine aS_stale aS_staleCells aS_seen aS_queue aJ aL aJ_cells aL_strengths aL_kinds aL_marks aL_faces aL_bars aL_showing aL_showingRight aL_barring K_warm K_count K_seeds K_blocks K_rivals K_strengths K_kinds K_marks K_faces K_bars K_showing K_showingRight K_barring S_pieces S_grown S_fitsInAll S_staleCount S_atLeast1 S_atLeast2 S_atLeast3 S_cells J_s J_cells L_warm L_count L_seeds L_blocks L_rivals L_strengths L_kinds L_marks L_faces L_bars L_showing L_showingRight L_barring) sz)) 0 0 (va_A (w_X0_take cI cJ cZ cO aK aK_strengths aK_kinds aK_marks aK_faces aK_bars aK_showing aK_showingRight aK_barring aS aS_cells aS_fits aS_fitsInLine aS_stale aS_staleCells aS_seen aS_queue aJ aL aJ_cells aL_strengths aL_kinds aL_marks aL_faces aL_bars aL_showing aL_showingRight aL_barring K_warm K_count K_seeds K_blocks K_rivals K_strengths K_kinds K_marks K_faces K_bars K_showing K_showingRight K_barring S_pieces S_grown S_fitsInAll S_staleCount S_atLeast1 S_atLeast2 S_atLeast3 S_cells J_s J_cells L_warm L_count L_seeds L_blocks L_rivals L_strengths L_kinds L_marks L_faces L_bars L_showing L_showingRight L_barring) sz) := by
  refine cx_met (cc := cX0_take) (maxL := 5) (ret := none) (Qc := fun A => va_Qv (fun (u : (Nat → Int32) × (Int64) × (Int32) × (Int32) × (Nat → Int32) × (Nat → Int32) × (Nat → Int32) × (Nat → Int32) × (Nat → Int32) × (Nat → Int64) × (Nat → Int64) × (Nat → Int64) × (Int64) × (Int64) × (Int64)) => Q u.1 u.2.1 u.2.2.1 u.2.2.2.1 u.2.2.2.2.1 u.2.2.2.2.2.1 u.2.2.2.2.2.2.1 u.2.2.2.2.2.2.2.1 u.2.2.2.2.2.2.2.2.1 u.2.2.2.2.2.2.2.2.2.1 u.2.2.2.2.2.2.2.2.2.2.1 u.2.2.2.2.2.2.2.2.2.2.2.1 u.2.2.2.2.2.2.2.2.2.2.2.2.1 u.2.2.2.2.2.2.2.2.2.2.2.2.2.1 u.2.2.2.2.2.2.2.2.2.2.2.2.2.2) (fun (u : (Nat → Int32) × (Int64) × (Int32) × (Int32) × (Nat → Int32) × (Nat → Int32) × (Nat → Int32) × (Nat → Int32) × (Nat → Int32) × (Nat → Int64) × (Nat → Int64) × (Nat → Int64) × (Int64) × (Int64) × (Int64)) t => va_P D vwCl (w_X0_take cI cJ cZ cO aK aK_strengths aK_kinds aK_marks aK_faces aK_bars aK_showing aK_showingRight aK_barring aS aS_cells aS_fits aS_fitsInLine aS_stale aS_staleCells aS_seen aS_queue aJ aL aJ_cells aL_strengths aL_kinds aL_marks aL_faces aL_bars aL_showing aL_showingRight aL_barring K_warm K_count K_seeds K_blocks K_rivals K_strengths K_kinds K_marks K_faces K_bars K_showing K_showingRight K_barring S_pieces S_grown S_fitsInAll S_staleCount S_atLeast1 S_atLeast2 S_atLeast3 S_cells u.2.1 u.1 u.2.2.1 u.2.2.2.1 u.2.2.2.2.2.2.2.2.2.2.2.2.1 u.2.2.2.2.2.2.2.2.2.2.2.2.2.1 u.2.2.2.2.2.2.2.2.2.2.2.2.2.2 u.2.2.2.2.1 u.2.2.2.2.2.1 u.2.2.2.2.2.2.1 u.2.2.2.2.2.2.2.1 u.2.2.2.2.2.2.2.2.1 u.2.2.2.2.2.2.2.2.2.1 u.2.2.2.2.2.2.2.2.2.2.1 u.2.2.2.2.2.2.2.2.2.2.2.1) t.heap) A) (lv := [(0, .ref aJ), (1, .ref aK), (2, .ref aS), (3, .long p3)]) (by decide) rfl (Nat.le_of_ble_eq_true rfl) rfl ?_
  intro p e s m args below meth c A Z hx hb hr hlocks hts hown hml hE hK hA hZ
  have hown : s.vm.findClass RX0 = some m.cls := hown
  have k_0 := hts (.fieldLink RX0 12 "GrowingTiles$Image" "kit" "LGrowingTiles$Kit;") (List.mem_of_getElem? (i := 1) (by decide +kernel))
  have k_1 := hts (.fieldLink RX0 30 "GrowingTiles$Sheet" "cells" "[I") (List.mem_of_getElem? (i := 2) (by decide +kernel))
  have k_2 := hts (.fieldLink RX0 18 "GrowingTiles$Image" "cells" "[I") (List.mem_of_getElem? (i := 3) (by decide +kernel))
  have k_3 := hts (.methodLink RX0 33 arraycopyName) (List.mem_of_getElem? (i := 4) (by decide +kernel))
  have k_4 := hts (.native arraycopyName) (List.mem_of_getElem? (i := 5) (by decide +kernel))
  have k_5 := hts (.static arraycopyName) (List.mem_of_getElem? (i := 6) (by decide +kernel))
  have k_6 := hts (.initialized "java/lang/System") (List.mem_of_getElem? (i := 7) (by decide +kernel))
  have k_7 := hts (.fieldLink RX0 22 "GrowingTiles$Image" "s" "J") (List.mem_of_getElem? (i := 8) (by decide +kernel))
  intro H locs hP hD hS ls hl
  unfold wp_X0_take at hw
  refine lv_aload_n hx hb dX0_take_0 rfl (lv_at hl 0 rfl) ?_
  refine va_get (D := D) (ci := 0) (v := .ref aL) (C := RX0) (T := TX0) (N := 3) hx hb hts in_X0_take_X0 hown hK hP 11 rfl rfl 0 (by decide) k_0 (fun _ h9 => h9) rfl dX0_take_1 ?_
  refine lv_aload_n hx hb dX0_take_4 rfl (lv_at hl 1 rfl) ?_
  refine cx_gov (va_runV (As := [.ref aK]) (rest := []) ⟨hx, hb, hml, hown, hts⟩ (c_X1_copyFrom l D cI cJ cZ cO tS tT H.size aL aL_strengths aL_kinds aL_marks aL_faces aL_bars aL_showing aL_showingRight aL_barring aK aK_strengths aK_kinds aK_marks aK_faces aK_bars aK_showing aK_showingRight aK_barring L_warm L_count L_seeds L_blocks L_rivals L_strengths L_kinds L_marks L_faces L_bars L_showing L_showingRight L_barring K_warm K_count K_seeds K_blocks K_rivals K_strengths K_kinds K_marks K_faces K_bars K_showing K_showingRight K_barring _ hw) (cwV 1 hts gX0_take_X1_copyFrom rfl rfl rfl pv_X1_copyFrom ⟨Nat.le_of_ble_eq_true rfl, Nat.le_of_ble_eq_true rfl⟩) (cx_preV (wc := w_X1_copyFrom cI cJ cZ cO aL aL_strengths aL_kinds aL_marks aL_faces aL_bars aL_showing aL_showingRight aL_barring aK aK_strengths aK_kinds aK_marks aK_faces aK_bars aK_showing aK_showingRight aK_barring L_warm L_count L_seeds L_blocks L_rivals L_strengths L_kinds L_marks L_faces L_bars L_showing L_showingRight L_barring K_warm K_count K_seeds K_blocks K_rivals K_strengths K_kinds K_marks K_faces K_bars K_showing K_showingRight K_barring) hE hK hP hD hS hA [13, 14, 15, 16, 17, 18, 19, 20, 21, 0, 1, 2, 3, 4, 5, 6, 7, 8] rfl rfl (va_recv hK hP (ci := 1) (q0 := 13) rfl rfl)) rfl rfl hl.1 rfl (lv_room (Nat.le_of_ble_eq_true rfl)) dX0_take_5 ⟨Nat.le_of_ble_eq_true rfl, Nat.le_of_ble_eq_true rfl⟩) (fun (u : (Int32) × (Int32) × (Nat → Int32) × (Nat → Int32) × (Nat → Int32) × (Nat → Int32) × (Nat → Int32) × (Nat → Int64) × (Nat → Int64) × (Nat → Int64) × (Int64) × (Int64) × (Int64)) => (w_X0_take cI cJ cZ cO aK aK_strengths aK_kinds aK_marks aK_faces aK_bars aK_showing aK_showingRight aK_barring aS aS_cells aS_fits aS_fitsInLine aS_stale aS_staleCells aS_seen aS_queue aJ aL aJ_cells aL_strengths aL_kinds aL_marks aL_faces aL_bars aL_showing aL_showingRight aL_barring K_warm K_count K_seeds K_blocks K_rivals K_strengths K_kinds K_marks K_faces K_bars K_showing K_showingRight K_barring S_pieces S_grown S_fitsInAll S_staleCount S_atLeast1 S_atLeast2 S_atLeast3 S_cells J_s J_cells u.1 u.2.1 u.2.2.2.2.2.2.2.2.2.2.1 u.2.2.2.2.2.2.2.2.2.2.2.1 u.2.2.2.2.2.2.2.2.2.2.2.2 u.2.2.1 u.2.2.2.1 u.2.2.2.2.1 u.2.2.2.2.2.1 u.2.2.2.2.2.2.1 u.2.2.2.2.2.2.2.1 u.2.2.2.2.2.2.2.2.1 u.2.2.2.2.2.2.2.2.2.1)) [13, 14, 15, 16, 17, 18, 19, 20, 21, 0, 1, 2, 3, 4, 5, 6, 7, 8] [9, 10, 11, 12] (ads := [aL, aL_strengths, aL_kinds, aL_marks, aL_faces, aL_bars, aL_showing, aL_showingRight, aL_barring, aK, aK_strengths, aK_kinds, aK_marks, aK_faces, aK_bars, aK_showing, aK_showingRight, aK_barring]) (wr := [(aS, .inr (4, [.ref aK, .ref aS_cells, .int S_pieces, .int S_grown, .ref aS_fits, .ref aS_fitsInLine, .int S_fitsInAll, .ref aS_stale, .ref aS_staleCells, .int S_staleCount, .long S_atLeast1, .long S_atLeast2, .long S_atLeast3, .ref aS_seen, .ref aS_queue])), (aS_cells, .inl (cI, 324, .inl S_cells)), (aJ, .inr (0, [.ref aL, .ref aJ_cells, .long J_s])), (aJ_cells, .inl (cI, 324, .inl J_cells))]) rfl rfl (fun u => rfl) (fun u => rfl) rfl (fun u => rfl) rfl (fun u => rfl) rfl hP hD hS hA (fun u H locs hw hP hD hS => ?_)
  obtain ⟨L_warm_5, L_count_5, L_strengths_5, L_kinds_5, L_marks_5, L_faces_5, L_bars_5, L_showing_5, L_showingRight_5, L_barring_5, L_seeds_5, L_blocks_5, L_rivals_5⟩ := u
  try dsimp only at hw
  have hP : va_P D vwCl (w_X0_take cI cJ cZ cO aK aK_strengths aK_kinds aK_marks aK_faces aK_bars aK_showing aK_showingRight aK_barring aS aS_cells aS_fits aS_fitsInLine aS_stale aS_staleCells aS_seen aS_queue aJ aL aJ_cells aL_strengths aL_kinds aL_marks aL_faces aL_bars aL_showing aL_showingRight aL_barring K_warm K_count K_seeds K_blocks K_rivals K_strengths K_kinds K_marks K_faces K_bars K_showing K_showingRight K_barring S_pieces S_grown S_fitsInAll S_staleCount S_atLeast1 S_atLeast2 S_atLeast3 S_cells J_s J_cells L_warm_5 L_count_5 L_seeds_5 L_blocks_5 L_rivals_5 L_strengths_5 L_kinds_5 L_marks_5 L_faces_5 L_bars_5 L_showing_5 L_showingRight_5 L_barring_5) H := hP
  have hD : va_D A (w_X0_take cI cJ cZ cO aK aK_strengths aK_kinds aK_marks aK_faces aK_bars aK_showing aK_showingRight aK_barring aS aS_cells aS_fits aS_fitsInLine aS_stale aS_staleCells aS_seen aS_queue aJ aL aJ_cells aL_strengths aL_kinds aL_marks aL_faces aL_bars aL_showing aL_showingRight aL_barring K_warm K_count K_seeds K_blocks K_rivals K_strengths K_kinds K_marks K_faces K_bars K_showing K_showingRight K_barring S_pieces S_grown S_fitsInAll S_staleCount S_atLeast1 S_atLeast2 S_atLeast3 S_cells J_s J_cells L_warm_5 L_count_5 L_seeds_5 L_blocks_5 L_rivals_5 L_strengths_5 L_kinds_5 L_marks_5 L_faces_5 L_bars_5 L_showing_5 L_showingRight_5 L_barring_5) := hD
  refine lv_aload_n hx hb dX0_take_8 rfl (lv_at hl 2 rfl) ?_
  refine va_get (D := D) (ci := 4) (v := .ref aS_cells) (C := RX4) (T := TX4) (N := 15) hx hb hts in_X0_take_X4 hown hK hP 9 rfl rfl 1 (by decide) k_1 (fun _ h9 => h9) rfl dX0_take_9 ?_
  refine lv_iconst (v := (0 : Int32)) hx hb dX0_take_12 kI_0 ?_
  refine lv_aload_n hx hb dX0_take_13 rfl (lv_at hl 0 rfl) ?_
  refine va_get (D := D) (ci := 0) (v := .ref aJ_cells) (C := RX0) (T := TX0) (N := 3) hx hb hts in_X0_take_X0 hown hK hP 11 rfl rfl 1 (by decide) k_2 (fun _ h9 => h9) rfl dX0_take_14 ?_
  refine lv_iconst (v := (0 : Int32)) hx hb dX0_take_17 kI_0 ?_
  refine lv_sipush (v := (324 : Int32)) hx hb dX0_take_18 kS_324 ?_
  refine va_copyi (ty := .int) hx hb (hml.trans hl.1.symm) hown k_3 k_4 k_5 k_6 hK hP hD hS 10 12 0 0 rfl rfl rfl rfl rfl (by decide) (by decide) (by decide) (by decide) (by decide) (fun _ _ => rfl) (Nat.le_of_ble_eq_true rfl) (by decide) dX0_take_21 (fun H locs hP hD hS => ?_)
  have hP : va_P D vwCl (w_X0_take cI cJ cZ cO aK aK_strengths aK_kinds aK_marks aK_faces aK_bars aK_showing aK_showingRight aK_barring aS aS_cells aS_fits aS_fitsInLine aS_stale aS_staleCells aS_seen aS_queue aJ aL aJ_cells aL_strengths aL_kinds aL_marks aL_faces aL_bars aL_showing aL_showingRight aL_barring K_warm K_count K_seeds K_blocks K_rivals K_strengths K_kinds K_marks K_faces K_bars K_showing K_showingRight K_barring S_pieces S_grown S_fitsInAll S_staleCount S_atLeast1 S_atLeast2 S_atLeast3 S_cells J_s (va_cpy S_cells J_cells (0 : Int32).toNatClampNeg (0 : Int32).toNatClampNeg (324 : Int32).toNatClampNeg) L_warm_5 L_count_5 L_seeds_5 L_blocks_5 L_rivals_5 L_strengths_5 L_kinds_5 L_marks_5 L_faces_5 L_bars_5 L_showing_5 L_showingRight_5 L_barring_5) H := hP
  have hD : va_D A (w_X0_take cI cJ cZ cO aK aK_strengths aK_kinds aK_marks aK_faces aK_bars aK_showing aK_showingRight aK_barring aS aS_cells aS_fits aS_fitsInLine aS_stale aS_staleCells aS_seen aS_queue aJ aL aJ_cells aL_strengths aL_kinds aL_marks aL_faces aL_bars aL_showing aL_showingRight aL_barring K_warm K_count K_seeds K_blocks K_rivals K_strengths K_kinds K_marks K_faces K_bars K_showing K_showingRight K_barring S_pieces S_grown S_fitsInAll S_staleCount S_atLeast1 S_atLeast2 S_atLeast3 S_cells J_s (va_cpy S_cells J_cells (0 : Int32).toNatClampNeg (0 : Int32).toNatClampNeg (324 : Int32).toNatClampNeg) L_warm_5 L_count_5 L_seeds_5 L_blocks_5 L_rivals_5 L_strengths_5 L_kinds_5 L_marks_5 L_faces_5 L_bars_5 L_showing_5 L_showingRight_5 L_barring_5) := hD
  obtain ⟨J_cells_21, e21⟩ : ∃ y : Nat → Int32, y = va_cpy S_cells J_cells (0 : Int32).toNatClampNeg (0 : Int32).toNatClampNeg (324 : Int32).toNatClampNeg := ⟨_, rfl⟩
  rw [← e21] at hP hD
  have hw := hw J_cells_21 e21
  refine lv_aload_n hx hb dX0_take_24 rfl (lv_at hl 0 rfl) ?_
  refine lv_lload_n hx hb dX0_take_25 rfl (lv_at hl 3 rfl) ?_
  refine va_put (D := D) (ci := 0) (v := .long p3) (ty := .long) (C := RX0) (T := TX0) (N := 3) hx hb hts in_X0_take_X0 tyX0 tyX0_ok nmX0 hown hK hP hD hS 11 rfl rfl 2 (by decide) k_7 (fun _ h9 => h9) rfl (tyX0_ok 2 (by decide)) rfl rfl (Nat.le_of_ble_eq_true rfl) dX0_take_26 (fun H locs hP hD hS => ?_)
  have hP : va_P D vwCl (w_X0_take cI cJ cZ cO aK aK_strengths aK_kinds aK_marks aK_faces aK_bars aK_showing aK_showingRight aK_barring aS aS_cells aS_fits aS_fitsInLine aS_stale aS_staleCells aS_seen aS_queue aJ aL aJ_cells aL_strengths aL_kinds aL_marks aL_faces aL_bars aL_showing aL_showingRight aL_barring K_warm K_count K_seeds K_blocks K_rivals K_strengths K_kinds K_marks K_faces K_bars K_showing K_showingRight K_barring S_pieces S_grown S_fitsInAll S_staleCount S_atLeast1 S_atLeast2 S_atLeast3 S_cells p3 J_cells_21 L_warm_5 L_count_5 L_seeds_5 L_blocks_5 L_rivals_5 L_strengths_5 L_kinds_5 L_marks_5 L_faces_5 L_bars_5 L_showing_5 L_showingRight_5 L_barring_5) H := hP
  have hD : va_D A (w_X0_take cI cJ cZ cO aK aK_strengths aK_kinds aK_marks aK_faces aK_bars aK_showing aK_showingRight aK_barring aS aS_cells aS_fits aS_fitsInLine aS_stale aS_staleCells aS_seen aS_queue aJ aL aJ_cells aL_strengths aL_kinds aL_marks aL_faces aL_bars aL_showing aL_showingRight aL_barring K_warm K_count K_seeds K_blocks K_rivals K_strengths K_kinds K_marks K_faces K_bars K_showing K_showingRight K_barring S_pieces S_grown S_fitsInAll S_staleCount S_atLeast1 S_atLeast2 S_atLeast3 S_cells p3 J_cells_21 L_warm_5 L_count_5 L_seeds_5 L_blocks_5 L_rivals_5 L_strengths_5 L_kinds_5 L_marks_5 L_faces_5 L_bars_5 L_showing_5 L_showingRight_5 L_barring_5) := hD
  rw [hZ]
  exact cx_retv (J_cells_21, p3, L_warm_5, L_count_5, L_strengths_5, L_kinds_5, L_marks_5, L_faces_5, L_bars_5, L_showing_5, L_showingRight_5, L_barring_5, L_seeds_5, L_blocks_5, L_rivals_5) hx hb hr hlocks hw hP hS dX0_take_29
set_option maxRecDepth 100000 in
set_option maxHeartbeats 4000000 in
theorem c_X1_has (l : Launch) (D : va_G) (cI cJ cZ cO : ClassId) (tS tT : Nat) (sz : Nat) (aK aK_strengths aK_kinds aK_marks aK_faces aK_bars aK_showing aK_showingRight aK_barring : Nat) (K_warm : Int32) (K_count : Int32) (K_seeds : Int64) (K_blocks : Int64) (K_rivals : Int64) (p1 : Int32) (Q : Int32 → Prop) (hw : wp_X1_has K_count p1 Q) : Met l yX1_has wsX1_has rm_X1_has (va_Pc [.ref aK, .int p1] (cx_B tS tT cI cJ cZ cO D sz (w_X1_has cI cJ cZ cO aK aK_strengths aK_kinds aK_marks aK_faces aK_bars aK_showing aK_showingRight aK_barring K_warm K_count K_seeds K_blocks K_rivals))) (va_Qi (fun (r : Int32) (_ : Unit) => Q r) (fun (u : Unit) t => va_P D vwCl (w_X1_has cI cJ cZ cO aK aK_strengths aK_kinds aK_marks aK_faces aK_bars aK_showing aK_showingRight aK_barring K_warm K_count K_seeds K_blocks K_rivals) t.heap) (va_A (w_X1_has cI cJ cZ cO aK aK_strengths aK_kinds aK_marks aK_faces aK_bars aK_showing aK_showingRight aK_barring K_warm K_count K_seeds K_blocks K_rivals) sz)) 0 0 (va_A (w_X1_has cI cJ cZ cO aK aK_strengths aK_kinds aK_marks aK_faces aK_bars aK_showing aK_showingRight aK_barring K_warm K_count K_seeds K_blocks K_rivals) sz) := by
  refine cx_met (cc := cX1_has) (maxL := 2) (ret := (some .boolean)) (Qc := fun A => va_Qi (fun (r : Int32) (_ : Unit) => Q r) (fun (u : Unit) t => va_P D vwCl (w_X1_has cI cJ cZ cO aK aK_strengths aK_kinds aK_marks aK_faces aK_bars aK_showing aK_showingRight aK_barring K_warm K_count K_seeds K_blocks K_rivals) t.heap) A) (lv := [(0, .ref aK), (1, .int p1)]) (by decide) rfl (Nat.le_of_ble_eq_true rfl) rfl ?_
  intro p e s m args below meth c A Z hx hb hr hlocks hts hown hml hE hK hA hZ
  have hown : s.vm.findClass RX1 = some m.cls := hown
  have k_0 := hts (.fieldLink RX1 15 "GrowingTiles$Kit" "count" "I") (List.mem_of_getElem? (i := 1) (by decide +kernel))
  intro H locs hP hD hS ls hl
  unfold wp_X1_has at hw
  refine lv_iload_n hx hb dX1_has_0 rfl (lv_at hl 1 rfl) ?_
  refine lv_if_lt (tgt := 16) hx hb dX1_has_1 (by decide) (fun c1 => ?_) (fun c1 => ?_)
  · have hw := hw.1 c1
    refine lv_iconst (v := (0 : Int32)) hx hb dX1_has_16 kI_0 ?_
    rw [hZ]
    exact cx_retz () hx hb hr hlocks rfl hw hP hS dX1_has_17
  · have hw := hw.2 c1
    refine lv_iload_n hx hb dX1_has_4 rfl (lv_at hl 1 rfl) ?_
    refine lv_aload_n hx hb dX1_has_5 rfl (lv_at hl 0 rfl) ?_
    refine va_get (D := D) (ci := 1) (v := .int K_count) (C := RX1) (T := TX1) (N := 13) hx hb hts in_X1_has_X1 hown hK hP 0 rfl rfl 1 (by decide) k_0 (fun _ h9 => h9) rfl dX1_has_6 ?_
    refine lv_icmp_ge (tgt := 16) hx hb dX1_has_9 (by decide) (fun c9 => ?_) (fun c9 => ?_)
    · have hw := hw.1 c9
      refine lv_iconst (v := (0 : Int32)) hx hb dX1_has_16 kI_0 ?_
      rw [hZ]
      exact cx_retz () hx hb hr hlocks rfl hw hP hS dX1_has_17
    · have hw := hw.2 c9
      refine lv_iconst (v := (1 : Int32)) hx hb dX1_has_12 kI_1 ?_
      refine lv_goto (tgt := 17) hx hb dX1_has_13 (by decide) ?_
      rw [hZ]
      exact cx_retz () hx hb hr hlocks rfl hw hP hS dX1_has_17
set_option maxRecDepth 100000 in
set_option maxHeartbeats 4000000 in
theorem c_X1_isOfKind (l : Launch) (D : va_G) (cI cJ cZ cO : ClassId) (tS tT : Nat) (sz : Nat) (aK aK_strengths aK_kinds aK_marks aK_faces aK_bars aK_showing aK_showingRight aK_barring : Nat) (K_warm : Int32) (K_count : Int32) (K_seeds : Int64) (K_blocks : Int64) (K_rivals : Int64) (K_kinds : Nat → Int32) (p1 : Int32) (p2 : Int32) (Q : Int32 → Prop) (hw : wp_X1_isOfKind K_count K_kinds p1 p2 Q) : Met l yX1_isOfKind wsX1_isOfKind rm_X1_isOfKind (va_Pc [.ref aK, .int p1, .int p2] (cx_B tS tT cI cJ cZ cO D sz (w_X1_isOfKind cI cJ cZ cO aK aK_strengths aK_kinds aK_marks aK_faces aK_bars aK_showing aK_showingRight aK_barring K_warm K_count K_seeds K_blocks K_rivals K_kinds))) (va_Qi (fun (r : Int32) (_ : Unit) => Q r) (fun (u : Unit) t => va_P D vwCl (w_X1_isOfKind cI cJ cZ cO aK aK_strengths aK_kinds aK_marks aK_faces aK_bars aK_showing aK_showingRight aK_barring K_warm K_count K_seeds K_blocks K_rivals K_kinds) t.heap) (va_A (w_X1_isOfKind cI cJ cZ cO aK aK_strengths aK_kinds aK_marks aK_faces aK_bars aK_showing aK_showingRight aK_barring K_warm K_count K_seeds K_blocks K_rivals K_kinds) sz)) 0 0 (va_A (w_X1_isOfKind cI cJ cZ cO aK aK_strengths aK_kinds aK_marks aK_faces aK_bars aK_showing aK_showingRight aK_barring K_warm K_count K_seeds K_blocks K_rivals K_kinds) sz) := by
  refine cx_met (cc := cX1_isOfKind) (maxL := 3) (ret := (some .boolean)) (Qc := fun A => va_Qi (fun (r : Int32) (_ : Unit) => Q r) (fun (u : Unit) t => va_P D vwCl (w_X1_isOfKind cI cJ cZ cO aK aK_strengths aK_kinds aK_marks aK_faces aK_bars aK_showing aK_showingRight aK_barring K_warm K_count K_seeds K_blocks K_rivals K_kinds) t.heap) A) (lv := [(0, .ref aK), (1, .int p1), (2, .int p2)]) (by decide) rfl (Nat.le_of_ble_eq_true rfl) rfl ?_
  intro p e s m args below meth c A Z hx hb hr hlocks hts hown hml hE hK hA hZ
  have hown : s.vm.findClass RX1 = some m.cls := hown
  have k_0 := hts (.fieldLink RX1 22 "GrowingTiles$Kit" "kinds" "[I") (List.mem_of_getElem? (i := 1) (by decide +kernel))
  intro H locs hP hD hS ls hl
  unfold wp_X1_isOfKind at hw
  refine lv_aload_n hx hb dX1_isOfKind_0 rfl (lv_at hl 0 rfl) ?_
  refine lv_iload_n hx hb dX1_isOfKind_1 rfl (lv_at hl 1 rfl) ?_
  refine cx_goi (va_runV (As := [.int p1]) (rest := []) ⟨hx, hb, hml, hown, hts⟩ (c_X1_has l D cI cJ cZ cO tS tT H.size aK aK_strengths aK_kinds aK_marks aK_faces aK_bars aK_showing aK_showingRight aK_barring K_warm K_count K_seeds K_blocks K_rivals p1 _ hw) (cwV 1 hts gX1_isOfKind_X1_has rfl rfl rfl pv_X1_has ⟨Nat.le_of_ble_eq_true rfl, Nat.le_of_ble_eq_true rfl⟩) (cx_preV (wc := w_X1_has cI cJ cZ cO aK aK_strengths aK_kinds aK_marks aK_faces aK_bars aK_showing aK_showingRight aK_barring K_warm K_count K_seeds K_blocks K_rivals) hE hK hP hD hS hA [0] rfl rfl (va_recv hK hP (ci := 1) (q0 := 0) rfl rfl)) rfl rfl hl.1 rfl (lv_room (Nat.le_of_ble_eq_true rfl)) dX1_isOfKind_2 ⟨Nat.le_of_ble_eq_true rfl, Nat.le_of_ble_eq_true rfl⟩) (fun (_ : Unit) => (w_X1_isOfKind cI cJ cZ cO aK aK_strengths aK_kinds aK_marks aK_faces aK_bars aK_showing aK_showingRight aK_barring K_warm K_count K_seeds K_blocks K_rivals K_kinds)) [0] [1] (ads := [aK]) (wr := [(aK_kinds, .inl (cI, 40, .inl K_kinds))]) rfl rfl (fun u => rfl) (fun u => rfl) rfl (fun u => rfl) rfl (fun u => rfl) rfl hP hD hS hA (fun r2 u H locs hw hP hD hS => ?_)
  have hP : va_P D vwCl (w_X1_isOfKind cI cJ cZ cO aK aK_strengths aK_kinds aK_marks aK_faces aK_bars aK_showing aK_showingRight aK_barring K_warm K_count K_seeds K_blocks K_rivals K_kinds) H := hP
  have hD : va_D A (w_X1_isOfKind cI cJ cZ cO aK aK_strengths aK_kinds aK_marks aK_faces aK_bars aK_showing aK_showingRight aK_barring K_warm K_count K_seeds K_blocks K_rivals K_kinds) := hD
  refine lv_if_eq (tgt := 22) hx hb dX1_isOfKind_5 (by decide) (fun c5 => ?_) (fun c5 => ?_)
  · have hw := hw.1 c5
    refine lv_iconst (v := (0 : Int32)) hx hb dX1_isOfKind_22 kI_0 ?_
    rw [hZ]
    exact cx_retz () hx hb hr hlocks rfl hw hP hS dX1_isOfKind_23
  · have hw := hw.2 c5
    refine lv_aload_n hx hb dX1_isOfKind_8 rfl (lv_at hl 0 rfl) ?_
    refine va_get (D := D) (ci := 1) (v := .ref aK_kinds) (C := RX1) (T := TX1) (N := 13) hx hb hts in_X1_isOfKind_X1 hown hK hP 0 rfl rfl 3 (by decide) k_0 (fun _ h9 => h9) rfl dX1_isOfKind_9 ?_
    refine lv_iload_n hx hb dX1_isOfKind_12 rfl (lv_at hl 1 rfl) ?_
    have h13 := hw.1
    have hw := hw.2
    refine va_iald hx hb hK hP 1 0 rfl rfl h13 dX1_isOfKind_13 ?_
    refine lv_topi (fun v13 e13 => ?_)
    have hw := hw v13 e13
    refine lv_iload_n hx hb dX1_isOfKind_14 rfl (lv_at hl 2 rfl) ?_
    refine lv_icmp_ne (tgt := 22) hx hb dX1_isOfKind_15 (by decide) (fun c15 => ?_) (fun c15 => ?_)
    · have hw := hw.1 c15
      refine lv_iconst (v := (0 : Int32)) hx hb dX1_isOfKind_22 kI_0 ?_
      rw [hZ]
      exact cx_retz () hx hb hr hlocks rfl hw hP hS dX1_isOfKind_23
    · have hw := hw.2 c15
      refine lv_iconst (v := (1 : Int32)) hx hb dX1_isOfKind_18 kI_1 ?_
      refine lv_goto (tgt := 23) hx hb dX1_isOfKind_19 (by decide) ?_
      rw [hZ]
      exact cx_retz () hx hb hr hlocks rfl hw hP hS dX1_isOfKind_23
set_option maxRecDepth 100000 in
set_option maxHeartbeats 4000000 in
theorem c_X1_isFace (l : Launch) (D : va_G) (cI cJ cZ cO : ClassId) (tS tT : Nat) (sz : Nat) (p1 : Int32) (Q : Int32 → Prop) (hw : wp_X1_isFace p1 Q) : Met l yX1_isFace wsX1_isFace rm_X1_isFace (va_Pc [.int p1] (cx_B tS tT cI cJ cZ cO D sz (w_X1_isFace : va_W))) (va_Qi (fun (r : Int32) (_ : Unit) => Q r) (fun (u : Unit) t => va_P D vwCl (w_X1_isFace : va_W) t.heap) (va_A (w_X1_isFace : va_W) sz)) 0 0 (va_A (w_X1_isFace : va_W) sz) := by
  refine cx_met (cc := cX1_isFace) (maxL := 1) (ret := (some .boolean)) (Qc := fun A => va_Qi (fun (r : Int32) (_ : Unit) => Q r) (fun (u : Unit) t => va_P D vwCl (w_X1_isFace : va_W) t.heap) A) (lv := [(0, .int p1)]) (by decide) rfl (Nat.le_of_ble_eq_true rfl) rfl ?_
  intro p e s m args below meth c A Z hx hb hr hlocks hts hown hml hE hK hA hZ
  have hown : s.vm.findClass RX1 = some m.cls := hown
  intro H locs hP hD hS ls hl
  unfold wp_X1_isFace at hw
  refine lv_iload_n hx hb dX1_isFace_0 rfl (lv_at hl 0 rfl) ?_
  refine lv_if_lt (tgt := 14) hx hb dX1_isFace_1 (by decide) (fun c1 => ?_) (fun c1 => ?_)
  · have hw := hw.1 c1
    refine lv_iconst (v := (0 : Int32)) hx hb dX1_isFace_14 kI_0 ?_
    rw [hZ]
    exact cx_retz () hx hb hr hlocks rfl hw hP hS dX1_isFace_15
  · have hw := hw.2 c1
    refine lv_iload_n hx hb dX1_isFace_4 rfl (lv_at hl 0 rfl) ?_
    refine lv_bipush (v := (51 : Int32)) hx hb dX1_isFace_5 kB_51 ?_
    refine lv_icmp_ge (tgt := 14) hx hb dX1_isFace_7 (by decide) (fun c7 => ?_) (fun c7 => ?_)
    · have hw := hw.1 c7
      refine lv_iconst (v := (0 : Int32)) hx hb dX1_isFace_14 kI_0 ?_
      rw [hZ]
      exact cx_retz () hx hb hr hlocks rfl hw hP hS dX1_isFace_15
    · have hw := hw.2 c7
      refine lv_iconst (v := (1 : Int32)) hx hb dX1_isFace_10 kI_1 ?_
      refine lv_goto (tgt := 15) hx hb dX1_isFace_11 (by decide) ?_
      rw [hZ]
      exact cx_retz () hx hb hr hlocks rfl hw hP hS dX1_isFace_15
set_option maxRecDepth 100000 in
set_option maxHeartbeats 4000000 in
theorem c_X1_isMoreOf (l : Launch) (D : va_G) (cI cJ cZ cO : ClassId) (tS tT : Nat) (sz : Nat) (p1 : Int32) (p2 : Int32) (Q : Int32 → Prop) (hw : wp_X1_isMoreOf p1 p2 Q) : Met l yX1_isMoreOf wsX1_isMoreOf rm_X1_isMoreOf (va_Pc [.int p1, .int p2] (cx_B tS tT cI cJ cZ cO D sz (w_X1_isMoreOf : va_W))) (va_Qi (fun (r : Int32) (_ : Unit) => Q r) (fun (u : Unit) t => va_P D vwCl (w_X1_isMoreOf : va_W) t.heap) (va_A (w_X1_isMoreOf : va_W) sz)) 0 0 (va_A (w_X1_isMoreOf : va_W) sz) := by
  refine cx_met (cc := cX1_isMoreOf) (maxL := 2) (ret := (some .boolean)) (Qc := fun A => va_Qi (fun (r : Int32) (_ : Unit) => Q r) (fun (u : Unit) t => va_P D vwCl (w_X1_isMoreOf : va_W) t.heap) A) (lv := [(0, .int p1), (1, .int p2)]) (by decide) rfl (Nat.le_of_ble_eq_true rfl) rfl ?_
  intro p e s m args below meth c A Z hx hb hr hlocks hts hown hml hE hK hA hZ
  have hown : s.vm.findClass RX1 = some m.cls := hown
  intro H locs hP hD hS ls hl
  unfold wp_X1_isMoreOf at hw
  refine lv_iload_n hx hb dX1_isMoreOf_0 rfl (lv_at hl 0 rfl) ?_
  by_cases c1_0 : p1 = (0 : Int32)
  · have hw := hw.1 c1_0
    refine lv_tableIn (tgt := 40) hx hb dX1_isMoreOf_1 (by rw [c1_0]; decide) (by rw [c1_0]; decide) (by rw [c1_0]; rfl) (by decide) ?_
    refine lv_iload_n hx hb dX1_isMoreOf_40 rfl (lv_at hl 1 rfl) ?_
    refine lv_if_ne (tgt := 48) hx hb dX1_isMoreOf_41 (by decide) (fun c41 => ?_) (fun c41 => ?_)
    · have hw := hw.1 c41
      refine lv_iconst (v := (0 : Int32)) hx hb dX1_isMoreOf_48 kI_0 ?_
      rw [hZ]
      exact cx_retz () hx hb hr hlocks rfl hw hP hS dX1_isMoreOf_49
    · have hw := hw.2 c41
      refine lv_iconst (v := (1 : Int32)) hx hb dX1_isMoreOf_44 kI_1 ?_
      refine lv_goto (tgt := 49) hx hb dX1_isMoreOf_45 (by decide) ?_
      rw [hZ]
      exact cx_retz () hx hb hr hlocks rfl hw hP hS dX1_isMoreOf_49
  by_cases c1_1 : p1 = (1 : Int32)
  · have hw := hw.2.1 c1_1
    refine lv_tableIn (tgt := 40) hx hb dX1_isMoreOf_1 (by rw [c1_1]; decide) (by rw [c1_1]; decide) (by rw [c1_1]; rfl) (by decide) ?_
    refine lv_iload_n hx hb dX1_isMoreOf_40 rfl (lv_at hl 1 rfl) ?_
    refine lv_if_ne (tgt := 48) hx hb dX1_isMoreOf_41 (by decide) (fun c41 => ?_) (fun c41 => ?_)
    · have hw := hw.1 c41
      refine lv_iconst (v := (0 : Int32)) hx hb dX1_isMoreOf_48 kI_0 ?_
      rw [hZ]
      exact cx_retz () hx hb hr hlocks rfl hw hP hS dX1_isMoreOf_49
    · have hw := hw.2 c41
      refine lv_iconst (v := (1 : Int32)) hx hb dX1_isMoreOf_44 kI_1 ?_
      refine lv_goto (tgt := 49) hx hb dX1_isMoreOf_45 (by decide) ?_
      rw [hZ]
      exact cx_retz () hx hb hr hlocks rfl hw hP hS dX1_isMoreOf_49
  by_cases c1_2 : p1 = (2 : Int32)
  · have hw := hw.2.2.1 c1_2
    refine lv_tableIn (tgt := 50) hx hb dX1_isMoreOf_1 (by rw [c1_2]; decide) (by rw [c1_2]; decide) (by rw [c1_2]; rfl) (by decide) ?_
    refine lv_iload_n hx hb dX1_isMoreOf_50 rfl (lv_at hl 1 rfl) ?_
    refine lv_if_lt (tgt := 78) hx hb dX1_isMoreOf_51 (by decide) (fun c51 => ?_) (fun c51 => ?_)
    · have hw := hw.1 c51
      refine lv_iconst (v := (0 : Int32)) hx hb dX1_isMoreOf_78 kI_0 ?_
      rw [hZ]
      exact cx_retz () hx hb hr hlocks rfl hw hP hS dX1_isMoreOf_79
    · have hw := hw.2 c51
      refine lv_iload_n hx hb dX1_isMoreOf_54 rfl (lv_at hl 1 rfl) ?_
      refine lv_bipush (v := (64 : Int32)) hx hb dX1_isMoreOf_55 kB_64 ?_
      refine lv_irem hx hb dX1_isMoreOf_57 (by decide) ?_
      refine cx_goi (va_runS (As := [.int (p2 - p2 / (64 : Int32) * (64 : Int32))]) (rest := []) ⟨hx, hb, hml, hown, hts⟩ (c_X1_isFace l D cI cJ cZ cO tS tT H.size (p2 - p2 / (64 : Int32) * (64 : Int32)) _ hw) (va_cwS 1 hts gX1_isMoreOf_X1_isFace rfl rfl rfl ps_X1_isFace ⟨Nat.le_of_ble_eq_true rfl, Nat.le_of_ble_eq_true rfl⟩) (cx_preS (wc := w_X1_isFace) hE hK hP hD hS hA [] rfl rfl) rfl rfl hl.1 rfl (lv_room (Nat.le_of_ble_eq_true rfl)) dX1_isMoreOf_58 ⟨Nat.le_of_ble_eq_true rfl, Nat.le_of_ble_eq_true rfl⟩) (fun (_ : Unit) => (w_X1_isMoreOf : va_W)) [] [] (ads := []) (wr := []) rfl rfl (fun u => rfl) (fun u => rfl) rfl (fun u => rfl) rfl (fun u => rfl) rfl hP hD hS hA (fun r58 u H locs hw hP hD hS => ?_)
      refine lv_if_eq (tgt := 78) hx hb dX1_isMoreOf_61 (by decide) (fun c61 => ?_) (fun c61 => ?_)
      · have hw := hw.1 c61
        refine lv_iconst (v := (0 : Int32)) hx hb dX1_isMoreOf_78 kI_0 ?_
        rw [hZ]
        exact cx_retz () hx hb hr hlocks rfl hw hP hS dX1_isMoreOf_79
      · have hw := hw.2 c61
        refine lv_iload_n hx hb dX1_isMoreOf_64 rfl (lv_at hl 1 rfl) ?_
        refine lv_bipush (v := (64 : Int32)) hx hb dX1_isMoreOf_65 kB_64 ?_
        refine lv_idiv hx hb dX1_isMoreOf_67 (by decide) ?_
        refine cx_goi (va_runS (As := [.int (p2 / (64 : Int32))]) (rest := []) ⟨hx, hb, hml, hown, hts⟩ (c_X1_isFace l D cI cJ cZ cO tS tT H.size (p2 / (64 : Int32)) _ hw) (va_cwS 1 hts gX1_isMoreOf_X1_isFace rfl rfl rfl ps_X1_isFace ⟨Nat.le_of_ble_eq_true rfl, Nat.le_of_ble_eq_true rfl⟩) (cx_preS (wc := w_X1_isFace) hE hK hP hD hS hA [] rfl rfl) rfl rfl hl.1 rfl (lv_room (Nat.le_of_ble_eq_true rfl)) dX1_isMoreOf_68 ⟨Nat.le_of_ble_eq_true rfl, Nat.le_of_ble_eq_true rfl⟩) (fun (_ : Unit) => (w_X1_isMoreOf : va_W)) [] [] (ads := []) (wr := []) rfl rfl (fun u => rfl) (fun u => rfl) rfl (fun u => rfl) rfl (fun u => rfl) rfl hP hD hS hA (fun r68 u H locs hw hP hD hS => ?_)
        refine lv_if_eq (tgt := 78) hx hb dX1_isMoreOf_71 (by decide) (fun c71 => ?_) (fun c71 => ?_)
        · have hw := hw.1 c71
          refine lv_iconst (v := (0 : Int32)) hx hb dX1_isMoreOf_78 kI_0 ?_
          rw [hZ]
          exact cx_retz () hx hb hr hlocks rfl hw hP hS dX1_isMoreOf_79
        · have hw := hw.2 c71
          refine lv_iconst (v := (1 : Int32)) hx hb dX1_isMoreOf_74 kI_1 ?_
          refine lv_goto (tgt := 79) hx hb dX1_isMoreOf_75 (by decide) ?_
          rw [hZ]
          exact cx_retz () hx hb hr hlocks rfl hw hP hS dX1_isMoreOf_79
  by_cases c1_3 : p1 = (3 : Int32)
  · have hw := hw.2.2.2.1 c1_3
    refine lv_tableIn (tgt := 40) hx hb dX1_isMoreOf_1 (by rw [c1_3]; decide) (by rw [c1_3]; decide) (by rw [c1_3]; rfl) (by decide) ?_
    refine lv_iload_n hx hb dX1_isMoreOf_40 rfl (lv_at hl 1 rfl) ?_
    refine lv_if_ne (tgt := 48) hx hb dX1_isMoreOf_41 (by decide) (fun c41 => ?_) (fun c41 => ?_)
    · have hw := hw.1 c41
      refine lv_iconst (v := (0 : Int32)) hx hb dX1_isMoreOf_48 kI_0 ?_
      rw [hZ]
      exact cx_retz () hx hb hr hlocks rfl hw hP hS dX1_isMoreOf_49
    · have hw := hw.2 c41
      refine lv_iconst (v := (1 : Int32)) hx hb dX1_isMoreOf_44 kI_1 ?_
      refine lv_goto (tgt := 49) hx hb dX1_isMoreOf_45 (by decide) ?_
      rw [hZ]
      exact cx_retz () hx hb hr hlocks rfl hw hP hS dX1_isMoreOf_49
  by_cases c1_4 : p1 = (4 : Int32)
  · have hw := hw.2.2.2.2.1 c1_4
    refine lv_tableIn (tgt := 80) hx hb dX1_isMoreOf_1 (by rw [c1_4]; decide) (by rw [c1_4]; decide) (by rw [c1_4]; rfl) (by decide) ?_
    refine lv_iload_n hx hb dX1_isMoreOf_80 rfl (lv_at hl 1 rfl) ?_
    refine lv_if_lt (tgt := 94) hx hb dX1_isMoreOf_81 (by decide) (fun c81 => ?_) (fun c81 => ?_)
    · have hw := hw.1 c81
      refine lv_iconst (v := (0 : Int32)) hx hb dX1_isMoreOf_94 kI_0 ?_
      rw [hZ]
      exact cx_retz () hx hb hr hlocks rfl hw hP hS dX1_isMoreOf_95
    · have hw := hw.2 c81
      refine lv_iload_n hx hb dX1_isMoreOf_84 rfl (lv_at hl 1 rfl) ?_
      refine lv_bipush (v := (15 : Int32)) hx hb dX1_isMoreOf_85 kB_15 ?_
      refine lv_icmp_gt (tgt := 94) hx hb dX1_isMoreOf_87 (by decide) (fun c87 => ?_) (fun c87 => ?_)
      · have hw := hw.1 c87
        refine lv_iconst (v := (0 : Int32)) hx hb dX1_isMoreOf_94 kI_0 ?_
        rw [hZ]
        exact cx_retz () hx hb hr hlocks rfl hw hP hS dX1_isMoreOf_95
      · have hw := hw.2 c87
        refine lv_iconst (v := (1 : Int32)) hx hb dX1_isMoreOf_90 kI_1 ?_
        refine lv_goto (tgt := 95) hx hb dX1_isMoreOf_91 (by decide) ?_
        rw [hZ]
        exact cx_retz () hx hb hr hlocks rfl hw hP hS dX1_isMoreOf_95
  by_cases c1_5 : p1 = (5 : Int32)
  · have hw := hw.2.2.2.2.2.1 c1_5
    refine lv_tableIn (tgt := 96) hx hb dX1_isMoreOf_1 (by rw [c1_5]; decide) (by rw [c1_5]; decide) (by rw [c1_5]; rfl) (by decide) ?_
    refine lv_iload_n hx hb dX1_isMoreOf_96 rfl (lv_at hl 1 rfl) ?_
    refine lv_bipush (v := (16 : Int32)) hx hb dX1_isMoreOf_97 kB_16 ?_
    refine lv_icmp_lt (tgt := 113) hx hb dX1_isMoreOf_99 (by decide) (fun c99 => ?_) (fun c99 => ?_)
    · have hw := hw.1 c99
      refine lv_iconst (v := (0 : Int32)) hx hb dX1_isMoreOf_113 kI_0 ?_
      rw [hZ]
      exact cx_retz () hx hb hr hlocks rfl hw hP hS dX1_isMoreOf_114
    · have hw := hw.2 c99
      refine lv_iload_n hx hb dX1_isMoreOf_102 rfl (lv_at hl 1 rfl) ?_
      refine lv_sipush (v := (255 : Int32)) hx hb dX1_isMoreOf_103 kS_255 ?_
      refine lv_icmp_gt (tgt := 113) hx hb dX1_isMoreOf_106 (by decide) (fun c106 => ?_) (fun c106 => ?_)
      · have hw := hw.1 c106
        refine lv_iconst (v := (0 : Int32)) hx hb dX1_isMoreOf_113 kI_0 ?_
        rw [hZ]
        exact cx_retz () hx hb hr hlocks rfl hw hP hS dX1_isMoreOf_114
      · have hw := hw.2 c106
        refine lv_iconst (v := (1 : Int32)) hx hb dX1_isMoreOf_109 kI_1 ?_
        refine lv_goto (tgt := 114) hx hb dX1_isMoreOf_110 (by decide) ?_
        rw [hZ]
        exact cx_retz () hx hb hr hlocks rfl hw hP hS dX1_isMoreOf_114
  have hw := hw.2.2.2.2.2.2 c1_0 c1_1 c1_2 c1_3 c1_4 c1_5
  refine lv_tableOut (tgt := 115) hx hb dX1_isMoreOf_1 (cx_sw6 p1 c1_0 c1_1 c1_2 c1_3 c1_4 c1_5) (by decide) ?_
  refine lv_iconst (v := (0 : Int32)) hx hb dX1_isMoreOf_115 kI_0 ?_
  rw [hZ]
  exact cx_retz () hx hb hr hlocks rfl hw hP hS dX1_isMoreOf_116
set_option maxRecDepth 100000 in
set_option maxHeartbeats 4000000 in
theorem c_X1_enrol (l : Launch) (D : va_G) (cI cJ cZ cO : ClassId) (tS tT : Nat) (sz : Nat) (aK aK_strengths aK_kinds aK_marks aK_faces aK_bars aK_showing aK_showingRight aK_barring : Nat) (K_warm : Int32) (K_count : Int32) (K_seeds : Int64) (K_blocks : Int64) (K_rivals : Int64) (p1 : Int32) (p2 : Int32) (Q : (Int64) → (Int64) → (Int64) → Prop) (hw : wp_X1_enrol K_seeds K_blocks K_rivals p1 p2 Q) : Met l yX1_enrol wsX1_enrol rm_X1_enrol (va_Pc [.ref aK, .int p1, .int p2] (cx_B tS tT cI cJ cZ cO D sz (w_X1_enrol cI cJ cZ cO aK aK_strengths aK_kinds aK_marks aK_faces aK_bars aK_showing aK_showingRight aK_barring K_warm K_count K_seeds K_blocks K_rivals))) (va_Qv (fun (u : (Int64) × (Int64) × (Int64)) => Q u.1 u.2.1 u.2.2) (fun (u : (Int64) × (Int64) × (Int64)) t => va_P D vwCl (w_X1_enrol cI cJ cZ cO aK aK_strengths aK_kinds aK_marks aK_faces aK_bars aK_showing aK_showingRight aK_barring K_warm K_count u.1 u.2.1 u.2.2) t.heap) (va_A (w_X1_enrol cI cJ cZ cO aK aK_strengths aK_kinds aK_marks aK_faces aK_bars aK_showing aK_showingRight aK_barring K_warm K_count K_seeds K_blocks K_rivals) sz)) 0 0 (va_A (w_X1_enrol cI cJ cZ cO aK aK_strengths aK_kinds aK_marks aK_faces aK_bars aK_showing aK_showingRight aK_barring K_warm K_count K_seeds K_blocks K_rivals) sz) := by
  refine cx_met (cc := cX1_enrol) (maxL := 5) (ret := none) (Qc := fun A => va_Qv (fun (u : (Int64) × (Int64) × (Int64)) => Q u.1 u.2.1 u.2.2) (fun (u : (Int64) × (Int64) × (Int64)) t => va_P D vwCl (w_X1_enrol cI cJ cZ cO aK aK_strengths aK_kinds aK_marks aK_faces aK_bars aK_showing aK_showingRight aK_barring K_warm K_count u.1 u.2.1 u.2.2) t.heap) A) (lv := [(0, .ref aK), (1, .int p1), (2, .int p2)]) (by decide) rfl (Nat.le_of_ble_eq_true rfl) rfl ?_
  intro p e s m args below meth c A Z hx hb hr hlocks hts hown hml hE hK hA hZ
  have hown : s.vm.findClass RX1 = some m.cls := hown
  have k_0 := hts (.fieldLink RX1 51 "GrowingTiles$Kit" "rivals" "J") (List.mem_of_getElem? (i := 3) (by decide +kernel))
  have k_1 := hts (.fieldLink RX1 48 "GrowingTiles$Kit" "blocks" "J") (List.mem_of_getElem? (i := 2) (by decide +kernel))
  have k_2 := hts (.fieldLink RX1 44 "GrowingTiles$Kit" "seeds" "J") (List.mem_of_getElem? (i := 1) (by decide +kernel))
  intro H locs hP hD hS ls hl
  unfold wp_X1_enrol at hw
  refine lv_lconst (v := (1 : Int64)) hx hb dX1_enrol_0 kL_1 ?_
  refine lv_iload_n hx hb dX1_enrol_1 rfl (lv_at hl 1 rfl) ?_
  refine lv_lshl hx hb dX1_enrol_2 rfl ?_
  refine lv_topl (fun v3 e3 => ?_)
  have hw := hw v3 e3
  refine lv_lstore_n (lv' := [(3, .long v3), (0, .ref aK), (1, .int p1), (2, .int p2)]) hx hb dX1_enrol_3 rfl hl (by decide) rfl (fun ls hl => ?_)
  refine lv_iload_n hx hb dX1_enrol_4 rfl (lv_at hl 3 rfl) ?_
  refine lv_iconst (v := (1 : Int32)) hx hb dX1_enrol_5 kI_1 ?_
  refine lv_icmp_ne (tgt := 22) hx hb dX1_enrol_6 (by decide) (fun c6 => ?_) (fun c6 => ?_)
  · have hw := hw.1 c6
    refine lv_iload_n hx hb dX1_enrol_22 rfl (lv_at hl 3 rfl) ?_
    refine lv_iconst (v := (2 : Int32)) hx hb dX1_enrol_23 kI_2 ?_
    refine lv_icmp_ne (tgt := 40) hx hb dX1_enrol_24 (by decide) (fun c24 => ?_) (fun c24 => ?_)
    · have hw := hw.1 c24
      refine lv_iload_n hx hb dX1_enrol_40 rfl (lv_at hl 3 rfl) ?_
      refine lv_iconst (v := (4 : Int32)) hx hb dX1_enrol_41 kI_4 ?_
      refine lv_icmp_eq (tgt := 55) hx hb dX1_enrol_42 (by decide) (fun c42 => ?_) (fun c42 => ?_)
      · have hw := hw.1 c42
        rw [hZ]
        exact cx_retv (K_seeds, K_blocks, K_rivals) hx hb hr hlocks hw hP hS dX1_enrol_55
      · have hw := hw.2 c42
        refine lv_aload_n hx hb dX1_enrol_45 rfl (lv_at hl 1 rfl) ?_
        refine lv_dup hx hb dX1_enrol_46 rfl ?_
        refine va_get (D := D) (ci := 1) (v := .long K_rivals) (C := RX1) (T := TX1) (N := 13) hx hb hts in_X1_enrol_X1 hown hK hP 0 rfl rfl 12 (by decide) k_0 (fun _ h9 => h9) rfl dX1_enrol_47 ?_
        refine lv_lload_n hx hb dX1_enrol_50 rfl (lv_at hl 0 rfl) ?_
        refine lv_lor hx hb dX1_enrol_51 ?_
        refine lv_topl (fun K_rivals_52 e52 => ?_)
        have hw := hw K_rivals_52 e52
        refine va_put (D := D) (ci := 1) (v := .long K_rivals_52) (ty := .long) (C := RX1) (T := TX1) (N := 13) hx hb hts in_X1_enrol_X1 tyX1 tyX1_ok nmX1 hown hK hP hD hS 0 rfl rfl 12 (by decide) k_0 (fun _ h9 => h9) rfl (tyX1_ok 12 (by decide)) rfl rfl (Nat.le_of_ble_eq_true rfl) dX1_enrol_52 (fun H locs hP hD hS => ?_)
        have hP : va_P D vwCl (w_X1_enrol cI cJ cZ cO aK aK_strengths aK_kinds aK_marks aK_faces aK_bars aK_showing aK_showingRight aK_barring K_warm K_count K_seeds K_blocks K_rivals_52) H := hP
        have hD : va_D A (w_X1_enrol cI cJ cZ cO aK aK_strengths aK_kinds aK_marks aK_faces aK_bars aK_showing aK_showingRight aK_barring K_warm K_count K_seeds K_blocks K_rivals_52) := hD
        rw [hZ]
        exact cx_retv (K_seeds, K_blocks, K_rivals_52) hx hb hr hlocks hw hP hS dX1_enrol_55
    · have hw := hw.2 c24
      refine lv_aload_n hx hb dX1_enrol_27 rfl (lv_at hl 1 rfl) ?_
      refine lv_dup hx hb dX1_enrol_28 rfl ?_
      refine va_get (D := D) (ci := 1) (v := .long K_blocks) (C := RX1) (T := TX1) (N := 13) hx hb hts in_X1_enrol_X1 hown hK hP 0 rfl rfl 11 (by decide) k_1 (fun _ h9 => h9) rfl dX1_enrol_29 ?_
      refine lv_lload_n hx hb dX1_enrol_32 rfl (lv_at hl 0 rfl) ?_
      refine lv_lor hx hb dX1_enrol_33 ?_
      refine lv_topl (fun K_blocks_34 e34 => ?_)
      have hw := hw K_blocks_34 e34
      refine va_put (D := D) (ci := 1) (v := .long K_blocks_34) (ty := .long) (C := RX1) (T := TX1) (N := 13) hx hb hts in_X1_enrol_X1 tyX1 tyX1_ok nmX1 hown hK hP hD hS 0 rfl rfl 11 (by decide) k_1 (fun _ h9 => h9) rfl (tyX1_ok 11 (by decide)) rfl rfl (Nat.le_of_ble_eq_true rfl) dX1_enrol_34 (fun H locs hP hD hS => ?_)
      have hP : va_P D vwCl (w_X1_enrol cI cJ cZ cO aK aK_strengths aK_kinds aK_marks aK_faces aK_bars aK_showing aK_showingRight aK_barring K_warm K_count K_seeds K_blocks_34 K_rivals) H := hP
      have hD : va_D A (w_X1_enrol cI cJ cZ cO aK aK_strengths aK_kinds aK_marks aK_faces aK_bars aK_showing aK_showingRight aK_barring K_warm K_count K_seeds K_blocks_34 K_rivals) := hD
      refine lv_goto (tgt := 55) hx hb dX1_enrol_37 (by decide) ?_
      rw [hZ]
      exact cx_retv (K_seeds, K_blocks_34, K_rivals) hx hb hr hlocks hw hP hS dX1_enrol_55
  · have hw := hw.2 c6
    refine lv_aload_n hx hb dX1_enrol_9 rfl (lv_at hl 1 rfl) ?_
    refine lv_dup hx hb dX1_enrol_10 rfl ?_
    refine va_get (D := D) (ci := 1) (v := .long K_seeds) (C := RX1) (T := TX1) (N := 13) hx hb hts in_X1_enrol_X1 hown hK hP 0 rfl rfl 10 (by decide) k_2 (fun _ h9 => h9) rfl dX1_enrol_11 ?_
    refine lv_lload_n hx hb dX1_enrol_14 rfl (lv_at hl 0 rfl) ?_
    refine lv_lor hx hb dX1_enrol_15 ?_
    refine lv_topl (fun K_seeds_16 e16 => ?_)
    have hw := hw K_seeds_16 e16
    refine va_put (D := D) (ci := 1) (v := .long K_seeds_16) (ty := .long) (C := RX1) (T := TX1) (N := 13) hx hb hts in_X1_enrol_X1 tyX1 tyX1_ok nmX1 hown hK hP hD hS 0 rfl rfl 10 (by decide) k_2 (fun _ h9 => h9) rfl (tyX1_ok 10 (by decide)) rfl rfl (Nat.le_of_ble_eq_true rfl) dX1_enrol_16 (fun H locs hP hD hS => ?_)
    have hP : va_P D vwCl (w_X1_enrol cI cJ cZ cO aK aK_strengths aK_kinds aK_marks aK_faces aK_bars aK_showing aK_showingRight aK_barring K_warm K_count K_seeds_16 K_blocks K_rivals) H := hP
    have hD : va_D A (w_X1_enrol cI cJ cZ cO aK aK_strengths aK_kinds aK_marks aK_faces aK_bars aK_showing aK_showingRight aK_barring K_warm K_count K_seeds_16 K_blocks K_rivals) := hD
    refine lv_goto (tgt := 55) hx hb dX1_enrol_19 (by decide) ?_
    rw [hZ]
    exact cx_retv (K_seeds_16, K_blocks, K_rivals) hx hb hr hlocks hw hP hS dX1_enrol_55
set_option maxRecDepth 100000 in
set_option maxHeartbeats 4000000 in
theorem c_X7_bitOf (l : Launch) (D : va_G) (cI cJ cZ cO : ClassId) (tS tT : Nat) (sz : Nat) (p1 : Int32) (p2 : Int32) (Q : Int32 → Prop) (hw : wp_X7_bitOf p1 p2 Q) : Met l yX7_bitOf wsX7_bitOf rm_X7_bitOf (va_Pc [.int p1, .int p2] (cx_B tS tT cI cJ cZ cO D sz (w_X7_bitOf : va_W))) (va_Qi (fun (r : Int32) (_ : Unit) => Q r) (fun (u : Unit) t => va_P D vwCl (w_X7_bitOf : va_W) t.heap) (va_A (w_X7_bitOf : va_W) sz)) 0 0 (va_A (w_X7_bitOf : va_W) sz) := by
  refine cx_met (cc := cX7_bitOf) (maxL := 2) (ret := (some .int)) (Qc := fun A => va_Qi (fun (r : Int32) (_ : Unit) => Q r) (fun (u : Unit) t => va_P D vwCl (w_X7_bitOf : va_W) t.heap) A) (lv := [(0, .int p1), (1, .int p2)]) (by decide) rfl (Nat.le_of_ble_eq_true rfl) rfl ?_
  intro p e s m args below meth c A Z hx hb hr hlocks hts hown hml hE hK hA hZ
  have hown : s.vm.findClass RX7 = some m.cls := hown
  intro H locs hP hD hS ls hl
  unfold wp_X7_bitOf at hw
  refine lv_iload_n hx hb dX7_bitOf_0 rfl (lv_at hl 0 rfl) ?_
  refine lv_iload_n hx hb dX7_bitOf_1 rfl (lv_at hl 1 rfl) ?_
  refine lv_iushr hx hb dX7_bitOf_2 rfl ?_
  refine lv_iconst (v := (1 : Int32)) hx hb dX7_bitOf_3 kI_1 ?_
  refine lv_iand hx hb dX7_bitOf_4 ?_
  rw [hZ]
  exact cx_reti () hx hb hr hlocks hw hP hS dX7_bitOf_5
set_option maxRecDepth 100000 in
set_option maxHeartbeats 4000000 in
theorem c_X1_barSides (l : Launch) (D : va_G) (cI cJ cZ cO : ClassId) (tS tT : Nat) (sz : Nat) (aK aK_strengths aK_kinds aK_marks aK_faces aK_bars aK_showing aK_showingRight aK_barring : Nat) (K_warm : Int32) (K_count : Int32) (K_seeds : Int64) (K_blocks : Int64) (K_rivals : Int64) (K_bars : Nat → Int32) (K_barring : Nat → Int64) (p1 : Int32) (p2 : Int32) (Q : (Nat → Int32) → (Nat → Int64) → Prop) (hw : wp_X1_barSides K_bars K_barring p1 p2 Q) : Met l yX1_barSides wsX1_barSides rm_X1_barSides (va_Pc [.ref aK, .int p1, .int p2] (cx_B tS tT cI cJ cZ cO D sz (w_X1_barSides cI cJ cZ cO aK aK_strengths aK_kinds aK_marks aK_faces aK_bars aK_showing aK_showingRight aK_barring K_warm K_count K_seeds K_blocks K_rivals K_bars K_barring))) (va_Qv (fun (u : (Nat → Int32) × (Nat → Int64)) => Q u.1 u.2) (fun (u : (Nat → Int32) × (Nat → Int64)) t => va_P D vwCl (w_X1_barSides cI cJ cZ cO aK aK_strengths aK_kinds aK_marks aK_faces aK_bars aK_showing aK_showingRight aK_barring K_warm K_count K_seeds K_blocks K_rivals u.1 u.2) t.heap) (va_A (w_X1_barSides cI cJ cZ cO aK aK_strengths aK_kinds aK_marks aK_faces aK_bars aK_showing aK_showingRight aK_barring K_warm K_count K_seeds K_blocks K_rivals K_bars K_barring) sz)) 0 0 (va_A (w_X1_barSides cI cJ cZ cO aK aK_strengths aK_kinds aK_marks aK_faces aK_bars aK_showing aK_showingRight aK_barring K_warm K_count K_seeds K_blocks K_rivals K_bars K_barring) sz) := by
  refine cx_met (cc := cX1_barSides) (maxL := 4) (ret := none) (Qc := fun A => va_Qv (fun (u : (Nat → Int32) × (Nat → Int64)) => Q u.1 u.2) (fun (u : (Nat → Int32) × (Nat → Int64)) t => va_P D vwCl (w_X1_barSides cI cJ cZ cO aK aK_strengths aK_kinds aK_marks aK_faces aK_bars aK_showing aK_showingRight aK_barring K_warm K_count K_seeds K_blocks K_rivals u.1 u.2) t.heap) A) (lv := [(0, .ref aK), (1, .int p1), (2, .int p2)]) (by decide) rfl (Nat.le_of_ble_eq_true rfl) rfl ?_
  intro p e s m args below meth c A Z hx hb hr hlocks hts hown hml hE hK hA hZ
  have hown : s.vm.findClass RX1 = some m.cls := hown
  have k_0 := hts (.initialized RX7) (List.mem_of_getElem? (i := 4) (by decide +kernel))
  have k_1 := hts (.static yX7_bitOf) (List.mem_of_getElem? (i := 3) (by decide +kernel))
  have k_2 := hts (.fieldLink RX1 41 "GrowingTiles$Kit" "barring" "[J") (List.mem_of_getElem? (i := 2) (by decide +kernel))
  have k_3 := hts (.fieldLink RX1 31 "GrowingTiles$Kit" "bars" "[I") (List.mem_of_getElem? (i := 1) (by decide +kernel))
  have b_11 : ∀ n_11 : Nat, ∀ (K_bars : Nat → Int32) (K_barring : Nat → Int64) (x1 : Int32) (x2 : Int32) (x3 : Int32), wq_X1_barSides_11  Q n_11 K_bars K_barring x1 x2 x3 → ∀ (H : Heap) (locs : List Loc), va_P D vwCl (w_X1_barSides cI cJ cZ cO aK aK_strengths aK_kinds aK_marks aK_faces aK_bars aK_showing aK_showingRight aK_barring K_warm K_count K_seeds K_blocks K_rivals K_bars K_barring) H → va_D A (w_X1_barSides cI cJ cZ cO aK aK_strengths aK_kinds aK_marks aK_faces aK_bars aK_showing aK_showingRight aK_barring K_warm K_count K_seeds K_blocks K_rivals K_bars K_barring) → va_S A s.heap H locs → ∀ ls : Array Slot, lv_has ls 4 [(0, .ref aK), (1, .int x1), (2, .int x2), (3, .int x3)] → W p l e rm_X1_barSides s m args below meth c H locs 0 0 Z (F0 m 11 ls []) := by
    intro n_11
    induction n_11 with
    | zero => intro K_bars K_barring x1 x2 x3 hw; exact False.elim hw
    | succ n_11 ih_11 =>
      intro K_bars K_barring x1 x2 x3 hw H locs hP hD hS ls hl
      have hw : wf_X1_barSides_11  Q (wq_X1_barSides_11  Q n_11) K_bars K_barring x1 x2 x3 := hw
      unfold wf_X1_barSides_11 at hw
      refine lv_iload_n hx hb dX1_barSides_11 rfl (lv_at hl 3 rfl) ?_
      refine lv_iconst (v := (4 : Int32)) hx hb dX1_barSides_12 kI_4 ?_
      refine lv_icmp_ge (tgt := 43) hx hb dX1_barSides_13 (by decide) (fun c13 => ?_) (fun c13 => ?_)
      · have hw := hw.1 c13
        rw [hZ]
        exact cx_retv (K_bars, K_barring) hx hb hr hlocks hw hP hS dX1_barSides_43
      · have hw := hw.2 c13
        refine lv_iload_n hx hb dX1_barSides_16 rfl (lv_at hl 2 rfl) ?_
        refine lv_iload_n hx hb dX1_barSides_17 rfl (lv_at hl 3 rfl) ?_
        refine cx_goi (va_runSN (As := [.int x2, .int x3]) (rest := []) ⟨hx, hb, hml, hown, hts⟩ (c_X7_bitOf l D cI cJ cZ cO tS tT H.size x2 x3 _ hw) ⟨va_cnB 2 hts gX1_barSides_X7_bitOf_n76 rfl rfl rfl (hE.1.1) k_0 ps_X7_bitOf ⟨Nat.le_of_ble_eq_true rfl, Nat.le_of_ble_eq_true rfl⟩, k_1, trivial⟩ (cx_preS (wc := w_X7_bitOf) hE hK hP hD hS hA [] rfl rfl) rfl rfl hl.1 rfl (lv_room (Nat.le_of_ble_eq_true rfl)) dX1_barSides_18 ⟨Nat.le_of_ble_eq_true rfl, Nat.le_of_ble_eq_true rfl⟩) (fun (_ : Unit) => (w_X1_barSides cI cJ cZ cO aK aK_strengths aK_kinds aK_marks aK_faces aK_bars aK_showing aK_showingRight aK_barring K_warm K_count K_seeds K_blocks K_rivals K_bars K_barring)) [] [0, 1, 2] (ads := []) (wr := [(aK, .inr (1, [.int K_warm, .int K_count, .ref aK_strengths, .ref aK_kinds, .ref aK_marks, .ref aK_faces, .ref aK_bars, .ref aK_showing, .ref aK_showingRight, .ref aK_barring, .long K_seeds, .long K_blocks, .long K_rivals])), (aK_bars, .inl (cI, 128, .inl K_bars)), (aK_barring, .inl (cJ, 4, .inr (.inl K_barring)))]) rfl rfl (fun u => rfl) (fun u => rfl) rfl (fun u => rfl) rfl (fun u => rfl) rfl hP hD hS hA (fun r18 u H locs hw hP hD hS => ?_)
        refine lv_iconst (v := (1 : Int32)) hx hb dX1_barSides_21 kI_1 ?_
        refine lv_icmp_ne (tgt := 37) hx hb dX1_barSides_22 (by decide) (fun c22 => ?_) (fun c22 => ?_)
        · have hw := hw.1 c22
          obtain ⟨v37, e37⟩ : ∃ y : Int32, y = x3 + (1 : Int32) := ⟨_, rfl⟩
          have hw := hw v37 e37
          refine lv_iinc (v := v37) (lv' := [(3, .int v37), (0, .ref aK), (1, .int x1), (2, .int x2)]) hx hb dX1_barSides_37 hl (k := 3) rfl (by rw [e37, kI_1]) (by decide) rfl (fun ls hl => ?_)
          refine lv_goto (tgt := 11) hx hb dX1_barSides_40 (by decide) ?_
          exact ih_11 K_bars K_barring x1 x2 v37 hw H locs hP hD hS ls (lv_sub hl [1, 2, 3, 0] rfl)
        · have hw := hw.2 c22
          refine lv_aload_n hx hb dX1_barSides_25 rfl (lv_at hl 0 rfl) ?_
          refine va_get (D := D) (ci := 1) (v := .ref aK_barring) (C := RX1) (T := TX1) (N := 13) hx hb hts in_X1_barSides_X1 hown hK hP 0 rfl rfl 9 (by decide) k_2 (fun _ h9 => h9) rfl dX1_barSides_26 ?_
          refine lv_iload_n hx hb dX1_barSides_29 rfl (lv_at hl 3 rfl) ?_
          refine lv_dup2_11 hx hb dX1_barSides_30 rfl rfl ?_
          have h31 := hw.1
          have hw := hw.2
          refine va_lald hx hb hK hP 2 1 rfl rfl h31 dX1_barSides_31 ?_
          refine lv_topl (fun v31 e31 => ?_)
          have hw := hw v31 e31
          refine lv_lconst (v := (1 : Int64)) hx hb dX1_barSides_32 kL_1 ?_
          refine lv_iload_n hx hb dX1_barSides_33 rfl (lv_at hl 1 rfl) ?_
          refine lv_lshl hx hb dX1_barSides_34 rfl ?_
          refine lv_lor hx hb dX1_barSides_35 ?_
          have h36 := hw.1
          have hw := hw.2
          refine va_last hx hb hK hP hD hS 2 1 rfl rfl h36 dX1_barSides_36 (fun H locs hP hD hS => ?_)
          have hP : va_P D vwCl (w_X1_barSides cI cJ cZ cO aK aK_strengths aK_kinds aK_marks aK_faces aK_bars aK_showing aK_showingRight aK_barring K_warm K_count K_seeds K_blocks K_rivals K_bars (vp_updL K_barring x3.toNatClampNeg (v31 ||| ((1 : Int64) <<< (x1.toInt64 &&& 63))))) H := hP
          have hD : va_D A (w_X1_barSides cI cJ cZ cO aK aK_strengths aK_kinds aK_marks aK_faces aK_bars aK_showing aK_showingRight aK_barring K_warm K_count K_seeds K_blocks K_rivals K_bars (vp_updL K_barring x3.toNatClampNeg (v31 ||| ((1 : Int64) <<< (x1.toInt64 &&& 63))))) := hD
          obtain ⟨K_barring_36, e36⟩ : ∃ y : Nat → Int64, y = vp_updL K_barring x3.toNatClampNeg (v31 ||| ((1 : Int64) <<< (x1.toInt64 &&& 63))) := ⟨_, rfl⟩
          rw [← e36] at hP hD
          have hw := hw K_barring_36 e36
          obtain ⟨v37, e37⟩ : ∃ y : Int32, y = x3 + (1 : Int32) := ⟨_, rfl⟩
          have hw := hw v37 e37
          refine lv_iinc (v := v37) (lv' := [(3, .int v37), (0, .ref aK), (1, .int x1), (2, .int x2)]) hx hb dX1_barSides_37 hl (k := 3) rfl (by rw [e37, kI_1]) (by decide) rfl (fun ls hl => ?_)
          refine lv_goto (tgt := 11) hx hb dX1_barSides_40 (by decide) ?_
          exact ih_11 K_bars K_barring_36 x1 x2 v37 hw H locs hP hD hS ls (lv_sub hl [1, 2, 3, 0] rfl)
  intro H locs hP hD hS ls hl
  unfold wp_X1_barSides at hw
  refine lv_aload_n hx hb dX1_barSides_0 rfl (lv_at hl 0 rfl) ?_
  refine va_get (D := D) (ci := 1) (v := .ref aK_bars) (C := RX1) (T := TX1) (N := 13) hx hb hts in_X1_barSides_X1 hown hK hP 0 rfl rfl 6 (by decide) k_3 (fun _ h9 => h9) rfl dX1_barSides_1 ?_
  refine lv_iconst (v := (1 : Int32)) hx hb dX1_barSides_4 kI_1 ?_
  refine lv_iload_n hx hb dX1_barSides_5 rfl (lv_at hl 1 rfl) ?_
  refine lv_iadd hx hb dX1_barSides_6 ?_
  refine lv_iload_n hx hb dX1_barSides_7 rfl (lv_at hl 2 rfl) ?_
  have h8 := hw.1
  have hw := hw.2
  refine va_iast hx hb hK hP hD hS 1 0 rfl rfl h8 dX1_barSides_8 (fun H locs hP hD hS => ?_)
  have hP : va_P D vwCl (w_X1_barSides cI cJ cZ cO aK aK_strengths aK_kinds aK_marks aK_faces aK_bars aK_showing aK_showingRight aK_barring K_warm K_count K_seeds K_blocks K_rivals (upd K_bars ((1 : Int32) + p1).toNatClampNeg p2) K_barring) H := hP
  have hD : va_D A (w_X1_barSides cI cJ cZ cO aK aK_strengths aK_kinds aK_marks aK_faces aK_bars aK_showing aK_showingRight aK_barring K_warm K_count K_seeds K_blocks K_rivals (upd K_bars ((1 : Int32) + p1).toNatClampNeg p2) K_barring) := hD
  obtain ⟨K_bars_8, e8⟩ : ∃ y : Nat → Int32, y = upd K_bars ((1 : Int32) + p1).toNatClampNeg p2 := ⟨_, rfl⟩
  rw [← e8] at hP hD
  have hw := hw K_bars_8 e8
  refine lv_iconst (v := (0 : Int32)) hx hb dX1_barSides_9 kI_0 ?_
  refine lv_istore_n (lv' := [(3, .int (0 : Int32)), (0, .ref aK), (1, .int p1), (2, .int p2)]) hx hb dX1_barSides_10 rfl hl (by decide) rfl (fun ls hl => ?_)
  obtain ⟨k, hw⟩ := hw
  exact b_11 k K_bars_8 K_barring p1 p2 (0 : Int32) hw H locs hP hD hS ls (lv_sub hl [1, 2, 3, 0] rfl)
set_option maxRecDepth 100000 in
set_option maxHeartbeats 4000000 in
theorem c_X1_show (l : Launch) (D : va_G) (cI cJ cZ cO : ClassId) (tS tT : Nat) (sz : Nat) (aA aK aK_strengths aK_kinds aK_marks aK_faces aK_bars aK_showing aK_showingRight aK_barring : Nat) (nA : Nat) (arr : Nat → Int64) (K_warm : Int32) (K_count : Int32) (K_seeds : Int64) (K_blocks : Int64) (K_rivals : Int64) (K_faces : Nat → Int32) (p2 : Int32) (p3 : Int32) (p4 : Int32) (p5 : Int32) (Q : (Nat → Int64) → (Nat → Int32) → Prop) (hw : wp_X1_show nA arr K_faces p2 p3 p4 p5 Q) : Met l yX1_show wsX1_show rm_X1_show (va_Pc [.ref aK, .ref aA, .int p2, .int p3, .int p4, .int p5] (cx_B tS tT cI cJ cZ cO D sz (w_X1_show cI cJ cZ cO aA aK aK_strengths aK_kinds aK_marks aK_faces aK_bars aK_showing aK_showingRight aK_barring nA arr K_warm K_count K_seeds K_blocks K_rivals K_faces))) (va_Qv (fun (u : (Nat → Int64) × (Nat → Int32)) => Q u.1 u.2) (fun (u : (Nat → Int64) × (Nat → Int32)) t => va_P D vwCl (w_X1_show cI cJ cZ cO aA aK aK_strengths aK_kinds aK_marks aK_faces aK_bars aK_showing aK_showingRight aK_barring nA u.1 K_warm K_count K_seeds K_blocks K_rivals u.2) t.heap) (va_A (w_X1_show cI cJ cZ cO aA aK aK_strengths aK_kinds aK_marks aK_faces aK_bars aK_showing aK_showingRight aK_barring nA arr K_warm K_count K_seeds K_blocks K_rivals K_faces) sz)) 0 0 (va_A (w_X1_show cI cJ cZ cO aA aK aK_strengths aK_kinds aK_marks aK_faces aK_bars aK_showing aK_showingRight aK_barring nA arr K_warm K_count K_seeds K_blocks K_rivals K_faces) sz) := by
  refine cx_met (cc := cX1_show) (maxL := 6) (ret := none) (Qc := fun A => va_Qv (fun (u : (Nat → Int64) × (Nat → Int32)) => Q u.1 u.2) (fun (u : (Nat → Int64) × (Nat → Int32)) t => va_P D vwCl (w_X1_show cI cJ cZ cO aA aK aK_strengths aK_kinds aK_marks aK_faces aK_bars aK_showing aK_showingRight aK_barring nA u.1 K_warm K_count K_seeds K_blocks K_rivals u.2) t.heap) A) (lv := [(0, .ref aK), (1, .ref aA), (2, .int p2), (3, .int p3), (4, .int p4), (5, .int p5)]) (by decide) rfl (Nat.le_of_ble_eq_true rfl) rfl ?_
  intro p e s m args below meth c A Z hx hb hr hlocks hts hown hml hE hK hA hZ
  have hown : s.vm.findClass RX1 = some m.cls := hown
  have k_0 := hts (.fieldLink RX1 28 "GrowingTiles$Kit" "faces" "[I") (List.mem_of_getElem? (i := 1) (by decide +kernel))
  intro H locs hP hD hS ls hl
  unfold wp_X1_show at hw
  refine lv_aload_n hx hb dX1_show_0 rfl (lv_at hl 0 rfl) ?_
  refine va_get (D := D) (ci := 1) (v := .ref aK_faces) (C := RX1) (T := TX1) (N := 13) hx hb hts in_X1_show_X1 hown hK hP 1 rfl rfl 5 (by decide) k_0 (fun _ h9 => h9) rfl dX1_show_1 ?_
  refine lv_iconst (v := (4 : Int32)) hx hb dX1_show_4 kI_4 ?_
  refine lv_iload_n hx hb dX1_show_5 rfl (lv_at hl 3 rfl) ?_
  refine lv_imul hx hb dX1_show_6 ?_
  refine lv_iload hx hb dX1_show_7 (lv_at hl 4 rfl) ?_
  refine lv_iadd hx hb dX1_show_9 ?_
  refine lv_iload hx hb dX1_show_10 (lv_at hl 5 rfl) ?_
  have h12 := hw.1
  have hw := hw.2
  refine va_iast hx hb hK hP hD hS 2 0 rfl rfl h12 dX1_show_12 (fun H locs hP hD hS => ?_)
  have hP : va_P D vwCl (w_X1_show cI cJ cZ cO aA aK aK_strengths aK_kinds aK_marks aK_faces aK_bars aK_showing aK_showingRight aK_barring nA arr K_warm K_count K_seeds K_blocks K_rivals (upd K_faces (((4 : Int32) * p3) + p4).toNatClampNeg p5)) H := hP
  have hD : va_D A (w_X1_show cI cJ cZ cO aA aK aK_strengths aK_kinds aK_marks aK_faces aK_bars aK_showing aK_showingRight aK_barring nA arr K_warm K_count K_seeds K_blocks K_rivals (upd K_faces (((4 : Int32) * p3) + p4).toNatClampNeg p5)) := hD
  obtain ⟨K_faces_12, e12⟩ : ∃ y : Nat → Int32, y = upd K_faces (((4 : Int32) * p3) + p4).toNatClampNeg p5 := ⟨_, rfl⟩
  rw [← e12] at hP hD
  have hw := hw K_faces_12 e12
  refine lv_iload hx hb dX1_show_13 (lv_at hl 5 rfl) ?_
  refine lv_if_eq (tgt := 34) hx hb dX1_show_15 (by decide) (fun c15 => ?_) (fun c15 => ?_)
  · have hw := hw.1 c15
    rw [hZ]
    exact cx_retv (arr, K_faces_12) hx hb hr hlocks hw hP hS dX1_show_34
  · have hw := hw.2 c15
    refine lv_aload_n hx hb dX1_show_18 rfl (lv_at hl 1 rfl) ?_
    refine lv_bipush (v := (51 : Int32)) hx hb dX1_show_19 kB_51 ?_
    refine lv_iload hx hb dX1_show_21 (lv_at hl 4 rfl) ?_
    refine lv_imul hx hb dX1_show_23 ?_
    refine lv_iload hx hb dX1_show_24 (lv_at hl 5 rfl) ?_
    refine lv_iadd hx hb dX1_show_26 ?_
    refine lv_dup2_11 hx hb dX1_show_27 rfl rfl ?_
    have h28 := hw.1
    have hw := hw.2
    refine va_lald hx hb hK hP 0 1 rfl rfl h28 dX1_show_28 ?_
    refine lv_topl (fun v28 e28 => ?_)
    have hw := hw v28 e28
    refine lv_lconst (v := (1 : Int64)) hx hb dX1_show_29 kL_1 ?_
    refine lv_iload_n hx hb dX1_show_30 rfl (lv_at hl 2 rfl) ?_
    refine lv_lshl hx hb dX1_show_31 rfl ?_
    refine lv_lor hx hb dX1_show_32 ?_
    have h33 := hw.1
    have hw := hw.2
    refine va_last hx hb hK hP hD hS 0 1 rfl rfl h33 dX1_show_33 (fun H locs hP hD hS => ?_)
    have hP : va_P D vwCl (w_X1_show cI cJ cZ cO aA aK aK_strengths aK_kinds aK_marks aK_faces aK_bars aK_showing aK_showingRight aK_barring nA (vp_updL arr (((51 : Int32) * p4) + p5).toNatClampNeg (v28 ||| ((1 : Int64) <<< (p2.toInt64 &&& 63)))) K_warm K_count K_seeds K_blocks K_rivals K_faces_12) H := hP
    have hD : va_D A (w_X1_show cI cJ cZ cO aA aK aK_strengths aK_kinds aK_marks aK_faces aK_bars aK_showing aK_showingRight aK_barring nA (vp_updL arr (((51 : Int32) * p4) + p5).toNatClampNeg (v28 ||| ((1 : Int64) <<< (p2.toInt64 &&& 63)))) K_warm K_count K_seeds K_blocks K_rivals K_faces_12) := hD
    obtain ⟨arr_33, e33⟩ : ∃ y : Nat → Int64, y = vp_updL arr (((51 : Int32) * p4) + p5).toNatClampNeg (v28 ||| ((1 : Int64) <<< (p2.toInt64 &&& 63))) := ⟨_, rfl⟩
    rw [← e33] at hP hD
    have hw := hw arr_33 e33
    rw [hZ]
    exact cx_retv (arr_33, K_faces_12) hx hb hr hlocks hw hP hS dX1_show_34
set_option maxRecDepth 100000 in
set_option maxHeartbeats 4000000 in
theorem c_X1_addPiece (l : Launch) (D : va_G) (cI cJ cZ cO : ClassId) (tS tT : Nat) (sz : Nat) (aK aK_strengths aK_kinds aK_marks aK_faces aK_bars aK_showing aK_showingRight aK_barring : Nat) (K_warm : Int32) (K_count : Int32) (K_seeds : Int64) (K_blocks : Int64) (K_rivals : Int64) (K_kinds : Nat → Int32) (K_marks : Nat → Int32) (K_faces : Nat → Int32) (K_bars : Nat → Int32) (K_showing : Nat → Int64) (K_showingRight : Nat → Int64) (K_barring : Nat → Int64) (p1 : Int32) (p2 : Int32) (p3 : Int32) (p4 : Int32) (p5 : Int32) (p6 : Int32) (Q : Int32 → (Int32) → (Nat → Int32) → (Nat → Int32) → (Nat → Int32) → (Nat → Int32) → (Nat → Int64) → (Nat → Int64) → (Nat → Int64) → (Int64) → (Int64) → (Int64) → Prop) (hw : wp_X1_addPiece K_count K_kinds K_marks K_faces K_bars K_showing K_showingRight K_barring K_seeds K_blocks K_rivals p1 p2 p3 p4 p5 p6 Q) : Met l yX1_addPiece wsX1_addPiece rm_X1_addPiece (va_Pc [.ref aK, .int p1, .int p2, .int p3, .int p4, .int p5, .int p6] (cx_B tS tT cI cJ cZ cO D sz (w_X1_addPiece cI cJ cZ cO aK aK_strengths aK_kinds aK_marks aK_faces aK_bars aK_showing aK_showingRight aK_barring K_warm K_count K_seeds K_blocks K_rivals K_kinds K_marks K_faces K_bars K_showing K_showingRight K_barring))) (va_Qi (fun (r : Int32) (u : (Int32) × (Nat → Int32) × (Nat → Int32) × (Nat → Int32) × (Nat → Int32) × (Nat → Int64) × (Nat → Int64) × (Nat → Int64) × (Int64) × (Int64) × (Int64)) => Q r u.1 u.2.1 u.2.2.1 u.2.2.2.1 u.2.2.2.2.1 u.2.2.2.2.2.1 u.2.2.2.2.2.2.1 u.2.2.2.2.2.2.2.1 u.2.2.2.2.2.2.2.2.1 u.2.2.2.2.2.2.2.2.2.1 u.2.2.2.2.2.2.2.2.2.2) (fun (u : (Int32) × (Nat → Int32) × (Nat → Int32) × (Nat → Int32) × (Nat → Int32) × (Nat → Int64) × (Nat → Int64) × (Nat → Int64) × (Int64) × (Int64) × (Int64)) t => va_P D vwCl (w_X1_addPiece cI cJ cZ cO aK aK_strengths aK_kinds aK_marks aK_faces aK_bars aK_showing aK_showingRight aK_barring K_warm u.1 u.2.2.2.2.2.2.2.2.1 u.2.2.2.2.2.2.2.2.2.1 u.2.2.2.2.2.2.2.2.2.2 u.2.1 u.2.2.1 u.2.2.2.1 u.2.2.2.2.1 u.2.2.2.2.2.1 u.2.2.2.2.2.2.1 u.2.2.2.2.2.2.2.1) t.heap) (va_A (w_X1_addPiece cI cJ cZ cO aK aK_strengths aK_kinds aK_marks aK_faces aK_bars aK_showing aK_showingRight aK_barring K_warm K_count K_seeds K_blocks K_rivals K_kinds K_marks K_faces K_bars K_showing K_showingRight K_barring) sz)) 0 0 (va_A (w_X1_addPiece cI cJ cZ cO aK aK_strengths aK_kinds aK_marks aK_faces aK_bars aK_showing aK_showingRight aK_barring K_warm K_count K_seeds K_blocks K_rivals K_kinds K_marks K_faces K_bars K_showing K_showingRight K_barring) sz) := by
  refine cx_met (cc := cX1_addPiece) (maxL := 9) (ret := (some .int)) (Qc := fun A => va_Qi (fun (r : Int32) (u : (Int32) × (Nat → Int32) × (Nat → Int32) × (Nat → Int32) × (Nat → Int32) × (Nat → Int64) × (Nat → Int64) × (Nat → Int64) × (Int64) × (Int64) × (Int64)) => Q r u.1 u.2.1 u.2.2.1 u.2.2.2.1 u.2.2.2.2.1 u.2.2.2.2.2.1 u.2.2.2.2.2.2.1 u.2.2.2.2.2.2.2.1 u.2.2.2.2.2.2.2.2.1 u.2.2.2.2.2.2.2.2.2.1 u.2.2.2.2.2.2.2.2.2.2) (fun (u : (Int32) × (Nat → Int32) × (Nat → Int32) × (Nat → Int32) × (Nat → Int32) × (Nat → Int64) × (Nat → Int64) × (Nat → Int64) × (Int64) × (Int64) × (Int64)) t => va_P D vwCl (w_X1_addPiece cI cJ cZ cO aK aK_strengths aK_kinds aK_marks aK_faces aK_bars aK_showing aK_showingRight aK_barring K_warm u.1 u.2.2.2.2.2.2.2.2.1 u.2.2.2.2.2.2.2.2.2.1 u.2.2.2.2.2.2.2.2.2.2 u.2.1 u.2.2.1 u.2.2.2.1 u.2.2.2.2.1 u.2.2.2.2.2.1 u.2.2.2.2.2.2.1 u.2.2.2.2.2.2.2.1) t.heap) A) (lv := [(0, .ref aK), (1, .int p1), (2, .int p2), (3, .int p3), (4, .int p4), (5, .int p5), (6, .int p6)]) (by decide) rfl (Nat.le_of_ble_eq_true rfl) rfl ?_
  intro p e s m args below meth c A Z hx hb hr hlocks hts hown hml hE hK hA hZ
  have hown : s.vm.findClass RX1 = some m.cls := hown
  have k_0 := hts (.fieldLink RX1 38 "GrowingTiles$Kit" "showingRight" "[J") (List.mem_of_getElem? (i := 5) (by decide +kernel))
  have k_1 := hts (.fieldLink RX1 34 "GrowingTiles$Kit" "showing" "[J") (List.mem_of_getElem? (i := 4) (by decide +kernel))
  have k_2 := hts (.fieldLink RX1 15 "GrowingTiles$Kit" "count" "I") (List.mem_of_getElem? (i := 1) (by decide +kernel))
  have k_3 := hts (.fieldLink RX1 22 "GrowingTiles$Kit" "kinds" "[I") (List.mem_of_getElem? (i := 2) (by decide +kernel))
  have k_4 := hts (.fieldLink RX1 25 "GrowingTiles$Kit" "marks" "[I") (List.mem_of_getElem? (i := 3) (by decide +kernel))
  have b_303 : ∀ (K_count : Int32) (K_kinds : Nat → Int32) (K_marks : Nat → Int32) (K_faces : Nat → Int32) (K_bars : Nat → Int32) (K_showing : Nat → Int64) (K_showingRight : Nat → Int64) (K_barring : Nat → Int64) (K_seeds : Int64) (K_blocks : Int64) (K_rivals : Int64) (x7 : Int32) (y2 : Int32) (y3 : Int32) (y4 : Int32) (y5 : Int32), wq_X1_addPiece_303  Q K_count K_kinds K_marks K_faces K_bars K_showing K_showingRight K_barring K_seeds K_blocks K_rivals x7 y2 y3 y4 y5 → ∀ (H : Heap) (locs : List Loc), va_P D vwCl (w_X1_addPiece cI cJ cZ cO aK aK_strengths aK_kinds aK_marks aK_faces aK_bars aK_showing aK_showingRight aK_barring K_warm K_count K_seeds K_blocks K_rivals K_kinds K_marks K_faces K_bars K_showing K_showingRight K_barring) H → va_D A (w_X1_addPiece cI cJ cZ cO aK aK_strengths aK_kinds aK_marks aK_faces aK_bars aK_showing aK_showingRight aK_barring K_warm K_count K_seeds K_blocks K_rivals K_kinds K_marks K_faces K_bars K_showing K_showingRight K_barring) → va_S A s.heap H locs → ∀ ls : Array Slot, lv_has ls 9 [(7, .int x7)] → W p l e rm_X1_addPiece s m args below meth c H locs 0 0 Z (F0 m 303 ls [.int y5, .int y4, .int y3, .int y2, .ref aK_showingRight, .ref aK]) := by
    intro K_count K_kinds K_marks K_faces K_bars K_showing K_showingRight K_barring K_seeds K_blocks K_rivals x7 y2 y3 y4 y5 hw H locs hP hD hS ls hl
    unfold wq_X1_addPiece_303 at hw
    refine cx_gov (va_runV (As := [.ref aK_showingRight, .int y2, .int y3, .int y4, .int y5]) (rest := []) ⟨hx, hb, hml, hown, hts⟩ (c_X1_show l D cI cJ cZ cO tS tT H.size aK_showingRight aK aK_strengths aK_kinds aK_marks aK_faces aK_bars aK_showing aK_showingRight aK_barring 204 K_showingRight K_warm K_count K_seeds K_blocks K_rivals K_faces y2 y3 y4 y5 _ hw) (cwV 5 hts gX1_addPiece_X1_show rfl rfl rfl pv_X1_show ⟨Nat.le_of_ble_eq_true rfl, Nat.le_of_ble_eq_true rfl⟩) (cx_preV (wc := w_X1_show cI cJ cZ cO aK_showingRight aK aK_strengths aK_kinds aK_marks aK_faces aK_bars aK_showing aK_showingRight aK_barring 204 K_showingRight K_warm K_count K_seeds K_blocks K_rivals K_faces) hE hK hP hD hS hA [6, 0, 3] rfl rfl (va_recv hK hP (ci := 1) (q0 := 0) rfl rfl)) rfl rfl hl.1 rfl (lv_room (Nat.le_of_ble_eq_true rfl)) dX1_addPiece_303 ⟨Nat.le_of_ble_eq_true rfl, Nat.le_of_ble_eq_true rfl⟩) (fun (u : (Nat → Int64) × (Nat → Int32)) => (w_X1_addPiece cI cJ cZ cO aK aK_strengths aK_kinds aK_marks aK_faces aK_bars aK_showing aK_showingRight aK_barring K_warm K_count K_seeds K_blocks K_rivals K_kinds K_marks u.2 K_bars K_showing u.1 K_barring)) [6, 0, 3] [1, 2, 4, 5, 7] (ads := [aK_showingRight, aK, aK_faces]) (wr := [(aK_kinds, .inl (cI, 40, .inl K_kinds)), (aK_marks, .inl (cI, 40, .inl K_marks)), (aK_bars, .inl (cI, 128, .inl K_bars)), (aK_showing, .inl (cJ, 204, .inr (.inl K_showing))), (aK_barring, .inl (cJ, 4, .inr (.inl K_barring)))]) rfl rfl (fun u => rfl) (fun u => rfl) rfl (fun u => rfl) rfl (fun u => rfl) rfl hP hD hS hA (fun u H locs hw hP hD hS => ?_)
    obtain ⟨K_showingRight_303, K_faces_303⟩ := u
    try dsimp only at hw
    have hP : va_P D vwCl (w_X1_addPiece cI cJ cZ cO aK aK_strengths aK_kinds aK_marks aK_faces aK_bars aK_showing aK_showingRight aK_barring K_warm K_count K_seeds K_blocks K_rivals K_kinds K_marks K_faces_303 K_bars K_showing K_showingRight_303 K_barring) H := hP
    have hD : va_D A (w_X1_addPiece cI cJ cZ cO aK aK_strengths aK_kinds aK_marks aK_faces aK_bars aK_showing aK_showingRight aK_barring K_warm K_count K_seeds K_blocks K_rivals K_kinds K_marks K_faces_303 K_bars K_showing K_showingRight_303 K_barring) := hD
    refine lv_iload hx hb dX1_addPiece_306 (lv_at hl 0 rfl) ?_
    rw [hZ]
    exact cx_reti (K_count, K_kinds, K_marks, K_faces_303, K_bars, K_showing, K_showingRight_303, K_barring, K_seeds, K_blocks, K_rivals) hx hb hr hlocks hw hP hS dX1_addPiece_308
  have b_271 : ∀ (K_count : Int32) (K_kinds : Nat → Int32) (K_marks : Nat → Int32) (K_faces : Nat → Int32) (K_bars : Nat → Int32) (K_showing : Nat → Int64) (K_showingRight : Nat → Int64) (K_barring : Nat → Int64) (K_seeds : Int64) (K_blocks : Int64) (K_rivals : Int64) (x6 : Int32) (x7 : Int32) (x8 : Int32) (y2 : Int32) (y3 : Int32) (y4 : Int32) (y5 : Int32), wq_X1_addPiece_271  Q K_count K_kinds K_marks K_faces K_bars K_showing K_showingRight K_barring K_seeds K_blocks K_rivals x6 x7 x8 y2 y3 y4 y5 → ∀ (H : Heap) (locs : List Loc), va_P D vwCl (w_X1_addPiece cI cJ cZ cO aK aK_strengths aK_kinds aK_marks aK_faces aK_bars aK_showing aK_showingRight aK_barring K_warm K_count K_seeds K_blocks K_rivals K_kinds K_marks K_faces K_bars K_showing K_showingRight K_barring) H → va_D A (w_X1_addPiece cI cJ cZ cO aK aK_strengths aK_kinds aK_marks aK_faces aK_bars aK_showing aK_showingRight aK_barring K_warm K_count K_seeds K_blocks K_rivals K_kinds K_marks K_faces K_bars K_showing K_showingRight K_barring) → va_S A s.heap H locs → ∀ ls : Array Slot, lv_has ls 9 [(0, .ref aK), (6, .int x6), (7, .int x7), (8, .int x8)] → W p l e rm_X1_addPiece s m args below meth c H locs 0 0 Z (F0 m 271 ls [.int y5, .int y4, .int y3, .int y2, .ref aK_showingRight, .ref aK]) := by
    intro K_count K_kinds K_marks K_faces K_bars K_showing K_showingRight K_barring K_seeds K_blocks K_rivals x6 x7 x8 y2 y3 y4 y5 hw H locs hP hD hS ls hl
    unfold wq_X1_addPiece_271 at hw
    refine cx_gov (va_runV (As := [.ref aK_showingRight, .int y2, .int y3, .int y4, .int y5]) (rest := []) ⟨hx, hb, hml, hown, hts⟩ (c_X1_show l D cI cJ cZ cO tS tT H.size aK_showingRight aK aK_strengths aK_kinds aK_marks aK_faces aK_bars aK_showing aK_showingRight aK_barring 204 K_showingRight K_warm K_count K_seeds K_blocks K_rivals K_faces y2 y3 y4 y5 _ hw) (cwV 5 hts gX1_addPiece_X1_show rfl rfl rfl pv_X1_show ⟨Nat.le_of_ble_eq_true rfl, Nat.le_of_ble_eq_true rfl⟩) (cx_preV (wc := w_X1_show cI cJ cZ cO aK_showingRight aK aK_strengths aK_kinds aK_marks aK_faces aK_bars aK_showing aK_showingRight aK_barring 204 K_showingRight K_warm K_count K_seeds K_blocks K_rivals K_faces) hE hK hP hD hS hA [6, 0, 3] rfl rfl (va_recv hK hP (ci := 1) (q0 := 0) rfl rfl)) rfl rfl hl.1 rfl (lv_room (Nat.le_of_ble_eq_true rfl)) dX1_addPiece_271 ⟨Nat.le_of_ble_eq_true rfl, Nat.le_of_ble_eq_true rfl⟩) (fun (u : (Nat → Int64) × (Nat → Int32)) => (w_X1_addPiece cI cJ cZ cO aK aK_strengths aK_kinds aK_marks aK_faces aK_bars aK_showing aK_showingRight aK_barring K_warm K_count K_seeds K_blocks K_rivals K_kinds K_marks u.2 K_bars K_showing u.1 K_barring)) [6, 0, 3] [1, 2, 4, 5, 7] (ads := [aK_showingRight, aK, aK_faces]) (wr := [(aK_kinds, .inl (cI, 40, .inl K_kinds)), (aK_marks, .inl (cI, 40, .inl K_marks)), (aK_bars, .inl (cI, 128, .inl K_bars)), (aK_showing, .inl (cJ, 204, .inr (.inl K_showing))), (aK_barring, .inl (cJ, 4, .inr (.inl K_barring)))]) rfl rfl (fun u => rfl) (fun u => rfl) rfl (fun u => rfl) rfl (fun u => rfl) rfl hP hD hS hA (fun u H locs hw hP hD hS => ?_)
    obtain ⟨K_showingRight_271, K_faces_271⟩ := u
    try dsimp only at hw
    have hP : va_P D vwCl (w_X1_addPiece cI cJ cZ cO aK aK_strengths aK_kinds aK_marks aK_faces aK_bars aK_showing aK_showingRight aK_barring K_warm K_count K_seeds K_blocks K_rivals K_kinds K_marks K_faces_271 K_bars K_showing K_showingRight_271 K_barring) H := hP
    have hD : va_D A (w_X1_addPiece cI cJ cZ cO aK aK_strengths aK_kinds aK_marks aK_faces aK_bars aK_showing aK_showingRight aK_barring K_warm K_count K_seeds K_blocks K_rivals K_kinds K_marks K_faces_271 K_bars K_showing K_showingRight_271 K_barring) := hD
    refine lv_aload_n hx hb dX1_addPiece_274 rfl (lv_at hl 0 rfl) ?_
    refine lv_aload_n hx hb dX1_addPiece_275 rfl (lv_at hl 0 rfl) ?_
    refine va_get (D := D) (ci := 1) (v := .ref aK_showingRight) (C := RX1) (T := TX1) (N := 13) hx hb hts in_X1_addPiece_X1 hown hK hP 0 rfl rfl 8 (by decide) k_0 (fun _ h9 => h9) rfl dX1_addPiece_276 ?_
    refine lv_iload hx hb dX1_addPiece_279 (lv_at hl 2 rfl) ?_
    refine lv_iconst (v := (1 : Int32)) hx hb dX1_addPiece_281 kI_1 ?_
    refine lv_iload hx hb dX1_addPiece_282 (lv_at hl 2 rfl) ?_
    refine lv_iadd hx hb dX1_addPiece_284 ?_
    refine lv_bipush (v := (64 : Int32)) hx hb dX1_addPiece_285 kB_64 ?_
    refine lv_iadd hx hb dX1_addPiece_287 ?_
    refine lv_iconst (v := (2 : Int32)) hx hb dX1_addPiece_288 kI_2 ?_
    refine lv_iload hx hb dX1_addPiece_289 (lv_at hl 3 rfl) ?_
    refine lv_if_eq (tgt := 302) hx hb dX1_addPiece_291 (by decide) (fun c291 => ?_) (fun c291 => ?_)
    · have hw := hw.1 c291
      refine lv_iconst (v := (0 : Int32)) hx hb dX1_addPiece_302 kI_0 ?_
      exact b_303 K_count K_kinds K_marks K_faces_271 K_bars K_showing K_showingRight_271 K_barring K_seeds K_blocks K_rivals x7 x7 (((1 : Int32) + x7) + (64 : Int32)) (2 : Int32) (0 : Int32) hw H locs hP hD hS ls (lv_sub hl [2] rfl)
    · have hw := hw.2 c291
      refine lv_iload hx hb dX1_addPiece_294 (lv_at hl 1 rfl) ?_
      refine lv_bipush (v := (64 : Int32)) hx hb dX1_addPiece_296 kB_64 ?_
      refine lv_idiv hx hb dX1_addPiece_298 (by decide) ?_
      refine lv_goto (tgt := 303) hx hb dX1_addPiece_299 (by decide) ?_
      exact b_303 K_count K_kinds K_marks K_faces_271 K_bars K_showing K_showingRight_271 K_barring K_seeds K_blocks K_rivals x7 x7 (((1 : Int32) + x7) + (64 : Int32)) (2 : Int32) (x6 / (64 : Int32)) hw H locs hP hD hS ls (lv_sub hl [2] rfl)
  have b_243 : ∀ (K_count : Int32) (K_kinds : Nat → Int32) (K_marks : Nat → Int32) (K_faces : Nat → Int32) (K_bars : Nat → Int32) (K_showing : Nat → Int64) (K_showingRight : Nat → Int64) (K_barring : Nat → Int64) (K_seeds : Int64) (K_blocks : Int64) (K_rivals : Int64) (x3 : Int32) (x6 : Int32) (x7 : Int32) (x8 : Int32) (y2 : Int32) (y3 : Int32) (y4 : Int32) (y5 : Int32), wq_X1_addPiece_243  Q K_count K_kinds K_marks K_faces K_bars K_showing K_showingRight K_barring K_seeds K_blocks K_rivals x3 x6 x7 x8 y2 y3 y4 y5 → ∀ (H : Heap) (locs : List Loc), va_P D vwCl (w_X1_addPiece cI cJ cZ cO aK aK_strengths aK_kinds aK_marks aK_faces aK_bars aK_showing aK_showingRight aK_barring K_warm K_count K_seeds K_blocks K_rivals K_kinds K_marks K_faces K_bars K_showing K_showingRight K_barring) H → va_D A (w_X1_addPiece cI cJ cZ cO aK aK_strengths aK_kinds aK_marks aK_faces aK_bars aK_showing aK_showingRight aK_barring K_warm K_count K_seeds K_blocks K_rivals K_kinds K_marks K_faces K_bars K_showing K_showingRight K_barring) → va_S A s.heap H locs → ∀ ls : Array Slot, lv_has ls 9 [(0, .ref aK), (3, .int x3), (6, .int x6), (7, .int x7), (8, .int x8)] → W p l e rm_X1_addPiece s m args below meth c H locs 0 0 Z (F0 m 243 ls [.int y5, .int y4, .int y3, .int y2, .ref aK_showingRight, .ref aK]) := by
    intro K_count K_kinds K_marks K_faces K_bars K_showing K_showingRight K_barring K_seeds K_blocks K_rivals x3 x6 x7 x8 y2 y3 y4 y5 hw H locs hP hD hS ls hl
    unfold wq_X1_addPiece_243 at hw
    refine cx_gov (va_runV (As := [.ref aK_showingRight, .int y2, .int y3, .int y4, .int y5]) (rest := []) ⟨hx, hb, hml, hown, hts⟩ (c_X1_show l D cI cJ cZ cO tS tT H.size aK_showingRight aK aK_strengths aK_kinds aK_marks aK_faces aK_bars aK_showing aK_showingRight aK_barring 204 K_showingRight K_warm K_count K_seeds K_blocks K_rivals K_faces y2 y3 y4 y5 _ hw) (cwV 5 hts gX1_addPiece_X1_show rfl rfl rfl pv_X1_show ⟨Nat.le_of_ble_eq_true rfl, Nat.le_of_ble_eq_true rfl⟩) (cx_preV (wc := w_X1_show cI cJ cZ cO aK_showingRight aK aK_strengths aK_kinds aK_marks aK_faces aK_bars aK_showing aK_showingRight aK_barring 204 K_showingRight K_warm K_count K_seeds K_blocks K_rivals K_faces) hE hK hP hD hS hA [6, 0, 3] rfl rfl (va_recv hK hP (ci := 1) (q0 := 0) rfl rfl)) rfl rfl hl.1 rfl (lv_room (Nat.le_of_ble_eq_true rfl)) dX1_addPiece_243 ⟨Nat.le_of_ble_eq_true rfl, Nat.le_of_ble_eq_true rfl⟩) (fun (u : (Nat → Int64) × (Nat → Int32)) => (w_X1_addPiece cI cJ cZ cO aK aK_strengths aK_kinds aK_marks aK_faces aK_bars aK_showing aK_showingRight aK_barring K_warm K_count K_seeds K_blocks K_rivals K_kinds K_marks u.2 K_bars K_showing u.1 K_barring)) [6, 0, 3] [1, 2, 4, 5, 7] (ads := [aK_showingRight, aK, aK_faces]) (wr := [(aK_kinds, .inl (cI, 40, .inl K_kinds)), (aK_marks, .inl (cI, 40, .inl K_marks)), (aK_bars, .inl (cI, 128, .inl K_bars)), (aK_showing, .inl (cJ, 204, .inr (.inl K_showing))), (aK_barring, .inl (cJ, 4, .inr (.inl K_barring)))]) rfl rfl (fun u => rfl) (fun u => rfl) rfl (fun u => rfl) rfl (fun u => rfl) rfl hP hD hS hA (fun u H locs hw hP hD hS => ?_)
    obtain ⟨K_showingRight_243, K_faces_243⟩ := u
    try dsimp only at hw
    have hP : va_P D vwCl (w_X1_addPiece cI cJ cZ cO aK aK_strengths aK_kinds aK_marks aK_faces aK_bars aK_showing aK_showingRight aK_barring K_warm K_count K_seeds K_blocks K_rivals K_kinds K_marks K_faces_243 K_bars K_showing K_showingRight_243 K_barring) H := hP
    have hD : va_D A (w_X1_addPiece cI cJ cZ cO aK aK_strengths aK_kinds aK_marks aK_faces aK_bars aK_showing aK_showingRight aK_barring K_warm K_count K_seeds K_blocks K_rivals K_kinds K_marks K_faces_243 K_bars K_showing K_showingRight_243 K_barring) := hD
    refine lv_aload_n hx hb dX1_addPiece_246 rfl (lv_at hl 0 rfl) ?_
    refine lv_aload_n hx hb dX1_addPiece_247 rfl (lv_at hl 0 rfl) ?_
    refine va_get (D := D) (ci := 1) (v := .ref aK_showingRight) (C := RX1) (T := TX1) (N := 13) hx hb hts in_X1_addPiece_X1 hown hK hP 0 rfl rfl 8 (by decide) k_0 (fun _ h9 => h9) rfl dX1_addPiece_248 ?_
    refine lv_iload hx hb dX1_addPiece_251 (lv_at hl 3 rfl) ?_
    refine lv_iconst (v := (1 : Int32)) hx hb dX1_addPiece_253 kI_1 ?_
    refine lv_iload hx hb dX1_addPiece_254 (lv_at hl 3 rfl) ?_
    refine lv_iadd hx hb dX1_addPiece_256 ?_
    refine lv_bipush (v := (64 : Int32)) hx hb dX1_addPiece_257 kB_64 ?_
    refine lv_iadd hx hb dX1_addPiece_259 ?_
    refine lv_iconst (v := (1 : Int32)) hx hb dX1_addPiece_260 kI_1 ?_
    refine lv_iload hx hb dX1_addPiece_261 (lv_at hl 4 rfl) ?_
    refine lv_if_eq (tgt := 270) hx hb dX1_addPiece_263 (by decide) (fun c263 => ?_) (fun c263 => ?_)
    · have hw := hw.1 c263
      refine lv_iconst (v := (0 : Int32)) hx hb dX1_addPiece_270 kI_0 ?_
      exact b_271 K_count K_kinds K_marks K_faces_243 K_bars K_showing K_showingRight_243 K_barring K_seeds K_blocks K_rivals x6 x7 x8 x7 (((1 : Int32) + x7) + (64 : Int32)) (1 : Int32) (0 : Int32) hw H locs hP hD hS ls (lv_sub hl [0, 2, 3, 4] rfl)
    · have hw := hw.2 c263
      refine lv_iload_n hx hb dX1_addPiece_266 rfl (lv_at hl 1 rfl) ?_
      refine lv_goto (tgt := 271) hx hb dX1_addPiece_267 (by decide) ?_
      exact b_271 K_count K_kinds K_marks K_faces_243 K_bars K_showing K_showingRight_243 K_barring K_seeds K_blocks K_rivals x6 x7 x8 x7 (((1 : Int32) + x7) + (64 : Int32)) (1 : Int32) x3 hw H locs hP hD hS ls (lv_sub hl [0, 2, 3, 4] rfl)
  have b_177 : ∀ (K_count : Int32) (K_kinds : Nat → Int32) (K_marks : Nat → Int32) (K_faces : Nat → Int32) (K_bars : Nat → Int32) (K_showing : Nat → Int64) (K_showingRight : Nat → Int64) (K_barring : Nat → Int64) (K_seeds : Int64) (K_blocks : Int64) (K_rivals : Int64) (x3 : Int32) (x4 : Int32) (x5 : Int32) (x6 : Int32) (x7 : Int32) (x8 : Int32) (y2 : Int32) (y3 : Int32) (y4 : Int32) (y5 : Int32), wq_X1_addPiece_177  Q K_count K_kinds K_marks K_faces K_bars K_showing K_showingRight K_barring K_seeds K_blocks K_rivals x3 x4 x5 x6 x7 x8 y2 y3 y4 y5 → ∀ (H : Heap) (locs : List Loc), va_P D vwCl (w_X1_addPiece cI cJ cZ cO aK aK_strengths aK_kinds aK_marks aK_faces aK_bars aK_showing aK_showingRight aK_barring K_warm K_count K_seeds K_blocks K_rivals K_kinds K_marks K_faces K_bars K_showing K_showingRight K_barring) H → va_D A (w_X1_addPiece cI cJ cZ cO aK aK_strengths aK_kinds aK_marks aK_faces aK_bars aK_showing aK_showingRight aK_barring K_warm K_count K_seeds K_blocks K_rivals K_kinds K_marks K_faces K_bars K_showing K_showingRight K_barring) → va_S A s.heap H locs → ∀ ls : Array Slot, lv_has ls 9 [(0, .ref aK), (3, .int x3), (4, .int x4), (5, .int x5), (6, .int x6), (7, .int x7), (8, .int x8)] → W p l e rm_X1_addPiece s m args below meth c H locs 0 0 Z (F0 m 177 ls [.int y5, .int y4, .int y3, .int y2, .ref aK_showing, .ref aK]) := by
    intro K_count K_kinds K_marks K_faces K_bars K_showing K_showingRight K_barring K_seeds K_blocks K_rivals x3 x4 x5 x6 x7 x8 y2 y3 y4 y5 hw H locs hP hD hS ls hl
    unfold wq_X1_addPiece_177 at hw
    refine cx_gov (va_runV (As := [.ref aK_showing, .int y2, .int y3, .int y4, .int y5]) (rest := []) ⟨hx, hb, hml, hown, hts⟩ (c_X1_show l D cI cJ cZ cO tS tT H.size aK_showing aK aK_strengths aK_kinds aK_marks aK_faces aK_bars aK_showing aK_showingRight aK_barring 204 K_showing K_warm K_count K_seeds K_blocks K_rivals K_faces y2 y3 y4 y5 _ hw) (cwV 5 hts gX1_addPiece_X1_show rfl rfl rfl pv_X1_show ⟨Nat.le_of_ble_eq_true rfl, Nat.le_of_ble_eq_true rfl⟩) (cx_preV (wc := w_X1_show cI cJ cZ cO aK_showing aK aK_strengths aK_kinds aK_marks aK_faces aK_bars aK_showing aK_showingRight aK_barring 204 K_showing K_warm K_count K_seeds K_blocks K_rivals K_faces) hE hK hP hD hS hA [5, 0, 3] rfl rfl (va_recv hK hP (ci := 1) (q0 := 0) rfl rfl)) rfl rfl hl.1 rfl (lv_room (Nat.le_of_ble_eq_true rfl)) dX1_addPiece_177 ⟨Nat.le_of_ble_eq_true rfl, Nat.le_of_ble_eq_true rfl⟩) (fun (u : (Nat → Int64) × (Nat → Int32)) => (w_X1_addPiece cI cJ cZ cO aK aK_strengths aK_kinds aK_marks aK_faces aK_bars aK_showing aK_showingRight aK_barring K_warm K_count K_seeds K_blocks K_rivals K_kinds K_marks u.2 K_bars u.1 K_showingRight K_barring)) [5, 0, 3] [1, 2, 4, 6, 7] (ads := [aK_showing, aK, aK_faces]) (wr := [(aK_kinds, .inl (cI, 40, .inl K_kinds)), (aK_marks, .inl (cI, 40, .inl K_marks)), (aK_bars, .inl (cI, 128, .inl K_bars)), (aK_showingRight, .inl (cJ, 204, .inr (.inl K_showingRight))), (aK_barring, .inl (cJ, 4, .inr (.inl K_barring)))]) rfl rfl (fun u => rfl) (fun u => rfl) rfl (fun u => rfl) rfl (fun u => rfl) rfl hP hD hS hA (fun u H locs hw hP hD hS => ?_)
    obtain ⟨K_showing_177, K_faces_177⟩ := u
    try dsimp only at hw
    have hP : va_P D vwCl (w_X1_addPiece cI cJ cZ cO aK aK_strengths aK_kinds aK_marks aK_faces aK_bars aK_showing aK_showingRight aK_barring K_warm K_count K_seeds K_blocks K_rivals K_kinds K_marks K_faces_177 K_bars K_showing_177 K_showingRight K_barring) H := hP
    have hD : va_D A (w_X1_addPiece cI cJ cZ cO aK aK_strengths aK_kinds aK_marks aK_faces aK_bars aK_showing aK_showingRight aK_barring K_warm K_count K_seeds K_blocks K_rivals K_kinds K_marks K_faces_177 K_bars K_showing_177 K_showingRight K_barring) := hD
    refine lv_aload_n hx hb dX1_addPiece_180 rfl (lv_at hl 0 rfl) ?_
    refine lv_aload_n hx hb dX1_addPiece_181 rfl (lv_at hl 0 rfl) ?_
    refine va_get (D := D) (ci := 1) (v := .ref aK_showing) (C := RX1) (T := TX1) (N := 13) hx hb hts in_X1_addPiece_X1 hown hK hP 0 rfl rfl 7 (by decide) k_1 (fun _ h9 => h9) rfl dX1_addPiece_182 ?_
    refine lv_iload hx hb dX1_addPiece_185 (lv_at hl 5 rfl) ?_
    refine lv_iconst (v := (1 : Int32)) hx hb dX1_addPiece_187 kI_1 ?_
    refine lv_iload hx hb dX1_addPiece_188 (lv_at hl 5 rfl) ?_
    refine lv_iadd hx hb dX1_addPiece_190 ?_
    refine lv_iconst (v := (2 : Int32)) hx hb dX1_addPiece_191 kI_2 ?_
    refine lv_iload hx hb dX1_addPiece_192 (lv_at hl 2 rfl) ?_
    refine cx_gov (va_runV (As := [.ref aK_showing, .int x7, .int ((1 : Int32) + x7), .int (2 : Int32), .int x4]) (rest := []) ⟨hx, hb, hml, hown, hts⟩ (c_X1_show l D cI cJ cZ cO tS tT H.size aK_showing aK aK_strengths aK_kinds aK_marks aK_faces aK_bars aK_showing aK_showingRight aK_barring 204 K_showing_177 K_warm K_count K_seeds K_blocks K_rivals K_faces_177 x7 ((1 : Int32) + x7) (2 : Int32) x4 _ hw) (cwV 5 hts gX1_addPiece_X1_show rfl rfl rfl pv_X1_show ⟨Nat.le_of_ble_eq_true rfl, Nat.le_of_ble_eq_true rfl⟩) (cx_preV (wc := w_X1_show cI cJ cZ cO aK_showing aK aK_strengths aK_kinds aK_marks aK_faces aK_bars aK_showing aK_showingRight aK_barring 204 K_showing_177 K_warm K_count K_seeds K_blocks K_rivals K_faces_177) hE hK hP hD hS hA [5, 0, 3] rfl rfl (va_recv hK hP (ci := 1) (q0 := 0) rfl rfl)) rfl rfl hl.1 rfl (lv_room (Nat.le_of_ble_eq_true rfl)) dX1_addPiece_194 ⟨Nat.le_of_ble_eq_true rfl, Nat.le_of_ble_eq_true rfl⟩) (fun (u : (Nat → Int64) × (Nat → Int32)) => (w_X1_addPiece cI cJ cZ cO aK aK_strengths aK_kinds aK_marks aK_faces aK_bars aK_showing aK_showingRight aK_barring K_warm K_count K_seeds K_blocks K_rivals K_kinds K_marks u.2 K_bars u.1 K_showingRight K_barring)) [5, 0, 3] [1, 2, 4, 6, 7] (ads := [aK_showing, aK, aK_faces]) (wr := [(aK_kinds, .inl (cI, 40, .inl K_kinds)), (aK_marks, .inl (cI, 40, .inl K_marks)), (aK_bars, .inl (cI, 128, .inl K_bars)), (aK_showingRight, .inl (cJ, 204, .inr (.inl K_showingRight))), (aK_barring, .inl (cJ, 4, .inr (.inl K_barring)))]) rfl rfl (fun u => rfl) (fun u => rfl) rfl (fun u => rfl) rfl (fun u => rfl) rfl hP hD hS hA (fun u H locs hw hP hD hS => ?_)
    obtain ⟨K_showing_194, K_faces_194⟩ := u
    try dsimp only at hw
    have hP : va_P D vwCl (w_X1_addPiece cI cJ cZ cO aK aK_strengths aK_kinds aK_marks aK_faces aK_bars aK_showing aK_showingRight aK_barring K_warm K_count K_seeds K_blocks K_rivals K_kinds K_marks K_faces_194 K_bars K_showing_194 K_showingRight K_barring) H := hP
    have hD : va_D A (w_X1_addPiece cI cJ cZ cO aK aK_strengths aK_kinds aK_marks aK_faces aK_bars aK_showing aK_showingRight aK_barring K_warm K_count K_seeds K_blocks K_rivals K_kinds K_marks K_faces_194 K_bars K_showing_194 K_showingRight K_barring) := hD
    refine lv_aload_n hx hb dX1_addPiece_197 rfl (lv_at hl 0 rfl) ?_
    refine lv_aload_n hx hb dX1_addPiece_198 rfl (lv_at hl 0 rfl) ?_
    refine va_get (D := D) (ci := 1) (v := .ref aK_showing) (C := RX1) (T := TX1) (N := 13) hx hb hts in_X1_addPiece_X1 hown hK hP 0 rfl rfl 7 (by decide) k_1 (fun _ h9 => h9) rfl dX1_addPiece_199 ?_
    refine lv_iload hx hb dX1_addPiece_202 (lv_at hl 5 rfl) ?_
    refine lv_iconst (v := (1 : Int32)) hx hb dX1_addPiece_204 kI_1 ?_
    refine lv_iload hx hb dX1_addPiece_205 (lv_at hl 5 rfl) ?_
    refine lv_iadd hx hb dX1_addPiece_207 ?_
    refine lv_iconst (v := (3 : Int32)) hx hb dX1_addPiece_208 kI_3 ?_
    refine lv_iload hx hb dX1_addPiece_209 (lv_at hl 3 rfl) ?_
    refine cx_gov (va_runV (As := [.ref aK_showing, .int x7, .int ((1 : Int32) + x7), .int (3 : Int32), .int x5]) (rest := []) ⟨hx, hb, hml, hown, hts⟩ (c_X1_show l D cI cJ cZ cO tS tT H.size aK_showing aK aK_strengths aK_kinds aK_marks aK_faces aK_bars aK_showing aK_showingRight aK_barring 204 K_showing_194 K_warm K_count K_seeds K_blocks K_rivals K_faces_194 x7 ((1 : Int32) + x7) (3 : Int32) x5 _ hw) (cwV 5 hts gX1_addPiece_X1_show rfl rfl rfl pv_X1_show ⟨Nat.le_of_ble_eq_true rfl, Nat.le_of_ble_eq_true rfl⟩) (cx_preV (wc := w_X1_show cI cJ cZ cO aK_showing aK aK_strengths aK_kinds aK_marks aK_faces aK_bars aK_showing aK_showingRight aK_barring 204 K_showing_194 K_warm K_count K_seeds K_blocks K_rivals K_faces_194) hE hK hP hD hS hA [5, 0, 3] rfl rfl (va_recv hK hP (ci := 1) (q0 := 0) rfl rfl)) rfl rfl hl.1 rfl (lv_room (Nat.le_of_ble_eq_true rfl)) dX1_addPiece_211 ⟨Nat.le_of_ble_eq_true rfl, Nat.le_of_ble_eq_true rfl⟩) (fun (u : (Nat → Int64) × (Nat → Int32)) => (w_X1_addPiece cI cJ cZ cO aK aK_strengths aK_kinds aK_marks aK_faces aK_bars aK_showing aK_showingRight aK_barring K_warm K_count K_seeds K_blocks K_rivals K_kinds K_marks u.2 K_bars u.1 K_showingRight K_barring)) [5, 0, 3] [1, 2, 4, 6, 7] (ads := [aK_showing, aK, aK_faces]) (wr := [(aK_kinds, .inl (cI, 40, .inl K_kinds)), (aK_marks, .inl (cI, 40, .inl K_marks)), (aK_bars, .inl (cI, 128, .inl K_bars)), (aK_showingRight, .inl (cJ, 204, .inr (.inl K_showingRight))), (aK_barring, .inl (cJ, 4, .inr (.inl K_barring)))]) rfl rfl (fun u => rfl) (fun u => rfl) rfl (fun u => rfl) rfl (fun u => rfl) rfl hP hD hS hA (fun u H locs hw hP hD hS => ?_)
    obtain ⟨K_showing_211, K_faces_211⟩ := u
    try dsimp only at hw
    have hP : va_P D vwCl (w_X1_addPiece cI cJ cZ cO aK aK_strengths aK_kinds aK_marks aK_faces aK_bars aK_showing aK_showingRight aK_barring K_warm K_count K_seeds K_blocks K_rivals K_kinds K_marks K_faces_211 K_bars K_showing_211 K_showingRight K_barring) H := hP
    have hD : va_D A (w_X1_addPiece cI cJ cZ cO aK aK_strengths aK_kinds aK_marks aK_faces aK_bars aK_showing aK_showingRight aK_barring K_warm K_count K_seeds K_blocks K_rivals K_kinds K_marks K_faces_211 K_bars K_showing_211 K_showingRight K_barring) := hD
    refine lv_aload_n hx hb dX1_addPiece_214 rfl (lv_at hl 0 rfl) ?_
    refine lv_aload_n hx hb dX1_addPiece_215 rfl (lv_at hl 0 rfl) ?_
    refine va_get (D := D) (ci := 1) (v := .ref aK_showingRight) (C := RX1) (T := TX1) (N := 13) hx hb hts in_X1_addPiece_X1 hown hK hP 0 rfl rfl 8 (by decide) k_0 (fun _ h9 => h9) rfl dX1_addPiece_216 ?_
    refine lv_iload hx hb dX1_addPiece_219 (lv_at hl 5 rfl) ?_
    refine lv_iconst (v := (1 : Int32)) hx hb dX1_addPiece_221 kI_1 ?_
    refine lv_iload hx hb dX1_addPiece_222 (lv_at hl 5 rfl) ?_
    refine lv_iadd hx hb dX1_addPiece_224 ?_
    refine lv_bipush (v := (64 : Int32)) hx hb dX1_addPiece_225 kB_64 ?_
    refine lv_iadd hx hb dX1_addPiece_227 ?_
    refine lv_iconst (v := (0 : Int32)) hx hb dX1_addPiece_228 kI_0 ?_
    refine lv_iload hx hb dX1_addPiece_229 (lv_at hl 6 rfl) ?_
    refine lv_if_eq (tgt := 242) hx hb dX1_addPiece_231 (by decide) (fun c231 => ?_) (fun c231 => ?_)
    · have hw := hw.1 c231
      refine lv_iconst (v := (0 : Int32)) hx hb dX1_addPiece_242 kI_0 ?_
      exact b_243 K_count K_kinds K_marks K_faces_211 K_bars K_showing_211 K_showingRight K_barring K_seeds K_blocks K_rivals x3 x6 x7 x8 x7 (((1 : Int32) + x7) + (64 : Int32)) (0 : Int32) (0 : Int32) hw H locs hP hD hS ls (lv_sub hl [0, 1, 4, 5, 6] rfl)
    · have hw := hw.2 c231
      refine lv_iload hx hb dX1_addPiece_234 (lv_at hl 4 rfl) ?_
      refine lv_bipush (v := (64 : Int32)) hx hb dX1_addPiece_236 kB_64 ?_
      refine lv_irem hx hb dX1_addPiece_238 (by decide) ?_
      refine lv_goto (tgt := 243) hx hb dX1_addPiece_239 (by decide) ?_
      exact b_243 K_count K_kinds K_marks K_faces_211 K_bars K_showing_211 K_showingRight K_barring K_seeds K_blocks K_rivals x3 x6 x7 x8 x7 (((1 : Int32) + x7) + (64 : Int32)) (0 : Int32) (x6 - x6 / (64 : Int32) * (64 : Int32)) hw H locs hP hD hS ls (lv_sub hl [0, 1, 4, 5, 6] rfl)
  have b_137 : ∀ (K_count : Int32) (K_kinds : Nat → Int32) (K_marks : Nat → Int32) (K_faces : Nat → Int32) (K_bars : Nat → Int32) (K_showing : Nat → Int64) (K_showingRight : Nat → Int64) (K_barring : Nat → Int64) (K_seeds : Int64) (K_blocks : Int64) (K_rivals : Int64) (x2 : Int32) (x3 : Int32) (x4 : Int32) (x5 : Int32) (x6 : Int32) (x7 : Int32) (y0 : Int32), wq_X1_addPiece_137  Q K_count K_kinds K_marks K_faces K_bars K_showing K_showingRight K_barring K_seeds K_blocks K_rivals x2 x3 x4 x5 x6 x7 y0 → ∀ (H : Heap) (locs : List Loc), va_P D vwCl (w_X1_addPiece cI cJ cZ cO aK aK_strengths aK_kinds aK_marks aK_faces aK_bars aK_showing aK_showingRight aK_barring K_warm K_count K_seeds K_blocks K_rivals K_kinds K_marks K_faces K_bars K_showing K_showingRight K_barring) H → va_D A (w_X1_addPiece cI cJ cZ cO aK aK_strengths aK_kinds aK_marks aK_faces aK_bars aK_showing aK_showingRight aK_barring K_warm K_count K_seeds K_blocks K_rivals K_kinds K_marks K_faces K_bars K_showing K_showingRight K_barring) → va_S A s.heap H locs → ∀ ls : Array Slot, lv_has ls 9 [(0, .ref aK), (2, .int x2), (3, .int x3), (4, .int x4), (5, .int x5), (6, .int x6), (7, .int x7)] → W p l e rm_X1_addPiece s m args below meth c H locs 0 0 Z (F0 m 137 ls [.int y0]) := by
    intro K_count K_kinds K_marks K_faces K_bars K_showing K_showingRight K_barring K_seeds K_blocks K_rivals x2 x3 x4 x5 x6 x7 y0 hw H locs hP hD hS ls hl
    unfold wq_X1_addPiece_137 at hw
    refine lv_istore (lv' := [(8, .int y0), (0, .ref aK), (2, .int x2), (3, .int x3), (4, .int x4), (5, .int x5), (6, .int x6), (7, .int x7)]) hx hb dX1_addPiece_137 hl (by decide) rfl (fun ls hl => ?_)
    refine lv_aload_n hx hb dX1_addPiece_139 rfl (lv_at hl 1 rfl) ?_
    refine lv_aload_n hx hb dX1_addPiece_140 rfl (lv_at hl 1 rfl) ?_
    refine va_get (D := D) (ci := 1) (v := .ref aK_showing) (C := RX1) (T := TX1) (N := 13) hx hb hts in_X1_addPiece_X1 hown hK hP 0 rfl rfl 7 (by decide) k_1 (fun _ h9 => h9) rfl dX1_addPiece_141 ?_
    refine lv_iload hx hb dX1_addPiece_144 (lv_at hl 7 rfl) ?_
    refine lv_iconst (v := (1 : Int32)) hx hb dX1_addPiece_146 kI_1 ?_
    refine lv_iload hx hb dX1_addPiece_147 (lv_at hl 7 rfl) ?_
    refine lv_iadd hx hb dX1_addPiece_149 ?_
    refine lv_iconst (v := (0 : Int32)) hx hb dX1_addPiece_150 kI_0 ?_
    refine lv_iload_n hx hb dX1_addPiece_151 rfl (lv_at hl 2 rfl) ?_
    refine cx_gov (va_runV (As := [.ref aK_showing, .int x7, .int ((1 : Int32) + x7), .int (0 : Int32), .int x2]) (rest := []) ⟨hx, hb, hml, hown, hts⟩ (c_X1_show l D cI cJ cZ cO tS tT H.size aK_showing aK aK_strengths aK_kinds aK_marks aK_faces aK_bars aK_showing aK_showingRight aK_barring 204 K_showing K_warm K_count K_seeds K_blocks K_rivals K_faces x7 ((1 : Int32) + x7) (0 : Int32) x2 _ hw) (cwV 5 hts gX1_addPiece_X1_show rfl rfl rfl pv_X1_show ⟨Nat.le_of_ble_eq_true rfl, Nat.le_of_ble_eq_true rfl⟩) (cx_preV (wc := w_X1_show cI cJ cZ cO aK_showing aK aK_strengths aK_kinds aK_marks aK_faces aK_bars aK_showing aK_showingRight aK_barring 204 K_showing K_warm K_count K_seeds K_blocks K_rivals K_faces) hE hK hP hD hS hA [5, 0, 3] rfl rfl (va_recv hK hP (ci := 1) (q0 := 0) rfl rfl)) rfl rfl hl.1 rfl (lv_room (Nat.le_of_ble_eq_true rfl)) dX1_addPiece_152 ⟨Nat.le_of_ble_eq_true rfl, Nat.le_of_ble_eq_true rfl⟩) (fun (u : (Nat → Int64) × (Nat → Int32)) => (w_X1_addPiece cI cJ cZ cO aK aK_strengths aK_kinds aK_marks aK_faces aK_bars aK_showing aK_showingRight aK_barring K_warm K_count K_seeds K_blocks K_rivals K_kinds K_marks u.2 K_bars u.1 K_showingRight K_barring)) [5, 0, 3] [1, 2, 4, 6, 7] (ads := [aK_showing, aK, aK_faces]) (wr := [(aK_kinds, .inl (cI, 40, .inl K_kinds)), (aK_marks, .inl (cI, 40, .inl K_marks)), (aK_bars, .inl (cI, 128, .inl K_bars)), (aK_showingRight, .inl (cJ, 204, .inr (.inl K_showingRight))), (aK_barring, .inl (cJ, 4, .inr (.inl K_barring)))]) rfl rfl (fun u => rfl) (fun u => rfl) rfl (fun u => rfl) rfl (fun u => rfl) rfl hP hD hS hA (fun u H locs hw hP hD hS => ?_)
    obtain ⟨K_showing_152, K_faces_152⟩ := u
    try dsimp only at hw
    have hP : va_P D vwCl (w_X1_addPiece cI cJ cZ cO aK aK_strengths aK_kinds aK_marks aK_faces aK_bars aK_showing aK_showingRight aK_barring K_warm K_count K_seeds K_blocks K_rivals K_kinds K_marks K_faces_152 K_bars K_showing_152 K_showingRight K_barring) H := hP
    have hD : va_D A (w_X1_addPiece cI cJ cZ cO aK aK_strengths aK_kinds aK_marks aK_faces aK_bars aK_showing aK_showingRight aK_barring K_warm K_count K_seeds K_blocks K_rivals K_kinds K_marks K_faces_152 K_bars K_showing_152 K_showingRight K_barring) := hD
    refine lv_aload_n hx hb dX1_addPiece_155 rfl (lv_at hl 1 rfl) ?_
    refine lv_aload_n hx hb dX1_addPiece_156 rfl (lv_at hl 1 rfl) ?_
    refine va_get (D := D) (ci := 1) (v := .ref aK_showing) (C := RX1) (T := TX1) (N := 13) hx hb hts in_X1_addPiece_X1 hown hK hP 0 rfl rfl 7 (by decide) k_1 (fun _ h9 => h9) rfl dX1_addPiece_157 ?_
    refine lv_iload hx hb dX1_addPiece_160 (lv_at hl 7 rfl) ?_
    refine lv_iconst (v := (1 : Int32)) hx hb dX1_addPiece_162 kI_1 ?_
    refine lv_iload hx hb dX1_addPiece_163 (lv_at hl 7 rfl) ?_
    refine lv_iadd hx hb dX1_addPiece_165 ?_
    refine lv_iconst (v := (1 : Int32)) hx hb dX1_addPiece_166 kI_1 ?_
    refine lv_iload hx hb dX1_addPiece_167 (lv_at hl 0 rfl) ?_
    refine lv_if_eq (tgt := 176) hx hb dX1_addPiece_169 (by decide) (fun c169 => ?_) (fun c169 => ?_)
    · have hw := hw.1 c169
      refine lv_iload_n hx hb dX1_addPiece_176 rfl (lv_at hl 3 rfl) ?_
      exact b_177 K_count K_kinds K_marks K_faces_152 K_bars K_showing_152 K_showingRight K_barring K_seeds K_blocks K_rivals x3 x4 x5 x6 x7 y0 x7 ((1 : Int32) + x7) (1 : Int32) x3 hw H locs hP hD hS ls (lv_sub hl [1, 3, 4, 5, 6, 7, 0] rfl)
    · have hw := hw.2 c169
      refine lv_iconst (v := (0 : Int32)) hx hb dX1_addPiece_172 kI_0 ?_
      refine lv_goto (tgt := 177) hx hb dX1_addPiece_173 (by decide) ?_
      exact b_177 K_count K_kinds K_marks K_faces_152 K_bars K_showing_152 K_showingRight K_barring K_seeds K_blocks K_rivals x3 x4 x5 x6 x7 y0 x7 ((1 : Int32) + x7) (1 : Int32) (0 : Int32) hw H locs hP hD hS ls (lv_sub hl [1, 3, 4, 5, 6, 7, 0] rfl)
  have b_124 : ∀ (K_count : Int32) (K_kinds : Nat → Int32) (K_marks : Nat → Int32) (K_faces : Nat → Int32) (K_bars : Nat → Int32) (K_showing : Nat → Int64) (K_showingRight : Nat → Int64) (K_barring : Nat → Int64) (K_seeds : Int64) (K_blocks : Int64) (K_rivals : Int64) (x1 : Int32) (x2 : Int32) (x3 : Int32) (x4 : Int32) (x5 : Int32) (x6 : Int32) (x7 : Int32) (y1 : Int32) (y2 : Int32), wq_X1_addPiece_124  Q K_count K_kinds K_marks K_faces K_bars K_showing K_showingRight K_barring K_seeds K_blocks K_rivals x1 x2 x3 x4 x5 x6 x7 y1 y2 → ∀ (H : Heap) (locs : List Loc), va_P D vwCl (w_X1_addPiece cI cJ cZ cO aK aK_strengths aK_kinds aK_marks aK_faces aK_bars aK_showing aK_showingRight aK_barring K_warm K_count K_seeds K_blocks K_rivals K_kinds K_marks K_faces K_bars K_showing K_showingRight K_barring) H → va_D A (w_X1_addPiece cI cJ cZ cO aK aK_strengths aK_kinds aK_marks aK_faces aK_bars aK_showing aK_showingRight aK_barring K_warm K_count K_seeds K_blocks K_rivals K_kinds K_marks K_faces K_bars K_showing K_showingRight K_barring) → va_S A s.heap H locs → ∀ ls : Array Slot, lv_has ls 9 [(0, .ref aK), (1, .int x1), (2, .int x2), (3, .int x3), (4, .int x4), (5, .int x5), (6, .int x6), (7, .int x7)] → W p l e rm_X1_addPiece s m args below meth c H locs 0 0 Z (F0 m 124 ls [.int y2, .int y1, .ref aK]) := by
    intro K_count K_kinds K_marks K_faces K_bars K_showing K_showingRight K_barring K_seeds K_blocks K_rivals x1 x2 x3 x4 x5 x6 x7 y1 y2 hw H locs hP hD hS ls hl
    unfold wq_X1_addPiece_124 at hw
    refine cx_gov (va_runV (As := [.int y1, .int y2]) (rest := []) ⟨hx, hb, hml, hown, hts⟩ (c_X1_barSides l D cI cJ cZ cO tS tT H.size aK aK_strengths aK_kinds aK_marks aK_faces aK_bars aK_showing aK_showingRight aK_barring K_warm K_count K_seeds K_blocks K_rivals K_bars K_barring y1 y2 _ hw) (cwV 2 hts gX1_addPiece_X1_barSides rfl rfl rfl pv_X1_barSides ⟨Nat.le_of_ble_eq_true rfl, Nat.le_of_ble_eq_true rfl⟩) (cx_preV (wc := w_X1_barSides cI cJ cZ cO aK aK_strengths aK_kinds aK_marks aK_faces aK_bars aK_showing aK_showingRight aK_barring K_warm K_count K_seeds K_blocks K_rivals K_bars K_barring) hE hK hP hD hS hA [0, 4, 7] rfl rfl (va_recv hK hP (ci := 1) (q0 := 0) rfl rfl)) rfl rfl hl.1 rfl (lv_room (Nat.le_of_ble_eq_true rfl)) dX1_addPiece_124 ⟨Nat.le_of_ble_eq_true rfl, Nat.le_of_ble_eq_true rfl⟩) (fun (u : (Nat → Int32) × (Nat → Int64)) => (w_X1_addPiece cI cJ cZ cO aK aK_strengths aK_kinds aK_marks aK_faces aK_bars aK_showing aK_showingRight aK_barring K_warm K_count K_seeds K_blocks K_rivals K_kinds K_marks K_faces u.1 K_showing K_showingRight u.2)) [0, 4, 7] [1, 2, 3, 5, 6] (ads := [aK, aK_bars, aK_barring]) (wr := [(aK_kinds, .inl (cI, 40, .inl K_kinds)), (aK_marks, .inl (cI, 40, .inl K_marks)), (aK_faces, .inl (cI, 512, .inl K_faces)), (aK_showing, .inl (cJ, 204, .inr (.inl K_showing))), (aK_showingRight, .inl (cJ, 204, .inr (.inl K_showingRight)))]) rfl rfl (fun u => rfl) (fun u => rfl) rfl (fun u => rfl) rfl (fun u => rfl) rfl hP hD hS hA (fun u H locs hw hP hD hS => ?_)
    obtain ⟨K_bars_124, K_barring_124⟩ := u
    try dsimp only at hw
    have hP : va_P D vwCl (w_X1_addPiece cI cJ cZ cO aK aK_strengths aK_kinds aK_marks aK_faces aK_bars aK_showing aK_showingRight aK_barring K_warm K_count K_seeds K_blocks K_rivals K_kinds K_marks K_faces K_bars_124 K_showing K_showingRight K_barring_124) H := hP
    have hD : va_D A (w_X1_addPiece cI cJ cZ cO aK aK_strengths aK_kinds aK_marks aK_faces aK_bars aK_showing aK_showingRight aK_barring K_warm K_count K_seeds K_blocks K_rivals K_kinds K_marks K_faces K_bars_124 K_showing K_showingRight K_barring_124) := hD
    refine lv_iload_n hx hb dX1_addPiece_127 rfl (lv_at hl 1 rfl) ?_
    refine lv_iconst (v := (2 : Int32)) hx hb dX1_addPiece_128 kI_2 ?_
    refine lv_icmp_ne (tgt := 136) hx hb dX1_addPiece_129 (by decide) (fun c129 => ?_) (fun c129 => ?_)
    · have hw := hw.1 c129
      refine lv_iconst (v := (0 : Int32)) hx hb dX1_addPiece_136 kI_0 ?_
      exact b_137 K_count K_kinds K_marks K_faces K_bars_124 K_showing K_showingRight K_barring_124 K_seeds K_blocks K_rivals x2 x3 x4 x5 x6 x7 (0 : Int32) hw H locs hP hD hS ls (lv_sub hl [0, 2, 3, 4, 5, 6, 7] rfl)
    · have hw := hw.2 c129
      refine lv_iconst (v := (1 : Int32)) hx hb dX1_addPiece_132 kI_1 ?_
      refine lv_goto (tgt := 137) hx hb dX1_addPiece_133 (by decide) ?_
      exact b_137 K_count K_kinds K_marks K_faces K_bars_124 K_showing K_showingRight K_barring_124 K_seeds K_blocks K_rivals x2 x3 x4 x5 x6 x7 (1 : Int32) hw H locs hP hD hS ls (lv_sub hl [0, 2, 3, 4, 5, 6, 7] rfl)
  have b_115 : ∀ (K_count : Int32) (K_kinds : Nat → Int32) (K_marks : Nat → Int32) (K_faces : Nat → Int32) (K_bars : Nat → Int32) (K_showing : Nat → Int64) (K_showingRight : Nat → Int64) (K_barring : Nat → Int64) (K_seeds : Int64) (K_blocks : Int64) (K_rivals : Int64) (x1 : Int32) (x2 : Int32) (x3 : Int32) (x4 : Int32) (x5 : Int32) (x6 : Int32) (x7 : Int32) (y1 : Int32), wq_X1_addPiece_115  Q K_count K_kinds K_marks K_faces K_bars K_showing K_showingRight K_barring K_seeds K_blocks K_rivals x1 x2 x3 x4 x5 x6 x7 y1 → ∀ (H : Heap) (locs : List Loc), va_P D vwCl (w_X1_addPiece cI cJ cZ cO aK aK_strengths aK_kinds aK_marks aK_faces aK_bars aK_showing aK_showingRight aK_barring K_warm K_count K_seeds K_blocks K_rivals K_kinds K_marks K_faces K_bars K_showing K_showingRight K_barring) H → va_D A (w_X1_addPiece cI cJ cZ cO aK aK_strengths aK_kinds aK_marks aK_faces aK_bars aK_showing aK_showingRight aK_barring K_warm K_count K_seeds K_blocks K_rivals K_kinds K_marks K_faces K_bars K_showing K_showingRight K_barring) → va_S A s.heap H locs → ∀ ls : Array Slot, lv_has ls 9 [(0, .ref aK), (1, .int x1), (2, .int x2), (3, .int x3), (4, .int x4), (5, .int x5), (6, .int x6), (7, .int x7)] → W p l e rm_X1_addPiece s m args below meth c H locs 0 0 Z (F0 m 115 ls [.int y1, .ref aK]) := by
    intro K_count K_kinds K_marks K_faces K_bars K_showing K_showingRight K_barring K_seeds K_blocks K_rivals x1 x2 x3 x4 x5 x6 x7 y1 hw H locs hP hD hS ls hl
    unfold wq_X1_addPiece_115 at hw
    refine lv_iload hx hb dX1_addPiece_115 (lv_at hl 6 rfl) ?_
    refine lv_bipush (v := (16 : Int32)) hx hb dX1_addPiece_117 kB_16 ?_
    refine lv_irem hx hb dX1_addPiece_119 (by decide) ?_
    refine lv_goto (tgt := 124) hx hb dX1_addPiece_120 (by decide) ?_
    exact b_124 K_count K_kinds K_marks K_faces K_bars K_showing K_showingRight K_barring K_seeds K_blocks K_rivals x1 x2 x3 x4 x5 x6 x7 y1 (x6 - x6 / (16 : Int32) * (16 : Int32)) hw H locs hP hD hS ls (lv_sub hl [0, 1, 2, 3, 4, 5, 6, 7] rfl)
  have b_94 : ∀ (K_count : Int32) (K_kinds : Nat → Int32) (K_marks : Nat → Int32) (K_faces : Nat → Int32) (K_bars : Nat → Int32) (K_showing : Nat → Int64) (K_showingRight : Nat → Int64) (K_barring : Nat → Int64) (K_seeds : Int64) (K_blocks : Int64) (K_rivals : Int64) (x1 : Int32) (x2 : Int32) (x3 : Int32) (x4 : Int32) (x5 : Int32) (x6 : Int32) (x7 : Int32) (y1 : Int32) (y2 : Int32), wq_X1_addPiece_94  Q K_count K_kinds K_marks K_faces K_bars K_showing K_showingRight K_barring K_seeds K_blocks K_rivals x1 x2 x3 x4 x5 x6 x7 y1 y2 → ∀ (H : Heap) (locs : List Loc), va_P D vwCl (w_X1_addPiece cI cJ cZ cO aK aK_strengths aK_kinds aK_marks aK_faces aK_bars aK_showing aK_showingRight aK_barring K_warm K_count K_seeds K_blocks K_rivals K_kinds K_marks K_faces K_bars K_showing K_showingRight K_barring) H → va_D A (w_X1_addPiece cI cJ cZ cO aK aK_strengths aK_kinds aK_marks aK_faces aK_bars aK_showing aK_showingRight aK_barring K_warm K_count K_seeds K_blocks K_rivals K_kinds K_marks K_faces K_bars K_showing K_showingRight K_barring) → va_S A s.heap H locs → ∀ ls : Array Slot, lv_has ls 9 [(0, .ref aK), (1, .int x1), (2, .int x2), (3, .int x3), (4, .int x4), (5, .int x5), (6, .int x6), (7, .int x7)] → W p l e rm_X1_addPiece s m args below meth c H locs 0 0 Z (F0 m 94 ls [.int y2, .int y1, .ref aK_marks]) := by
    intro K_count K_kinds K_marks K_faces K_bars K_showing K_showingRight K_barring K_seeds K_blocks K_rivals x1 x2 x3 x4 x5 x6 x7 y1 y2 hw H locs hP hD hS ls hl
    unfold wq_X1_addPiece_94 at hw
    have h94 := hw.1
    have hw := hw.2
    refine va_iast hx hb hK hP hD hS 2 0 rfl rfl h94 dX1_addPiece_94 (fun H locs hP hD hS => ?_)
    have hP : va_P D vwCl (w_X1_addPiece cI cJ cZ cO aK aK_strengths aK_kinds aK_marks aK_faces aK_bars aK_showing aK_showingRight aK_barring K_warm K_count K_seeds K_blocks K_rivals K_kinds (upd K_marks y1.toNatClampNeg y2) K_faces K_bars K_showing K_showingRight K_barring) H := hP
    have hD : va_D A (w_X1_addPiece cI cJ cZ cO aK aK_strengths aK_kinds aK_marks aK_faces aK_bars aK_showing aK_showingRight aK_barring K_warm K_count K_seeds K_blocks K_rivals K_kinds (upd K_marks y1.toNatClampNeg y2) K_faces K_bars K_showing K_showingRight K_barring) := hD
    obtain ⟨K_marks_94, e94⟩ : ∃ y : Nat → Int32, y = upd K_marks y1.toNatClampNeg y2 := ⟨_, rfl⟩
    rw [← e94] at hP hD
    have hw := hw K_marks_94 e94
    refine lv_aload_n hx hb dX1_addPiece_95 rfl (lv_at hl 0 rfl) ?_
    refine lv_iload hx hb dX1_addPiece_96 (lv_at hl 7 rfl) ?_
    refine lv_iload_n hx hb dX1_addPiece_98 rfl (lv_at hl 1 rfl) ?_
    refine cx_gov (va_runV (As := [.int x7, .int x1]) (rest := []) ⟨hx, hb, hml, hown, hts⟩ (c_X1_enrol l D cI cJ cZ cO tS tT H.size aK aK_strengths aK_kinds aK_marks aK_faces aK_bars aK_showing aK_showingRight aK_barring K_warm K_count K_seeds K_blocks K_rivals x7 x1 _ hw) (cwV 2 hts gX1_addPiece_X1_enrol rfl rfl rfl pv_X1_enrol ⟨Nat.le_of_ble_eq_true rfl, Nat.le_of_ble_eq_true rfl⟩) (cx_preV (wc := w_X1_enrol cI cJ cZ cO aK aK_strengths aK_kinds aK_marks aK_faces aK_bars aK_showing aK_showingRight aK_barring K_warm K_count K_seeds K_blocks K_rivals) hE hK hP hD hS hA [0] rfl rfl (va_recv hK hP (ci := 1) (q0 := 0) rfl rfl)) rfl rfl hl.1 rfl (lv_room (Nat.le_of_ble_eq_true rfl)) dX1_addPiece_99 ⟨Nat.le_of_ble_eq_true rfl, Nat.le_of_ble_eq_true rfl⟩) (fun (u : (Int64) × (Int64) × (Int64)) => (w_X1_addPiece cI cJ cZ cO aK aK_strengths aK_kinds aK_marks aK_faces aK_bars aK_showing aK_showingRight aK_barring K_warm K_count u.1 u.2.1 u.2.2 K_kinds K_marks_94 K_faces K_bars K_showing K_showingRight K_barring)) [0] [1, 2, 3, 4, 5, 6, 7] (ads := [aK]) (wr := [(aK_kinds, .inl (cI, 40, .inl K_kinds)), (aK_marks, .inl (cI, 40, .inl K_marks_94)), (aK_faces, .inl (cI, 512, .inl K_faces)), (aK_bars, .inl (cI, 128, .inl K_bars)), (aK_showing, .inl (cJ, 204, .inr (.inl K_showing))), (aK_showingRight, .inl (cJ, 204, .inr (.inl K_showingRight))), (aK_barring, .inl (cJ, 4, .inr (.inl K_barring)))]) rfl rfl (fun u => rfl) (fun u => rfl) rfl (fun u => rfl) rfl (fun u => rfl) rfl hP hD hS hA (fun u H locs hw hP hD hS => ?_)
    obtain ⟨K_seeds_99, K_blocks_99, K_rivals_99⟩ := u
    try dsimp only at hw
    have hP : va_P D vwCl (w_X1_addPiece cI cJ cZ cO aK aK_strengths aK_kinds aK_marks aK_faces aK_bars aK_showing aK_showingRight aK_barring K_warm K_count K_seeds_99 K_blocks_99 K_rivals_99 K_kinds K_marks_94 K_faces K_bars K_showing K_showingRight K_barring) H := hP
    have hD : va_D A (w_X1_addPiece cI cJ cZ cO aK aK_strengths aK_kinds aK_marks aK_faces aK_bars aK_showing aK_showingRight aK_barring K_warm K_count K_seeds_99 K_blocks_99 K_rivals_99 K_kinds K_marks_94 K_faces K_bars K_showing K_showingRight K_barring) := hD
    refine lv_aload_n hx hb dX1_addPiece_102 rfl (lv_at hl 0 rfl) ?_
    refine lv_iload hx hb dX1_addPiece_103 (lv_at hl 7 rfl) ?_
    refine lv_iload_n hx hb dX1_addPiece_105 rfl (lv_at hl 1 rfl) ?_
    refine lv_iconst (v := (4 : Int32)) hx hb dX1_addPiece_106 kI_4 ?_
    refine lv_icmp_eq (tgt := 115) hx hb dX1_addPiece_107 (by decide) (fun c107 => ?_) (fun c107 => ?_)
    · have hw := hw.1 c107
      exact b_115 K_count K_kinds K_marks_94 K_faces K_bars K_showing K_showingRight K_barring K_seeds_99 K_blocks_99 K_rivals_99 x1 x2 x3 x4 x5 x6 x7 x7 hw H locs hP hD hS ls (lv_sub hl [0, 1, 2, 3, 4, 5, 6, 7] rfl)
    · have hw := hw.2 c107
      refine lv_iload_n hx hb dX1_addPiece_110 rfl (lv_at hl 1 rfl) ?_
      refine lv_iconst (v := (5 : Int32)) hx hb dX1_addPiece_111 kI_5 ?_
      refine lv_icmp_ne (tgt := 123) hx hb dX1_addPiece_112 (by decide) (fun c112 => ?_) (fun c112 => ?_)
      · have hw := hw.1 c112
        refine lv_iconst (v := (0 : Int32)) hx hb dX1_addPiece_123 kI_0 ?_
        exact b_124 K_count K_kinds K_marks_94 K_faces K_bars K_showing K_showingRight K_barring K_seeds_99 K_blocks_99 K_rivals_99 x1 x2 x3 x4 x5 x6 x7 x7 (0 : Int32) hw H locs hP hD hS ls (lv_sub hl [0, 1, 2, 3, 4, 5, 6, 7] rfl)
      · have hw := hw.2 c112
        exact b_115 K_count K_kinds K_marks_94 K_faces K_bars K_showing K_showingRight K_barring K_seeds_99 K_blocks_99 K_rivals_99 x1 x2 x3 x4 x5 x6 x7 x7 hw H locs hP hD hS ls (lv_sub hl [0, 1, 2, 3, 4, 5, 6, 7] rfl)
  intro H locs hP hD hS ls hl
  unfold wp_X1_addPiece at hw
  refine lv_aload_n hx hb dX1_addPiece_0 rfl (lv_at hl 0 rfl) ?_
  refine va_get (D := D) (ci := 1) (v := .int K_count) (C := RX1) (T := TX1) (N := 13) hx hb hts in_X1_addPiece_X1 hown hK hP 0 rfl rfl 1 (by decide) k_2 (fun _ h9 => h9) rfl dX1_addPiece_1 ?_
  refine lv_bipush (v := (40 : Int32)) hx hb dX1_addPiece_4 kB_40 ?_
  refine lv_icmp_ge (tgt := 48) hx hb dX1_addPiece_6 (by decide) (fun c6 => ?_) (fun c6 => ?_)
  · have hw := hw.1 c6
    refine lv_iconst (v := (-1 : Int32)) hx hb dX1_addPiece_48 kI_m1 ?_
    rw [hZ]
    exact cx_reti (K_count, K_kinds, K_marks, K_faces, K_bars, K_showing, K_showingRight, K_barring, K_seeds, K_blocks, K_rivals) hx hb hr hlocks hw hP hS dX1_addPiece_49
  · have hw := hw.2 c6
    refine lv_iload_n hx hb dX1_addPiece_9 rfl (lv_at hl 1 rfl) ?_
    refine lv_iload hx hb dX1_addPiece_10 (lv_at hl 6 rfl) ?_
    refine cx_goi (va_runS (As := [.int p1, .int p6]) (rest := []) ⟨hx, hb, hml, hown, hts⟩ (c_X1_isMoreOf l D cI cJ cZ cO tS tT H.size p1 p6 _ hw) (va_cwS 2 hts gX1_addPiece_X1_isMoreOf rfl rfl rfl ps_X1_isMoreOf ⟨Nat.le_of_ble_eq_true rfl, Nat.le_of_ble_eq_true rfl⟩) (cx_preS (wc := w_X1_isMoreOf) hE hK hP hD hS hA [] rfl rfl) rfl rfl hl.1 rfl (lv_room (Nat.le_of_ble_eq_true rfl)) dX1_addPiece_12 ⟨Nat.le_of_ble_eq_true rfl, Nat.le_of_ble_eq_true rfl⟩) (fun (_ : Unit) => (w_X1_addPiece cI cJ cZ cO aK aK_strengths aK_kinds aK_marks aK_faces aK_bars aK_showing aK_showingRight aK_barring K_warm K_count K_seeds K_blocks K_rivals K_kinds K_marks K_faces K_bars K_showing K_showingRight K_barring)) [] [0, 1, 2, 3, 4, 5, 6, 7] (ads := []) (wr := [(aK, .inr (1, [.int K_warm, .int K_count, .ref aK_strengths, .ref aK_kinds, .ref aK_marks, .ref aK_faces, .ref aK_bars, .ref aK_showing, .ref aK_showingRight, .ref aK_barring, .long K_seeds, .long K_blocks, .long K_rivals])), (aK_kinds, .inl (cI, 40, .inl K_kinds)), (aK_marks, .inl (cI, 40, .inl K_marks)), (aK_faces, .inl (cI, 512, .inl K_faces)), (aK_bars, .inl (cI, 128, .inl K_bars)), (aK_showing, .inl (cJ, 204, .inr (.inl K_showing))), (aK_showingRight, .inl (cJ, 204, .inr (.inl K_showingRight))), (aK_barring, .inl (cJ, 4, .inr (.inl K_barring)))]) rfl rfl (fun u => rfl) (fun u => rfl) rfl (fun u => rfl) rfl (fun u => rfl) rfl hP hD hS hA (fun r12 u H locs hw hP hD hS => ?_)
    refine lv_if_eq (tgt := 48) hx hb dX1_addPiece_15 (by decide) (fun c15 => ?_) (fun c15 => ?_)
    · have hw := hw.1 c15
      refine lv_iconst (v := (-1 : Int32)) hx hb dX1_addPiece_48 kI_m1 ?_
      rw [hZ]
      exact cx_reti (K_count, K_kinds, K_marks, K_faces, K_bars, K_showing, K_showingRight, K_barring, K_seeds, K_blocks, K_rivals) hx hb hr hlocks hw hP hS dX1_addPiece_49
    · have hw := hw.2 c15
      refine lv_iload_n hx hb dX1_addPiece_18 rfl (lv_at hl 2 rfl) ?_
      refine cx_goi (va_runS (As := [.int p2]) (rest := []) ⟨hx, hb, hml, hown, hts⟩ (c_X1_isFace l D cI cJ cZ cO tS tT H.size p2 _ hw) (va_cwS 1 hts gX1_addPiece_X1_isFace rfl rfl rfl ps_X1_isFace ⟨Nat.le_of_ble_eq_true rfl, Nat.le_of_ble_eq_true rfl⟩) (cx_preS (wc := w_X1_isFace) hE hK hP hD hS hA [] rfl rfl) rfl rfl hl.1 rfl (lv_room (Nat.le_of_ble_eq_true rfl)) dX1_addPiece_19 ⟨Nat.le_of_ble_eq_true rfl, Nat.le_of_ble_eq_true rfl⟩) (fun (_ : Unit) => (w_X1_addPiece cI cJ cZ cO aK aK_strengths aK_kinds aK_marks aK_faces aK_bars aK_showing aK_showingRight aK_barring K_warm K_count K_seeds K_blocks K_rivals K_kinds K_marks K_faces K_bars K_showing K_showingRight K_barring)) [] [0, 1, 2, 3, 4, 5, 6, 7] (ads := []) (wr := [(aK, .inr (1, [.int K_warm, .int K_count, .ref aK_strengths, .ref aK_kinds, .ref aK_marks, .ref aK_faces, .ref aK_bars, .ref aK_showing, .ref aK_showingRight, .ref aK_barring, .long K_seeds, .long K_blocks, .long K_rivals])), (aK_kinds, .inl (cI, 40, .inl K_kinds)), (aK_marks, .inl (cI, 40, .inl K_marks)), (aK_faces, .inl (cI, 512, .inl K_faces)), (aK_bars, .inl (cI, 128, .inl K_bars)), (aK_showing, .inl (cJ, 204, .inr (.inl K_showing))), (aK_showingRight, .inl (cJ, 204, .inr (.inl K_showingRight))), (aK_barring, .inl (cJ, 4, .inr (.inl K_barring)))]) rfl rfl (fun u => rfl) (fun u => rfl) rfl (fun u => rfl) rfl (fun u => rfl) rfl hP hD hS hA (fun r19 u H locs hw hP hD hS => ?_)
      refine lv_if_eq (tgt := 48) hx hb dX1_addPiece_22 (by decide) (fun c22 => ?_) (fun c22 => ?_)
      · have hw := hw.1 c22
        refine lv_iconst (v := (-1 : Int32)) hx hb dX1_addPiece_48 kI_m1 ?_
        rw [hZ]
        exact cx_reti (K_count, K_kinds, K_marks, K_faces, K_bars, K_showing, K_showingRight, K_barring, K_seeds, K_blocks, K_rivals) hx hb hr hlocks hw hP hS dX1_addPiece_49
      · have hw := hw.2 c22
        refine lv_iload_n hx hb dX1_addPiece_25 rfl (lv_at hl 3 rfl) ?_
        refine cx_goi (va_runS (As := [.int p3]) (rest := []) ⟨hx, hb, hml, hown, hts⟩ (c_X1_isFace l D cI cJ cZ cO tS tT H.size p3 _ hw) (va_cwS 1 hts gX1_addPiece_X1_isFace rfl rfl rfl ps_X1_isFace ⟨Nat.le_of_ble_eq_true rfl, Nat.le_of_ble_eq_true rfl⟩) (cx_preS (wc := w_X1_isFace) hE hK hP hD hS hA [] rfl rfl) rfl rfl hl.1 rfl (lv_room (Nat.le_of_ble_eq_true rfl)) dX1_addPiece_26 ⟨Nat.le_of_ble_eq_true rfl, Nat.le_of_ble_eq_true rfl⟩) (fun (_ : Unit) => (w_X1_addPiece cI cJ cZ cO aK aK_strengths aK_kinds aK_marks aK_faces aK_bars aK_showing aK_showingRight aK_barring K_warm K_count K_seeds K_blocks K_rivals K_kinds K_marks K_faces K_bars K_showing K_showingRight K_barring)) [] [0, 1, 2, 3, 4, 5, 6, 7] (ads := []) (wr := [(aK, .inr (1, [.int K_warm, .int K_count, .ref aK_strengths, .ref aK_kinds, .ref aK_marks, .ref aK_faces, .ref aK_bars, .ref aK_showing, .ref aK_showingRight, .ref aK_barring, .long K_seeds, .long K_blocks, .long K_rivals])), (aK_kinds, .inl (cI, 40, .inl K_kinds)), (aK_marks, .inl (cI, 40, .inl K_marks)), (aK_faces, .inl (cI, 512, .inl K_faces)), (aK_bars, .inl (cI, 128, .inl K_bars)), (aK_showing, .inl (cJ, 204, .inr (.inl K_showing))), (aK_showingRight, .inl (cJ, 204, .inr (.inl K_showingRight))), (aK_barring, .inl (cJ, 4, .inr (.inl K_barring)))]) rfl rfl (fun u => rfl) (fun u => rfl) rfl (fun u => rfl) rfl (fun u => rfl) rfl hP hD hS hA (fun r26 u H locs hw hP hD hS => ?_)
        refine lv_if_eq (tgt := 48) hx hb dX1_addPiece_29 (by decide) (fun c29 => ?_) (fun c29 => ?_)
        · have hw := hw.1 c29
          refine lv_iconst (v := (-1 : Int32)) hx hb dX1_addPiece_48 kI_m1 ?_
          rw [hZ]
          exact cx_reti (K_count, K_kinds, K_marks, K_faces, K_bars, K_showing, K_showingRight, K_barring, K_seeds, K_blocks, K_rivals) hx hb hr hlocks hw hP hS dX1_addPiece_49
        · have hw := hw.2 c29
          refine lv_iload hx hb dX1_addPiece_32 (lv_at hl 4 rfl) ?_
          refine cx_goi (va_runS (As := [.int p4]) (rest := []) ⟨hx, hb, hml, hown, hts⟩ (c_X1_isFace l D cI cJ cZ cO tS tT H.size p4 _ hw) (va_cwS 1 hts gX1_addPiece_X1_isFace rfl rfl rfl ps_X1_isFace ⟨Nat.le_of_ble_eq_true rfl, Nat.le_of_ble_eq_true rfl⟩) (cx_preS (wc := w_X1_isFace) hE hK hP hD hS hA [] rfl rfl) rfl rfl hl.1 rfl (lv_room (Nat.le_of_ble_eq_true rfl)) dX1_addPiece_34 ⟨Nat.le_of_ble_eq_true rfl, Nat.le_of_ble_eq_true rfl⟩) (fun (_ : Unit) => (w_X1_addPiece cI cJ cZ cO aK aK_strengths aK_kinds aK_marks aK_faces aK_bars aK_showing aK_showingRight aK_barring K_warm K_count K_seeds K_blocks K_rivals K_kinds K_marks K_faces K_bars K_showing K_showingRight K_barring)) [] [0, 1, 2, 3, 4, 5, 6, 7] (ads := []) (wr := [(aK, .inr (1, [.int K_warm, .int K_count, .ref aK_strengths, .ref aK_kinds, .ref aK_marks, .ref aK_faces, .ref aK_bars, .ref aK_showing, .ref aK_showingRight, .ref aK_barring, .long K_seeds, .long K_blocks, .long K_rivals])), (aK_kinds, .inl (cI, 40, .inl K_kinds)), (aK_marks, .inl (cI, 40, .inl K_marks)), (aK_faces, .inl (cI, 512, .inl K_faces)), (aK_bars, .inl (cI, 128, .inl K_bars)), (aK_showing, .inl (cJ, 204, .inr (.inl K_showing))), (aK_showingRight, .inl (cJ, 204, .inr (.inl K_showingRight))), (aK_barring, .inl (cJ, 4, .inr (.inl K_barring)))]) rfl rfl (fun u => rfl) (fun u => rfl) rfl (fun u => rfl) rfl (fun u => rfl) rfl hP hD hS hA (fun r34 u H locs hw hP hD hS => ?_)
          refine lv_if_eq (tgt := 48) hx hb dX1_addPiece_37 (by decide) (fun c37 => ?_) (fun c37 => ?_)
          · have hw := hw.1 c37
            refine lv_iconst (v := (-1 : Int32)) hx hb dX1_addPiece_48 kI_m1 ?_
            rw [hZ]
            exact cx_reti (K_count, K_kinds, K_marks, K_faces, K_bars, K_showing, K_showingRight, K_barring, K_seeds, K_blocks, K_rivals) hx hb hr hlocks hw hP hS dX1_addPiece_49
          · have hw := hw.2 c37
            refine lv_iload hx hb dX1_addPiece_40 (lv_at hl 5 rfl) ?_
            refine cx_goi (va_runS (As := [.int p5]) (rest := []) ⟨hx, hb, hml, hown, hts⟩ (c_X1_isFace l D cI cJ cZ cO tS tT H.size p5 _ hw) (va_cwS 1 hts gX1_addPiece_X1_isFace rfl rfl rfl ps_X1_isFace ⟨Nat.le_of_ble_eq_true rfl, Nat.le_of_ble_eq_true rfl⟩) (cx_preS (wc := w_X1_isFace) hE hK hP hD hS hA [] rfl rfl) rfl rfl hl.1 rfl (lv_room (Nat.le_of_ble_eq_true rfl)) dX1_addPiece_42 ⟨Nat.le_of_ble_eq_true rfl, Nat.le_of_ble_eq_true rfl⟩) (fun (_ : Unit) => (w_X1_addPiece cI cJ cZ cO aK aK_strengths aK_kinds aK_marks aK_faces aK_bars aK_showing aK_showingRight aK_barring K_warm K_count K_seeds K_blocks K_rivals K_kinds K_marks K_faces K_bars K_showing K_showingRight K_barring)) [] [0, 1, 2, 3, 4, 5, 6, 7] (ads := []) (wr := [(aK, .inr (1, [.int K_warm, .int K_count, .ref aK_strengths, .ref aK_kinds, .ref aK_marks, .ref aK_faces, .ref aK_bars, .ref aK_showing, .ref aK_showingRight, .ref aK_barring, .long K_seeds, .long K_blocks, .long K_rivals])), (aK_kinds, .inl (cI, 40, .inl K_kinds)), (aK_marks, .inl (cI, 40, .inl K_marks)), (aK_faces, .inl (cI, 512, .inl K_faces)), (aK_bars, .inl (cI, 128, .inl K_bars)), (aK_showing, .inl (cJ, 204, .inr (.inl K_showing))), (aK_showingRight, .inl (cJ, 204, .inr (.inl K_showingRight))), (aK_barring, .inl (cJ, 4, .inr (.inl K_barring)))]) rfl rfl (fun u => rfl) (fun u => rfl) rfl (fun u => rfl) rfl (fun u => rfl) rfl hP hD hS hA (fun r42 u H locs hw hP hD hS => ?_)
            refine lv_if_ne (tgt := 50) hx hb dX1_addPiece_45 (by decide) (fun c45 => ?_) (fun c45 => ?_)
            · have hw := hw.1 c45
              refine lv_aload_n hx hb dX1_addPiece_50 rfl (lv_at hl 0 rfl) ?_
              refine va_get (D := D) (ci := 1) (v := .int K_count) (C := RX1) (T := TX1) (N := 13) hx hb hts in_X1_addPiece_X1 hown hK hP 0 rfl rfl 1 (by decide) k_2 (fun _ h9 => h9) rfl dX1_addPiece_51 ?_
              refine lv_istore (lv' := [(7, .int K_count), (0, .ref aK), (1, .int p1), (2, .int p2), (3, .int p3), (4, .int p4), (5, .int p5), (6, .int p6)]) hx hb dX1_addPiece_54 hl (by decide) rfl (fun ls hl => ?_)
              refine lv_aload_n hx hb dX1_addPiece_56 rfl (lv_at hl 1 rfl) ?_
              refine lv_dup hx hb dX1_addPiece_57 rfl ?_
              refine va_get (D := D) (ci := 1) (v := .int K_count) (C := RX1) (T := TX1) (N := 13) hx hb hts in_X1_addPiece_X1 hown hK hP 0 rfl rfl 1 (by decide) k_2 (fun _ h9 => h9) rfl dX1_addPiece_58 ?_
              refine lv_iconst (v := (1 : Int32)) hx hb dX1_addPiece_61 kI_1 ?_
              refine lv_iadd hx hb dX1_addPiece_62 ?_
              refine lv_topi (fun K_count_63 e63 => ?_)
              have hw := hw K_count_63 e63
              refine va_put (D := D) (ci := 1) (v := .int K_count_63) (ty := .int) (C := RX1) (T := TX1) (N := 13) hx hb hts in_X1_addPiece_X1 tyX1 tyX1_ok nmX1 hown hK hP hD hS 0 rfl rfl 1 (by decide) k_2 (fun _ h9 => h9) rfl (tyX1_ok 1 (by decide)) rfl rfl (Nat.le_of_ble_eq_true rfl) dX1_addPiece_63 (fun H locs hP hD hS => ?_)
              have hP : va_P D vwCl (w_X1_addPiece cI cJ cZ cO aK aK_strengths aK_kinds aK_marks aK_faces aK_bars aK_showing aK_showingRight aK_barring K_warm K_count_63 K_seeds K_blocks K_rivals K_kinds K_marks K_faces K_bars K_showing K_showingRight K_barring) H := hP
              have hD : va_D A (w_X1_addPiece cI cJ cZ cO aK aK_strengths aK_kinds aK_marks aK_faces aK_bars aK_showing aK_showingRight aK_barring K_warm K_count_63 K_seeds K_blocks K_rivals K_kinds K_marks K_faces K_bars K_showing K_showingRight K_barring) := hD
              refine lv_aload_n hx hb dX1_addPiece_66 rfl (lv_at hl 1 rfl) ?_
              refine va_get (D := D) (ci := 1) (v := .ref aK_kinds) (C := RX1) (T := TX1) (N := 13) hx hb hts in_X1_addPiece_X1 hown hK hP 0 rfl rfl 3 (by decide) k_3 (fun _ h9 => h9) rfl dX1_addPiece_67 ?_
              refine lv_iload hx hb dX1_addPiece_70 (lv_at hl 0 rfl) ?_
              refine lv_iload_n hx hb dX1_addPiece_72 rfl (lv_at hl 2 rfl) ?_
              have h73 := hw.1
              have hw := hw.2
              refine va_iast hx hb hK hP hD hS 1 0 rfl rfl h73 dX1_addPiece_73 (fun H locs hP hD hS => ?_)
              have hP : va_P D vwCl (w_X1_addPiece cI cJ cZ cO aK aK_strengths aK_kinds aK_marks aK_faces aK_bars aK_showing aK_showingRight aK_barring K_warm K_count_63 K_seeds K_blocks K_rivals (upd K_kinds K_count.toNatClampNeg p1) K_marks K_faces K_bars K_showing K_showingRight K_barring) H := hP
              have hD : va_D A (w_X1_addPiece cI cJ cZ cO aK aK_strengths aK_kinds aK_marks aK_faces aK_bars aK_showing aK_showingRight aK_barring K_warm K_count_63 K_seeds K_blocks K_rivals (upd K_kinds K_count.toNatClampNeg p1) K_marks K_faces K_bars K_showing K_showingRight K_barring) := hD
              obtain ⟨K_kinds_73, e73⟩ : ∃ y : Nat → Int32, y = upd K_kinds K_count.toNatClampNeg p1 := ⟨_, rfl⟩
              rw [← e73] at hP hD
              have hw := hw K_kinds_73 e73
              refine lv_aload_n hx hb dX1_addPiece_74 rfl (lv_at hl 1 rfl) ?_
              refine va_get (D := D) (ci := 1) (v := .ref aK_marks) (C := RX1) (T := TX1) (N := 13) hx hb hts in_X1_addPiece_X1 hown hK hP 0 rfl rfl 4 (by decide) k_4 (fun _ h9 => h9) rfl dX1_addPiece_75 ?_
              refine lv_iload hx hb dX1_addPiece_78 (lv_at hl 0 rfl) ?_
              refine lv_iload_n hx hb dX1_addPiece_80 rfl (lv_at hl 2 rfl) ?_
              refine lv_iconst (v := (5 : Int32)) hx hb dX1_addPiece_81 kI_5 ?_
              refine lv_icmp_ne (tgt := 93) hx hb dX1_addPiece_82 (by decide) (fun c82 => ?_) (fun c82 => ?_)
              · have hw := hw.1 c82
                refine lv_iconst (v := (0 : Int32)) hx hb dX1_addPiece_93 kI_0 ?_
                exact b_94 K_count_63 K_kinds_73 K_marks K_faces K_bars K_showing K_showingRight K_barring K_seeds K_blocks K_rivals p1 p2 p3 p4 p5 p6 K_count K_count (0 : Int32) hw H locs hP hD hS ls (lv_sub hl [1, 2, 3, 4, 5, 6, 7, 0] rfl)
              · have hw := hw.2 c82
                refine lv_iload hx hb dX1_addPiece_85 (lv_at hl 7 rfl) ?_
                refine lv_bipush (v := (16 : Int32)) hx hb dX1_addPiece_87 kB_16 ?_
                refine lv_idiv hx hb dX1_addPiece_89 (by decide) ?_
                refine lv_goto (tgt := 94) hx hb dX1_addPiece_90 (by decide) ?_
                exact b_94 K_count_63 K_kinds_73 K_marks K_faces K_bars K_showing K_showingRight K_barring K_seeds K_blocks K_rivals p1 p2 p3 p4 p5 p6 K_count K_count (p6 / (16 : Int32)) hw H locs hP hD hS ls (lv_sub hl [1, 2, 3, 4, 5, 6, 7, 0] rfl)
            · have hw := hw.2 c45
              refine lv_iconst (v := (-1 : Int32)) hx hb dX1_addPiece_48 kI_m1 ?_
              rw [hZ]
              exact cx_reti (K_count, K_kinds, K_marks, K_faces, K_bars, K_showing, K_showingRight, K_barring, K_seeds, K_blocks, K_rivals) hx hb hr hlocks hw hP hS dX1_addPiece_49
