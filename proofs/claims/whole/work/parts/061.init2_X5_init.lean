def rm_X5_init : Room := { frames := 1, cells := 5, slots := 1124, locals := 12 }
theorem pi_X5_init : yX5_init.cls ≠ "java/lang/invoke/MethodHandle" ∧ yX5_init.cls ≠ "java/lang/invoke/VarHandle" ∧ (parseMethodDescriptor yX5_init.desc).map (fun d => d.parameters.length) = some 0 := by decide +kernel
set_option maxRecDepth 100000 in
set_option maxHeartbeats 4000000 in
theorem c_X5_init (l : Launch) (D : va_G) (cI cJ cZ cO : ClassId) (sz : Nat) (a0 : Nat) : Met l yX5_init wsX5_init rm_X5_init (va_Pc [.ref a0] (ci_B cI cJ cZ cO D sz [(a0, .inr (5, [.int 0, .int 0, .int 0, .null, .null, .null, .null, .null]))])) (va_Qv (fun (_ : Unit) => True) (fun (_ : Unit) t => ∃ (q1 q2 q3 q4 q5 : Nat), va_P D vwCl [(a0, .inr (5, [.int (0 : Int32), .int (0 : Int32), .int (1 : Int32), .ref q1, .ref q2, .ref q3, .ref q4, .ref q5])), (q1, .inl (cI, 200, .inl (fun _ => 0))), (q2, .inl (cI, 200, .inl (fun _ => 0))), (q3, .inl (cI, 200, .inl (fun _ => 0))), (q4, .inl (cI, 200, .inl (fun _ => 0))), (q5, .inl (cI, 324, .inl (fun _ => 0)))] t.heap ∧ va_D (va_A [(a0, .inr (5, [.int 0, .int 0, .int 0, .null, .null, .null, .null, .null]))] sz) [(a0, .inr (5, [.int (0 : Int32), .int (0 : Int32), .int (1 : Int32), .ref q1, .ref q2, .ref q3, .ref q4, .ref q5])), (q1, .inl (cI, 200, .inl (fun _ => 0))), (q2, .inl (cI, 200, .inl (fun _ => 0))), (q3, .inl (cI, 200, .inl (fun _ => 0))), (q4, .inl (cI, 200, .inl (fun _ => 0))), (q5, .inl (cI, 324, .inl (fun _ => 0)))]) (va_A [(a0, .inr (5, [.int 0, .int 0, .int 0, .null, .null, .null, .null, .null]))] sz)) 5 1124 (va_A [(a0, .inr (5, [.int 0, .int 0, .int 0, .null, .null, .null, .null, .null]))] sz) := by
  refine ci_met (l := l) (rm := rm_X5_init) (mc := 5) (ms := 1124) (cI := cI) (cJ := cJ) (cZ := cZ) (cO := cO) (D := D) (sz := sz) (wc := [(a0, .inr (5, [.int 0, .int 0, .int 0, .null, .null, .null, .null, .null]))]) (av := [.ref a0]) (y := yX5_init) (ws := wsX5_init) (cc := cX5_init) (maxL := 1) (ret := none) (Qc := fun A => va_Qv (fun (_ : Unit) => True) (fun (_ : Unit) t => ∃ (q1 q2 q3 q4 q5 : Nat), va_P D vwCl [(a0, .inr (5, [.int (0 : Int32), .int (0 : Int32), .int (1 : Int32), .ref q1, .ref q2, .ref q3, .ref q4, .ref q5])), (q1, .inl (cI, 200, .inl (fun _ => 0))), (q2, .inl (cI, 200, .inl (fun _ => 0))), (q3, .inl (cI, 200, .inl (fun _ => 0))), (q4, .inl (cI, 200, .inl (fun _ => 0))), (q5, .inl (cI, 324, .inl (fun _ => 0)))] t.heap ∧ va_D A [(a0, .inr (5, [.int (0 : Int32), .int (0 : Int32), .int (1 : Int32), .ref q1, .ref q2, .ref q3, .ref q4, .ref q5])), (q1, .inl (cI, 200, .inl (fun _ => 0))), (q2, .inl (cI, 200, .inl (fun _ => 0))), (q3, .inl (cI, 200, .inl (fun _ => 0))), (q4, .inl (cI, 200, .inl (fun _ => 0))), (q5, .inl (cI, 324, .inl (fun _ => 0)))]) A) (lv := [(0, .ref a0)]) (by decide) rfl rfl (Nat.le_of_ble_eq_true rfl) rfl ?_
  intro p e s m args below meth c A Z hx hb hr hlocks hin hts hown hml hK hAO hA hZ
  have hown : s.vm.findClass RX5 = some m.cls := hown
  have k_0 := hts (.methodLink RX5 3 objectInit) (List.mem_of_getElem? (i := 1) (by decide +kernel))
  have k_1 := hts (.instanceMethod objectInit) (List.mem_of_getElem? (i := 2) (by decide +kernel))
  have k_2 := hts (.code objectInit ⟨#[0xb1]⟩ 1 none) (List.mem_of_getElem? (i := 3) (by decide +kernel))
  have k_3 := hts (.fieldLink RX5 9 "GrowingTiles$Steps" "made" "I") (List.mem_of_getElem? (i := 4) (by decide +kernel))
  have k_4 := hts (.fieldLink RX5 15 "GrowingTiles$Steps" "kept" "I") (List.mem_of_getElem? (i := 5) (by decide +kernel))
  have k_5 := hts (.fieldLink RX5 18 "GrowingTiles$Steps" "fromClear" "Z") (List.mem_of_getElem? (i := 6) (by decide +kernel))
  have k_6 := hts (.arrayClass .int) (List.mem_of_getElem? (i := 7) (by decide +kernel))
  have k_7 := hts (.fieldLink RX5 22 "GrowingTiles$Steps" "acts" "[I") (List.mem_of_getElem? (i := 8) (by decide +kernel))
  have k_8 := hts (.fieldLink RX5 26 "GrowingTiles$Steps" "pieces" "[I") (List.mem_of_getElem? (i := 9) (by decide +kernel))
  have k_9 := hts (.fieldLink RX5 29 "GrowingTiles$Steps" "places" "[I") (List.mem_of_getElem? (i := 10) (by decide +kernel))
  have k_10 := hts (.fieldLink RX5 32 "GrowingTiles$Steps" "before" "[I") (List.mem_of_getElem? (i := 11) (by decide +kernel))
  have k_11 := hts (.fieldLink RX5 35 "GrowingTiles$Steps" "since" "[I") (List.mem_of_getElem? (i := 12) (by decide +kernel))
  intro H locs hP hD hS ls hl
  refine lv_aload_n hx hb dX5_init_0 rfl (lv_at hl 0 rfl) ?_
  refine W.objInit hx hb hown k_0 k_1 k_2 rfl (by rw [hml]; exact hl.1) rfl dX5_init_1 (Nat.le_of_ble_eq_true rfl) (Nat.le_of_ble_eq_true rfl) ?_
  show W p l e rm_X5_init s m args below meth c H locs 0 0 Z (F0 m 4 ls [])
  refine lv_aload_n hx hb dX5_init_4 rfl (lv_at hl 0 rfl) ?_
  refine lv_iconst (v := (0 : Int32)) hx hb dX5_init_5 kI_0 ?_
  refine va_put (D := D) (ci := 5) (v := .int (0 : Int32)) (ty := .int) (C := RX5) (T := TX5) (N := 8) hx hb hts in_X5_init_X5 tyX5 tyX5_ok nmX5 hown hK hP hD hS 0 rfl rfl 0 (by decide) k_3 (fun _ h9 => h9) rfl (tyX5_ok 0 (by decide)) rfl rfl (Nat.le_of_ble_eq_true rfl) dX5_init_6 (fun H locs hP hD hS => ?_)
  have hP : va_P D vwCl [(a0, .inr (5, [.int (0 : Int32), .int 0, .int 0, .null, .null, .null, .null, .null]))] H := hP
  have hD : va_D A [(a0, .inr (5, [.int (0 : Int32), .int 0, .int 0, .null, .null, .null, .null, .null]))] := hD
  refine lv_aload_n hx hb dX5_init_9 rfl (lv_at hl 0 rfl) ?_
  refine lv_iconst (v := (0 : Int32)) hx hb dX5_init_10 kI_0 ?_
  refine va_put (D := D) (ci := 5) (v := .int (0 : Int32)) (ty := .int) (C := RX5) (T := TX5) (N := 8) hx hb hts in_X5_init_X5 tyX5 tyX5_ok nmX5 hown hK hP hD hS 0 rfl rfl 1 (by decide) k_4 (fun _ h9 => h9) rfl (tyX5_ok 1 (by decide)) rfl rfl (Nat.le_of_ble_eq_true rfl) dX5_init_11 (fun H locs hP hD hS => ?_)
  have hP : va_P D vwCl [(a0, .inr (5, [.int (0 : Int32), .int (0 : Int32), .int 0, .null, .null, .null, .null, .null]))] H := hP
  have hD : va_D A [(a0, .inr (5, [.int (0 : Int32), .int (0 : Int32), .int 0, .null, .null, .null, .null, .null]))] := hD
  refine lv_aload_n hx hb dX5_init_14 rfl (lv_at hl 0 rfl) ?_
  refine lv_iconst (v := (1 : Int32)) hx hb dX5_init_15 kI_1 ?_
  refine va_put (D := D) (ci := 5) (v := .int (1 : Int32)) (ty := .boolean) (C := RX5) (T := TX5) (N := 8) hx hb hts in_X5_init_X5 tyX5 tyX5_ok nmX5 hown hK hP hD hS 0 rfl rfl 2 (by decide) k_5 (fun _ h9 => h9) rfl (tyX5_ok 2 (by decide)) rfl rfl (Nat.le_of_ble_eq_true rfl) dX5_init_16 (fun H locs hP hD hS => ?_)
  have hP : va_P D vwCl [(a0, .inr (5, [.int (0 : Int32), .int (0 : Int32), .int (1 : Int32), .null, .null, .null, .null, .null]))] H := hP
  have hD : va_D A [(a0, .inr (5, [.int (0 : Int32), .int (0 : Int32), .int (1 : Int32), .null, .null, .null, .null, .null]))] := hD
  refine lv_aload_n hx hb dX5_init_19 rfl (lv_at hl 0 rfl) ?_
  refine lv_sipush (v := (200 : Int32)) hx hb dX5_init_20 kS_200 ?_
  refine va_newa (atype := .int) (N' := 200) (a0 := (200, .inl (fun _ => 0))) (ty := .int) hx hb k_6 rfl hK hP hD hS hA (fun _ => rfl) (by decide) (by decide) (by decide) (by decide) (by decide) dX5_init_23 (fun q1 cA H hK9 hP hD hS => ?_)
  rw [ci_I hK9] at hP hD
  clear hK9
  have hP : va_P D vwCl [(a0, .inr (5, [.int (0 : Int32), .int (0 : Int32), .int (1 : Int32), .null, .null, .null, .null, .null])), (q1, .inl (cI, 200, .inl (fun _ => 0)))] H := hP
  have hD : va_D A [(a0, .inr (5, [.int (0 : Int32), .int (0 : Int32), .int (1 : Int32), .null, .null, .null, .null, .null])), (q1, .inl (cI, 200, .inl (fun _ => 0)))] := hD
  refine va_putF (D := D) (ci := 5) (v := .ref q1) (ty := .array .int) (C := RX5) (T := TX5) (N := 8) hx hb hts in_X5_init_X5 tyX5 tyX5_ok nmX5 hown hK hP hD hS 0 rfl rfl 3 (by decide) k_7 (fun _ h9 => h9) rfl hin rfl (tyX5_ok 3 (by decide)) rfl rfl (Nat.le_of_ble_eq_true rfl) dX5_init_25 (fun H locs hP hD hS => ?_)
  have hP : va_P D vwCl [(a0, .inr (5, [.int (0 : Int32), .int (0 : Int32), .int (1 : Int32), .ref q1, .null, .null, .null, .null])), (q1, .inl (cI, 200, .inl (fun _ => 0)))] H := hP
  have hD : va_D A [(a0, .inr (5, [.int (0 : Int32), .int (0 : Int32), .int (1 : Int32), .ref q1, .null, .null, .null, .null])), (q1, .inl (cI, 200, .inl (fun _ => 0)))] := hD
  refine lv_aload_n hx hb dX5_init_28 rfl (lv_at hl 0 rfl) ?_
  refine lv_sipush (v := (200 : Int32)) hx hb dX5_init_29 kS_200 ?_
  refine va_newa (atype := .int) (N' := 200) (a0 := (200, .inl (fun _ => 0))) (ty := .int) hx hb k_6 rfl hK hP hD hS hA (fun _ => rfl) (by decide) (by decide) (by decide) (by decide) (by decide) dX5_init_32 (fun q2 cA H hK9 hP hD hS => ?_)
  rw [ci_I hK9] at hP hD
  clear hK9
  have hP : va_P D vwCl [(a0, .inr (5, [.int (0 : Int32), .int (0 : Int32), .int (1 : Int32), .ref q1, .null, .null, .null, .null])), (q1, .inl (cI, 200, .inl (fun _ => 0))), (q2, .inl (cI, 200, .inl (fun _ => 0)))] H := hP
  have hD : va_D A [(a0, .inr (5, [.int (0 : Int32), .int (0 : Int32), .int (1 : Int32), .ref q1, .null, .null, .null, .null])), (q1, .inl (cI, 200, .inl (fun _ => 0))), (q2, .inl (cI, 200, .inl (fun _ => 0)))] := hD
  refine va_putF (D := D) (ci := 5) (v := .ref q2) (ty := .array .int) (C := RX5) (T := TX5) (N := 8) hx hb hts in_X5_init_X5 tyX5 tyX5_ok nmX5 hown hK hP hD hS 0 rfl rfl 4 (by decide) k_8 (fun _ h9 => h9) rfl hin rfl (tyX5_ok 4 (by decide)) rfl rfl (Nat.le_of_ble_eq_true rfl) dX5_init_34 (fun H locs hP hD hS => ?_)
  have hP : va_P D vwCl [(a0, .inr (5, [.int (0 : Int32), .int (0 : Int32), .int (1 : Int32), .ref q1, .ref q2, .null, .null, .null])), (q1, .inl (cI, 200, .inl (fun _ => 0))), (q2, .inl (cI, 200, .inl (fun _ => 0)))] H := hP
  have hD : va_D A [(a0, .inr (5, [.int (0 : Int32), .int (0 : Int32), .int (1 : Int32), .ref q1, .ref q2, .null, .null, .null])), (q1, .inl (cI, 200, .inl (fun _ => 0))), (q2, .inl (cI, 200, .inl (fun _ => 0)))] := hD
  refine lv_aload_n hx hb dX5_init_37 rfl (lv_at hl 0 rfl) ?_
  refine lv_sipush (v := (200 : Int32)) hx hb dX5_init_38 kS_200 ?_
  refine va_newa (atype := .int) (N' := 200) (a0 := (200, .inl (fun _ => 0))) (ty := .int) hx hb k_6 rfl hK hP hD hS hA (fun _ => rfl) (by decide) (by decide) (by decide) (by decide) (by decide) dX5_init_41 (fun q3 cA H hK9 hP hD hS => ?_)
  rw [ci_I hK9] at hP hD
  clear hK9
  have hP : va_P D vwCl [(a0, .inr (5, [.int (0 : Int32), .int (0 : Int32), .int (1 : Int32), .ref q1, .ref q2, .null, .null, .null])), (q1, .inl (cI, 200, .inl (fun _ => 0))), (q2, .inl (cI, 200, .inl (fun _ => 0))), (q3, .inl (cI, 200, .inl (fun _ => 0)))] H := hP
  have hD : va_D A [(a0, .inr (5, [.int (0 : Int32), .int (0 : Int32), .int (1 : Int32), .ref q1, .ref q2, .null, .null, .null])), (q1, .inl (cI, 200, .inl (fun _ => 0))), (q2, .inl (cI, 200, .inl (fun _ => 0))), (q3, .inl (cI, 200, .inl (fun _ => 0)))] := hD
  refine va_putF (D := D) (ci := 5) (v := .ref q3) (ty := .array .int) (C := RX5) (T := TX5) (N := 8) hx hb hts in_X5_init_X5 tyX5 tyX5_ok nmX5 hown hK hP hD hS 0 rfl rfl 5 (by decide) k_9 (fun _ h9 => h9) rfl hin rfl (tyX5_ok 5 (by decide)) rfl rfl (Nat.le_of_ble_eq_true rfl) dX5_init_43 (fun H locs hP hD hS => ?_)
  have hP : va_P D vwCl [(a0, .inr (5, [.int (0 : Int32), .int (0 : Int32), .int (1 : Int32), .ref q1, .ref q2, .ref q3, .null, .null])), (q1, .inl (cI, 200, .inl (fun _ => 0))), (q2, .inl (cI, 200, .inl (fun _ => 0))), (q3, .inl (cI, 200, .inl (fun _ => 0)))] H := hP
  have hD : va_D A [(a0, .inr (5, [.int (0 : Int32), .int (0 : Int32), .int (1 : Int32), .ref q1, .ref q2, .ref q3, .null, .null])), (q1, .inl (cI, 200, .inl (fun _ => 0))), (q2, .inl (cI, 200, .inl (fun _ => 0))), (q3, .inl (cI, 200, .inl (fun _ => 0)))] := hD
  refine lv_aload_n hx hb dX5_init_46 rfl (lv_at hl 0 rfl) ?_
  refine lv_sipush (v := (200 : Int32)) hx hb dX5_init_47 kS_200 ?_
  refine va_newa (atype := .int) (N' := 200) (a0 := (200, .inl (fun _ => 0))) (ty := .int) hx hb k_6 rfl hK hP hD hS hA (fun _ => rfl) (by decide) (by decide) (by decide) (by decide) (by decide) dX5_init_50 (fun q4 cA H hK9 hP hD hS => ?_)
  rw [ci_I hK9] at hP hD
  clear hK9
  have hP : va_P D vwCl [(a0, .inr (5, [.int (0 : Int32), .int (0 : Int32), .int (1 : Int32), .ref q1, .ref q2, .ref q3, .null, .null])), (q1, .inl (cI, 200, .inl (fun _ => 0))), (q2, .inl (cI, 200, .inl (fun _ => 0))), (q3, .inl (cI, 200, .inl (fun _ => 0))), (q4, .inl (cI, 200, .inl (fun _ => 0)))] H := hP
  have hD : va_D A [(a0, .inr (5, [.int (0 : Int32), .int (0 : Int32), .int (1 : Int32), .ref q1, .ref q2, .ref q3, .null, .null])), (q1, .inl (cI, 200, .inl (fun _ => 0))), (q2, .inl (cI, 200, .inl (fun _ => 0))), (q3, .inl (cI, 200, .inl (fun _ => 0))), (q4, .inl (cI, 200, .inl (fun _ => 0)))] := hD
  refine va_putF (D := D) (ci := 5) (v := .ref q4) (ty := .array .int) (C := RX5) (T := TX5) (N := 8) hx hb hts in_X5_init_X5 tyX5 tyX5_ok nmX5 hown hK hP hD hS 0 rfl rfl 6 (by decide) k_10 (fun _ h9 => h9) rfl hin rfl (tyX5_ok 6 (by decide)) rfl rfl (Nat.le_of_ble_eq_true rfl) dX5_init_52 (fun H locs hP hD hS => ?_)
  have hP : va_P D vwCl [(a0, .inr (5, [.int (0 : Int32), .int (0 : Int32), .int (1 : Int32), .ref q1, .ref q2, .ref q3, .ref q4, .null])), (q1, .inl (cI, 200, .inl (fun _ => 0))), (q2, .inl (cI, 200, .inl (fun _ => 0))), (q3, .inl (cI, 200, .inl (fun _ => 0))), (q4, .inl (cI, 200, .inl (fun _ => 0)))] H := hP
  have hD : va_D A [(a0, .inr (5, [.int (0 : Int32), .int (0 : Int32), .int (1 : Int32), .ref q1, .ref q2, .ref q3, .ref q4, .null])), (q1, .inl (cI, 200, .inl (fun _ => 0))), (q2, .inl (cI, 200, .inl (fun _ => 0))), (q3, .inl (cI, 200, .inl (fun _ => 0))), (q4, .inl (cI, 200, .inl (fun _ => 0)))] := hD
  refine lv_aload_n hx hb dX5_init_55 rfl (lv_at hl 0 rfl) ?_
  refine lv_sipush (v := (324 : Int32)) hx hb dX5_init_56 kS_324 ?_
  refine va_newa (atype := .int) (N' := 324) (a0 := (324, .inl (fun _ => 0))) (ty := .int) hx hb k_6 rfl hK hP hD hS hA (fun _ => rfl) (by decide) (by decide) (by decide) (by decide) (by decide) dX5_init_59 (fun q5 cA H hK9 hP hD hS => ?_)
  rw [ci_I hK9] at hP hD
  clear hK9
  have hP : va_P D vwCl [(a0, .inr (5, [.int (0 : Int32), .int (0 : Int32), .int (1 : Int32), .ref q1, .ref q2, .ref q3, .ref q4, .null])), (q1, .inl (cI, 200, .inl (fun _ => 0))), (q2, .inl (cI, 200, .inl (fun _ => 0))), (q3, .inl (cI, 200, .inl (fun _ => 0))), (q4, .inl (cI, 200, .inl (fun _ => 0))), (q5, .inl (cI, 324, .inl (fun _ => 0)))] H := hP
  have hD : va_D A [(a0, .inr (5, [.int (0 : Int32), .int (0 : Int32), .int (1 : Int32), .ref q1, .ref q2, .ref q3, .ref q4, .null])), (q1, .inl (cI, 200, .inl (fun _ => 0))), (q2, .inl (cI, 200, .inl (fun _ => 0))), (q3, .inl (cI, 200, .inl (fun _ => 0))), (q4, .inl (cI, 200, .inl (fun _ => 0))), (q5, .inl (cI, 324, .inl (fun _ => 0)))] := hD
  refine va_putF (D := D) (ci := 5) (v := .ref q5) (ty := .array .int) (C := RX5) (T := TX5) (N := 8) hx hb hts in_X5_init_X5 tyX5 tyX5_ok nmX5 hown hK hP hD hS 0 rfl rfl 7 (by decide) k_11 (fun _ h9 => h9) rfl hin rfl (tyX5_ok 7 (by decide)) rfl rfl (Nat.le_of_ble_eq_true rfl) dX5_init_61 (fun H locs hP hD hS => ?_)
  have hP : va_P D vwCl [(a0, .inr (5, [.int (0 : Int32), .int (0 : Int32), .int (1 : Int32), .ref q1, .ref q2, .ref q3, .ref q4, .ref q5])), (q1, .inl (cI, 200, .inl (fun _ => 0))), (q2, .inl (cI, 200, .inl (fun _ => 0))), (q3, .inl (cI, 200, .inl (fun _ => 0))), (q4, .inl (cI, 200, .inl (fun _ => 0))), (q5, .inl (cI, 324, .inl (fun _ => 0)))] H := hP
  have hD : va_D A [(a0, .inr (5, [.int (0 : Int32), .int (0 : Int32), .int (1 : Int32), .ref q1, .ref q2, .ref q3, .ref q4, .ref q5])), (q1, .inl (cI, 200, .inl (fun _ => 0))), (q2, .inl (cI, 200, .inl (fun _ => 0))), (q3, .inl (cI, 200, .inl (fun _ => 0))), (q4, .inl (cI, 200, .inl (fun _ => 0))), (q5, .inl (cI, 324, .inl (fun _ => 0)))] := hD
  rw [hZ]
  refine W.widen (k := 5) (n := 1124) (by decide) (by decide) ?_
  exact W.vret hx hb hr (fun t ht hW => ⟨⟨(), rfl, trivial, q1, q2, q3, q4, q5, by rw [ht]; exact hP, hD⟩, hS.F ht⟩) hS.2.2 dX5_init_64 hlocks
