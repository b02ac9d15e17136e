def rm_X6_init : Room := { frames := 1, cells := 1, slots := 400, locals := 12 }
theorem pi_X6_init : yX6_init.cls ≠ "java/lang/invoke/MethodHandle" ∧ yX6_init.cls ≠ "java/lang/invoke/VarHandle" ∧ (parseMethodDescriptor yX6_init.desc).map (fun d => d.parameters.length) = some 0 := by decide +kernel
set_option maxRecDepth 100000 in
set_option maxHeartbeats 4000000 in
theorem c_X6_init (l : Launch) (D : va_G) (cI cJ cZ cO : ClassId) (sz : Nat) (a0 : Nat) : Met l yX6_init wsX6_init rm_X6_init (va_Pc [.ref a0] (ci_B cI cJ cZ cO D sz [(a0, .inr (6, [.int 0, .null]))])) (va_Qv (fun (_ : Unit) => True) (fun (_ : Unit) t => ∃ (q1 : Nat), va_P D vwCl [(a0, .inr (6, [.int (0 : Int32), .ref q1])), (q1, .inl (cI, 400, .inl (fun _ => 0)))] t.heap ∧ va_D (va_A [(a0, .inr (6, [.int 0, .null]))] sz) [(a0, .inr (6, [.int (0 : Int32), .ref q1])), (q1, .inl (cI, 400, .inl (fun _ => 0)))]) (va_A [(a0, .inr (6, [.int 0, .null]))] sz)) 1 400 (va_A [(a0, .inr (6, [.int 0, .null]))] sz) := by
  refine ci_met (l := l) (rm := rm_X6_init) (mc := 1) (ms := 400) (cI := cI) (cJ := cJ) (cZ := cZ) (cO := cO) (D := D) (sz := sz) (wc := [(a0, .inr (6, [.int 0, .null]))]) (av := [.ref a0]) (y := yX6_init) (ws := wsX6_init) (cc := cX6_init) (maxL := 1) (ret := none) (Qc := fun A => va_Qv (fun (_ : Unit) => True) (fun (_ : Unit) t => ∃ (q1 : Nat), va_P D vwCl [(a0, .inr (6, [.int (0 : Int32), .ref q1])), (q1, .inl (cI, 400, .inl (fun _ => 0)))] t.heap ∧ va_D A [(a0, .inr (6, [.int (0 : Int32), .ref q1])), (q1, .inl (cI, 400, .inl (fun _ => 0)))]) A) (lv := [(0, .ref a0)]) (by decide) rfl rfl (Nat.le_of_ble_eq_true rfl) rfl ?_
  intro p e s m args below meth c A Z hx hb hr hlocks hin hts hown hml hK hAO hA hZ
  have hown : s.vm.findClass RX6 = some m.cls := hown
  have k_0 := hts (.methodLink RX6 3 objectInit) (List.mem_of_getElem? (i := 1) (by decide +kernel))
  have k_1 := hts (.instanceMethod objectInit) (List.mem_of_getElem? (i := 2) (by decide +kernel))
  have k_2 := hts (.code objectInit ⟨#[0xb1]⟩ 1 none) (List.mem_of_getElem? (i := 3) (by decide +kernel))
  have k_3 := hts (.fieldLink RX6 9 "GrowingTiles$Tape" "length" "I") (List.mem_of_getElem? (i := 4) (by decide +kernel))
  have k_4 := hts (.arrayClass .int) (List.mem_of_getElem? (i := 5) (by decide +kernel))
  have k_5 := hts (.fieldLink RX6 15 "GrowingTiles$Tape" "bytes" "[I") (List.mem_of_getElem? (i := 6) (by decide +kernel))
  intro H locs hP hD hS ls hl
  refine lv_aload_n hx hb dX6_init_0 rfl (lv_at hl 0 rfl) ?_
  refine W.objInit hx hb hown k_0 k_1 k_2 rfl (by rw [hml]; exact hl.1) rfl dX6_init_1 (Nat.le_of_ble_eq_true rfl) (Nat.le_of_ble_eq_true rfl) ?_
  show W p l e rm_X6_init s m args below meth c H locs 0 0 Z (F0 m 4 ls [])
  refine lv_aload_n hx hb dX6_init_4 rfl (lv_at hl 0 rfl) ?_
  refine lv_iconst (v := (0 : Int32)) hx hb dX6_init_5 kI_0 ?_
  refine va_put (D := D) (ci := 6) (v := .int (0 : Int32)) (ty := .int) (C := RX6) (T := TX6) (N := 2) hx hb hts in_X6_init_X6 tyX6 tyX6_ok nmX6 hown hK hP hD hS 0 rfl rfl 0 (by decide) k_3 (fun _ h9 => h9) rfl (tyX6_ok 0 (by decide)) rfl rfl (Nat.le_of_ble_eq_true rfl) dX6_init_6 (fun H locs hP hD hS => ?_)
  have hP : va_P D vwCl [(a0, .inr (6, [.int (0 : Int32), .null]))] H := hP
  have hD : va_D A [(a0, .inr (6, [.int (0 : Int32), .null]))] := hD
  refine lv_aload_n hx hb dX6_init_9 rfl (lv_at hl 0 rfl) ?_
  refine lv_sipush (v := (400 : Int32)) hx hb dX6_init_10 kS_400 ?_
  refine va_newa (atype := .int) (N' := 400) (a0 := (400, .inl (fun _ => 0))) (ty := .int) hx hb k_4 rfl hK hP hD hS hA (fun _ => rfl) (by decide) (by decide) (by decide) (by decide) (by decide) dX6_init_13 (fun q1 cA H hK9 hP hD hS => ?_)
  rw [ci_I hK9] at hP hD
  clear hK9
  have hP : va_P D vwCl [(a0, .inr (6, [.int (0 : Int32), .null])), (q1, .inl (cI, 400, .inl (fun _ => 0)))] H := hP
  have hD : va_D A [(a0, .inr (6, [.int (0 : Int32), .null])), (q1, .inl (cI, 400, .inl (fun _ => 0)))] := hD
  refine va_putF (D := D) (ci := 6) (v := .ref q1) (ty := .array .int) (C := RX6) (T := TX6) (N := 2) hx hb hts in_X6_init_X6 tyX6 tyX6_ok nmX6 hown hK hP hD hS 0 rfl rfl 1 (by decide) k_5 (fun _ h9 => h9) rfl hin rfl (tyX6_ok 1 (by decide)) rfl rfl (Nat.le_of_ble_eq_true rfl) dX6_init_15 (fun H locs hP hD hS => ?_)
  have hP : va_P D vwCl [(a0, .inr (6, [.int (0 : Int32), .ref q1])), (q1, .inl (cI, 400, .inl (fun _ => 0)))] H := hP
  have hD : va_D A [(a0, .inr (6, [.int (0 : Int32), .ref q1])), (q1, .inl (cI, 400, .inl (fun _ => 0)))] := hD
  rw [hZ]
  refine W.widen (k := 1) (n := 400) (by decide) (by decide) ?_
  exact W.vret hx hb hr (fun t ht hW => ⟨⟨(), rfl, trivial, q1, by rw [ht]; exact hP, hD⟩, hS.F ht⟩) hS.2.2 dX6_init_18 hlocks
