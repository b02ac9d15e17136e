def rm_X2_init : Room := { frames := 1, cells := 0, slots := 0, locals := 12 }
theorem pi_X2_init : yX2_init.cls ≠ "java/lang/invoke/MethodHandle" ∧ yX2_init.cls ≠ "java/lang/invoke/VarHandle" ∧ (parseMethodDescriptor yX2_init.desc).map (fun d => d.parameters.length) = some 3 := by decide +kernel
set_option maxRecDepth 100000 in
set_option maxHeartbeats 4000000 in
theorem c_X2_init (l : Launch) (D : va_G) (cI cJ cZ cO : ClassId) (sz : Nat) (a0 a1 a2 a3 : Nat) : Met l yX2_init wsX2_init rm_X2_init (va_Pc [.ref a0, .ref a1, .ref a2, .ref a3] (ci_B cI cJ cZ cO D sz [(a0, .inr (2, [.null, .null, .null]))])) (va_Qv (fun (_ : Unit) => True) (fun (_ : Unit) t => va_P D vwCl [(a0, .inr (2, [.ref a1, .ref a2, .ref a3]))] t.heap ∧ va_D (va_A [(a0, .inr (2, [.null, .null, .null]))] sz) [(a0, .inr (2, [.ref a1, .ref a2, .ref a3]))]) (va_A [(a0, .inr (2, [.null, .null, .null]))] sz)) 0 0 (va_A [(a0, .inr (2, [.null, .null, .null]))] sz) := by
  refine ci_met (l := l) (rm := rm_X2_init) (mc := 0) (ms := 0) (cI := cI) (cJ := cJ) (cZ := cZ) (cO := cO) (D := D) (sz := sz) (wc := [(a0, .inr (2, [.null, .null, .null]))]) (av := [.ref a0, .ref a1, .ref a2, .ref a3]) (y := yX2_init) (ws := wsX2_init) (cc := cX2_init) (maxL := 4) (ret := none) (Qc := fun A => va_Qv (fun (_ : Unit) => True) (fun (_ : Unit) t => va_P D vwCl [(a0, .inr (2, [.ref a1, .ref a2, .ref a3]))] t.heap ∧ va_D A [(a0, .inr (2, [.ref a1, .ref a2, .ref a3]))]) A) (lv := [(0, .ref a0), (1, .ref a1), (2, .ref a2), (3, .ref a3)]) (by decide) rfl rfl (Nat.le_of_ble_eq_true rfl) rfl ?_
  intro p e s m args below meth c A Z hx hb hr hlocks hin hts hown hml hK hAO hA hZ
  have hown : s.vm.findClass RX2 = some m.cls := hown
  have k_0 := hts (.methodLink RX2 3 objectInit) (List.mem_of_getElem? (i := 1) (by decide +kernel))
  have k_1 := hts (.instanceMethod objectInit) (List.mem_of_getElem? (i := 2) (by decide +kernel))
  have k_2 := hts (.code objectInit ⟨#[0xb1]⟩ 1 none) (List.mem_of_getElem? (i := 3) (by decide +kernel))
  have k_3 := hts (.fieldLink RX2 9 "GrowingTiles$Order" "kit" "LGrowingTiles$Kit;") (List.mem_of_getElem? (i := 4) (by decide +kernel))
  have k_4 := hts (.fieldLink RX2 15 "GrowingTiles$Order" "sheet" "LGrowingTiles$Sheet;") (List.mem_of_getElem? (i := 5) (by decide +kernel))
  have k_5 := hts (.fieldLink RX2 19 "GrowingTiles$Order" "steps" "LGrowingTiles$Steps;") (List.mem_of_getElem? (i := 6) (by decide +kernel))
  intro H locs hP hD hS ls hl
  refine lv_aload_n hx hb dX2_init_0 rfl (lv_at hl 0 rfl) ?_
  refine W.objInit hx hb hown k_0 k_1 k_2 rfl (by rw [hml]; exact hl.1) rfl dX2_init_1 (Nat.le_of_ble_eq_true rfl) (Nat.le_of_ble_eq_true rfl) ?_
  show W p l e rm_X2_init s m args below meth c H locs 0 0 Z (F0 m 4 ls [])
  refine lv_aload_n hx hb dX2_init_4 rfl (lv_at hl 0 rfl) ?_
  refine lv_aload_n hx hb dX2_init_5 rfl (lv_at hl 1 rfl) ?_
  refine va_putF (D := D) (ci := 2) (v := .ref a1) (ty := .object "GrowingTiles$Kit") (C := RX2) (T := TX2) (N := 3) hx hb hts in_X2_init_X2 tyX2 tyX2_ok nmX2 hown hK hP hD hS 0 rfl rfl 0 (by decide) k_3 (fun _ h9 => h9) rfl hin rfl (tyX2_ok 0 (by decide)) rfl rfl (Nat.le_of_ble_eq_true rfl) dX2_init_6 (fun H locs hP hD hS => ?_)
  have hP : va_P D vwCl [(a0, .inr (2, [.ref a1, .null, .null]))] H := hP
  have hD : va_D A [(a0, .inr (2, [.ref a1, .null, .null]))] := hD
  refine lv_aload_n hx hb dX2_init_9 rfl (lv_at hl 0 rfl) ?_
  refine lv_aload_n hx hb dX2_init_10 rfl (lv_at hl 2 rfl) ?_
  refine va_putF (D := D) (ci := 2) (v := .ref a2) (ty := .object "GrowingTiles$Sheet") (C := RX2) (T := TX2) (N := 3) hx hb hts in_X2_init_X2 tyX2 tyX2_ok nmX2 hown hK hP hD hS 0 rfl rfl 1 (by decide) k_4 (fun _ h9 => h9) rfl hin rfl (tyX2_ok 1 (by decide)) rfl rfl (Nat.le_of_ble_eq_true rfl) dX2_init_11 (fun H locs hP hD hS => ?_)
  have hP : va_P D vwCl [(a0, .inr (2, [.ref a1, .ref a2, .null]))] H := hP
  have hD : va_D A [(a0, .inr (2, [.ref a1, .ref a2, .null]))] := hD
  refine lv_aload_n hx hb dX2_init_14 rfl (lv_at hl 0 rfl) ?_
  refine lv_aload_n hx hb dX2_init_15 rfl (lv_at hl 3 rfl) ?_
  refine va_putF (D := D) (ci := 2) (v := .ref a3) (ty := .object "GrowingTiles$Steps") (C := RX2) (T := TX2) (N := 3) hx hb hts in_X2_init_X2 tyX2 tyX2_ok nmX2 hown hK hP hD hS 0 rfl rfl 2 (by decide) k_5 (fun _ h9 => h9) rfl hin rfl (tyX2_ok 2 (by decide)) rfl rfl (Nat.le_of_ble_eq_true rfl) dX2_init_16 (fun H locs hP hD hS => ?_)
  have hP : va_P D vwCl [(a0, .inr (2, [.ref a1, .ref a2, .ref a3]))] H := hP
  have hD : va_D A [(a0, .inr (2, [.ref a1, .ref a2, .ref a3]))] := hD
  rw [hZ]
  refine W.widen (k := 0) (n := 0) (by decide) (by decide) ?_
  exact W.vret hx hb hr (fun t ht hW => ⟨⟨(), rfl, trivial, by rw [ht]; exact hP, hD⟩, hS.F ht⟩) hS.2.2 dX2_init_19 hlocks
