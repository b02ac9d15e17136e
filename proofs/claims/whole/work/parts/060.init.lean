/-! the constructors -/
def ci_B (cI cJ cZ cO : ClassId) (D : va_G) (sz : Nat) (ws : va_W) (U : State) : Prop :=
  U.heap.size = sz ∧ va_P D vwCl ws U.heap ∧ va_K D vwCl (cx_T cI cJ cZ cO) U ∧ va_AO "GrowingTiles$Image" U ∧ va_D (fun _ => True) ws
theorem ci_blind {cI cJ cZ cO : ClassId} {D : va_G} {sz : Nat} {ws : va_W} {av : List Value} : FrameBlind (va_Pc av (ci_B cI cJ cZ cO D sz ws)) := by
  intro a U g mk q
  obtain ⟨q0, q1, qP, qK, qO, qD⟩ := q
  exact ⟨q0, q1, qP, va_K.moved (u := U) (U := U.calling g mk a) (Vm.Alike.refl U.vm) qK, va_AO.moved (u := U) (U := U.calling g mk a) (Vm.Alike.refl U.vm) qO, qD⟩
theorem ci_I {D : va_G} {cl : List vw_C} {cI cJ cZ cO cA : ClassId} {s : State} (h : va_K D cl (cx_T cI cJ cZ cO ++ [(cA, .int)]) s) : cA = cI := by
  have h1 : s.vm.findClass ("[" ++ FieldType.int.toString) = some cI := (h.2 0 (cI, .int) rfl).2
  have h2 : s.vm.findClass ("[" ++ FieldType.int.toString) = some cA := (h.2 4 (cA, .int) rfl).2
  rw [h1] at h2
  exact (Option.some.inj h2).symm
theorem ci_J {D : va_G} {cl : List vw_C} {cI cJ cZ cO cA : ClassId} {s : State} (h : va_K D cl (cx_T cI cJ cZ cO ++ [(cA, .long)]) s) : cA = cJ := by
  have h1 : s.vm.findClass ("[" ++ FieldType.long.toString) = some cJ := (h.2 1 (cJ, .long) rfl).2
  have h2 : s.vm.findClass ("[" ++ FieldType.long.toString) = some cA := (h.2 4 (cA, .long) rfl).2
  rw [h1] at h2
  exact (Option.some.inj h2).symm
theorem ci_Z {D : va_G} {cl : List vw_C} {cI cJ cZ cO cA : ClassId} {s : State} (h : va_K D cl (cx_T cI cJ cZ cO ++ [(cA, .boolean)]) s) : cA = cZ := by
  have h1 : s.vm.findClass ("[" ++ FieldType.boolean.toString) = some cZ := (h.2 2 (cZ, .boolean) rfl).2
  have h2 : s.vm.findClass ("[" ++ FieldType.boolean.toString) = some cA := (h.2 4 (cA, .boolean) rfl).2
  rw [h1] at h2
  exact (Option.some.inj h2).symm
theorem ci_O {D : va_G} {cl : List vw_C} {cI cJ cZ cO cA : ClassId} {s : State} (h : va_K D cl (cx_T cI cJ cZ cO ++ [(cA, .object "GrowingTiles$Image")]) s) : cA = cO := by
  obtain ⟨k1, p1, -, -, -, h1⟩ : va_RA s cO (.object "GrowingTiles$Image") := (h.2 3 (cO, .object "GrowingTiles$Image") rfl).2
  obtain ⟨k2, p2, -, -, -, h2⟩ : va_RA s cA (.object "GrowingTiles$Image") := (h.2 4 (cA, .object "GrowingTiles$Image") rfl).2
  rw [h1] at h2
  exact (Option.some.inj h2).symm
theorem ci_met {l : Launch} {y : MethodName} {ws ws' : List Cond} {rm : Room} {cc : ByteArray} {maxL mc ms : Nat} {ret : Option FieldType} {cI cJ cZ cO : ClassId} {D : va_G} {sz : Nat} {wc : va_W} {av : List Value} {Qc : (Nat → Prop) → Array Value → State → Outcome → State → Prop} {lv : List (Nat × Value)}
    (hy : plainName y.cls = true) (hyn : y.name = "<init>") (hw : ws = Cond.code y cc maxL ret :: ws') (hlen : (lg_sl av).length ≤ maxL) (hlv : lv_args 0 av = lv)
    (body : ∀ (p : Program) (e : Env) (s : State) (m : MethodId) (args : Array Value) (below : List Frame) (meth : Method) (c : Code) (A : Nat → Prop) (Z : State → Prop), p.tables.exec = Jvm.exec → c.code = cc → meth.sig.returnType = ret → meth.locks = false → meth.name = "<init>" → (∀ w ∈ ws, w.before args s = true) → s.vm.findClass y.cls = some m.cls → c.maxLocals = maxL → va_K D vwCl (cx_T cI cJ cZ cO) s → va_AO "GrowingTiles$Image" s → (∀ q, s.heap.size ≤ q → A q) → Z = MQ below (Qc A) args s mc ms A →
      ∀ (H : Heap) (locs : List Loc), va_P D vwCl wc H → va_D A wc → va_S A s.heap H locs → ∀ ls : Array Slot, lv_has ls maxL lv → W p l e rm s m args below meth c H locs 0 0 Z (F0 m 0 ls [])) :
    Met l y ws rm (va_Pc av (ci_B cI cJ cZ cO D sz wc)) (Qc (va_A wc sz)) mc ms (va_A wc sz) := by
  refine Met.ofW (cc := cc) (maxL := maxL) (ret := ret) hy hw ?_
  intro p e s m args below meth c s₁ B hml hv
  obtain ⟨rfl, hsz, hP, hK, hO, hD0⟩ := hv
  have hts := atoms_spec (ws := ws) B.pre
  have hown : s.vm.findClass y.cls = some m.cls := findClass_of_methodNamed B.named
  have hin : meth.name = "<init>" := ((name_of_methodNamed B.named B.method).1).trans hyn
  subst hsz
  have hl := lv_entry av (n := maxL) hlen
  rw [hlv] at hl
  rw [lg_entry_eq]
  exact body p e s m _ below meth c _ _ B.exec B.bytes B.returns B.notSynchronized hin hts hown hml hK hO (fun q h => Or.inr h) rfl _ _ hP (hD0.self (sz := s.heap.size)) va_S.rf _ hl
def ci_f (j : Nat) : Nat → Int32 := fun k => if k < j then -1 else 0
theorem ci_f_0 : ci_f 0 = fun _ => 0 := by
  funext k
  simp [ci_f]
theorem ci_f_next {j : Nat} (h : j < 256) : upd (ci_f j) (nI j).toNatClampNeg (-1 : Int32) = ci_f (j + 1) := by
  rw [nI_clamp (by omega)]
  funext k
  by_cases hk : k = j
  · subst hk
    rw [pk_us]
    simp [ci_f]
  · rw [pk_un hk]
    simp only [ci_f]
    by_cases h2 : k < j
    · rw [if_pos h2, if_pos (by omega)]
    · rw [if_neg h2, if_neg (by omega)]
theorem kB_120 : (Int8.ofInt (120)).toInt32 = (120 : Int32) := by decide
theorem kS_153 : (Int16.ofInt (153)).toInt32 = (153 : Int32) := by decide
theorem kS_480 : (Int16.ofInt (480)).toInt32 = (480 : Int32) := by decide
theorem kS_768 : (Int16.ofInt (768)).toInt32 = (768 : Int32) := by decide
theorem in_X1_init_X1 : ∀ w ∈ u_ws RX1 TX1 13, w ∈ wsX1_init := fun _ h => List.mem_cons_of_mem _ ((List.mem_append_right _ h))
theorem in_X4_init_X4 : ∀ w ∈ u_ws RX4 TX4 15, w ∈ wsX4_init := fun _ h => List.mem_cons_of_mem _ ((List.mem_append_right _ h))
theorem in_X5_init_X5 : ∀ w ∈ u_ws RX5 TX5 8, w ∈ wsX5_init := fun _ h => List.mem_cons_of_mem _ ((List.mem_append_right _ h))
theorem in_X6_init_X6 : ∀ w ∈ u_ws RX6 TX6 2, w ∈ wsX6_init := fun _ h => List.mem_cons_of_mem _ ((List.mem_append_right _ h))
theorem in_X3_init_X3 : ∀ w ∈ u_ws RX3 TX3 16, w ∈ wsX3_init := fun _ h => List.mem_cons_of_mem _ ((List.mem_append_right _ h))
theorem in_X2_init_X2 : ∀ w ∈ u_ws RX2 TX2 3, w ∈ wsX2_init := fun _ h => List.mem_cons_of_mem _ ((List.mem_append_right _ h))
theorem in_X0_init_X0 : ∀ w ∈ u_ws RX0 TX0 3, w ∈ wsX0_init := fun _ h => List.mem_cons_of_mem _ ((List.mem_append_right _ h))
theorem in_X0_init_X1 : ∀ w ∈ u_ws RX1 TX1 13, w ∈ wsX0_init := fun _ h => List.mem_cons_of_mem _ (List.mem_append_left _ ((List.mem_append_right _ h)))
theorem in_X7_init_X0 : ∀ w ∈ u_ws RX0 TX0 3, w ∈ wsX7_init := fun _ h => List.mem_cons_of_mem _ ((List.mem_append_right _ h))
theorem in_X7_init_X1 : ∀ w ∈ u_ws RX1 TX1 13, w ∈ wsX7_init := fun _ h => List.mem_cons_of_mem _ (List.mem_append_left _ (List.mem_append_left _ (List.mem_append_left _ (List.mem_append_left _ (List.mem_append_left _ (List.mem_append_left _ (List.mem_append_left _ ((List.mem_append_right _ h)))))))))
theorem in_X7_init_X2 : ∀ w ∈ u_ws RX2 TX2 3, w ∈ wsX7_init := fun _ h => List.mem_cons_of_mem _ (List.mem_append_left _ ((List.mem_append_right _ h)))
theorem in_X7_init_X3 : ∀ w ∈ u_ws RX3 TX3 16, w ∈ wsX7_init := fun _ h => List.mem_cons_of_mem _ (List.mem_append_left _ (List.mem_append_left _ ((List.mem_append_right _ h))))
theorem in_X7_init_X4 : ∀ w ∈ u_ws RX4 TX4 15, w ∈ wsX7_init := fun _ h => List.mem_cons_of_mem _ (List.mem_append_left _ (List.mem_append_left _ (List.mem_append_left _ (List.mem_append_left _ (List.mem_append_left _ ((List.mem_append_right _ h)))))))
theorem in_X7_init_X5 : ∀ w ∈ u_ws RX5 TX5 8, w ∈ wsX7_init := fun _ h => List.mem_cons_of_mem _ (List.mem_append_left _ (List.mem_append_left _ (List.mem_append_left _ (List.mem_append_left _ ((List.mem_append_right _ h))))))
theorem in_X7_init_X6 : ∀ w ∈ u_ws RX6 TX6 2, w ∈ wsX7_init := fun _ h => List.mem_cons_of_mem _ (List.mem_append_left _ (List.mem_append_left _ (List.mem_append_left _ ((List.mem_append_right _ h)))))
theorem in_X7_init_X7 : ∀ w ∈ u_ws RX7 TX7 8, w ∈ wsX7_init := fun _ h => List.mem_cons_of_mem _ (List.mem_append_left _ (List.mem_append_left _ (List.mem_append_left _ (List.mem_append_left _ (List.mem_append_left _ (List.mem_append_left _ ((List.mem_append_right _ h))))))))
theorem in_X8_init_X8 : ∀ w ∈ u_ws RX8 TX8 38, w ∈ wsX8_init := fun _ h => List.mem_cons_of_mem _ ((List.mem_append_right _ h))
