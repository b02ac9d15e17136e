theorem kB_m4 : (Int8.ofInt (-4)).toInt32 = (-4 : Int32) := by decide
theorem kB_m3 : (Int8.ofInt (-3)).toInt32 = (-3 : Int32) := by decide
theorem kB_m2 : (Int8.ofInt (-2)).toInt32 = (-2 : Int32) := by decide
theorem kB_6 : (Int8.ofInt (6)).toInt32 = (6 : Int32) := by decide
theorem kB_7 : (Int8.ofInt (7)).toInt32 = (7 : Int32) := by decide
theorem kB_8 : (Int8.ofInt (8)).toInt32 = (8 : Int32) := by decide
theorem kB_14 : (Int8.ofInt (14)).toInt32 = (14 : Int32) := by decide
theorem kB_15 : (Int8.ofInt (15)).toInt32 = (15 : Int32) := by decide
theorem kB_16 : (Int8.ofInt (16)).toInt32 = (16 : Int32) := by decide
theorem kB_18 : (Int8.ofInt (18)).toInt32 = (18 : Int32) := by decide
theorem kB_20 : (Int8.ofInt (20)).toInt32 = (20 : Int32) := by decide
theorem kB_24 : (Int8.ofInt (24)).toInt32 = (24 : Int32) := by decide
theorem kB_29 : (Int8.ofInt (29)).toInt32 = (29 : Int32) := by decide
theorem kB_31 : (Int8.ofInt (31)).toInt32 = (31 : Int32) := by decide
theorem kB_32 : (Int8.ofInt (32)).toInt32 = (32 : Int32) := by decide
theorem kB_33 : (Int8.ofInt (33)).toInt32 = (33 : Int32) := by decide
theorem kB_40 : (Int8.ofInt (40)).toInt32 = (40 : Int32) := by decide
theorem kB_50 : (Int8.ofInt (50)).toInt32 = (50 : Int32) := by decide
theorem kB_51 : (Int8.ofInt (51)).toInt32 = (51 : Int32) := by decide
theorem kB_60 : (Int8.ofInt (60)).toInt32 = (60 : Int32) := by decide
theorem kB_64 : (Int8.ofInt (64)).toInt32 = (64 : Int32) := by decide
theorem kB_127 : (Int8.ofInt (127)).toInt32 = (127 : Int32) := by decide
theorem kI_m8 : Int32.ofInt (-8) = (-8 : Int32) := by decide
theorem kI_m1 : Int32.ofInt (-1) = (-1 : Int32) := by decide
theorem kI_0 : Int32.ofInt (0) = (0 : Int32) := by decide
theorem kI_1 : Int32.ofInt (1) = (1 : Int32) := by decide
theorem kI_2 : Int32.ofInt (2) = (2 : Int32) := by decide
theorem kI_3 : Int32.ofInt (3) = (3 : Int32) := by decide
theorem kI_4 : Int32.ofInt (4) = (4 : Int32) := by decide
theorem kI_5 : Int32.ofInt (5) = (5 : Int32) := by decide
theorem kI_8 : Int32.ofInt (8) = (8 : Int32) := by decide
theorem kI_16 : Int32.ofInt (16) = (16 : Int32) := by decide
theorem kL_0 : Int64.ofNat ((0 : Fin 2) : Nat) = (0 : Int64) := by decide
theorem kL_1 : Int64.ofNat ((1 : Fin 2) : Nat) = (1 : Int64) := by decide
theorem kS_128 : (Int16.ofInt (128)).toInt32 = (128 : Int32) := by decide
theorem kS_160 : (Int16.ofInt (160)).toInt32 = (160 : Int32) := by decide
theorem kS_200 : (Int16.ofInt (200)).toInt32 = (200 : Int32) := by decide
theorem kS_204 : (Int16.ofInt (204)).toInt32 = (204 : Int32) := by decide
theorem kS_250 : (Int16.ofInt (250)).toInt32 = (250 : Int32) := by decide
theorem kS_255 : (Int16.ofInt (255)).toInt32 = (255 : Int32) := by decide
theorem kS_256 : (Int16.ofInt (256)).toInt32 = (256 : Int32) := by decide
theorem kS_300 : (Int16.ofInt (300)).toInt32 = (300 : Int32) := by decide
theorem kS_306 : (Int16.ofInt (306)).toInt32 = (306 : Int32) := by decide
theorem kS_324 : (Int16.ofInt (324)).toInt32 = (324 : Int32) := by decide
theorem kS_400 : (Int16.ofInt (400)).toInt32 = (400 : Int32) := by decide
theorem kS_511 : (Int16.ofInt (511)).toInt32 = (511 : Int32) := by decide
theorem kS_512 : (Int16.ofInt (512)).toInt32 = (512 : Int32) := by decide
theorem kS_600 : (Int16.ofInt (600)).toInt32 = (600 : Int32) := by decide
theorem ps_J13_bitCount_95d88 : yJ13_bitCount_95d88.cls ≠ "java/lang/invoke/MethodHandle" ∧ yJ13_bitCount_95d88.cls ≠ "java/lang/invoke/VarHandle" ∧ (parseMethodDescriptor yJ13_bitCount_95d88.desc).map (fun d => d.parameters.length) = some 1 := by decide +kernel
theorem ps_J13_numberOfTrailingZeros_95d88 : yJ13_numberOfTrailingZeros_95d88.cls ≠ "java/lang/invoke/MethodHandle" ∧ yJ13_numberOfTrailingZeros_95d88.cls ≠ "java/lang/invoke/VarHandle" ∧ (parseMethodDescriptor yJ13_numberOfTrailingZeros_95d88.desc).map (fun d => d.parameters.length) = some 1 := by decide +kernel
theorem ps_J6_numberOfTrailingZeros_0f7a4 : yJ6_numberOfTrailingZeros_0f7a4.cls ≠ "java/lang/invoke/MethodHandle" ∧ yJ6_numberOfTrailingZeros_0f7a4.cls ≠ "java/lang/invoke/VarHandle" ∧ (parseMethodDescriptor yJ6_numberOfTrailingZeros_0f7a4.desc).map (fun d => d.parameters.length) = some 1 := by decide +kernel
theorem ps_J7_fill_53178 : yJ7_fill_53178.cls ≠ "java/lang/invoke/MethodHandle" ∧ yJ7_fill_53178.cls ≠ "java/lang/invoke/VarHandle" ∧ (parseMethodDescriptor yJ7_fill_53178.desc).map (fun d => d.parameters.length) = some 2 := by decide +kernel
theorem ps_J7_fill_d0a16 : yJ7_fill_d0a16.cls ≠ "java/lang/invoke/MethodHandle" ∧ yJ7_fill_d0a16.cls ≠ "java/lang/invoke/VarHandle" ∧ (parseMethodDescriptor yJ7_fill_d0a16.desc).map (fun d => d.parameters.length) = some 2 := by decide +kernel
theorem pv_X0_take : yX0_take.cls = RX0 ∧ yX0_take.cls ≠ "java/lang/invoke/MethodHandle" ∧ yX0_take.cls ≠ "java/lang/invoke/VarHandle" ∧ (parseMethodDescriptor yX0_take.desc).map (fun d => d.parameters.length) = some 3 := by decide +kernel
theorem pv_X1_addPiece : yX1_addPiece.cls = RX1 ∧ yX1_addPiece.cls ≠ "java/lang/invoke/MethodHandle" ∧ yX1_addPiece.cls ≠ "java/lang/invoke/VarHandle" ∧ (parseMethodDescriptor yX1_addPiece.desc).map (fun d => d.parameters.length) = some 6 := by decide +kernel
theorem pv_X1_barSides : yX1_barSides.cls = RX1 ∧ yX1_barSides.cls ≠ "java/lang/invoke/MethodHandle" ∧ yX1_barSides.cls ≠ "java/lang/invoke/VarHandle" ∧ (parseMethodDescriptor yX1_barSides.desc).map (fun d => d.parameters.length) = some 2 := by decide +kernel
theorem pv_X1_becomeRule : yX1_becomeRule.cls = RX1 ∧ yX1_becomeRule.cls ≠ "java/lang/invoke/MethodHandle" ∧ yX1_becomeRule.cls ≠ "java/lang/invoke/VarHandle" ∧ (parseMethodDescriptor yX1_becomeRule.desc).map (fun d => d.parameters.length) = some 2 := by decide +kernel
theorem pv_X1_copyFrom : yX1_copyFrom.cls = RX1 ∧ yX1_copyFrom.cls ≠ "java/lang/invoke/MethodHandle" ∧ yX1_copyFrom.cls ≠ "java/lang/invoke/VarHandle" ∧ (parseMethodDescriptor yX1_copyFrom.desc).map (fun d => d.parameters.length) = some 1 := by decide +kernel
theorem pv_X1_empty : yX1_empty.cls = RX1 ∧ yX1_empty.cls ≠ "java/lang/invoke/MethodHandle" ∧ yX1_empty.cls ≠ "java/lang/invoke/VarHandle" ∧ (parseMethodDescriptor yX1_empty.desc).map (fun d => d.parameters.length) = some 0 := by decide +kernel
theorem pv_X1_enrol : yX1_enrol.cls = RX1 ∧ yX1_enrol.cls ≠ "java/lang/invoke/MethodHandle" ∧ yX1_enrol.cls ≠ "java/lang/invoke/VarHandle" ∧ (parseMethodDescriptor yX1_enrol.desc).map (fun d => d.parameters.length) = some 2 := by decide +kernel
theorem pv_X1_has : yX1_has.cls = RX1 ∧ yX1_has.cls ≠ "java/lang/invoke/MethodHandle" ∧ yX1_has.cls ≠ "java/lang/invoke/VarHandle" ∧ (parseMethodDescriptor yX1_has.desc).map (fun d => d.parameters.length) = some 1 := by decide +kernel
theorem ps_X1_isFace : yX1_isFace.cls ≠ "java/lang/invoke/MethodHandle" ∧ yX1_isFace.cls ≠ "java/lang/invoke/VarHandle" ∧ (parseMethodDescriptor yX1_isFace.desc).map (fun d => d.parameters.length) = some 1 := by decide +kernel
theorem ps_X1_isMoreOf : yX1_isMoreOf.cls ≠ "java/lang/invoke/MethodHandle" ∧ yX1_isMoreOf.cls ≠ "java/lang/invoke/VarHandle" ∧ (parseMethodDescriptor yX1_isMoreOf.desc).map (fun d => d.parameters.length) = some 2 := by decide +kernel
theorem pv_X1_isOfKind : yX1_isOfKind.cls = RX1 ∧ yX1_isOfKind.cls ≠ "java/lang/invoke/MethodHandle" ∧ yX1_isOfKind.cls ≠ "java/lang/invoke/VarHandle" ∧ (parseMethodDescriptor yX1_isOfKind.desc).map (fun d => d.parameters.length) = some 2 := by decide +kernel
theorem pv_X1_show : yX1_show.cls = RX1 ∧ yX1_show.cls ≠ "java/lang/invoke/MethodHandle" ∧ yX1_show.cls ≠ "java/lang/invoke/VarHandle" ∧ (parseMethodDescriptor yX1_show.desc).map (fun d => d.parameters.length) = some 5 := by decide +kernel
theorem pv_X2_canBeAsked : yX2_canBeAsked.cls = RX2 ∧ yX2_canBeAsked.cls ≠ "java/lang/invoke/MethodHandle" ∧ yX2_canBeAsked.cls ≠ "java/lang/invoke/VarHandle" ∧ (parseMethodDescriptor yX2_canBeAsked.desc).map (fun d => d.parameters.length) = some 0 := by decide +kernel
theorem pv_X2_hasRival : yX2_hasRival.cls = RX2 ∧ yX2_hasRival.cls ≠ "java/lang/invoke/MethodHandle" ∧ yX2_hasRival.cls ≠ "java/lang/invoke/VarHandle" ∧ (parseMethodDescriptor yX2_hasRival.desc).map (fun d => d.parameters.length) = some 1 := by decide +kernel
theorem pv_X2_isOfOrderlyKind : yX2_isOfOrderlyKind.cls = RX2 ∧ yX2_isOfOrderlyKind.cls ≠ "java/lang/invoke/MethodHandle" ∧ yX2_isOfOrderlyKind.cls ≠ "java/lang/invoke/VarHandle" ∧ (parseMethodDescriptor yX2_isOfOrderlyKind.desc).map (fun d => d.parameters.length) = some 1 := by decide +kernel
theorem pv_X2_judge : yX2_judge.cls = RX2 ∧ yX2_judge.cls ≠ "java/lang/invoke/MethodHandle" ∧ yX2_judge.cls ≠ "java/lang/invoke/VarHandle" ∧ (parseMethodDescriptor yX2_judge.desc).map (fun d => d.parameters.length) = some 0 := by decide +kernel
theorem pv_X2_laterAround : yX2_laterAround.cls = RX2 ∧ yX2_laterAround.cls ≠ "java/lang/invoke/MethodHandle" ∧ yX2_laterAround.cls ≠ "java/lang/invoke/VarHandle" ∧ (parseMethodDescriptor yX2_laterAround.desc).map (fun d => d.parameters.length) = some 1 := by decide +kernel
theorem ps_X2_numberOf : yX2_numberOf.cls ≠ "java/lang/invoke/MethodHandle" ∧ yX2_numberOf.cls ≠ "java/lang/invoke/VarHandle" ∧ (parseMethodDescriptor yX2_numberOf.desc).map (fun d => d.parameters.length) = some 1 := by decide +kernel
theorem pv_X2_outputsOf : yX2_outputsOf.cls = RX2 ∧ yX2_outputsOf.cls ≠ "java/lang/invoke/MethodHandle" ∧ yX2_outputsOf.cls ≠ "java/lang/invoke/VarHandle" ∧ (parseMethodDescriptor yX2_outputsOf.desc).map (fun d => d.parameters.length) = some 2 := by decide +kernel
theorem pv_X2_wasJustHeld : yX2_wasJustHeld.cls = RX2 ∧ yX2_wasJustHeld.cls ≠ "java/lang/invoke/MethodHandle" ∧ yX2_wasJustHeld.cls ≠ "java/lang/invoke/VarHandle" ∧ (parseMethodDescriptor yX2_wasJustHeld.desc).map (fun d => d.parameters.length) = some 1 := by decide +kernel
theorem pv_X3_addOnce : yX3_addOnce.cls = RX3 ∧ yX3_addOnce.cls ≠ "java/lang/invoke/MethodHandle" ∧ yX3_addOnce.cls ≠ "java/lang/invoke/VarHandle" ∧ (parseMethodDescriptor yX3_addOnce.desc).map (fun d => d.parameters.length) = some 3 := by decide +kernel
theorem pv_X3_begin : yX3_begin.cls = RX3 ∧ yX3_begin.cls ≠ "java/lang/invoke/MethodHandle" ∧ yX3_begin.cls ≠ "java/lang/invoke/VarHandle" ∧ (parseMethodDescriptor yX3_begin.desc).map (fun d => d.parameters.length) = some 0 := by decide +kernel
theorem pv_X3_bringSheetTo : yX3_bringSheetTo.cls = RX3 ∧ yX3_bringSheetTo.cls ≠ "java/lang/invoke/MethodHandle" ∧ yX3_bringSheetTo.cls ≠ "java/lang/invoke/VarHandle" ∧ (parseMethodDescriptor yX3_bringSheetTo.desc).map (fun d => d.parameters.length) = some 1 := by decide +kernel
theorem pv_X3_commonStart : yX3_commonStart.cls = RX3 ∧ yX3_commonStart.cls ≠ "java/lang/invoke/MethodHandle" ∧ yX3_commonStart.cls ≠ "java/lang/invoke/VarHandle" ∧ (parseMethodDescriptor yX3_commonStart.desc).map (fun d => d.parameters.length) = some 2 := by decide +kernel
theorem pv_X3_goThrough : yX3_goThrough.cls = RX3 ∧ yX3_goThrough.cls ≠ "java/lang/invoke/MethodHandle" ∧ yX3_goThrough.cls ≠ "java/lang/invoke/VarHandle" ∧ (parseMethodDescriptor yX3_goThrough.desc).map (fun d => d.parameters.length) = some 3 := by decide +kernel
theorem pv_X3_goThroughLine : yX3_goThroughLine.cls = RX3 ∧ yX3_goThroughLine.cls ≠ "java/lang/invoke/MethodHandle" ∧ yX3_goThroughLine.cls ≠ "java/lang/invoke/VarHandle" ∧ (parseMethodDescriptor yX3_goThroughLine.desc).map (fun d => d.parameters.length) = some 2 := by decide +kernel
theorem pv_X3_heldIn : yX3_heldIn.cls = RX3 ∧ yX3_heldIn.cls ≠ "java/lang/invoke/MethodHandle" ∧ yX3_heldIn.cls ≠ "java/lang/invoke/VarHandle" ∧ (parseMethodDescriptor yX3_heldIn.desc).map (fun d => d.parameters.length) = some 2 := by decide +kernel
theorem pv_X3_isKnown : yX3_isKnown.cls = RX3 ∧ yX3_isKnown.cls ≠ "java/lang/invoke/MethodHandle" ∧ yX3_isKnown.cls ≠ "java/lang/invoke/VarHandle" ∧ (parseMethodDescriptor yX3_isKnown.desc).map (fun d => d.parameters.length) = some 4 := by decide +kernel
theorem pv_X3_isRefused : yX3_isRefused.cls = RX3 ∧ yX3_isRefused.cls ≠ "java/lang/invoke/MethodHandle" ∧ yX3_isRefused.cls ≠ "java/lang/invoke/VarHandle" ∧ (parseMethodDescriptor yX3_isRefused.desc).map (fun d => d.parameters.length) = some 1 := by decide +kernel
theorem pv_X3_isSame : yX3_isSame.cls = RX3 ∧ yX3_isSame.cls ≠ "java/lang/invoke/MethodHandle" ∧ yX3_isSame.cls ≠ "java/lang/invoke/VarHandle" ∧ (parseMethodDescriptor yX3_isSame.desc).map (fun d => d.parameters.length) = some 3 := by decide +kernel
theorem pv_X3_run : yX3_run.cls = RX3 ∧ yX3_run.cls ≠ "java/lang/invoke/MethodHandle" ∧ yX3_run.cls ≠ "java/lang/invoke/VarHandle" ∧ (parseMethodDescriptor yX3_run.desc).map (fun d => d.parameters.length) = some 1 := by decide +kernel
theorem ps_X3_scattered : yX3_scattered.cls ≠ "java/lang/invoke/MethodHandle" ∧ yX3_scattered.cls ≠ "java/lang/invoke/VarHandle" ∧ (parseMethodDescriptor yX3_scattered.desc).map (fun d => d.parameters.length) = some 1 := by decide +kernel
theorem pv_X4_barredAt : yX4_barredAt.cls = RX4 ∧ yX4_barredAt.cls ≠ "java/lang/invoke/MethodHandle" ∧ yX4_barredAt.cls ≠ "java/lang/invoke/VarHandle" ∧ (parseMethodDescriptor yX4_barredAt.desc).map (fun d => d.parameters.length) = some 1 := by decide +kernel
theorem pv_X4_countFits : yX4_countFits.cls = RX4 ∧ yX4_countFits.cls ≠ "java/lang/invoke/MethodHandle" ∧ yX4_countFits.cls ≠ "java/lang/invoke/VarHandle" ∧ (parseMethodDescriptor yX4_countFits.desc).map (fun d => d.parameters.length) = some 0 := by decide +kernel
theorem pv_X4_countLedTo : yX4_countLedTo.cls = RX4 ∧ yX4_countLedTo.cls ≠ "java/lang/invoke/MethodHandle" ∧ yX4_countLedTo.cls ≠ "java/lang/invoke/VarHandle" ∧ (parseMethodDescriptor yX4_countLedTo.desc).map (fun d => d.parameters.length) = some 2 := by decide +kernel
theorem pv_X4_findFit : yX4_findFit.cls = RX4 ∧ yX4_findFit.cls ≠ "java/lang/invoke/MethodHandle" ∧ yX4_findFit.cls ≠ "java/lang/invoke/VarHandle" ∧ (parseMethodDescriptor yX4_findFit.desc).map (fun d => d.parameters.length) = some 1 := by decide +kernel
theorem pv_X4_findInLine : yX4_findInLine.cls = RX4 ∧ yX4_findInLine.cls ≠ "java/lang/invoke/MethodHandle" ∧ yX4_findInLine.cls ≠ "java/lang/invoke/VarHandle" ∧ (parseMethodDescriptor yX4_findInLine.desc).map (fun d => d.parameters.length) = some 2 := by decide +kernel
theorem pv_X4_fitsAt : yX4_fitsAt.cls = RX4 ∧ yX4_fitsAt.cls ≠ "java/lang/invoke/MethodHandle" ∧ yX4_fitsAt.cls ≠ "java/lang/invoke/VarHandle" ∧ (parseMethodDescriptor yX4_fitsAt.desc).map (fun d => d.parameters.length) = some 2 := by decide +kernel
theorem pv_X4_fitsNow : yX4_fitsNow.cls = RX4 ∧ yX4_fitsNow.cls ≠ "java/lang/invoke/MethodHandle" ∧ yX4_fitsNow.cls ≠ "java/lang/invoke/VarHandle" ∧ (parseMethodDescriptor yX4_fitsNow.desc).map (fun d => d.parameters.length) = some 1 := by decide +kernel
theorem pv_X4_hangsTogetherWithout : yX4_hangsTogetherWithout.cls = RX4 ∧ yX4_hangsTogetherWithout.cls ≠ "java/lang/invoke/MethodHandle" ∧ yX4_hangsTogetherWithout.cls ≠ "java/lang/invoke/VarHandle" ∧ (parseMethodDescriptor yX4_hangsTogetherWithout.desc).map (fun d => d.parameters.length) = some 1 := by decide +kernel
theorem pv_X4_hasRoomFor : yX4_hasRoomFor.cls = RX4 ∧ yX4_hasRoomFor.cls ≠ "java/lang/invoke/MethodHandle" ∧ yX4_hasRoomFor.cls ≠ "java/lang/invoke/VarHandle" ∧ (parseMethodDescriptor yX4_hasRoomFor.desc).map (fun d => d.parameters.length) = some 2 := by decide +kernel
theorem pv_X4_heldAt : yX4_heldAt.cls = RX4 ∧ yX4_heldAt.cls ≠ "java/lang/invoke/MethodHandle" ∧ yX4_heldAt.cls ≠ "java/lang/invoke/VarHandle" ∧ (parseMethodDescriptor yX4_heldAt.desc).map (fun d => d.parameters.length) = some 2 := by decide +kernel
theorem pv_X4_heldEnough : yX4_heldEnough.cls = RX4 ∧ yX4_heldEnough.cls ≠ "java/lang/invoke/MethodHandle" ∧ yX4_heldEnough.cls ≠ "java/lang/invoke/VarHandle" ∧ (parseMethodDescriptor yX4_heldEnough.desc).map (fun d => d.parameters.length) = some 0 := by decide +kernel
theorem pv_X4_holdOf : yX4_holdOf.cls = RX4 ∧ yX4_holdOf.cls ≠ "java/lang/invoke/MethodHandle" ∧ yX4_holdOf.cls ≠ "java/lang/invoke/VarHandle" ∧ (parseMethodDescriptor yX4_holdOf.desc).map (fun d => d.parameters.length) = some 2 := by decide +kernel
theorem pv_X4_holdOfCode : yX4_holdOfCode.cls = RX4 ∧ yX4_holdOfCode.cls ≠ "java/lang/invoke/MethodHandle" ∧ yX4_holdOfCode.cls ≠ "java/lang/invoke/VarHandle" ∧ (parseMethodDescriptor yX4_holdOfCode.desc).map (fun d => d.parameters.length) = some 3 := by decide +kernel
theorem pv_X4_isBarredFromBeside : yX4_isBarredFromBeside.cls = RX4 ∧ yX4_isBarredFromBeside.cls ≠ "java/lang/invoke/MethodHandle" ∧ yX4_isBarredFromBeside.cls ≠ "java/lang/invoke/VarHandle" ∧ (parseMethodDescriptor yX4_isBarredFromBeside.desc).map (fun d => d.parameters.length) = some 1 := by decide +kernel
theorem pv_X4_isFree : yX4_isFree.cls = RX4 ∧ yX4_isFree.cls ≠ "java/lang/invoke/MethodHandle" ∧ yX4_isFree.cls ≠ "java/lang/invoke/VarHandle" ∧ (parseMethodDescriptor yX4_isFree.desc).map (fun d => d.parameters.length) = some 1 := by decide +kernel
theorem pv_X4_isRightFree : yX4_isRightFree.cls = RX4 ∧ yX4_isRightFree.cls ≠ "java/lang/invoke/MethodHandle" ∧ yX4_isRightFree.cls ≠ "java/lang/invoke/VarHandle" ∧ (parseMethodDescriptor yX4_isRightFree.desc).map (fun d => d.parameters.length) = some 1 := by decide +kernel
theorem pv_X4_layOut : yX4_layOut.cls = RX4 ∧ yX4_layOut.cls ≠ "java/lang/invoke/MethodHandle" ∧ yX4_layOut.cls ≠ "java/lang/invoke/VarHandle" ∧ (parseMethodDescriptor yX4_layOut.desc).map (fun d => d.parameters.length) = some 1 := by decide +kernel
theorem pv_X4_leadsOn : yX4_leadsOn.cls = RX4 ∧ yX4_leadsOn.cls ≠ "java/lang/invoke/MethodHandle" ∧ yX4_leadsOn.cls ≠ "java/lang/invoke/VarHandle" ∧ (parseMethodDescriptor yX4_leadsOn.desc).map (fun d => d.parameters.length) = some 2 := by decide +kernel
theorem pv_X4_lift : yX4_lift.cls = RX4 ∧ yX4_lift.cls ≠ "java/lang/invoke/MethodHandle" ∧ yX4_lift.cls ≠ "java/lang/invoke/VarHandle" ∧ (parseMethodDescriptor yX4_lift.desc).map (fun d => d.parameters.length) = some 1 := by decide +kernel
theorem ps_X4_lowestBitAfter : yX4_lowestBitAfter.cls ≠ "java/lang/invoke/MethodHandle" ∧ yX4_lowestBitAfter.cls ≠ "java/lang/invoke/VarHandle" ∧ (parseMethodDescriptor yX4_lowestBitAfter.desc).map (fun d => d.parameters.length) = some 2 := by decide +kernel
theorem pv_X4_markStale : yX4_markStale.cls = RX4 ∧ yX4_markStale.cls ≠ "java/lang/invoke/MethodHandle" ∧ yX4_markStale.cls ≠ "java/lang/invoke/VarHandle" ∧ (parseMethodDescriptor yX4_markStale.desc).map (fun d => d.parameters.length) = some 1 := by decide +kernel
theorem pv_X4_mayLeave : yX4_mayLeave.cls = RX4 ∧ yX4_mayLeave.cls ≠ "java/lang/invoke/MethodHandle" ∧ yX4_mayLeave.cls ≠ "java/lang/invoke/VarHandle" ∧ (parseMethodDescriptor yX4_mayLeave.desc).map (fun d => d.parameters.length) = some 1 := by decide +kernel
theorem pv_X4_putDown : yX4_putDown.cls = RX4 ∧ yX4_putDown.cls ≠ "java/lang/invoke/MethodHandle" ∧ yX4_putDown.cls ≠ "java/lang/invoke/VarHandle" ∧ (parseMethodDescriptor yX4_putDown.desc).map (fun d => d.parameters.length) = some 2 := by decide +kernel
theorem pv_X4_renewStale : yX4_renewStale.cls = RX4 ∧ yX4_renewStale.cls ≠ "java/lang/invoke/MethodHandle" ∧ yX4_renewStale.cls ≠ "java/lang/invoke/VarHandle" ∧ (parseMethodDescriptor yX4_renewStale.desc).map (fun d => d.parameters.length) = some 0 := by decide +kernel
theorem pv_X4_startSums : yX4_startSums.cls = RX4 ∧ yX4_startSums.cls ≠ "java/lang/invoke/MethodHandle" ∧ yX4_startSums.cls ≠ "java/lang/invoke/VarHandle" ∧ (parseMethodDescriptor yX4_startSums.desc).map (fun d => d.parameters.length) = some 0 := by decide +kernel
theorem pv_X4_strengthAt : yX4_strengthAt.cls = RX4 ∧ yX4_strengthAt.cls ≠ "java/lang/invoke/MethodHandle" ∧ yX4_strengthAt.cls ≠ "java/lang/invoke/VarHandle" ∧ (parseMethodDescriptor yX4_strengthAt.desc).map (fun d => d.parameters.length) = some 3 := by decide +kernel
theorem pv_X4_sumUp : yX4_sumUp.cls = RX4 ∧ yX4_sumUp.cls ≠ "java/lang/invoke/MethodHandle" ∧ yX4_sumUp.cls ≠ "java/lang/invoke/VarHandle" ∧ (parseMethodDescriptor yX4_sumUp.desc).map (fun d => d.parameters.length) = some 3 := by decide +kernel
theorem pv_X4_sweep : yX4_sweep.cls = RX4 ∧ yX4_sweep.cls ≠ "java/lang/invoke/MethodHandle" ∧ yX4_sweep.cls ≠ "java/lang/invoke/VarHandle" ∧ (parseMethodDescriptor yX4_sweep.desc).map (fun d => d.parameters.length) = some 0 := by decide +kernel
theorem pv_X4_touch : yX4_touch.cls = RX4 ∧ yX4_touch.cls ≠ "java/lang/invoke/MethodHandle" ∧ yX4_touch.cls ≠ "java/lang/invoke/VarHandle" ∧ (parseMethodDescriptor yX4_touch.desc).map (fun d => d.parameters.length) = some 1 := by decide +kernel
theorem pv_X4_touchAll : yX4_touchAll.cls = RX4 ∧ yX4_touchAll.cls ≠ "java/lang/invoke/MethodHandle" ∧ yX4_touchAll.cls ≠ "java/lang/invoke/VarHandle" ∧ (parseMethodDescriptor yX4_touchAll.desc).map (fun d => d.parameters.length) = some 0 := by decide +kernel
theorem pv_X5_areAllKept : yX5_areAllKept.cls = RX5 ∧ yX5_areAllKept.cls ≠ "java/lang/invoke/MethodHandle" ∧ yX5_areAllKept.cls ≠ "java/lang/invoke/VarHandle" ∧ (parseMethodDescriptor yX5_areAllKept.desc).map (fun d => d.parameters.length) = some 0 := by decide +kernel
theorem pv_X5_dropLatest : yX5_dropLatest.cls = RX5 ∧ yX5_dropLatest.cls ≠ "java/lang/invoke/MethodHandle" ∧ yX5_dropLatest.cls ≠ "java/lang/invoke/VarHandle" ∧ (parseMethodDescriptor yX5_dropLatest.desc).map (fun d => d.parameters.length) = some 0 := by decide +kernel
theorem pv_X5_note : yX5_note.cls = RX5 ∧ yX5_note.cls ≠ "java/lang/invoke/MethodHandle" ∧ yX5_note.cls ≠ "java/lang/invoke/VarHandle" ∧ (parseMethodDescriptor yX5_note.desc).map (fun d => d.parameters.length) = some 3 := by decide +kernel
theorem pv_X5_restart : yX5_restart.cls = RX5 ∧ yX5_restart.cls ≠ "java/lang/invoke/MethodHandle" ∧ yX5_restart.cls ≠ "java/lang/invoke/VarHandle" ∧ (parseMethodDescriptor yX5_restart.desc).map (fun d => d.parameters.length) = some 1 := by decide +kernel
theorem pv_X6_addTo : yX6_addTo.cls = RX6 ∧ yX6_addTo.cls ≠ "java/lang/invoke/MethodHandle" ∧ yX6_addTo.cls ≠ "java/lang/invoke/VarHandle" ∧ (parseMethodDescriptor yX6_addTo.desc).map (fun d => d.parameters.length) = some 2 := by decide +kernel
theorem pv_X6_append : yX6_append.cls = RX6 ∧ yX6_append.cls ≠ "java/lang/invoke/MethodHandle" ∧ yX6_append.cls ≠ "java/lang/invoke/VarHandle" ∧ (parseMethodDescriptor yX6_append.desc).map (fun d => d.parameters.length) = some 1 := by decide +kernel
theorem pv_X6_hasRoomForFive : yX6_hasRoomForFive.cls = RX6 ∧ yX6_hasRoomForFive.cls ≠ "java/lang/invoke/MethodHandle" ∧ yX6_hasRoomForFive.cls ≠ "java/lang/invoke/VarHandle" ∧ (parseMethodDescriptor yX6_hasRoomForFive.desc).map (fun d => d.parameters.length) = some 0 := by decide +kernel
theorem ps_X7_bitOf : yX7_bitOf.cls ≠ "java/lang/invoke/MethodHandle" ∧ yX7_bitOf.cls ≠ "java/lang/invoke/VarHandle" ∧ (parseMethodDescriptor yX7_bitOf.desc).map (fun d => d.parameters.length) = some 2 := by decide +kernel
theorem ps_X7_columnOf : yX7_columnOf.cls ≠ "java/lang/invoke/MethodHandle" ∧ yX7_columnOf.cls ≠ "java/lang/invoke/VarHandle" ∧ (parseMethodDescriptor yX7_columnOf.desc).map (fun d => d.parameters.length) = some 1 := by decide +kernel
theorem pv_X7_drawOf : yX7_drawOf.cls = RX7 ∧ yX7_drawOf.cls ≠ "java/lang/invoke/MethodHandle" ∧ yX7_drawOf.cls ≠ "java/lang/invoke/VarHandle" ∧ (parseMethodDescriptor yX7_drawOf.desc).map (fun d => d.parameters.length) = some 1 := by decide +kernel
theorem ps_X7_isOnSheet : yX7_isOnSheet.cls ≠ "java/lang/invoke/MethodHandle" ∧ yX7_isOnSheet.cls ≠ "java/lang/invoke/VarHandle" ∧ (parseMethodDescriptor yX7_isOnSheet.desc).map (fun d => d.parameters.length) = some 1 := by decide +kernel
theorem ps_X7_lineOf : yX7_lineOf.cls ≠ "java/lang/invoke/MethodHandle" ∧ yX7_lineOf.cls ≠ "java/lang/invoke/VarHandle" ∧ (parseMethodDescriptor yX7_lineOf.desc).map (fun d => d.parameters.length) = some 1 := by decide +kernel
theorem ps_X7_ownPlace : yX7_ownPlace.cls ≠ "java/lang/invoke/MethodHandle" ∧ yX7_ownPlace.cls ≠ "java/lang/invoke/VarHandle" ∧ (parseMethodDescriptor yX7_ownPlace.desc).map (fun d => d.parameters.length) = some 2 := by decide +kernel
theorem ps_X7_pieceIn : yX7_pieceIn.cls ≠ "java/lang/invoke/MethodHandle" ∧ yX7_pieceIn.cls ≠ "java/lang/invoke/VarHandle" ∧ (parseMethodDescriptor yX7_pieceIn.desc).map (fun d => d.parameters.length) = some 1 := by decide +kernel
theorem ps_X7_placeOf : yX7_placeOf.cls ≠ "java/lang/invoke/MethodHandle" ∧ yX7_placeOf.cls ≠ "java/lang/invoke/VarHandle" ∧ (parseMethodDescriptor yX7_placeOf.desc).map (fun d => d.parameters.length) = some 2 := by decide +kernel
theorem pv_X7_stepDown : yX7_stepDown.cls = RX7 ∧ yX7_stepDown.cls ≠ "java/lang/invoke/MethodHandle" ∧ yX7_stepDown.cls ≠ "java/lang/invoke/VarHandle" ∧ (parseMethodDescriptor yX7_stepDown.desc).map (fun d => d.parameters.length) = some 3 := by decide +kernel
theorem pv_X7_takeBackLatest : yX7_takeBackLatest.cls = RX7 ∧ yX7_takeBackLatest.cls ≠ "java/lang/invoke/MethodHandle" ∧ yX7_takeBackLatest.cls ≠ "java/lang/invoke/VarHandle" ∧ (parseMethodDescriptor yX7_takeBackLatest.desc).map (fun d => d.parameters.length) = some 0 := by decide +kernel
theorem pv_X8_away : yX8_away.cls = RX8 ∧ yX8_away.cls ≠ "java/lang/invoke/MethodHandle" ∧ yX8_away.cls ≠ "java/lang/invoke/VarHandle" ∧ (parseMethodDescriptor yX8_away.desc).map (fun d => d.parameters.length) = some 3 := by decide +kernel
theorem pv_X8_canBeAsked : yX8_canBeAsked.cls = RX8 ∧ yX8_canBeAsked.cls ≠ "java/lang/invoke/MethodHandle" ∧ yX8_canBeAsked.cls ≠ "java/lang/invoke/VarHandle" ∧ (parseMethodDescriptor yX8_canBeAsked.desc).map (fun d => d.parameters.length) = some 0 := by decide +kernel
theorem pv_X8_choiceAt : yX8_choiceAt.cls = RX8 ∧ yX8_choiceAt.cls ≠ "java/lang/invoke/MethodHandle" ∧ yX8_choiceAt.cls ≠ "java/lang/invoke/VarHandle" ∧ (parseMethodDescriptor yX8_choiceAt.desc).map (fun d => d.parameters.length) = some 1 := by decide +kernel
theorem pv_X8_choices : yX8_choices.cls = RX8 ∧ yX8_choices.cls ≠ "java/lang/invoke/MethodHandle" ∧ yX8_choices.cls ≠ "java/lang/invoke/VarHandle" ∧ (parseMethodDescriptor yX8_choices.desc).map (fun d => d.parameters.length) = some 0 := by decide +kernel
theorem pv_X8_clear : yX8_clear.cls = RX8 ∧ yX8_clear.cls ≠ "java/lang/invoke/MethodHandle" ∧ yX8_clear.cls ≠ "java/lang/invoke/VarHandle" ∧ (parseMethodDescriptor yX8_clear.desc).map (fun d => d.parameters.length) = some 0 := by decide +kernel
theorem pv_X8_found : yX8_found.cls = RX8 ∧ yX8_found.cls ≠ "java/lang/invoke/MethodHandle" ∧ yX8_found.cls ≠ "java/lang/invoke/VarHandle" ∧ (parseMethodDescriptor yX8_found.desc).map (fun d => d.parameters.length) = some 0 := by decide +kernel
theorem pv_X8_four : yX8_four.cls = RX8 ∧ yX8_four.cls ≠ "java/lang/invoke/MethodHandle" ∧ yX8_four.cls ≠ "java/lang/invoke/VarHandle" ∧ (parseMethodDescriptor yX8_four.desc).map (fun d => d.parameters.length) = some 1 := by decide +kernel
theorem pv_X8_glueOf : yX8_glueOf.cls = RX8 ∧ yX8_glueOf.cls ≠ "java/lang/invoke/MethodHandle" ∧ yX8_glueOf.cls ≠ "java/lang/invoke/VarHandle" ∧ (parseMethodDescriptor yX8_glueOf.desc).map (fun d => d.parameters.length) = some 3 := by decide +kernel
theorem pv_X8_hangs : yX8_hangs.cls = RX8 ∧ yX8_hangs.cls ≠ "java/lang/invoke/MethodHandle" ∧ yX8_hangs.cls ≠ "java/lang/invoke/VarHandle" ∧ (parseMethodDescriptor yX8_hangs.desc).map (fun d => d.parameters.length) = some 1 := by decide +kernel
theorem pv_X8_holdAt : yX8_holdAt.cls = RX8 ∧ yX8_holdAt.cls ≠ "java/lang/invoke/MethodHandle" ∧ yX8_holdAt.cls ≠ "java/lang/invoke/VarHandle" ∧ (parseMethodDescriptor yX8_holdAt.desc).map (fun d => d.parameters.length) = some 7 := by decide +kernel
theorem pv_X8_holdOf : yX8_holdOf.cls = RX8 ∧ yX8_holdOf.cls ≠ "java/lang/invoke/MethodHandle" ∧ yX8_holdOf.cls ≠ "java/lang/invoke/VarHandle" ∧ (parseMethodDescriptor yX8_holdOf.desc).map (fun d => d.parameters.length) = some 5 := by decide +kernel
theorem pv_X8_isAlone : yX8_isAlone.cls = RX8 ∧ yX8_isAlone.cls ≠ "java/lang/invoke/MethodHandle" ∧ yX8_isAlone.cls ≠ "java/lang/invoke/VarHandle" ∧ (parseMethodDescriptor yX8_isAlone.desc).map (fun d => d.parameters.length) = some 2 := by decide +kernel
theorem pv_X8_isBarred : yX8_isBarred.cls = RX8 ∧ yX8_isBarred.cls ≠ "java/lang/invoke/MethodHandle" ∧ yX8_isBarred.cls ≠ "java/lang/invoke/VarHandle" ∧ (parseMethodDescriptor yX8_isBarred.desc).map (fun d => d.parameters.length) = some 2 := by decide +kernel
theorem pv_X8_isClear : yX8_isClear.cls = RX8 ∧ yX8_isClear.cls ≠ "java/lang/invoke/MethodHandle" ∧ yX8_isClear.cls ≠ "java/lang/invoke/VarHandle" ∧ (parseMethodDescriptor yX8_isClear.desc).map (fun d => d.parameters.length) = some 0 := by decide +kernel
theorem pv_X8_isFree : yX8_isFree.cls = RX8 ∧ yX8_isFree.cls ≠ "java/lang/invoke/MethodHandle" ∧ yX8_isFree.cls ≠ "java/lang/invoke/VarHandle" ∧ (parseMethodDescriptor yX8_isFree.desc).map (fun d => d.parameters.length) = some 5 := by decide +kernel
theorem ps_X8_isGlue : yX8_isGlue.cls ≠ "java/lang/invoke/MethodHandle" ∧ yX8_isGlue.cls ≠ "java/lang/invoke/VarHandle" ∧ (parseMethodDescriptor yX8_isGlue.desc).map (fun d => d.parameters.length) = some 1 := by decide +kernel
theorem ps_X8_isMore : yX8_isMore.cls ≠ "java/lang/invoke/MethodHandle" ∧ yX8_isMore.cls ≠ "java/lang/invoke/VarHandle" ∧ (parseMethodDescriptor yX8_isMore.desc).map (fun d => d.parameters.length) = some 2 := by decide +kernel
theorem ps_X8_isOn : yX8_isOn.cls ≠ "java/lang/invoke/MethodHandle" ∧ yX8_isOn.cls ≠ "java/lang/invoke/VarHandle" ∧ (parseMethodDescriptor yX8_isOn.desc).map (fun d => d.parameters.length) = some 2 := by decide +kernel
theorem pv_X8_isOpen : yX8_isOpen.cls = RX8 ∧ yX8_isOpen.cls ≠ "java/lang/invoke/MethodHandle" ∧ yX8_isOpen.cls ≠ "java/lang/invoke/VarHandle" ∧ (parseMethodDescriptor yX8_isOpen.desc).map (fun d => d.parameters.length) = some 5 := by decide +kernel
theorem pv_X8_isPiece : yX8_isPiece.cls = RX8 ∧ yX8_isPiece.cls ≠ "java/lang/invoke/MethodHandle" ∧ yX8_isPiece.cls ≠ "java/lang/invoke/VarHandle" ∧ (parseMethodDescriptor yX8_isPiece.desc).map (fun d => d.parameters.length) = some 1 := by decide +kernel
theorem pv_X8_lay : yX8_lay.cls = RX8 ∧ yX8_lay.cls ≠ "java/lang/invoke/MethodHandle" ∧ yX8_lay.cls ≠ "java/lang/invoke/VarHandle" ∧ (parseMethodDescriptor yX8_lay.desc).map (fun d => d.parameters.length) = some 4 := by decide +kernel
theorem pv_X8_may : yX8_may.cls = RX8 ∧ yX8_may.cls ≠ "java/lang/invoke/MethodHandle" ∧ yX8_may.cls ≠ "java/lang/invoke/VarHandle" ∧ (parseMethodDescriptor yX8_may.desc).map (fun d => d.parameters.length) = some 3 := by decide +kernel
theorem pv_X8_mayCome : yX8_mayCome.cls = RX8 ∧ yX8_mayCome.cls ≠ "java/lang/invoke/MethodHandle" ∧ yX8_mayCome.cls ≠ "java/lang/invoke/VarHandle" ∧ (parseMethodDescriptor yX8_mayCome.desc).map (fun d => d.parameters.length) = some 5 := by decide +kernel
theorem pv_X8_noSteps : yX8_noSteps.cls = RX8 ∧ yX8_noSteps.cls ≠ "java/lang/invoke/MethodHandle" ∧ yX8_noSteps.cls ≠ "java/lang/invoke/VarHandle" ∧ (parseMethodDescriptor yX8_noSteps.desc).map (fun d => d.parameters.length) = some 0 := by decide +kernel
theorem pv_X8_of : yX8_of.cls = RX8 ∧ yX8_of.cls ≠ "java/lang/invoke/MethodHandle" ∧ yX8_of.cls ≠ "java/lang/invoke/VarHandle" ∧ (parseMethodDescriptor yX8_of.desc).map (fun d => d.parameters.length) = some 3 := by decide +kernel
theorem pv_X8_piece : yX8_piece.cls = RX8 ∧ yX8_piece.cls ≠ "java/lang/invoke/MethodHandle" ∧ yX8_piece.cls ≠ "java/lang/invoke/VarHandle" ∧ (parseMethodDescriptor yX8_piece.desc).map (fun d => d.parameters.length) = some 6 := by decide +kernel
theorem pv_X8_piecesOn : yX8_piecesOn.cls = RX8 ∧ yX8_piecesOn.cls ≠ "java/lang/invoke/MethodHandle" ∧ yX8_piecesOn.cls ≠ "java/lang/invoke/VarHandle" ∧ (parseMethodDescriptor yX8_piecesOn.desc).map (fun d => d.parameters.length) = some 2 := by decide +kernel
theorem pv_X8_puts : yX8_puts.cls = RX8 ∧ yX8_puts.cls ≠ "java/lang/invoke/MethodHandle" ∧ yX8_puts.cls ≠ "java/lang/invoke/VarHandle" ∧ (parseMethodDescriptor yX8_puts.desc).map (fun d => d.parameters.length) = some 4 := by decide +kernel
theorem pv_X8_seed : yX8_seed.cls = RX8 ∧ yX8_seed.cls ≠ "java/lang/invoke/MethodHandle" ∧ yX8_seed.cls ≠ "java/lang/invoke/VarHandle" ∧ (parseMethodDescriptor yX8_seed.desc).map (fun d => d.parameters.length) = some 3 := by decide +kernel
theorem pv_X8_setSince : yX8_setSince.cls = RX8 ∧ yX8_setSince.cls ≠ "java/lang/invoke/MethodHandle" ∧ yX8_setSince.cls ≠ "java/lang/invoke/VarHandle" ∧ (parseMethodDescriptor yX8_setSince.desc).map (fun d => d.parameters.length) = some 3 := by decide +kernel
theorem pv_X8_step : yX8_step.cls = RX8 ∧ yX8_step.cls ≠ "java/lang/invoke/MethodHandle" ∧ yX8_step.cls ≠ "java/lang/invoke/VarHandle" ∧ (parseMethodDescriptor yX8_step.desc).map (fun d => d.parameters.length) = some 4 := by decide +kernel
theorem ps_X8_xAt : yX8_xAt.cls ≠ "java/lang/invoke/MethodHandle" ∧ yX8_xAt.cls ≠ "java/lang/invoke/VarHandle" ∧ (parseMethodDescriptor yX8_xAt.desc).map (fun d => d.parameters.length) = some 1 := by decide +kernel
theorem ps_X8_yAt : yX8_yAt.cls ≠ "java/lang/invoke/MethodHandle" ∧ yX8_yAt.cls ≠ "java/lang/invoke/VarHandle" ∧ (parseMethodDescriptor yX8_yAt.desc).map (fun d => d.parameters.length) = some 1 := by decide +kernel
theorem in_X1_copyFrom_X1 : ∀ w ∈ u_ws RX1 TX1 13, w ∈ wsX1_copyFrom := fun _ h => List.mem_cons_of_mem _ ((List.mem_append_right _ h))
theorem in_X0_take_X0 : ∀ w ∈ u_ws RX0 TX0 3, w ∈ wsX0_take := fun _ h => List.mem_cons_of_mem _ (List.mem_append_left _ (List.mem_append_left _ ((List.mem_append_right _ h))))
theorem in_X0_take_X4 : ∀ w ∈ u_ws RX4 TX4 15, w ∈ wsX0_take := fun _ h => List.mem_cons_of_mem _ (List.mem_append_left _ ((List.mem_append_right _ h)))
theorem in_X1_has_X1 : ∀ w ∈ u_ws RX1 TX1 13, w ∈ wsX1_has := fun _ h => List.mem_cons_of_mem _ ((List.mem_append_right _ h))
theorem in_X1_isOfKind_X1 : ∀ w ∈ u_ws RX1 TX1 13, w ∈ wsX1_isOfKind := fun _ h => List.mem_cons_of_mem _ ((List.mem_append_right _ h))
theorem in_X1_enrol_X1 : ∀ w ∈ u_ws RX1 TX1 13, w ∈ wsX1_enrol := fun _ h => List.mem_cons_of_mem _ ((List.mem_append_right _ h))
theorem in_X1_barSides_X1 : ∀ w ∈ u_ws RX1 TX1 13, w ∈ wsX1_barSides := fun _ h => List.mem_cons_of_mem _ ((List.mem_append_right _ h))
theorem in_X1_show_X1 : ∀ w ∈ u_ws RX1 TX1 13, w ∈ wsX1_show := fun _ h => List.mem_cons_of_mem _ ((List.mem_append_right _ h))
theorem in_X1_addPiece_X1 : ∀ w ∈ u_ws RX1 TX1 13, w ∈ wsX1_addPiece := fun _ h => List.mem_cons_of_mem _ ((List.mem_append_right _ h))
theorem in_X1_empty_X1 : ∀ w ∈ u_ws RX1 TX1 13, w ∈ wsX1_empty := fun _ h => List.mem_cons_of_mem _ ((List.mem_append_right _ h))
theorem in_X1_becomeRule_X1 : ∀ w ∈ u_ws RX1 TX1 13, w ∈ wsX1_becomeRule := fun _ h => List.mem_cons_of_mem _ ((List.mem_append_right _ h))
theorem in_X5_areAllKept_X5 : ∀ w ∈ u_ws RX5 TX5 8, w ∈ wsX5_areAllKept := fun _ h => List.mem_cons_of_mem _ ((List.mem_append_right _ h))
theorem in_X2_isOfOrderlyKind_X1 : ∀ w ∈ u_ws RX1 TX1 13, w ∈ wsX2_isOfOrderlyKind := fun _ h => List.mem_cons_of_mem _ ((List.mem_append_right _ h))
theorem in_X2_isOfOrderlyKind_X2 : ∀ w ∈ u_ws RX2 TX2 3, w ∈ wsX2_isOfOrderlyKind := fun _ h => List.mem_cons_of_mem _ (List.mem_append_left _ ((List.mem_append_right _ h)))
theorem in_X2_canBeAsked_X2 : ∀ w ∈ u_ws RX2 TX2 3, w ∈ wsX2_canBeAsked := fun _ h => List.mem_cons_of_mem _ (List.mem_append_left _ (List.mem_append_left _ ((List.mem_append_right _ h))))
theorem in_X2_canBeAsked_X5 : ∀ w ∈ u_ws RX5 TX5 8, w ∈ wsX2_canBeAsked := fun _ h => List.mem_cons_of_mem _ (List.mem_append_left _ ((List.mem_append_right _ h)))
theorem in_X4_isFree_X4 : ∀ w ∈ u_ws RX4 TX4 15, w ∈ wsX4_isFree := fun _ h => List.mem_cons_of_mem _ ((List.mem_append_right _ h))
theorem in_X2_laterAround_X2 : ∀ w ∈ u_ws RX2 TX2 3, w ∈ wsX2_laterAround := fun _ h => List.mem_cons_of_mem _ (List.mem_append_left _ (List.mem_append_left _ ((List.mem_append_right _ h))))
theorem in_X2_laterAround_X5 : ∀ w ∈ u_ws RX5 TX5 8, w ∈ wsX2_laterAround := fun _ h => List.mem_cons_of_mem _ (List.mem_append_left _ ((List.mem_append_right _ h)))
theorem in_X4_strengthAt_X1 : ∀ w ∈ u_ws RX1 TX1 13, w ∈ wsX4_strengthAt := fun _ h => List.mem_cons_of_mem _ ((List.mem_append_right _ h))
theorem in_X4_strengthAt_X4 : ∀ w ∈ u_ws RX4 TX4 15, w ∈ wsX4_strengthAt := fun _ h => List.mem_cons_of_mem _ (List.mem_append_left _ ((List.mem_append_right _ h)))
theorem in_X2_wasJustHeld_X1 : ∀ w ∈ u_ws RX1 TX1 13, w ∈ wsX2_wasJustHeld := fun _ h => List.mem_cons_of_mem _ (List.mem_append_left _ ((List.mem_append_right _ h)))
theorem in_X2_wasJustHeld_X2 : ∀ w ∈ u_ws RX2 TX2 3, w ∈ wsX2_wasJustHeld := fun _ h => List.mem_cons_of_mem _ (List.mem_append_left _ (List.mem_append_left _ (List.mem_append_left _ ((List.mem_append_right _ h)))))
theorem in_X2_wasJustHeld_X5 : ∀ w ∈ u_ws RX5 TX5 8, w ∈ wsX2_wasJustHeld := fun _ h => List.mem_cons_of_mem _ (List.mem_append_left _ (List.mem_append_left _ ((List.mem_append_right _ h))))
theorem in_X2_outputsOf_X2 : ∀ w ∈ u_ws RX2 TX2 3, w ∈ wsX2_outputsOf := fun _ h => List.mem_cons_of_mem _ (List.mem_append_left _ (List.mem_append_left _ (List.mem_append_left _ ((List.mem_append_right _ h)))))
theorem in_X4_startSums_X4 : ∀ w ∈ u_ws RX4 TX4 15, w ∈ wsX4_startSums := fun _ h => List.mem_cons_of_mem _ ((List.mem_append_right _ h))
theorem in_X4_sumUp_X1 : ∀ w ∈ u_ws RX1 TX1 13, w ∈ wsX4_sumUp := fun _ h => List.mem_cons_of_mem _ ((List.mem_append_right _ h))
theorem in_X4_sumUp_X4 : ∀ w ∈ u_ws RX4 TX4 15, w ∈ wsX4_sumUp := fun _ h => List.mem_cons_of_mem _ (List.mem_append_left _ ((List.mem_append_right _ h)))
theorem in_X4_heldEnough_X1 : ∀ w ∈ u_ws RX1 TX1 13, w ∈ wsX4_heldEnough := fun _ h => List.mem_cons_of_mem _ ((List.mem_append_right _ h))
theorem in_X4_heldEnough_X4 : ∀ w ∈ u_ws RX4 TX4 15, w ∈ wsX4_heldEnough := fun _ h => List.mem_cons_of_mem _ (List.mem_append_left _ ((List.mem_append_right _ h)))
theorem in_X4_heldAt_X1 : ∀ w ∈ u_ws RX1 TX1 13, w ∈ wsX4_heldAt := fun _ h => List.mem_cons_of_mem _ ((List.mem_append_right _ h))
theorem in_X4_heldAt_X4 : ∀ w ∈ u_ws RX4 TX4 15, w ∈ wsX4_heldAt := fun _ h => List.mem_cons_of_mem _ (List.mem_append_left _ ((List.mem_append_right _ h)))
theorem in_X2_hasRival_X1 : ∀ w ∈ u_ws RX1 TX1 13, w ∈ wsX2_hasRival := fun _ h => List.mem_cons_of_mem _ (List.mem_append_left _ ((List.mem_append_right _ h)))
theorem in_X2_hasRival_X2 : ∀ w ∈ u_ws RX2 TX2 3, w ∈ wsX2_hasRival := fun _ h => List.mem_cons_of_mem _ (List.mem_append_left _ (List.mem_append_left _ (List.mem_append_left _ ((List.mem_append_right _ h)))))
theorem in_X2_hasRival_X5 : ∀ w ∈ u_ws RX5 TX5 8, w ∈ wsX2_hasRival := fun _ h => List.mem_cons_of_mem _ (List.mem_append_left _ (List.mem_append_left _ ((List.mem_append_right _ h))))
theorem in_X4_isRightFree_X4 : ∀ w ∈ u_ws RX4 TX4 15, w ∈ wsX4_isRightFree := fun _ h => List.mem_cons_of_mem _ ((List.mem_append_right _ h))
theorem in_X4_isBarredFromBeside_X1 : ∀ w ∈ u_ws RX1 TX1 13, w ∈ wsX4_isBarredFromBeside := fun _ h => List.mem_cons_of_mem _ ((List.mem_append_right _ h))
theorem in_X4_isBarredFromBeside_X4 : ∀ w ∈ u_ws RX4 TX4 15, w ∈ wsX4_isBarredFromBeside := fun _ h => List.mem_cons_of_mem _ (List.mem_append_left _ ((List.mem_append_right _ h)))
theorem in_X4_barredAt_X1 : ∀ w ∈ u_ws RX1 TX1 13, w ∈ wsX4_barredAt := fun _ h => List.mem_cons_of_mem _ ((List.mem_append_right _ h))
theorem in_X4_barredAt_X4 : ∀ w ∈ u_ws RX4 TX4 15, w ∈ wsX4_barredAt := fun _ h => List.mem_cons_of_mem _ (List.mem_append_left _ ((List.mem_append_right _ h)))
theorem in_X4_fitsNow_X1 : ∀ w ∈ u_ws RX1 TX1 13, w ∈ wsX4_fitsNow := fun _ h => List.mem_cons_of_mem _ ((List.mem_append_right _ h))
theorem in_X4_fitsNow_X4 : ∀ w ∈ u_ws RX4 TX4 15, w ∈ wsX4_fitsNow := fun _ h => List.mem_cons_of_mem _ (List.mem_append_left _ ((List.mem_append_right _ h)))
theorem in_X4_renewStale_X4 : ∀ w ∈ u_ws RX4 TX4 15, w ∈ wsX4_renewStale := fun _ h => List.mem_cons_of_mem _ (List.mem_append_left _ ((List.mem_append_right _ h)))
theorem in_X4_countFits_X4 : ∀ w ∈ u_ws RX4 TX4 15, w ∈ wsX4_countFits := fun _ h => List.mem_cons_of_mem _ (List.mem_append_left _ ((List.mem_append_right _ h)))
theorem in_X2_judge_X2 : ∀ w ∈ u_ws RX2 TX2 3, w ∈ wsX2_judge := fun _ h => List.mem_cons_of_mem _ (List.mem_append_left _ (List.mem_append_left _ (List.mem_append_left _ ((List.mem_append_right _ h)))))
theorem in_X2_judge_X5 : ∀ w ∈ u_ws RX5 TX5 8, w ∈ wsX2_judge := fun _ h => List.mem_cons_of_mem _ (List.mem_append_left _ (List.mem_append_left _ ((List.mem_append_right _ h))))
theorem in_X3_isRefused_X3 : ∀ w ∈ u_ws RX3 TX3 16, w ∈ wsX3_isRefused := fun _ h => List.mem_cons_of_mem _ (List.mem_append_left _ ((List.mem_append_right _ h)))
theorem in_X3_isRefused_X4 : ∀ w ∈ u_ws RX4 TX4 15, w ∈ wsX3_isRefused := fun _ h => List.mem_cons_of_mem _ ((List.mem_append_right _ h))
theorem in_X3_begin_X3 : ∀ w ∈ u_ws RX3 TX3 16, w ∈ wsX3_begin := fun _ h => List.mem_cons_of_mem _ (List.mem_append_left _ ((List.mem_append_right _ h)))
theorem in_X3_begin_X4 : ∀ w ∈ u_ws RX4 TX4 15, w ∈ wsX3_begin := fun _ h => List.mem_cons_of_mem _ ((List.mem_append_right _ h))
theorem in_X3_commonStart_X3 : ∀ w ∈ u_ws RX3 TX3 16, w ∈ wsX3_commonStart := fun _ h => List.mem_cons_of_mem _ ((List.mem_append_right _ h))
theorem in_X4_markStale_X4 : ∀ w ∈ u_ws RX4 TX4 15, w ∈ wsX4_markStale := fun _ h => List.mem_cons_of_mem _ ((List.mem_append_right _ h))
theorem in_X4_lift_X1 : ∀ w ∈ u_ws RX1 TX1 13, w ∈ wsX4_lift := fun _ h => List.mem_cons_of_mem _ ((List.mem_append_right _ h))
theorem in_X4_lift_X4 : ∀ w ∈ u_ws RX4 TX4 15, w ∈ wsX4_lift := fun _ h => List.mem_cons_of_mem _ (List.mem_append_left _ ((List.mem_append_right _ h)))
theorem in_X4_putDown_X1 : ∀ w ∈ u_ws RX1 TX1 13, w ∈ wsX4_putDown := fun _ h => List.mem_cons_of_mem _ ((List.mem_append_right _ h))
theorem in_X4_putDown_X4 : ∀ w ∈ u_ws RX4 TX4 15, w ∈ wsX4_putDown := fun _ h => List.mem_cons_of_mem _ (List.mem_append_left _ ((List.mem_append_right _ h)))
theorem in_X3_bringSheetTo_X3 : ∀ w ∈ u_ws RX3 TX3 16, w ∈ wsX3_bringSheetTo := fun _ h => List.mem_cons_of_mem _ (List.mem_append_left _ (List.mem_append_left _ ((List.mem_append_right _ h))))
theorem in_X3_isSame_X3 : ∀ w ∈ u_ws RX3 TX3 16, w ∈ wsX3_isSame := fun _ h => List.mem_cons_of_mem _ (List.mem_append_left _ ((List.mem_append_right _ h)))
theorem in_X3_isSame_X4 : ∀ w ∈ u_ws RX4 TX4 15, w ∈ wsX3_isSame := fun _ h => List.mem_cons_of_mem _ ((List.mem_append_right _ h))
theorem in_X3_isKnown_X3 : ∀ w ∈ u_ws RX3 TX3 16, w ∈ wsX3_isKnown := fun _ h => List.mem_cons_of_mem _ (List.mem_append_left _ ((List.mem_append_right _ h)))
theorem in_X3_addOnce_X1 : ∀ w ∈ u_ws RX1 TX1 13, w ∈ wsX3_addOnce := fun _ h => List.mem_cons_of_mem _ ((List.mem_append_right _ h))
theorem in_X3_addOnce_X3 : ∀ w ∈ u_ws RX3 TX3 16, w ∈ wsX3_addOnce := fun _ h => List.mem_cons_of_mem _ (List.mem_append_left _ (List.mem_append_left _ ((List.mem_append_right _ h))))
theorem in_X3_addOnce_X4 : ∀ w ∈ u_ws RX4 TX4 15, w ∈ wsX3_addOnce := fun _ h => List.mem_cons_of_mem _ (List.mem_append_left _ ((List.mem_append_right _ h)))
theorem in_X3_goThroughLine_X3 : ∀ w ∈ u_ws RX3 TX3 16, w ∈ wsX3_goThroughLine := fun _ h => List.mem_cons_of_mem _ (List.mem_append_left _ (List.mem_append_left _ ((List.mem_append_right _ h))))
theorem in_X3_goThroughLine_X4 : ∀ w ∈ u_ws RX4 TX4 15, w ∈ wsX3_goThroughLine := fun _ h => List.mem_cons_of_mem _ (List.mem_append_left _ ((List.mem_append_right _ h)))
theorem in_X3_goThrough_X3 : ∀ w ∈ u_ws RX3 TX3 16, w ∈ wsX3_goThrough := fun _ h => List.mem_cons_of_mem _ (List.mem_append_left _ (List.mem_append_left _ ((List.mem_append_right _ h))))
theorem in_X3_goThrough_X4 : ∀ w ∈ u_ws RX4 TX4 15, w ∈ wsX3_goThrough := fun _ h => List.mem_cons_of_mem _ (List.mem_append_left _ ((List.mem_append_right _ h)))
theorem in_X3_run_X3 : ∀ w ∈ u_ws RX3 TX3 16, w ∈ wsX3_run := fun _ h => List.mem_cons_of_mem _ (List.mem_append_left _ (List.mem_append_left _ ((List.mem_append_right _ h))))
theorem in_X3_heldIn_X3 : ∀ w ∈ u_ws RX3 TX3 16, w ∈ wsX3_heldIn := fun _ h => List.mem_cons_of_mem _ ((List.mem_append_right _ h))
theorem in_X4_hasRoomFor_X1 : ∀ w ∈ u_ws RX1 TX1 13, w ∈ wsX4_hasRoomFor := fun _ h => List.mem_cons_of_mem _ ((List.mem_append_right _ h))
theorem in_X4_hasRoomFor_X4 : ∀ w ∈ u_ws RX4 TX4 15, w ∈ wsX4_hasRoomFor := fun _ h => List.mem_cons_of_mem _ (List.mem_append_left _ ((List.mem_append_right _ h)))
theorem in_X4_sweep_X4 : ∀ w ∈ u_ws RX4 TX4 15, w ∈ wsX4_sweep := fun _ h => List.mem_cons_of_mem _ ((List.mem_append_right _ h))
theorem in_X4_layOut_X1 : ∀ w ∈ u_ws RX1 TX1 13, w ∈ wsX4_layOut := fun _ h => List.mem_cons_of_mem _ ((List.mem_append_right _ h))
theorem in_X4_layOut_X4 : ∀ w ∈ u_ws RX4 TX4 15, w ∈ wsX4_layOut := fun _ h => List.mem_cons_of_mem _ (List.mem_append_left _ ((List.mem_append_right _ h)))
theorem in_X4_fitsAt_X4 : ∀ w ∈ u_ws RX4 TX4 15, w ∈ wsX4_fitsAt := fun _ h => List.mem_cons_of_mem _ (List.mem_append_left _ ((List.mem_append_right _ h)))
theorem in_X4_findInLine_X4 : ∀ w ∈ u_ws RX4 TX4 15, w ∈ wsX4_findInLine := fun _ h => List.mem_cons_of_mem _ ((List.mem_append_right _ h))
theorem in_X4_findFit_X4 : ∀ w ∈ u_ws RX4 TX4 15, w ∈ wsX4_findFit := fun _ h => List.mem_cons_of_mem _ (List.mem_append_left _ ((List.mem_append_right _ h)))
theorem in_X4_holdOf_X1 : ∀ w ∈ u_ws RX1 TX1 13, w ∈ wsX4_holdOf := fun _ h => List.mem_cons_of_mem _ ((List.mem_append_right _ h))
theorem in_X4_holdOf_X4 : ∀ w ∈ u_ws RX4 TX4 15, w ∈ wsX4_holdOf := fun _ h => List.mem_cons_of_mem _ (List.mem_append_left _ ((List.mem_append_right _ h)))
theorem in_X4_leadsOn_X4 : ∀ w ∈ u_ws RX4 TX4 15, w ∈ wsX4_leadsOn := fun _ h => List.mem_cons_of_mem _ (List.mem_append_left _ ((List.mem_append_right _ h)))
theorem in_X4_countLedTo_X4 : ∀ w ∈ u_ws RX4 TX4 15, w ∈ wsX4_countLedTo := fun _ h => List.mem_cons_of_mem _ (List.mem_append_left _ ((List.mem_append_right _ h)))
theorem in_X4_hangsTogetherWithout_X4 : ∀ w ∈ u_ws RX4 TX4 15, w ∈ wsX4_hangsTogetherWithout := fun _ h => List.mem_cons_of_mem _ (List.mem_append_left _ ((List.mem_append_right _ h)))
theorem in_X4_mayLeave_X1 : ∀ w ∈ u_ws RX1 TX1 13, w ∈ wsX4_mayLeave := fun _ h => List.mem_cons_of_mem _ ((List.mem_append_right _ h))
theorem in_X4_mayLeave_X4 : ∀ w ∈ u_ws RX4 TX4 15, w ∈ wsX4_mayLeave := fun _ h => List.mem_cons_of_mem _ (List.mem_append_left _ ((List.mem_append_right _ h)))
theorem in_X5_restart_X5 : ∀ w ∈ u_ws RX5 TX5 8, w ∈ wsX5_restart := fun _ h => List.mem_cons_of_mem _ ((List.mem_append_right _ h))
theorem in_X5_note_X5 : ∀ w ∈ u_ws RX5 TX5 8, w ∈ wsX5_note := fun _ h => List.mem_cons_of_mem _ ((List.mem_append_right _ h))
theorem in_X5_dropLatest_X5 : ∀ w ∈ u_ws RX5 TX5 8, w ∈ wsX5_dropLatest := fun _ h => List.mem_cons_of_mem _ ((List.mem_append_right _ h))
theorem in_X6_hasRoomForFive_X6 : ∀ w ∈ u_ws RX6 TX6 2, w ∈ wsX6_hasRoomForFive := fun _ h => List.mem_cons_of_mem _ ((List.mem_append_right _ h))
theorem in_X6_append_X6 : ∀ w ∈ u_ws RX6 TX6 2, w ∈ wsX6_append := fun _ h => List.mem_cons_of_mem _ ((List.mem_append_right _ h))
theorem in_X6_addTo_X6 : ∀ w ∈ u_ws RX6 TX6 2, w ∈ wsX6_addTo := fun _ h => List.mem_cons_of_mem _ (List.mem_append_left _ ((List.mem_append_right _ h)))
theorem in_X7_glue_X1 : ∀ w ∈ u_ws RX1 TX1 13, w ∈ wsX7_glue := fun _ h => List.mem_cons_of_mem _ ((List.mem_append_right _ h))
theorem in_X7_glue_X4 : ∀ w ∈ u_ws RX4 TX4 15, w ∈ wsX7_glue := fun _ h => List.mem_cons_of_mem _ (List.mem_append_left _ ((List.mem_append_right _ h)))
theorem in_X7_glue_X7 : ∀ w ∈ u_ws RX7 TX7 8, w ∈ wsX7_glue := fun _ h => List.mem_cons_of_mem _ (List.mem_append_left _ (List.mem_append_left _ ((List.mem_append_right _ h))))
theorem in_X7_piece_X7 : ∀ w ∈ u_ws RX7 TX7 8, w ∈ wsX7_piece := fun _ h => List.mem_cons_of_mem _ (List.mem_append_left _ (List.mem_append_left _ ((List.mem_append_right _ h))))
theorem in_X7_feed_X6 : ∀ w ∈ u_ws RX6 TX6 2, w ∈ wsX7_feed := fun _ h => List.mem_cons_of_mem _ ((List.mem_append_right _ h))
theorem in_X7_feed_X7 : ∀ w ∈ u_ws RX7 TX7 8, w ∈ wsX7_feed := fun _ h => List.mem_cons_of_mem _ (List.mem_append_left _ ((List.mem_append_right _ h)))
theorem in_X7_set_X6 : ∀ w ∈ u_ws RX6 TX6 2, w ∈ wsX7_set := fun _ h => List.mem_cons_of_mem _ (List.mem_append_left _ (List.mem_append_left _ ((List.mem_append_right _ h))))
theorem in_X7_set_X7 : ∀ w ∈ u_ws RX7 TX7 8, w ∈ wsX7_set := fun _ h => List.mem_cons_of_mem _ (List.mem_append_left _ (List.mem_append_left _ (List.mem_append_left _ ((List.mem_append_right _ h)))))
theorem in_X7_warmth_X1 : ∀ w ∈ u_ws RX1 TX1 13, w ∈ wsX7_warmth := fun _ h => List.mem_cons_of_mem _ ((List.mem_append_right _ h))
theorem in_X7_warmth_X4 : ∀ w ∈ u_ws RX4 TX4 15, w ∈ wsX7_warmth := fun _ h => List.mem_cons_of_mem _ (List.mem_append_left _ ((List.mem_append_right _ h)))
theorem in_X7_warmth_X7 : ∀ w ∈ u_ws RX7 TX7 8, w ∈ wsX7_warmth := fun _ h => List.mem_cons_of_mem _ (List.mem_append_left _ (List.mem_append_left _ ((List.mem_append_right _ h))))
theorem in_X7_clear_X4 : ∀ w ∈ u_ws RX4 TX4 15, w ∈ wsX7_clear := fun _ h => List.mem_cons_of_mem _ (List.mem_append_left _ ((List.mem_append_right _ h)))
theorem in_X7_clear_X7 : ∀ w ∈ u_ws RX7 TX7 8, w ∈ wsX7_clear := fun _ h => List.mem_cons_of_mem _ (List.mem_append_left _ (List.mem_append_left _ ((List.mem_append_right _ h))))
theorem in_X7_stepDown_X7 : ∀ w ∈ u_ws RX7 TX7 8, w ∈ wsX7_stepDown := fun _ h => List.mem_cons_of_mem _ (List.mem_append_left _ (List.mem_append_left _ (List.mem_append_left _ ((List.mem_append_right _ h)))))
theorem in_X7_seed_X4 : ∀ w ∈ u_ws RX4 TX4 15, w ∈ wsX7_seed := fun _ h => List.mem_cons_of_mem _ (List.mem_append_left _ (List.mem_append_left _ ((List.mem_append_right _ h))))
theorem in_X7_seed_X7 : ∀ w ∈ u_ws RX7 TX7 8, w ∈ wsX7_seed := fun _ h => List.mem_cons_of_mem _ (List.mem_append_left _ (List.mem_append_left _ (List.mem_append_left _ ((List.mem_append_right _ h)))))
theorem in_X7_may_X7 : ∀ w ∈ u_ws RX7 TX7 8, w ∈ wsX7_may := fun _ h => List.mem_cons_of_mem _ (List.mem_append_left _ (List.mem_append_left _ ((List.mem_append_right _ h))))
theorem in_X7_hold_X7 : ∀ w ∈ u_ws RX7 TX7 8, w ∈ wsX7_hold := fun _ h => List.mem_cons_of_mem _ (List.mem_append_left _ (List.mem_append_left _ ((List.mem_append_right _ h))))
theorem in_X7_come_X7 : ∀ w ∈ u_ws RX7 TX7 8, w ∈ wsX7_come := fun _ h => List.mem_cons_of_mem _ (List.mem_append_left _ (List.mem_append_left _ (List.mem_append_left _ ((List.mem_append_right _ h)))))
theorem in_X7_go_X4 : ∀ w ∈ u_ws RX4 TX4 15, w ∈ wsX7_go := fun _ h => List.mem_cons_of_mem _ (List.mem_append_left _ (List.mem_append_left _ ((List.mem_append_right _ h))))
theorem in_X7_go_X7 : ∀ w ∈ u_ws RX7 TX7 8, w ∈ wsX7_go := fun _ h => List.mem_cons_of_mem _ (List.mem_append_left _ (List.mem_append_left _ (List.mem_append_left _ ((List.mem_append_right _ h)))))
theorem in_X7_force_X1 : ∀ w ∈ u_ws RX1 TX1 13, w ∈ wsX7_force := fun _ h => List.mem_cons_of_mem _ (List.mem_append_left _ (List.mem_append_left _ ((List.mem_append_right _ h))))
theorem in_X7_force_X7 : ∀ w ∈ u_ws RX7 TX7 8, w ∈ wsX7_force := fun _ h => List.mem_cons_of_mem _ (List.mem_append_left _ (List.mem_append_left _ (List.mem_append_left _ ((List.mem_append_right _ h)))))
theorem in_X7_choices_X7 : ∀ w ∈ u_ws RX7 TX7 8, w ∈ wsX7_choices := fun _ h => List.mem_cons_of_mem _ (List.mem_append_left _ (List.mem_append_left _ ((List.mem_append_right _ h))))
theorem in_X7_choice_X7 : ∀ w ∈ u_ws RX7 TX7 8, w ∈ wsX7_choice := fun _ h => List.mem_cons_of_mem _ (List.mem_append_left _ (List.mem_append_left _ ((List.mem_append_right _ h))))
theorem in_X7_draw_X7 : ∀ w ∈ u_ws RX7 TX7 8, w ∈ wsX7_draw := fun _ h => List.mem_cons_of_mem _ ((List.mem_append_right _ h))
theorem in_X7_drawOf_X7 : ∀ w ∈ u_ws RX7 TX7 8, w ∈ wsX7_drawOf := fun _ h => List.mem_cons_of_mem _ ((List.mem_append_right _ h))
theorem in_X7_grow_X7 : ∀ w ∈ u_ws RX7 TX7 8, w ∈ wsX7_grow := fun _ h => List.mem_cons_of_mem _ (List.mem_append_left _ (List.mem_append_left _ (List.mem_append_left _ ((List.mem_append_right _ h)))))
theorem in_X7_at_X4 : ∀ w ∈ u_ws RX4 TX4 15, w ∈ wsX7_at := fun _ h => List.mem_cons_of_mem _ ((List.mem_append_right _ h))
theorem in_X7_at_X7 : ∀ w ∈ u_ws RX7 TX7 8, w ∈ wsX7_at := fun _ h => List.mem_cons_of_mem _ (List.mem_append_left _ ((List.mem_append_right _ h)))
theorem in_X7_of_X1 : ∀ w ∈ u_ws RX1 TX1 13, w ∈ wsX7_of := fun _ h => List.mem_cons_of_mem _ (List.mem_append_left _ ((List.mem_append_right _ h)))
theorem in_X7_of_X4 : ∀ w ∈ u_ws RX4 TX4 15, w ∈ wsX7_of := fun _ h => List.mem_cons_of_mem _ (List.mem_append_left _ (List.mem_append_left _ ((List.mem_append_right _ h))))
theorem in_X7_of_X5 : ∀ w ∈ u_ws RX5 TX5 8, w ∈ wsX7_of := fun _ h => List.mem_cons_of_mem _ ((List.mem_append_right _ h))
theorem in_X7_of_X7 : ∀ w ∈ u_ws RX7 TX7 8, w ∈ wsX7_of := fun _ h => List.mem_cons_of_mem _ (List.mem_append_left _ (List.mem_append_left _ (List.mem_append_left _ ((List.mem_append_right _ h)))))
theorem in_X7_walk_X7 : ∀ w ∈ u_ws RX7 TX7 8, w ∈ wsX7_walk := fun _ h => List.mem_cons_of_mem _ (List.mem_append_left _ (List.mem_append_left _ (List.mem_append_left _ ((List.mem_append_right _ h)))))
theorem in_X7_ways_X3 : ∀ w ∈ u_ws RX3 TX3 16, w ∈ wsX7_ways := fun _ h => List.mem_cons_of_mem _ ((List.mem_append_right _ h))
theorem in_X7_ways_X7 : ∀ w ∈ u_ws RX7 TX7 8, w ∈ wsX7_ways := fun _ h => List.mem_cons_of_mem _ (List.mem_append_left _ ((List.mem_append_right _ h)))
theorem in_X7_way_X3 : ∀ w ∈ u_ws RX3 TX3 16, w ∈ wsX7_way := fun _ h => List.mem_cons_of_mem _ ((List.mem_append_right _ h))
theorem in_X7_way_X7 : ∀ w ∈ u_ws RX7 TX7 8, w ∈ wsX7_way := fun _ h => List.mem_cons_of_mem _ (List.mem_append_left _ ((List.mem_append_right _ h)))
theorem in_X7_orderly_X7 : ∀ w ∈ u_ws RX7 TX7 8, w ∈ wsX7_orderly := fun _ h => List.mem_cons_of_mem _ (List.mem_append_left _ (List.mem_append_left _ (List.mem_append_left _ (List.mem_append_left _ ((List.mem_append_right _ h))))))
theorem in_X7_rule_X7 : ∀ w ∈ u_ws RX7 TX7 8, w ∈ wsX7_rule := fun _ h => List.mem_cons_of_mem _ (List.mem_append_left _ (List.mem_append_left _ (List.mem_append_left _ ((List.mem_append_right _ h)))))
theorem in_X7_row_X1 : ∀ w ∈ u_ws RX1 TX1 13, w ∈ wsX7_row := fun _ h => List.mem_cons_of_mem _ ((List.mem_append_right _ h))
theorem in_X7_row_X4 : ∀ w ∈ u_ws RX4 TX4 15, w ∈ wsX7_row := fun _ h => List.mem_cons_of_mem _ (List.mem_append_left _ ((List.mem_append_right _ h)))
theorem in_X7_row_X7 : ∀ w ∈ u_ws RX7 TX7 8, w ∈ wsX7_row := fun _ h => List.mem_cons_of_mem _ (List.mem_append_left _ (List.mem_append_left _ ((List.mem_append_right _ h))))
theorem in_X7_takeBackLatest_X5 : ∀ w ∈ u_ws RX5 TX5 8, w ∈ wsX7_takeBackLatest := fun _ h => List.mem_cons_of_mem _ (List.mem_append_left _ (List.mem_append_left _ ((List.mem_append_right _ h))))
theorem in_X7_takeBackLatest_X7 : ∀ w ∈ u_ws RX7 TX7 8, w ∈ wsX7_takeBackLatest := fun _ h => List.mem_cons_of_mem _ (List.mem_append_left _ (List.mem_append_left _ (List.mem_append_left _ ((List.mem_append_right _ h)))))
theorem in_X7_undo_X5 : ∀ w ∈ u_ws RX5 TX5 8, w ∈ wsX7_undo := fun _ h => List.mem_cons_of_mem _ (List.mem_append_left _ (List.mem_append_left _ ((List.mem_append_right _ h))))
theorem in_X7_undo_X7 : ∀ w ∈ u_ws RX7 TX7 8, w ∈ wsX7_undo := fun _ h => List.mem_cons_of_mem _ (List.mem_append_left _ (List.mem_append_left _ (List.mem_append_left _ ((List.mem_append_right _ h)))))
theorem in_X7_keep_X7 : ∀ w ∈ u_ws RX7 TX7 8, w ∈ wsX7_keep := fun _ h => List.mem_cons_of_mem _ (List.mem_append_left _ (List.mem_append_left _ (List.mem_append_left _ ((List.mem_append_right _ h)))))
theorem in_X7_back_X0 : ∀ w ∈ u_ws RX0 TX0 3, w ∈ wsX7_back := fun _ h => List.mem_cons_of_mem _ (List.mem_append_left _ (List.mem_append_left _ (List.mem_append_left _ ((List.mem_append_right _ h)))))
theorem in_X7_back_X4 : ∀ w ∈ u_ws RX4 TX4 15, w ∈ wsX7_back := fun _ h => List.mem_cons_of_mem _ (List.mem_append_left _ (List.mem_append_left _ ((List.mem_append_right _ h))))
theorem in_X7_back_X7 : ∀ w ∈ u_ws RX7 TX7 8, w ∈ wsX7_back := fun _ h => List.mem_cons_of_mem _ (List.mem_append_left _ (List.mem_append_left _ (List.mem_append_left _ (List.mem_append_left _ ((List.mem_append_right _ h))))))
theorem in_X7_about_X1 : ∀ w ∈ u_ws RX1 TX1 13, w ∈ wsX7_about := fun _ h => List.mem_cons_of_mem _ (List.mem_append_left _ (List.mem_append_left _ (List.mem_append_left _ ((List.mem_append_right _ h)))))
theorem in_X7_about_X4 : ∀ w ∈ u_ws RX4 TX4 15, w ∈ wsX7_about := fun _ h => List.mem_cons_of_mem _ (List.mem_append_left _ (List.mem_append_left _ ((List.mem_append_right _ h))))
theorem in_X7_about_X5 : ∀ w ∈ u_ws RX5 TX5 8, w ∈ wsX7_about := fun _ h => List.mem_cons_of_mem _ (List.mem_append_left _ ((List.mem_append_right _ h)))
theorem in_X7_about_X6 : ∀ w ∈ u_ws RX6 TX6 2, w ∈ wsX7_about := fun _ h => List.mem_cons_of_mem _ ((List.mem_append_right _ h))
theorem in_X7_about_X7 : ∀ w ∈ u_ws RX7 TX7 8, w ∈ wsX7_about := fun _ h => List.mem_cons_of_mem _ (List.mem_append_left _ (List.mem_append_left _ (List.mem_append_left _ (List.mem_append_left _ ((List.mem_append_right _ h))))))
theorem in_X8_isPiece_X8 : ∀ w ∈ u_ws RX8 TX8 38, w ∈ wsX8_isPiece := fun _ h => List.mem_cons_of_mem _ ((List.mem_append_right _ h))
theorem in_X8_isClear_X8 : ∀ w ∈ u_ws RX8 TX8 38, w ∈ wsX8_isClear := fun _ h => List.mem_cons_of_mem _ ((List.mem_append_right _ h))
theorem in_X8_glue_X8 : ∀ w ∈ u_ws RX8 TX8 38, w ∈ wsX8_glue := fun _ h => List.mem_cons_of_mem _ ((List.mem_append_right _ h))
theorem in_X8_piece_X8 : ∀ w ∈ u_ws RX8 TX8 38, w ∈ wsX8_piece := fun _ h => List.mem_cons_of_mem _ ((List.mem_append_right _ h))
theorem in_X8_four_X8 : ∀ w ∈ u_ws RX8 TX8 38, w ∈ wsX8_four := fun _ h => List.mem_cons_of_mem _ ((List.mem_append_right _ h))
theorem in_X8_feed_X8 : ∀ w ∈ u_ws RX8 TX8 38, w ∈ wsX8_feed := fun _ h => List.mem_cons_of_mem _ ((List.mem_append_right _ h))
theorem in_X8_set_X8 : ∀ w ∈ u_ws RX8 TX8 38, w ∈ wsX8_set := fun _ h => List.mem_cons_of_mem _ ((List.mem_append_right _ h))
theorem in_X8_warmth_X8 : ∀ w ∈ u_ws RX8 TX8 38, w ∈ wsX8_warmth := fun _ h => List.mem_cons_of_mem _ ((List.mem_append_right _ h))
theorem in_X8_glueOf_X8 : ∀ w ∈ u_ws RX8 TX8 38, w ∈ wsX8_glueOf := fun _ h => List.mem_cons_of_mem _ ((List.mem_append_right _ h))
theorem in_X8_isBarred_X8 : ∀ w ∈ u_ws RX8 TX8 38, w ∈ wsX8_isBarred := fun _ h => List.mem_cons_of_mem _ ((List.mem_append_right _ h))
theorem in_X8_holdAt_X8 : ∀ w ∈ u_ws RX8 TX8 38, w ∈ wsX8_holdAt := fun _ h => List.mem_cons_of_mem _ ((List.mem_append_right _ h))
theorem in_X8_holdOf_X8 : ∀ w ∈ u_ws RX8 TX8 38, w ∈ wsX8_holdOf := fun _ h => List.mem_cons_of_mem _ ((List.mem_append_right _ h))
theorem in_X8_isFree_X8 : ∀ w ∈ u_ws RX8 TX8 38, w ∈ wsX8_isFree := fun _ h => List.mem_cons_of_mem _ ((List.mem_append_right _ h))
theorem in_X8_mayCome_X8 : ∀ w ∈ u_ws RX8 TX8 38, w ∈ wsX8_mayCome := fun _ h => List.mem_cons_of_mem _ ((List.mem_append_right _ h))
theorem in_X8_may_X8 : ∀ w ∈ u_ws RX8 TX8 38, w ∈ wsX8_may := fun _ h => List.mem_cons_of_mem _ ((List.mem_append_right _ h))
theorem in_X8_hold_X8 : ∀ w ∈ u_ws RX8 TX8 38, w ∈ wsX8_hold := fun _ h => List.mem_cons_of_mem _ ((List.mem_append_right _ h))
theorem in_X8_lay_X8 : ∀ w ∈ u_ws RX8 TX8 38, w ∈ wsX8_lay := fun _ h => List.mem_cons_of_mem _ ((List.mem_append_right _ h))
theorem in_X8_setSince_X8 : ∀ w ∈ u_ws RX8 TX8 38, w ∈ wsX8_setSince := fun _ h => List.mem_cons_of_mem _ ((List.mem_append_right _ h))
theorem in_X8_away_X8 : ∀ w ∈ u_ws RX8 TX8 38, w ∈ wsX8_away := fun _ h => List.mem_cons_of_mem _ ((List.mem_append_right _ h))
theorem in_X8_step_X8 : ∀ w ∈ u_ws RX8 TX8 38, w ∈ wsX8_step := fun _ h => List.mem_cons_of_mem _ ((List.mem_append_right _ h))
theorem in_X8_puts_X8 : ∀ w ∈ u_ws RX8 TX8 38, w ∈ wsX8_puts := fun _ h => List.mem_cons_of_mem _ ((List.mem_append_right _ h))
theorem in_X8_noSteps_X8 : ∀ w ∈ u_ws RX8 TX8 38, w ∈ wsX8_noSteps := fun _ h => List.mem_cons_of_mem _ ((List.mem_append_right _ h))
theorem in_X8_clear_X8 : ∀ w ∈ u_ws RX8 TX8 38, w ∈ wsX8_clear := fun _ h => List.mem_cons_of_mem _ ((List.mem_append_right _ h))
theorem in_X8_seed_X8 : ∀ w ∈ u_ws RX8 TX8 38, w ∈ wsX8_seed := fun _ h => List.mem_cons_of_mem _ ((List.mem_append_right _ h))
theorem in_X8_force_X8 : ∀ w ∈ u_ws RX8 TX8 38, w ∈ wsX8_force := fun _ h => List.mem_cons_of_mem _ ((List.mem_append_right _ h))
theorem in_X8_hangs_X8 : ∀ w ∈ u_ws RX8 TX8 38, w ∈ wsX8_hangs := fun _ h => List.mem_cons_of_mem _ ((List.mem_append_right _ h))
theorem in_X8_go_X8 : ∀ w ∈ u_ws RX8 TX8 38, w ∈ wsX8_go := fun _ h => List.mem_cons_of_mem _ ((List.mem_append_right _ h))
theorem in_X8_choices_X8 : ∀ w ∈ u_ws RX8 TX8 38, w ∈ wsX8_choices := fun _ h => List.mem_cons_of_mem _ ((List.mem_append_right _ h))
theorem in_X8_choiceAt_X8 : ∀ w ∈ u_ws RX8 TX8 38, w ∈ wsX8_choiceAt := fun _ h => List.mem_cons_of_mem _ ((List.mem_append_right _ h))
theorem in_X8_draw_X8 : ∀ w ∈ u_ws RX8 TX8 38, w ∈ wsX8_draw := fun _ h => List.mem_cons_of_mem _ ((List.mem_append_right _ h))
theorem in_X8_grow_X8 : ∀ w ∈ u_ws RX8 TX8 38, w ∈ wsX8_grow := fun _ h => List.mem_cons_of_mem _ ((List.mem_append_right _ h))
theorem in_X8_at_X8 : ∀ w ∈ u_ws RX8 TX8 38, w ∈ wsX8_at := fun _ h => List.mem_cons_of_mem _ ((List.mem_append_right _ h))
theorem in_X8_of_X8 : ∀ w ∈ u_ws RX8 TX8 38, w ∈ wsX8_of := fun _ h => List.mem_cons_of_mem _ ((List.mem_append_right _ h))
theorem in_X8_found_X8 : ∀ w ∈ u_ws RX8 TX8 38, w ∈ wsX8_found := fun _ h => List.mem_cons_of_mem _ ((List.mem_append_right _ h))
theorem in_X8_walk_X8 : ∀ w ∈ u_ws RX8 TX8 38, w ∈ wsX8_walk := fun _ h => List.mem_cons_of_mem _ ((List.mem_append_right _ h))
theorem in_X8_ways_X8 : ∀ w ∈ u_ws RX8 TX8 38, w ∈ wsX8_ways := fun _ h => List.mem_cons_of_mem _ ((List.mem_append_right _ h))
theorem in_X8_way_X8 : ∀ w ∈ u_ws RX8 TX8 38, w ∈ wsX8_way := fun _ h => List.mem_cons_of_mem _ ((List.mem_append_right _ h))
theorem in_X8_canBeAsked_X8 : ∀ w ∈ u_ws RX8 TX8 38, w ∈ wsX8_canBeAsked := fun _ h => List.mem_cons_of_mem _ ((List.mem_append_right _ h))
theorem in_X8_isAlone_X8 : ∀ w ∈ u_ws RX8 TX8 38, w ∈ wsX8_isAlone := fun _ h => List.mem_cons_of_mem _ ((List.mem_append_right _ h))
theorem in_X8_orderly_X8 : ∀ w ∈ u_ws RX8 TX8 38, w ∈ wsX8_orderly := fun _ h => List.mem_cons_of_mem _ ((List.mem_append_right _ h))
theorem in_X8_rule_X8 : ∀ w ∈ u_ws RX8 TX8 38, w ∈ wsX8_rule := fun _ h => List.mem_cons_of_mem _ ((List.mem_append_right _ h))
theorem in_X8_undo_X8 : ∀ w ∈ u_ws RX8 TX8 38, w ∈ wsX8_undo := fun _ h => List.mem_cons_of_mem _ ((List.mem_append_right _ h))
theorem in_X8_keep_X8 : ∀ w ∈ u_ws RX8 TX8 38, w ∈ wsX8_keep := fun _ h => List.mem_cons_of_mem _ ((List.mem_append_right _ h))
theorem in_X8_back_X8 : ∀ w ∈ u_ws RX8 TX8 38, w ∈ wsX8_back := fun _ h => List.mem_cons_of_mem _ ((List.mem_append_right _ h))
theorem in_X8_about_X8 : ∀ w ∈ u_ws RX8 TX8 38, w ∈ wsX8_about := fun _ h => List.mem_cons_of_mem _ ((List.mem_append_right _ h))
