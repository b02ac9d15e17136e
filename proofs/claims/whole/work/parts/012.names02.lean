theorem dX5_restart_19 : decode cX5_restart 19 = .ok (.iconst (-1), 1) := by decide +kernel
theorem dX5_restart_20 : decode cX5_restart 20 = .ok (.invokestatic 38, 3) := by decide +kernel
theorem dX5_restart_23 : decode cX5_restart 23 = .ok (.return_, 1) := by decide +kernel
theorem dX5_note_0 : decode cX5_note 0 = .ok (.aload_n 0, 1) := by decide +kernel
theorem dX5_note_1 : decode cX5_note 1 = .ok (.getfield 9, 3) := by decide +kernel
theorem dX5_note_4 : decode cX5_note 4 = .ok (.sipush 200, 3) := by decide +kernel
theorem dX5_note_7 : decode cX5_note 7 = .ok (.irem, 1) := by decide +kernel
theorem dX5_note_8 : decode cX5_note 8 = .ok (.istore 4, 2) := by decide +kernel
theorem dX5_note_10 : decode cX5_note 10 = .ok (.aload_n 0, 1) := by decide +kernel
theorem dX5_note_11 : decode cX5_note 11 = .ok (.getfield 22, 3) := by decide +kernel
theorem dX5_note_14 : decode cX5_note 14 = .ok (.iload 4, 2) := by decide +kernel
theorem dX5_note_16 : decode cX5_note 16 = .ok (.iload_n 1, 1) := by decide +kernel
theorem dX5_note_17 : decode cX5_note 17 = .ok (.iastore, 1) := by decide +kernel
theorem dX5_note_18 : decode cX5_note 18 = .ok (.aload_n 0, 1) := by decide +kernel
theorem dX5_note_19 : decode cX5_note 19 = .ok (.getfield 26, 3) := by decide +kernel
theorem dX5_note_22 : decode cX5_note 22 = .ok (.iload 4, 2) := by decide +kernel
theorem dX5_note_24 : decode cX5_note 24 = .ok (.iload_n 2, 1) := by decide +kernel
theorem dX5_note_25 : decode cX5_note 25 = .ok (.iastore, 1) := by decide +kernel
theorem dX5_note_26 : decode cX5_note 26 = .ok (.aload_n 0, 1) := by decide +kernel
theorem dX5_note_27 : decode cX5_note 27 = .ok (.getfield 29, 3) := by decide +kernel
theorem dX5_note_30 : decode cX5_note 30 = .ok (.iload 4, 2) := by decide +kernel
theorem dX5_note_32 : decode cX5_note 32 = .ok (.iload_n 3, 1) := by decide +kernel
theorem dX5_note_33 : decode cX5_note 33 = .ok (.iastore, 1) := by decide +kernel
theorem dX5_note_34 : decode cX5_note 34 = .ok (.aload_n 0, 1) := by decide +kernel
theorem dX5_note_35 : decode cX5_note 35 = .ok (.getfield 32, 3) := by decide +kernel
theorem dX5_note_38 : decode cX5_note 38 = .ok (.iload 4, 2) := by decide +kernel
theorem dX5_note_40 : decode cX5_note 40 = .ok (.aload_n 0, 1) := by decide +kernel
theorem dX5_note_41 : decode cX5_note 41 = .ok (.getfield 35, 3) := by decide +kernel
theorem dX5_note_44 : decode cX5_note 44 = .ok (.iload_n 3, 1) := by decide +kernel
theorem dX5_note_45 : decode cX5_note 45 = .ok (.iaload, 1) := by decide +kernel
theorem dX5_note_46 : decode cX5_note 46 = .ok (.iastore, 1) := by decide +kernel
theorem dX5_note_47 : decode cX5_note 47 = .ok (.aload_n 0, 1) := by decide +kernel
theorem dX5_note_48 : decode cX5_note 48 = .ok (.getfield 35, 3) := by decide +kernel
theorem dX5_note_51 : decode cX5_note 51 = .ok (.iload_n 3, 1) := by decide +kernel
theorem dX5_note_52 : decode cX5_note 52 = .ok (.aload_n 0, 1) := by decide +kernel
theorem dX5_note_53 : decode cX5_note 53 = .ok (.getfield 9, 3) := by decide +kernel
theorem dX5_note_56 : decode cX5_note 56 = .ok (.iastore, 1) := by decide +kernel
theorem dX5_note_57 : decode cX5_note 57 = .ok (.aload_n 0, 1) := by decide +kernel
theorem dX5_note_58 : decode cX5_note 58 = .ok (.dup, 1) := by decide +kernel
theorem dX5_note_59 : decode cX5_note 59 = .ok (.getfield 9, 3) := by decide +kernel
theorem dX5_note_62 : decode cX5_note 62 = .ok (.iconst 1, 1) := by decide +kernel
theorem dX5_note_63 : decode cX5_note 63 = .ok (.iadd, 1) := by decide +kernel
theorem dX5_note_64 : decode cX5_note 64 = .ok (.putfield 9, 3) := by decide +kernel
theorem dX5_note_67 : decode cX5_note 67 = .ok (.aload_n 0, 1) := by decide +kernel
theorem dX5_note_68 : decode cX5_note 68 = .ok (.aload_n 0, 1) := by decide +kernel
theorem dX5_note_69 : decode cX5_note 69 = .ok (.getfield 15, 3) := by decide +kernel
theorem dX5_note_72 : decode cX5_note 72 = .ok (.iconst 1, 1) := by decide +kernel
theorem dX5_note_73 : decode cX5_note 73 = .ok (.iadd, 1) := by decide +kernel
theorem dX5_note_74 : decode cX5_note 74 = .ok (.sipush 200, 3) := by decide +kernel
theorem dX5_note_77 : decode cX5_note 77 = .ok (.invokestatic 44, 3) := by decide +kernel
theorem dX5_note_80 : decode cX5_note 80 = .ok (.putfield 15, 3) := by decide +kernel
theorem dX5_note_83 : decode cX5_note 83 = .ok (.return_, 1) := by decide +kernel
theorem dX5_dropLatest_0 : decode cX5_dropLatest 0 = .ok (.aload_n 0, 1) := by decide +kernel
theorem dX5_dropLatest_1 : decode cX5_dropLatest 1 = .ok (.getfield 15, 3) := by decide +kernel
theorem dX5_dropLatest_4 : decode cX5_dropLatest 4 = .ok (.ifCond .le 23, 3) := by decide +kernel
theorem dX5_dropLatest_7 : decode cX5_dropLatest 7 = .ok (.aload_n 0, 1) := by decide +kernel
theorem dX5_dropLatest_8 : decode cX5_dropLatest 8 = .ok (.dup, 1) := by decide +kernel
theorem dX5_dropLatest_9 : decode cX5_dropLatest 9 = .ok (.getfield 15, 3) := by decide +kernel
theorem dX5_dropLatest_12 : decode cX5_dropLatest 12 = .ok (.iconst 1, 1) := by decide +kernel
theorem dX5_dropLatest_13 : decode cX5_dropLatest 13 = .ok (.isub, 1) := by decide +kernel
theorem dX5_dropLatest_14 : decode cX5_dropLatest 14 = .ok (.putfield 15, 3) := by decide +kernel
theorem dX5_dropLatest_17 : decode cX5_dropLatest 17 = .ok (.aload_n 0, 1) := by decide +kernel
theorem dX5_dropLatest_18 : decode cX5_dropLatest 18 = .ok (.dup, 1) := by decide +kernel
theorem dX5_dropLatest_19 : decode cX5_dropLatest 19 = .ok (.getfield 9, 3) := by decide +kernel
theorem dX5_dropLatest_22 : decode cX5_dropLatest 22 = .ok (.iconst 1, 1) := by decide +kernel
theorem dX5_dropLatest_23 : decode cX5_dropLatest 23 = .ok (.isub, 1) := by decide +kernel
theorem dX5_dropLatest_24 : decode cX5_dropLatest 24 = .ok (.putfield 9, 3) := by decide +kernel
theorem dX5_dropLatest_27 : decode cX5_dropLatest 27 = .ok (.aload_n 0, 1) := by decide +kernel
theorem dX5_dropLatest_28 : decode cX5_dropLatest 28 = .ok (.getfield 9, 3) := by decide +kernel
theorem dX5_dropLatest_31 : decode cX5_dropLatest 31 = .ok (.sipush 200, 3) := by decide +kernel
theorem dX5_dropLatest_34 : decode cX5_dropLatest 34 = .ok (.irem, 1) := by decide +kernel
theorem dX5_dropLatest_35 : decode cX5_dropLatest 35 = .ok (.ireturn, 1) := by decide +kernel
theorem dX5_areAllKept_0 : decode cX5_areAllKept 0 = .ok (.aload_n 0, 1) := by decide +kernel
theorem dX5_areAllKept_1 : decode cX5_areAllKept 1 = .ok (.getfield 9, 3) := by decide +kernel
theorem dX5_areAllKept_4 : decode cX5_areAllKept 4 = .ok (.aload_n 0, 1) := by decide +kernel
theorem dX5_areAllKept_5 : decode cX5_areAllKept 5 = .ok (.getfield 15, 3) := by decide +kernel
theorem dX5_areAllKept_8 : decode cX5_areAllKept 8 = .ok (.if_icmp .ne 7, 3) := by decide +kernel
theorem dX5_areAllKept_11 : decode cX5_areAllKept 11 = .ok (.iconst 1, 1) := by decide +kernel
theorem dX5_areAllKept_12 : decode cX5_areAllKept 12 = .ok (.goto 4, 3) := by decide +kernel
theorem dX5_areAllKept_15 : decode cX5_areAllKept 15 = .ok (.iconst 0, 1) := by decide +kernel
theorem dX5_areAllKept_16 : decode cX5_areAllKept 16 = .ok (.ireturn, 1) := by decide +kernel
theorem dX6_init_0 : decode cX6_init 0 = .ok (.aload_n 0, 1) := by decide +kernel
theorem dX6_init_1 : decode cX6_init 1 = .ok (.invokespecial 3, 3) := by decide +kernel
theorem dX6_init_4 : decode cX6_init 4 = .ok (.aload_n 0, 1) := by decide +kernel
theorem dX6_init_5 : decode cX6_init 5 = .ok (.iconst 0, 1) := by decide +kernel
theorem dX6_init_6 : decode cX6_init 6 = .ok (.putfield 9, 3) := by decide +kernel
theorem dX6_init_9 : decode cX6_init 9 = .ok (.aload_n 0, 1) := by decide +kernel
theorem dX6_init_10 : decode cX6_init 10 = .ok (.sipush 400, 3) := by decide +kernel
theorem dX6_init_13 : decode cX6_init 13 = .ok (.newarray .int, 2) := by decide +kernel
theorem dX6_init_15 : decode cX6_init 15 = .ok (.putfield 15, 3) := by decide +kernel
theorem dX6_init_18 : decode cX6_init 18 = .ok (.return_, 1) := by decide +kernel
theorem dX6_hasRoomForFive_0 : decode cX6_hasRoomForFive 0 = .ok (.aload_n 0, 1) := by decide +kernel
theorem dX6_hasRoomForFive_1 : decode cX6_hasRoomForFive 1 = .ok (.getfield 9, 3) := by decide +kernel
theorem dX6_hasRoomForFive_4 : decode cX6_hasRoomForFive 4 = .ok (.bipush 20, 2) := by decide +kernel
theorem dX6_hasRoomForFive_6 : decode cX6_hasRoomForFive 6 = .ok (.iadd, 1) := by decide +kernel
theorem dX6_hasRoomForFive_7 : decode cX6_hasRoomForFive 7 = .ok (.sipush 400, 3) := by decide +kernel
theorem dX6_hasRoomForFive_10 : decode cX6_hasRoomForFive 10 = .ok (.if_icmp .gt 7, 3) := by decide +kernel
theorem dX6_hasRoomForFive_13 : decode cX6_hasRoomForFive 13 = .ok (.iconst 1, 1) := by decide +kernel
theorem dX6_hasRoomForFive_14 : decode cX6_hasRoomForFive 14 = .ok (.goto 4, 3) := by decide +kernel
theorem dX6_hasRoomForFive_17 : decode cX6_hasRoomForFive 17 = .ok (.iconst 0, 1) := by decide +kernel
theorem dX6_hasRoomForFive_18 : decode cX6_hasRoomForFive 18 = .ok (.ireturn, 1) := by decide +kernel
theorem dX6_append_0 : decode cX6_append 0 = .ok (.bipush 24, 2) := by decide +kernel
theorem dX6_append_2 : decode cX6_append 2 = .ok (.istore_n 2, 1) := by decide +kernel
theorem dX6_append_3 : decode cX6_append 3 = .ok (.iload_n 2, 1) := by decide +kernel
theorem dX6_append_4 : decode cX6_append 4 = .ok (.ifCond .lt 35, 3) := by decide +kernel
theorem dX6_append_7 : decode cX6_append 7 = .ok (.aload_n 0, 1) := by decide +kernel
theorem dX6_append_8 : decode cX6_append 8 = .ok (.getfield 15, 3) := by decide +kernel
theorem dX6_append_11 : decode cX6_append 11 = .ok (.aload_n 0, 1) := by decide +kernel
theorem dX6_append_12 : decode cX6_append 12 = .ok (.getfield 9, 3) := by decide +kernel
theorem dX6_append_15 : decode cX6_append 15 = .ok (.iload_n 1, 1) := by decide +kernel
theorem dX6_append_16 : decode cX6_append 16 = .ok (.iload_n 2, 1) := by decide +kernel
theorem dX6_append_17 : decode cX6_append 17 = .ok (.iushr, 1) := by decide +kernel
theorem dX6_append_18 : decode cX6_append 18 = .ok (.sipush 255, 3) := by decide +kernel
theorem dX6_append_21 : decode cX6_append 21 = .ok (.iand, 1) := by decide +kernel
theorem dX6_append_22 : decode cX6_append 22 = .ok (.iastore, 1) := by decide +kernel
theorem dX6_append_23 : decode cX6_append 23 = .ok (.aload_n 0, 1) := by decide +kernel
theorem dX6_append_24 : decode cX6_append 24 = .ok (.dup, 1) := by decide +kernel
theorem dX6_append_25 : decode cX6_append 25 = .ok (.getfield 9, 3) := by decide +kernel
theorem dX6_append_28 : decode cX6_append 28 = .ok (.iconst 1, 1) := by decide +kernel
theorem dX6_append_29 : decode cX6_append 29 = .ok (.iadd, 1) := by decide +kernel
theorem dX6_append_30 : decode cX6_append 30 = .ok (.putfield 9, 3) := by decide +kernel
theorem dX6_append_33 : decode cX6_append 33 = .ok (.iinc 2 (-8), 3) := by decide +kernel
theorem dX6_append_36 : decode cX6_append 36 = .ok (.goto (-33), 3) := by decide +kernel
theorem dX6_append_39 : decode cX6_append 39 = .ok (.return_, 1) := by decide +kernel
set_option maxRecDepth 20000 in
theorem ggX6_addTo_X1_addPiece : GoodIn wsX6_addTo wsX1_addPiece := goodIn_r _ [6, 7, 8, 9, 10, 11, 12, 13, 5, 14, 15, 16, 17, 18, 19, 20, 21, 22, 23, 24, 25, 26, 27, 28, 29, 30, 31, 32, 33, 34, 35, 36, 37, 38, 41, 42, 43, 44, 45, 46, 47, 48, 49, 50, 51, 52, 53] (by decide +kernel) (by decide +kernel)
set_option maxRecDepth 20000 in
theorem gX6_addTo_X1_addPiece : GoodIn wsX6_addTo (wsV RX6 19 RX1 yX1_addPiece wsX1_addPiece) := goodIn_app (goodIn_of _ (by decide +kernel)) ggX6_addTo_X1_addPiece
theorem dX6_addTo_0 : decode cX6_addTo 0 = .ok (.sipush 256, 3) := by decide +kernel
theorem dX6_addTo_3 : decode cX6_addTo 3 = .ok (.aload_n 0, 1) := by decide +kernel
theorem dX6_addTo_4 : decode cX6_addTo 4 = .ok (.getfield 15, 3) := by decide +kernel
theorem dX6_addTo_7 : decode cX6_addTo 7 = .ok (.iload_n 2, 1) := by decide +kernel
theorem dX6_addTo_8 : decode cX6_addTo 8 = .ok (.bipush 6, 2) := by decide +kernel
theorem dX6_addTo_10 : decode cX6_addTo 10 = .ok (.iadd, 1) := by decide +kernel
theorem dX6_addTo_11 : decode cX6_addTo 11 = .ok (.iaload, 1) := by decide +kernel
theorem dX6_addTo_12 : decode cX6_addTo 12 = .ok (.imul, 1) := by decide +kernel
theorem dX6_addTo_13 : decode cX6_addTo 13 = .ok (.aload_n 0, 1) := by decide +kernel
theorem dX6_addTo_14 : decode cX6_addTo 14 = .ok (.getfield 15, 3) := by decide +kernel
theorem dX6_addTo_17 : decode cX6_addTo 17 = .ok (.iload_n 2, 1) := by decide +kernel
theorem dX6_addTo_18 : decode cX6_addTo 18 = .ok (.bipush 7, 2) := by decide +kernel
theorem dX6_addTo_20 : decode cX6_addTo 20 = .ok (.iadd, 1) := by decide +kernel
theorem dX6_addTo_21 : decode cX6_addTo 21 = .ok (.iaload, 1) := by decide +kernel
theorem dX6_addTo_22 : decode cX6_addTo 22 = .ok (.iadd, 1) := by decide +kernel
theorem dX6_addTo_23 : decode cX6_addTo 23 = .ok (.istore_n 3, 1) := by decide +kernel
theorem dX6_addTo_24 : decode cX6_addTo 24 = .ok (.aload_n 1, 1) := by decide +kernel
theorem dX6_addTo_25 : decode cX6_addTo 25 = .ok (.aload_n 0, 1) := by decide +kernel
theorem dX6_addTo_26 : decode cX6_addTo 26 = .ok (.getfield 15, 3) := by decide +kernel
theorem dX6_addTo_29 : decode cX6_addTo 29 = .ok (.iload_n 2, 1) := by decide +kernel
theorem dX6_addTo_30 : decode cX6_addTo 30 = .ok (.iaload, 1) := by decide +kernel
theorem dX6_addTo_31 : decode cX6_addTo 31 = .ok (.aload_n 0, 1) := by decide +kernel
theorem dX6_addTo_32 : decode cX6_addTo 32 = .ok (.getfield 15, 3) := by decide +kernel
theorem dX6_addTo_35 : decode cX6_addTo 35 = .ok (.iload_n 2, 1) := by decide +kernel
theorem dX6_addTo_36 : decode cX6_addTo 36 = .ok (.iconst 1, 1) := by decide +kernel
theorem dX6_addTo_37 : decode cX6_addTo 37 = .ok (.iadd, 1) := by decide +kernel
theorem dX6_addTo_38 : decode cX6_addTo 38 = .ok (.iaload, 1) := by decide +kernel
theorem dX6_addTo_39 : decode cX6_addTo 39 = .ok (.aload_n 0, 1) := by decide +kernel
theorem dX6_addTo_40 : decode cX6_addTo 40 = .ok (.getfield 15, 3) := by decide +kernel
theorem dX6_addTo_43 : decode cX6_addTo 43 = .ok (.iload_n 2, 1) := by decide +kernel
theorem dX6_addTo_44 : decode cX6_addTo 44 = .ok (.iconst 2, 1) := by decide +kernel
theorem dX6_addTo_45 : decode cX6_addTo 45 = .ok (.iadd, 1) := by decide +kernel
theorem dX6_addTo_46 : decode cX6_addTo 46 = .ok (.iaload, 1) := by decide +kernel
theorem dX6_addTo_47 : decode cX6_addTo 47 = .ok (.aload_n 0, 1) := by decide +kernel
theorem dX6_addTo_48 : decode cX6_addTo 48 = .ok (.getfield 15, 3) := by decide +kernel
theorem dX6_addTo_51 : decode cX6_addTo 51 = .ok (.iload_n 2, 1) := by decide +kernel
theorem dX6_addTo_52 : decode cX6_addTo 52 = .ok (.iconst 3, 1) := by decide +kernel
theorem dX6_addTo_53 : decode cX6_addTo 53 = .ok (.iadd, 1) := by decide +kernel
theorem dX6_addTo_54 : decode cX6_addTo 54 = .ok (.iaload, 1) := by decide +kernel
theorem dX6_addTo_55 : decode cX6_addTo 55 = .ok (.aload_n 0, 1) := by decide +kernel
theorem dX6_addTo_56 : decode cX6_addTo 56 = .ok (.getfield 15, 3) := by decide +kernel
theorem dX6_addTo_59 : decode cX6_addTo 59 = .ok (.iload_n 2, 1) := by decide +kernel
theorem dX6_addTo_60 : decode cX6_addTo 60 = .ok (.iconst 4, 1) := by decide +kernel
theorem dX6_addTo_61 : decode cX6_addTo 61 = .ok (.iadd, 1) := by decide +kernel
theorem dX6_addTo_62 : decode cX6_addTo 62 = .ok (.iaload, 1) := by decide +kernel
theorem dX6_addTo_63 : decode cX6_addTo 63 = .ok (.iload_n 3, 1) := by decide +kernel
theorem dX6_addTo_64 : decode cX6_addTo 64 = .ok (.invokevirtual 19, 3) := by decide +kernel
theorem dX6_addTo_67 : decode cX6_addTo 67 = .ok (.iconst (-1), 1) := by decide +kernel
theorem dX6_addTo_68 : decode cX6_addTo 68 = .ok (.if_icmp .eq 7, 3) := by decide +kernel
theorem dX6_addTo_71 : decode cX6_addTo 71 = .ok (.iconst 1, 1) := by decide +kernel
theorem dX6_addTo_72 : decode cX6_addTo 72 = .ok (.goto 4, 3) := by decide +kernel
theorem dX6_addTo_75 : decode cX6_addTo 75 = .ok (.iconst 0, 1) := by decide +kernel
theorem dX6_addTo_76 : decode cX6_addTo 76 = .ok (.ireturn, 1) := by decide +kernel
set_option maxRecDepth 20000 in
theorem ggX7_init_X1_init : GoodIn wsX7_init wsX1_init := goodIn_r _ [35, 36, 2, 3, 37, 38, 39, 40, 41, 42, 43, 44, 45, 46, 47, 48, 49, 50, 51, 119, 120, 121, 122, 123, 124, 125, 126, 127, 128, 129, 130, 131] (by decide +kernel) (by decide +kernel)
set_option maxRecDepth 20000 in
theorem gX7_init_X1_init : GoodIn wsX7_init (wsX1_init) := ggX7_init_X1_init
set_option maxRecDepth 20000 in
theorem ggX7_init_X4_init : GoodIn wsX7_init wsX4_init := goodIn_r _ [54, 55, 2, 3, 56, 39, 57, 58, 59, 45, 60, 61, 62, 63, 64, 65, 66, 67, 68, 140, 141, 142, 143, 144, 145, 146, 147, 148, 149, 150, 151, 152, 153, 154] (by decide +kernel) (by decide +kernel)
set_option maxRecDepth 20000 in
theorem gX7_init_X4_init : GoodIn wsX7_init (wsX4_init) := ggX7_init_X4_init
set_option maxRecDepth 20000 in
theorem ggX7_init_X5_init : GoodIn wsX7_init wsX5_init := goodIn_r _ [71, 72, 2, 3, 73, 74, 75, 39, 76, 77, 78, 79, 80, 155, 156, 157, 158, 159, 160, 161, 162] (by decide +kernel) (by decide +kernel)
set_option maxRecDepth 20000 in
theorem gX7_init_X5_init : GoodIn wsX7_init (wsX5_init) := ggX7_init_X5_init
set_option maxRecDepth 20000 in
theorem ggX7_init_X6_init : GoodIn wsX7_init wsX6_init := goodIn_r _ [83, 84, 2, 3, 85, 39, 86, 163, 164] (by decide +kernel) (by decide +kernel)
set_option maxRecDepth 20000 in
theorem gX7_init_X6_init : GoodIn wsX7_init (wsX6_init) := ggX7_init_X6_init
set_option maxRecDepth 20000 in
theorem ggX7_init_X3_init : GoodIn wsX7_init wsX3_init := goodIn_r _ [89, 90, 2, 3, 91, 92, 93, 39, 94, 95, 96, 97, 63, 98, 99, 45, 100, 101, 102, 165, 166, 167, 168, 169, 170, 171, 172, 173, 174, 175, 176, 177, 178, 179, 180] (by decide +kernel) (by decide +kernel)
set_option maxRecDepth 20000 in
theorem gX7_init_X3_init : GoodIn wsX7_init (wsX3_init) := ggX7_init_X3_init
set_option maxRecDepth 20000 in
theorem ggX7_init_X2_init : GoodIn wsX7_init wsX2_init := goodIn_r _ [105, 106, 2, 3, 107, 108, 109, 181, 182, 183] (by decide +kernel) (by decide +kernel)
set_option maxRecDepth 20000 in
theorem gX7_init_X2_init : GoodIn wsX7_init (wsX2_init) := ggX7_init_X2_init
set_option maxRecDepth 20000 in
theorem ggX7_init_X0_init : GoodIn wsX7_init wsX0_init := goodIn_r _ [112, 113, 2, 3, 114, 5, 6, 115, 39, 116, 117, 118, 34, 35, 36, 37, 38, 40, 41, 42, 43, 44, 45, 46, 47, 48, 49, 50, 51, 119, 120, 121, 122, 123, 124, 125, 126, 127, 128, 129, 130, 131, 184, 185, 186] (by decide +kernel) (by decide +kernel)
set_option maxRecDepth 20000 in
theorem gX7_init_X0_init : GoodIn wsX7_init (wsX0_init) := ggX7_init_X0_init
theorem dX7_init_0 : decode cX7_init 0 = .ok (.aload_n 0, 1) := by decide +kernel
theorem dX7_init_1 : decode cX7_init 1 = .ok (.invokespecial 3, 3) := by decide +kernel
theorem dX7_init_4 : decode cX7_init 4 = .ok (.aload_n 0, 1) := by decide +kernel
theorem dX7_init_5 : decode cX7_init 5 = .ok (.new 9, 3) := by decide +kernel
theorem dX7_init_8 : decode cX7_init 8 = .ok (.dup, 1) := by decide +kernel
theorem dX7_init_9 : decode cX7_init 9 = .ok (.invokespecial 11, 3) := by decide +kernel
theorem dX7_init_12 : decode cX7_init 12 = .ok (.putfield 12, 3) := by decide +kernel
theorem dX7_init_15 : decode cX7_init 15 = .ok (.aload_n 0, 1) := by decide +kernel
theorem dX7_init_16 : decode cX7_init 16 = .ok (.new 16, 3) := by decide +kernel
theorem dX7_init_19 : decode cX7_init 19 = .ok (.dup, 1) := by decide +kernel
theorem dX7_init_20 : decode cX7_init 20 = .ok (.aload_n 0, 1) := by decide +kernel
theorem dX7_init_21 : decode cX7_init 21 = .ok (.getfield 12, 3) := by decide +kernel
theorem dX7_init_24 : decode cX7_init 24 = .ok (.invokespecial 18, 3) := by decide +kernel
theorem dX7_init_27 : decode cX7_init 27 = .ok (.putfield 21, 3) := by decide +kernel
theorem dX7_init_30 : decode cX7_init 30 = .ok (.aload_n 0, 1) := by decide +kernel
theorem dX7_init_31 : decode cX7_init 31 = .ok (.new 25, 3) := by decide +kernel
theorem dX7_init_34 : decode cX7_init 34 = .ok (.dup, 1) := by decide +kernel
theorem dX7_init_35 : decode cX7_init 35 = .ok (.invokespecial 27, 3) := by decide +kernel
theorem dX7_init_38 : decode cX7_init 38 = .ok (.putfield 28, 3) := by decide +kernel
theorem dX7_init_41 : decode cX7_init 41 = .ok (.aload_n 0, 1) := by decide +kernel
theorem dX7_init_42 : decode cX7_init 42 = .ok (.new 32, 3) := by decide +kernel
theorem dX7_init_45 : decode cX7_init 45 = .ok (.dup, 1) := by decide +kernel
theorem dX7_init_46 : decode cX7_init 46 = .ok (.invokespecial 34, 3) := by decide +kernel
theorem dX7_init_49 : decode cX7_init 49 = .ok (.putfield 35, 3) := by decide +kernel
theorem dX7_init_52 : decode cX7_init 52 = .ok (.aload_n 0, 1) := by decide +kernel
theorem dX7_init_53 : decode cX7_init 53 = .ok (.new 39, 3) := by decide +kernel
theorem dX7_init_56 : decode cX7_init 56 = .ok (.dup, 1) := by decide +kernel
theorem dX7_init_57 : decode cX7_init 57 = .ok (.aload_n 0, 1) := by decide +kernel
theorem dX7_init_58 : decode cX7_init 58 = .ok (.getfield 21, 3) := by decide +kernel
theorem dX7_init_61 : decode cX7_init 61 = .ok (.invokespecial 41, 3) := by decide +kernel
theorem dX7_init_64 : decode cX7_init 64 = .ok (.putfield 44, 3) := by decide +kernel
theorem dX7_init_67 : decode cX7_init 67 = .ok (.aload_n 0, 1) := by decide +kernel
theorem dX7_init_68 : decode cX7_init 68 = .ok (.new 48, 3) := by decide +kernel
theorem dX7_init_71 : decode cX7_init 71 = .ok (.dup, 1) := by decide +kernel
theorem dX7_init_72 : decode cX7_init 72 = .ok (.aload_n 0, 1) := by decide +kernel
theorem dX7_init_73 : decode cX7_init 73 = .ok (.getfield 12, 3) := by decide +kernel
theorem dX7_init_76 : decode cX7_init 76 = .ok (.aload_n 0, 1) := by decide +kernel
theorem dX7_init_77 : decode cX7_init 77 = .ok (.getfield 21, 3) := by decide +kernel
theorem dX7_init_80 : decode cX7_init 80 = .ok (.aload_n 0, 1) := by decide +kernel
theorem dX7_init_81 : decode cX7_init 81 = .ok (.getfield 28, 3) := by decide +kernel
theorem dX7_init_84 : decode cX7_init 84 = .ok (.invokespecial 50, 3) := by decide +kernel
theorem dX7_init_87 : decode cX7_init 87 = .ok (.putfield 53, 3) := by decide +kernel
theorem dX7_init_90 : decode cX7_init 90 = .ok (.aload_n 0, 1) := by decide +kernel
theorem dX7_init_91 : decode cX7_init 91 = .ok (.iconst 3, 1) := by decide +kernel
theorem dX7_init_92 : decode cX7_init 92 = .ok (.anewarray 57, 3) := by decide +kernel
theorem dX7_init_95 : decode cX7_init 95 = .ok (.putfield 59, 3) := by decide +kernel
theorem dX7_init_98 : decode cX7_init 98 = .ok (.iconst 0, 1) := by decide +kernel
theorem dX7_init_99 : decode cX7_init 99 = .ok (.istore_n 1, 1) := by decide +kernel
theorem dX7_init_100 : decode cX7_init 100 = .ok (.iload_n 1, 1) := by decide +kernel
theorem dX7_init_101 : decode cX7_init 101 = .ok (.iconst 3, 1) := by decide +kernel
theorem dX7_init_102 : decode cX7_init 102 = .ok (.if_icmp .ge 22, 3) := by decide +kernel
theorem dX7_init_105 : decode cX7_init 105 = .ok (.aload_n 0, 1) := by decide +kernel
theorem dX7_init_106 : decode cX7_init 106 = .ok (.getfield 59, 3) := by decide +kernel
theorem dX7_init_109 : decode cX7_init 109 = .ok (.iload_n 1, 1) := by decide +kernel
theorem dX7_init_110 : decode cX7_init 110 = .ok (.new 57, 3) := by decide +kernel
theorem dX7_init_113 : decode cX7_init 113 = .ok (.dup, 1) := by decide +kernel
theorem dX7_init_114 : decode cX7_init 114 = .ok (.invokespecial 63, 3) := by decide +kernel
theorem dX7_init_117 : decode cX7_init 117 = .ok (.aastore, 1) := by decide +kernel
theorem dX7_init_118 : decode cX7_init 118 = .ok (.iinc 1 1, 3) := by decide +kernel
theorem dX7_init_121 : decode cX7_init 121 = .ok (.goto (-21), 3) := by decide +kernel
theorem dX7_init_124 : decode cX7_init 124 = .ok (.aload_n 0, 1) := by decide +kernel
theorem dX7_init_125 : decode cX7_init 125 = .ok (.lconst 0, 1) := by decide +kernel
theorem dX7_init_126 : decode cX7_init 126 = .ok (.putfield 64, 3) := by decide +kernel
theorem dX7_init_129 : decode cX7_init 129 = .ok (.return_, 1) := by decide +kernel
theorem dX7_glue_0 : decode cX7_glue 0 = .ok (.iload_n 1, 1) := by decide +kernel
theorem dX7_glue_1 : decode cX7_glue 1 = .ok (.iconst 1, 1) := by decide +kernel
theorem dX7_glue_2 : decode cX7_glue 2 = .ok (.if_icmp .lt 28, 3) := by decide +kernel
theorem dX7_glue_5 : decode cX7_glue 5 = .ok (.iload_n 1, 1) := by decide +kernel
theorem dX7_glue_6 : decode cX7_glue 6 = .ok (.bipush 51, 2) := by decide +kernel
theorem dX7_glue_8 : decode cX7_glue 8 = .ok (.if_icmp .ge 22, 3) := by decide +kernel
theorem dX7_glue_11 : decode cX7_glue 11 = .ok (.iload_n 2, 1) := by decide +kernel
theorem dX7_glue_12 : decode cX7_glue 12 = .ok (.ifCond .lt 18, 3) := by decide +kernel
theorem dX7_glue_15 : decode cX7_glue 15 = .ok (.iload_n 2, 1) := by decide +kernel
theorem dX7_glue_16 : decode cX7_glue 16 = .ok (.iconst 3, 1) := by decide +kernel
theorem dX7_glue_17 : decode cX7_glue 17 = .ok (.if_icmp .gt 13, 3) := by decide +kernel
theorem dX7_glue_20 : decode cX7_glue 20 = .ok (.aload_n 0, 1) := by decide +kernel
theorem dX7_glue_21 : decode cX7_glue 21 = .ok (.getfield 21, 3) := by decide +kernel
theorem dX7_glue_24 : decode cX7_glue 24 = .ok (.getfield 68, 3) := by decide +kernel
theorem dX7_glue_27 : decode cX7_glue 27 = .ok (.ifCond .eq 5, 3) := by decide +kernel
theorem dX7_glue_30 : decode cX7_glue 30 = .ok (.iconst 0, 1) := by decide +kernel
theorem dX7_glue_31 : decode cX7_glue 31 = .ok (.ireturn, 1) := by decide +kernel
theorem dX7_glue_32 : decode cX7_glue 32 = .ok (.aload_n 0, 1) := by decide +kernel
theorem dX7_glue_33 : decode cX7_glue 33 = .ok (.getfield 12, 3) := by decide +kernel
theorem dX7_glue_36 : decode cX7_glue 36 = .ok (.getfield 72, 3) := by decide +kernel
theorem dX7_glue_39 : decode cX7_glue 39 = .ok (.iload_n 1, 1) := by decide +kernel
theorem dX7_glue_40 : decode cX7_glue 40 = .ok (.iload_n 2, 1) := by decide +kernel
theorem dX7_glue_41 : decode cX7_glue 41 = .ok (.iastore, 1) := by decide +kernel
theorem dX7_glue_42 : decode cX7_glue 42 = .ok (.iconst 1, 1) := by decide +kernel
theorem dX7_glue_43 : decode cX7_glue 43 = .ok (.ireturn, 1) := by decide +kernel
set_option maxRecDepth 20000 in
theorem ggX7_piece_X1_addPiece : GoodIn wsX7_piece wsX1_addPiece := goodIn_r _ [7, 8, 9, 10, 11, 12, 13, 14, 6, 15, 16, 17, 18, 19, 20, 21, 22, 23, 24, 25, 26, 27, 28, 29, 30, 31, 32, 33, 34, 35, 36, 37, 38, 39, 62, 63, 64, 65, 66, 67, 68, 69, 70, 71, 72, 73, 74] (by decide +kernel) (by decide +kernel)
set_option maxRecDepth 20000 in
theorem gX7_piece_X1_addPiece : GoodIn wsX7_piece (wsV RX7 76 RX1 yX1_addPiece wsX1_addPiece) := goodIn_app (goodIn_of _ (by decide +kernel)) ggX7_piece_X1_addPiece
set_option maxRecDepth 20000 in
theorem ggX7_piece_X4_touchAll : GoodIn wsX7_piece wsX4_touchAll := goodIn_r _ [44, 45, 46, 47, 43, 48, 49, 50, 51, 52, 33, 53, 75, 76, 77, 78, 79, 80, 81, 82, 83, 84, 85, 86, 87, 88, 89] (by decide +kernel) (by decide +kernel)
set_option maxRecDepth 20000 in
theorem gX7_piece_X4_touchAll : GoodIn wsX7_piece (wsV RX7 80 RX4 yX4_touchAll wsX4_touchAll) := goodIn_app (goodIn_of _ (by decide +kernel)) ggX7_piece_X4_touchAll
theorem dX7_piece_0 : decode cX7_piece 0 = .ok (.aload_n 0, 1) := by decide +kernel
theorem dX7_piece_1 : decode cX7_piece 1 = .ok (.getfield 12, 3) := by decide +kernel
theorem dX7_piece_4 : decode cX7_piece 4 = .ok (.iload_n 1, 1) := by decide +kernel
theorem dX7_piece_5 : decode cX7_piece 5 = .ok (.iload_n 2, 1) := by decide +kernel
theorem dX7_piece_6 : decode cX7_piece 6 = .ok (.iload_n 3, 1) := by decide +kernel
theorem dX7_piece_7 : decode cX7_piece 7 = .ok (.iload 4, 2) := by decide +kernel
theorem dX7_piece_9 : decode cX7_piece 9 = .ok (.iload 5, 2) := by decide +kernel
theorem dX7_piece_11 : decode cX7_piece 11 = .ok (.iload 6, 2) := by decide +kernel
theorem dX7_piece_13 : decode cX7_piece 13 = .ok (.invokevirtual 76, 3) := by decide +kernel
theorem dX7_piece_16 : decode cX7_piece 16 = .ok (.istore 7, 2) := by decide +kernel
theorem dX7_piece_18 : decode cX7_piece 18 = .ok (.iload 7, 2) := by decide +kernel
theorem dX7_piece_20 : decode cX7_piece 20 = .ok (.iconst (-1), 1) := by decide +kernel
theorem dX7_piece_21 : decode cX7_piece 21 = .ok (.if_icmp .eq 10, 3) := by decide +kernel
theorem dX7_piece_24 : decode cX7_piece 24 = .ok (.aload_n 0, 1) := by decide +kernel
theorem dX7_piece_25 : decode cX7_piece 25 = .ok (.getfield 21, 3) := by decide +kernel
theorem dX7_piece_28 : decode cX7_piece 28 = .ok (.invokevirtual 80, 3) := by decide +kernel
theorem dX7_piece_31 : decode cX7_piece 31 = .ok (.iload 7, 2) := by decide +kernel
theorem dX7_piece_33 : decode cX7_piece 33 = .ok (.ireturn, 1) := by decide +kernel
set_option maxRecDepth 20000 in
theorem ggX7_feed_X6_hasRoomForFive : GoodIn wsX7_feed wsX6_hasRoomForFive := goodIn_r _ [7, 8, 22, 23] (by decide +kernel) (by decide +kernel)
set_option maxRecDepth 20000 in
theorem gX7_feed_X6_hasRoomForFive : GoodIn wsX7_feed (wsV RX7 83 RX6 yX6_hasRoomForFive wsX6_hasRoomForFive) := goodIn_app (goodIn_of _ (by decide +kernel)) ggX7_feed_X6_hasRoomForFive
set_option maxRecDepth 20000 in
theorem ggX7_feed_X6_append : GoodIn wsX7_feed wsX6_append := goodIn_r _ [12, 13, 8, 22, 23] (by decide +kernel) (by decide +kernel)
set_option maxRecDepth 20000 in
theorem gX7_feed_X6_append : GoodIn wsX7_feed (wsV RX7 87 RX6 yX6_append wsX6_append) := goodIn_app (goodIn_of _ (by decide +kernel)) ggX7_feed_X6_append
theorem dX7_feed_0 : decode cX7_feed 0 = .ok (.aload_n 0, 1) := by decide +kernel
theorem dX7_feed_1 : decode cX7_feed 1 = .ok (.getfield 35, 3) := by decide +kernel
theorem dX7_feed_4 : decode cX7_feed 4 = .ok (.invokevirtual 83, 3) := by decide +kernel
theorem dX7_feed_7 : decode cX7_feed 7 = .ok (.ifCond .ne 5, 3) := by decide +kernel
theorem dX7_feed_10 : decode cX7_feed 10 = .ok (.iconst (-1), 1) := by decide +kernel
theorem dX7_feed_11 : decode cX7_feed 11 = .ok (.ireturn, 1) := by decide +kernel
theorem dX7_feed_12 : decode cX7_feed 12 = .ok (.aload_n 0, 1) := by decide +kernel
theorem dX7_feed_13 : decode cX7_feed 13 = .ok (.getfield 35, 3) := by decide +kernel
theorem dX7_feed_16 : decode cX7_feed 16 = .ok (.iload_n 1, 1) := by decide +kernel
theorem dX7_feed_17 : decode cX7_feed 17 = .ok (.invokevirtual 87, 3) := by decide +kernel
theorem dX7_feed_20 : decode cX7_feed 20 = .ok (.aload_n 0, 1) := by decide +kernel
theorem dX7_feed_21 : decode cX7_feed 21 = .ok (.getfield 35, 3) := by decide +kernel
theorem dX7_feed_24 : decode cX7_feed 24 = .ok (.iload_n 2, 1) := by decide +kernel
theorem dX7_feed_25 : decode cX7_feed 25 = .ok (.invokevirtual 87, 3) := by decide +kernel
theorem dX7_feed_28 : decode cX7_feed 28 = .ok (.aload_n 0, 1) := by decide +kernel
theorem dX7_feed_29 : decode cX7_feed 29 = .ok (.getfield 35, 3) := by decide +kernel
theorem dX7_feed_32 : decode cX7_feed 32 = .ok (.iload_n 3, 1) := by decide +kernel
theorem dX7_feed_33 : decode cX7_feed 33 = .ok (.invokevirtual 87, 3) := by decide +kernel
theorem dX7_feed_36 : decode cX7_feed 36 = .ok (.aload_n 0, 1) := by decide +kernel
theorem dX7_feed_37 : decode cX7_feed 37 = .ok (.getfield 35, 3) := by decide +kernel
theorem dX7_feed_40 : decode cX7_feed 40 = .ok (.iload 4, 2) := by decide +kernel
theorem dX7_feed_42 : decode cX7_feed 42 = .ok (.invokevirtual 87, 3) := by decide +kernel
theorem dX7_feed_45 : decode cX7_feed 45 = .ok (.aload_n 0, 1) := by decide +kernel
theorem dX7_feed_46 : decode cX7_feed 46 = .ok (.getfield 35, 3) := by decide +kernel
theorem dX7_feed_49 : decode cX7_feed 49 = .ok (.iload 5, 2) := by decide +kernel
theorem dX7_feed_51 : decode cX7_feed 51 = .ok (.invokevirtual 87, 3) := by decide +kernel
theorem dX7_feed_54 : decode cX7_feed 54 = .ok (.aload_n 0, 1) := by decide +kernel
theorem dX7_feed_55 : decode cX7_feed 55 = .ok (.getfield 35, 3) := by decide +kernel
theorem dX7_feed_58 : decode cX7_feed 58 = .ok (.getfield 91, 3) := by decide +kernel
theorem dX7_feed_61 : decode cX7_feed 61 = .ok (.ireturn, 1) := by decide +kernel
set_option maxRecDepth 20000 in
theorem ggX7_set_X6_addTo : GoodIn wsX7_set wsX6_addTo := goodIn_r _ [9, 10, 11, 12, 13, 14, 15, 16, 17, 18, 19, 20, 21, 22, 23, 24, 25, 26, 27, 28, 29, 30, 31, 32, 33, 34, 35, 36, 37, 38, 39, 40, 41, 42, 43, 44, 45, 46, 47, 70, 71, 72, 73, 74, 75, 76, 77, 78, 79, 80, 81, 82, 83, 84] (by decide +kernel) (by decide +kernel)
set_option maxRecDepth 20000 in
theorem gX7_set_X6_addTo : GoodIn wsX7_set (wsV RX7 94 RX6 yX6_addTo wsX6_addTo) := goodIn_app (goodIn_of _ (by decide +kernel)) ggX7_set_X6_addTo
set_option maxRecDepth 20000 in
theorem ggX7_set_X4_touchAll : GoodIn wsX7_set wsX4_touchAll := goodIn_r _ [52, 53, 54, 55, 51, 56, 57, 58, 59, 60, 41, 61, 85, 86, 87, 88, 89, 90, 91, 92, 93, 94, 95, 96, 97, 98, 99] (by decide +kernel) (by decide +kernel)
set_option maxRecDepth 20000 in
theorem gX7_set_X4_touchAll : GoodIn wsX7_set (wsV RX7 80 RX4 yX4_touchAll wsX4_touchAll) := goodIn_app (goodIn_of _ (by decide +kernel)) ggX7_set_X4_touchAll
theorem dX7_set_0 : decode cX7_set 0 = .ok (.iload_n 1, 1) := by decide +kernel
theorem dX7_set_1 : decode cX7_set 1 = .ok (.ifCond .lt 14, 3) := by decide +kernel
theorem dX7_set_4 : decode cX7_set 4 = .ok (.iload_n 1, 1) := by decide +kernel
theorem dX7_set_5 : decode cX7_set 5 = .ok (.aload_n 0, 1) := by decide +kernel
theorem dX7_set_6 : decode cX7_set 6 = .ok (.getfield 35, 3) := by decide +kernel
theorem dX7_set_9 : decode cX7_set 9 = .ok (.getfield 91, 3) := by decide +kernel
theorem dX7_set_12 : decode cX7_set 12 = .ok (.if_icmp .le 5, 3) := by decide +kernel
theorem dX7_set_15 : decode cX7_set 15 = .ok (.iconst (-1), 1) := by decide +kernel
theorem dX7_set_16 : decode cX7_set 16 = .ok (.ireturn, 1) := by decide +kernel
theorem dX7_set_17 : decode cX7_set 17 = .ok (.iconst 0, 1) := by decide +kernel
theorem dX7_set_18 : decode cX7_set 18 = .ok (.istore_n 2, 1) := by decide +kernel
theorem dX7_set_19 : decode cX7_set 19 = .ok (.iconst 0, 1) := by decide +kernel
theorem dX7_set_20 : decode cX7_set 20 = .ok (.istore_n 3, 1) := by decide +kernel
theorem dX7_set_21 : decode cX7_set 21 = .ok (.iload_n 3, 1) := by decide +kernel
theorem dX7_set_22 : decode cX7_set 22 = .ok (.bipush 8, 2) := by decide +kernel
theorem dX7_set_24 : decode cX7_set 24 = .ok (.iadd, 1) := by decide +kernel
theorem dX7_set_25 : decode cX7_set 25 = .ok (.iload_n 1, 1) := by decide +kernel
theorem dX7_set_26 : decode cX7_set 26 = .ok (.if_icmp .gt 30, 3) := by decide +kernel
theorem dX7_set_29 : decode cX7_set 29 = .ok (.aload_n 0, 1) := by decide +kernel
theorem dX7_set_30 : decode cX7_set 30 = .ok (.getfield 35, 3) := by decide +kernel
theorem dX7_set_33 : decode cX7_set 33 = .ok (.aload_n 0, 1) := by decide +kernel
theorem dX7_set_34 : decode cX7_set 34 = .ok (.getfield 12, 3) := by decide +kernel
theorem dX7_set_37 : decode cX7_set 37 = .ok (.iload_n 3, 1) := by decide +kernel
theorem dX7_set_38 : decode cX7_set 38 = .ok (.invokevirtual 94, 3) := by decide +kernel
theorem dX7_set_41 : decode cX7_set 41 = .ok (.ifCond .ne 6, 3) := by decide +kernel
theorem dX7_set_44 : decode cX7_set 44 = .ok (.goto 12, 3) := by decide +kernel
theorem dX7_set_47 : decode cX7_set 47 = .ok (.iinc 2 1, 3) := by decide +kernel
theorem dX7_set_50 : decode cX7_set 50 = .ok (.iinc 3 8, 3) := by decide +kernel
theorem dX7_set_53 : decode cX7_set 53 = .ok (.goto (-32), 3) := by decide +kernel
theorem dX7_set_56 : decode cX7_set 56 = .ok (.aload_n 0, 1) := by decide +kernel
theorem dX7_set_57 : decode cX7_set 57 = .ok (.getfield 35, 3) := by decide +kernel
theorem dX7_set_60 : decode cX7_set 60 = .ok (.iconst 0, 1) := by decide +kernel
theorem dX7_set_61 : decode cX7_set 61 = .ok (.putfield 91, 3) := by decide +kernel
theorem dX7_set_64 : decode cX7_set 64 = .ok (.iload_n 2, 1) := by decide +kernel
theorem dX7_set_65 : decode cX7_set 65 = .ok (.ifCond .le 10, 3) := by decide +kernel
theorem dX7_set_68 : decode cX7_set 68 = .ok (.aload_n 0, 1) := by decide +kernel
theorem dX7_set_69 : decode cX7_set 69 = .ok (.getfield 21, 3) := by decide +kernel
theorem dX7_set_72 : decode cX7_set 72 = .ok (.invokevirtual 80, 3) := by decide +kernel
theorem dX7_set_75 : decode cX7_set 75 = .ok (.iload_n 2, 1) := by decide +kernel
theorem dX7_set_76 : decode cX7_set 76 = .ok (.ireturn, 1) := by decide +kernel
theorem dX7_warmth_0 : decode cX7_warmth 0 = .ok (.iload_n 1, 1) := by decide +kernel
theorem dX7_warmth_1 : decode cX7_warmth 1 = .ok (.iconst 1, 1) := by decide +kernel
theorem dX7_warmth_2 : decode cX7_warmth 2 = .ok (.if_icmp .lt 18, 3) := by decide +kernel
theorem dX7_warmth_5 : decode cX7_warmth 5 = .ok (.iload_n 1, 1) := by decide +kernel
theorem dX7_warmth_6 : decode cX7_warmth 6 = .ok (.iconst 3, 1) := by decide +kernel
theorem dX7_warmth_7 : decode cX7_warmth 7 = .ok (.if_icmp .gt 13, 3) := by decide +kernel
theorem dX7_warmth_10 : decode cX7_warmth 10 = .ok (.aload_n 0, 1) := by decide +kernel
theorem dX7_warmth_11 : decode cX7_warmth 11 = .ok (.getfield 21, 3) := by decide +kernel
theorem dX7_warmth_14 : decode cX7_warmth 14 = .ok (.getfield 68, 3) := by decide +kernel
theorem dX7_warmth_17 : decode cX7_warmth 17 = .ok (.ifCond .eq 5, 3) := by decide +kernel
theorem dX7_warmth_20 : decode cX7_warmth 20 = .ok (.iconst 0, 1) := by decide +kernel
theorem dX7_warmth_21 : decode cX7_warmth 21 = .ok (.ireturn, 1) := by decide +kernel
theorem dX7_warmth_22 : decode cX7_warmth 22 = .ok (.aload_n 0, 1) := by decide +kernel
theorem dX7_warmth_23 : decode cX7_warmth 23 = .ok (.getfield 12, 3) := by decide +kernel
theorem dX7_warmth_26 : decode cX7_warmth 26 = .ok (.iload_n 1, 1) := by decide +kernel
theorem dX7_warmth_27 : decode cX7_warmth 27 = .ok (.putfield 98, 3) := by decide +kernel
theorem dX7_warmth_30 : decode cX7_warmth 30 = .ok (.iconst 1, 1) := by decide +kernel
theorem dX7_warmth_31 : decode cX7_warmth 31 = .ok (.ireturn, 1) := by decide +kernel
set_option maxRecDepth 20000 in
theorem ggX7_clear_X4_sweep : GoodIn wsX7_clear wsX4_sweep := goodIn_r _ [8, 9, 10, 11, 12, 13, 14, 15, 16, 17, 18, 7, 19, 20, 21, 22, 23, 24, 25, 26, 27, 28, 29, 48, 49, 50, 51, 52, 53, 54, 55, 56, 57, 58, 59, 60, 61, 62] (by decide +kernel) (by decide +kernel)
set_option maxRecDepth 20000 in
theorem gX7_clear_X4_sweep : GoodIn wsX7_clear (wsV RX7 101 RX4 yX4_sweep wsX4_sweep) := goodIn_app (goodIn_of _ (by decide +kernel)) ggX7_clear_X4_sweep
set_option maxRecDepth 20000 in
theorem ggX7_clear_X5_restart : GoodIn wsX7_clear wsX5_restart := goodIn_r _ [34, 35, 36, 37, 38, 39, 13, 14, 15, 63, 64, 65, 66, 67, 68, 69, 70] (by decide +kernel) (by decide +kernel)
set_option maxRecDepth 20000 in
theorem gX7_clear_X5_restart : GoodIn wsX7_clear (wsV RX7 104 RX5 yX5_restart wsX5_restart) := goodIn_app (goodIn_of _ (by decide +kernel)) ggX7_clear_X5_restart
theorem dX7_clear_0 : decode cX7_clear 0 = .ok (.aload_n 0, 1) := by decide +kernel
theorem dX7_clear_1 : decode cX7_clear 1 = .ok (.getfield 21, 3) := by decide +kernel
theorem dX7_clear_4 : decode cX7_clear 4 = .ok (.getfield 68, 3) := by decide +kernel
theorem dX7_clear_7 : decode cX7_clear 7 = .ok (.istore_n 1, 1) := by decide +kernel
theorem dX7_clear_8 : decode cX7_clear 8 = .ok (.aload_n 0, 1) := by decide +kernel
theorem dX7_clear_9 : decode cX7_clear 9 = .ok (.getfield 21, 3) := by decide +kernel
theorem dX7_clear_12 : decode cX7_clear 12 = .ok (.invokevirtual 101, 3) := by decide +kernel
theorem dX7_clear_15 : decode cX7_clear 15 = .ok (.aload_n 0, 1) := by decide +kernel
theorem dX7_clear_16 : decode cX7_clear 16 = .ok (.getfield 28, 3) := by decide +kernel
theorem dX7_clear_19 : decode cX7_clear 19 = .ok (.iconst 1, 1) := by decide +kernel
theorem dX7_clear_20 : decode cX7_clear 20 = .ok (.invokevirtual 104, 3) := by decide +kernel
theorem dX7_clear_23 : decode cX7_clear 23 = .ok (.iload_n 1, 1) := by decide +kernel
theorem dX7_clear_24 : decode cX7_clear 24 = .ok (.ireturn, 1) := by decide +kernel
set_option maxRecDepth 20000 in
theorem ggX7_seed_X7_placeOf : GoodIn wsX7_seed wsX7_placeOf := goodIn_r _ [7] (by decide +kernel) (by decide +kernel)
set_option maxRecDepth 20000 in
theorem gX7_seed_X7_placeOf : GoodIn wsX7_seed (va_wsS RX7 108 yX7_placeOf wsX7_placeOf) := goodIn_app (goodIn_of _ (by decide +kernel)) ggX7_seed_X7_placeOf
set_option maxRecDepth 20000 in
theorem ggX7_seed_X1_isOfKind : GoodIn wsX7_seed wsX1_isOfKind := goodIn_r _ [12, 13, 14, 15, 16, 11, 17, 18, 90, 91, 92, 93, 94, 95, 96, 97, 98, 99, 100, 101, 102] (by decide +kernel) (by decide +kernel)
set_option maxRecDepth 20000 in
theorem gX7_seed_X1_isOfKind : GoodIn wsX7_seed (wsV RX7 112 RX1 yX1_isOfKind wsX1_isOfKind) := goodIn_app (goodIn_of _ (by decide +kernel)) ggX7_seed_X1_isOfKind
set_option maxRecDepth 20000 in
theorem ggX7_seed_X4_isFree : GoodIn wsX7_seed wsX4_isFree := goodIn_r _ [23, 24, 75, 76, 77, 78, 79, 80, 81, 82, 83, 84, 85, 86, 87, 88, 89] (by decide +kernel) (by decide +kernel)
set_option maxRecDepth 20000 in
theorem gX7_seed_X4_isFree : GoodIn wsX7_seed (wsV RX7 116 RX4 yX4_isFree wsX4_isFree) := goodIn_app (goodIn_of _ (by decide +kernel)) ggX7_seed_X4_isFree
set_option maxRecDepth 20000 in
theorem ggX7_seed_X7_stepDown : GoodIn wsX7_seed wsX7_stepDown := goodIn_r _ [28, 2, 29, 30, 31, 32, 22, 33, 24, 34, 35, 36, 37, 38, 39, 40, 41, 42, 43, 44, 45, 46, 47, 48, 49, 6, 50, 51, 52, 53, 54, 55, 56, 57, 58, 59, 60, 61, 62, 63, 64, 65, 66, 67, 68, 69, 70, 71, 72, 73, 74, 75, 76, 77, 78, 79, 80, 81, 82, 83, 84, 85, 86, 87, 88, 89, 90, 91, 92, 93, 94, 95, 96, 97, 98, 99, 100, 101, 102, 103, 104, 105, 106, 107, 108, 109, 110] (by decide +kernel) (by decide +kernel)
set_option maxRecDepth 20000 in
theorem gX7_seed_X7_stepDown : GoodIn wsX7_seed (wsV RX7 123 RX7 yX7_stepDown wsX7_stepDown) := goodIn_app (goodIn_of _ (by decide +kernel)) ggX7_seed_X7_stepDown
theorem dX7_seed_0 : decode cX7_seed 0 = .ok (.iload_n 2, 1) := by decide +kernel
theorem dX7_seed_1 : decode cX7_seed 1 = .ok (.iload_n 3, 1) := by decide +kernel
theorem dX7_seed_2 : decode cX7_seed 2 = .ok (.invokestatic 108, 3) := by decide +kernel
theorem dX7_seed_5 : decode cX7_seed 5 = .ok (.istore 4, 2) := by decide +kernel
theorem dX7_seed_7 : decode cX7_seed 7 = .ok (.iload 4, 2) := by decide +kernel
theorem dX7_seed_9 : decode cX7_seed 9 = .ok (.iconst (-1), 1) := by decide +kernel
theorem dX7_seed_10 : decode cX7_seed 10 = .ok (.if_icmp .eq 37, 3) := by decide +kernel
theorem dX7_seed_13 : decode cX7_seed 13 = .ok (.aload_n 0, 1) := by decide +kernel
theorem dX7_seed_14 : decode cX7_seed 14 = .ok (.getfield 12, 3) := by decide +kernel
theorem dX7_seed_17 : decode cX7_seed 17 = .ok (.iload_n 1, 1) := by decide +kernel
theorem dX7_seed_18 : decode cX7_seed 18 = .ok (.iconst 1, 1) := by decide +kernel
theorem dX7_seed_19 : decode cX7_seed 19 = .ok (.invokevirtual 112, 3) := by decide +kernel
theorem dX7_seed_22 : decode cX7_seed 22 = .ok (.ifCond .eq 25, 3) := by decide +kernel
theorem dX7_seed_25 : decode cX7_seed 25 = .ok (.aload_n 0, 1) := by decide +kernel
theorem dX7_seed_26 : decode cX7_seed 26 = .ok (.getfield 21, 3) := by decide +kernel
theorem dX7_seed_29 : decode cX7_seed 29 = .ok (.iload 4, 2) := by decide +kernel
theorem dX7_seed_31 : decode cX7_seed 31 = .ok (.invokevirtual 116, 3) := by decide +kernel
theorem dX7_seed_34 : decode cX7_seed 34 = .ok (.ifCond .eq 13, 3) := by decide +kernel
theorem dX7_seed_37 : decode cX7_seed 37 = .ok (.aload_n 0, 1) := by decide +kernel
theorem dX7_seed_38 : decode cX7_seed 38 = .ok (.getfield 21, 3) := by decide +kernel
theorem dX7_seed_41 : decode cX7_seed 41 = .ok (.getfield 120, 3) := by decide +kernel
theorem dX7_seed_44 : decode cX7_seed 44 = .ok (.ifCond .eq 5, 3) := by decide +kernel
theorem dX7_seed_47 : decode cX7_seed 47 = .ok (.iconst 0, 1) := by decide +kernel
theorem dX7_seed_48 : decode cX7_seed 48 = .ok (.ireturn, 1) := by decide +kernel
theorem dX7_seed_49 : decode cX7_seed 49 = .ok (.aload_n 0, 1) := by decide +kernel
theorem dX7_seed_50 : decode cX7_seed 50 = .ok (.iconst 0, 1) := by decide +kernel
theorem dX7_seed_51 : decode cX7_seed 51 = .ok (.iload_n 1, 1) := by decide +kernel
theorem dX7_seed_52 : decode cX7_seed 52 = .ok (.iload 4, 2) := by decide +kernel
theorem dX7_seed_54 : decode cX7_seed 54 = .ok (.invokevirtual 123, 3) := by decide +kernel
theorem dX7_seed_57 : decode cX7_seed 57 = .ok (.iconst 1, 1) := by decide +kernel
theorem dX7_seed_58 : decode cX7_seed 58 = .ok (.ireturn, 1) := by decide +kernel
set_option maxRecDepth 20000 in
theorem ggX7_may_X7_placeOf : GoodIn wsX7_may wsX7_placeOf := goodIn_r _ [6] (by decide +kernel) (by decide +kernel)
set_option maxRecDepth 20000 in
theorem gX7_may_X7_placeOf : GoodIn wsX7_may (va_wsS RX7 108 yX7_placeOf wsX7_placeOf) := goodIn_app (goodIn_of _ (by decide +kernel)) ggX7_may_X7_placeOf
set_option maxRecDepth 20000 in
theorem ggX7_may_X1_has : GoodIn wsX7_may wsX1_has := goodIn_r _ [11, 12, 92, 93, 94, 95, 96, 97, 98, 99, 100, 101, 102, 103, 104] (by decide +kernel) (by decide +kernel)
set_option maxRecDepth 20000 in
theorem gX7_may_X1_has : GoodIn wsX7_may (wsV RX7 127 RX1 yX1_has wsX1_has) := goodIn_app (goodIn_of _ (by decide +kernel)) ggX7_may_X1_has
set_option maxRecDepth 20000 in
theorem ggX7_may_X4_fitsAt : GoodIn wsX7_may wsX4_fitsAt := goodIn_r _ [17, 18, 19, 20, 21, 16, 22, 23, 24, 25, 26, 27, 28, 29, 30, 31, 32, 33, 34, 35, 36, 37, 38, 39, 40, 41, 42, 43, 5, 44, 45, 46, 47, 48, 49, 50, 51, 52, 53, 54, 55, 56, 57, 58, 59, 60, 61, 62, 63, 64, 65, 66, 67, 68, 69, 70, 71, 72, 73, 74, 75, 76, 77, 78, 79, 80, 81, 82, 83, 105, 106, 107, 108, 109, 110, 111, 112, 113, 114, 115, 116, 117, 118, 119, 92, 93, 94, 95, 96, 97, 98, 99, 100, 101, 102, 103, 104] (by decide +kernel) (by decide +kernel)
set_option maxRecDepth 20000 in
theorem gX7_may_X4_fitsAt : GoodIn wsX7_may (wsV RX7 130 RX4 yX4_fitsAt wsX4_fitsAt) := goodIn_app (goodIn_of _ (by decide +kernel)) ggX7_may_X4_fitsAt
theorem dX7_may_0 : decode cX7_may 0 = .ok (.iload_n 2, 1) := by decide +kernel
theorem dX7_may_1 : decode cX7_may 1 = .ok (.iload_n 3, 1) := by decide +kernel
theorem dX7_may_2 : decode cX7_may 2 = .ok (.invokestatic 108, 3) := by decide +kernel
theorem dX7_may_5 : decode cX7_may 5 = .ok (.istore 4, 2) := by decide +kernel
theorem dX7_may_7 : decode cX7_may 7 = .ok (.iload 4, 2) := by decide +kernel
theorem dX7_may_9 : decode cX7_may 9 = .ok (.iconst (-1), 1) := by decide +kernel
theorem dX7_may_10 : decode cX7_may 10 = .ok (.if_icmp .eq 31, 3) := by decide +kernel
theorem dX7_may_13 : decode cX7_may 13 = .ok (.aload_n 0, 1) := by decide +kernel
theorem dX7_may_14 : decode cX7_may 14 = .ok (.getfield 12, 3) := by decide +kernel
theorem dX7_may_17 : decode cX7_may 17 = .ok (.iload_n 1, 1) := by decide +kernel
theorem dX7_may_18 : decode cX7_may 18 = .ok (.invokevirtual 127, 3) := by decide +kernel
theorem dX7_may_21 : decode cX7_may 21 = .ok (.ifCond .eq 20, 3) := by decide +kernel
theorem dX7_may_24 : decode cX7_may 24 = .ok (.aload_n 0, 1) := by decide +kernel
theorem dX7_may_25 : decode cX7_may 25 = .ok (.getfield 21, 3) := by decide +kernel
theorem dX7_may_28 : decode cX7_may 28 = .ok (.iload 4, 2) := by decide +kernel
theorem dX7_may_30 : decode cX7_may 30 = .ok (.iload_n 1, 1) := by decide +kernel
theorem dX7_may_31 : decode cX7_may 31 = .ok (.invokevirtual 130, 3) := by decide +kernel
theorem dX7_may_34 : decode cX7_may 34 = .ok (.ifCond .eq 7, 3) := by decide +kernel
theorem dX7_may_37 : decode cX7_may 37 = .ok (.iconst 1, 1) := by decide +kernel
theorem dX7_may_38 : decode cX7_may 38 = .ok (.goto 4, 3) := by decide +kernel
theorem dX7_may_41 : decode cX7_may 41 = .ok (.iconst 0, 1) := by decide +kernel
theorem dX7_may_42 : decode cX7_may 42 = .ok (.ireturn, 1) := by decide +kernel
set_option maxRecDepth 20000 in
theorem ggX7_hold_X7_placeOf : GoodIn wsX7_hold wsX7_placeOf := goodIn_r _ [6] (by decide +kernel) (by decide +kernel)
set_option maxRecDepth 20000 in
theorem gX7_hold_X7_placeOf : GoodIn wsX7_hold (va_wsS RX7 108 yX7_placeOf wsX7_placeOf) := goodIn_app (goodIn_of _ (by decide +kernel)) ggX7_hold_X7_placeOf
set_option maxRecDepth 20000 in
theorem ggX7_hold_X1_has : GoodIn wsX7_hold wsX1_has := goodIn_r _ [11, 12, 51, 52, 53, 54, 55, 56, 57, 58, 59, 60, 61, 62, 63] (by decide +kernel) (by decide +kernel)
set_option maxRecDepth 20000 in
theorem gX7_hold_X1_has : GoodIn wsX7_hold (wsV RX7 127 RX1 yX1_has wsX1_has) := goodIn_app (goodIn_of _ (by decide +kernel)) ggX7_hold_X1_has
set_option maxRecDepth 20000 in
theorem ggX7_hold_X4_hasRoomFor : GoodIn wsX7_hold wsX4_hasRoomFor := goodIn_r _ [17, 18, 19, 20, 21, 22, 23, 16, 24, 25, 5, 26, 64, 65, 66, 67, 68, 69, 70, 71, 72, 73, 74, 75, 76, 77, 78, 51, 52, 53, 54, 55, 56, 57, 58, 59, 60, 61, 62, 63] (by decide +kernel) (by decide +kernel)
set_option maxRecDepth 20000 in
theorem gX7_hold_X4_hasRoomFor : GoodIn wsX7_hold (wsV RX7 133 RX4 yX4_hasRoomFor wsX4_hasRoomFor) := goodIn_app (goodIn_of _ (by decide +kernel)) ggX7_hold_X4_hasRoomFor
set_option maxRecDepth 20000 in
theorem ggX7_hold_X4_holdOf : GoodIn wsX7_hold wsX4_holdOf := goodIn_r _ [30, 19, 20, 31, 32, 33, 16, 34, 35, 5, 36, 37, 38, 39, 40, 41, 18, 42, 64, 65, 66, 67, 68, 69, 70, 71, 72, 73, 74, 75, 76, 77, 78, 51, 52, 53, 54, 55, 56, 57, 58, 59, 60, 61, 62, 63] (by decide +kernel) (by decide +kernel)
set_option maxRecDepth 20000 in
theorem gX7_hold_X4_holdOf : GoodIn wsX7_hold (wsV RX7 136 RX4 yX4_holdOf wsX4_holdOf) := goodIn_app (goodIn_of _ (by decide +kernel)) ggX7_hold_X4_holdOf
theorem dX7_hold_0 : decode cX7_hold 0 = .ok (.iload_n 2, 1) := by decide +kernel
theorem dX7_hold_1 : decode cX7_hold 1 = .ok (.iload_n 3, 1) := by decide +kernel
theorem dX7_hold_2 : decode cX7_hold 2 = .ok (.invokestatic 108, 3) := by decide +kernel
theorem dX7_hold_5 : decode cX7_hold 5 = .ok (.istore 4, 2) := by decide +kernel
theorem dX7_hold_7 : decode cX7_hold 7 = .ok (.iload 4, 2) := by decide +kernel
theorem dX7_hold_9 : decode cX7_hold 9 = .ok (.iconst (-1), 1) := by decide +kernel
theorem dX7_hold_10 : decode cX7_hold 10 = .ok (.if_icmp .eq 27, 3) := by decide +kernel
theorem dX7_hold_13 : decode cX7_hold 13 = .ok (.aload_n 0, 1) := by decide +kernel
theorem dX7_hold_14 : decode cX7_hold 14 = .ok (.getfield 12, 3) := by decide +kernel
theorem dX7_hold_17 : decode cX7_hold 17 = .ok (.iload_n 1, 1) := by decide +kernel
theorem dX7_hold_18 : decode cX7_hold 18 = .ok (.invokevirtual 127, 3) := by decide +kernel
theorem dX7_hold_21 : decode cX7_hold 21 = .ok (.ifCond .eq 16, 3) := by decide +kernel
theorem dX7_hold_24 : decode cX7_hold 24 = .ok (.aload_n 0, 1) := by decide +kernel
theorem dX7_hold_25 : decode cX7_hold 25 = .ok (.getfield 21, 3) := by decide +kernel
theorem dX7_hold_28 : decode cX7_hold 28 = .ok (.iload_n 1, 1) := by decide +kernel
theorem dX7_hold_29 : decode cX7_hold 29 = .ok (.iload 4, 2) := by decide +kernel
theorem dX7_hold_31 : decode cX7_hold 31 = .ok (.invokevirtual 133, 3) := by decide +kernel
theorem dX7_hold_34 : decode cX7_hold 34 = .ok (.ifCond .ne 5, 3) := by decide +kernel
theorem dX7_hold_37 : decode cX7_hold 37 = .ok (.iconst (-1), 1) := by decide +kernel
theorem dX7_hold_38 : decode cX7_hold 38 = .ok (.ireturn, 1) := by decide +kernel
theorem dX7_hold_39 : decode cX7_hold 39 = .ok (.aload_n 0, 1) := by decide +kernel
theorem dX7_hold_40 : decode cX7_hold 40 = .ok (.getfield 21, 3) := by decide +kernel
theorem dX7_hold_43 : decode cX7_hold 43 = .ok (.iload_n 1, 1) := by decide +kernel
theorem dX7_hold_44 : decode cX7_hold 44 = .ok (.iload 4, 2) := by decide +kernel
theorem dX7_hold_46 : decode cX7_hold 46 = .ok (.invokevirtual 136, 3) := by decide +kernel
theorem dX7_hold_49 : decode cX7_hold 49 = .ok (.ireturn, 1) := by decide +kernel
set_option maxRecDepth 20000 in
theorem ggX7_come_X7_placeOf : GoodIn wsX7_come wsX7_placeOf := goodIn_r _ [6] (by decide +kernel) (by decide +kernel)
set_option maxRecDepth 20000 in
theorem gX7_come_X7_placeOf : GoodIn wsX7_come (va_wsS RX7 108 yX7_placeOf wsX7_placeOf) := goodIn_app (goodIn_of _ (by decide +kernel)) ggX7_come_X7_placeOf
set_option maxRecDepth 20000 in
theorem ggX7_come_X1_has : GoodIn wsX7_come wsX1_has := goodIn_r _ [11, 12, 130, 131, 132, 133, 134, 135, 136, 137, 138, 139, 140, 141, 142] (by decide +kernel) (by decide +kernel)
set_option maxRecDepth 20000 in
theorem gX7_come_X1_has : GoodIn wsX7_come (wsV RX7 127 RX1 yX1_has wsX1_has) := goodIn_app (goodIn_of _ (by decide +kernel)) ggX7_come_X1_has
set_option maxRecDepth 20000 in
theorem ggX7_come_X4_fitsAt : GoodIn wsX7_come wsX4_fitsAt := goodIn_r _ [17, 18, 19, 20, 21, 16, 22, 23, 24, 25, 26, 27, 28, 29, 30, 31, 32, 33, 34, 35, 36, 37, 38, 39, 40, 41, 42, 43, 5, 44, 45, 46, 47, 48, 49, 50, 51, 52, 53, 54, 55, 56, 57, 58, 59, 60, 61, 62, 63, 64, 65, 66, 67, 68, 69, 70, 71, 72, 73, 74, 75, 76, 77, 78, 79, 80, 81, 82, 83, 143, 144, 145, 146, 147, 148, 149, 150, 151, 152, 153, 154, 155, 156, 157, 130, 131, 132, 133, 134, 135, 136, 137, 138, 139, 140, 141, 142] (by decide +kernel) (by decide +kernel)
set_option maxRecDepth 20000 in
theorem gX7_come_X4_fitsAt : GoodIn wsX7_come (wsV RX7 130 RX4 yX4_fitsAt wsX4_fitsAt) := goodIn_app (goodIn_of _ (by decide +kernel)) ggX7_come_X4_fitsAt
set_option maxRecDepth 20000 in
theorem ggX7_come_X7_stepDown : GoodIn wsX7_come wsX7_stepDown := goodIn_r _ [87, 2, 88, 89, 90, 91, 16, 92, 32, 33, 93, 94, 95, 96, 97, 98, 99, 100, 101, 102, 103, 27, 24, 23, 104, 5, 105, 106, 107, 108, 109, 110, 111, 112, 113, 114, 115, 116, 117, 118, 119, 120, 121, 122, 123, 124, 125, 126, 127, 128, 129, 143, 144, 145, 146, 147, 148, 149, 150, 151, 152, 153, 154, 155, 156, 157, 130, 131, 132, 133, 134, 135, 136, 137, 138, 139, 140, 141, 142, 158, 159, 160, 161, 162, 163, 164, 165] (by decide +kernel) (by decide +kernel)
set_option maxRecDepth 20000 in
theorem gX7_come_X7_stepDown : GoodIn wsX7_come (wsV RX7 123 RX7 yX7_stepDown wsX7_stepDown) := goodIn_app (goodIn_of _ (by decide +kernel)) ggX7_come_X7_stepDown
theorem dX7_come_0 : decode cX7_come 0 = .ok (.iload_n 2, 1) := by decide +kernel
theorem dX7_come_1 : decode cX7_come 1 = .ok (.iload_n 3, 1) := by decide +kernel
theorem dX7_come_2 : decode cX7_come 2 = .ok (.invokestatic 108, 3) := by decide +kernel
theorem dX7_come_5 : decode cX7_come 5 = .ok (.istore 4, 2) := by decide +kernel
theorem dX7_come_7 : decode cX7_come 7 = .ok (.iload 4, 2) := by decide +kernel
theorem dX7_come_9 : decode cX7_come 9 = .ok (.iconst (-1), 1) := by decide +kernel
theorem dX7_come_10 : decode cX7_come 10 = .ok (.if_icmp .eq 27, 3) := by decide +kernel
theorem dX7_come_13 : decode cX7_come 13 = .ok (.aload_n 0, 1) := by decide +kernel
theorem dX7_come_14 : decode cX7_come 14 = .ok (.getfield 12, 3) := by decide +kernel
theorem dX7_come_17 : decode cX7_come 17 = .ok (.iload_n 1, 1) := by decide +kernel
theorem dX7_come_18 : decode cX7_come 18 = .ok (.invokevirtual 127, 3) := by decide +kernel
theorem dX7_come_21 : decode cX7_come 21 = .ok (.ifCond .eq 16, 3) := by decide +kernel
theorem dX7_come_24 : decode cX7_come 24 = .ok (.aload_n 0, 1) := by decide +kernel
theorem dX7_come_25 : decode cX7_come 25 = .ok (.getfield 21, 3) := by decide +kernel
theorem dX7_come_28 : decode cX7_come 28 = .ok (.iload 4, 2) := by decide +kernel
theorem dX7_come_30 : decode cX7_come 30 = .ok (.iload_n 1, 1) := by decide +kernel
theorem dX7_come_31 : decode cX7_come 31 = .ok (.invokevirtual 130, 3) := by decide +kernel
theorem dX7_come_34 : decode cX7_come 34 = .ok (.ifCond .ne 5, 3) := by decide +kernel
theorem dX7_come_37 : decode cX7_come 37 = .ok (.iconst 0, 1) := by decide +kernel
theorem dX7_come_38 : decode cX7_come 38 = .ok (.ireturn, 1) := by decide +kernel
theorem dX7_come_39 : decode cX7_come 39 = .ok (.aload_n 0, 1) := by decide +kernel
theorem dX7_come_40 : decode cX7_come 40 = .ok (.iconst 1, 1) := by decide +kernel
theorem dX7_come_41 : decode cX7_come 41 = .ok (.iload_n 1, 1) := by decide +kernel
theorem dX7_come_42 : decode cX7_come 42 = .ok (.iload 4, 2) := by decide +kernel
theorem dX7_come_44 : decode cX7_come 44 = .ok (.invokevirtual 123, 3) := by decide +kernel
theorem dX7_come_47 : decode cX7_come 47 = .ok (.iconst 1, 1) := by decide +kernel
theorem dX7_come_48 : decode cX7_come 48 = .ok (.ireturn, 1) := by decide +kernel
set_option maxRecDepth 20000 in
theorem ggX7_go_X7_placeOf : GoodIn wsX7_go wsX7_placeOf := goodIn_r _ [7] (by decide +kernel) (by decide +kernel)
set_option maxRecDepth 20000 in
theorem gX7_go_X7_placeOf : GoodIn wsX7_go (va_wsS RX7 108 yX7_placeOf wsX7_placeOf) := goodIn_app (goodIn_of _ (by decide +kernel)) ggX7_go_X7_placeOf
set_option maxRecDepth 20000 in
theorem ggX7_go_X4_isFree : GoodIn wsX7_go wsX4_isFree := goodIn_r _ [12, 13, 112, 113, 114, 115, 116, 117, 118, 119, 120, 121, 122, 123, 124, 125, 126] (by decide +kernel) (by decide +kernel)
set_option maxRecDepth 20000 in
theorem gX7_go_X4_isFree : GoodIn wsX7_go (wsV RX7 116 RX4 yX4_isFree wsX4_isFree) := goodIn_app (goodIn_of _ (by decide +kernel)) ggX7_go_X4_isFree
set_option maxRecDepth 20000 in
theorem ggX7_go_X4_mayLeave : GoodIn wsX7_go wsX4_mayLeave := goodIn_r _ [17, 13, 18, 19, 20, 6, 21, 22, 23, 24, 25, 26, 27, 28, 29, 30, 31, 32, 33, 34, 35, 11, 36, 37, 38, 39, 40, 41, 42, 43, 44, 45, 46, 47, 48, 49, 50, 51, 52, 53, 54, 55, 56, 57, 58, 59, 60, 61, 62, 63, 64, 65, 66, 67, 112, 113, 114, 115, 116, 117, 118, 119, 120, 121, 122, 123, 124, 125, 126, 127, 128, 129, 130, 131, 132, 133, 134, 135, 136, 137, 138, 139] (by decide +kernel) (by decide +kernel)
set_option maxRecDepth 20000 in
theorem gX7_go_X4_mayLeave : GoodIn wsX7_go (wsV RX7 139 RX4 yX4_mayLeave wsX4_mayLeave) := goodIn_app (goodIn_of _ (by decide +kernel)) ggX7_go_X4_mayLeave
set_option maxRecDepth 20000 in
theorem ggX7_go_X7_pieceIn : GoodIn wsX7_go wsX7_pieceIn := goodIn_r _ [21] (by decide +kernel) (by decide +kernel)
set_option maxRecDepth 20000 in
theorem gX7_go_X7_pieceIn : GoodIn wsX7_go (va_wsS RX7 145 yX7_pieceIn wsX7_pieceIn) := goodIn_app (goodIn_of _ (by decide +kernel)) ggX7_go_X7_pieceIn
set_option maxRecDepth 20000 in
theorem ggX7_go_X4_lift : GoodIn wsX7_go wsX4_lift := goodIn_r _ [72, 13, 18, 37, 73, 74, 20, 6, 21, 75, 76, 77, 11, 78, 79, 80, 81, 82, 83, 84, 85, 86, 87, 112, 113, 114, 115, 116, 117, 118, 119, 120, 121, 122, 123, 124, 125, 126, 127, 128, 129, 130, 131, 132, 133, 134, 135, 136, 137, 138, 139] (by decide +kernel) (by decide +kernel)
set_option maxRecDepth 20000 in
theorem gX7_go_X4_lift : GoodIn wsX7_go (wsV RX7 149 RX4 yX4_lift wsX4_lift) := goodIn_app (goodIn_of _ (by decide +kernel)) ggX7_go_X4_lift
set_option maxRecDepth 20000 in
theorem ggX7_go_X5_note : GoodIn wsX7_go wsX5_note := goodIn_r _ [92, 93, 94, 95, 96, 97, 98, 99, 100, 101, 102, 103, 140, 141, 142, 143, 144, 145, 146, 147] (by decide +kernel) (by decide +kernel)
set_option maxRecDepth 20000 in
theorem gX7_go_X5_note : GoodIn wsX7_go (wsV RX7 152 RX5 yX5_note wsX5_note) := goodIn_app (goodIn_of _ (by decide +kernel)) ggX7_go_X5_note
theorem dX7_go_0 : decode cX7_go 0 = .ok (.iload_n 1, 1) := by decide +kernel
theorem dX7_go_1 : decode cX7_go 1 = .ok (.iload_n 2, 1) := by decide +kernel
theorem dX7_go_2 : decode cX7_go 2 = .ok (.invokestatic 108, 3) := by decide +kernel
theorem dX7_go_5 : decode cX7_go 5 = .ok (.istore_n 3, 1) := by decide +kernel
theorem dX7_go_6 : decode cX7_go 6 = .ok (.iload_n 3, 1) := by decide +kernel
theorem dX7_go_7 : decode cX7_go 7 = .ok (.iconst (-1), 1) := by decide +kernel
theorem dX7_go_8 : decode cX7_go 8 = .ok (.if_icmp .eq 25, 3) := by decide +kernel
theorem dX7_go_11 : decode cX7_go 11 = .ok (.aload_n 0, 1) := by decide +kernel
theorem dX7_go_12 : decode cX7_go 12 = .ok (.getfield 21, 3) := by decide +kernel
theorem dX7_go_15 : decode cX7_go 15 = .ok (.iload_n 3, 1) := by decide +kernel
theorem dX7_go_16 : decode cX7_go 16 = .ok (.invokevirtual 116, 3) := by decide +kernel
theorem dX7_go_19 : decode cX7_go 19 = .ok (.ifCond .ne 14, 3) := by decide +kernel
theorem dX7_go_22 : decode cX7_go 22 = .ok (.aload_n 0, 1) := by decide +kernel
theorem dX7_go_23 : decode cX7_go 23 = .ok (.getfield 21, 3) := by decide +kernel
theorem dX7_go_26 : decode cX7_go 26 = .ok (.iload_n 3, 1) := by decide +kernel
theorem dX7_go_27 : decode cX7_go 27 = .ok (.invokevirtual 139, 3) := by decide +kernel
theorem dX7_go_30 : decode cX7_go 30 = .ok (.ifCond .ne 5, 3) := by decide +kernel
theorem dX7_go_33 : decode cX7_go 33 = .ok (.iconst 0, 1) := by decide +kernel
theorem dX7_go_34 : decode cX7_go 34 = .ok (.ireturn, 1) := by decide +kernel
theorem dX7_go_35 : decode cX7_go 35 = .ok (.aload_n 0, 1) := by decide +kernel
theorem dX7_go_36 : decode cX7_go 36 = .ok (.getfield 21, 3) := by decide +kernel
theorem dX7_go_39 : decode cX7_go 39 = .ok (.getfield 142, 3) := by decide +kernel
theorem dX7_go_42 : decode cX7_go 42 = .ok (.iload_n 3, 1) := by decide +kernel
theorem dX7_go_43 : decode cX7_go 43 = .ok (.iaload, 1) := by decide +kernel
theorem dX7_go_44 : decode cX7_go 44 = .ok (.invokestatic 145, 3) := by decide +kernel
theorem dX7_go_47 : decode cX7_go 47 = .ok (.istore 4, 2) := by decide +kernel
theorem dX7_go_49 : decode cX7_go 49 = .ok (.aload_n 0, 1) := by decide +kernel
theorem dX7_go_50 : decode cX7_go 50 = .ok (.getfield 21, 3) := by decide +kernel
theorem dX7_go_53 : decode cX7_go 53 = .ok (.iload_n 3, 1) := by decide +kernel
theorem dX7_go_54 : decode cX7_go 54 = .ok (.invokevirtual 149, 3) := by decide +kernel
theorem dX7_go_57 : decode cX7_go 57 = .ok (.aload_n 0, 1) := by decide +kernel
theorem dX7_go_58 : decode cX7_go 58 = .ok (.getfield 28, 3) := by decide +kernel
theorem dX7_go_61 : decode cX7_go 61 = .ok (.iconst 3, 1) := by decide +kernel
theorem dX7_go_62 : decode cX7_go 62 = .ok (.iload 4, 2) := by decide +kernel
theorem dX7_go_64 : decode cX7_go 64 = .ok (.iload_n 3, 1) := by decide +kernel
theorem dX7_go_65 : decode cX7_go 65 = .ok (.invokevirtual 152, 3) := by decide +kernel
theorem dX7_go_68 : decode cX7_go 68 = .ok (.iconst 1, 1) := by decide +kernel
theorem dX7_go_69 : decode cX7_go 69 = .ok (.ireturn, 1) := by decide +kernel
set_option maxRecDepth 20000 in
theorem ggX7_force_X7_placeOf : GoodIn wsX7_force wsX7_placeOf := goodIn_r _ [7] (by decide +kernel) (by decide +kernel)
set_option maxRecDepth 20000 in
theorem gX7_force_X7_placeOf : GoodIn wsX7_force (va_wsS RX7 108 yX7_placeOf wsX7_placeOf) := goodIn_app (goodIn_of _ (by decide +kernel)) ggX7_force_X7_placeOf
set_option maxRecDepth 20000 in
theorem ggX7_force_X1_has : GoodIn wsX7_force wsX1_has := goodIn_r _ [12, 13, 76, 77, 78, 79, 80, 81, 82, 83, 84, 85, 86, 87, 88] (by decide +kernel) (by decide +kernel)
set_option maxRecDepth 20000 in
theorem gX7_force_X1_has : GoodIn wsX7_force (wsV RX7 127 RX1 yX1_has wsX1_has) := goodIn_app (goodIn_of _ (by decide +kernel)) ggX7_force_X1_has
set_option maxRecDepth 20000 in
theorem ggX7_force_X4_hasRoomFor : GoodIn wsX7_force wsX4_hasRoomFor := goodIn_r _ [18, 19, 20, 21, 22, 23, 24, 17, 25, 26, 6, 27, 89, 90, 91, 92, 93, 94, 95, 96, 97, 98, 99, 100, 101, 102, 103, 76, 77, 78, 79, 80, 81, 82, 83, 84, 85, 86, 87, 88] (by decide +kernel) (by decide +kernel)
set_option maxRecDepth 20000 in
theorem gX7_force_X4_hasRoomFor : GoodIn wsX7_force (wsV RX7 133 RX4 yX4_hasRoomFor wsX4_hasRoomFor) := goodIn_app (goodIn_of _ (by decide +kernel)) ggX7_force_X4_hasRoomFor
set_option maxRecDepth 20000 in
theorem ggX7_force_X7_stepDown : GoodIn wsX7_force wsX7_stepDown := goodIn_r _ [31, 3, 32, 33, 34, 35, 17, 36, 19, 20, 21, 37, 38, 39, 40, 41, 42, 43, 44, 45, 46, 47, 48, 49, 50, 6, 51, 52, 53, 54, 55, 56, 57, 58, 59, 60, 61, 62, 63, 64, 65, 66, 67, 68, 69, 70, 71, 72, 73, 74, 75, 89, 90, 91, 92, 93, 94, 95, 96, 97, 98, 99, 100, 101, 102, 103, 76, 77, 78, 79, 80, 81, 82, 83, 84, 85, 86, 87, 88, 104, 105, 106, 107, 108, 109, 110, 111] (by decide +kernel) (by decide +kernel)
set_option maxRecDepth 20000 in
theorem gX7_force_X7_stepDown : GoodIn wsX7_force (wsV RX7 123 RX7 yX7_stepDown wsX7_stepDown) := goodIn_app (goodIn_of _ (by decide +kernel)) ggX7_force_X7_stepDown
theorem dX7_force_0 : decode cX7_force 0 = .ok (.iload_n 2, 1) := by decide +kernel
theorem dX7_force_1 : decode cX7_force 1 = .ok (.iload_n 3, 1) := by decide +kernel
theorem dX7_force_2 : decode cX7_force 2 = .ok (.invokestatic 108, 3) := by decide +kernel
theorem dX7_force_5 : decode cX7_force 5 = .ok (.istore 4, 2) := by decide +kernel
theorem dX7_force_7 : decode cX7_force 7 = .ok (.iload 4, 2) := by decide +kernel
theorem dX7_force_9 : decode cX7_force 9 = .ok (.iconst (-1), 1) := by decide +kernel
theorem dX7_force_10 : decode cX7_force 10 = .ok (.if_icmp .eq 40, 3) := by decide +kernel
theorem dX7_force_13 : decode cX7_force 13 = .ok (.aload_n 0, 1) := by decide +kernel
theorem dX7_force_14 : decode cX7_force 14 = .ok (.getfield 12, 3) := by decide +kernel
theorem dX7_force_17 : decode cX7_force 17 = .ok (.iload_n 1, 1) := by decide +kernel
theorem dX7_force_18 : decode cX7_force 18 = .ok (.invokevirtual 127, 3) := by decide +kernel
theorem dX7_force_21 : decode cX7_force 21 = .ok (.ifCond .eq 29, 3) := by decide +kernel
theorem dX7_force_24 : decode cX7_force 24 = .ok (.aload_n 0, 1) := by decide +kernel
theorem dX7_force_25 : decode cX7_force 25 = .ok (.getfield 12, 3) := by decide +kernel
theorem dX7_force_28 : decode cX7_force 28 = .ok (.getfield 155, 3) := by decide +kernel
theorem dX7_force_31 : decode cX7_force 31 = .ok (.iload_n 1, 1) := by decide +kernel
theorem dX7_force_32 : decode cX7_force 32 = .ok (.iaload, 1) := by decide +kernel
theorem dX7_force_33 : decode cX7_force 33 = .ok (.iconst 1, 1) := by decide +kernel
theorem dX7_force_34 : decode cX7_force 34 = .ok (.if_icmp .eq 16, 3) := by decide +kernel
theorem dX7_force_37 : decode cX7_force 37 = .ok (.aload_n 0, 1) := by decide +kernel
theorem dX7_force_38 : decode cX7_force 38 = .ok (.getfield 21, 3) := by decide +kernel
theorem dX7_force_41 : decode cX7_force 41 = .ok (.iload_n 1, 1) := by decide +kernel
theorem dX7_force_42 : decode cX7_force 42 = .ok (.iload 4, 2) := by decide +kernel
theorem dX7_force_44 : decode cX7_force 44 = .ok (.invokevirtual 133, 3) := by decide +kernel
theorem dX7_force_47 : decode cX7_force 47 = .ok (.ifCond .ne 5, 3) := by decide +kernel
theorem dX7_force_50 : decode cX7_force 50 = .ok (.iconst 0, 1) := by decide +kernel
theorem dX7_force_51 : decode cX7_force 51 = .ok (.ireturn, 1) := by decide +kernel
theorem dX7_force_52 : decode cX7_force 52 = .ok (.aload_n 0, 1) := by decide +kernel
theorem dX7_force_53 : decode cX7_force 53 = .ok (.iconst 2, 1) := by decide +kernel
theorem dX7_force_54 : decode cX7_force 54 = .ok (.iload_n 1, 1) := by decide +kernel
theorem dX7_force_55 : decode cX7_force 55 = .ok (.iload 4, 2) := by decide +kernel
theorem dX7_force_57 : decode cX7_force 57 = .ok (.invokevirtual 123, 3) := by decide +kernel
theorem dX7_force_60 : decode cX7_force 60 = .ok (.iconst 1, 1) := by decide +kernel
theorem dX7_force_61 : decode cX7_force 61 = .ok (.ireturn, 1) := by decide +kernel
set_option maxRecDepth 20000 in
theorem ggX7_choices_X4_countFits : GoodIn wsX7_choices wsX4_countFits := goodIn_r _ [6, 7, 8, 9, 10, 5, 11, 12, 13, 14, 15, 16, 17, 18, 19, 20, 21, 22, 23, 24, 25, 26, 27, 28, 29, 30, 31, 32, 33, 34, 35, 36, 37, 38, 39, 40, 41, 42, 43, 44, 45, 46, 47, 48, 49, 50, 51, 52, 53, 54, 55, 56, 57, 58, 59, 60, 61, 62, 63, 64, 65, 66, 67, 68, 69, 70, 71, 72, 73, 82, 83, 84, 85, 86, 87, 88, 89, 90, 91, 92, 93, 94, 95, 96, 97, 98, 99, 100, 101, 102, 103, 104, 105, 106, 107, 108, 109] (by decide +kernel) (by decide +kernel)
set_option maxRecDepth 20000 in
theorem gX7_choices_X4_countFits : GoodIn wsX7_choices (wsV RX7 158 RX4 yX4_countFits wsX4_countFits) := goodIn_app (goodIn_of _ (by decide +kernel)) ggX7_choices_X4_countFits
theorem dX7_choices_0 : decode cX7_choices 0 = .ok (.aload_n 0, 1) := by decide +kernel
theorem dX7_choices_1 : decode cX7_choices 1 = .ok (.getfield 21, 3) := by decide +kernel
theorem dX7_choices_4 : decode cX7_choices 4 = .ok (.invokevirtual 158, 3) := by decide +kernel
theorem dX7_choices_7 : decode cX7_choices 7 = .ok (.ireturn, 1) := by decide +kernel
set_option maxRecDepth 20000 in
theorem ggX7_choice_X4_countFits : GoodIn wsX7_choice wsX4_countFits := goodIn_r _ [6, 7, 8, 9, 10, 5, 11, 12, 13, 14, 15, 16, 17, 18, 19, 20, 21, 22, 23, 24, 25, 26, 27, 28, 29, 30, 31, 32, 33, 34, 35, 36, 37, 38, 39, 40, 41, 42, 43, 44, 45, 46, 47, 48, 49, 50, 51, 52, 53, 54, 55, 56, 57, 58, 59, 60, 61, 62, 63, 64, 65, 66, 67, 68, 69, 70, 71, 72, 73, 105, 106, 107, 108, 109, 110, 111, 112, 113, 114, 115, 116, 117, 118, 119, 120, 121, 122, 123, 124, 125, 126, 127, 128, 129, 130, 131, 132] (by decide +kernel) (by decide +kernel)
set_option maxRecDepth 20000 in
theorem gX7_choice_X4_countFits : GoodIn wsX7_choice (wsV RX7 158 RX4 yX4_countFits wsX4_countFits) := goodIn_app (goodIn_of _ (by decide +kernel)) ggX7_choice_X4_countFits
set_option maxRecDepth 20000 in
theorem ggX7_choice_X4_findFit : GoodIn wsX7_choice wsX4_findFit := goodIn_r _ [77, 15, 8, 9, 10, 5, 11, 12, 13, 14, 7, 16, 17, 18, 19, 20, 21, 22, 23, 24, 25, 26, 27, 28, 29, 30, 31, 32, 33, 34, 35, 36, 37, 38, 39, 40, 41, 42, 43, 44, 45, 46, 47, 48, 49, 50, 51, 52, 53, 54, 55, 56, 57, 58, 59, 60, 61, 62, 63, 64, 65, 66, 67, 68, 69, 70, 71, 72, 73, 78, 79, 80, 81, 82, 83, 84, 85, 86, 87, 88, 89, 90, 91, 92, 93, 94, 105, 106, 107, 108, 109, 110, 111, 112, 113, 114, 115, 116, 117, 118, 119, 120, 121, 122, 123, 124, 125, 126, 127, 128, 129, 130, 131, 132] (by decide +kernel) (by decide +kernel)
set_option maxRecDepth 20000 in
theorem gX7_choice_X4_findFit : GoodIn wsX7_choice (wsV RX7 162 RX4 yX4_findFit wsX4_findFit) := goodIn_app (goodIn_of _ (by decide +kernel)) ggX7_choice_X4_findFit
set_option maxRecDepth 20000 in
theorem ggX7_choice_X7_columnOf : GoodIn wsX7_choice wsX7_columnOf := goodIn_r _ [34] (by decide +kernel) (by decide +kernel)
set_option maxRecDepth 20000 in
theorem gX7_choice_X7_columnOf : GoodIn wsX7_choice (va_wsS RX7 165 yX7_columnOf wsX7_columnOf) := goodIn_app (goodIn_of _ (by decide +kernel)) ggX7_choice_X7_columnOf
set_option maxRecDepth 20000 in
theorem ggX7_choice_X7_lineOf : GoodIn wsX7_choice wsX7_lineOf := goodIn_r _ [73] (by decide +kernel) (by decide +kernel)
set_option maxRecDepth 20000 in
theorem gX7_choice_X7_lineOf : GoodIn wsX7_choice (va_wsS RX7 168 yX7_lineOf wsX7_lineOf) := goodIn_app (goodIn_of _ (by decide +kernel)) ggX7_choice_X7_lineOf
theorem dX7_choice_0 : decode cX7_choice 0 = .ok (.iload_n 2, 1) := by decide +kernel
theorem dX7_choice_1 : decode cX7_choice 1 = .ok (.ifCond .lt 23, 3) := by decide +kernel
theorem dX7_choice_4 : decode cX7_choice 4 = .ok (.iload_n 2, 1) := by decide +kernel
theorem dX7_choice_5 : decode cX7_choice 5 = .ok (.iconst 2, 1) := by decide +kernel
theorem dX7_choice_6 : decode cX7_choice 6 = .ok (.if_icmp .gt 18, 3) := by decide +kernel
theorem dX7_choice_9 : decode cX7_choice 9 = .ok (.iload_n 1, 1) := by decide +kernel
theorem dX7_choice_10 : decode cX7_choice 10 = .ok (.ifCond .lt 14, 3) := by decide +kernel
theorem dX7_choice_13 : decode cX7_choice 13 = .ok (.iload_n 1, 1) := by decide +kernel
theorem dX7_choice_14 : decode cX7_choice 14 = .ok (.aload_n 0, 1) := by decide +kernel
theorem dX7_choice_15 : decode cX7_choice 15 = .ok (.getfield 21, 3) := by decide +kernel
theorem dX7_choice_18 : decode cX7_choice 18 = .ok (.invokevirtual 158, 3) := by decide +kernel
theorem dX7_choice_21 : decode cX7_choice 21 = .ok (.if_icmp .lt 5, 3) := by decide +kernel
theorem dX7_choice_24 : decode cX7_choice 24 = .ok (.iconst (-1), 1) := by decide +kernel
theorem dX7_choice_25 : decode cX7_choice 25 = .ok (.ireturn, 1) := by decide +kernel
theorem dX7_choice_26 : decode cX7_choice 26 = .ok (.aload_n 0, 1) := by decide +kernel
theorem dX7_choice_27 : decode cX7_choice 27 = .ok (.getfield 21, 3) := by decide +kernel
theorem dX7_choice_30 : decode cX7_choice 30 = .ok (.iload_n 1, 1) := by decide +kernel
theorem dX7_choice_31 : decode cX7_choice 31 = .ok (.invokevirtual 162, 3) := by decide +kernel
theorem dX7_choice_34 : decode cX7_choice 34 = .ok (.istore_n 3, 1) := by decide +kernel
theorem dX7_choice_35 : decode cX7_choice 35 = .ok (.iload_n 3, 1) := by decide +kernel
theorem dX7_choice_36 : decode cX7_choice 36 = .ok (.iconst (-1), 1) := by decide +kernel
theorem dX7_choice_37 : decode cX7_choice 37 = .ok (.if_icmp .ne 5, 3) := by decide +kernel
theorem dX7_choice_40 : decode cX7_choice 40 = .ok (.iconst (-1), 1) := by decide +kernel
theorem dX7_choice_41 : decode cX7_choice 41 = .ok (.ireturn, 1) := by decide +kernel
theorem dX7_choice_42 : decode cX7_choice 42 = .ok (.iload_n 3, 1) := by decide +kernel
theorem dX7_choice_43 : decode cX7_choice 43 = .ok (.bipush 64, 2) := by decide +kernel
theorem dX7_choice_45 : decode cX7_choice 45 = .ok (.idiv, 1) := by decide +kernel
theorem dX7_choice_46 : decode cX7_choice 46 = .ok (.istore 4, 2) := by decide +kernel
theorem dX7_choice_48 : decode cX7_choice 48 = .ok (.iload_n 2, 1) := by decide +kernel
theorem dX7_choice_49 : decode cX7_choice 49 = .ok (.lookupswitch 38 #[(0, 27), (1, 32)], 27) := by decide +kernel
theorem dX7_choice_76 : decode cX7_choice 76 = .ok (.iload_n 3, 1) := by decide +kernel
theorem dX7_choice_77 : decode cX7_choice 77 = .ok (.bipush 64, 2) := by decide +kernel
theorem dX7_choice_79 : decode cX7_choice 79 = .ok (.irem, 1) := by decide +kernel
theorem dX7_choice_80 : decode cX7_choice 80 = .ok (.ireturn, 1) := by decide +kernel
theorem dX7_choice_81 : decode cX7_choice 81 = .ok (.iload 4, 2) := by decide +kernel
theorem dX7_choice_83 : decode cX7_choice 83 = .ok (.invokestatic 165, 3) := by decide +kernel
theorem dX7_choice_86 : decode cX7_choice 86 = .ok (.ireturn, 1) := by decide +kernel
theorem dX7_choice_87 : decode cX7_choice 87 = .ok (.iload 4, 2) := by decide +kernel
theorem dX7_choice_89 : decode cX7_choice 89 = .ok (.invokestatic 168, 3) := by decide +kernel
theorem dX7_choice_92 : decode cX7_choice 92 = .ok (.ireturn, 1) := by decide +kernel
theorem dX7_draw_0 : decode cX7_draw 0 = .ok (.aload_n 0, 1) := by decide +kernel
theorem dX7_draw_1 : decode cX7_draw 1 = .ok (.lload_n 1, 1) := by decide +kernel
theorem dX7_draw_2 : decode cX7_draw 2 = .ok (.putfield 64, 3) := by decide +kernel
theorem dX7_draw_5 : decode cX7_draw 5 = .ok (.return_, 1) := by decide +kernel
set_option maxRecDepth 20000 in
theorem ggX7_grow_X4_countFits : GoodIn wsX7_grow wsX4_countFits := goodIn_r _ [6, 7, 8, 9, 10, 5, 11, 12, 13, 14, 15, 16, 17, 18, 19, 20, 21, 22, 23, 24, 25, 26, 27, 28, 29, 30, 31, 32, 33, 34, 35, 36, 37, 38, 39, 40, 41, 42, 43, 44, 45, 46, 47, 48, 49, 50, 51, 52, 53, 54, 55, 56, 57, 58, 59, 60, 61, 62, 63, 64, 65, 66, 67, 68, 69, 70, 71, 72, 73, 148, 149, 150, 151, 152, 153, 154, 155, 156, 157, 158, 159, 160, 161, 162, 163, 164, 165, 166, 167, 168, 169, 170, 171, 172, 173, 174, 175] (by decide +kernel) (by decide +kernel)
set_option maxRecDepth 20000 in
theorem gX7_grow_X4_countFits : GoodIn wsX7_grow (wsV RX7 158 RX4 yX4_countFits wsX4_countFits) := goodIn_app (goodIn_of _ (by decide +kernel)) ggX7_grow_X4_countFits
set_option maxRecDepth 20000 in
theorem ggX7_grow_X7_drawOf : GoodIn wsX7_grow wsX7_drawOf := goodIn_r _ [77, 78, 79, 80, 140, 141, 142, 143, 144, 145, 146, 147] (by decide +kernel) (by decide +kernel)
set_option maxRecDepth 20000 in
theorem gX7_grow_X7_drawOf : GoodIn wsX7_grow (wsV RX7 171 RX7 yX7_drawOf wsX7_drawOf) := goodIn_app (goodIn_of _ (by decide +kernel)) ggX7_grow_X7_drawOf
set_option maxRecDepth 20000 in
theorem ggX7_grow_X4_findFit : GoodIn wsX7_grow wsX4_findFit := goodIn_r _ [84, 15, 8, 9, 10, 5, 11, 12, 13, 14, 7, 16, 17, 18, 19, 20, 21, 22, 23, 24, 25, 26, 27, 28, 29, 30, 31, 32, 33, 34, 35, 36, 37, 38, 39, 40, 41, 42, 43, 44, 45, 46, 47, 48, 49, 50, 51, 52, 53, 54, 55, 56, 57, 58, 59, 60, 61, 62, 63, 64, 65, 66, 67, 68, 69, 70, 71, 72, 73, 85, 86, 87, 88, 89, 90, 91, 92, 93, 94, 95, 96, 97, 98, 99, 100, 101, 148, 149, 150, 151, 152, 153, 154, 155, 156, 157, 158, 159, 160, 161, 162, 163, 164, 165, 166, 167, 168, 169, 170, 171, 172, 173, 174, 175] (by decide +kernel) (by decide +kernel)
set_option maxRecDepth 20000 in
theorem gX7_grow_X4_findFit : GoodIn wsX7_grow (wsV RX7 162 RX4 yX4_findFit wsX4_findFit) := goodIn_app (goodIn_of _ (by decide +kernel)) ggX7_grow_X4_findFit
set_option maxRecDepth 20000 in
theorem ggX7_grow_X7_stepDown : GoodIn wsX7_grow wsX7_stepDown := goodIn_r _ [105, 1, 106, 107, 108, 109, 5, 110, 21, 22, 111, 112, 113, 114, 115, 116, 117, 118, 119, 120, 121, 16, 13, 12, 122, 33, 123, 124, 125, 126, 127, 128, 129, 130, 131, 132, 133, 134, 135, 136, 137, 138, 139, 140, 141, 142, 143, 144, 145, 146, 147, 148, 149, 150, 151, 152, 153, 154, 155, 156, 157, 158, 159, 160, 161, 162, 163, 164, 165, 166, 167, 168, 169, 170, 171, 172, 173, 174, 175, 176, 177, 178, 179, 180, 181, 182, 183] (by decide +kernel) (by decide +kernel)
set_option maxRecDepth 20000 in
theorem gX7_grow_X7_stepDown : GoodIn wsX7_grow (wsV RX7 123 RX7 yX7_stepDown wsX7_stepDown) := goodIn_app (goodIn_of _ (by decide +kernel)) ggX7_grow_X7_stepDown
theorem dX7_grow_0 : decode cX7_grow 0 = .ok (.iload_n 1, 1) := by decide +kernel
theorem dX7_grow_1 : decode cX7_grow 1 = .ok (.ifCond .lt 10, 3) := by decide +kernel
theorem dX7_grow_4 : decode cX7_grow 4 = .ok (.iload_n 1, 1) := by decide +kernel
theorem dX7_grow_5 : decode cX7_grow 5 = .ok (.sipush 250, 3) := by decide +kernel
theorem dX7_grow_8 : decode cX7_grow 8 = .ok (.if_icmp .le 5, 3) := by decide +kernel
theorem dX7_grow_11 : decode cX7_grow 11 = .ok (.iconst (-1), 1) := by decide +kernel
theorem dX7_grow_12 : decode cX7_grow 12 = .ok (.ireturn, 1) := by decide +kernel
theorem dX7_grow_13 : decode cX7_grow 13 = .ok (.iconst 0, 1) := by decide +kernel
theorem dX7_grow_14 : decode cX7_grow 14 = .ok (.istore_n 2, 1) := by decide +kernel
theorem dX7_grow_15 : decode cX7_grow 15 = .ok (.iconst 0, 1) := by decide +kernel
theorem dX7_grow_16 : decode cX7_grow 16 = .ok (.istore_n 3, 1) := by decide +kernel
theorem dX7_grow_17 : decode cX7_grow 17 = .ok (.iload_n 3, 1) := by decide +kernel
theorem dX7_grow_18 : decode cX7_grow 18 = .ok (.iload_n 1, 1) := by decide +kernel
theorem dX7_grow_19 : decode cX7_grow 19 = .ok (.if_icmp .ge 68, 3) := by decide +kernel
theorem dX7_grow_22 : decode cX7_grow 22 = .ok (.aload_n 0, 1) := by decide +kernel
theorem dX7_grow_23 : decode cX7_grow 23 = .ok (.getfield 21, 3) := by decide +kernel
theorem dX7_grow_26 : decode cX7_grow 26 = .ok (.invokevirtual 158, 3) := by decide +kernel
theorem dX7_grow_29 : decode cX7_grow 29 = .ok (.istore 4, 2) := by decide +kernel
theorem dX7_grow_31 : decode cX7_grow 31 = .ok (.iload 4, 2) := by decide +kernel
theorem dX7_grow_33 : decode cX7_grow 33 = .ok (.ifCond .gt 6, 3) := by decide +kernel
theorem dX7_grow_36 : decode cX7_grow 36 = .ok (.goto 51, 3) := by decide +kernel
theorem dX7_grow_39 : decode cX7_grow 39 = .ok (.aload_n 0, 1) := by decide +kernel
theorem dX7_grow_40 : decode cX7_grow 40 = .ok (.getfield 21, 3) := by decide +kernel
theorem dX7_grow_43 : decode cX7_grow 43 = .ok (.aload_n 0, 1) := by decide +kernel
theorem dX7_grow_44 : decode cX7_grow 44 = .ok (.iload 4, 2) := by decide +kernel
theorem dX7_grow_46 : decode cX7_grow 46 = .ok (.invokevirtual 171, 3) := by decide +kernel
theorem dX7_grow_49 : decode cX7_grow 49 = .ok (.invokevirtual 162, 3) := by decide +kernel
theorem dX7_grow_52 : decode cX7_grow 52 = .ok (.istore 5, 2) := by decide +kernel
theorem dX7_grow_54 : decode cX7_grow 54 = .ok (.iload 5, 2) := by decide +kernel
theorem dX7_grow_56 : decode cX7_grow 56 = .ok (.iconst (-1), 1) := by decide +kernel
theorem dX7_grow_57 : decode cX7_grow 57 = .ok (.if_icmp .ne 6, 3) := by decide +kernel
theorem dX7_grow_60 : decode cX7_grow 60 = .ok (.goto 27, 3) := by decide +kernel
theorem dX7_grow_63 : decode cX7_grow 63 = .ok (.aload_n 0, 1) := by decide +kernel
theorem dX7_grow_64 : decode cX7_grow 64 = .ok (.iconst 1, 1) := by decide +kernel
theorem dX7_grow_65 : decode cX7_grow 65 = .ok (.iload 5, 2) := by decide +kernel
theorem dX7_grow_67 : decode cX7_grow 67 = .ok (.bipush 64, 2) := by decide +kernel
theorem dX7_grow_69 : decode cX7_grow 69 = .ok (.irem, 1) := by decide +kernel
theorem dX7_grow_70 : decode cX7_grow 70 = .ok (.iload 5, 2) := by decide +kernel
theorem dX7_grow_72 : decode cX7_grow 72 = .ok (.bipush 64, 2) := by decide +kernel
theorem dX7_grow_74 : decode cX7_grow 74 = .ok (.idiv, 1) := by decide +kernel
theorem dX7_grow_75 : decode cX7_grow 75 = .ok (.invokevirtual 123, 3) := by decide +kernel
theorem dX7_grow_78 : decode cX7_grow 78 = .ok (.iinc 2 1, 3) := by decide +kernel
theorem dX7_grow_81 : decode cX7_grow 81 = .ok (.iinc 3 1, 3) := by decide +kernel
theorem dX7_grow_84 : decode cX7_grow 84 = .ok (.goto (-67), 3) := by decide +kernel
theorem dX7_grow_87 : decode cX7_grow 87 = .ok (.iload_n 2, 1) := by decide +kernel
theorem dX7_grow_88 : decode cX7_grow 88 = .ok (.ireturn, 1) := by decide +kernel
set_option maxRecDepth 20000 in
theorem ggX7_at_X7_placeOf : GoodIn wsX7_at wsX7_placeOf := goodIn_r _ [6] (by decide +kernel) (by decide +kernel)
set_option maxRecDepth 20000 in
theorem gX7_at_X7_placeOf : GoodIn wsX7_at (va_wsS RX7 108 yX7_placeOf wsX7_placeOf) := goodIn_app (goodIn_of _ (by decide +kernel)) ggX7_at_X7_placeOf
set_option maxRecDepth 20000 in
theorem ggX7_at_X7_pieceIn : GoodIn wsX7_at wsX7_pieceIn := goodIn_r _ [9] (by decide +kernel) (by decide +kernel)
set_option maxRecDepth 20000 in
theorem gX7_at_X7_pieceIn : GoodIn wsX7_at (va_wsS RX7 145 yX7_pieceIn wsX7_pieceIn) := goodIn_app (goodIn_of _ (by decide +kernel)) ggX7_at_X7_pieceIn
theorem dX7_at_0 : decode cX7_at 0 = .ok (.iload_n 1, 1) := by decide +kernel
theorem dX7_at_1 : decode cX7_at 1 = .ok (.iload_n 2, 1) := by decide +kernel
theorem dX7_at_2 : decode cX7_at 2 = .ok (.invokestatic 108, 3) := by decide +kernel
theorem dX7_at_5 : decode cX7_at 5 = .ok (.istore_n 3, 1) := by decide +kernel
theorem dX7_at_6 : decode cX7_at 6 = .ok (.iload_n 3, 1) := by decide +kernel
theorem dX7_at_7 : decode cX7_at 7 = .ok (.iconst (-1), 1) := by decide +kernel
theorem dX7_at_8 : decode cX7_at 8 = .ok (.if_icmp .ne 7, 3) := by decide +kernel
theorem dX7_at_11 : decode cX7_at 11 = .ok (.iconst (-1), 1) := by decide +kernel
theorem dX7_at_12 : decode cX7_at 12 = .ok (.goto 15, 3) := by decide +kernel
theorem dX7_at_15 : decode cX7_at 15 = .ok (.aload_n 0, 1) := by decide +kernel
theorem dX7_at_16 : decode cX7_at 16 = .ok (.getfield 21, 3) := by decide +kernel
theorem dX7_at_19 : decode cX7_at 19 = .ok (.getfield 142, 3) := by decide +kernel
theorem dX7_at_22 : decode cX7_at 22 = .ok (.iload_n 3, 1) := by decide +kernel
theorem dX7_at_23 : decode cX7_at 23 = .ok (.iaload, 1) := by decide +kernel
theorem dX7_at_24 : decode cX7_at 24 = .ok (.invokestatic 145, 3) := by decide +kernel
theorem dX7_at_27 : decode cX7_at 27 = .ok (.ireturn, 1) := by decide +kernel
set_option maxRecDepth 20000 in
theorem ggX7_of_X7_placeOf : GoodIn wsX7_of wsX7_placeOf := goodIn_r _ [11] (by decide +kernel) (by decide +kernel)
set_option maxRecDepth 20000 in
theorem gX7_of_X7_placeOf : GoodIn wsX7_of (va_wsS RX7 108 yX7_placeOf wsX7_placeOf) := goodIn_app (goodIn_of _ (by decide +kernel)) ggX7_of_X7_placeOf
set_option maxRecDepth 20000 in
theorem ggX7_of_X4_isFree : GoodIn wsX7_of wsX4_isFree := goodIn_r _ [16, 17, 50, 51, 52, 53, 54, 55, 56, 57, 58, 59, 60, 61, 62, 63, 64] (by decide +kernel) (by decide +kernel)
set_option maxRecDepth 20000 in
theorem gX7_of_X4_isFree : GoodIn wsX7_of (wsV RX7 116 RX4 yX4_isFree wsX4_isFree) := goodIn_app (goodIn_of _ (by decide +kernel)) ggX7_of_X4_isFree
set_option maxRecDepth 20000 in
theorem ggX7_of_X7_pieceIn : GoodIn wsX7_of wsX7_pieceIn := goodIn_r _ [20] (by decide +kernel) (by decide +kernel)
set_option maxRecDepth 20000 in
theorem gX7_of_X7_pieceIn : GoodIn wsX7_of (va_wsS RX7 145 yX7_pieceIn wsX7_pieceIn) := goodIn_app (goodIn_of _ (by decide +kernel)) ggX7_of_X7_pieceIn
set_option maxRecDepth 20000 in
theorem ggX7_of_X7_ownPlace : GoodIn wsX7_of wsX7_ownPlace := goodIn_r _ [23] (by decide +kernel) (by decide +kernel)
set_option maxRecDepth 20000 in
theorem gX7_of_X7_ownPlace : GoodIn wsX7_of (va_wsS RX7 174 yX7_ownPlace wsX7_ownPlace) := goodIn_app (goodIn_of _ (by decide +kernel)) ggX7_of_X7_ownPlace
set_option maxRecDepth 20000 in
theorem ggX7_of_X4_holdOf : GoodIn wsX7_of wsX4_holdOf := goodIn_r _ [27, 28, 29, 30, 31, 32, 15, 33, 34, 10, 35, 36, 37, 38, 39, 40, 17, 41, 50, 51, 52, 53, 54, 55, 56, 57, 58, 59, 60, 61, 62, 63, 64, 65, 66, 67, 68, 69, 70, 71, 72, 73, 74, 75, 76, 77] (by decide +kernel) (by decide +kernel)
set_option maxRecDepth 20000 in
theorem gX7_of_X4_holdOf : GoodIn wsX7_of (wsV RX7 136 RX4 yX4_holdOf wsX4_holdOf) := goodIn_app (goodIn_of _ (by decide +kernel)) ggX7_of_X4_holdOf
theorem dX7_of_0 : decode cX7_of 0 = .ok (.iload_n 1, 1) := by decide +kernel
theorem dX7_of_1 : decode cX7_of 1 = .ok (.iload_n 2, 1) := by decide +kernel
theorem dX7_of_2 : decode cX7_of 2 = .ok (.invokestatic 108, 3) := by decide +kernel
theorem dX7_of_5 : decode cX7_of 5 = .ok (.istore 4, 2) := by decide +kernel
theorem dX7_of_7 : decode cX7_of 7 = .ok (.iload 4, 2) := by decide +kernel
theorem dX7_of_9 : decode cX7_of 9 = .ok (.iconst (-1), 1) := by decide +kernel
theorem dX7_of_10 : decode cX7_of 10 = .ok (.if_icmp .eq 15, 3) := by decide +kernel
theorem dX7_of_13 : decode cX7_of 13 = .ok (.aload_n 0, 1) := by decide +kernel
theorem dX7_of_14 : decode cX7_of 14 = .ok (.getfield 21, 3) := by decide +kernel
theorem dX7_of_17 : decode cX7_of 17 = .ok (.iload 4, 2) := by decide +kernel
theorem dX7_of_19 : decode cX7_of 19 = .ok (.invokevirtual 116, 3) := by decide +kernel
theorem dX7_of_22 : decode cX7_of 22 = .ok (.ifCond .eq 5, 3) := by decide +kernel
theorem dX7_of_25 : decode cX7_of 25 = .ok (.iconst (-1), 1) := by decide +kernel
theorem dX7_of_26 : decode cX7_of 26 = .ok (.ireturn, 1) := by decide +kernel
theorem dX7_of_27 : decode cX7_of 27 = .ok (.aload_n 0, 1) := by decide +kernel
theorem dX7_of_28 : decode cX7_of 28 = .ok (.getfield 21, 3) := by decide +kernel
theorem dX7_of_31 : decode cX7_of 31 = .ok (.getfield 142, 3) := by decide +kernel
theorem dX7_of_34 : decode cX7_of 34 = .ok (.iload 4, 2) := by decide +kernel
theorem dX7_of_36 : decode cX7_of 36 = .ok (.iaload, 1) := by decide +kernel
theorem dX7_of_37 : decode cX7_of 37 = .ok (.istore 5, 2) := by decide +kernel
theorem dX7_of_39 : decode cX7_of 39 = .ok (.iload 5, 2) := by decide +kernel
theorem dX7_of_41 : decode cX7_of 41 = .ok (.invokestatic 145, 3) := by decide +kernel
theorem dX7_of_44 : decode cX7_of 44 = .ok (.istore 6, 2) := by decide +kernel
theorem dX7_of_46 : decode cX7_of 46 = .ok (.iload 5, 2) := by decide +kernel
theorem dX7_of_48 : decode cX7_of 48 = .ok (.iload 4, 2) := by decide +kernel
theorem dX7_of_50 : decode cX7_of 50 = .ok (.invokestatic 174, 3) := by decide +kernel
theorem dX7_of_53 : decode cX7_of 53 = .ok (.istore 7, 2) := by decide +kernel
theorem dX7_of_55 : decode cX7_of 55 = .ok (.iload_n 3, 1) := by decide +kernel
theorem dX7_of_56 : decode cX7_of 56 = .ok (.tableswitch 89 0 3 #[32, 55, 66, 78], 32) := by decide +kernel
theorem dX7_of_88 : decode cX7_of 88 = .ok (.iload 7, 2) := by decide +kernel
theorem dX7_of_90 : decode cX7_of 90 = .ok (.iload 4, 2) := by decide +kernel
theorem dX7_of_92 : decode cX7_of 92 = .ok (.if_icmp .ne 16, 3) := by decide +kernel
theorem dX7_of_95 : decode cX7_of 95 = .ok (.aload_n 0, 1) := by decide +kernel
theorem dX7_of_96 : decode cX7_of 96 = .ok (.getfield 12, 3) := by decide +kernel
theorem dX7_of_99 : decode cX7_of 99 = .ok (.getfield 155, 3) := by decide +kernel
theorem dX7_of_102 : decode cX7_of 102 = .ok (.iload 6, 2) := by decide +kernel
theorem dX7_of_104 : decode cX7_of 104 = .ok (.iaload, 1) := by decide +kernel
theorem dX7_of_105 : decode cX7_of 105 = .ok (.goto 5, 3) := by decide +kernel
theorem dX7_of_108 : decode cX7_of 108 = .ok (.bipush 7, 2) := by decide +kernel
theorem dX7_of_110 : decode cX7_of 110 = .ok (.ireturn, 1) := by decide +kernel
theorem dX7_of_111 : decode cX7_of 111 = .ok (.aload_n 0, 1) := by decide +kernel
theorem dX7_of_112 : decode cX7_of 112 = .ok (.getfield 12, 3) := by decide +kernel
theorem dX7_of_115 : decode cX7_of 115 = .ok (.getfield 177, 3) := by decide +kernel
theorem dX7_of_118 : decode cX7_of 118 = .ok (.iload 6, 2) := by decide +kernel
theorem dX7_of_120 : decode cX7_of 120 = .ok (.iaload, 1) := by decide +kernel
theorem dX7_of_121 : decode cX7_of 121 = .ok (.ireturn, 1) := by decide +kernel
theorem dX7_of_122 : decode cX7_of 122 = .ok (.aload_n 0, 1) := by decide +kernel
theorem dX7_of_123 : decode cX7_of 123 = .ok (.getfield 21, 3) := by decide +kernel
theorem dX7_of_126 : decode cX7_of 126 = .ok (.iload 6, 2) := by decide +kernel
theorem dX7_of_128 : decode cX7_of 128 = .ok (.iload 7, 2) := by decide +kernel
theorem dX7_of_130 : decode cX7_of 130 = .ok (.invokevirtual 136, 3) := by decide +kernel
theorem dX7_of_133 : decode cX7_of 133 = .ok (.ireturn, 1) := by decide +kernel
theorem dX7_of_134 : decode cX7_of 134 = .ok (.aload_n 0, 1) := by decide +kernel
theorem dX7_of_135 : decode cX7_of 135 = .ok (.getfield 28, 3) := by decide +kernel
theorem dX7_of_138 : decode cX7_of 138 = .ok (.getfield 180, 3) := by decide +kernel
theorem dX7_of_141 : decode cX7_of 141 = .ok (.iload 7, 2) := by decide +kernel
theorem dX7_of_143 : decode cX7_of 143 = .ok (.iaload, 1) := by decide +kernel
theorem dX7_of_144 : decode cX7_of 144 = .ok (.ireturn, 1) := by decide +kernel
theorem dX7_of_145 : decode cX7_of 145 = .ok (.iconst (-1), 1) := by decide +kernel
theorem dX7_of_146 : decode cX7_of 146 = .ok (.ireturn, 1) := by decide +kernel
set_option maxRecDepth 20000 in
theorem ggX7_walk_X3_isRefused : GoodIn wsX7_walk wsX3_isRefused := goodIn_r _ [6, 7, 8, 9, 183, 184, 185, 186, 187, 188, 189, 190, 191, 192, 193, 194, 195, 196, 197, 198, 199, 200, 201, 202, 203, 204, 205, 206, 207, 208, 209, 210, 211, 212, 213] (by decide +kernel) (by decide +kernel)
set_option maxRecDepth 20000 in
theorem gX7_walk_X3_isRefused : GoodIn wsX7_walk (wsV RX7 183 RX3 yX3_isRefused wsX3_isRefused) := goodIn_app (goodIn_of _ (by decide +kernel)) ggX7_walk_X3_isRefused
set_option maxRecDepth 20000 in
theorem ggX7_walk_X3_run : GoodIn wsX7_walk wsX3_run := goodIn_r _ [13, 14, 7, 15, 16, 9, 17, 18, 19, 5, 20, 21, 22, 23, 24, 25, 26, 27, 28, 29, 30, 31, 8, 32, 33, 34, 35, 36, 37, 38, 39, 40, 41, 42, 43, 44, 45, 46, 47, 48, 49, 50, 51, 52, 53, 54, 55, 56, 57, 58, 59, 60, 61, 62, 63, 64, 65, 66, 67, 68, 69, 70, 71, 72, 73, 74, 75, 76, 77, 78, 79, 80, 81, 82, 83, 84, 85, 86, 87, 88, 89, 90, 91, 92, 93, 94, 95, 96, 97, 98, 99, 100, 101, 102, 103, 104, 105, 106, 107, 108, 109, 110, 111, 112, 113, 114, 115, 116, 117, 118, 119, 120, 121, 122, 123, 124, 125, 126, 127, 128, 129, 130, 131, 132, 133, 134, 135, 136, 137, 138, 139, 140, 141, 142, 143, 144, 145, 146, 147, 148, 149, 150, 151, 152, 153, 154, 155, 156, 157, 158, 159, 160, 161, 162, 163, 164, 165, 166, 167, 168, 169, 170, 171, 172, 173, 174, 183, 184, 185, 186, 187, 188, 189, 190, 191, 192, 193, 194, 195, 196, 197, 198, 199, 200, 201, 202, 203, 204, 205, 206, 207, 208, 209, 210, 211, 212, 213, 214, 215, 216, 217, 218, 219, 220, 221, 222, 223, 224, 225, 226] (by decide +kernel) (by decide +kernel)
set_option maxRecDepth 20000 in
theorem gX7_walk_X3_run : GoodIn wsX7_walk (wsV RX7 186 RX3 yX3_run wsX3_run) := goodIn_app (goodIn_of _ (by decide +kernel)) ggX7_walk_X3_run
theorem dX7_walk_0 : decode cX7_walk 0 = .ok (.aload_n 0, 1) := by decide +kernel
theorem dX7_walk_1 : decode cX7_walk 1 = .ok (.getfield 44, 3) := by decide +kernel
theorem dX7_walk_4 : decode cX7_walk 4 = .ok (.iload_n 1, 1) := by decide +kernel
theorem dX7_walk_5 : decode cX7_walk 5 = .ok (.invokevirtual 183, 3) := by decide +kernel
theorem dX7_walk_8 : decode cX7_walk 8 = .ok (.ifCond .eq 7, 3) := by decide +kernel
theorem dX7_walk_11 : decode cX7_walk 11 = .ok (.iconst (-1), 1) := by decide +kernel
theorem dX7_walk_12 : decode cX7_walk 12 = .ok (.goto 11, 3) := by decide +kernel
theorem dX7_walk_15 : decode cX7_walk 15 = .ok (.aload_n 0, 1) := by decide +kernel
theorem dX7_walk_16 : decode cX7_walk 16 = .ok (.getfield 44, 3) := by decide +kernel
theorem dX7_walk_19 : decode cX7_walk 19 = .ok (.iload_n 1, 1) := by decide +kernel
theorem dX7_walk_20 : decode cX7_walk 20 = .ok (.invokevirtual 186, 3) := by decide +kernel
theorem dX7_walk_23 : decode cX7_walk 23 = .ok (.ireturn, 1) := by decide +kernel
theorem dX7_ways_0 : decode cX7_ways 0 = .ok (.aload_n 0, 1) := by decide +kernel
theorem dX7_ways_1 : decode cX7_ways 1 = .ok (.getfield 44, 3) := by decide +kernel
theorem dX7_ways_4 : decode cX7_ways 4 = .ok (.getfield 189, 3) := by decide +kernel
theorem dX7_ways_7 : decode cX7_ways 7 = .ok (.ifCond .ne 5, 3) := by decide +kernel
theorem dX7_ways_10 : decode cX7_ways 10 = .ok (.iconst (-1), 1) := by decide +kernel
theorem dX7_ways_11 : decode cX7_ways 11 = .ok (.ireturn, 1) := by decide +kernel
theorem dX7_ways_12 : decode cX7_ways 12 = .ok (.iload_n 1, 1) := by decide +kernel
theorem dX7_ways_13 : decode cX7_ways 13 = .ok (.tableswitch 63 0 3 #[31, 39, 47, 55], 31) := by decide +kernel
theorem dX7_ways_44 : decode cX7_ways 44 = .ok (.aload_n 0, 1) := by decide +kernel
theorem dX7_ways_45 : decode cX7_ways 45 = .ok (.getfield 44, 3) := by decide +kernel
theorem dX7_ways_48 : decode cX7_ways 48 = .ok (.getfield 192, 3) := by decide +kernel
theorem dX7_ways_51 : decode cX7_ways 51 = .ok (.ireturn, 1) := by decide +kernel
theorem dX7_ways_52 : decode cX7_ways 52 = .ok (.aload_n 0, 1) := by decide +kernel
theorem dX7_ways_53 : decode cX7_ways 53 = .ok (.getfield 44, 3) := by decide +kernel
theorem dX7_ways_56 : decode cX7_ways 56 = .ok (.getfield 195, 3) := by decide +kernel
theorem dX7_ways_59 : decode cX7_ways 59 = .ok (.ireturn, 1) := by decide +kernel
theorem dX7_ways_60 : decode cX7_ways 60 = .ok (.aload_n 0, 1) := by decide +kernel
theorem dX7_ways_61 : decode cX7_ways 61 = .ok (.getfield 44, 3) := by decide +kernel
theorem dX7_ways_64 : decode cX7_ways 64 = .ok (.getfield 198, 3) := by decide +kernel
theorem dX7_ways_67 : decode cX7_ways 67 = .ok (.ireturn, 1) := by decide +kernel
theorem dX7_ways_68 : decode cX7_ways 68 = .ok (.aload_n 0, 1) := by decide +kernel
theorem dX7_ways_69 : decode cX7_ways 69 = .ok (.getfield 44, 3) := by decide +kernel
theorem dX7_ways_72 : decode cX7_ways 72 = .ok (.getfield 201, 3) := by decide +kernel
theorem dX7_ways_75 : decode cX7_ways 75 = .ok (.ireturn, 1) := by decide +kernel
theorem dX7_ways_76 : decode cX7_ways 76 = .ok (.iconst (-1), 1) := by decide +kernel
theorem dX7_ways_77 : decode cX7_ways 77 = .ok (.ireturn, 1) := by decide +kernel
set_option maxRecDepth 20000 in
theorem ggX7_way_X7_placeOf : GoodIn wsX7_way wsX7_placeOf := goodIn_r _ [6] (by decide +kernel) (by decide +kernel)
set_option maxRecDepth 20000 in
theorem gX7_way_X7_placeOf : GoodIn wsX7_way (va_wsS RX7 108 yX7_placeOf wsX7_placeOf) := goodIn_app (goodIn_of _ (by decide +kernel)) ggX7_way_X7_placeOf
set_option maxRecDepth 20000 in
theorem ggX7_way_X3_heldIn : GoodIn wsX7_way wsX3_heldIn := goodIn_r _ [11, 12, 13, 14, 15, 16, 17, 5, 18, 27, 28, 29, 30, 31, 32, 33, 34, 35, 36, 37, 38, 39, 40, 41, 42] (by decide +kernel) (by decide +kernel)
set_option maxRecDepth 20000 in
theorem gX7_way_X3_heldIn : GoodIn wsX7_way (wsV RX7 204 RX3 yX3_heldIn wsX3_heldIn) := goodIn_app (goodIn_of _ (by decide +kernel)) ggX7_way_X3_heldIn
theorem dX7_way_0 : decode cX7_way 0 = .ok (.iload_n 2, 1) := by decide +kernel
theorem dX7_way_1 : decode cX7_way 1 = .ok (.iload_n 3, 1) := by decide +kernel
theorem dX7_way_2 : decode cX7_way 2 = .ok (.invokestatic 108, 3) := by decide +kernel
theorem dX7_way_5 : decode cX7_way 5 = .ok (.istore 4, 2) := by decide +kernel
theorem dX7_way_7 : decode cX7_way 7 = .ok (.iload 4, 2) := by decide +kernel
theorem dX7_way_9 : decode cX7_way 9 = .ok (.iconst (-1), 1) := by decide +kernel
theorem dX7_way_10 : decode cX7_way 10 = .ok (.if_icmp .eq 18, 3) := by decide +kernel
theorem dX7_way_13 : decode cX7_way 13 = .ok (.iload_n 1, 1) := by decide +kernel
theorem dX7_way_14 : decode cX7_way 14 = .ok (.ifCond .lt 14, 3) := by decide +kernel
theorem dX7_way_17 : decode cX7_way 17 = .ok (.iload_n 1, 1) := by decide +kernel
theorem dX7_way_18 : decode cX7_way 18 = .ok (.aload_n 0, 1) := by decide +kernel
theorem dX7_way_19 : decode cX7_way 19 = .ok (.getfield 44, 3) := by decide +kernel
theorem dX7_way_22 : decode cX7_way 22 = .ok (.getfield 192, 3) := by decide +kernel
theorem dX7_way_25 : decode cX7_way 25 = .ok (.if_icmp .lt 5, 3) := by decide +kernel
theorem dX7_way_28 : decode cX7_way 28 = .ok (.iconst (-1), 1) := by decide +kernel
theorem dX7_way_29 : decode cX7_way 29 = .ok (.ireturn, 1) := by decide +kernel
theorem dX7_way_30 : decode cX7_way 30 = .ok (.aload_n 0, 1) := by decide +kernel
theorem dX7_way_31 : decode cX7_way 31 = .ok (.getfield 44, 3) := by decide +kernel
theorem dX7_way_34 : decode cX7_way 34 = .ok (.iload_n 1, 1) := by decide +kernel
theorem dX7_way_35 : decode cX7_way 35 = .ok (.iload 4, 2) := by decide +kernel
theorem dX7_way_37 : decode cX7_way 37 = .ok (.invokevirtual 204, 3) := by decide +kernel
theorem dX7_way_40 : decode cX7_way 40 = .ok (.ireturn, 1) := by decide +kernel
set_option maxRecDepth 20000 in
theorem ggX7_orderly_X2_judge : GoodIn wsX7_orderly wsX2_judge := goodIn_r _ [6, 7, 8, 9, 10, 11, 12, 13, 14, 5, 15, 16, 17, 18, 19, 20, 21, 22, 23, 24, 25, 26, 27, 28, 29, 30, 31, 32, 33, 34, 35, 36, 37, 38, 39, 40, 41, 42, 43, 44, 45, 46, 47, 48, 49, 50, 51, 52, 53, 54, 55, 56, 57, 58, 59, 60, 61, 62, 63, 64, 65, 66, 67, 68, 69, 70, 71, 72, 73, 74, 75, 76, 77, 78, 79, 80, 81, 82, 83, 84, 85, 86, 87, 88, 89, 90, 91, 92, 93, 94, 95, 96, 97, 98, 99, 100, 101, 102, 103, 104, 105, 106, 107, 108, 109, 110, 111, 112, 113, 114, 115, 116, 117, 118, 119, 120, 121, 122, 123, 124, 125, 126, 127, 128, 129, 130, 131, 132, 133, 134, 135, 136, 137, 138, 139, 140, 141, 142, 143, 152, 153, 154, 155, 156, 157, 158, 159, 160, 161, 162, 163, 164, 165, 166, 167, 168, 169, 170, 171, 172, 173, 174, 175, 176, 177, 178, 179, 180, 181, 182, 183, 184, 185, 186, 187, 188, 189, 190] (by decide +kernel) (by decide +kernel)
set_option maxRecDepth 20000 in
theorem gX7_orderly_X2_judge : GoodIn wsX7_orderly (wsV RX7 207 RX2 yX2_judge wsX2_judge) := goodIn_app (goodIn_of _ (by decide +kernel)) ggX7_orderly_X2_judge
theorem dX7_orderly_0 : decode cX7_orderly 0 = .ok (.aload_n 0, 1) := by decide +kernel
theorem dX7_orderly_1 : decode cX7_orderly 1 = .ok (.getfield 53, 3) := by decide +kernel
theorem dX7_orderly_4 : decode cX7_orderly 4 = .ok (.invokevirtual 207, 3) := by decide +kernel
theorem dX7_orderly_7 : decode cX7_orderly 7 = .ok (.ireturn, 1) := by decide +kernel
set_option maxRecDepth 20000 in
theorem ggX7_rule_X4_sweep : GoodIn wsX7_rule wsX4_sweep := goodIn_r _ [8, 9, 10, 11, 12, 13, 14, 15, 16, 17, 18, 7, 19, 20, 21, 22, 23, 24, 25, 26, 27, 28, 29, 128, 129, 130, 131, 132, 133, 134, 135, 136, 137, 138, 139, 140, 141, 142] (by decide +kernel) (by decide +kernel)
set_option maxRecDepth 20000 in
theorem gX7_rule_X4_sweep : GoodIn wsX7_rule (wsV RX7 101 RX4 yX4_sweep wsX4_sweep) := goodIn_app (goodIn_of _ (by decide +kernel)) ggX7_rule_X4_sweep
set_option maxRecDepth 20000 in
theorem ggX7_rule_X5_restart : GoodIn wsX7_rule wsX5_restart := goodIn_r _ [34, 35, 36, 37, 38, 39, 13, 14, 15, 143, 144, 145, 146, 147, 148, 149, 150] (by decide +kernel) (by decide +kernel)
set_option maxRecDepth 20000 in
theorem gX7_rule_X5_restart : GoodIn wsX7_rule (wsV RX7 104 RX5 yX5_restart wsX5_restart) := goodIn_app (goodIn_of _ (by decide +kernel)) ggX7_rule_X5_restart
set_option maxRecDepth 20000 in
theorem ggX7_rule_X1_becomeRule : GoodIn wsX7_rule wsX1_becomeRule := goodIn_r _ [44, 45, 46, 47, 48, 43, 49, 50, 51, 52, 53, 54, 55, 56, 57, 58, 59, 60, 13, 14, 15, 61, 62, 63, 64, 28, 65, 66, 67, 68, 69, 70, 71, 72, 73, 74, 75, 76, 77, 78, 79, 80, 81, 82, 83, 84, 85, 86, 87, 88, 89, 151, 152, 153, 154, 155, 156, 157, 158, 159, 160, 161, 162, 163] (by decide +kernel) (by decide +kernel)
set_option maxRecDepth 20000 in
theorem gX7_rule_X1_becomeRule : GoodIn wsX7_rule (wsV RX7 210 RX1 yX1_becomeRule wsX1_becomeRule) := goodIn_app (goodIn_of _ (by decide +kernel)) ggX7_rule_X1_becomeRule
set_option maxRecDepth 20000 in
theorem ggX7_rule_X7_bitOf : GoodIn wsX7_rule wsX7_bitOf := goodIn_r _ [65] (by decide +kernel) (by decide +kernel)
set_option maxRecDepth 20000 in
theorem gX7_rule_X7_bitOf : GoodIn wsX7_rule (va_wsS RX7 214 yX7_bitOf wsX7_bitOf) := goodIn_app (goodIn_of _ (by decide +kernel)) ggX7_rule_X7_bitOf
set_option maxRecDepth 20000 in
theorem ggX7_rule_X7_placeOf : GoodIn wsX7_rule wsX7_placeOf := goodIn_r _ [93] (by decide +kernel) (by decide +kernel)
set_option maxRecDepth 20000 in
theorem gX7_rule_X7_placeOf : GoodIn wsX7_rule (va_wsS RX7 108 yX7_placeOf wsX7_placeOf) := goodIn_app (goodIn_of _ (by decide +kernel)) ggX7_rule_X7_placeOf
set_option maxRecDepth 20000 in
theorem ggX7_rule_X7_stepDown : GoodIn wsX7_rule wsX7_stepDown := goodIn_r _ [97, 1, 2, 98, 99, 100, 7, 101, 9, 102, 103, 10, 11, 104, 105, 106, 107, 20, 21, 22, 23, 24, 25, 26, 27, 28, 29, 108, 109, 110, 33, 111, 35, 112, 113, 114, 115, 38, 36, 116, 117, 118, 119, 120, 121, 122, 123, 124, 125, 126, 127, 128, 129, 130, 131, 132, 133, 134, 135, 136, 137, 138, 139, 140, 141, 142, 151, 152, 153, 154, 155, 156, 157, 158, 159, 160, 161, 162, 163, 143, 144, 145, 146, 147, 148, 149, 150] (by decide +kernel) (by decide +kernel)
set_option maxRecDepth 20000 in
theorem gX7_rule_X7_stepDown : GoodIn wsX7_rule (wsV RX7 123 RX7 yX7_stepDown wsX7_stepDown) := goodIn_app (goodIn_of _ (by decide +kernel)) ggX7_rule_X7_stepDown
theorem dX7_rule_0 : decode cX7_rule 0 = .ok (.iload_n 1, 1) := by decide +kernel
theorem dX7_rule_1 : decode cX7_rule 1 = .ok (.ifCond .lt 43, 3) := by decide +kernel
theorem dX7_rule_4 : decode cX7_rule 4 = .ok (.iload_n 1, 1) := by decide +kernel
theorem dX7_rule_5 : decode cX7_rule 5 = .ok (.bipush 15, 2) := by decide +kernel
theorem dX7_rule_7 : decode cX7_rule 7 = .ok (.if_icmp .gt 37, 3) := by decide +kernel
theorem dX7_rule_10 : decode cX7_rule 10 = .ok (.iload_n 2, 1) := by decide +kernel
theorem dX7_rule_11 : decode cX7_rule 11 = .ok (.ifCond .lt 33, 3) := by decide +kernel
theorem dX7_rule_14 : decode cX7_rule 14 = .ok (.iload_n 2, 1) := by decide +kernel
theorem dX7_rule_15 : decode cX7_rule 15 = .ok (.bipush 15, 2) := by decide +kernel
theorem dX7_rule_17 : decode cX7_rule 17 = .ok (.if_icmp .gt 27, 3) := by decide +kernel
theorem dX7_rule_20 : decode cX7_rule 20 = .ok (.iload_n 3, 1) := by decide +kernel
theorem dX7_rule_21 : decode cX7_rule 21 = .ok (.iconst 1, 1) := by decide +kernel
theorem dX7_rule_22 : decode cX7_rule 22 = .ok (.if_icmp .lt 22, 3) := by decide +kernel
theorem dX7_rule_25 : decode cX7_rule 25 = .ok (.iload_n 3, 1) := by decide +kernel
theorem dX7_rule_26 : decode cX7_rule 26 = .ok (.bipush 15, 2) := by decide +kernel
theorem dX7_rule_28 : decode cX7_rule 28 = .ok (.if_icmp .gt 16, 3) := by decide +kernel
theorem dX7_rule_31 : decode cX7_rule 31 = .ok (.iload 4, 2) := by decide +kernel
theorem dX7_rule_33 : decode cX7_rule 33 = .ok (.iconst 1, 1) := by decide +kernel
theorem dX7_rule_34 : decode cX7_rule 34 = .ok (.if_icmp .lt 10, 3) := by decide +kernel
theorem dX7_rule_37 : decode cX7_rule 37 = .ok (.iload 4, 2) := by decide +kernel
theorem dX7_rule_39 : decode cX7_rule 39 = .ok (.bipush 15, 2) := by decide +kernel
theorem dX7_rule_41 : decode cX7_rule 41 = .ok (.if_icmp .le 5, 3) := by decide +kernel
theorem dX7_rule_44 : decode cX7_rule 44 = .ok (.iconst (-1), 1) := by decide +kernel
theorem dX7_rule_45 : decode cX7_rule 45 = .ok (.ireturn, 1) := by decide +kernel
theorem dX7_rule_46 : decode cX7_rule 46 = .ok (.aload_n 0, 1) := by decide +kernel
theorem dX7_rule_47 : decode cX7_rule 47 = .ok (.getfield 21, 3) := by decide +kernel
theorem dX7_rule_50 : decode cX7_rule 50 = .ok (.invokevirtual 101, 3) := by decide +kernel
theorem dX7_rule_53 : decode cX7_rule 53 = .ok (.aload_n 0, 1) := by decide +kernel
theorem dX7_rule_54 : decode cX7_rule 54 = .ok (.getfield 28, 3) := by decide +kernel
theorem dX7_rule_57 : decode cX7_rule 57 = .ok (.iconst 1, 1) := by decide +kernel
theorem dX7_rule_58 : decode cX7_rule 58 = .ok (.invokevirtual 104, 3) := by decide +kernel
theorem dX7_rule_61 : decode cX7_rule 61 = .ok (.aload_n 0, 1) := by decide +kernel
theorem dX7_rule_62 : decode cX7_rule 62 = .ok (.getfield 12, 3) := by decide +kernel
theorem dX7_rule_65 : decode cX7_rule 65 = .ok (.iload_n 1, 1) := by decide +kernel
theorem dX7_rule_66 : decode cX7_rule 66 = .ok (.iload_n 2, 1) := by decide +kernel
theorem dX7_rule_67 : decode cX7_rule 67 = .ok (.invokevirtual 210, 3) := by decide +kernel
theorem dX7_rule_70 : decode cX7_rule 70 = .ok (.iconst 0, 1) := by decide +kernel
theorem dX7_rule_71 : decode cX7_rule 71 = .ok (.istore 7, 2) := by decide +kernel
theorem dX7_rule_73 : decode cX7_rule 73 = .ok (.iload 7, 2) := by decide +kernel
theorem dX7_rule_75 : decode cX7_rule 75 = .ok (.iload_n 3, 1) := by decide +kernel
theorem dX7_rule_76 : decode cX7_rule 76 = .ok (.if_icmp .ge 34, 3) := by decide +kernel
theorem dX7_rule_79 : decode cX7_rule 79 = .ok (.aload_n 0, 1) := by decide +kernel
theorem dX7_rule_80 : decode cX7_rule 80 = .ok (.iconst 0, 1) := by decide +kernel
theorem dX7_rule_81 : decode cX7_rule 81 = .ok (.iconst 4, 1) := by decide +kernel
theorem dX7_rule_82 : decode cX7_rule 82 = .ok (.iload 5, 2) := by decide +kernel
theorem dX7_rule_84 : decode cX7_rule 84 = .ok (.iload_n 3, 1) := by decide +kernel
theorem dX7_rule_85 : decode cX7_rule 85 = .ok (.iconst 1, 1) := by decide +kernel
theorem dX7_rule_86 : decode cX7_rule 86 = .ok (.isub, 1) := by decide +kernel
theorem dX7_rule_87 : decode cX7_rule 87 = .ok (.iload 7, 2) := by decide +kernel
theorem dX7_rule_89 : decode cX7_rule 89 = .ok (.isub, 1) := by decide +kernel
theorem dX7_rule_90 : decode cX7_rule 90 = .ok (.invokestatic 214, 3) := by decide +kernel
theorem dX7_rule_93 : decode cX7_rule 93 = .ok (.iadd, 1) := by decide +kernel
theorem dX7_rule_94 : decode cX7_rule 94 = .ok (.iload 7, 2) := by decide +kernel
theorem dX7_rule_96 : decode cX7_rule 96 = .ok (.bipush 15, 2) := by decide +kernel
theorem dX7_rule_98 : decode cX7_rule 98 = .ok (.invokestatic 108, 3) := by decide +kernel
theorem dX7_rule_101 : decode cX7_rule 101 = .ok (.invokevirtual 123, 3) := by decide +kernel
theorem dX7_rule_104 : decode cX7_rule 104 = .ok (.iinc 7 1, 3) := by decide +kernel
theorem dX7_rule_107 : decode cX7_rule 107 = .ok (.goto (-34), 3) := by decide +kernel
theorem dX7_rule_110 : decode cX7_rule 110 = .ok (.iconst 0, 1) := by decide +kernel
theorem dX7_rule_111 : decode cX7_rule 111 = .ok (.istore 7, 2) := by decide +kernel
theorem dX7_rule_113 : decode cX7_rule 113 = .ok (.iload 7, 2) := by decide +kernel
theorem dX7_rule_115 : decode cX7_rule 115 = .ok (.iload 4, 2) := by decide +kernel
theorem dX7_rule_117 : decode cX7_rule 117 = .ok (.if_icmp .ge 33, 3) := by decide +kernel
theorem dX7_rule_120 : decode cX7_rule 120 = .ok (.aload_n 0, 1) := by decide +kernel
theorem dX7_rule_121 : decode cX7_rule 121 = .ok (.iconst 0, 1) := by decide +kernel
theorem dX7_rule_122 : decode cX7_rule 122 = .ok (.bipush 6, 2) := by decide +kernel
theorem dX7_rule_124 : decode cX7_rule 124 = .ok (.iload 6, 2) := by decide +kernel
theorem dX7_rule_126 : decode cX7_rule 126 = .ok (.iload 7, 2) := by decide +kernel
theorem dX7_rule_128 : decode cX7_rule 128 = .ok (.invokestatic 214, 3) := by decide +kernel
theorem dX7_rule_131 : decode cX7_rule 131 = .ok (.iadd, 1) := by decide +kernel
theorem dX7_rule_132 : decode cX7_rule 132 = .ok (.iload_n 3, 1) := by decide +kernel
theorem dX7_rule_133 : decode cX7_rule 133 = .ok (.bipush 14, 2) := by decide +kernel
theorem dX7_rule_135 : decode cX7_rule 135 = .ok (.iload 7, 2) := by decide +kernel
theorem dX7_rule_137 : decode cX7_rule 137 = .ok (.isub, 1) := by decide +kernel
theorem dX7_rule_138 : decode cX7_rule 138 = .ok (.invokestatic 108, 3) := by decide +kernel
theorem dX7_rule_141 : decode cX7_rule 141 = .ok (.invokevirtual 123, 3) := by decide +kernel
theorem dX7_rule_144 : decode cX7_rule 144 = .ok (.iinc 7 1, 3) := by decide +kernel
theorem dX7_rule_147 : decode cX7_rule 147 = .ok (.goto (-34), 3) := by decide +kernel
theorem dX7_rule_150 : decode cX7_rule 150 = .ok (.iload_n 3, 1) := by decide +kernel
theorem dX7_rule_151 : decode cX7_rule 151 = .ok (.iload 4, 2) := by decide +kernel
theorem dX7_rule_153 : decode cX7_rule 153 = .ok (.iadd, 1) := by decide +kernel
theorem dX7_rule_154 : decode cX7_rule 154 = .ok (.ireturn, 1) := by decide +kernel
set_option maxRecDepth 20000 in
theorem ggX7_row_X7_placeOf : GoodIn wsX7_row wsX7_placeOf := goodIn_r _ [8] (by decide +kernel) (by decide +kernel)
set_option maxRecDepth 20000 in
theorem gX7_row_X7_placeOf : GoodIn wsX7_row (va_wsS RX7 108 yX7_placeOf wsX7_placeOf) := goodIn_app (goodIn_of _ (by decide +kernel)) ggX7_row_X7_placeOf
set_option maxRecDepth 20000 in
theorem ggX7_row_X7_pieceIn : GoodIn wsX7_row wsX7_pieceIn := goodIn_r _ [11] (by decide +kernel) (by decide +kernel)
set_option maxRecDepth 20000 in
theorem gX7_row_X7_pieceIn : GoodIn wsX7_row (va_wsS RX7 145 yX7_pieceIn wsX7_pieceIn) := goodIn_app (goodIn_of _ (by decide +kernel)) ggX7_row_X7_pieceIn
theorem dX7_row_0 : decode cX7_row 0 = .ok (.iload_n 1, 1) := by decide +kernel
theorem dX7_row_1 : decode cX7_row 1 = .ok (.ifCond .lt 20, 3) := by decide +kernel
theorem dX7_row_4 : decode cX7_row 4 = .ok (.iload_n 1, 1) := by decide +kernel
theorem dX7_row_5 : decode cX7_row 5 = .ok (.bipush 16, 2) := by decide +kernel
theorem dX7_row_7 : decode cX7_row 7 = .ok (.if_icmp .ge 14, 3) := by decide +kernel
theorem dX7_row_10 : decode cX7_row 10 = .ok (.iload_n 2, 1) := by decide +kernel
theorem dX7_row_11 : decode cX7_row 11 = .ok (.iconst 1, 1) := by decide +kernel
theorem dX7_row_12 : decode cX7_row 12 = .ok (.if_icmp .lt 9, 3) := by decide +kernel
theorem dX7_row_15 : decode cX7_row 15 = .ok (.iload_n 2, 1) := by decide +kernel
theorem dX7_row_16 : decode cX7_row 16 = .ok (.bipush 16, 2) := by decide +kernel
theorem dX7_row_18 : decode cX7_row 18 = .ok (.if_icmp .le 5, 3) := by decide +kernel
theorem dX7_row_21 : decode cX7_row 21 = .ok (.iconst (-1), 1) := by decide +kernel
theorem dX7_row_22 : decode cX7_row 22 = .ok (.ireturn, 1) := by decide +kernel
theorem dX7_row_23 : decode cX7_row 23 = .ok (.iconst 0, 1) := by decide +kernel
theorem dX7_row_24 : decode cX7_row 24 = .ok (.istore_n 3, 1) := by decide +kernel
theorem dX7_row_25 : decode cX7_row 25 = .ok (.iconst 0, 1) := by decide +kernel
theorem dX7_row_26 : decode cX7_row 26 = .ok (.istore 4, 2) := by decide +kernel
theorem dX7_row_28 : decode cX7_row 28 = .ok (.iload 4, 2) := by decide +kernel
theorem dX7_row_30 : decode cX7_row 30 = .ok (.iload_n 2, 1) := by decide +kernel
theorem dX7_row_31 : decode cX7_row 31 = .ok (.if_icmp .ge 73, 3) := by decide +kernel
theorem dX7_row_34 : decode cX7_row 34 = .ok (.aload_n 0, 1) := by decide +kernel
theorem dX7_row_35 : decode cX7_row 35 = .ok (.getfield 21, 3) := by decide +kernel
theorem dX7_row_38 : decode cX7_row 38 = .ok (.getfield 142, 3) := by decide +kernel
theorem dX7_row_41 : decode cX7_row 41 = .ok (.iload 4, 2) := by decide +kernel
theorem dX7_row_43 : decode cX7_row 43 = .ok (.iload_n 1, 1) := by decide +kernel
theorem dX7_row_44 : decode cX7_row 44 = .ok (.invokestatic 108, 3) := by decide +kernel
theorem dX7_row_47 : decode cX7_row 47 = .ok (.iaload, 1) := by decide +kernel
theorem dX7_row_48 : decode cX7_row 48 = .ok (.invokestatic 145, 3) := by decide +kernel
theorem dX7_row_51 : decode cX7_row 51 = .ok (.istore 5, 2) := by decide +kernel
theorem dX7_row_53 : decode cX7_row 53 = .ok (.iload 5, 2) := by decide +kernel
theorem dX7_row_55 : decode cX7_row 55 = .ok (.iconst (-1), 1) := by decide +kernel
theorem dX7_row_56 : decode cX7_row 56 = .ok (.if_icmp .ne 7, 3) := by decide +kernel
theorem dX7_row_59 : decode cX7_row 59 = .ok (.iconst 0, 1) := by decide +kernel
theorem dX7_row_60 : decode cX7_row 60 = .ok (.goto 13, 3) := by decide +kernel
theorem dX7_row_63 : decode cX7_row 63 = .ok (.aload_n 0, 1) := by decide +kernel
theorem dX7_row_64 : decode cX7_row 64 = .ok (.getfield 12, 3) := by decide +kernel
theorem dX7_row_67 : decode cX7_row 67 = .ok (.getfield 177, 3) := by decide +kernel
theorem dX7_row_70 : decode cX7_row 70 = .ok (.iload 5, 2) := by decide +kernel
theorem dX7_row_72 : decode cX7_row 72 = .ok (.iaload, 1) := by decide +kernel
theorem dX7_row_73 : decode cX7_row 73 = .ok (.istore 6, 2) := by decide +kernel
theorem dX7_row_75 : decode cX7_row 75 = .ok (.iload 6, 2) := by decide +kernel
theorem dX7_row_77 : decode cX7_row 77 = .ok (.iconst 1, 1) := by decide +kernel
theorem dX7_row_78 : decode cX7_row 78 = .ok (.if_icmp .eq 11, 3) := by decide +kernel
theorem dX7_row_81 : decode cX7_row 81 = .ok (.iload 6, 2) := by decide +kernel
theorem dX7_row_83 : decode cX7_row 83 = .ok (.iconst 2, 1) := by decide +kernel
theorem dX7_row_84 : decode cX7_row 84 = .ok (.if_icmp .eq 5, 3) := by decide +kernel
theorem dX7_row_87 : decode cX7_row 87 = .ok (.iconst (-1), 1) := by decide +kernel
theorem dX7_row_88 : decode cX7_row 88 = .ok (.ireturn, 1) := by decide +kernel
theorem dX7_row_89 : decode cX7_row 89 = .ok (.iconst 2, 1) := by decide +kernel
theorem dX7_row_90 : decode cX7_row 90 = .ok (.iload_n 3, 1) := by decide +kernel
theorem dX7_row_91 : decode cX7_row 91 = .ok (.imul, 1) := by decide +kernel
theorem dX7_row_92 : decode cX7_row 92 = .ok (.iload 6, 2) := by decide +kernel
theorem dX7_row_94 : decode cX7_row 94 = .ok (.iadd, 1) := by decide +kernel
theorem dX7_row_95 : decode cX7_row 95 = .ok (.iconst 1, 1) := by decide +kernel
theorem dX7_row_96 : decode cX7_row 96 = .ok (.isub, 1) := by decide +kernel
theorem dX7_row_97 : decode cX7_row 97 = .ok (.istore_n 3, 1) := by decide +kernel
theorem dX7_row_98 : decode cX7_row 98 = .ok (.iinc 4 1, 3) := by decide +kernel
theorem dX7_row_101 : decode cX7_row 101 = .ok (.goto (-73), 3) := by decide +kernel
theorem dX7_row_104 : decode cX7_row 104 = .ok (.iload_n 3, 1) := by decide +kernel
theorem dX7_row_105 : decode cX7_row 105 = .ok (.ireturn, 1) := by decide +kernel
set_option maxRecDepth 20000 in
theorem ggX7_undo_X7_takeBackLatest : GoodIn wsX7_undo wsX7_takeBackLatest := goodIn_r _ [7, 1, 8, 9, 10, 11, 12, 13, 14, 15, 16, 17, 18, 19, 20, 21, 22, 23, 24, 25, 26, 27, 28, 29, 30, 31, 32, 33, 34, 35, 36, 37, 38, 39, 40, 41, 42, 6, 43, 44, 45, 46, 47, 48, 49, 50, 51, 52, 53, 54, 55, 56, 57, 58, 59, 60, 61, 62, 63, 64, 65, 66, 67, 68, 69, 70, 71, 72, 73, 74, 75, 76, 77, 78, 79, 80, 81, 82, 83, 84, 85, 86, 87, 88, 89, 90, 91, 92, 93] (by decide +kernel) (by decide +kernel)
set_option maxRecDepth 20000 in
theorem gX7_undo_X7_takeBackLatest : GoodIn wsX7_undo (wsV RX7 220 RX7 yX7_takeBackLatest wsX7_takeBackLatest) := goodIn_app (goodIn_of _ (by decide +kernel)) ggX7_undo_X7_takeBackLatest
theorem dX7_undo_0 : decode cX7_undo 0 = .ok (.iload_n 1, 1) := by decide +kernel
theorem dX7_undo_1 : decode cX7_undo 1 = .ok (.ifCond .lt 14, 3) := by decide +kernel
theorem dX7_undo_4 : decode cX7_undo 4 = .ok (.iload_n 1, 1) := by decide +kernel
theorem dX7_undo_5 : decode cX7_undo 5 = .ok (.aload_n 0, 1) := by decide +kernel
theorem dX7_undo_6 : decode cX7_undo 6 = .ok (.getfield 28, 3) := by decide +kernel
theorem dX7_undo_9 : decode cX7_undo 9 = .ok (.getfield 217, 3) := by decide +kernel
theorem dX7_undo_12 : decode cX7_undo 12 = .ok (.if_icmp .le 5, 3) := by decide +kernel
theorem dX7_undo_15 : decode cX7_undo 15 = .ok (.iconst (-1), 1) := by decide +kernel
theorem dX7_undo_16 : decode cX7_undo 16 = .ok (.ireturn, 1) := by decide +kernel
theorem dX7_undo_17 : decode cX7_undo 17 = .ok (.iconst 0, 1) := by decide +kernel
theorem dX7_undo_18 : decode cX7_undo 18 = .ok (.istore_n 2, 1) := by decide +kernel
theorem dX7_undo_19 : decode cX7_undo 19 = .ok (.iload_n 2, 1) := by decide +kernel
theorem dX7_undo_20 : decode cX7_undo 20 = .ok (.iload_n 1, 1) := by decide +kernel
theorem dX7_undo_21 : decode cX7_undo 21 = .ok (.if_icmp .ge 13, 3) := by decide +kernel
theorem dX7_undo_24 : decode cX7_undo 24 = .ok (.aload_n 0, 1) := by decide +kernel
theorem dX7_undo_25 : decode cX7_undo 25 = .ok (.invokevirtual 220, 3) := by decide +kernel
theorem dX7_undo_28 : decode cX7_undo 28 = .ok (.iinc 2 1, 3) := by decide +kernel
theorem dX7_undo_31 : decode cX7_undo 31 = .ok (.goto (-12), 3) := by decide +kernel
theorem dX7_undo_34 : decode cX7_undo 34 = .ok (.iload_n 1, 1) := by decide +kernel
theorem dX7_undo_35 : decode cX7_undo 35 = .ok (.ireturn, 1) := by decide +kernel
set_option maxRecDepth 20000 in
theorem ggX7_keep_X0_take : GoodIn wsX7_keep wsX0_take := goodIn_r _ [9, 10, 11, 12, 13, 14, 15, 16, 17, 18, 19, 20, 21, 22, 23, 24, 25, 26, 27, 28, 29, 30, 31, 32, 33, 34, 35, 36, 45, 46, 47, 48, 49, 50, 51, 52, 53, 54, 55, 56, 57, 58, 59, 60, 61, 62, 63, 64, 65, 66, 67, 68, 69, 70, 71, 72, 73, 74, 75] (by decide +kernel) (by decide +kernel)
set_option maxRecDepth 20000 in
theorem gX7_keep_X0_take : GoodIn wsX7_keep (wsV RX7 223 RX0 yX0_take wsX0_take) := goodIn_app (goodIn_of _ (by decide +kernel)) ggX7_keep_X0_take
theorem dX7_keep_0 : decode cX7_keep 0 = .ok (.iload_n 1, 1) := by decide +kernel
theorem dX7_keep_1 : decode cX7_keep 1 = .ok (.ifCond .lt 8, 3) := by decide +kernel
theorem dX7_keep_4 : decode cX7_keep 4 = .ok (.iload_n 1, 1) := by decide +kernel
theorem dX7_keep_5 : decode cX7_keep 5 = .ok (.iconst 3, 1) := by decide +kernel
theorem dX7_keep_6 : decode cX7_keep 6 = .ok (.if_icmp .lt 5, 3) := by decide +kernel
theorem dX7_keep_9 : decode cX7_keep 9 = .ok (.iconst 0, 1) := by decide +kernel
theorem dX7_keep_10 : decode cX7_keep 10 = .ok (.ireturn, 1) := by decide +kernel
theorem dX7_keep_11 : decode cX7_keep 11 = .ok (.aload_n 0, 1) := by decide +kernel
theorem dX7_keep_12 : decode cX7_keep 12 = .ok (.getfield 59, 3) := by decide +kernel
theorem dX7_keep_15 : decode cX7_keep 15 = .ok (.iload_n 1, 1) := by decide +kernel
theorem dX7_keep_16 : decode cX7_keep 16 = .ok (.aaload, 1) := by decide +kernel
theorem dX7_keep_17 : decode cX7_keep 17 = .ok (.aload_n 0, 1) := by decide +kernel
theorem dX7_keep_18 : decode cX7_keep 18 = .ok (.getfield 12, 3) := by decide +kernel
theorem dX7_keep_21 : decode cX7_keep 21 = .ok (.aload_n 0, 1) := by decide +kernel
theorem dX7_keep_22 : decode cX7_keep 22 = .ok (.getfield 21, 3) := by decide +kernel
theorem dX7_keep_25 : decode cX7_keep 25 = .ok (.aload_n 0, 1) := by decide +kernel
theorem dX7_keep_26 : decode cX7_keep 26 = .ok (.getfield 64, 3) := by decide +kernel
theorem dX7_keep_29 : decode cX7_keep 29 = .ok (.invokevirtual 223, 3) := by decide +kernel
theorem dX7_keep_32 : decode cX7_keep 32 = .ok (.iconst 1, 1) := by decide +kernel
theorem dX7_keep_33 : decode cX7_keep 33 = .ok (.ireturn, 1) := by decide +kernel
set_option maxRecDepth 20000 in
theorem ggX7_back_X1_copyFrom : GoodIn wsX7_back wsX1_copyFrom := goodIn_r _ [14, 15, 16, 17, 18, 19, 20, 21, 22, 23, 24, 25, 26, 27, 28, 29, 30, 31, 96, 97, 98, 99, 100, 101, 102, 103, 104, 105, 106, 107, 108] (by decide +kernel) (by decide +kernel)
set_option maxRecDepth 20000 in
theorem gX7_back_X1_copyFrom : GoodIn wsX7_back (wsV RX7 228 RX1 yX1_copyFrom wsX1_copyFrom) := goodIn_app (goodIn_of _ (by decide +kernel)) ggX7_back_X1_copyFrom
set_option maxRecDepth 20000 in
theorem ggX7_back_X4_layOut : GoodIn wsX7_back wsX4_layOut := goodIn_r _ [36, 37, 38, 19, 20, 21, 39, 40, 41, 42, 43, 44, 45, 35, 46, 47, 48, 49, 50, 51, 52, 53, 54, 55, 56, 81, 82, 83, 84, 85, 86, 87, 88, 89, 90, 91, 92, 93, 94, 95, 96, 97, 98, 99, 100, 101, 102, 103, 104, 105, 106, 107, 108] (by decide +kernel) (by decide +kernel)
set_option maxRecDepth 20000 in
theorem gX7_back_X4_layOut : GoodIn wsX7_back (wsV RX7 232 RX4 yX4_layOut wsX4_layOut) := goodIn_app (goodIn_of _ (by decide +kernel)) ggX7_back_X4_layOut
set_option maxRecDepth 20000 in
theorem ggX7_back_X5_restart : GoodIn wsX7_back wsX5_restart := goodIn_r _ [61, 62, 63, 64, 65, 66, 67, 68, 69, 109, 110, 111, 112, 113, 114, 115, 116] (by decide +kernel) (by decide +kernel)
set_option maxRecDepth 20000 in
theorem gX7_back_X5_restart : GoodIn wsX7_back (wsV RX7 104 RX5 yX5_restart wsX5_restart) := goodIn_app (goodIn_of _ (by decide +kernel)) ggX7_back_X5_restart
theorem dX7_back_0 : decode cX7_back 0 = .ok (.iload_n 1, 1) := by decide +kernel
theorem dX7_back_1 : decode cX7_back 1 = .ok (.ifCond .lt 8, 3) := by decide +kernel
theorem dX7_back_4 : decode cX7_back 4 = .ok (.iload_n 1, 1) := by decide +kernel
theorem dX7_back_5 : decode cX7_back 5 = .ok (.iconst 3, 1) := by decide +kernel
theorem dX7_back_6 : decode cX7_back 6 = .ok (.if_icmp .lt 5, 3) := by decide +kernel
theorem dX7_back_9 : decode cX7_back 9 = .ok (.iconst 0, 1) := by decide +kernel
theorem dX7_back_10 : decode cX7_back 10 = .ok (.ireturn, 1) := by decide +kernel
theorem dX7_back_11 : decode cX7_back 11 = .ok (.aload_n 0, 1) := by decide +kernel
theorem dX7_back_12 : decode cX7_back 12 = .ok (.getfield 59, 3) := by decide +kernel
theorem dX7_back_15 : decode cX7_back 15 = .ok (.iload_n 1, 1) := by decide +kernel
theorem dX7_back_16 : decode cX7_back 16 = .ok (.aaload, 1) := by decide +kernel
theorem dX7_back_17 : decode cX7_back 17 = .ok (.astore_n 2, 1) := by decide +kernel
theorem dX7_back_18 : decode cX7_back 18 = .ok (.aload_n 0, 1) := by decide +kernel
theorem dX7_back_19 : decode cX7_back 19 = .ok (.getfield 12, 3) := by decide +kernel
theorem dX7_back_22 : decode cX7_back 22 = .ok (.aload_n 2, 1) := by decide +kernel
theorem dX7_back_23 : decode cX7_back 23 = .ok (.getfield 227, 3) := by decide +kernel
theorem dX7_back_26 : decode cX7_back 26 = .ok (.invokevirtual 228, 3) := by decide +kernel
theorem dX7_back_29 : decode cX7_back 29 = .ok (.aload_n 0, 1) := by decide +kernel
theorem dX7_back_30 : decode cX7_back 30 = .ok (.getfield 21, 3) := by decide +kernel
theorem dX7_back_33 : decode cX7_back 33 = .ok (.aload_n 2, 1) := by decide +kernel
theorem dX7_back_34 : decode cX7_back 34 = .ok (.getfield 231, 3) := by decide +kernel
theorem dX7_back_37 : decode cX7_back 37 = .ok (.invokevirtual 232, 3) := by decide +kernel
theorem dX7_back_40 : decode cX7_back 40 = .ok (.aload_n 0, 1) := by decide +kernel
theorem dX7_back_41 : decode cX7_back 41 = .ok (.aload_n 2, 1) := by decide +kernel
theorem dX7_back_42 : decode cX7_back 42 = .ok (.getfield 236, 3) := by decide +kernel
theorem dX7_back_45 : decode cX7_back 45 = .ok (.putfield 64, 3) := by decide +kernel
theorem dX7_back_48 : decode cX7_back 48 = .ok (.aload_n 0, 1) := by decide +kernel
theorem dX7_back_49 : decode cX7_back 49 = .ok (.getfield 28, 3) := by decide +kernel
theorem dX7_back_52 : decode cX7_back 52 = .ok (.aload_n 0, 1) := by decide +kernel
theorem dX7_back_53 : decode cX7_back 53 = .ok (.getfield 21, 3) := by decide +kernel
theorem dX7_back_56 : decode cX7_back 56 = .ok (.getfield 68, 3) := by decide +kernel
theorem dX7_back_59 : decode cX7_back 59 = .ok (.ifCond .ne 7, 3) := by decide +kernel
theorem dX7_back_62 : decode cX7_back 62 = .ok (.iconst 1, 1) := by decide +kernel
theorem dX7_back_63 : decode cX7_back 63 = .ok (.goto 4, 3) := by decide +kernel
theorem dX7_back_66 : decode cX7_back 66 = .ok (.iconst 0, 1) := by decide +kernel
theorem dX7_back_67 : decode cX7_back 67 = .ok (.invokevirtual 104, 3) := by decide +kernel
theorem dX7_back_70 : decode cX7_back 70 = .ok (.iconst 1, 1) := by decide +kernel
theorem dX7_back_71 : decode cX7_back 71 = .ok (.ireturn, 1) := by decide +kernel
theorem dX7_about_0 : decode cX7_about 0 = .ok (.iload_n 1, 1) := by decide +kernel
theorem dX7_about_1 : decode cX7_about 1 = .ok (.tableswitch 87 0 5 #[39, 47, 55, 63, 71, 79], 39) := by decide +kernel
theorem dX7_about_40 : decode cX7_about 40 = .ok (.aload_n 0, 1) := by decide +kernel
theorem dX7_about_41 : decode cX7_about 41 = .ok (.getfield 12, 3) := by decide +kernel
theorem dX7_about_44 : decode cX7_about 44 = .ok (.getfield 237, 3) := by decide +kernel
theorem dX7_about_47 : decode cX7_about 47 = .ok (.ireturn, 1) := by decide +kernel
theorem dX7_about_48 : decode cX7_about 48 = .ok (.aload_n 0, 1) := by decide +kernel
theorem dX7_about_49 : decode cX7_about 49 = .ok (.getfield 21, 3) := by decide +kernel
theorem dX7_about_52 : decode cX7_about 52 = .ok (.getfield 68, 3) := by decide +kernel
theorem dX7_about_55 : decode cX7_about 55 = .ok (.ireturn, 1) := by decide +kernel
theorem dX7_about_56 : decode cX7_about 56 = .ok (.aload_n 0, 1) := by decide +kernel
theorem dX7_about_57 : decode cX7_about 57 = .ok (.getfield 12, 3) := by decide +kernel
theorem dX7_about_60 : decode cX7_about 60 = .ok (.getfield 98, 3) := by decide +kernel
theorem dX7_about_63 : decode cX7_about 63 = .ok (.ireturn, 1) := by decide +kernel
theorem dX7_about_64 : decode cX7_about 64 = .ok (.aload_n 0, 1) := by decide +kernel
theorem dX7_about_65 : decode cX7_about 65 = .ok (.getfield 28, 3) := by decide +kernel
theorem dX7_about_68 : decode cX7_about 68 = .ok (.getfield 240, 3) := by decide +kernel
theorem dX7_about_71 : decode cX7_about 71 = .ok (.ireturn, 1) := by decide +kernel
theorem dX7_about_72 : decode cX7_about 72 = .ok (.aload_n 0, 1) := by decide +kernel
theorem dX7_about_73 : decode cX7_about 73 = .ok (.getfield 28, 3) := by decide +kernel
theorem dX7_about_76 : decode cX7_about 76 = .ok (.getfield 217, 3) := by decide +kernel
theorem dX7_about_79 : decode cX7_about 79 = .ok (.ireturn, 1) := by decide +kernel
theorem dX7_about_80 : decode cX7_about 80 = .ok (.aload_n 0, 1) := by decide +kernel
theorem dX7_about_81 : decode cX7_about 81 = .ok (.getfield 35, 3) := by decide +kernel
theorem dX7_about_84 : decode cX7_about 84 = .ok (.getfield 91, 3) := by decide +kernel
theorem dX7_about_87 : decode cX7_about 87 = .ok (.ireturn, 1) := by decide +kernel
theorem dX7_about_88 : decode cX7_about 88 = .ok (.iconst (-1), 1) := by decide +kernel
theorem dX7_about_89 : decode cX7_about 89 = .ok (.ireturn, 1) := by decide +kernel
set_option maxRecDepth 20000 in
theorem ggX7_stepDown_X4_putDown : GoodIn wsX7_stepDown wsX4_putDown := goodIn_r _ [7, 8, 9, 10, 11, 12, 13, 14, 15, 6, 16, 17, 18, 19, 20, 21, 22, 23, 24, 25, 26, 51, 52, 53, 54, 55, 56, 57, 58, 59, 60, 61, 62, 63, 64, 65, 66, 67, 68, 69, 70, 71, 72, 73, 74, 75, 76, 77, 78] (by decide +kernel) (by decide +kernel)
set_option maxRecDepth 20000 in
theorem gX7_stepDown_X4_putDown : GoodIn wsX7_stepDown (wsV RX7 243 RX4 yX4_putDown wsX4_putDown) := goodIn_app (goodIn_of _ (by decide +kernel)) ggX7_stepDown_X4_putDown
set_option maxRecDepth 20000 in
theorem ggX7_stepDown_X5_note : GoodIn wsX7_stepDown wsX5_note := goodIn_r _ [31, 32, 33, 34, 35, 36, 37, 38, 39, 40, 41, 42, 79, 80, 81, 82, 83, 84, 85, 86] (by decide +kernel) (by decide +kernel)
set_option maxRecDepth 20000 in
theorem gX7_stepDown_X5_note : GoodIn wsX7_stepDown (wsV RX7 152 RX5 yX5_note wsX5_note) := goodIn_app (goodIn_of _ (by decide +kernel)) ggX7_stepDown_X5_note
theorem dX7_stepDown_0 : decode cX7_stepDown 0 = .ok (.aload_n 0, 1) := by decide +kernel
theorem dX7_stepDown_1 : decode cX7_stepDown 1 = .ok (.getfield 21, 3) := by decide +kernel
theorem dX7_stepDown_4 : decode cX7_stepDown 4 = .ok (.iload_n 2, 1) := by decide +kernel
theorem dX7_stepDown_5 : decode cX7_stepDown 5 = .ok (.iload_n 3, 1) := by decide +kernel
theorem dX7_stepDown_6 : decode cX7_stepDown 6 = .ok (.invokevirtual 243, 3) := by decide +kernel
theorem dX7_stepDown_9 : decode cX7_stepDown 9 = .ok (.aload_n 0, 1) := by decide +kernel
theorem dX7_stepDown_10 : decode cX7_stepDown 10 = .ok (.getfield 28, 3) := by decide +kernel
theorem dX7_stepDown_13 : decode cX7_stepDown 13 = .ok (.iload_n 1, 1) := by decide +kernel
theorem dX7_stepDown_14 : decode cX7_stepDown 14 = .ok (.iload_n 2, 1) := by decide +kernel
theorem dX7_stepDown_15 : decode cX7_stepDown 15 = .ok (.iload_n 3, 1) := by decide +kernel
theorem dX7_stepDown_16 : decode cX7_stepDown 16 = .ok (.invokevirtual 152, 3) := by decide +kernel
theorem dX7_stepDown_19 : decode cX7_stepDown 19 = .ok (.return_, 1) := by decide +kernel
set_option maxRecDepth 20000 in
theorem ggX7_takeBackLatest_X5_dropLatest : GoodIn wsX7_takeBackLatest wsX5_dropLatest := goodIn_r _ [12, 13, 14, 53, 54, 55, 56, 57, 58, 59, 60] (by decide +kernel) (by decide +kernel)
set_option maxRecDepth 20000 in
theorem gX7_takeBackLatest_X5_dropLatest : GoodIn wsX7_takeBackLatest (wsV RX7 246 RX5 yX5_dropLatest wsX5_dropLatest) := goodIn_app (goodIn_of _ (by decide +kernel)) ggX7_takeBackLatest_X5_dropLatest
set_option maxRecDepth 20000 in
theorem ggX7_takeBackLatest_X4_putDown : GoodIn wsX7_takeBackLatest wsX4_putDown := goodIn_r _ [19, 20, 21, 22, 23, 24, 25, 26, 27, 18, 28, 29, 30, 31, 32, 33, 34, 35, 36, 37, 38, 61, 62, 63, 64, 65, 66, 67, 68, 69, 70, 71, 72, 73, 74, 75, 76, 77, 78, 79, 80, 81, 82, 83, 84, 85, 86, 87, 88] (by decide +kernel) (by decide +kernel)
set_option maxRecDepth 20000 in
theorem gX7_takeBackLatest_X4_putDown : GoodIn wsX7_takeBackLatest (wsV RX7 243 RX4 yX4_putDown wsX4_putDown) := goodIn_app (goodIn_of _ (by decide +kernel)) ggX7_takeBackLatest_X4_putDown
set_option maxRecDepth 20000 in
theorem ggX7_takeBackLatest_X4_lift : GoodIn wsX7_takeBackLatest wsX4_lift := goodIn_r _ [42, 20, 21, 22, 23, 24, 43, 37, 44, 25, 26, 27, 18, 28, 29, 30, 31, 32, 33, 34, 35, 36, 38, 61, 62, 63, 64, 65, 66, 67, 68, 69, 70, 71, 72, 73, 74, 75, 76, 77, 78, 79, 80, 81, 82, 83, 84, 85, 86, 87, 88] (by decide +kernel) (by decide +kernel)
set_option maxRecDepth 20000 in
theorem gX7_takeBackLatest_X4_lift : GoodIn wsX7_takeBackLatest (wsV RX7 149 RX4 yX4_lift wsX4_lift) := goodIn_app (goodIn_of _ (by decide +kernel)) ggX7_takeBackLatest_X4_lift
theorem dX7_takeBackLatest_0 : decode cX7_takeBackLatest 0 = .ok (.aload_n 0, 1) := by decide +kernel
theorem dX7_takeBackLatest_1 : decode cX7_takeBackLatest 1 = .ok (.getfield 28, 3) := by decide +kernel
theorem dX7_takeBackLatest_4 : decode cX7_takeBackLatest 4 = .ok (.invokevirtual 246, 3) := by decide +kernel
theorem dX7_takeBackLatest_7 : decode cX7_takeBackLatest 7 = .ok (.istore_n 1, 1) := by decide +kernel
theorem dX7_takeBackLatest_8 : decode cX7_takeBackLatest 8 = .ok (.aload_n 0, 1) := by decide +kernel
theorem dX7_takeBackLatest_9 : decode cX7_takeBackLatest 9 = .ok (.getfield 28, 3) := by decide +kernel
theorem dX7_takeBackLatest_12 : decode cX7_takeBackLatest 12 = .ok (.getfield 249, 3) := by decide +kernel
theorem dX7_takeBackLatest_15 : decode cX7_takeBackLatest 15 = .ok (.iload_n 1, 1) := by decide +kernel
theorem dX7_takeBackLatest_16 : decode cX7_takeBackLatest 16 = .ok (.iaload, 1) := by decide +kernel
theorem dX7_takeBackLatest_17 : decode cX7_takeBackLatest 17 = .ok (.istore_n 2, 1) := by decide +kernel
theorem dX7_takeBackLatest_18 : decode cX7_takeBackLatest 18 = .ok (.aload_n 0, 1) := by decide +kernel
theorem dX7_takeBackLatest_19 : decode cX7_takeBackLatest 19 = .ok (.getfield 28, 3) := by decide +kernel
theorem dX7_takeBackLatest_22 : decode cX7_takeBackLatest 22 = .ok (.getfield 252, 3) := by decide +kernel
theorem dX7_takeBackLatest_25 : decode cX7_takeBackLatest 25 = .ok (.iload_n 1, 1) := by decide +kernel
theorem dX7_takeBackLatest_26 : decode cX7_takeBackLatest 26 = .ok (.iaload, 1) := by decide +kernel
theorem dX7_takeBackLatest_27 : decode cX7_takeBackLatest 27 = .ok (.iconst 3, 1) := by decide +kernel
theorem dX7_takeBackLatest_28 : decode cX7_takeBackLatest 28 = .ok (.if_icmp .ne 41, 3) := by decide +kernel
theorem dX7_takeBackLatest_31 : decode cX7_takeBackLatest 31 = .ok (.aload_n 0, 1) := by decide +kernel
theorem dX7_takeBackLatest_32 : decode cX7_takeBackLatest 32 = .ok (.getfield 21, 3) := by decide +kernel
theorem dX7_takeBackLatest_35 : decode cX7_takeBackLatest 35 = .ok (.aload_n 0, 1) := by decide +kernel
theorem dX7_takeBackLatest_36 : decode cX7_takeBackLatest 36 = .ok (.getfield 28, 3) := by decide +kernel
theorem dX7_takeBackLatest_39 : decode cX7_takeBackLatest 39 = .ok (.getfield 255, 3) := by decide +kernel
theorem dX7_takeBackLatest_42 : decode cX7_takeBackLatest 42 = .ok (.iload_n 1, 1) := by decide +kernel
theorem dX7_takeBackLatest_43 : decode cX7_takeBackLatest 43 = .ok (.iaload, 1) := by decide +kernel
theorem dX7_takeBackLatest_44 : decode cX7_takeBackLatest 44 = .ok (.iload_n 2, 1) := by decide +kernel
theorem dX7_takeBackLatest_45 : decode cX7_takeBackLatest 45 = .ok (.invokevirtual 243, 3) := by decide +kernel
theorem dX7_takeBackLatest_48 : decode cX7_takeBackLatest 48 = .ok (.aload_n 0, 1) := by decide +kernel
theorem dX7_takeBackLatest_49 : decode cX7_takeBackLatest 49 = .ok (.getfield 28, 3) := by decide +kernel
theorem dX7_takeBackLatest_52 : decode cX7_takeBackLatest 52 = .ok (.getfield 180, 3) := by decide +kernel
theorem dX7_takeBackLatest_55 : decode cX7_takeBackLatest 55 = .ok (.iload_n 2, 1) := by decide +kernel
theorem dX7_takeBackLatest_56 : decode cX7_takeBackLatest 56 = .ok (.aload_n 0, 1) := by decide +kernel
theorem dX7_takeBackLatest_57 : decode cX7_takeBackLatest 57 = .ok (.getfield 28, 3) := by decide +kernel
theorem dX7_takeBackLatest_60 : decode cX7_takeBackLatest 60 = .ok (.getfield 257, 3) := by decide +kernel
theorem dX7_takeBackLatest_63 : decode cX7_takeBackLatest 63 = .ok (.iload_n 1, 1) := by decide +kernel
theorem dX7_takeBackLatest_64 : decode cX7_takeBackLatest 64 = .ok (.iaload, 1) := by decide +kernel
theorem dX7_takeBackLatest_65 : decode cX7_takeBackLatest 65 = .ok (.iastore, 1) := by decide +kernel
theorem dX7_takeBackLatest_66 : decode cX7_takeBackLatest 66 = .ok (.goto 11, 3) := by decide +kernel
theorem dX7_takeBackLatest_69 : decode cX7_takeBackLatest 69 = .ok (.aload_n 0, 1) := by decide +kernel
theorem dX7_takeBackLatest_70 : decode cX7_takeBackLatest 70 = .ok (.getfield 21, 3) := by decide +kernel
theorem dX7_takeBackLatest_73 : decode cX7_takeBackLatest 73 = .ok (.iload_n 2, 1) := by decide +kernel
theorem dX7_takeBackLatest_74 : decode cX7_takeBackLatest 74 = .ok (.invokevirtual 149, 3) := by decide +kernel
theorem dX7_takeBackLatest_77 : decode cX7_takeBackLatest 77 = .ok (.return_, 1) := by decide +kernel
theorem dX7_drawOf_0 : decode cX7_drawOf 0 = .ok (.aload_n 0, 1) := by decide +kernel
theorem dX7_drawOf_1 : decode cX7_drawOf 1 = .ok (.aload_n 0, 1) := by decide +kernel
theorem dX7_drawOf_2 : decode cX7_drawOf 2 = .ok (.getfield 64, 3) := by decide +kernel
theorem dX7_drawOf_5 : decode cX7_drawOf 5 = .ok (.ldc2_w 260, 3) := by decide +kernel
theorem dX7_drawOf_8 : decode cX7_drawOf 8 = .ok (.lmul, 1) := by decide +kernel
theorem dX7_drawOf_9 : decode cX7_drawOf 9 = .ok (.ldc2_w 262, 3) := by decide +kernel
theorem dX7_drawOf_12 : decode cX7_drawOf 12 = .ok (.ladd, 1) := by decide +kernel
theorem dX7_drawOf_13 : decode cX7_drawOf 13 = .ok (.putfield 64, 3) := by decide +kernel
theorem dX7_drawOf_16 : decode cX7_drawOf 16 = .ok (.iload_n 1, 1) := by decide +kernel
theorem dX7_drawOf_17 : decode cX7_drawOf 17 = .ok (.ifCond .gt 7, 3) := by decide +kernel
theorem dX7_drawOf_20 : decode cX7_drawOf 20 = .ok (.iconst 0, 1) := by decide +kernel
theorem dX7_drawOf_21 : decode cX7_drawOf 21 = .ok (.goto 14, 3) := by decide +kernel
theorem dX7_drawOf_24 : decode cX7_drawOf 24 = .ok (.aload_n 0, 1) := by decide +kernel
theorem dX7_drawOf_25 : decode cX7_drawOf 25 = .ok (.getfield 64, 3) := by decide +kernel
theorem dX7_drawOf_28 : decode cX7_drawOf 28 = .ok (.bipush 33, 2) := by decide +kernel
theorem dX7_drawOf_30 : decode cX7_drawOf 30 = .ok (.lushr, 1) := by decide +kernel
theorem dX7_drawOf_31 : decode cX7_drawOf 31 = .ok (.iload_n 1, 1) := by decide +kernel
theorem dX7_drawOf_32 : decode cX7_drawOf 32 = .ok (.i2l, 1) := by decide +kernel
theorem dX7_drawOf_33 : decode cX7_drawOf 33 = .ok (.lrem, 1) := by decide +kernel
theorem dX7_drawOf_34 : decode cX7_drawOf 34 = .ok (.l2i, 1) := by decide +kernel
theorem dX7_drawOf_35 : decode cX7_drawOf 35 = .ok (.ireturn, 1) := by decide +kernel
theorem dX7_bitOf_0 : decode cX7_bitOf 0 = .ok (.iload_n 0, 1) := by decide +kernel
theorem dX7_bitOf_1 : decode cX7_bitOf 1 = .ok (.iload_n 1, 1) := by decide +kernel
theorem dX7_bitOf_2 : decode cX7_bitOf 2 = .ok (.iushr, 1) := by decide +kernel
theorem dX7_bitOf_3 : decode cX7_bitOf 3 = .ok (.iconst 1, 1) := by decide +kernel
theorem dX7_bitOf_4 : decode cX7_bitOf 4 = .ok (.iand, 1) := by decide +kernel
theorem dX7_bitOf_5 : decode cX7_bitOf 5 = .ok (.ireturn, 1) := by decide +kernel
theorem dX7_placeOf_0 : decode cX7_placeOf 0 = .ok (.iload_n 0, 1) := by decide +kernel
theorem dX7_placeOf_1 : decode cX7_placeOf 1 = .ok (.ifCond .lt 19, 3) := by decide +kernel
theorem dX7_placeOf_4 : decode cX7_placeOf 4 = .ok (.iload_n 0, 1) := by decide +kernel
theorem dX7_placeOf_5 : decode cX7_placeOf 5 = .ok (.bipush 16, 2) := by decide +kernel
theorem dX7_placeOf_7 : decode cX7_placeOf 7 = .ok (.if_icmp .ge 13, 3) := by decide +kernel
theorem dX7_placeOf_10 : decode cX7_placeOf 10 = .ok (.iload_n 1, 1) := by decide +kernel
theorem dX7_placeOf_11 : decode cX7_placeOf 11 = .ok (.ifCond .lt 9, 3) := by decide +kernel
theorem dX7_placeOf_14 : decode cX7_placeOf 14 = .ok (.iload_n 1, 1) := by decide +kernel
theorem dX7_placeOf_15 : decode cX7_placeOf 15 = .ok (.bipush 16, 2) := by decide +kernel
theorem dX7_placeOf_17 : decode cX7_placeOf 17 = .ok (.if_icmp .lt 7, 3) := by decide +kernel
theorem dX7_placeOf_20 : decode cX7_placeOf 20 = .ok (.iconst (-1), 1) := by decide +kernel
theorem dX7_placeOf_21 : decode cX7_placeOf 21 = .ok (.goto 13, 3) := by decide +kernel
theorem dX7_placeOf_24 : decode cX7_placeOf 24 = .ok (.iload_n 1, 1) := by decide +kernel
theorem dX7_placeOf_25 : decode cX7_placeOf 25 = .ok (.iconst 1, 1) := by decide +kernel
theorem dX7_placeOf_26 : decode cX7_placeOf 26 = .ok (.iadd, 1) := by decide +kernel
theorem dX7_placeOf_27 : decode cX7_placeOf 27 = .ok (.bipush 18, 2) := by decide +kernel
theorem dX7_placeOf_29 : decode cX7_placeOf 29 = .ok (.imul, 1) := by decide +kernel
theorem dX7_placeOf_30 : decode cX7_placeOf 30 = .ok (.iload_n 0, 1) := by decide +kernel
theorem dX7_placeOf_31 : decode cX7_placeOf 31 = .ok (.iadd, 1) := by decide +kernel
theorem dX7_placeOf_32 : decode cX7_placeOf 32 = .ok (.iconst 1, 1) := by decide +kernel
theorem dX7_placeOf_33 : decode cX7_placeOf 33 = .ok (.iadd, 1) := by decide +kernel
theorem dX7_placeOf_34 : decode cX7_placeOf 34 = .ok (.ireturn, 1) := by decide +kernel
theorem dX7_columnOf_0 : decode cX7_columnOf 0 = .ok (.iload_n 0, 1) := by decide +kernel
theorem dX7_columnOf_1 : decode cX7_columnOf 1 = .ok (.bipush 18, 2) := by decide +kernel
theorem dX7_columnOf_3 : decode cX7_columnOf 3 = .ok (.irem, 1) := by decide +kernel
theorem dX7_columnOf_4 : decode cX7_columnOf 4 = .ok (.iconst 1, 1) := by decide +kernel
theorem dX7_columnOf_5 : decode cX7_columnOf 5 = .ok (.isub, 1) := by decide +kernel
theorem dX7_columnOf_6 : decode cX7_columnOf 6 = .ok (.ireturn, 1) := by decide +kernel
theorem dX7_lineOf_0 : decode cX7_lineOf 0 = .ok (.iload_n 0, 1) := by decide +kernel
theorem dX7_lineOf_1 : decode cX7_lineOf 1 = .ok (.bipush 18, 2) := by decide +kernel
theorem dX7_lineOf_3 : decode cX7_lineOf 3 = .ok (.idiv, 1) := by decide +kernel
theorem dX7_lineOf_4 : decode cX7_lineOf 4 = .ok (.iconst 1, 1) := by decide +kernel
theorem dX7_lineOf_5 : decode cX7_lineOf 5 = .ok (.isub, 1) := by decide +kernel
theorem dX7_lineOf_6 : decode cX7_lineOf 6 = .ok (.ireturn, 1) := by decide +kernel
theorem dX7_isOnSheet_0 : decode cX7_isOnSheet 0 = .ok (.iload_n 0, 1) := by decide +kernel
theorem dX7_isOnSheet_1 : decode cX7_isOnSheet 1 = .ok (.bipush 18, 2) := by decide +kernel
theorem dX7_isOnSheet_3 : decode cX7_isOnSheet 3 = .ok (.irem, 1) := by decide +kernel
theorem dX7_isOnSheet_4 : decode cX7_isOnSheet 4 = .ok (.istore_n 1, 1) := by decide +kernel
theorem dX7_isOnSheet_5 : decode cX7_isOnSheet 5 = .ok (.iload_n 0, 1) := by decide +kernel
theorem dX7_isOnSheet_6 : decode cX7_isOnSheet 6 = .ok (.bipush 18, 2) := by decide +kernel
theorem dX7_isOnSheet_8 : decode cX7_isOnSheet 8 = .ok (.if_icmp .lt 25, 3) := by decide +kernel
theorem dX7_isOnSheet_11 : decode cX7_isOnSheet 11 = .ok (.iload_n 0, 1) := by decide +kernel
theorem dX7_isOnSheet_12 : decode cX7_isOnSheet 12 = .ok (.sipush 306, 3) := by decide +kernel
theorem dX7_isOnSheet_15 : decode cX7_isOnSheet 15 = .ok (.if_icmp .ge 18, 3) := by decide +kernel
theorem dX7_isOnSheet_18 : decode cX7_isOnSheet 18 = .ok (.iload_n 1, 1) := by decide +kernel
theorem dX7_isOnSheet_19 : decode cX7_isOnSheet 19 = .ok (.iconst 1, 1) := by decide +kernel
theorem dX7_isOnSheet_20 : decode cX7_isOnSheet 20 = .ok (.if_icmp .lt 13, 3) := by decide +kernel
theorem dX7_isOnSheet_23 : decode cX7_isOnSheet 23 = .ok (.iload_n 1, 1) := by decide +kernel
theorem dX7_isOnSheet_24 : decode cX7_isOnSheet 24 = .ok (.bipush 16, 2) := by decide +kernel
theorem dX7_isOnSheet_26 : decode cX7_isOnSheet 26 = .ok (.if_icmp .gt 7, 3) := by decide +kernel
theorem dX7_isOnSheet_29 : decode cX7_isOnSheet 29 = .ok (.iconst 1, 1) := by decide +kernel
theorem dX7_isOnSheet_30 : decode cX7_isOnSheet 30 = .ok (.goto 4, 3) := by decide +kernel
theorem dX7_isOnSheet_33 : decode cX7_isOnSheet 33 = .ok (.iconst 0, 1) := by decide +kernel
theorem dX7_isOnSheet_34 : decode cX7_isOnSheet 34 = .ok (.ireturn, 1) := by decide +kernel
