set_option maxRecDepth 20000 in
theorem ggX0_init_X1_init : GoodIn wsX0_init wsX1_init := goodIn_r _ [13, 14, 2, 3, 15, 16, 8, 17, 18, 19, 20, 21, 22, 23, 24, 25, 26, 27, 28, 29, 30, 31, 32, 33, 34, 35, 36, 37, 38, 39, 40, 41] (by decide +kernel) (by decide +kernel)
set_option maxRecDepth 20000 in
theorem gX0_init_X1_init : GoodIn wsX0_init (wsX1_init) := ggX0_init_X1_init
theorem dX0_init_0 : decode cX0_init 0 = .ok (.aload_n 0, 1) := by decide +kernel
theorem dX0_init_1 : decode cX0_init 1 = .ok (.invokespecial 3, 3) := by decide +kernel
theorem dX0_init_4 : decode cX0_init 4 = .ok (.aload_n 0, 1) := by decide +kernel
theorem dX0_init_5 : decode cX0_init 5 = .ok (.new 9, 3) := by decide +kernel
theorem dX0_init_8 : decode cX0_init 8 = .ok (.dup, 1) := by decide +kernel
theorem dX0_init_9 : decode cX0_init 9 = .ok (.invokespecial 11, 3) := by decide +kernel
theorem dX0_init_12 : decode cX0_init 12 = .ok (.putfield 12, 3) := by decide +kernel
theorem dX0_init_15 : decode cX0_init 15 = .ok (.aload_n 0, 1) := by decide +kernel
theorem dX0_init_16 : decode cX0_init 16 = .ok (.sipush 324, 3) := by decide +kernel
theorem dX0_init_19 : decode cX0_init 19 = .ok (.newarray .int, 2) := by decide +kernel
theorem dX0_init_21 : decode cX0_init 21 = .ok (.putfield 18, 3) := by decide +kernel
theorem dX0_init_24 : decode cX0_init 24 = .ok (.aload_n 0, 1) := by decide +kernel
theorem dX0_init_25 : decode cX0_init 25 = .ok (.lconst 0, 1) := by decide +kernel
theorem dX0_init_26 : decode cX0_init 26 = .ok (.putfield 22, 3) := by decide +kernel
theorem dX0_init_29 : decode cX0_init 29 = .ok (.return_, 1) := by decide +kernel
set_option maxRecDepth 20000 in
theorem ggX0_take_X1_copyFrom : GoodIn wsX0_take wsX1_copyFrom := goodIn_r _ [13, 14, 15, 16, 17, 5, 6, 7, 18, 19, 20, 21, 22, 23, 24, 25, 26, 27, 46, 47, 48, 49, 50, 51, 52, 53, 54, 55, 56, 57, 58] (by decide +kernel) (by decide +kernel)
set_option maxRecDepth 20000 in
theorem gX0_take_X1_copyFrom : GoodIn wsX0_take (wsV RX0 26 RX1 yX1_copyFrom wsX1_copyFrom) := goodIn_app (goodIn_of _ (by decide +kernel)) ggX0_take_X1_copyFrom
theorem dX0_take_0 : decode cX0_take 0 = .ok (.aload_n 0, 1) := by decide +kernel
theorem dX0_take_1 : decode cX0_take 1 = .ok (.getfield 12, 3) := by decide +kernel
theorem dX0_take_4 : decode cX0_take 4 = .ok (.aload_n 1, 1) := by decide +kernel
theorem dX0_take_5 : decode cX0_take 5 = .ok (.invokevirtual 26, 3) := by decide +kernel
theorem dX0_take_8 : decode cX0_take 8 = .ok (.aload_n 2, 1) := by decide +kernel
theorem dX0_take_9 : decode cX0_take 9 = .ok (.getfield 30, 3) := by decide +kernel
theorem dX0_take_12 : decode cX0_take 12 = .ok (.iconst 0, 1) := by decide +kernel
theorem dX0_take_13 : decode cX0_take 13 = .ok (.aload_n 0, 1) := by decide +kernel
theorem dX0_take_14 : decode cX0_take 14 = .ok (.getfield 18, 3) := by decide +kernel
theorem dX0_take_17 : decode cX0_take 17 = .ok (.iconst 0, 1) := by decide +kernel
theorem dX0_take_18 : decode cX0_take 18 = .ok (.sipush 324, 3) := by decide +kernel
theorem dX0_take_21 : decode cX0_take 21 = .ok (.invokestatic 33, 3) := by decide +kernel
theorem dX0_take_24 : decode cX0_take 24 = .ok (.aload_n 0, 1) := by decide +kernel
theorem dX0_take_25 : decode cX0_take 25 = .ok (.lload_n 3, 1) := by decide +kernel
theorem dX0_take_26 : decode cX0_take 26 = .ok (.putfield 22, 3) := by decide +kernel
theorem dX0_take_29 : decode cX0_take 29 = .ok (.return_, 1) := by decide +kernel
theorem dX1_init_0 : decode cX1_init 0 = .ok (.aload_n 0, 1) := by decide +kernel
theorem dX1_init_1 : decode cX1_init 1 = .ok (.invokespecial 3, 3) := by decide +kernel
theorem dX1_init_4 : decode cX1_init 4 = .ok (.aload_n 0, 1) := by decide +kernel
theorem dX1_init_5 : decode cX1_init 5 = .ok (.iconst 2, 1) := by decide +kernel
theorem dX1_init_6 : decode cX1_init 6 = .ok (.putfield 9, 3) := by decide +kernel
theorem dX1_init_9 : decode cX1_init 9 = .ok (.aload_n 0, 1) := by decide +kernel
theorem dX1_init_10 : decode cX1_init 10 = .ok (.iconst 0, 1) := by decide +kernel
theorem dX1_init_11 : decode cX1_init 11 = .ok (.putfield 15, 3) := by decide +kernel
theorem dX1_init_14 : decode cX1_init 14 = .ok (.aload_n 0, 1) := by decide +kernel
theorem dX1_init_15 : decode cX1_init 15 = .ok (.bipush 51, 2) := by decide +kernel
theorem dX1_init_17 : decode cX1_init 17 = .ok (.newarray .int, 2) := by decide +kernel
theorem dX1_init_19 : decode cX1_init 19 = .ok (.putfield 18, 3) := by decide +kernel
theorem dX1_init_22 : decode cX1_init 22 = .ok (.aload_n 0, 1) := by decide +kernel
theorem dX1_init_23 : decode cX1_init 23 = .ok (.bipush 40, 2) := by decide +kernel
theorem dX1_init_25 : decode cX1_init 25 = .ok (.newarray .int, 2) := by decide +kernel
theorem dX1_init_27 : decode cX1_init 27 = .ok (.putfield 22, 3) := by decide +kernel
theorem dX1_init_30 : decode cX1_init 30 = .ok (.aload_n 0, 1) := by decide +kernel
theorem dX1_init_31 : decode cX1_init 31 = .ok (.bipush 40, 2) := by decide +kernel
theorem dX1_init_33 : decode cX1_init 33 = .ok (.newarray .int, 2) := by decide +kernel
theorem dX1_init_35 : decode cX1_init 35 = .ok (.putfield 25, 3) := by decide +kernel
theorem dX1_init_38 : decode cX1_init 38 = .ok (.aload_n 0, 1) := by decide +kernel
theorem dX1_init_39 : decode cX1_init 39 = .ok (.sipush 512, 3) := by decide +kernel
theorem dX1_init_42 : decode cX1_init 42 = .ok (.newarray .int, 2) := by decide +kernel
theorem dX1_init_44 : decode cX1_init 44 = .ok (.putfield 28, 3) := by decide +kernel
theorem dX1_init_47 : decode cX1_init 47 = .ok (.aload_n 0, 1) := by decide +kernel
theorem dX1_init_48 : decode cX1_init 48 = .ok (.sipush 128, 3) := by decide +kernel
theorem dX1_init_51 : decode cX1_init 51 = .ok (.newarray .int, 2) := by decide +kernel
theorem dX1_init_53 : decode cX1_init 53 = .ok (.putfield 31, 3) := by decide +kernel
theorem dX1_init_56 : decode cX1_init 56 = .ok (.aload_n 0, 1) := by decide +kernel
theorem dX1_init_57 : decode cX1_init 57 = .ok (.sipush 204, 3) := by decide +kernel
theorem dX1_init_60 : decode cX1_init 60 = .ok (.newarray .long, 2) := by decide +kernel
theorem dX1_init_62 : decode cX1_init 62 = .ok (.putfield 34, 3) := by decide +kernel
theorem dX1_init_65 : decode cX1_init 65 = .ok (.aload_n 0, 1) := by decide +kernel
theorem dX1_init_66 : decode cX1_init 66 = .ok (.sipush 204, 3) := by decide +kernel
theorem dX1_init_69 : decode cX1_init 69 = .ok (.newarray .long, 2) := by decide +kernel
theorem dX1_init_71 : decode cX1_init 71 = .ok (.putfield 38, 3) := by decide +kernel
theorem dX1_init_74 : decode cX1_init 74 = .ok (.aload_n 0, 1) := by decide +kernel
theorem dX1_init_75 : decode cX1_init 75 = .ok (.iconst 4, 1) := by decide +kernel
theorem dX1_init_76 : decode cX1_init 76 = .ok (.newarray .long, 2) := by decide +kernel
theorem dX1_init_78 : decode cX1_init 78 = .ok (.putfield 41, 3) := by decide +kernel
theorem dX1_init_81 : decode cX1_init 81 = .ok (.aload_n 0, 1) := by decide +kernel
theorem dX1_init_82 : decode cX1_init 82 = .ok (.lconst 0, 1) := by decide +kernel
theorem dX1_init_83 : decode cX1_init 83 = .ok (.putfield 44, 3) := by decide +kernel
theorem dX1_init_86 : decode cX1_init 86 = .ok (.aload_n 0, 1) := by decide +kernel
theorem dX1_init_87 : decode cX1_init 87 = .ok (.lconst 0, 1) := by decide +kernel
theorem dX1_init_88 : decode cX1_init 88 = .ok (.putfield 48, 3) := by decide +kernel
theorem dX1_init_91 : decode cX1_init 91 = .ok (.aload_n 0, 1) := by decide +kernel
theorem dX1_init_92 : decode cX1_init 92 = .ok (.lconst 0, 1) := by decide +kernel
theorem dX1_init_93 : decode cX1_init 93 = .ok (.putfield 51, 3) := by decide +kernel
theorem dX1_init_96 : decode cX1_init 96 = .ok (.return_, 1) := by decide +kernel
theorem dX1_has_0 : decode cX1_has 0 = .ok (.iload_n 1, 1) := by decide +kernel
theorem dX1_has_1 : decode cX1_has 1 = .ok (.ifCond .lt 15, 3) := by decide +kernel
theorem dX1_has_4 : decode cX1_has 4 = .ok (.iload_n 1, 1) := by decide +kernel
theorem dX1_has_5 : decode cX1_has 5 = .ok (.aload_n 0, 1) := by decide +kernel
theorem dX1_has_6 : decode cX1_has 6 = .ok (.getfield 15, 3) := by decide +kernel
theorem dX1_has_9 : decode cX1_has 9 = .ok (.if_icmp .ge 7, 3) := by decide +kernel
theorem dX1_has_12 : decode cX1_has 12 = .ok (.iconst 1, 1) := by decide +kernel
theorem dX1_has_13 : decode cX1_has 13 = .ok (.goto 4, 3) := by decide +kernel
theorem dX1_has_16 : decode cX1_has 16 = .ok (.iconst 0, 1) := by decide +kernel
theorem dX1_has_17 : decode cX1_has 17 = .ok (.ireturn, 1) := by decide +kernel
set_option maxRecDepth 20000 in
theorem ggX1_isOfKind_X1_has : GoodIn wsX1_isOfKind wsX1_has := goodIn_r _ [6, 7, 8, 9, 10, 11, 12, 13, 14, 15, 16, 17, 18, 19, 20] (by decide +kernel) (by decide +kernel)
set_option maxRecDepth 20000 in
theorem gX1_isOfKind_X1_has : GoodIn wsX1_isOfKind (wsV RX1 54 RX1 yX1_has wsX1_has) := goodIn_app (goodIn_of _ (by decide +kernel)) ggX1_isOfKind_X1_has
theorem dX1_isOfKind_0 : decode cX1_isOfKind 0 = .ok (.aload_n 0, 1) := by decide +kernel
theorem dX1_isOfKind_1 : decode cX1_isOfKind 1 = .ok (.iload_n 1, 1) := by decide +kernel
theorem dX1_isOfKind_2 : decode cX1_isOfKind 2 = .ok (.invokevirtual 54, 3) := by decide +kernel
theorem dX1_isOfKind_5 : decode cX1_isOfKind 5 = .ok (.ifCond .eq 17, 3) := by decide +kernel
theorem dX1_isOfKind_8 : decode cX1_isOfKind 8 = .ok (.aload_n 0, 1) := by decide +kernel
theorem dX1_isOfKind_9 : decode cX1_isOfKind 9 = .ok (.getfield 22, 3) := by decide +kernel
theorem dX1_isOfKind_12 : decode cX1_isOfKind 12 = .ok (.iload_n 1, 1) := by decide +kernel
theorem dX1_isOfKind_13 : decode cX1_isOfKind 13 = .ok (.iaload, 1) := by decide +kernel
theorem dX1_isOfKind_14 : decode cX1_isOfKind 14 = .ok (.iload_n 2, 1) := by decide +kernel
theorem dX1_isOfKind_15 : decode cX1_isOfKind 15 = .ok (.if_icmp .ne 7, 3) := by decide +kernel
theorem dX1_isOfKind_18 : decode cX1_isOfKind 18 = .ok (.iconst 1, 1) := by decide +kernel
theorem dX1_isOfKind_19 : decode cX1_isOfKind 19 = .ok (.goto 4, 3) := by decide +kernel
theorem dX1_isOfKind_22 : decode cX1_isOfKind 22 = .ok (.iconst 0, 1) := by decide +kernel
theorem dX1_isOfKind_23 : decode cX1_isOfKind 23 = .ok (.ireturn, 1) := by decide +kernel
set_option maxRecDepth 20000 in
theorem ggX1_addPiece_X1_isMoreOf : GoodIn wsX1_addPiece wsX1_isMoreOf := goodIn_r _ [9, 10, 11, 8, 12] (by decide +kernel) (by decide +kernel)
set_option maxRecDepth 20000 in
theorem gX1_addPiece_X1_isMoreOf : GoodIn wsX1_addPiece (va_wsS RX1 58 yX1_isMoreOf wsX1_isMoreOf) := goodIn_app (goodIn_of _ (by decide +kernel)) ggX1_addPiece_X1_isMoreOf
set_option maxRecDepth 20000 in
theorem ggX1_addPiece_X1_isFace : GoodIn wsX1_addPiece wsX1_isFace := goodIn_r _ [12] (by decide +kernel) (by decide +kernel)
set_option maxRecDepth 20000 in
theorem gX1_addPiece_X1_isFace : GoodIn wsX1_addPiece (va_wsS RX1 62 yX1_isFace wsX1_isFace) := goodIn_app (goodIn_of _ (by decide +kernel)) ggX1_addPiece_X1_isFace
set_option maxRecDepth 20000 in
theorem ggX1_addPiece_X1_enrol : GoodIn wsX1_addPiece wsX1_enrol := goodIn_r _ [16, 17, 18, 19, 34, 35, 36, 37, 38, 39, 40, 41, 42, 43, 44, 45, 46] (by decide +kernel) (by decide +kernel)
set_option maxRecDepth 20000 in
theorem gX1_addPiece_X1_enrol : GoodIn wsX1_addPiece (wsV RX1 65 RX1 yX1_enrol wsX1_enrol) := goodIn_app (goodIn_of _ (by decide +kernel)) ggX1_addPiece_X1_enrol
set_option maxRecDepth 20000 in
theorem ggX1_addPiece_X1_barSides : GoodIn wsX1_addPiece wsX1_barSides := goodIn_r _ [23, 24, 25, 26, 27, 28, 34, 35, 36, 37, 38, 39, 40, 41, 42, 43, 44, 45, 46] (by decide +kernel) (by decide +kernel)
set_option maxRecDepth 20000 in
theorem gX1_addPiece_X1_barSides : GoodIn wsX1_addPiece (wsV RX1 69 RX1 yX1_barSides wsX1_barSides) := goodIn_app (goodIn_of _ (by decide +kernel)) ggX1_addPiece_X1_barSides
set_option maxRecDepth 20000 in
theorem ggX1_addPiece_X1_show : GoodIn wsX1_addPiece wsX1_show := goodIn_r _ [32, 33, 34, 35, 36, 37, 38, 39, 40, 41, 42, 43, 44, 45, 46] (by decide +kernel) (by decide +kernel)
set_option maxRecDepth 20000 in
theorem gX1_addPiece_X1_show : GoodIn wsX1_addPiece (wsV RX1 72 RX1 yX1_show wsX1_show) := goodIn_app (goodIn_of _ (by decide +kernel)) ggX1_addPiece_X1_show
theorem dX1_addPiece_0 : decode cX1_addPiece 0 = .ok (.aload_n 0, 1) := by decide +kernel
theorem dX1_addPiece_1 : decode cX1_addPiece 1 = .ok (.getfield 15, 3) := by decide +kernel
theorem dX1_addPiece_4 : decode cX1_addPiece 4 = .ok (.bipush 40, 2) := by decide +kernel
theorem dX1_addPiece_6 : decode cX1_addPiece 6 = .ok (.if_icmp .ge 42, 3) := by decide +kernel
theorem dX1_addPiece_9 : decode cX1_addPiece 9 = .ok (.iload_n 1, 1) := by decide +kernel
theorem dX1_addPiece_10 : decode cX1_addPiece 10 = .ok (.iload 6, 2) := by decide +kernel
theorem dX1_addPiece_12 : decode cX1_addPiece 12 = .ok (.invokestatic 58, 3) := by decide +kernel
theorem dX1_addPiece_15 : decode cX1_addPiece 15 = .ok (.ifCond .eq 33, 3) := by decide +kernel
theorem dX1_addPiece_18 : decode cX1_addPiece 18 = .ok (.iload_n 2, 1) := by decide +kernel
theorem dX1_addPiece_19 : decode cX1_addPiece 19 = .ok (.invokestatic 62, 3) := by decide +kernel
theorem dX1_addPiece_22 : decode cX1_addPiece 22 = .ok (.ifCond .eq 26, 3) := by decide +kernel
theorem dX1_addPiece_25 : decode cX1_addPiece 25 = .ok (.iload_n 3, 1) := by decide +kernel
theorem dX1_addPiece_26 : decode cX1_addPiece 26 = .ok (.invokestatic 62, 3) := by decide +kernel
theorem dX1_addPiece_29 : decode cX1_addPiece 29 = .ok (.ifCond .eq 19, 3) := by decide +kernel
theorem dX1_addPiece_32 : decode cX1_addPiece 32 = .ok (.iload 4, 2) := by decide +kernel
theorem dX1_addPiece_34 : decode cX1_addPiece 34 = .ok (.invokestatic 62, 3) := by decide +kernel
theorem dX1_addPiece_37 : decode cX1_addPiece 37 = .ok (.ifCond .eq 11, 3) := by decide +kernel
theorem dX1_addPiece_40 : decode cX1_addPiece 40 = .ok (.iload 5, 2) := by decide +kernel
theorem dX1_addPiece_42 : decode cX1_addPiece 42 = .ok (.invokestatic 62, 3) := by decide +kernel
theorem dX1_addPiece_45 : decode cX1_addPiece 45 = .ok (.ifCond .ne 5, 3) := by decide +kernel
theorem dX1_addPiece_48 : decode cX1_addPiece 48 = .ok (.iconst (-1), 1) := by decide +kernel
theorem dX1_addPiece_49 : decode cX1_addPiece 49 = .ok (.ireturn, 1) := by decide +kernel
theorem dX1_addPiece_50 : decode cX1_addPiece 50 = .ok (.aload_n 0, 1) := by decide +kernel
theorem dX1_addPiece_51 : decode cX1_addPiece 51 = .ok (.getfield 15, 3) := by decide +kernel
theorem dX1_addPiece_54 : decode cX1_addPiece 54 = .ok (.istore 7, 2) := by decide +kernel
theorem dX1_addPiece_56 : decode cX1_addPiece 56 = .ok (.aload_n 0, 1) := by decide +kernel
theorem dX1_addPiece_57 : decode cX1_addPiece 57 = .ok (.dup, 1) := by decide +kernel
theorem dX1_addPiece_58 : decode cX1_addPiece 58 = .ok (.getfield 15, 3) := by decide +kernel
theorem dX1_addPiece_61 : decode cX1_addPiece 61 = .ok (.iconst 1, 1) := by decide +kernel
theorem dX1_addPiece_62 : decode cX1_addPiece 62 = .ok (.iadd, 1) := by decide +kernel
theorem dX1_addPiece_63 : decode cX1_addPiece 63 = .ok (.putfield 15, 3) := by decide +kernel
theorem dX1_addPiece_66 : decode cX1_addPiece 66 = .ok (.aload_n 0, 1) := by decide +kernel
theorem dX1_addPiece_67 : decode cX1_addPiece 67 = .ok (.getfield 22, 3) := by decide +kernel
theorem dX1_addPiece_70 : decode cX1_addPiece 70 = .ok (.iload 7, 2) := by decide +kernel
theorem dX1_addPiece_72 : decode cX1_addPiece 72 = .ok (.iload_n 1, 1) := by decide +kernel
theorem dX1_addPiece_73 : decode cX1_addPiece 73 = .ok (.iastore, 1) := by decide +kernel
theorem dX1_addPiece_74 : decode cX1_addPiece 74 = .ok (.aload_n 0, 1) := by decide +kernel
theorem dX1_addPiece_75 : decode cX1_addPiece 75 = .ok (.getfield 25, 3) := by decide +kernel
theorem dX1_addPiece_78 : decode cX1_addPiece 78 = .ok (.iload 7, 2) := by decide +kernel
theorem dX1_addPiece_80 : decode cX1_addPiece 80 = .ok (.iload_n 1, 1) := by decide +kernel
theorem dX1_addPiece_81 : decode cX1_addPiece 81 = .ok (.iconst 5, 1) := by decide +kernel
theorem dX1_addPiece_82 : decode cX1_addPiece 82 = .ok (.if_icmp .ne 11, 3) := by decide +kernel
theorem dX1_addPiece_85 : decode cX1_addPiece 85 = .ok (.iload 6, 2) := by decide +kernel
theorem dX1_addPiece_87 : decode cX1_addPiece 87 = .ok (.bipush 16, 2) := by decide +kernel
theorem dX1_addPiece_89 : decode cX1_addPiece 89 = .ok (.idiv, 1) := by decide +kernel
theorem dX1_addPiece_90 : decode cX1_addPiece 90 = .ok (.goto 4, 3) := by decide +kernel
theorem dX1_addPiece_93 : decode cX1_addPiece 93 = .ok (.iconst 0, 1) := by decide +kernel
theorem dX1_addPiece_94 : decode cX1_addPiece 94 = .ok (.iastore, 1) := by decide +kernel
theorem dX1_addPiece_95 : decode cX1_addPiece 95 = .ok (.aload_n 0, 1) := by decide +kernel
theorem dX1_addPiece_96 : decode cX1_addPiece 96 = .ok (.iload 7, 2) := by decide +kernel
theorem dX1_addPiece_98 : decode cX1_addPiece 98 = .ok (.iload_n 1, 1) := by decide +kernel
theorem dX1_addPiece_99 : decode cX1_addPiece 99 = .ok (.invokevirtual 65, 3) := by decide +kernel
theorem dX1_addPiece_102 : decode cX1_addPiece 102 = .ok (.aload_n 0, 1) := by decide +kernel
theorem dX1_addPiece_103 : decode cX1_addPiece 103 = .ok (.iload 7, 2) := by decide +kernel
theorem dX1_addPiece_105 : decode cX1_addPiece 105 = .ok (.iload_n 1, 1) := by decide +kernel
theorem dX1_addPiece_106 : decode cX1_addPiece 106 = .ok (.iconst 4, 1) := by decide +kernel
theorem dX1_addPiece_107 : decode cX1_addPiece 107 = .ok (.if_icmp .eq 8, 3) := by decide +kernel
theorem dX1_addPiece_110 : decode cX1_addPiece 110 = .ok (.iload_n 1, 1) := by decide +kernel
theorem dX1_addPiece_111 : decode cX1_addPiece 111 = .ok (.iconst 5, 1) := by decide +kernel
theorem dX1_addPiece_112 : decode cX1_addPiece 112 = .ok (.if_icmp .ne 11, 3) := by decide +kernel
theorem dX1_addPiece_115 : decode cX1_addPiece 115 = .ok (.iload 6, 2) := by decide +kernel
theorem dX1_addPiece_117 : decode cX1_addPiece 117 = .ok (.bipush 16, 2) := by decide +kernel
theorem dX1_addPiece_119 : decode cX1_addPiece 119 = .ok (.irem, 1) := by decide +kernel
theorem dX1_addPiece_120 : decode cX1_addPiece 120 = .ok (.goto 4, 3) := by decide +kernel
theorem dX1_addPiece_123 : decode cX1_addPiece 123 = .ok (.iconst 0, 1) := by decide +kernel
theorem dX1_addPiece_124 : decode cX1_addPiece 124 = .ok (.invokevirtual 69, 3) := by decide +kernel
theorem dX1_addPiece_127 : decode cX1_addPiece 127 = .ok (.iload_n 1, 1) := by decide +kernel
theorem dX1_addPiece_128 : decode cX1_addPiece 128 = .ok (.iconst 2, 1) := by decide +kernel
theorem dX1_addPiece_129 : decode cX1_addPiece 129 = .ok (.if_icmp .ne 7, 3) := by decide +kernel
theorem dX1_addPiece_132 : decode cX1_addPiece 132 = .ok (.iconst 1, 1) := by decide +kernel
theorem dX1_addPiece_133 : decode cX1_addPiece 133 = .ok (.goto 4, 3) := by decide +kernel
theorem dX1_addPiece_136 : decode cX1_addPiece 136 = .ok (.iconst 0, 1) := by decide +kernel
theorem dX1_addPiece_137 : decode cX1_addPiece 137 = .ok (.istore 8, 2) := by decide +kernel
theorem dX1_addPiece_139 : decode cX1_addPiece 139 = .ok (.aload_n 0, 1) := by decide +kernel
theorem dX1_addPiece_140 : decode cX1_addPiece 140 = .ok (.aload_n 0, 1) := by decide +kernel
theorem dX1_addPiece_141 : decode cX1_addPiece 141 = .ok (.getfield 34, 3) := by decide +kernel
theorem dX1_addPiece_144 : decode cX1_addPiece 144 = .ok (.iload 7, 2) := by decide +kernel
theorem dX1_addPiece_146 : decode cX1_addPiece 146 = .ok (.iconst 1, 1) := by decide +kernel
theorem dX1_addPiece_147 : decode cX1_addPiece 147 = .ok (.iload 7, 2) := by decide +kernel
theorem dX1_addPiece_149 : decode cX1_addPiece 149 = .ok (.iadd, 1) := by decide +kernel
theorem dX1_addPiece_150 : decode cX1_addPiece 150 = .ok (.iconst 0, 1) := by decide +kernel
theorem dX1_addPiece_151 : decode cX1_addPiece 151 = .ok (.iload_n 2, 1) := by decide +kernel
theorem dX1_addPiece_152 : decode cX1_addPiece 152 = .ok (.invokevirtual 72, 3) := by decide +kernel
theorem dX1_addPiece_155 : decode cX1_addPiece 155 = .ok (.aload_n 0, 1) := by decide +kernel
theorem dX1_addPiece_156 : decode cX1_addPiece 156 = .ok (.aload_n 0, 1) := by decide +kernel
theorem dX1_addPiece_157 : decode cX1_addPiece 157 = .ok (.getfield 34, 3) := by decide +kernel
theorem dX1_addPiece_160 : decode cX1_addPiece 160 = .ok (.iload 7, 2) := by decide +kernel
theorem dX1_addPiece_162 : decode cX1_addPiece 162 = .ok (.iconst 1, 1) := by decide +kernel
theorem dX1_addPiece_163 : decode cX1_addPiece 163 = .ok (.iload 7, 2) := by decide +kernel
theorem dX1_addPiece_165 : decode cX1_addPiece 165 = .ok (.iadd, 1) := by decide +kernel
theorem dX1_addPiece_166 : decode cX1_addPiece 166 = .ok (.iconst 1, 1) := by decide +kernel
theorem dX1_addPiece_167 : decode cX1_addPiece 167 = .ok (.iload 8, 2) := by decide +kernel
theorem dX1_addPiece_169 : decode cX1_addPiece 169 = .ok (.ifCond .eq 7, 3) := by decide +kernel
theorem dX1_addPiece_172 : decode cX1_addPiece 172 = .ok (.iconst 0, 1) := by decide +kernel
theorem dX1_addPiece_173 : decode cX1_addPiece 173 = .ok (.goto 4, 3) := by decide +kernel
theorem dX1_addPiece_176 : decode cX1_addPiece 176 = .ok (.iload_n 3, 1) := by decide +kernel
theorem dX1_addPiece_177 : decode cX1_addPiece 177 = .ok (.invokevirtual 72, 3) := by decide +kernel
theorem dX1_addPiece_180 : decode cX1_addPiece 180 = .ok (.aload_n 0, 1) := by decide +kernel
theorem dX1_addPiece_181 : decode cX1_addPiece 181 = .ok (.aload_n 0, 1) := by decide +kernel
theorem dX1_addPiece_182 : decode cX1_addPiece 182 = .ok (.getfield 34, 3) := by decide +kernel
theorem dX1_addPiece_185 : decode cX1_addPiece 185 = .ok (.iload 7, 2) := by decide +kernel
theorem dX1_addPiece_187 : decode cX1_addPiece 187 = .ok (.iconst 1, 1) := by decide +kernel
theorem dX1_addPiece_188 : decode cX1_addPiece 188 = .ok (.iload 7, 2) := by decide +kernel
theorem dX1_addPiece_190 : decode cX1_addPiece 190 = .ok (.iadd, 1) := by decide +kernel
theorem dX1_addPiece_191 : decode cX1_addPiece 191 = .ok (.iconst 2, 1) := by decide +kernel
theorem dX1_addPiece_192 : decode cX1_addPiece 192 = .ok (.iload 4, 2) := by decide +kernel
theorem dX1_addPiece_194 : decode cX1_addPiece 194 = .ok (.invokevirtual 72, 3) := by decide +kernel
theorem dX1_addPiece_197 : decode cX1_addPiece 197 = .ok (.aload_n 0, 1) := by decide +kernel
theorem dX1_addPiece_198 : decode cX1_addPiece 198 = .ok (.aload_n 0, 1) := by decide +kernel
theorem dX1_addPiece_199 : decode cX1_addPiece 199 = .ok (.getfield 34, 3) := by decide +kernel
theorem dX1_addPiece_202 : decode cX1_addPiece 202 = .ok (.iload 7, 2) := by decide +kernel
theorem dX1_addPiece_204 : decode cX1_addPiece 204 = .ok (.iconst 1, 1) := by decide +kernel
theorem dX1_addPiece_205 : decode cX1_addPiece 205 = .ok (.iload 7, 2) := by decide +kernel
theorem dX1_addPiece_207 : decode cX1_addPiece 207 = .ok (.iadd, 1) := by decide +kernel
theorem dX1_addPiece_208 : decode cX1_addPiece 208 = .ok (.iconst 3, 1) := by decide +kernel
theorem dX1_addPiece_209 : decode cX1_addPiece 209 = .ok (.iload 5, 2) := by decide +kernel
theorem dX1_addPiece_211 : decode cX1_addPiece 211 = .ok (.invokevirtual 72, 3) := by decide +kernel
theorem dX1_addPiece_214 : decode cX1_addPiece 214 = .ok (.aload_n 0, 1) := by decide +kernel
theorem dX1_addPiece_215 : decode cX1_addPiece 215 = .ok (.aload_n 0, 1) := by decide +kernel
theorem dX1_addPiece_216 : decode cX1_addPiece 216 = .ok (.getfield 38, 3) := by decide +kernel
theorem dX1_addPiece_219 : decode cX1_addPiece 219 = .ok (.iload 7, 2) := by decide +kernel
theorem dX1_addPiece_221 : decode cX1_addPiece 221 = .ok (.iconst 1, 1) := by decide +kernel
theorem dX1_addPiece_222 : decode cX1_addPiece 222 = .ok (.iload 7, 2) := by decide +kernel
theorem dX1_addPiece_224 : decode cX1_addPiece 224 = .ok (.iadd, 1) := by decide +kernel
theorem dX1_addPiece_225 : decode cX1_addPiece 225 = .ok (.bipush 64, 2) := by decide +kernel
theorem dX1_addPiece_227 : decode cX1_addPiece 227 = .ok (.iadd, 1) := by decide +kernel
theorem dX1_addPiece_228 : decode cX1_addPiece 228 = .ok (.iconst 0, 1) := by decide +kernel
theorem dX1_addPiece_229 : decode cX1_addPiece 229 = .ok (.iload 8, 2) := by decide +kernel
theorem dX1_addPiece_231 : decode cX1_addPiece 231 = .ok (.ifCond .eq 11, 3) := by decide +kernel
theorem dX1_addPiece_234 : decode cX1_addPiece 234 = .ok (.iload 6, 2) := by decide +kernel
theorem dX1_addPiece_236 : decode cX1_addPiece 236 = .ok (.bipush 64, 2) := by decide +kernel
theorem dX1_addPiece_238 : decode cX1_addPiece 238 = .ok (.irem, 1) := by decide +kernel
theorem dX1_addPiece_239 : decode cX1_addPiece 239 = .ok (.goto 4, 3) := by decide +kernel
theorem dX1_addPiece_242 : decode cX1_addPiece 242 = .ok (.iconst 0, 1) := by decide +kernel
theorem dX1_addPiece_243 : decode cX1_addPiece 243 = .ok (.invokevirtual 72, 3) := by decide +kernel
theorem dX1_addPiece_246 : decode cX1_addPiece 246 = .ok (.aload_n 0, 1) := by decide +kernel
theorem dX1_addPiece_247 : decode cX1_addPiece 247 = .ok (.aload_n 0, 1) := by decide +kernel
theorem dX1_addPiece_248 : decode cX1_addPiece 248 = .ok (.getfield 38, 3) := by decide +kernel
theorem dX1_addPiece_251 : decode cX1_addPiece 251 = .ok (.iload 7, 2) := by decide +kernel
theorem dX1_addPiece_253 : decode cX1_addPiece 253 = .ok (.iconst 1, 1) := by decide +kernel
theorem dX1_addPiece_254 : decode cX1_addPiece 254 = .ok (.iload 7, 2) := by decide +kernel
theorem dX1_addPiece_256 : decode cX1_addPiece 256 = .ok (.iadd, 1) := by decide +kernel
theorem dX1_addPiece_257 : decode cX1_addPiece 257 = .ok (.bipush 64, 2) := by decide +kernel
theorem dX1_addPiece_259 : decode cX1_addPiece 259 = .ok (.iadd, 1) := by decide +kernel
theorem dX1_addPiece_260 : decode cX1_addPiece 260 = .ok (.iconst 1, 1) := by decide +kernel
theorem dX1_addPiece_261 : decode cX1_addPiece 261 = .ok (.iload 8, 2) := by decide +kernel
theorem dX1_addPiece_263 : decode cX1_addPiece 263 = .ok (.ifCond .eq 7, 3) := by decide +kernel
theorem dX1_addPiece_266 : decode cX1_addPiece 266 = .ok (.iload_n 3, 1) := by decide +kernel
theorem dX1_addPiece_267 : decode cX1_addPiece 267 = .ok (.goto 4, 3) := by decide +kernel
theorem dX1_addPiece_270 : decode cX1_addPiece 270 = .ok (.iconst 0, 1) := by decide +kernel
theorem dX1_addPiece_271 : decode cX1_addPiece 271 = .ok (.invokevirtual 72, 3) := by decide +kernel
theorem dX1_addPiece_274 : decode cX1_addPiece 274 = .ok (.aload_n 0, 1) := by decide +kernel
theorem dX1_addPiece_275 : decode cX1_addPiece 275 = .ok (.aload_n 0, 1) := by decide +kernel
theorem dX1_addPiece_276 : decode cX1_addPiece 276 = .ok (.getfield 38, 3) := by decide +kernel
theorem dX1_addPiece_279 : decode cX1_addPiece 279 = .ok (.iload 7, 2) := by decide +kernel
theorem dX1_addPiece_281 : decode cX1_addPiece 281 = .ok (.iconst 1, 1) := by decide +kernel
theorem dX1_addPiece_282 : decode cX1_addPiece 282 = .ok (.iload 7, 2) := by decide +kernel
theorem dX1_addPiece_284 : decode cX1_addPiece 284 = .ok (.iadd, 1) := by decide +kernel
theorem dX1_addPiece_285 : decode cX1_addPiece 285 = .ok (.bipush 64, 2) := by decide +kernel
theorem dX1_addPiece_287 : decode cX1_addPiece 287 = .ok (.iadd, 1) := by decide +kernel
theorem dX1_addPiece_288 : decode cX1_addPiece 288 = .ok (.iconst 2, 1) := by decide +kernel
theorem dX1_addPiece_289 : decode cX1_addPiece 289 = .ok (.iload 8, 2) := by decide +kernel
theorem dX1_addPiece_291 : decode cX1_addPiece 291 = .ok (.ifCond .eq 11, 3) := by decide +kernel
theorem dX1_addPiece_294 : decode cX1_addPiece 294 = .ok (.iload 6, 2) := by decide +kernel
theorem dX1_addPiece_296 : decode cX1_addPiece 296 = .ok (.bipush 64, 2) := by decide +kernel
theorem dX1_addPiece_298 : decode cX1_addPiece 298 = .ok (.idiv, 1) := by decide +kernel
theorem dX1_addPiece_299 : decode cX1_addPiece 299 = .ok (.goto 4, 3) := by decide +kernel
theorem dX1_addPiece_302 : decode cX1_addPiece 302 = .ok (.iconst 0, 1) := by decide +kernel
theorem dX1_addPiece_303 : decode cX1_addPiece 303 = .ok (.invokevirtual 72, 3) := by decide +kernel
theorem dX1_addPiece_306 : decode cX1_addPiece 306 = .ok (.iload 7, 2) := by decide +kernel
theorem dX1_addPiece_308 : decode cX1_addPiece 308 = .ok (.ireturn, 1) := by decide +kernel
theorem dX1_isFace_0 : decode cX1_isFace 0 = .ok (.iload_n 0, 1) := by decide +kernel
theorem dX1_isFace_1 : decode cX1_isFace 1 = .ok (.ifCond .lt 13, 3) := by decide +kernel
theorem dX1_isFace_4 : decode cX1_isFace 4 = .ok (.iload_n 0, 1) := by decide +kernel
theorem dX1_isFace_5 : decode cX1_isFace 5 = .ok (.bipush 51, 2) := by decide +kernel
theorem dX1_isFace_7 : decode cX1_isFace 7 = .ok (.if_icmp .ge 7, 3) := by decide +kernel
theorem dX1_isFace_10 : decode cX1_isFace 10 = .ok (.iconst 1, 1) := by decide +kernel
theorem dX1_isFace_11 : decode cX1_isFace 11 = .ok (.goto 4, 3) := by decide +kernel
theorem dX1_isFace_14 : decode cX1_isFace 14 = .ok (.iconst 0, 1) := by decide +kernel
theorem dX1_isFace_15 : decode cX1_isFace 15 = .ok (.ireturn, 1) := by decide +kernel
set_option maxRecDepth 20000 in
theorem ggX1_isMoreOf_X1_isFace : GoodIn wsX1_isMoreOf wsX1_isFace := goodIn_r _ [4] (by decide +kernel) (by decide +kernel)
set_option maxRecDepth 20000 in
theorem gX1_isMoreOf_X1_isFace : GoodIn wsX1_isMoreOf (va_wsS RX1 62 yX1_isFace wsX1_isFace) := goodIn_app (goodIn_of _ (by decide +kernel)) ggX1_isMoreOf_X1_isFace
theorem dX1_isMoreOf_0 : decode cX1_isMoreOf 0 = .ok (.iload_n 0, 1) := by decide +kernel
theorem dX1_isMoreOf_1 : decode cX1_isMoreOf 1 = .ok (.tableswitch 114 0 5 #[39, 39, 49, 39, 79, 95], 39) := by decide +kernel
theorem dX1_isMoreOf_40 : decode cX1_isMoreOf 40 = .ok (.iload_n 1, 1) := by decide +kernel
theorem dX1_isMoreOf_41 : decode cX1_isMoreOf 41 = .ok (.ifCond .ne 7, 3) := by decide +kernel
theorem dX1_isMoreOf_44 : decode cX1_isMoreOf 44 = .ok (.iconst 1, 1) := by decide +kernel
theorem dX1_isMoreOf_45 : decode cX1_isMoreOf 45 = .ok (.goto 4, 3) := by decide +kernel
theorem dX1_isMoreOf_48 : decode cX1_isMoreOf 48 = .ok (.iconst 0, 1) := by decide +kernel
theorem dX1_isMoreOf_49 : decode cX1_isMoreOf 49 = .ok (.ireturn, 1) := by decide +kernel
theorem dX1_isMoreOf_50 : decode cX1_isMoreOf 50 = .ok (.iload_n 1, 1) := by decide +kernel
theorem dX1_isMoreOf_51 : decode cX1_isMoreOf 51 = .ok (.ifCond .lt 27, 3) := by decide +kernel
theorem dX1_isMoreOf_54 : decode cX1_isMoreOf 54 = .ok (.iload_n 1, 1) := by decide +kernel
theorem dX1_isMoreOf_55 : decode cX1_isMoreOf 55 = .ok (.bipush 64, 2) := by decide +kernel
theorem dX1_isMoreOf_57 : decode cX1_isMoreOf 57 = .ok (.irem, 1) := by decide +kernel
theorem dX1_isMoreOf_58 : decode cX1_isMoreOf 58 = .ok (.invokestatic 62, 3) := by decide +kernel
theorem dX1_isMoreOf_61 : decode cX1_isMoreOf 61 = .ok (.ifCond .eq 17, 3) := by decide +kernel
theorem dX1_isMoreOf_64 : decode cX1_isMoreOf 64 = .ok (.iload_n 1, 1) := by decide +kernel
theorem dX1_isMoreOf_65 : decode cX1_isMoreOf 65 = .ok (.bipush 64, 2) := by decide +kernel
theorem dX1_isMoreOf_67 : decode cX1_isMoreOf 67 = .ok (.idiv, 1) := by decide +kernel
theorem dX1_isMoreOf_68 : decode cX1_isMoreOf 68 = .ok (.invokestatic 62, 3) := by decide +kernel
theorem dX1_isMoreOf_71 : decode cX1_isMoreOf 71 = .ok (.ifCond .eq 7, 3) := by decide +kernel
theorem dX1_isMoreOf_74 : decode cX1_isMoreOf 74 = .ok (.iconst 1, 1) := by decide +kernel
theorem dX1_isMoreOf_75 : decode cX1_isMoreOf 75 = .ok (.goto 4, 3) := by decide +kernel
theorem dX1_isMoreOf_78 : decode cX1_isMoreOf 78 = .ok (.iconst 0, 1) := by decide +kernel
theorem dX1_isMoreOf_79 : decode cX1_isMoreOf 79 = .ok (.ireturn, 1) := by decide +kernel
theorem dX1_isMoreOf_80 : decode cX1_isMoreOf 80 = .ok (.iload_n 1, 1) := by decide +kernel
theorem dX1_isMoreOf_81 : decode cX1_isMoreOf 81 = .ok (.ifCond .lt 13, 3) := by decide +kernel
theorem dX1_isMoreOf_84 : decode cX1_isMoreOf 84 = .ok (.iload_n 1, 1) := by decide +kernel
theorem dX1_isMoreOf_85 : decode cX1_isMoreOf 85 = .ok (.bipush 15, 2) := by decide +kernel
theorem dX1_isMoreOf_87 : decode cX1_isMoreOf 87 = .ok (.if_icmp .gt 7, 3) := by decide +kernel
theorem dX1_isMoreOf_90 : decode cX1_isMoreOf 90 = .ok (.iconst 1, 1) := by decide +kernel
theorem dX1_isMoreOf_91 : decode cX1_isMoreOf 91 = .ok (.goto 4, 3) := by decide +kernel
theorem dX1_isMoreOf_94 : decode cX1_isMoreOf 94 = .ok (.iconst 0, 1) := by decide +kernel
theorem dX1_isMoreOf_95 : decode cX1_isMoreOf 95 = .ok (.ireturn, 1) := by decide +kernel
theorem dX1_isMoreOf_96 : decode cX1_isMoreOf 96 = .ok (.iload_n 1, 1) := by decide +kernel
theorem dX1_isMoreOf_97 : decode cX1_isMoreOf 97 = .ok (.bipush 16, 2) := by decide +kernel
theorem dX1_isMoreOf_99 : decode cX1_isMoreOf 99 = .ok (.if_icmp .lt 14, 3) := by decide +kernel
theorem dX1_isMoreOf_102 : decode cX1_isMoreOf 102 = .ok (.iload_n 1, 1) := by decide +kernel
theorem dX1_isMoreOf_103 : decode cX1_isMoreOf 103 = .ok (.sipush 255, 3) := by decide +kernel
theorem dX1_isMoreOf_106 : decode cX1_isMoreOf 106 = .ok (.if_icmp .gt 7, 3) := by decide +kernel
theorem dX1_isMoreOf_109 : decode cX1_isMoreOf 109 = .ok (.iconst 1, 1) := by decide +kernel
theorem dX1_isMoreOf_110 : decode cX1_isMoreOf 110 = .ok (.goto 4, 3) := by decide +kernel
theorem dX1_isMoreOf_113 : decode cX1_isMoreOf 113 = .ok (.iconst 0, 1) := by decide +kernel
theorem dX1_isMoreOf_114 : decode cX1_isMoreOf 114 = .ok (.ireturn, 1) := by decide +kernel
theorem dX1_isMoreOf_115 : decode cX1_isMoreOf 115 = .ok (.iconst 0, 1) := by decide +kernel
theorem dX1_isMoreOf_116 : decode cX1_isMoreOf 116 = .ok (.ireturn, 1) := by decide +kernel
theorem dX1_enrol_0 : decode cX1_enrol 0 = .ok (.lconst 1, 1) := by decide +kernel
theorem dX1_enrol_1 : decode cX1_enrol 1 = .ok (.iload_n 1, 1) := by decide +kernel
theorem dX1_enrol_2 : decode cX1_enrol 2 = .ok (.lshl, 1) := by decide +kernel
theorem dX1_enrol_3 : decode cX1_enrol 3 = .ok (.lstore_n 3, 1) := by decide +kernel
theorem dX1_enrol_4 : decode cX1_enrol 4 = .ok (.iload_n 2, 1) := by decide +kernel
theorem dX1_enrol_5 : decode cX1_enrol 5 = .ok (.iconst 1, 1) := by decide +kernel
theorem dX1_enrol_6 : decode cX1_enrol 6 = .ok (.if_icmp .ne 16, 3) := by decide +kernel
theorem dX1_enrol_9 : decode cX1_enrol 9 = .ok (.aload_n 0, 1) := by decide +kernel
theorem dX1_enrol_10 : decode cX1_enrol 10 = .ok (.dup, 1) := by decide +kernel
theorem dX1_enrol_11 : decode cX1_enrol 11 = .ok (.getfield 44, 3) := by decide +kernel
theorem dX1_enrol_14 : decode cX1_enrol 14 = .ok (.lload_n 3, 1) := by decide +kernel
theorem dX1_enrol_15 : decode cX1_enrol 15 = .ok (.lor, 1) := by decide +kernel
theorem dX1_enrol_16 : decode cX1_enrol 16 = .ok (.putfield 44, 3) := by decide +kernel
theorem dX1_enrol_19 : decode cX1_enrol 19 = .ok (.goto 36, 3) := by decide +kernel
theorem dX1_enrol_22 : decode cX1_enrol 22 = .ok (.iload_n 2, 1) := by decide +kernel
theorem dX1_enrol_23 : decode cX1_enrol 23 = .ok (.iconst 2, 1) := by decide +kernel
theorem dX1_enrol_24 : decode cX1_enrol 24 = .ok (.if_icmp .ne 16, 3) := by decide +kernel
theorem dX1_enrol_27 : decode cX1_enrol 27 = .ok (.aload_n 0, 1) := by decide +kernel
theorem dX1_enrol_28 : decode cX1_enrol 28 = .ok (.dup, 1) := by decide +kernel
theorem dX1_enrol_29 : decode cX1_enrol 29 = .ok (.getfield 48, 3) := by decide +kernel
theorem dX1_enrol_32 : decode cX1_enrol 32 = .ok (.lload_n 3, 1) := by decide +kernel
theorem dX1_enrol_33 : decode cX1_enrol 33 = .ok (.lor, 1) := by decide +kernel
theorem dX1_enrol_34 : decode cX1_enrol 34 = .ok (.putfield 48, 3) := by decide +kernel
theorem dX1_enrol_37 : decode cX1_enrol 37 = .ok (.goto 18, 3) := by decide +kernel
theorem dX1_enrol_40 : decode cX1_enrol 40 = .ok (.iload_n 2, 1) := by decide +kernel
theorem dX1_enrol_41 : decode cX1_enrol 41 = .ok (.iconst 4, 1) := by decide +kernel
theorem dX1_enrol_42 : decode cX1_enrol 42 = .ok (.if_icmp .eq 13, 3) := by decide +kernel
theorem dX1_enrol_45 : decode cX1_enrol 45 = .ok (.aload_n 0, 1) := by decide +kernel
theorem dX1_enrol_46 : decode cX1_enrol 46 = .ok (.dup, 1) := by decide +kernel
theorem dX1_enrol_47 : decode cX1_enrol 47 = .ok (.getfield 51, 3) := by decide +kernel
theorem dX1_enrol_50 : decode cX1_enrol 50 = .ok (.lload_n 3, 1) := by decide +kernel
theorem dX1_enrol_51 : decode cX1_enrol 51 = .ok (.lor, 1) := by decide +kernel
theorem dX1_enrol_52 : decode cX1_enrol 52 = .ok (.putfield 51, 3) := by decide +kernel
theorem dX1_enrol_55 : decode cX1_enrol 55 = .ok (.return_, 1) := by decide +kernel
set_option maxRecDepth 20000 in
theorem ggX1_barSides_X7_bitOf : GoodIn wsX1_barSides wsX7_bitOf := goodIn_r _ [5] (by decide +kernel) (by decide +kernel)
set_option maxRecDepth 20000 in
theorem gX1_barSides_X7_bitOf_n76 : GoodIn wsX1_barSides (wsX7_bitOf) := ggX1_barSides_X7_bitOf
theorem dX1_barSides_0 : decode cX1_barSides 0 = .ok (.aload_n 0, 1) := by decide +kernel
theorem dX1_barSides_1 : decode cX1_barSides 1 = .ok (.getfield 31, 3) := by decide +kernel
theorem dX1_barSides_4 : decode cX1_barSides 4 = .ok (.iconst 1, 1) := by decide +kernel
theorem dX1_barSides_5 : decode cX1_barSides 5 = .ok (.iload_n 1, 1) := by decide +kernel
theorem dX1_barSides_6 : decode cX1_barSides 6 = .ok (.iadd, 1) := by decide +kernel
theorem dX1_barSides_7 : decode cX1_barSides 7 = .ok (.iload_n 2, 1) := by decide +kernel
theorem dX1_barSides_8 : decode cX1_barSides 8 = .ok (.iastore, 1) := by decide +kernel
theorem dX1_barSides_9 : decode cX1_barSides 9 = .ok (.iconst 0, 1) := by decide +kernel
theorem dX1_barSides_10 : decode cX1_barSides 10 = .ok (.istore_n 3, 1) := by decide +kernel
theorem dX1_barSides_11 : decode cX1_barSides 11 = .ok (.iload_n 3, 1) := by decide +kernel
theorem dX1_barSides_12 : decode cX1_barSides 12 = .ok (.iconst 4, 1) := by decide +kernel
theorem dX1_barSides_13 : decode cX1_barSides 13 = .ok (.if_icmp .ge 30, 3) := by decide +kernel
theorem dX1_barSides_16 : decode cX1_barSides 16 = .ok (.iload_n 2, 1) := by decide +kernel
theorem dX1_barSides_17 : decode cX1_barSides 17 = .ok (.iload_n 3, 1) := by decide +kernel
theorem dX1_barSides_18 : decode cX1_barSides 18 = .ok (.invokestatic 76, 3) := by decide +kernel
theorem dX1_barSides_21 : decode cX1_barSides 21 = .ok (.iconst 1, 1) := by decide +kernel
theorem dX1_barSides_22 : decode cX1_barSides 22 = .ok (.if_icmp .ne 15, 3) := by decide +kernel
theorem dX1_barSides_25 : decode cX1_barSides 25 = .ok (.aload_n 0, 1) := by decide +kernel
theorem dX1_barSides_26 : decode cX1_barSides 26 = .ok (.getfield 41, 3) := by decide +kernel
theorem dX1_barSides_29 : decode cX1_barSides 29 = .ok (.iload_n 3, 1) := by decide +kernel
theorem dX1_barSides_30 : decode cX1_barSides 30 = .ok (.dup2, 1) := by decide +kernel
theorem dX1_barSides_31 : decode cX1_barSides 31 = .ok (.laload, 1) := by decide +kernel
theorem dX1_barSides_32 : decode cX1_barSides 32 = .ok (.lconst 1, 1) := by decide +kernel
theorem dX1_barSides_33 : decode cX1_barSides 33 = .ok (.iload_n 1, 1) := by decide +kernel
theorem dX1_barSides_34 : decode cX1_barSides 34 = .ok (.lshl, 1) := by decide +kernel
theorem dX1_barSides_35 : decode cX1_barSides 35 = .ok (.lor, 1) := by decide +kernel
theorem dX1_barSides_36 : decode cX1_barSides 36 = .ok (.lastore, 1) := by decide +kernel
theorem dX1_barSides_37 : decode cX1_barSides 37 = .ok (.iinc 3 1, 3) := by decide +kernel
theorem dX1_barSides_40 : decode cX1_barSides 40 = .ok (.goto (-29), 3) := by decide +kernel
theorem dX1_barSides_43 : decode cX1_barSides 43 = .ok (.return_, 1) := by decide +kernel
theorem dX1_show_0 : decode cX1_show 0 = .ok (.aload_n 0, 1) := by decide +kernel
theorem dX1_show_1 : decode cX1_show 1 = .ok (.getfield 28, 3) := by decide +kernel
theorem dX1_show_4 : decode cX1_show 4 = .ok (.iconst 4, 1) := by decide +kernel
theorem dX1_show_5 : decode cX1_show 5 = .ok (.iload_n 3, 1) := by decide +kernel
theorem dX1_show_6 : decode cX1_show 6 = .ok (.imul, 1) := by decide +kernel
theorem dX1_show_7 : decode cX1_show 7 = .ok (.iload 4, 2) := by decide +kernel
theorem dX1_show_9 : decode cX1_show 9 = .ok (.iadd, 1) := by decide +kernel
theorem dX1_show_10 : decode cX1_show 10 = .ok (.iload 5, 2) := by decide +kernel
theorem dX1_show_12 : decode cX1_show 12 = .ok (.iastore, 1) := by decide +kernel
theorem dX1_show_13 : decode cX1_show 13 = .ok (.iload 5, 2) := by decide +kernel
theorem dX1_show_15 : decode cX1_show 15 = .ok (.ifCond .eq 19, 3) := by decide +kernel
theorem dX1_show_18 : decode cX1_show 18 = .ok (.aload_n 1, 1) := by decide +kernel
theorem dX1_show_19 : decode cX1_show 19 = .ok (.bipush 51, 2) := by decide +kernel
theorem dX1_show_21 : decode cX1_show 21 = .ok (.iload 4, 2) := by decide +kernel
theorem dX1_show_23 : decode cX1_show 23 = .ok (.imul, 1) := by decide +kernel
theorem dX1_show_24 : decode cX1_show 24 = .ok (.iload 5, 2) := by decide +kernel
theorem dX1_show_26 : decode cX1_show 26 = .ok (.iadd, 1) := by decide +kernel
theorem dX1_show_27 : decode cX1_show 27 = .ok (.dup2, 1) := by decide +kernel
theorem dX1_show_28 : decode cX1_show 28 = .ok (.laload, 1) := by decide +kernel
theorem dX1_show_29 : decode cX1_show 29 = .ok (.lconst 1, 1) := by decide +kernel
theorem dX1_show_30 : decode cX1_show 30 = .ok (.iload_n 2, 1) := by decide +kernel
theorem dX1_show_31 : decode cX1_show 31 = .ok (.lshl, 1) := by decide +kernel
theorem dX1_show_32 : decode cX1_show 32 = .ok (.lor, 1) := by decide +kernel
theorem dX1_show_33 : decode cX1_show 33 = .ok (.lastore, 1) := by decide +kernel
theorem dX1_show_34 : decode cX1_show 34 = .ok (.return_, 1) := by decide +kernel
theorem dX1_copyFrom_0 : decode cX1_copyFrom 0 = .ok (.aload_n 0, 1) := by decide +kernel
theorem dX1_copyFrom_1 : decode cX1_copyFrom 1 = .ok (.aload_n 1, 1) := by decide +kernel
theorem dX1_copyFrom_2 : decode cX1_copyFrom 2 = .ok (.getfield 9, 3) := by decide +kernel
theorem dX1_copyFrom_5 : decode cX1_copyFrom 5 = .ok (.putfield 9, 3) := by decide +kernel
theorem dX1_copyFrom_8 : decode cX1_copyFrom 8 = .ok (.aload_n 0, 1) := by decide +kernel
theorem dX1_copyFrom_9 : decode cX1_copyFrom 9 = .ok (.aload_n 1, 1) := by decide +kernel
theorem dX1_copyFrom_10 : decode cX1_copyFrom 10 = .ok (.getfield 15, 3) := by decide +kernel
theorem dX1_copyFrom_13 : decode cX1_copyFrom 13 = .ok (.putfield 15, 3) := by decide +kernel
theorem dX1_copyFrom_16 : decode cX1_copyFrom 16 = .ok (.aload_n 1, 1) := by decide +kernel
theorem dX1_copyFrom_17 : decode cX1_copyFrom 17 = .ok (.getfield 18, 3) := by decide +kernel
theorem dX1_copyFrom_20 : decode cX1_copyFrom 20 = .ok (.iconst 0, 1) := by decide +kernel
theorem dX1_copyFrom_21 : decode cX1_copyFrom 21 = .ok (.aload_n 0, 1) := by decide +kernel
theorem dX1_copyFrom_22 : decode cX1_copyFrom 22 = .ok (.getfield 18, 3) := by decide +kernel
theorem dX1_copyFrom_25 : decode cX1_copyFrom 25 = .ok (.iconst 0, 1) := by decide +kernel
theorem dX1_copyFrom_26 : decode cX1_copyFrom 26 = .ok (.bipush 51, 2) := by decide +kernel
theorem dX1_copyFrom_28 : decode cX1_copyFrom 28 = .ok (.invokestatic 80, 3) := by decide +kernel
theorem dX1_copyFrom_31 : decode cX1_copyFrom 31 = .ok (.aload_n 1, 1) := by decide +kernel
theorem dX1_copyFrom_32 : decode cX1_copyFrom 32 = .ok (.getfield 22, 3) := by decide +kernel
theorem dX1_copyFrom_35 : decode cX1_copyFrom 35 = .ok (.iconst 0, 1) := by decide +kernel
theorem dX1_copyFrom_36 : decode cX1_copyFrom 36 = .ok (.aload_n 0, 1) := by decide +kernel
theorem dX1_copyFrom_37 : decode cX1_copyFrom 37 = .ok (.getfield 22, 3) := by decide +kernel
theorem dX1_copyFrom_40 : decode cX1_copyFrom 40 = .ok (.iconst 0, 1) := by decide +kernel
theorem dX1_copyFrom_41 : decode cX1_copyFrom 41 = .ok (.bipush 40, 2) := by decide +kernel
theorem dX1_copyFrom_43 : decode cX1_copyFrom 43 = .ok (.invokestatic 80, 3) := by decide +kernel
theorem dX1_copyFrom_46 : decode cX1_copyFrom 46 = .ok (.aload_n 1, 1) := by decide +kernel
theorem dX1_copyFrom_47 : decode cX1_copyFrom 47 = .ok (.getfield 25, 3) := by decide +kernel
theorem dX1_copyFrom_50 : decode cX1_copyFrom 50 = .ok (.iconst 0, 1) := by decide +kernel
theorem dX1_copyFrom_51 : decode cX1_copyFrom 51 = .ok (.aload_n 0, 1) := by decide +kernel
theorem dX1_copyFrom_52 : decode cX1_copyFrom 52 = .ok (.getfield 25, 3) := by decide +kernel
theorem dX1_copyFrom_55 : decode cX1_copyFrom 55 = .ok (.iconst 0, 1) := by decide +kernel
theorem dX1_copyFrom_56 : decode cX1_copyFrom 56 = .ok (.bipush 40, 2) := by decide +kernel
theorem dX1_copyFrom_58 : decode cX1_copyFrom 58 = .ok (.invokestatic 80, 3) := by decide +kernel
theorem dX1_copyFrom_61 : decode cX1_copyFrom 61 = .ok (.aload_n 1, 1) := by decide +kernel
theorem dX1_copyFrom_62 : decode cX1_copyFrom 62 = .ok (.getfield 28, 3) := by decide +kernel
theorem dX1_copyFrom_65 : decode cX1_copyFrom 65 = .ok (.iconst 0, 1) := by decide +kernel
theorem dX1_copyFrom_66 : decode cX1_copyFrom 66 = .ok (.aload_n 0, 1) := by decide +kernel
theorem dX1_copyFrom_67 : decode cX1_copyFrom 67 = .ok (.getfield 28, 3) := by decide +kernel
theorem dX1_copyFrom_70 : decode cX1_copyFrom 70 = .ok (.iconst 0, 1) := by decide +kernel
theorem dX1_copyFrom_71 : decode cX1_copyFrom 71 = .ok (.sipush 512, 3) := by decide +kernel
theorem dX1_copyFrom_74 : decode cX1_copyFrom 74 = .ok (.invokestatic 80, 3) := by decide +kernel
theorem dX1_copyFrom_77 : decode cX1_copyFrom 77 = .ok (.aload_n 1, 1) := by decide +kernel
theorem dX1_copyFrom_78 : decode cX1_copyFrom 78 = .ok (.getfield 31, 3) := by decide +kernel
theorem dX1_copyFrom_81 : decode cX1_copyFrom 81 = .ok (.iconst 0, 1) := by decide +kernel
theorem dX1_copyFrom_82 : decode cX1_copyFrom 82 = .ok (.aload_n 0, 1) := by decide +kernel
theorem dX1_copyFrom_83 : decode cX1_copyFrom 83 = .ok (.getfield 31, 3) := by decide +kernel
theorem dX1_copyFrom_86 : decode cX1_copyFrom 86 = .ok (.iconst 0, 1) := by decide +kernel
theorem dX1_copyFrom_87 : decode cX1_copyFrom 87 = .ok (.sipush 128, 3) := by decide +kernel
theorem dX1_copyFrom_90 : decode cX1_copyFrom 90 = .ok (.invokestatic 80, 3) := by decide +kernel
theorem dX1_copyFrom_93 : decode cX1_copyFrom 93 = .ok (.aload_n 1, 1) := by decide +kernel
theorem dX1_copyFrom_94 : decode cX1_copyFrom 94 = .ok (.getfield 34, 3) := by decide +kernel
theorem dX1_copyFrom_97 : decode cX1_copyFrom 97 = .ok (.iconst 0, 1) := by decide +kernel
theorem dX1_copyFrom_98 : decode cX1_copyFrom 98 = .ok (.aload_n 0, 1) := by decide +kernel
theorem dX1_copyFrom_99 : decode cX1_copyFrom 99 = .ok (.getfield 34, 3) := by decide +kernel
theorem dX1_copyFrom_102 : decode cX1_copyFrom 102 = .ok (.iconst 0, 1) := by decide +kernel
theorem dX1_copyFrom_103 : decode cX1_copyFrom 103 = .ok (.sipush 204, 3) := by decide +kernel
theorem dX1_copyFrom_106 : decode cX1_copyFrom 106 = .ok (.invokestatic 80, 3) := by decide +kernel
theorem dX1_copyFrom_109 : decode cX1_copyFrom 109 = .ok (.aload_n 1, 1) := by decide +kernel
theorem dX1_copyFrom_110 : decode cX1_copyFrom 110 = .ok (.getfield 38, 3) := by decide +kernel
theorem dX1_copyFrom_113 : decode cX1_copyFrom 113 = .ok (.iconst 0, 1) := by decide +kernel
theorem dX1_copyFrom_114 : decode cX1_copyFrom 114 = .ok (.aload_n 0, 1) := by decide +kernel
theorem dX1_copyFrom_115 : decode cX1_copyFrom 115 = .ok (.getfield 38, 3) := by decide +kernel
theorem dX1_copyFrom_118 : decode cX1_copyFrom 118 = .ok (.iconst 0, 1) := by decide +kernel
theorem dX1_copyFrom_119 : decode cX1_copyFrom 119 = .ok (.sipush 204, 3) := by decide +kernel
theorem dX1_copyFrom_122 : decode cX1_copyFrom 122 = .ok (.invokestatic 80, 3) := by decide +kernel
theorem dX1_copyFrom_125 : decode cX1_copyFrom 125 = .ok (.aload_n 1, 1) := by decide +kernel
theorem dX1_copyFrom_126 : decode cX1_copyFrom 126 = .ok (.getfield 41, 3) := by decide +kernel
theorem dX1_copyFrom_129 : decode cX1_copyFrom 129 = .ok (.iconst 0, 1) := by decide +kernel
theorem dX1_copyFrom_130 : decode cX1_copyFrom 130 = .ok (.aload_n 0, 1) := by decide +kernel
theorem dX1_copyFrom_131 : decode cX1_copyFrom 131 = .ok (.getfield 41, 3) := by decide +kernel
theorem dX1_copyFrom_134 : decode cX1_copyFrom 134 = .ok (.iconst 0, 1) := by decide +kernel
theorem dX1_copyFrom_135 : decode cX1_copyFrom 135 = .ok (.iconst 4, 1) := by decide +kernel
theorem dX1_copyFrom_136 : decode cX1_copyFrom 136 = .ok (.invokestatic 80, 3) := by decide +kernel
theorem dX1_copyFrom_139 : decode cX1_copyFrom 139 = .ok (.aload_n 0, 1) := by decide +kernel
theorem dX1_copyFrom_140 : decode cX1_copyFrom 140 = .ok (.aload_n 1, 1) := by decide +kernel
theorem dX1_copyFrom_141 : decode cX1_copyFrom 141 = .ok (.getfield 44, 3) := by decide +kernel
theorem dX1_copyFrom_144 : decode cX1_copyFrom 144 = .ok (.putfield 44, 3) := by decide +kernel
theorem dX1_copyFrom_147 : decode cX1_copyFrom 147 = .ok (.aload_n 0, 1) := by decide +kernel
theorem dX1_copyFrom_148 : decode cX1_copyFrom 148 = .ok (.aload_n 1, 1) := by decide +kernel
theorem dX1_copyFrom_149 : decode cX1_copyFrom 149 = .ok (.getfield 48, 3) := by decide +kernel
theorem dX1_copyFrom_152 : decode cX1_copyFrom 152 = .ok (.putfield 48, 3) := by decide +kernel
theorem dX1_copyFrom_155 : decode cX1_copyFrom 155 = .ok (.aload_n 0, 1) := by decide +kernel
theorem dX1_copyFrom_156 : decode cX1_copyFrom 156 = .ok (.aload_n 1, 1) := by decide +kernel
theorem dX1_copyFrom_157 : decode cX1_copyFrom 157 = .ok (.getfield 51, 3) := by decide +kernel
theorem dX1_copyFrom_160 : decode cX1_copyFrom 160 = .ok (.putfield 51, 3) := by decide +kernel
theorem dX1_copyFrom_163 : decode cX1_copyFrom 163 = .ok (.return_, 1) := by decide +kernel
set_option maxRecDepth 20000 in
theorem ggX1_empty_J7_fill_53178 : GoodIn wsX1_empty wsJ7_fill_53178 := goodIn_r _ [15] (by decide +kernel) (by decide +kernel)
set_option maxRecDepth 20000 in
theorem gX1_empty_J7_fill_53178 : GoodIn wsX1_empty (va_wsS RX1 86 yJ7_fill_53178 wsJ7_fill_53178) := goodIn_app (goodIn_of _ (by decide +kernel)) ggX1_empty_J7_fill_53178
set_option maxRecDepth 20000 in
theorem ggX1_empty_J7_fill_d0a16 : GoodIn wsX1_empty wsJ7_fill_d0a16 := goodIn_r _ [18] (by decide +kernel) (by decide +kernel)
set_option maxRecDepth 20000 in
theorem gX1_empty_J7_fill_d0a16 : GoodIn wsX1_empty (va_wsS RX1 92 yJ7_fill_d0a16 wsJ7_fill_d0a16) := goodIn_app (goodIn_of _ (by decide +kernel)) ggX1_empty_J7_fill_d0a16
theorem dX1_empty_0 : decode cX1_empty 0 = .ok (.aload_n 0, 1) := by decide +kernel
theorem dX1_empty_1 : decode cX1_empty 1 = .ok (.iconst 2, 1) := by decide +kernel
theorem dX1_empty_2 : decode cX1_empty 2 = .ok (.putfield 9, 3) := by decide +kernel
theorem dX1_empty_5 : decode cX1_empty 5 = .ok (.aload_n 0, 1) := by decide +kernel
theorem dX1_empty_6 : decode cX1_empty 6 = .ok (.iconst 0, 1) := by decide +kernel
theorem dX1_empty_7 : decode cX1_empty 7 = .ok (.putfield 15, 3) := by decide +kernel
theorem dX1_empty_10 : decode cX1_empty 10 = .ok (.aload_n 0, 1) := by decide +kernel
theorem dX1_empty_11 : decode cX1_empty 11 = .ok (.getfield 18, 3) := by decide +kernel
theorem dX1_empty_14 : decode cX1_empty 14 = .ok (.iconst 0, 1) := by decide +kernel
theorem dX1_empty_15 : decode cX1_empty 15 = .ok (.invokestatic 86, 3) := by decide +kernel
theorem dX1_empty_18 : decode cX1_empty 18 = .ok (.aload_n 0, 1) := by decide +kernel
theorem dX1_empty_19 : decode cX1_empty 19 = .ok (.getfield 28, 3) := by decide +kernel
theorem dX1_empty_22 : decode cX1_empty 22 = .ok (.iconst 0, 1) := by decide +kernel
theorem dX1_empty_23 : decode cX1_empty 23 = .ok (.invokestatic 86, 3) := by decide +kernel
theorem dX1_empty_26 : decode cX1_empty 26 = .ok (.aload_n 0, 1) := by decide +kernel
theorem dX1_empty_27 : decode cX1_empty 27 = .ok (.getfield 31, 3) := by decide +kernel
theorem dX1_empty_30 : decode cX1_empty 30 = .ok (.iconst 0, 1) := by decide +kernel
theorem dX1_empty_31 : decode cX1_empty 31 = .ok (.invokestatic 86, 3) := by decide +kernel
theorem dX1_empty_34 : decode cX1_empty 34 = .ok (.aload_n 0, 1) := by decide +kernel
theorem dX1_empty_35 : decode cX1_empty 35 = .ok (.getfield 34, 3) := by decide +kernel
theorem dX1_empty_38 : decode cX1_empty 38 = .ok (.lconst 0, 1) := by decide +kernel
theorem dX1_empty_39 : decode cX1_empty 39 = .ok (.invokestatic 92, 3) := by decide +kernel
theorem dX1_empty_42 : decode cX1_empty 42 = .ok (.aload_n 0, 1) := by decide +kernel
theorem dX1_empty_43 : decode cX1_empty 43 = .ok (.getfield 38, 3) := by decide +kernel
theorem dX1_empty_46 : decode cX1_empty 46 = .ok (.lconst 0, 1) := by decide +kernel
theorem dX1_empty_47 : decode cX1_empty 47 = .ok (.invokestatic 92, 3) := by decide +kernel
theorem dX1_empty_50 : decode cX1_empty 50 = .ok (.aload_n 0, 1) := by decide +kernel
theorem dX1_empty_51 : decode cX1_empty 51 = .ok (.getfield 41, 3) := by decide +kernel
theorem dX1_empty_54 : decode cX1_empty 54 = .ok (.lconst 0, 1) := by decide +kernel
theorem dX1_empty_55 : decode cX1_empty 55 = .ok (.invokestatic 92, 3) := by decide +kernel
theorem dX1_empty_58 : decode cX1_empty 58 = .ok (.aload_n 0, 1) := by decide +kernel
theorem dX1_empty_59 : decode cX1_empty 59 = .ok (.lconst 0, 1) := by decide +kernel
theorem dX1_empty_60 : decode cX1_empty 60 = .ok (.putfield 44, 3) := by decide +kernel
theorem dX1_empty_63 : decode cX1_empty 63 = .ok (.aload_n 0, 1) := by decide +kernel
theorem dX1_empty_64 : decode cX1_empty 64 = .ok (.lconst 0, 1) := by decide +kernel
theorem dX1_empty_65 : decode cX1_empty 65 = .ok (.putfield 48, 3) := by decide +kernel
theorem dX1_empty_68 : decode cX1_empty 68 = .ok (.aload_n 0, 1) := by decide +kernel
theorem dX1_empty_69 : decode cX1_empty 69 = .ok (.lconst 0, 1) := by decide +kernel
theorem dX1_empty_70 : decode cX1_empty 70 = .ok (.putfield 51, 3) := by decide +kernel
theorem dX1_empty_73 : decode cX1_empty 73 = .ok (.return_, 1) := by decide +kernel
set_option maxRecDepth 20000 in
theorem ggX1_becomeRule_X1_empty : GoodIn wsX1_becomeRule wsX1_empty := goodIn_r _ [6, 7, 8, 1, 9, 10, 11, 12, 13, 14, 15, 16, 17, 18, 19, 20, 21, 22, 23, 51, 52, 53, 54, 55, 56, 57, 58, 59, 60, 61, 62, 63] (by decide +kernel) (by decide +kernel)
set_option maxRecDepth 20000 in
theorem gX1_becomeRule_X1_empty : GoodIn wsX1_becomeRule (wsV RX1 95 RX1 yX1_empty wsX1_empty) := goodIn_app (goodIn_of _ (by decide +kernel)) ggX1_becomeRule_X1_empty
set_option maxRecDepth 20000 in
theorem ggX1_becomeRule_X7_bitOf : GoodIn wsX1_becomeRule wsX7_bitOf := goodIn_r _ [26] (by decide +kernel) (by decide +kernel)
set_option maxRecDepth 20000 in
theorem gX1_becomeRule_X7_bitOf_n76 : GoodIn wsX1_becomeRule (wsX7_bitOf) := ggX1_becomeRule_X7_bitOf
set_option maxRecDepth 20000 in
theorem ggX1_becomeRule_X1_addPiece : GoodIn wsX1_becomeRule wsX1_addPiece := goodIn_r _ [30, 8, 31, 32, 11, 12, 33, 34, 5, 35, 36, 37, 38, 39, 40, 41, 42, 14, 15, 16, 43, 44, 45, 46, 10, 13, 24, 25, 26, 47, 48, 49, 50, 9, 51, 52, 53, 54, 55, 56, 57, 58, 59, 60, 61, 62, 63] (by decide +kernel) (by decide +kernel)
set_option maxRecDepth 20000 in
theorem gX1_becomeRule_X1_addPiece : GoodIn wsX1_becomeRule (wsV RX1 98 RX1 yX1_addPiece wsX1_addPiece) := goodIn_app (goodIn_of _ (by decide +kernel)) ggX1_becomeRule_X1_addPiece
theorem dX1_becomeRule_0 : decode cX1_becomeRule 0 = .ok (.aload_n 0, 1) := by decide +kernel
theorem dX1_becomeRule_1 : decode cX1_becomeRule 1 = .ok (.invokevirtual 95, 3) := by decide +kernel
theorem dX1_becomeRule_4 : decode cX1_becomeRule 4 = .ok (.iconst 1, 1) := by decide +kernel
theorem dX1_becomeRule_5 : decode cX1_becomeRule 5 = .ok (.istore_n 3, 1) := by decide +kernel
theorem dX1_becomeRule_6 : decode cX1_becomeRule 6 = .ok (.iload_n 3, 1) := by decide +kernel
theorem dX1_becomeRule_7 : decode cX1_becomeRule 7 = .ok (.iconst 4, 1) := by decide +kernel
theorem dX1_becomeRule_8 : decode cX1_becomeRule 8 = .ok (.if_icmp .gt 16, 3) := by decide +kernel
theorem dX1_becomeRule_11 : decode cX1_becomeRule 11 = .ok (.aload_n 0, 1) := by decide +kernel
theorem dX1_becomeRule_12 : decode cX1_becomeRule 12 = .ok (.getfield 18, 3) := by decide +kernel
theorem dX1_becomeRule_15 : decode cX1_becomeRule 15 = .ok (.iload_n 3, 1) := by decide +kernel
theorem dX1_becomeRule_16 : decode cX1_becomeRule 16 = .ok (.iconst 1, 1) := by decide +kernel
theorem dX1_becomeRule_17 : decode cX1_becomeRule 17 = .ok (.iastore, 1) := by decide +kernel
theorem dX1_becomeRule_18 : decode cX1_becomeRule 18 = .ok (.iinc 3 1, 3) := by decide +kernel
theorem dX1_becomeRule_21 : decode cX1_becomeRule 21 = .ok (.goto (-15), 3) := by decide +kernel
theorem dX1_becomeRule_24 : decode cX1_becomeRule 24 = .ok (.iconst 0, 1) := by decide +kernel
theorem dX1_becomeRule_25 : decode cX1_becomeRule 25 = .ok (.istore_n 3, 1) := by decide +kernel
theorem dX1_becomeRule_26 : decode cX1_becomeRule 26 = .ok (.iload_n 3, 1) := by decide +kernel
theorem dX1_becomeRule_27 : decode cX1_becomeRule 27 = .ok (.iconst 4, 1) := by decide +kernel
theorem dX1_becomeRule_28 : decode cX1_becomeRule 28 = .ok (.if_icmp .ge 50, 3) := by decide +kernel
theorem dX1_becomeRule_31 : decode cX1_becomeRule 31 = .ok (.iload_n 1, 1) := by decide +kernel
theorem dX1_becomeRule_32 : decode cX1_becomeRule 32 = .ok (.iload_n 3, 1) := by decide +kernel
theorem dX1_becomeRule_33 : decode cX1_becomeRule 33 = .ok (.invokestatic 76, 3) := by decide +kernel
theorem dX1_becomeRule_36 : decode cX1_becomeRule 36 = .ok (.istore 4, 2) := by decide +kernel
theorem dX1_becomeRule_38 : decode cX1_becomeRule 38 = .ok (.aload_n 0, 1) := by decide +kernel
theorem dX1_becomeRule_39 : decode cX1_becomeRule 39 = .ok (.iconst 5, 1) := by decide +kernel
theorem dX1_becomeRule_40 : decode cX1_becomeRule 40 = .ok (.iconst 1, 1) := by decide +kernel
theorem dX1_becomeRule_41 : decode cX1_becomeRule 41 = .ok (.iload 4, 2) := by decide +kernel
theorem dX1_becomeRule_43 : decode cX1_becomeRule 43 = .ok (.iadd, 1) := by decide +kernel
theorem dX1_becomeRule_44 : decode cX1_becomeRule 44 = .ok (.iconst 3, 1) := by decide +kernel
theorem dX1_becomeRule_45 : decode cX1_becomeRule 45 = .ok (.iload_n 3, 1) := by decide +kernel
theorem dX1_becomeRule_46 : decode cX1_becomeRule 46 = .ok (.iconst 2, 1) := by decide +kernel
theorem dX1_becomeRule_47 : decode cX1_becomeRule 47 = .ok (.irem, 1) := by decide +kernel
theorem dX1_becomeRule_48 : decode cX1_becomeRule 48 = .ok (.iadd, 1) := by decide +kernel
theorem dX1_becomeRule_49 : decode cX1_becomeRule 49 = .ok (.iconst 1, 1) := by decide +kernel
theorem dX1_becomeRule_50 : decode cX1_becomeRule 50 = .ok (.iload_n 3, 1) := by decide +kernel
theorem dX1_becomeRule_51 : decode cX1_becomeRule 51 = .ok (.iconst 2, 1) := by decide +kernel
theorem dX1_becomeRule_52 : decode cX1_becomeRule 52 = .ok (.idiv, 1) := by decide +kernel
theorem dX1_becomeRule_53 : decode cX1_becomeRule 53 = .ok (.iadd, 1) := by decide +kernel
theorem dX1_becomeRule_54 : decode cX1_becomeRule 54 = .ok (.iconst 3, 1) := by decide +kernel
theorem dX1_becomeRule_55 : decode cX1_becomeRule 55 = .ok (.iload_n 2, 1) := by decide +kernel
theorem dX1_becomeRule_56 : decode cX1_becomeRule 56 = .ok (.iload_n 3, 1) := by decide +kernel
theorem dX1_becomeRule_57 : decode cX1_becomeRule 57 = .ok (.invokestatic 76, 3) := by decide +kernel
theorem dX1_becomeRule_60 : decode cX1_becomeRule 60 = .ok (.iadd, 1) := by decide +kernel
theorem dX1_becomeRule_61 : decode cX1_becomeRule 61 = .ok (.bipush 16, 2) := by decide +kernel
theorem dX1_becomeRule_63 : decode cX1_becomeRule 63 = .ok (.iconst 1, 1) := by decide +kernel
theorem dX1_becomeRule_64 : decode cX1_becomeRule 64 = .ok (.iload 4, 2) := by decide +kernel
theorem dX1_becomeRule_66 : decode cX1_becomeRule 66 = .ok (.iadd, 1) := by decide +kernel
theorem dX1_becomeRule_67 : decode cX1_becomeRule 67 = .ok (.imul, 1) := by decide +kernel
theorem dX1_becomeRule_68 : decode cX1_becomeRule 68 = .ok (.invokevirtual 98, 3) := by decide +kernel
theorem dX1_becomeRule_71 : decode cX1_becomeRule 71 = .ok (.pop, 1) := by decide +kernel
theorem dX1_becomeRule_72 : decode cX1_becomeRule 72 = .ok (.iinc 3 1, 3) := by decide +kernel
theorem dX1_becomeRule_75 : decode cX1_becomeRule 75 = .ok (.goto (-49), 3) := by decide +kernel
theorem dX1_becomeRule_78 : decode cX1_becomeRule 78 = .ok (.aload_n 0, 1) := by decide +kernel
theorem dX1_becomeRule_79 : decode cX1_becomeRule 79 = .ok (.iconst 1, 1) := by decide +kernel
theorem dX1_becomeRule_80 : decode cX1_becomeRule 80 = .ok (.iconst 1, 1) := by decide +kernel
theorem dX1_becomeRule_81 : decode cX1_becomeRule 81 = .ok (.iconst 0, 1) := by decide +kernel
theorem dX1_becomeRule_82 : decode cX1_becomeRule 82 = .ok (.iconst 0, 1) := by decide +kernel
theorem dX1_becomeRule_83 : decode cX1_becomeRule 83 = .ok (.iconst 0, 1) := by decide +kernel
theorem dX1_becomeRule_84 : decode cX1_becomeRule 84 = .ok (.iconst 0, 1) := by decide +kernel
theorem dX1_becomeRule_85 : decode cX1_becomeRule 85 = .ok (.invokevirtual 98, 3) := by decide +kernel
theorem dX1_becomeRule_88 : decode cX1_becomeRule 88 = .ok (.pop, 1) := by decide +kernel
theorem dX1_becomeRule_89 : decode cX1_becomeRule 89 = .ok (.aload_n 0, 1) := by decide +kernel
theorem dX1_becomeRule_90 : decode cX1_becomeRule 90 = .ok (.iconst 1, 1) := by decide +kernel
theorem dX1_becomeRule_91 : decode cX1_becomeRule 91 = .ok (.iconst 2, 1) := by decide +kernel
theorem dX1_becomeRule_92 : decode cX1_becomeRule 92 = .ok (.iconst 0, 1) := by decide +kernel
theorem dX1_becomeRule_93 : decode cX1_becomeRule 93 = .ok (.iconst 0, 1) := by decide +kernel
theorem dX1_becomeRule_94 : decode cX1_becomeRule 94 = .ok (.iconst 0, 1) := by decide +kernel
theorem dX1_becomeRule_95 : decode cX1_becomeRule 95 = .ok (.iconst 0, 1) := by decide +kernel
theorem dX1_becomeRule_96 : decode cX1_becomeRule 96 = .ok (.invokevirtual 98, 3) := by decide +kernel
theorem dX1_becomeRule_99 : decode cX1_becomeRule 99 = .ok (.pop, 1) := by decide +kernel
theorem dX1_becomeRule_100 : decode cX1_becomeRule 100 = .ok (.aload_n 0, 1) := by decide +kernel
theorem dX1_becomeRule_101 : decode cX1_becomeRule 101 = .ok (.iconst 1, 1) := by decide +kernel
theorem dX1_becomeRule_102 : decode cX1_becomeRule 102 = .ok (.iconst 0, 1) := by decide +kernel
theorem dX1_becomeRule_103 : decode cX1_becomeRule 103 = .ok (.iconst 0, 1) := by decide +kernel
theorem dX1_becomeRule_104 : decode cX1_becomeRule 104 = .ok (.iconst 0, 1) := by decide +kernel
theorem dX1_becomeRule_105 : decode cX1_becomeRule 105 = .ok (.iconst 3, 1) := by decide +kernel
theorem dX1_becomeRule_106 : decode cX1_becomeRule 106 = .ok (.iconst 0, 1) := by decide +kernel
theorem dX1_becomeRule_107 : decode cX1_becomeRule 107 = .ok (.invokevirtual 98, 3) := by decide +kernel
theorem dX1_becomeRule_110 : decode cX1_becomeRule 110 = .ok (.pop, 1) := by decide +kernel
theorem dX1_becomeRule_111 : decode cX1_becomeRule 111 = .ok (.aload_n 0, 1) := by decide +kernel
theorem dX1_becomeRule_112 : decode cX1_becomeRule 112 = .ok (.iconst 1, 1) := by decide +kernel
theorem dX1_becomeRule_113 : decode cX1_becomeRule 113 = .ok (.iconst 0, 1) := by decide +kernel
theorem dX1_becomeRule_114 : decode cX1_becomeRule 114 = .ok (.iconst 0, 1) := by decide +kernel
theorem dX1_becomeRule_115 : decode cX1_becomeRule 115 = .ok (.iconst 0, 1) := by decide +kernel
theorem dX1_becomeRule_116 : decode cX1_becomeRule 116 = .ok (.iconst 4, 1) := by decide +kernel
theorem dX1_becomeRule_117 : decode cX1_becomeRule 117 = .ok (.iconst 0, 1) := by decide +kernel
theorem dX1_becomeRule_118 : decode cX1_becomeRule 118 = .ok (.invokevirtual 98, 3) := by decide +kernel
theorem dX1_becomeRule_121 : decode cX1_becomeRule 121 = .ok (.pop, 1) := by decide +kernel
theorem dX1_becomeRule_122 : decode cX1_becomeRule 122 = .ok (.return_, 1) := by decide +kernel
theorem dX2_init_0 : decode cX2_init 0 = .ok (.aload_n 0, 1) := by decide +kernel
theorem dX2_init_1 : decode cX2_init 1 = .ok (.invokespecial 3, 3) := by decide +kernel
theorem dX2_init_4 : decode cX2_init 4 = .ok (.aload_n 0, 1) := by decide +kernel
theorem dX2_init_5 : decode cX2_init 5 = .ok (.aload_n 1, 1) := by decide +kernel
theorem dX2_init_6 : decode cX2_init 6 = .ok (.putfield 9, 3) := by decide +kernel
theorem dX2_init_9 : decode cX2_init 9 = .ok (.aload_n 0, 1) := by decide +kernel
theorem dX2_init_10 : decode cX2_init 10 = .ok (.aload_n 2, 1) := by decide +kernel
theorem dX2_init_11 : decode cX2_init 11 = .ok (.putfield 15, 3) := by decide +kernel
theorem dX2_init_14 : decode cX2_init 14 = .ok (.aload_n 0, 1) := by decide +kernel
theorem dX2_init_15 : decode cX2_init 15 = .ok (.aload_n 3, 1) := by decide +kernel
theorem dX2_init_16 : decode cX2_init 16 = .ok (.putfield 19, 3) := by decide +kernel
theorem dX2_init_19 : decode cX2_init 19 = .ok (.return_, 1) := by decide +kernel
set_option maxRecDepth 20000 in
theorem ggX2_judge_X2_canBeAsked : GoodIn wsX2_judge wsX2_canBeAsked := goodIn_r _ [10, 1, 11, 2, 3, 12, 13, 14, 15, 16, 17, 18, 19, 20, 21, 22, 9, 23, 24, 25, 26, 139, 140, 141, 142, 143, 144, 145, 146, 147, 148, 149, 150, 151, 152, 153, 154, 155, 156, 157, 158, 159, 160, 161, 162] (by decide +kernel) (by decide +kernel)
set_option maxRecDepth 20000 in
theorem gX2_judge_X2_canBeAsked : GoodIn wsX2_judge (wsV RX2 23 RX2 yX2_canBeAsked wsX2_canBeAsked) := goodIn_app (goodIn_of _ (by decide +kernel)) ggX2_judge_X2_canBeAsked
set_option maxRecDepth 20000 in
theorem ggX2_judge_X2_wasJustHeld : GoodIn wsX2_judge wsX2_wasJustHeld := goodIn_r _ [30, 1, 4, 5, 12, 24, 31, 32, 33, 34, 9, 35, 36, 37, 38, 39, 40, 41, 42, 43, 44, 45, 46, 47, 48, 49, 50, 51, 52, 53, 54, 55, 56, 139, 140, 141, 142, 143, 144, 145, 146, 147, 148, 149, 150, 151, 152, 153, 154, 155, 156, 157, 158, 159, 160, 161, 162, 163, 164, 165, 166, 167, 168, 169, 170, 171, 172, 173, 174, 175, 176, 177] (by decide +kernel) (by decide +kernel)
set_option maxRecDepth 20000 in
theorem gX2_judge_X2_wasJustHeld : GoodIn wsX2_judge (wsV RX2 37 RX2 yX2_wasJustHeld wsX2_wasJustHeld) := goodIn_app (goodIn_of _ (by decide +kernel)) ggX2_judge_X2_wasJustHeld
set_option maxRecDepth 20000 in
theorem ggX2_judge_X2_numberOf : GoodIn wsX2_judge wsX2_numberOf := goodIn_r _ [59, 60, 48, 61, 62, 63] (by decide +kernel) (by decide +kernel)
set_option maxRecDepth 20000 in
theorem gX2_judge_X2_numberOf : GoodIn wsX2_judge (va_wsS RX2 44 yX2_numberOf wsX2_numberOf) := goodIn_app (goodIn_of _ (by decide +kernel)) ggX2_judge_X2_numberOf
set_option maxRecDepth 20000 in
theorem ggX2_judge_X2_hasRival : GoodIn wsX2_judge wsX2_hasRival := goodIn_r _ [67, 1, 4, 12, 24, 68, 69, 5, 70, 71, 72, 9, 73, 32, 33, 34, 35, 36, 37, 38, 39, 40, 41, 42, 47, 48, 49, 74, 51, 52, 53, 54, 55, 56, 75, 76, 77, 78, 79, 80, 81, 82, 83, 84, 85, 86, 87, 88, 89, 90, 91, 92, 93, 94, 95, 139, 140, 141, 142, 143, 144, 145, 146, 147, 148, 149, 150, 151, 152, 153, 154, 155, 156, 157, 158, 159, 160, 161, 162, 163, 164, 165, 166, 167, 168, 169, 170, 171, 172, 173, 174, 175, 176, 177] (by decide +kernel) (by decide +kernel)
set_option maxRecDepth 20000 in
theorem gX2_judge_X2_hasRival : GoodIn wsX2_judge (wsV RX2 48 RX2 yX2_hasRival wsX2_hasRival) := goodIn_app (goodIn_of _ (by decide +kernel)) ggX2_judge_X2_hasRival
set_option maxRecDepth 20000 in
theorem ggX2_judge_X4_countFits : GoodIn wsX2_judge wsX4_countFits := goodIn_r _ [99, 100, 101, 102, 103, 40, 104, 105, 106, 107, 108, 109, 110, 111, 112, 113, 42, 54, 79, 114, 115, 116, 117, 118, 119, 120, 121, 60, 48, 61, 80, 81, 82, 83, 84, 85, 86, 87, 88, 89, 90, 55, 56, 47, 49, 91, 92, 93, 94, 95, 122, 123, 124, 125, 126, 127, 128, 129, 130, 131, 132, 133, 134, 135, 136, 137, 138, 62, 63, 163, 164, 165, 166, 167, 168, 169, 170, 171, 172, 173, 174, 175, 176, 177, 150, 151, 152, 153, 154, 155, 156, 157, 158, 159, 160, 161, 162] (by decide +kernel) (by decide +kernel)
set_option maxRecDepth 20000 in
theorem gX2_judge_X4_countFits : GoodIn wsX2_judge (wsV RX2 51 RX4 yX4_countFits wsX4_countFits) := goodIn_app (goodIn_of _ (by decide +kernel)) ggX2_judge_X4_countFits
theorem dX2_judge_0 : decode cX2_judge 0 = .ok (.aload_n 0, 1) := by decide +kernel
theorem dX2_judge_1 : decode cX2_judge 1 = .ok (.invokevirtual 23, 3) := by decide +kernel
theorem dX2_judge_4 : decode cX2_judge 4 = .ok (.ifCond .ne 5, 3) := by decide +kernel
theorem dX2_judge_7 : decode cX2_judge 7 = .ok (.iconst (-1), 1) := by decide +kernel
theorem dX2_judge_8 : decode cX2_judge 8 = .ok (.ireturn, 1) := by decide +kernel
theorem dX2_judge_9 : decode cX2_judge 9 = .ok (.iconst 0, 1) := by decide +kernel
theorem dX2_judge_10 : decode cX2_judge 10 = .ok (.istore_n 1, 1) := by decide +kernel
theorem dX2_judge_11 : decode cX2_judge 11 = .ok (.iload_n 1, 1) := by decide +kernel
theorem dX2_judge_12 : decode cX2_judge 12 = .ok (.aload_n 0, 1) := by decide +kernel
theorem dX2_judge_13 : decode cX2_judge 13 = .ok (.getfield 19, 3) := by decide +kernel
theorem dX2_judge_16 : decode cX2_judge 16 = .ok (.getfield 27, 3) := by decide +kernel
theorem dX2_judge_19 : decode cX2_judge 19 = .ok (.if_icmp .ge 48, 3) := by decide +kernel
theorem dX2_judge_22 : decode cX2_judge 22 = .ok (.aload_n 0, 1) := by decide +kernel
theorem dX2_judge_23 : decode cX2_judge 23 = .ok (.getfield 19, 3) := by decide +kernel
theorem dX2_judge_26 : decode cX2_judge 26 = .ok (.getfield 33, 3) := by decide +kernel
theorem dX2_judge_29 : decode cX2_judge 29 = .ok (.iload_n 1, 1) := by decide +kernel
theorem dX2_judge_30 : decode cX2_judge 30 = .ok (.iaload, 1) := by decide +kernel
theorem dX2_judge_31 : decode cX2_judge 31 = .ok (.iconst 1, 1) := by decide +kernel
theorem dX2_judge_32 : decode cX2_judge 32 = .ok (.if_icmp .ne 29, 3) := by decide +kernel
theorem dX2_judge_35 : decode cX2_judge 35 = .ok (.aload_n 0, 1) := by decide +kernel
theorem dX2_judge_36 : decode cX2_judge 36 = .ok (.iload_n 1, 1) := by decide +kernel
theorem dX2_judge_37 : decode cX2_judge 37 = .ok (.invokevirtual 37, 3) := by decide +kernel
theorem dX2_judge_40 : decode cX2_judge 40 = .ok (.ifCond .ne 21, 3) := by decide +kernel
theorem dX2_judge_43 : decode cX2_judge 43 = .ok (.bipush (-2), 2) := by decide +kernel
theorem dX2_judge_45 : decode cX2_judge 45 = .ok (.iconst 4, 1) := by decide +kernel
theorem dX2_judge_46 : decode cX2_judge 46 = .ok (.aload_n 0, 1) := by decide +kernel
theorem dX2_judge_47 : decode cX2_judge 47 = .ok (.getfield 19, 3) := by decide +kernel
theorem dX2_judge_50 : decode cX2_judge 50 = .ok (.getfield 41, 3) := by decide +kernel
theorem dX2_judge_53 : decode cX2_judge 53 = .ok (.iload_n 1, 1) := by decide +kernel
theorem dX2_judge_54 : decode cX2_judge 54 = .ok (.iaload, 1) := by decide +kernel
theorem dX2_judge_55 : decode cX2_judge 55 = .ok (.invokestatic 44, 3) := by decide +kernel
theorem dX2_judge_58 : decode cX2_judge 58 = .ok (.imul, 1) := by decide +kernel
theorem dX2_judge_59 : decode cX2_judge 59 = .ok (.isub, 1) := by decide +kernel
theorem dX2_judge_60 : decode cX2_judge 60 = .ok (.ireturn, 1) := by decide +kernel
theorem dX2_judge_61 : decode cX2_judge 61 = .ok (.iinc 1 1, 3) := by decide +kernel
theorem dX2_judge_64 : decode cX2_judge 64 = .ok (.goto (-53), 3) := by decide +kernel
theorem dX2_judge_67 : decode cX2_judge 67 = .ok (.iconst 0, 1) := by decide +kernel
theorem dX2_judge_68 : decode cX2_judge 68 = .ok (.istore_n 1, 1) := by decide +kernel
theorem dX2_judge_69 : decode cX2_judge 69 = .ok (.iload_n 1, 1) := by decide +kernel
theorem dX2_judge_70 : decode cX2_judge 70 = .ok (.aload_n 0, 1) := by decide +kernel
theorem dX2_judge_71 : decode cX2_judge 71 = .ok (.getfield 19, 3) := by decide +kernel
theorem dX2_judge_74 : decode cX2_judge 74 = .ok (.getfield 27, 3) := by decide +kernel
theorem dX2_judge_77 : decode cX2_judge 77 = .ok (.if_icmp .ge 48, 3) := by decide +kernel
theorem dX2_judge_80 : decode cX2_judge 80 = .ok (.aload_n 0, 1) := by decide +kernel
theorem dX2_judge_81 : decode cX2_judge 81 = .ok (.getfield 19, 3) := by decide +kernel
theorem dX2_judge_84 : decode cX2_judge 84 = .ok (.getfield 33, 3) := by decide +kernel
theorem dX2_judge_87 : decode cX2_judge 87 = .ok (.iload_n 1, 1) := by decide +kernel
theorem dX2_judge_88 : decode cX2_judge 88 = .ok (.iaload, 1) := by decide +kernel
theorem dX2_judge_89 : decode cX2_judge 89 = .ok (.iconst 1, 1) := by decide +kernel
theorem dX2_judge_90 : decode cX2_judge 90 = .ok (.if_icmp .ne 29, 3) := by decide +kernel
theorem dX2_judge_93 : decode cX2_judge 93 = .ok (.aload_n 0, 1) := by decide +kernel
theorem dX2_judge_94 : decode cX2_judge 94 = .ok (.iload_n 1, 1) := by decide +kernel
theorem dX2_judge_95 : decode cX2_judge 95 = .ok (.invokevirtual 48, 3) := by decide +kernel
theorem dX2_judge_98 : decode cX2_judge 98 = .ok (.ifCond .eq 21, 3) := by decide +kernel
theorem dX2_judge_101 : decode cX2_judge 101 = .ok (.bipush (-3), 2) := by decide +kernel
theorem dX2_judge_103 : decode cX2_judge 103 = .ok (.iconst 4, 1) := by decide +kernel
theorem dX2_judge_104 : decode cX2_judge 104 = .ok (.aload_n 0, 1) := by decide +kernel
theorem dX2_judge_105 : decode cX2_judge 105 = .ok (.getfield 19, 3) := by decide +kernel
theorem dX2_judge_108 : decode cX2_judge 108 = .ok (.getfield 41, 3) := by decide +kernel
theorem dX2_judge_111 : decode cX2_judge 111 = .ok (.iload_n 1, 1) := by decide +kernel
theorem dX2_judge_112 : decode cX2_judge 112 = .ok (.iaload, 1) := by decide +kernel
theorem dX2_judge_113 : decode cX2_judge 113 = .ok (.invokestatic 44, 3) := by decide +kernel
theorem dX2_judge_116 : decode cX2_judge 116 = .ok (.imul, 1) := by decide +kernel
theorem dX2_judge_117 : decode cX2_judge 117 = .ok (.isub, 1) := by decide +kernel
theorem dX2_judge_118 : decode cX2_judge 118 = .ok (.ireturn, 1) := by decide +kernel
theorem dX2_judge_119 : decode cX2_judge 119 = .ok (.iinc 1 1, 3) := by decide +kernel
theorem dX2_judge_122 : decode cX2_judge 122 = .ok (.goto (-53), 3) := by decide +kernel
theorem dX2_judge_125 : decode cX2_judge 125 = .ok (.aload_n 0, 1) := by decide +kernel
theorem dX2_judge_126 : decode cX2_judge 126 = .ok (.getfield 15, 3) := by decide +kernel
theorem dX2_judge_129 : decode cX2_judge 129 = .ok (.invokevirtual 51, 3) := by decide +kernel
theorem dX2_judge_132 : decode cX2_judge 132 = .ok (.ifCond .ne 7, 3) := by decide +kernel
theorem dX2_judge_135 : decode cX2_judge 135 = .ok (.iconst 1, 1) := by decide +kernel
theorem dX2_judge_136 : decode cX2_judge 136 = .ok (.goto 5, 3) := by decide +kernel
theorem dX2_judge_139 : decode cX2_judge 139 = .ok (.bipush (-4), 2) := by decide +kernel
theorem dX2_judge_141 : decode cX2_judge 141 = .ok (.ireturn, 1) := by decide +kernel
set_option maxRecDepth 20000 in
theorem ggX2_numberOf_X7_columnOf : GoodIn wsX2_numberOf wsX7_columnOf := goodIn_r _ [3] (by decide +kernel) (by decide +kernel)
set_option maxRecDepth 20000 in
theorem gX2_numberOf_X7_columnOf_n57 : GoodIn wsX2_numberOf (wsX7_columnOf) := ggX2_numberOf_X7_columnOf
set_option maxRecDepth 20000 in
theorem ggX2_numberOf_X7_lineOf : GoodIn wsX2_numberOf wsX7_lineOf := goodIn_r _ [5] (by decide +kernel) (by decide +kernel)
set_option maxRecDepth 20000 in
theorem gX2_numberOf_X7_lineOf_n60 : GoodIn wsX2_numberOf (wsX7_lineOf) := ggX2_numberOf_X7_lineOf
theorem dX2_numberOf_0 : decode cX2_numberOf 0 = .ok (.iload_n 0, 1) := by decide +kernel
theorem dX2_numberOf_1 : decode cX2_numberOf 1 = .ok (.invokestatic 57, 3) := by decide +kernel
theorem dX2_numberOf_4 : decode cX2_numberOf 4 = .ok (.bipush 16, 2) := by decide +kernel
theorem dX2_numberOf_6 : decode cX2_numberOf 6 = .ok (.iload_n 0, 1) := by decide +kernel
theorem dX2_numberOf_7 : decode cX2_numberOf 7 = .ok (.invokestatic 60, 3) := by decide +kernel
theorem dX2_numberOf_10 : decode cX2_numberOf 10 = .ok (.imul, 1) := by decide +kernel
theorem dX2_numberOf_11 : decode cX2_numberOf 11 = .ok (.iadd, 1) := by decide +kernel
theorem dX2_numberOf_12 : decode cX2_numberOf 12 = .ok (.ireturn, 1) := by decide +kernel
set_option maxRecDepth 20000 in
theorem ggX2_canBeAsked_X5_areAllKept : GoodIn wsX2_canBeAsked wsX5_areAllKept := goodIn_r _ [10, 11, 12, 24, 25, 26, 27, 28, 29, 30, 31] (by decide +kernel) (by decide +kernel)
set_option maxRecDepth 20000 in
theorem gX2_canBeAsked_X5_areAllKept : GoodIn wsX2_canBeAsked (wsV RX2 67 RX5 yX5_areAllKept wsX5_areAllKept) := goodIn_app (goodIn_of _ (by decide +kernel)) ggX2_canBeAsked_X5_areAllKept
set_option maxRecDepth 20000 in
theorem ggX2_canBeAsked_X2_isOfOrderlyKind : GoodIn wsX2_canBeAsked wsX2_isOfOrderlyKind := goodIn_r _ [17, 18, 19, 20, 21, 22, 23, 32, 33, 34, 35, 36, 37, 38, 39, 40, 41, 42, 43, 44] (by decide +kernel) (by decide +kernel)
set_option maxRecDepth 20000 in
theorem gX2_canBeAsked_X2_isOfOrderlyKind : GoodIn wsX2_canBeAsked (wsV RX2 73 RX2 yX2_isOfOrderlyKind wsX2_isOfOrderlyKind) := goodIn_app (goodIn_of _ (by decide +kernel)) ggX2_canBeAsked_X2_isOfOrderlyKind
theorem dX2_canBeAsked_0 : decode cX2_canBeAsked 0 = .ok (.aload_n 0, 1) := by decide +kernel
theorem dX2_canBeAsked_1 : decode cX2_canBeAsked 1 = .ok (.getfield 19, 3) := by decide +kernel
theorem dX2_canBeAsked_4 : decode cX2_canBeAsked 4 = .ok (.getfield 63, 3) := by decide +kernel
theorem dX2_canBeAsked_7 : decode cX2_canBeAsked 7 = .ok (.ifCond .eq 13, 3) := by decide +kernel
theorem dX2_canBeAsked_10 : decode cX2_canBeAsked 10 = .ok (.aload_n 0, 1) := by decide +kernel
theorem dX2_canBeAsked_11 : decode cX2_canBeAsked 11 = .ok (.getfield 19, 3) := by decide +kernel
theorem dX2_canBeAsked_14 : decode cX2_canBeAsked 14 = .ok (.invokevirtual 67, 3) := by decide +kernel
theorem dX2_canBeAsked_17 : decode cX2_canBeAsked 17 = .ok (.ifCond .ne 5, 3) := by decide +kernel
theorem dX2_canBeAsked_20 : decode cX2_canBeAsked 20 = .ok (.iconst 0, 1) := by decide +kernel
theorem dX2_canBeAsked_21 : decode cX2_canBeAsked 21 = .ok (.ireturn, 1) := by decide +kernel
theorem dX2_canBeAsked_22 : decode cX2_canBeAsked 22 = .ok (.iconst 0, 1) := by decide +kernel
theorem dX2_canBeAsked_23 : decode cX2_canBeAsked 23 = .ok (.istore_n 1, 1) := by decide +kernel
theorem dX2_canBeAsked_24 : decode cX2_canBeAsked 24 = .ok (.iload_n 1, 1) := by decide +kernel
theorem dX2_canBeAsked_25 : decode cX2_canBeAsked 25 = .ok (.aload_n 0, 1) := by decide +kernel
theorem dX2_canBeAsked_26 : decode cX2_canBeAsked 26 = .ok (.getfield 19, 3) := by decide +kernel
theorem dX2_canBeAsked_29 : decode cX2_canBeAsked 29 = .ok (.getfield 27, 3) := by decide +kernel
theorem dX2_canBeAsked_32 : decode cX2_canBeAsked 32 = .ok (.if_icmp .ge 52, 3) := by decide +kernel
theorem dX2_canBeAsked_35 : decode cX2_canBeAsked 35 = .ok (.aload_n 0, 1) := by decide +kernel
theorem dX2_canBeAsked_36 : decode cX2_canBeAsked 36 = .ok (.getfield 19, 3) := by decide +kernel
theorem dX2_canBeAsked_39 : decode cX2_canBeAsked 39 = .ok (.getfield 33, 3) := by decide +kernel
theorem dX2_canBeAsked_42 : decode cX2_canBeAsked 42 = .ok (.iload_n 1, 1) := by decide +kernel
theorem dX2_canBeAsked_43 : decode cX2_canBeAsked 43 = .ok (.iaload, 1) := by decide +kernel
theorem dX2_canBeAsked_44 : decode cX2_canBeAsked 44 = .ok (.ifCond .eq 16, 3) := by decide +kernel
theorem dX2_canBeAsked_47 : decode cX2_canBeAsked 47 = .ok (.aload_n 0, 1) := by decide +kernel
theorem dX2_canBeAsked_48 : decode cX2_canBeAsked 48 = .ok (.getfield 19, 3) := by decide +kernel
theorem dX2_canBeAsked_51 : decode cX2_canBeAsked 51 = .ok (.getfield 33, 3) := by decide +kernel
theorem dX2_canBeAsked_54 : decode cX2_canBeAsked 54 = .ok (.iload_n 1, 1) := by decide +kernel
theorem dX2_canBeAsked_55 : decode cX2_canBeAsked 55 = .ok (.iaload, 1) := by decide +kernel
theorem dX2_canBeAsked_56 : decode cX2_canBeAsked 56 = .ok (.iconst 1, 1) := by decide +kernel
theorem dX2_canBeAsked_57 : decode cX2_canBeAsked 57 = .ok (.if_icmp .ne 19, 3) := by decide +kernel
theorem dX2_canBeAsked_60 : decode cX2_canBeAsked 60 = .ok (.aload_n 0, 1) := by decide +kernel
theorem dX2_canBeAsked_61 : decode cX2_canBeAsked 61 = .ok (.aload_n 0, 1) := by decide +kernel
theorem dX2_canBeAsked_62 : decode cX2_canBeAsked 62 = .ok (.getfield 19, 3) := by decide +kernel
theorem dX2_canBeAsked_65 : decode cX2_canBeAsked 65 = .ok (.getfield 70, 3) := by decide +kernel
theorem dX2_canBeAsked_68 : decode cX2_canBeAsked 68 = .ok (.iload_n 1, 1) := by decide +kernel
theorem dX2_canBeAsked_69 : decode cX2_canBeAsked 69 = .ok (.iaload, 1) := by decide +kernel
theorem dX2_canBeAsked_70 : decode cX2_canBeAsked 70 = .ok (.invokevirtual 73, 3) := by decide +kernel
theorem dX2_canBeAsked_73 : decode cX2_canBeAsked 73 = .ok (.ifCond .ne 5, 3) := by decide +kernel
theorem dX2_canBeAsked_76 : decode cX2_canBeAsked 76 = .ok (.iconst 0, 1) := by decide +kernel
theorem dX2_canBeAsked_77 : decode cX2_canBeAsked 77 = .ok (.ireturn, 1) := by decide +kernel
theorem dX2_canBeAsked_78 : decode cX2_canBeAsked 78 = .ok (.iinc 1 1, 3) := by decide +kernel
theorem dX2_canBeAsked_81 : decode cX2_canBeAsked 81 = .ok (.goto (-57), 3) := by decide +kernel
theorem dX2_canBeAsked_84 : decode cX2_canBeAsked 84 = .ok (.iconst 1, 1) := by decide +kernel
theorem dX2_canBeAsked_85 : decode cX2_canBeAsked 85 = .ok (.ireturn, 1) := by decide +kernel
theorem dX2_isOfOrderlyKind_0 : decode cX2_isOfOrderlyKind 0 = .ok (.aload_n 0, 1) := by decide +kernel
theorem dX2_isOfOrderlyKind_1 : decode cX2_isOfOrderlyKind 1 = .ok (.getfield 9, 3) := by decide +kernel
theorem dX2_isOfOrderlyKind_4 : decode cX2_isOfOrderlyKind 4 = .ok (.getfield 76, 3) := by decide +kernel
theorem dX2_isOfOrderlyKind_7 : decode cX2_isOfOrderlyKind 7 = .ok (.iload_n 1, 1) := by decide +kernel
theorem dX2_isOfOrderlyKind_8 : decode cX2_isOfOrderlyKind 8 = .ok (.iaload, 1) := by decide +kernel
theorem dX2_isOfOrderlyKind_9 : decode cX2_isOfOrderlyKind 9 = .ok (.istore_n 2, 1) := by decide +kernel
theorem dX2_isOfOrderlyKind_10 : decode cX2_isOfOrderlyKind 10 = .ok (.iload_n 2, 1) := by decide +kernel
theorem dX2_isOfOrderlyKind_11 : decode cX2_isOfOrderlyKind 11 = .ok (.ifCond .eq 27, 3) := by decide +kernel
theorem dX2_isOfOrderlyKind_14 : decode cX2_isOfOrderlyKind 14 = .ok (.iload_n 2, 1) := by decide +kernel
theorem dX2_isOfOrderlyKind_15 : decode cX2_isOfOrderlyKind 15 = .ok (.iconst 1, 1) := by decide +kernel
theorem dX2_isOfOrderlyKind_16 : decode cX2_isOfOrderlyKind 16 = .ok (.if_icmp .eq 22, 3) := by decide +kernel
theorem dX2_isOfOrderlyKind_19 : decode cX2_isOfOrderlyKind 19 = .ok (.iload_n 2, 1) := by decide +kernel
theorem dX2_isOfOrderlyKind_20 : decode cX2_isOfOrderlyKind 20 = .ok (.iconst 5, 1) := by decide +kernel
theorem dX2_isOfOrderlyKind_21 : decode cX2_isOfOrderlyKind 21 = .ok (.if_icmp .ne 21, 3) := by decide +kernel
theorem dX2_isOfOrderlyKind_24 : decode cX2_isOfOrderlyKind 24 = .ok (.aload_n 0, 1) := by decide +kernel
theorem dX2_isOfOrderlyKind_25 : decode cX2_isOfOrderlyKind 25 = .ok (.getfield 9, 3) := by decide +kernel
theorem dX2_isOfOrderlyKind_28 : decode cX2_isOfOrderlyKind 28 = .ok (.getfield 81, 3) := by decide +kernel
theorem dX2_isOfOrderlyKind_31 : decode cX2_isOfOrderlyKind 31 = .ok (.iconst 1, 1) := by decide +kernel
theorem dX2_isOfOrderlyKind_32 : decode cX2_isOfOrderlyKind 32 = .ok (.iload_n 1, 1) := by decide +kernel
theorem dX2_isOfOrderlyKind_33 : decode cX2_isOfOrderlyKind 33 = .ok (.iadd, 1) := by decide +kernel
theorem dX2_isOfOrderlyKind_34 : decode cX2_isOfOrderlyKind 34 = .ok (.iaload, 1) := by decide +kernel
theorem dX2_isOfOrderlyKind_35 : decode cX2_isOfOrderlyKind 35 = .ok (.ifCond .ne 7, 3) := by decide +kernel
theorem dX2_isOfOrderlyKind_38 : decode cX2_isOfOrderlyKind 38 = .ok (.iconst 1, 1) := by decide +kernel
theorem dX2_isOfOrderlyKind_39 : decode cX2_isOfOrderlyKind 39 = .ok (.goto 4, 3) := by decide +kernel
theorem dX2_isOfOrderlyKind_42 : decode cX2_isOfOrderlyKind 42 = .ok (.iconst 0, 1) := by decide +kernel
theorem dX2_isOfOrderlyKind_43 : decode cX2_isOfOrderlyKind 43 = .ok (.ireturn, 1) := by decide +kernel
set_option maxRecDepth 20000 in
theorem ggX2_laterAround_X4_isFree : GoodIn wsX2_laterAround wsX4_isFree := goodIn_r _ [8, 9, 21, 22, 23, 24, 25, 26, 27, 28, 29, 30, 31, 32, 33, 34, 35] (by decide +kernel) (by decide +kernel)
set_option maxRecDepth 20000 in
theorem gX2_laterAround_X4_isFree : GoodIn wsX2_laterAround (wsV RX2 87 RX4 yX4_isFree wsX4_isFree) := goodIn_app (goodIn_of _ (by decide +kernel)) ggX2_laterAround_X4_isFree
theorem dX2_laterAround_0 : decode cX2_laterAround 0 = .ok (.iconst 0, 1) := by decide +kernel
theorem dX2_laterAround_1 : decode cX2_laterAround 1 = .ok (.istore_n 2, 1) := by decide +kernel
theorem dX2_laterAround_2 : decode cX2_laterAround 2 = .ok (.iconst 0, 1) := by decide +kernel
theorem dX2_laterAround_3 : decode cX2_laterAround 3 = .ok (.istore_n 3, 1) := by decide +kernel
theorem dX2_laterAround_4 : decode cX2_laterAround 4 = .ok (.iload_n 3, 1) := by decide +kernel
theorem dX2_laterAround_5 : decode cX2_laterAround 5 = .ok (.iconst 4, 1) := by decide +kernel
theorem dX2_laterAround_6 : decode cX2_laterAround 6 = .ok (.if_icmp .ge 58, 3) := by decide +kernel
theorem dX2_laterAround_9 : decode cX2_laterAround 9 = .ok (.iload_n 1, 1) := by decide +kernel
theorem dX2_laterAround_10 : decode cX2_laterAround 10 = .ok (.getstatic 84, 3) := by decide +kernel
theorem dX2_laterAround_13 : decode cX2_laterAround 13 = .ok (.iload_n 3, 1) := by decide +kernel
theorem dX2_laterAround_14 : decode cX2_laterAround 14 = .ok (.iaload, 1) := by decide +kernel
theorem dX2_laterAround_15 : decode cX2_laterAround 15 = .ok (.iadd, 1) := by decide +kernel
theorem dX2_laterAround_16 : decode cX2_laterAround 16 = .ok (.istore 4, 2) := by decide +kernel
theorem dX2_laterAround_18 : decode cX2_laterAround 18 = .ok (.aload_n 0, 1) := by decide +kernel
theorem dX2_laterAround_19 : decode cX2_laterAround 19 = .ok (.getfield 15, 3) := by decide +kernel
theorem dX2_laterAround_22 : decode cX2_laterAround 22 = .ok (.iload 4, 2) := by decide +kernel
theorem dX2_laterAround_24 : decode cX2_laterAround 24 = .ok (.invokevirtual 87, 3) := by decide +kernel
theorem dX2_laterAround_27 : decode cX2_laterAround 27 = .ok (.ifCond .ne 31, 3) := by decide +kernel
theorem dX2_laterAround_30 : decode cX2_laterAround 30 = .ok (.aload_n 0, 1) := by decide +kernel
theorem dX2_laterAround_31 : decode cX2_laterAround 31 = .ok (.getfield 19, 3) := by decide +kernel
theorem dX2_laterAround_34 : decode cX2_laterAround 34 = .ok (.getfield 90, 3) := by decide +kernel
theorem dX2_laterAround_37 : decode cX2_laterAround 37 = .ok (.iload 4, 2) := by decide +kernel
theorem dX2_laterAround_39 : decode cX2_laterAround 39 = .ok (.iaload, 1) := by decide +kernel
theorem dX2_laterAround_40 : decode cX2_laterAround 40 = .ok (.aload_n 0, 1) := by decide +kernel
theorem dX2_laterAround_41 : decode cX2_laterAround 41 = .ok (.getfield 19, 3) := by decide +kernel
theorem dX2_laterAround_44 : decode cX2_laterAround 44 = .ok (.getfield 90, 3) := by decide +kernel
theorem dX2_laterAround_47 : decode cX2_laterAround 47 = .ok (.iload_n 1, 1) := by decide +kernel
theorem dX2_laterAround_48 : decode cX2_laterAround 48 = .ok (.iaload, 1) := by decide +kernel
theorem dX2_laterAround_49 : decode cX2_laterAround 49 = .ok (.if_icmp .le 9, 3) := by decide +kernel
theorem dX2_laterAround_52 : decode cX2_laterAround 52 = .ok (.iload_n 2, 1) := by decide +kernel
theorem dX2_laterAround_53 : decode cX2_laterAround 53 = .ok (.iconst 1, 1) := by decide +kernel
theorem dX2_laterAround_54 : decode cX2_laterAround 54 = .ok (.iload_n 3, 1) := by decide +kernel
theorem dX2_laterAround_55 : decode cX2_laterAround 55 = .ok (.ishl, 1) := by decide +kernel
theorem dX2_laterAround_56 : decode cX2_laterAround 56 = .ok (.ior, 1) := by decide +kernel
theorem dX2_laterAround_57 : decode cX2_laterAround 57 = .ok (.istore_n 2, 1) := by decide +kernel
theorem dX2_laterAround_58 : decode cX2_laterAround 58 = .ok (.iinc 3 1, 3) := by decide +kernel
theorem dX2_laterAround_61 : decode cX2_laterAround 61 = .ok (.goto (-57), 3) := by decide +kernel
theorem dX2_laterAround_64 : decode cX2_laterAround 64 = .ok (.iload_n 2, 1) := by decide +kernel
theorem dX2_laterAround_65 : decode cX2_laterAround 65 = .ok (.ireturn, 1) := by decide +kernel
set_option maxRecDepth 20000 in
theorem ggX2_wasJustHeld_X2_laterAround : GoodIn wsX2_wasJustHeld wsX2_laterAround := goodIn_r _ [11, 3, 1, 12, 13, 14, 15, 16, 17, 18, 33, 34, 35, 36, 37, 38, 39, 40, 41, 42, 43, 57, 58, 59, 60, 61, 62, 63, 64, 65, 66, 67, 68, 69, 70, 71] (by decide +kernel) (by decide +kernel)
set_option maxRecDepth 20000 in
theorem gX2_wasJustHeld_X2_laterAround : GoodIn wsX2_wasJustHeld (wsV RX2 93 RX2 yX2_laterAround wsX2_laterAround) := goodIn_app (goodIn_of _ (by decide +kernel)) ggX2_wasJustHeld_X2_laterAround
set_option maxRecDepth 20000 in
theorem ggX2_wasJustHeld_X4_holdOfCode : GoodIn wsX2_wasJustHeld wsX4_holdOfCode := goodIn_r _ [22, 23, 24, 25, 26, 27, 28, 16, 29, 30, 31, 18, 32, 57, 58, 59, 60, 61, 62, 63, 64, 65, 66, 67, 68, 69, 70, 71, 44, 45, 46, 47, 48, 49, 50, 51, 52, 53, 54, 55, 56] (by decide +kernel) (by decide +kernel)
set_option maxRecDepth 20000 in
theorem gX2_wasJustHeld_X4_holdOfCode : GoodIn wsX2_wasJustHeld (wsV RX2 96 RX4 yX4_holdOfCode wsX4_holdOfCode) := goodIn_app (goodIn_of _ (by decide +kernel)) ggX2_wasJustHeld_X4_holdOfCode
theorem dX2_wasJustHeld_0 : decode cX2_wasJustHeld 0 = .ok (.aload_n 0, 1) := by decide +kernel
theorem dX2_wasJustHeld_1 : decode cX2_wasJustHeld 1 = .ok (.getfield 19, 3) := by decide +kernel
theorem dX2_wasJustHeld_4 : decode cX2_wasJustHeld 4 = .ok (.getfield 41, 3) := by decide +kernel
theorem dX2_wasJustHeld_7 : decode cX2_wasJustHeld 7 = .ok (.iload_n 1, 1) := by decide +kernel
theorem dX2_wasJustHeld_8 : decode cX2_wasJustHeld 8 = .ok (.iaload, 1) := by decide +kernel
theorem dX2_wasJustHeld_9 : decode cX2_wasJustHeld 9 = .ok (.istore_n 2, 1) := by decide +kernel
theorem dX2_wasJustHeld_10 : decode cX2_wasJustHeld 10 = .ok (.aload_n 0, 1) := by decide +kernel
theorem dX2_wasJustHeld_11 : decode cX2_wasJustHeld 11 = .ok (.getfield 15, 3) := by decide +kernel
theorem dX2_wasJustHeld_14 : decode cX2_wasJustHeld 14 = .ok (.iconst 1, 1) := by decide +kernel
theorem dX2_wasJustHeld_15 : decode cX2_wasJustHeld 15 = .ok (.aload_n 0, 1) := by decide +kernel
theorem dX2_wasJustHeld_16 : decode cX2_wasJustHeld 16 = .ok (.getfield 19, 3) := by decide +kernel
theorem dX2_wasJustHeld_19 : decode cX2_wasJustHeld 19 = .ok (.getfield 70, 3) := by decide +kernel
theorem dX2_wasJustHeld_22 : decode cX2_wasJustHeld 22 = .ok (.iload_n 1, 1) := by decide +kernel
theorem dX2_wasJustHeld_23 : decode cX2_wasJustHeld 23 = .ok (.iaload, 1) := by decide +kernel
theorem dX2_wasJustHeld_24 : decode cX2_wasJustHeld 24 = .ok (.iadd, 1) := by decide +kernel
theorem dX2_wasJustHeld_25 : decode cX2_wasJustHeld 25 = .ok (.iload_n 2, 1) := by decide +kernel
theorem dX2_wasJustHeld_26 : decode cX2_wasJustHeld 26 = .ok (.aload_n 0, 1) := by decide +kernel
theorem dX2_wasJustHeld_27 : decode cX2_wasJustHeld 27 = .ok (.iload_n 2, 1) := by decide +kernel
theorem dX2_wasJustHeld_28 : decode cX2_wasJustHeld 28 = .ok (.invokevirtual 93, 3) := by decide +kernel
theorem dX2_wasJustHeld_31 : decode cX2_wasJustHeld 31 = .ok (.invokevirtual 96, 3) := by decide +kernel
theorem dX2_wasJustHeld_34 : decode cX2_wasJustHeld 34 = .ok (.aload_n 0, 1) := by decide +kernel
theorem dX2_wasJustHeld_35 : decode cX2_wasJustHeld 35 = .ok (.getfield 9, 3) := by decide +kernel
theorem dX2_wasJustHeld_38 : decode cX2_wasJustHeld 38 = .ok (.getfield 100, 3) := by decide +kernel
theorem dX2_wasJustHeld_41 : decode cX2_wasJustHeld 41 = .ok (.if_icmp .ne 7, 3) := by decide +kernel
theorem dX2_wasJustHeld_44 : decode cX2_wasJustHeld 44 = .ok (.iconst 1, 1) := by decide +kernel
theorem dX2_wasJustHeld_45 : decode cX2_wasJustHeld 45 = .ok (.goto 4, 3) := by decide +kernel
theorem dX2_wasJustHeld_48 : decode cX2_wasJustHeld 48 = .ok (.iconst 0, 1) := by decide +kernel
theorem dX2_wasJustHeld_49 : decode cX2_wasJustHeld 49 = .ok (.ireturn, 1) := by decide +kernel
set_option maxRecDepth 20000 in
theorem ggX2_hasRival_X2_outputsOf : GoodIn wsX2_hasRival wsX2_outputsOf := goodIn_r _ [12, 7, 13, 14, 15, 11, 16, 1, 17, 18, 19, 20, 21, 22, 23, 24, 25, 26, 27, 28, 29, 30, 31, 32, 33, 55, 56, 57, 58, 59, 60, 61, 62, 63, 64, 65, 79, 80, 81, 82, 83, 84, 85, 86, 87, 88, 89, 90, 91, 92, 93, 66, 67, 68, 69, 70, 71, 72, 73, 74, 75, 76, 77, 78] (by decide +kernel) (by decide +kernel)
set_option maxRecDepth 20000 in
theorem gX2_hasRival_X2_outputsOf : GoodIn wsX2_hasRival (wsV RX2 109 RX2 yX2_outputsOf wsX2_outputsOf) := goodIn_app (goodIn_of _ (by decide +kernel)) ggX2_hasRival_X2_outputsOf
set_option maxRecDepth 20000 in
theorem ggX2_hasRival_X4_heldAt : GoodIn wsX2_hasRival wsX4_heldAt := goodIn_r _ [37, 31, 38, 39, 40, 41, 21, 42, 43, 44, 45, 46, 47, 48, 49, 23, 32, 33, 24, 25, 26, 50, 51, 52, 53, 54, 79, 80, 81, 82, 83, 84, 85, 86, 87, 88, 89, 90, 91, 92, 93, 66, 67, 68, 69, 70, 71, 72, 73, 74, 75, 76, 77, 78] (by decide +kernel) (by decide +kernel)
set_option maxRecDepth 20000 in
theorem gX2_hasRival_X4_heldAt : GoodIn wsX2_hasRival (wsV RX2 113 RX4 yX4_heldAt wsX4_heldAt) := goodIn_app (goodIn_of _ (by decide +kernel)) ggX2_hasRival_X4_heldAt
theorem dX2_hasRival_0 : decode cX2_hasRival 0 = .ok (.aload_n 0, 1) := by decide +kernel
theorem dX2_hasRival_1 : decode cX2_hasRival 1 = .ok (.getfield 19, 3) := by decide +kernel
theorem dX2_hasRival_4 : decode cX2_hasRival 4 = .ok (.getfield 41, 3) := by decide +kernel
theorem dX2_hasRival_7 : decode cX2_hasRival 7 = .ok (.iload_n 1, 1) := by decide +kernel
theorem dX2_hasRival_8 : decode cX2_hasRival 8 = .ok (.iaload, 1) := by decide +kernel
theorem dX2_hasRival_9 : decode cX2_hasRival 9 = .ok (.istore_n 2, 1) := by decide +kernel
theorem dX2_hasRival_10 : decode cX2_hasRival 10 = .ok (.aload_n 0, 1) := by decide +kernel
theorem dX2_hasRival_11 : decode cX2_hasRival 11 = .ok (.getfield 19, 3) := by decide +kernel
theorem dX2_hasRival_14 : decode cX2_hasRival 14 = .ok (.getfield 70, 3) := by decide +kernel
theorem dX2_hasRival_17 : decode cX2_hasRival 17 = .ok (.iload_n 1, 1) := by decide +kernel
theorem dX2_hasRival_18 : decode cX2_hasRival 18 = .ok (.iaload, 1) := by decide +kernel
theorem dX2_hasRival_19 : decode cX2_hasRival 19 = .ok (.istore_n 3, 1) := by decide +kernel
theorem dX2_hasRival_20 : decode cX2_hasRival 20 = .ok (.aload_n 0, 1) := by decide +kernel
theorem dX2_hasRival_21 : decode cX2_hasRival 21 = .ok (.getfield 9, 3) := by decide +kernel
theorem dX2_hasRival_24 : decode cX2_hasRival 24 = .ok (.getfield 103, 3) := by decide +kernel
theorem dX2_hasRival_27 : decode cX2_hasRival 27 = .ok (.lconst 1, 1) := by decide +kernel
theorem dX2_hasRival_28 : decode cX2_hasRival 28 = .ok (.iload_n 3, 1) := by decide +kernel
theorem dX2_hasRival_29 : decode cX2_hasRival 29 = .ok (.lshl, 1) := by decide +kernel
theorem dX2_hasRival_30 : decode cX2_hasRival 30 = .ok (.ldc2_w 107, 3) := by decide +kernel
theorem dX2_hasRival_33 : decode cX2_hasRival 33 = .ok (.lxor, 1) := by decide +kernel
theorem dX2_hasRival_34 : decode cX2_hasRival 34 = .ok (.land, 1) := by decide +kernel
theorem dX2_hasRival_35 : decode cX2_hasRival 35 = .ok (.lstore 4, 2) := by decide +kernel
theorem dX2_hasRival_37 : decode cX2_hasRival 37 = .ok (.aload_n 0, 1) := by decide +kernel
theorem dX2_hasRival_38 : decode cX2_hasRival 38 = .ok (.getfield 15, 3) := by decide +kernel
theorem dX2_hasRival_41 : decode cX2_hasRival 41 = .ok (.iload_n 2, 1) := by decide +kernel
theorem dX2_hasRival_42 : decode cX2_hasRival 42 = .ok (.aload_n 0, 1) := by decide +kernel
theorem dX2_hasRival_43 : decode cX2_hasRival 43 = .ok (.iconst 1, 1) := by decide +kernel
theorem dX2_hasRival_44 : decode cX2_hasRival 44 = .ok (.iload_n 3, 1) := by decide +kernel
theorem dX2_hasRival_45 : decode cX2_hasRival 45 = .ok (.iadd, 1) := by decide +kernel
theorem dX2_hasRival_46 : decode cX2_hasRival 46 = .ok (.iload_n 2, 1) := by decide +kernel
theorem dX2_hasRival_47 : decode cX2_hasRival 47 = .ok (.invokevirtual 109, 3) := by decide +kernel
theorem dX2_hasRival_50 : decode cX2_hasRival 50 = .ok (.invokevirtual 113, 3) := by decide +kernel
theorem dX2_hasRival_53 : decode cX2_hasRival 53 = .ok (.lload 4, 2) := by decide +kernel
theorem dX2_hasRival_55 : decode cX2_hasRival 55 = .ok (.land, 1) := by decide +kernel
theorem dX2_hasRival_56 : decode cX2_hasRival 56 = .ok (.lconst 0, 1) := by decide +kernel
theorem dX2_hasRival_57 : decode cX2_hasRival 57 = .ok (.lcmp, 1) := by decide +kernel
theorem dX2_hasRival_58 : decode cX2_hasRival 58 = .ok (.ifCond .eq 7, 3) := by decide +kernel
theorem dX2_hasRival_61 : decode cX2_hasRival 61 = .ok (.iconst 1, 1) := by decide +kernel
theorem dX2_hasRival_62 : decode cX2_hasRival 62 = .ok (.goto 4, 3) := by decide +kernel
theorem dX2_hasRival_65 : decode cX2_hasRival 65 = .ok (.iconst 0, 1) := by decide +kernel
theorem dX2_hasRival_66 : decode cX2_hasRival 66 = .ok (.ireturn, 1) := by decide +kernel
set_option maxRecDepth 20000 in
theorem ggX2_outputsOf_X2_laterAround : GoodIn wsX2_outputsOf wsX2_laterAround := goodIn_r _ [6, 1, 7, 8, 9, 10, 11, 12, 13, 14, 25, 26, 27, 28, 29, 30, 31, 32, 33, 34, 35, 36, 37, 38, 39, 40, 41, 42, 43, 44, 45, 46, 47, 48, 49, 50] (by decide +kernel) (by decide +kernel)
set_option maxRecDepth 20000 in
theorem gX2_outputsOf_X2_laterAround : GoodIn wsX2_outputsOf (wsV RX2 93 RX2 yX2_laterAround wsX2_laterAround) := goodIn_app (goodIn_of _ (by decide +kernel)) ggX2_outputsOf_X2_laterAround
set_option maxRecDepth 20000 in
theorem ggX2_outputsOf_X7_bitOf : GoodIn wsX2_outputsOf wsX7_bitOf := goodIn_r _ [17] (by decide +kernel) (by decide +kernel)
set_option maxRecDepth 20000 in
theorem gX2_outputsOf_X7_bitOf_n117 : GoodIn wsX2_outputsOf (wsX7_bitOf) := ggX2_outputsOf_X7_bitOf
set_option maxRecDepth 20000 in
theorem ggX2_outputsOf_X4_strengthAt : GoodIn wsX2_outputsOf wsX4_strengthAt := goodIn_r _ [21, 22, 23, 14, 24, 36, 37, 38, 39, 40, 41, 42, 43, 44, 45, 46, 47, 48, 49, 50, 51, 52, 53, 54, 55, 56, 57, 58, 59, 60, 61, 62, 63] (by decide +kernel) (by decide +kernel)
set_option maxRecDepth 20000 in
theorem gX2_outputsOf_X4_strengthAt : GoodIn wsX2_outputsOf (wsV RX2 120 RX4 yX4_strengthAt wsX4_strengthAt) := goodIn_app (goodIn_of _ (by decide +kernel)) ggX2_outputsOf_X4_strengthAt
theorem dX2_outputsOf_0 : decode cX2_outputsOf 0 = .ok (.aload_n 0, 1) := by decide +kernel
theorem dX2_outputsOf_1 : decode cX2_outputsOf 1 = .ok (.iload_n 2, 1) := by decide +kernel
theorem dX2_outputsOf_2 : decode cX2_outputsOf 2 = .ok (.invokevirtual 93, 3) := by decide +kernel
theorem dX2_outputsOf_5 : decode cX2_outputsOf 5 = .ok (.istore_n 3, 1) := by decide +kernel
theorem dX2_outputsOf_6 : decode cX2_outputsOf 6 = .ok (.iconst 0, 1) := by decide +kernel
theorem dX2_outputsOf_7 : decode cX2_outputsOf 7 = .ok (.istore 4, 2) := by decide +kernel
theorem dX2_outputsOf_9 : decode cX2_outputsOf 9 = .ok (.iconst 0, 1) := by decide +kernel
theorem dX2_outputsOf_10 : decode cX2_outputsOf 10 = .ok (.istore 5, 2) := by decide +kernel
theorem dX2_outputsOf_12 : decode cX2_outputsOf 12 = .ok (.iload 5, 2) := by decide +kernel
theorem dX2_outputsOf_14 : decode cX2_outputsOf 14 = .ok (.iconst 4, 1) := by decide +kernel
theorem dX2_outputsOf_15 : decode cX2_outputsOf 15 = .ok (.if_icmp .ge 42, 3) := by decide +kernel
theorem dX2_outputsOf_18 : decode cX2_outputsOf 18 = .ok (.iload_n 3, 1) := by decide +kernel
theorem dX2_outputsOf_19 : decode cX2_outputsOf 19 = .ok (.iload 5, 2) := by decide +kernel
theorem dX2_outputsOf_21 : decode cX2_outputsOf 21 = .ok (.invokestatic 117, 3) := by decide +kernel
theorem dX2_outputsOf_24 : decode cX2_outputsOf 24 = .ok (.iconst 1, 1) := by decide +kernel
theorem dX2_outputsOf_25 : decode cX2_outputsOf 25 = .ok (.if_icmp .ne 26, 3) := by decide +kernel
theorem dX2_outputsOf_28 : decode cX2_outputsOf 28 = .ok (.aload_n 0, 1) := by decide +kernel
theorem dX2_outputsOf_29 : decode cX2_outputsOf 29 = .ok (.getfield 15, 3) := by decide +kernel
theorem dX2_outputsOf_32 : decode cX2_outputsOf 32 = .ok (.iload_n 1, 1) := by decide +kernel
theorem dX2_outputsOf_33 : decode cX2_outputsOf 33 = .ok (.iload_n 2, 1) := by decide +kernel
theorem dX2_outputsOf_34 : decode cX2_outputsOf 34 = .ok (.iload 5, 2) := by decide +kernel
theorem dX2_outputsOf_36 : decode cX2_outputsOf 36 = .ok (.invokevirtual 120, 3) := by decide +kernel
theorem dX2_outputsOf_39 : decode cX2_outputsOf 39 = .ok (.ifCond .le 12, 3) := by decide +kernel
theorem dX2_outputsOf_42 : decode cX2_outputsOf 42 = .ok (.iload 4, 2) := by decide +kernel
theorem dX2_outputsOf_44 : decode cX2_outputsOf 44 = .ok (.iconst 1, 1) := by decide +kernel
theorem dX2_outputsOf_45 : decode cX2_outputsOf 45 = .ok (.iload 5, 2) := by decide +kernel
theorem dX2_outputsOf_47 : decode cX2_outputsOf 47 = .ok (.ishl, 1) := by decide +kernel
theorem dX2_outputsOf_48 : decode cX2_outputsOf 48 = .ok (.ior, 1) := by decide +kernel
theorem dX2_outputsOf_49 : decode cX2_outputsOf 49 = .ok (.istore 4, 2) := by decide +kernel
theorem dX2_outputsOf_51 : decode cX2_outputsOf 51 = .ok (.iinc 5 1, 3) := by decide +kernel
theorem dX2_outputsOf_54 : decode cX2_outputsOf 54 = .ok (.goto (-42), 3) := by decide +kernel
theorem dX2_outputsOf_57 : decode cX2_outputsOf 57 = .ok (.iload 4, 2) := by decide +kernel
theorem dX2_outputsOf_59 : decode cX2_outputsOf 59 = .ok (.ireturn, 1) := by decide +kernel
theorem dX3_init_0 : decode cX3_init 0 = .ok (.aload_n 0, 1) := by decide +kernel
theorem dX3_init_1 : decode cX3_init 1 = .ok (.invokespecial 3, 3) := by decide +kernel
theorem dX3_init_4 : decode cX3_init 4 = .ok (.aload_n 0, 1) := by decide +kernel
theorem dX3_init_5 : decode cX3_init 5 = .ok (.aload_n 1, 1) := by decide +kernel
theorem dX3_init_6 : decode cX3_init 6 = .ok (.putfield 9, 3) := by decide +kernel
theorem dX3_init_9 : decode cX3_init 9 = .ok (.aload_n 0, 1) := by decide +kernel
theorem dX3_init_10 : decode cX3_init 10 = .ok (.iconst 0, 1) := by decide +kernel
theorem dX3_init_11 : decode cX3_init 11 = .ok (.putfield 15, 3) := by decide +kernel
theorem dX3_init_14 : decode cX3_init 14 = .ok (.aload_n 0, 1) := by decide +kernel
theorem dX3_init_15 : decode cX3_init 15 = .ok (.iconst 0, 1) := by decide +kernel
theorem dX3_init_16 : decode cX3_init 16 = .ok (.putfield 19, 3) := by decide +kernel
theorem dX3_init_19 : decode cX3_init 19 = .ok (.aload_n 0, 1) := by decide +kernel
theorem dX3_init_20 : decode cX3_init 20 = .ok (.sipush 324, 3) := by decide +kernel
theorem dX3_init_23 : decode cX3_init 23 = .ok (.newarray .int, 2) := by decide +kernel
theorem dX3_init_25 : decode cX3_init 25 = .ok (.putfield 22, 3) := by decide +kernel
theorem dX3_init_28 : decode cX3_init 28 = .ok (.aload_n 0, 1) := by decide +kernel
theorem dX3_init_29 : decode cX3_init 29 = .ok (.sipush 300, 3) := by decide +kernel
theorem dX3_init_32 : decode cX3_init 32 = .ok (.newarray .int, 2) := by decide +kernel
theorem dX3_init_34 : decode cX3_init 34 = .ok (.putfield 26, 3) := by decide +kernel
theorem dX3_init_37 : decode cX3_init 37 = .ok (.aload_n 0, 1) := by decide +kernel
theorem dX3_init_38 : decode cX3_init 38 = .ok (.sipush 300, 3) := by decide +kernel
theorem dX3_init_41 : decode cX3_init 41 = .ok (.newarray .int, 2) := by decide +kernel
theorem dX3_init_43 : decode cX3_init 43 = .ok (.putfield 29, 3) := by decide +kernel
theorem dX3_init_46 : decode cX3_init 46 = .ok (.aload_n 0, 1) := by decide +kernel
theorem dX3_init_47 : decode cX3_init 47 = .ok (.sipush 300, 3) := by decide +kernel
theorem dX3_init_50 : decode cX3_init 50 = .ok (.newarray .int, 2) := by decide +kernel
theorem dX3_init_52 : decode cX3_init 52 = .ok (.putfield 32, 3) := by decide +kernel
theorem dX3_init_55 : decode cX3_init 55 = .ok (.aload_n 0, 1) := by decide +kernel
theorem dX3_init_56 : decode cX3_init 56 = .ok (.sipush 300, 3) := by decide +kernel
theorem dX3_init_59 : decode cX3_init 59 = .ok (.newarray .boolean, 2) := by decide +kernel
theorem dX3_init_61 : decode cX3_init 61 = .ok (.putfield 35, 3) := by decide +kernel
theorem dX3_init_64 : decode cX3_init 64 = .ok (.aload_n 0, 1) := by decide +kernel
theorem dX3_init_65 : decode cX3_init 65 = .ok (.sipush 300, 3) := by decide +kernel
theorem dX3_init_68 : decode cX3_init 68 = .ok (.newarray .int, 2) := by decide +kernel
theorem dX3_init_70 : decode cX3_init 70 = .ok (.putfield 39, 3) := by decide +kernel
theorem dX3_init_73 : decode cX3_init 73 = .ok (.aload_n 0, 1) := by decide +kernel
theorem dX3_init_74 : decode cX3_init 74 = .ok (.sipush 300, 3) := by decide +kernel
theorem dX3_init_77 : decode cX3_init 77 = .ok (.newarray .long, 2) := by decide +kernel
theorem dX3_init_79 : decode cX3_init 79 = .ok (.putfield 42, 3) := by decide +kernel
theorem dX3_init_82 : decode cX3_init 82 = .ok (.aload_n 0, 1) := by decide +kernel
theorem dX3_init_83 : decode cX3_init 83 = .ok (.sipush 512, 3) := by decide +kernel
theorem dX3_init_86 : decode cX3_init 86 = .ok (.newarray .int, 2) := by decide +kernel
theorem dX3_init_88 : decode cX3_init 88 = .ok (.putfield 46, 3) := by decide +kernel
theorem dX3_init_91 : decode cX3_init 91 = .ok (.aload_n 0, 1) := by decide +kernel
theorem dX3_init_92 : decode cX3_init 92 = .ok (.sipush 300, 3) := by decide +kernel
theorem dX3_init_95 : decode cX3_init 95 = .ok (.newarray .int, 2) := by decide +kernel
theorem dX3_init_97 : decode cX3_init 97 = .ok (.putfield 49, 3) := by decide +kernel
theorem dX3_init_100 : decode cX3_init 100 = .ok (.return_, 1) := by decide +kernel
theorem dX3_isRefused_0 : decode cX3_isRefused 0 = .ok (.iload_n 1, 1) := by decide +kernel
theorem dX3_isRefused_1 : decode cX3_isRefused 1 = .ok (.iconst 1, 1) := by decide +kernel
theorem dX3_isRefused_2 : decode cX3_isRefused 2 = .ok (.if_icmp .lt 29, 3) := by decide +kernel
theorem dX3_isRefused_5 : decode cX3_isRefused 5 = .ok (.iload_n 1, 1) := by decide +kernel
theorem dX3_isRefused_6 : decode cX3_isRefused 6 = .ok (.bipush 40, 2) := by decide +kernel
theorem dX3_isRefused_8 : decode cX3_isRefused 8 = .ok (.if_icmp .gt 23, 3) := by decide +kernel
theorem dX3_isRefused_11 : decode cX3_isRefused 11 = .ok (.aload_n 0, 1) := by decide +kernel
theorem dX3_isRefused_12 : decode cX3_isRefused 12 = .ok (.getfield 9, 3) := by decide +kernel
theorem dX3_isRefused_15 : decode cX3_isRefused 15 = .ok (.getfield 52, 3) := by decide +kernel
theorem dX3_isRefused_18 : decode cX3_isRefused 18 = .ok (.iload_n 1, 1) := by decide +kernel
theorem dX3_isRefused_19 : decode cX3_isRefused 19 = .ok (.if_icmp .gt 12, 3) := by decide +kernel
theorem dX3_isRefused_22 : decode cX3_isRefused 22 = .ok (.aload_n 0, 1) := by decide +kernel
theorem dX3_isRefused_23 : decode cX3_isRefused 23 = .ok (.getfield 15, 3) := by decide +kernel
theorem dX3_isRefused_26 : decode cX3_isRefused 26 = .ok (.bipush 60, 2) := by decide +kernel
theorem dX3_isRefused_28 : decode cX3_isRefused 28 = .ok (.if_icmp .lt 7, 3) := by decide +kernel
theorem dX3_isRefused_31 : decode cX3_isRefused 31 = .ok (.iconst 1, 1) := by decide +kernel
theorem dX3_isRefused_32 : decode cX3_isRefused 32 = .ok (.goto 4, 3) := by decide +kernel
theorem dX3_isRefused_35 : decode cX3_isRefused 35 = .ok (.iconst 0, 1) := by decide +kernel
theorem dX3_isRefused_36 : decode cX3_isRefused 36 = .ok (.ireturn, 1) := by decide +kernel
set_option maxRecDepth 20000 in
theorem ggX3_run_X3_begin : GoodIn wsX3_run wsX3_begin := goodIn_r _ [10, 2, 11, 12, 13, 14, 15, 16, 17, 1, 18, 19, 20, 21, 3, 22, 23, 24, 25, 26, 27, 166, 167, 168, 169, 170, 171, 172, 173, 174, 175, 176, 177, 178, 179, 180, 181, 182, 183, 184, 185, 186, 187, 188, 189, 190, 191, 192, 193, 194, 195, 196] (by decide +kernel) (by decide +kernel)
set_option maxRecDepth 20000 in
theorem gX3_run_X3_begin : GoodIn wsX3_run (wsV RX3 56 RX3 yX3_begin wsX3_begin) := goodIn_app (goodIn_of _ (by decide +kernel)) ggX3_run_X3_begin
set_option maxRecDepth 20000 in
theorem ggX3_run_X3_bringSheetTo : GoodIn wsX3_run wsX3_bringSheetTo := goodIn_r _ [31, 20, 2, 32, 21, 33, 34, 35, 36, 9, 37, 38, 39, 40, 41, 42, 43, 44, 45, 46, 47, 48, 49, 50, 51, 52, 53, 54, 55, 56, 57, 58, 59, 60, 61, 62, 63, 64, 65, 66, 67, 166, 167, 168, 169, 170, 171, 172, 173, 174, 175, 176, 177, 178, 179, 180, 181, 182, 183, 184, 185, 186, 187, 188, 189, 190, 191, 192, 193, 194, 195, 196, 197, 198, 199, 200, 201, 202, 203, 204, 205, 206, 207, 208, 209] (by decide +kernel) (by decide +kernel)
set_option maxRecDepth 20000 in
theorem gX3_run_X3_bringSheetTo : GoodIn wsX3_run (wsV RX3 59 RX3 yX3_bringSheetTo wsX3_bringSheetTo) := goodIn_app (goodIn_of _ (by decide +kernel)) ggX3_run_X3_bringSheetTo
set_option maxRecDepth 20000 in
theorem ggX3_run_X4_countFits : GoodIn wsX3_run wsX4_countFits := goodIn_r _ [71, 72, 73, 74, 75, 41, 76, 61, 60, 77, 78, 59, 79, 80, 81, 82, 43, 44, 83, 84, 85, 86, 87, 88, 89, 90, 91, 92, 49, 93, 94, 95, 96, 97, 98, 99, 100, 101, 102, 103, 104, 105, 106, 107, 108, 109, 110, 111, 112, 113, 114, 115, 116, 117, 118, 119, 120, 121, 122, 123, 124, 125, 126, 127, 128, 129, 130, 131, 132, 182, 183, 184, 185, 186, 187, 188, 189, 190, 191, 192, 193, 194, 195, 196, 197, 198, 199, 200, 201, 202, 203, 204, 205, 206, 207, 208, 209] (by decide +kernel) (by decide +kernel)
set_option maxRecDepth 20000 in
theorem gX3_run_X4_countFits : GoodIn wsX3_run (wsV RX3 63 RX4 yX4_countFits wsX4_countFits) := goodIn_app (goodIn_of _ (by decide +kernel)) ggX3_run_X4_countFits
set_option maxRecDepth 20000 in
theorem ggX3_run_X3_goThrough : GoodIn wsX3_run wsX3_goThrough := goodIn_r _ [136, 18, 3, 19, 2, 137, 138, 139, 140, 9, 141, 142, 143, 49, 144, 145, 146, 147, 148, 23, 1, 21, 32, 33, 149, 150, 151, 152, 17, 153, 154, 155, 156, 157, 158, 159, 160, 161, 162, 163, 164, 165, 22, 11, 166, 167, 168, 169, 170, 171, 172, 173, 174, 175, 176, 177, 178, 179, 180, 181, 182, 183, 184, 185, 186, 187, 188, 189, 190, 191, 192, 193, 194, 195, 196, 197, 198, 199, 200, 201, 202, 203, 204, 205, 206, 207, 208, 209] (by decide +kernel) (by decide +kernel)
set_option maxRecDepth 20000 in
theorem gX3_run_X3_goThrough : GoodIn wsX3_run (wsV RX3 67 RX3 yX3_goThrough wsX3_goThrough) := goodIn_app (goodIn_of _ (by decide +kernel)) ggX3_run_X3_goThrough
theorem dX3_run_0 : decode cX3_run 0 = .ok (.aload_n 0, 1) := by decide +kernel
theorem dX3_run_1 : decode cX3_run 1 = .ok (.invokevirtual 56, 3) := by decide +kernel
theorem dX3_run_4 : decode cX3_run 4 = .ok (.iconst 0, 1) := by decide +kernel
theorem dX3_run_5 : decode cX3_run 5 = .ok (.istore_n 2, 1) := by decide +kernel
theorem dX3_run_6 : decode cX3_run 6 = .ok (.iconst 0, 1) := by decide +kernel
theorem dX3_run_7 : decode cX3_run 7 = .ok (.istore_n 3, 1) := by decide +kernel
theorem dX3_run_8 : decode cX3_run 8 = .ok (.iload_n 3, 1) := by decide +kernel
theorem dX3_run_9 : decode cX3_run 9 = .ok (.sipush 300, 3) := by decide +kernel
theorem dX3_run_12 : decode cX3_run 12 = .ok (.if_icmp .ge 48, 3) := by decide +kernel
theorem dX3_run_15 : decode cX3_run 15 = .ok (.iload_n 3, 1) := by decide +kernel
theorem dX3_run_16 : decode cX3_run 16 = .ok (.aload_n 0, 1) := by decide +kernel
theorem dX3_run_17 : decode cX3_run 17 = .ok (.getfield 19, 3) := by decide +kernel
theorem dX3_run_20 : decode cX3_run 20 = .ok (.if_icmp .ge 40, 3) := by decide +kernel
theorem dX3_run_23 : decode cX3_run 23 = .ok (.iload_n 2, 1) := by decide +kernel
theorem dX3_run_24 : decode cX3_run 24 = .ok (.ifCond .ne 36, 3) := by decide +kernel
theorem dX3_run_27 : decode cX3_run 27 = .ok (.aload_n 0, 1) := by decide +kernel
theorem dX3_run_28 : decode cX3_run 28 = .ok (.iload_n 3, 1) := by decide +kernel
theorem dX3_run_29 : decode cX3_run 29 = .ok (.invokevirtual 59, 3) := by decide +kernel
theorem dX3_run_32 : decode cX3_run 32 = .ok (.aload_n 0, 1) := by decide +kernel
theorem dX3_run_33 : decode cX3_run 33 = .ok (.iload_n 3, 1) := by decide +kernel
theorem dX3_run_34 : decode cX3_run 34 = .ok (.iload_n 1, 1) := by decide +kernel
theorem dX3_run_35 : decode cX3_run 35 = .ok (.aload_n 0, 1) := by decide +kernel
theorem dX3_run_36 : decode cX3_run 36 = .ok (.getfield 9, 3) := by decide +kernel
theorem dX3_run_39 : decode cX3_run 39 = .ok (.invokevirtual 63, 3) := by decide +kernel
theorem dX3_run_42 : decode cX3_run 42 = .ok (.invokevirtual 67, 3) := by decide +kernel
theorem dX3_run_45 : decode cX3_run 45 = .ok (.ifCond .ne 7, 3) := by decide +kernel
theorem dX3_run_48 : decode cX3_run 48 = .ok (.iconst 1, 1) := by decide +kernel
theorem dX3_run_49 : decode cX3_run 49 = .ok (.goto 4, 3) := by decide +kernel
theorem dX3_run_52 : decode cX3_run 52 = .ok (.iconst 0, 1) := by decide +kernel
theorem dX3_run_53 : decode cX3_run 53 = .ok (.istore_n 2, 1) := by decide +kernel
theorem dX3_run_54 : decode cX3_run 54 = .ok (.iinc 3 1, 3) := by decide +kernel
theorem dX3_run_57 : decode cX3_run 57 = .ok (.goto (-49), 3) := by decide +kernel
theorem dX3_run_60 : decode cX3_run 60 = .ok (.aload_n 0, 1) := by decide +kernel
theorem dX3_run_61 : decode cX3_run 61 = .ok (.iconst 0, 1) := by decide +kernel
theorem dX3_run_62 : decode cX3_run 62 = .ok (.invokevirtual 59, 3) := by decide +kernel
theorem dX3_run_65 : decode cX3_run 65 = .ok (.aload_n 0, 1) := by decide +kernel
theorem dX3_run_66 : decode cX3_run 66 = .ok (.aload_n 0, 1) := by decide +kernel
theorem dX3_run_67 : decode cX3_run 67 = .ok (.getfield 39, 3) := by decide +kernel
theorem dX3_run_70 : decode cX3_run 70 = .ok (.aload_n 0, 1) := by decide +kernel
theorem dX3_run_71 : decode cX3_run 71 = .ok (.getfield 19, 3) := by decide +kernel
theorem dX3_run_74 : decode cX3_run 74 = .ok (.iconst 1, 1) := by decide +kernel
theorem dX3_run_75 : decode cX3_run 75 = .ok (.isub, 1) := by decide +kernel
theorem dX3_run_76 : decode cX3_run 76 = .ok (.iaload, 1) := by decide +kernel
theorem dX3_run_77 : decode cX3_run 77 = .ok (.putfield 71, 3) := by decide +kernel
theorem dX3_run_80 : decode cX3_run 80 = .ok (.aload_n 0, 1) := by decide +kernel
theorem dX3_run_81 : decode cX3_run 81 = .ok (.dup, 1) := by decide +kernel
theorem dX3_run_82 : decode cX3_run 82 = .ok (.getfield 15, 3) := by decide +kernel
theorem dX3_run_85 : decode cX3_run 85 = .ok (.iconst 1, 1) := by decide +kernel
theorem dX3_run_86 : decode cX3_run 86 = .ok (.iadd, 1) := by decide +kernel
theorem dX3_run_87 : decode cX3_run 87 = .ok (.putfield 15, 3) := by decide +kernel
theorem dX3_run_90 : decode cX3_run 90 = .ok (.iload_n 2, 1) := by decide +kernel
theorem dX3_run_91 : decode cX3_run 91 = .ok (.ifCond .eq 8, 3) := by decide +kernel
theorem dX3_run_94 : decode cX3_run 94 = .ok (.bipush (-2), 2) := by decide +kernel
theorem dX3_run_96 : decode cX3_run 96 = .ok (.goto 7, 3) := by decide +kernel
theorem dX3_run_99 : decode cX3_run 99 = .ok (.aload_n 0, 1) := by decide +kernel
theorem dX3_run_100 : decode cX3_run 100 = .ok (.getfield 19, 3) := by decide +kernel
theorem dX3_run_103 : decode cX3_run 103 = .ok (.ireturn, 1) := by decide +kernel
set_option maxRecDepth 20000 in
theorem ggX3_begin_J7_fill_53178 : GoodIn wsX3_begin wsJ7_fill_53178 := goodIn_r _ [20] (by decide +kernel) (by decide +kernel)
set_option maxRecDepth 20000 in
theorem gX3_begin_J7_fill_53178 : GoodIn wsX3_begin (va_wsS RX3 83 yJ7_fill_53178 wsJ7_fill_53178) := goodIn_app (goodIn_of _ (by decide +kernel)) ggX3_begin_J7_fill_53178
theorem dX3_begin_0 : decode cX3_begin 0 = .ok (.aload_n 0, 1) := by decide +kernel
theorem dX3_begin_1 : decode cX3_begin 1 = .ok (.getfield 9, 3) := by decide +kernel
theorem dX3_begin_4 : decode cX3_begin 4 = .ok (.getfield 74, 3) := by decide +kernel
theorem dX3_begin_7 : decode cX3_begin 7 = .ok (.iconst 0, 1) := by decide +kernel
theorem dX3_begin_8 : decode cX3_begin 8 = .ok (.aload_n 0, 1) := by decide +kernel
theorem dX3_begin_9 : decode cX3_begin 9 = .ok (.getfield 22, 3) := by decide +kernel
theorem dX3_begin_12 : decode cX3_begin 12 = .ok (.iconst 0, 1) := by decide +kernel
theorem dX3_begin_13 : decode cX3_begin 13 = .ok (.sipush 324, 3) := by decide +kernel
theorem dX3_begin_16 : decode cX3_begin 16 = .ok (.invokestatic 77, 3) := by decide +kernel
theorem dX3_begin_19 : decode cX3_begin 19 = .ok (.aload_n 0, 1) := by decide +kernel
theorem dX3_begin_20 : decode cX3_begin 20 = .ok (.getfield 46, 3) := by decide +kernel
theorem dX3_begin_23 : decode cX3_begin 23 = .ok (.iconst (-1), 1) := by decide +kernel
theorem dX3_begin_24 : decode cX3_begin 24 = .ok (.invokestatic 83, 3) := by decide +kernel
theorem dX3_begin_27 : decode cX3_begin 27 = .ok (.aload_n 0, 1) := by decide +kernel
theorem dX3_begin_28 : decode cX3_begin 28 = .ok (.iconst 1, 1) := by decide +kernel
theorem dX3_begin_29 : decode cX3_begin 29 = .ok (.putfield 19, 3) := by decide +kernel
theorem dX3_begin_32 : decode cX3_begin 32 = .ok (.aload_n 0, 1) := by decide +kernel
theorem dX3_begin_33 : decode cX3_begin 33 = .ok (.iconst 0, 1) := by decide +kernel
theorem dX3_begin_34 : decode cX3_begin 34 = .ok (.putfield 89, 3) := by decide +kernel
theorem dX3_begin_37 : decode cX3_begin 37 = .ok (.aload_n 0, 1) := by decide +kernel
theorem dX3_begin_38 : decode cX3_begin 38 = .ok (.iconst 0, 1) := by decide +kernel
theorem dX3_begin_39 : decode cX3_begin 39 = .ok (.putfield 92, 3) := by decide +kernel
theorem dX3_begin_42 : decode cX3_begin 42 = .ok (.aload_n 0, 1) := by decide +kernel
theorem dX3_begin_43 : decode cX3_begin 43 = .ok (.iconst 0, 1) := by decide +kernel
theorem dX3_begin_44 : decode cX3_begin 44 = .ok (.putfield 95, 3) := by decide +kernel
theorem dX3_begin_47 : decode cX3_begin 47 = .ok (.aload_n 0, 1) := by decide +kernel
theorem dX3_begin_48 : decode cX3_begin 48 = .ok (.getfield 26, 3) := by decide +kernel
theorem dX3_begin_51 : decode cX3_begin 51 = .ok (.iconst 0, 1) := by decide +kernel
theorem dX3_begin_52 : decode cX3_begin 52 = .ok (.iconst 0, 1) := by decide +kernel
theorem dX3_begin_53 : decode cX3_begin 53 = .ok (.iastore, 1) := by decide +kernel
theorem dX3_begin_54 : decode cX3_begin 54 = .ok (.aload_n 0, 1) := by decide +kernel
theorem dX3_begin_55 : decode cX3_begin 55 = .ok (.getfield 39, 3) := by decide +kernel
theorem dX3_begin_58 : decode cX3_begin 58 = .ok (.iconst 0, 1) := by decide +kernel
theorem dX3_begin_59 : decode cX3_begin 59 = .ok (.aload_n 0, 1) := by decide +kernel
theorem dX3_begin_60 : decode cX3_begin 60 = .ok (.getfield 9, 3) := by decide +kernel
theorem dX3_begin_63 : decode cX3_begin 63 = .ok (.getfield 52, 3) := by decide +kernel
theorem dX3_begin_66 : decode cX3_begin 66 = .ok (.iastore, 1) := by decide +kernel
theorem dX3_begin_67 : decode cX3_begin 67 = .ok (.aload_n 0, 1) := by decide +kernel
theorem dX3_begin_68 : decode cX3_begin 68 = .ok (.getfield 42, 3) := by decide +kernel
theorem dX3_begin_71 : decode cX3_begin 71 = .ok (.iconst 0, 1) := by decide +kernel
theorem dX3_begin_72 : decode cX3_begin 72 = .ok (.lconst 0, 1) := by decide +kernel
theorem dX3_begin_73 : decode cX3_begin 73 = .ok (.lastore, 1) := by decide +kernel
theorem dX3_begin_74 : decode cX3_begin 74 = .ok (.return_, 1) := by decide +kernel
theorem dX3_commonStart_0 : decode cX3_commonStart 0 = .ok (.iload_n 1, 1) := by decide +kernel
theorem dX3_commonStart_1 : decode cX3_commonStart 1 = .ok (.istore_n 3, 1) := by decide +kernel
theorem dX3_commonStart_2 : decode cX3_commonStart 2 = .ok (.iload_n 2, 1) := by decide +kernel
theorem dX3_commonStart_3 : decode cX3_commonStart 3 = .ok (.istore 4, 2) := by decide +kernel
theorem dX3_commonStart_5 : decode cX3_commonStart 5 = .ok (.iconst 0, 1) := by decide +kernel
theorem dX3_commonStart_6 : decode cX3_commonStart 6 = .ok (.istore 5, 2) := by decide +kernel
theorem dX3_commonStart_8 : decode cX3_commonStart 8 = .ok (.iload 5, 2) := by decide +kernel
theorem dX3_commonStart_10 : decode cX3_commonStart 10 = .ok (.sipush 600, 3) := by decide +kernel
theorem dX3_commonStart_13 : decode cX3_commonStart 13 = .ok (.if_icmp .ge 40, 3) := by decide +kernel
theorem dX3_commonStart_16 : decode cX3_commonStart 16 = .ok (.iload_n 3, 1) := by decide +kernel
theorem dX3_commonStart_17 : decode cX3_commonStart 17 = .ok (.iload 4, 2) := by decide +kernel
theorem dX3_commonStart_19 : decode cX3_commonStart 19 = .ok (.if_icmp .eq 34, 3) := by decide +kernel
theorem dX3_commonStart_22 : decode cX3_commonStart 22 = .ok (.iload_n 3, 1) := by decide +kernel
theorem dX3_commonStart_23 : decode cX3_commonStart 23 = .ok (.iload 4, 2) := by decide +kernel
theorem dX3_commonStart_25 : decode cX3_commonStart 25 = .ok (.if_icmp .le 13, 3) := by decide +kernel
theorem dX3_commonStart_28 : decode cX3_commonStart 28 = .ok (.aload_n 0, 1) := by decide +kernel
theorem dX3_commonStart_29 : decode cX3_commonStart 29 = .ok (.getfield 26, 3) := by decide +kernel
theorem dX3_commonStart_32 : decode cX3_commonStart 32 = .ok (.iload_n 3, 1) := by decide +kernel
theorem dX3_commonStart_33 : decode cX3_commonStart 33 = .ok (.iaload, 1) := by decide +kernel
theorem dX3_commonStart_34 : decode cX3_commonStart 34 = .ok (.istore_n 3, 1) := by decide +kernel
theorem dX3_commonStart_35 : decode cX3_commonStart 35 = .ok (.goto 12, 3) := by decide +kernel
theorem dX3_commonStart_38 : decode cX3_commonStart 38 = .ok (.aload_n 0, 1) := by decide +kernel
theorem dX3_commonStart_39 : decode cX3_commonStart 39 = .ok (.getfield 26, 3) := by decide +kernel
theorem dX3_commonStart_42 : decode cX3_commonStart 42 = .ok (.iload 4, 2) := by decide +kernel
theorem dX3_commonStart_44 : decode cX3_commonStart 44 = .ok (.iaload, 1) := by decide +kernel
theorem dX3_commonStart_45 : decode cX3_commonStart 45 = .ok (.istore 4, 2) := by decide +kernel
theorem dX3_commonStart_47 : decode cX3_commonStart 47 = .ok (.iinc 5 1, 3) := by decide +kernel
theorem dX3_commonStart_50 : decode cX3_commonStart 50 = .ok (.goto (-42), 3) := by decide +kernel
theorem dX3_commonStart_53 : decode cX3_commonStart 53 = .ok (.iload_n 3, 1) := by decide +kernel
theorem dX3_commonStart_54 : decode cX3_commonStart 54 = .ok (.ireturn, 1) := by decide +kernel
set_option maxRecDepth 20000 in
theorem ggX3_bringSheetTo_X3_commonStart : GoodIn wsX3_bringSheetTo wsX3_commonStart := goodIn_r _ [10, 4, 41, 42, 43, 44, 45, 46, 47, 48, 49, 50, 51, 52, 53, 54, 55, 56] (by decide +kernel) (by decide +kernel)
set_option maxRecDepth 20000 in
theorem gX3_bringSheetTo_X3_commonStart : GoodIn wsX3_bringSheetTo (wsV RX3 98 RX3 yX3_commonStart wsX3_commonStart) := goodIn_app (goodIn_of _ (by decide +kernel)) ggX3_bringSheetTo_X3_commonStart
set_option maxRecDepth 20000 in
theorem ggX3_bringSheetTo_X4_lift : GoodIn wsX3_bringSheetTo wsX4_lift := goodIn_r _ [15, 16, 17, 18, 19, 20, 21, 22, 23, 24, 25, 26, 14, 27, 28, 29, 30, 31, 32, 33, 34, 35, 36, 57, 58, 59, 60, 61, 62, 63, 64, 65, 66, 67, 68, 69, 70, 71, 72, 73, 74, 75, 76, 77, 78, 79, 80, 81, 82, 83, 84] (by decide +kernel) (by decide +kernel)
set_option maxRecDepth 20000 in
theorem gX3_bringSheetTo_X4_lift : GoodIn wsX3_bringSheetTo (wsV RX3 102 RX4 yX4_lift wsX4_lift) := goodIn_app (goodIn_of _ (by decide +kernel)) ggX3_bringSheetTo_X4_lift
set_option maxRecDepth 20000 in
theorem ggX3_bringSheetTo_X4_putDown : GoodIn wsX3_bringSheetTo wsX4_putDown := goodIn_r _ [40, 16, 17, 18, 19, 20, 24, 25, 26, 14, 27, 28, 29, 30, 31, 32, 33, 34, 35, 22, 36, 57, 58, 59, 60, 61, 62, 63, 64, 65, 66, 67, 68, 69, 70, 71, 72, 73, 74, 75, 76, 77, 78, 79, 80, 81, 82, 83, 84] (by decide +kernel) (by decide +kernel)
set_option maxRecDepth 20000 in
theorem gX3_bringSheetTo_X4_putDown : GoodIn wsX3_bringSheetTo (wsV RX3 105 RX4 yX4_putDown wsX4_putDown) := goodIn_app (goodIn_of _ (by decide +kernel)) ggX3_bringSheetTo_X4_putDown
theorem dX3_bringSheetTo_0 : decode cX3_bringSheetTo 0 = .ok (.aload_n 0, 1) := by decide +kernel
theorem dX3_bringSheetTo_1 : decode cX3_bringSheetTo 1 = .ok (.aload_n 0, 1) := by decide +kernel
theorem dX3_bringSheetTo_2 : decode cX3_bringSheetTo 2 = .ok (.getfield 95, 3) := by decide +kernel
theorem dX3_bringSheetTo_5 : decode cX3_bringSheetTo 5 = .ok (.iload_n 1, 1) := by decide +kernel
theorem dX3_bringSheetTo_6 : decode cX3_bringSheetTo 6 = .ok (.invokevirtual 98, 3) := by decide +kernel
theorem dX3_bringSheetTo_9 : decode cX3_bringSheetTo 9 = .ok (.istore_n 2, 1) := by decide +kernel
theorem dX3_bringSheetTo_10 : decode cX3_bringSheetTo 10 = .ok (.aload_n 0, 1) := by decide +kernel
theorem dX3_bringSheetTo_11 : decode cX3_bringSheetTo 11 = .ok (.getfield 95, 3) := by decide +kernel
theorem dX3_bringSheetTo_14 : decode cX3_bringSheetTo 14 = .ok (.istore_n 3, 1) := by decide +kernel
theorem dX3_bringSheetTo_15 : decode cX3_bringSheetTo 15 = .ok (.iconst 0, 1) := by decide +kernel
theorem dX3_bringSheetTo_16 : decode cX3_bringSheetTo 16 = .ok (.istore 4, 2) := by decide +kernel
theorem dX3_bringSheetTo_18 : decode cX3_bringSheetTo 18 = .ok (.iload 4, 2) := by decide +kernel
theorem dX3_bringSheetTo_20 : decode cX3_bringSheetTo 20 = .ok (.sipush 300, 3) := by decide +kernel
theorem dX3_bringSheetTo_23 : decode cX3_bringSheetTo 23 = .ok (.if_icmp .ge 34, 3) := by decide +kernel
theorem dX3_bringSheetTo_26 : decode cX3_bringSheetTo 26 = .ok (.iload_n 3, 1) := by decide +kernel
theorem dX3_bringSheetTo_27 : decode cX3_bringSheetTo 27 = .ok (.iload_n 2, 1) := by decide +kernel
theorem dX3_bringSheetTo_28 : decode cX3_bringSheetTo 28 = .ok (.if_icmp .eq 29, 3) := by decide +kernel
theorem dX3_bringSheetTo_31 : decode cX3_bringSheetTo 31 = .ok (.aload_n 0, 1) := by decide +kernel
theorem dX3_bringSheetTo_32 : decode cX3_bringSheetTo 32 = .ok (.getfield 9, 3) := by decide +kernel
theorem dX3_bringSheetTo_35 : decode cX3_bringSheetTo 35 = .ok (.aload_n 0, 1) := by decide +kernel
theorem dX3_bringSheetTo_36 : decode cX3_bringSheetTo 36 = .ok (.getfield 29, 3) := by decide +kernel
theorem dX3_bringSheetTo_39 : decode cX3_bringSheetTo 39 = .ok (.iload_n 3, 1) := by decide +kernel
theorem dX3_bringSheetTo_40 : decode cX3_bringSheetTo 40 = .ok (.iaload, 1) := by decide +kernel
theorem dX3_bringSheetTo_41 : decode cX3_bringSheetTo 41 = .ok (.invokevirtual 102, 3) := by decide +kernel
theorem dX3_bringSheetTo_44 : decode cX3_bringSheetTo 44 = .ok (.aload_n 0, 1) := by decide +kernel
theorem dX3_bringSheetTo_45 : decode cX3_bringSheetTo 45 = .ok (.getfield 26, 3) := by decide +kernel
theorem dX3_bringSheetTo_48 : decode cX3_bringSheetTo 48 = .ok (.iload_n 3, 1) := by decide +kernel
theorem dX3_bringSheetTo_49 : decode cX3_bringSheetTo 49 = .ok (.iaload, 1) := by decide +kernel
theorem dX3_bringSheetTo_50 : decode cX3_bringSheetTo 50 = .ok (.istore_n 3, 1) := by decide +kernel
theorem dX3_bringSheetTo_51 : decode cX3_bringSheetTo 51 = .ok (.iinc 4 1, 3) := by decide +kernel
theorem dX3_bringSheetTo_54 : decode cX3_bringSheetTo 54 = .ok (.goto (-36), 3) := by decide +kernel
theorem dX3_bringSheetTo_57 : decode cX3_bringSheetTo 57 = .ok (.iload_n 1, 1) := by decide +kernel
theorem dX3_bringSheetTo_58 : decode cX3_bringSheetTo 58 = .ok (.istore 4, 2) := by decide +kernel
theorem dX3_bringSheetTo_60 : decode cX3_bringSheetTo 60 = .ok (.iconst 0, 1) := by decide +kernel
theorem dX3_bringSheetTo_61 : decode cX3_bringSheetTo 61 = .ok (.istore 5, 2) := by decide +kernel
theorem dX3_bringSheetTo_63 : decode cX3_bringSheetTo 63 = .ok (.iload 5, 2) := by decide +kernel
theorem dX3_bringSheetTo_65 : decode cX3_bringSheetTo 65 = .ok (.sipush 300, 3) := by decide +kernel
theorem dX3_bringSheetTo_68 : decode cX3_bringSheetTo 68 = .ok (.if_icmp .ge 45, 3) := by decide +kernel
theorem dX3_bringSheetTo_71 : decode cX3_bringSheetTo 71 = .ok (.iload 4, 2) := by decide +kernel
theorem dX3_bringSheetTo_73 : decode cX3_bringSheetTo 73 = .ok (.iload_n 2, 1) := by decide +kernel
theorem dX3_bringSheetTo_74 : decode cX3_bringSheetTo 74 = .ok (.if_icmp .eq 39, 3) := by decide +kernel
theorem dX3_bringSheetTo_77 : decode cX3_bringSheetTo 77 = .ok (.aload_n 0, 1) := by decide +kernel
theorem dX3_bringSheetTo_78 : decode cX3_bringSheetTo 78 = .ok (.getfield 9, 3) := by decide +kernel
theorem dX3_bringSheetTo_81 : decode cX3_bringSheetTo 81 = .ok (.aload_n 0, 1) := by decide +kernel
theorem dX3_bringSheetTo_82 : decode cX3_bringSheetTo 82 = .ok (.getfield 32, 3) := by decide +kernel
theorem dX3_bringSheetTo_85 : decode cX3_bringSheetTo 85 = .ok (.iload 4, 2) := by decide +kernel
theorem dX3_bringSheetTo_87 : decode cX3_bringSheetTo 87 = .ok (.iaload, 1) := by decide +kernel
theorem dX3_bringSheetTo_88 : decode cX3_bringSheetTo 88 = .ok (.aload_n 0, 1) := by decide +kernel
theorem dX3_bringSheetTo_89 : decode cX3_bringSheetTo 89 = .ok (.getfield 29, 3) := by decide +kernel
theorem dX3_bringSheetTo_92 : decode cX3_bringSheetTo 92 = .ok (.iload 4, 2) := by decide +kernel
theorem dX3_bringSheetTo_94 : decode cX3_bringSheetTo 94 = .ok (.iaload, 1) := by decide +kernel
theorem dX3_bringSheetTo_95 : decode cX3_bringSheetTo 95 = .ok (.invokevirtual 105, 3) := by decide +kernel
theorem dX3_bringSheetTo_98 : decode cX3_bringSheetTo 98 = .ok (.aload_n 0, 1) := by decide +kernel
theorem dX3_bringSheetTo_99 : decode cX3_bringSheetTo 99 = .ok (.getfield 26, 3) := by decide +kernel
theorem dX3_bringSheetTo_102 : decode cX3_bringSheetTo 102 = .ok (.iload 4, 2) := by decide +kernel
theorem dX3_bringSheetTo_104 : decode cX3_bringSheetTo 104 = .ok (.iaload, 1) := by decide +kernel
theorem dX3_bringSheetTo_105 : decode cX3_bringSheetTo 105 = .ok (.istore 4, 2) := by decide +kernel
theorem dX3_bringSheetTo_107 : decode cX3_bringSheetTo 107 = .ok (.iinc 5 1, 3) := by decide +kernel
theorem dX3_bringSheetTo_110 : decode cX3_bringSheetTo 110 = .ok (.goto (-47), 3) := by decide +kernel
theorem dX3_bringSheetTo_113 : decode cX3_bringSheetTo 113 = .ok (.aload_n 0, 1) := by decide +kernel
theorem dX3_bringSheetTo_114 : decode cX3_bringSheetTo 114 = .ok (.iload_n 1, 1) := by decide +kernel
theorem dX3_bringSheetTo_115 : decode cX3_bringSheetTo 115 = .ok (.putfield 95, 3) := by decide +kernel
theorem dX3_bringSheetTo_118 : decode cX3_bringSheetTo 118 = .ok (.return_, 1) := by decide +kernel
set_option maxRecDepth 20000 in
theorem ggX3_goThrough_X3_goThroughLine : GoodIn wsX3_goThrough wsX3_goThroughLine := goodIn_r _ [10, 4, 11, 12, 13, 14, 15, 16, 17, 9, 18, 19, 20, 21, 22, 23, 24, 25, 26, 2, 27, 28, 29, 30, 31, 32, 33, 34, 35, 36, 37, 38, 39, 40, 41, 42, 43, 44, 45, 46, 47, 48, 49, 50, 51, 52, 53, 54, 55, 56, 57, 58, 59, 60, 61, 62, 63, 64, 65, 66, 67, 68, 69, 70, 71, 72, 73, 74, 75, 76, 77, 78, 79, 80, 81, 82, 83, 84, 85, 86, 87] (by decide +kernel) (by decide +kernel)
set_option maxRecDepth 20000 in
theorem gX3_goThrough_X3_goThroughLine : GoodIn wsX3_goThrough (wsV RX3 112 RX3 yX3_goThroughLine wsX3_goThroughLine) := goodIn_app (goodIn_of _ (by decide +kernel)) ggX3_goThrough_X3_goThroughLine
theorem dX3_goThrough_0 : decode cX3_goThrough 0 = .ok (.iload_n 3, 1) := by decide +kernel
theorem dX3_goThrough_1 : decode cX3_goThrough 1 = .ok (.ifCond .ne 15, 3) := by decide +kernel
theorem dX3_goThrough_4 : decode cX3_goThrough 4 = .ok (.aload_n 0, 1) := by decide +kernel
theorem dX3_goThrough_5 : decode cX3_goThrough 5 = .ok (.dup, 1) := by decide +kernel
theorem dX3_goThrough_6 : decode cX3_goThrough 6 = .ok (.getfield 89, 3) := by decide +kernel
theorem dX3_goThrough_9 : decode cX3_goThrough 9 = .ok (.iconst 1, 1) := by decide +kernel
theorem dX3_goThrough_10 : decode cX3_goThrough 10 = .ok (.iadd, 1) := by decide +kernel
theorem dX3_goThrough_11 : decode cX3_goThrough 11 = .ok (.putfield 89, 3) := by decide +kernel
theorem dX3_goThrough_14 : decode cX3_goThrough 14 = .ok (.iconst 1, 1) := by decide +kernel
theorem dX3_goThrough_15 : decode cX3_goThrough 15 = .ok (.ireturn, 1) := by decide +kernel
theorem dX3_goThrough_16 : decode cX3_goThrough 16 = .ok (.aload_n 0, 1) := by decide +kernel
theorem dX3_goThrough_17 : decode cX3_goThrough 17 = .ok (.getfield 39, 3) := by decide +kernel
theorem dX3_goThrough_20 : decode cX3_goThrough 20 = .ok (.iload_n 1, 1) := by decide +kernel
theorem dX3_goThrough_21 : decode cX3_goThrough 21 = .ok (.iaload, 1) := by decide +kernel
theorem dX3_goThrough_22 : decode cX3_goThrough 22 = .ok (.iload_n 2, 1) := by decide +kernel
theorem dX3_goThrough_23 : decode cX3_goThrough 23 = .ok (.if_icmp .lt 15, 3) := by decide +kernel
theorem dX3_goThrough_26 : decode cX3_goThrough 26 = .ok (.aload_n 0, 1) := by decide +kernel
theorem dX3_goThrough_27 : decode cX3_goThrough 27 = .ok (.dup, 1) := by decide +kernel
theorem dX3_goThrough_28 : decode cX3_goThrough 28 = .ok (.getfield 92, 3) := by decide +kernel
theorem dX3_goThrough_31 : decode cX3_goThrough 31 = .ok (.iconst 1, 1) := by decide +kernel
theorem dX3_goThrough_32 : decode cX3_goThrough 32 = .ok (.iadd, 1) := by decide +kernel
theorem dX3_goThrough_33 : decode cX3_goThrough 33 = .ok (.putfield 92, 3) := by decide +kernel
theorem dX3_goThrough_36 : decode cX3_goThrough 36 = .ok (.iconst 1, 1) := by decide +kernel
theorem dX3_goThrough_37 : decode cX3_goThrough 37 = .ok (.ireturn, 1) := by decide +kernel
theorem dX3_goThrough_38 : decode cX3_goThrough 38 = .ok (.iconst 0, 1) := by decide +kernel
theorem dX3_goThrough_39 : decode cX3_goThrough 39 = .ok (.istore 4, 2) := by decide +kernel
theorem dX3_goThrough_41 : decode cX3_goThrough 41 = .ok (.iload 4, 2) := by decide +kernel
theorem dX3_goThrough_43 : decode cX3_goThrough 43 = .ok (.bipush 16, 2) := by decide +kernel
theorem dX3_goThrough_45 : decode cX3_goThrough 45 = .ok (.if_icmp .ge 34, 3) := by decide +kernel
theorem dX3_goThrough_48 : decode cX3_goThrough 48 = .ok (.aload_n 0, 1) := by decide +kernel
theorem dX3_goThrough_49 : decode cX3_goThrough 49 = .ok (.getfield 9, 3) := by decide +kernel
theorem dX3_goThrough_52 : decode cX3_goThrough 52 = .ok (.getfield 109, 3) := by decide +kernel
theorem dX3_goThrough_55 : decode cX3_goThrough 55 = .ok (.iload 4, 2) := by decide +kernel
theorem dX3_goThrough_57 : decode cX3_goThrough 57 = .ok (.iaload, 1) := by decide +kernel
theorem dX3_goThrough_58 : decode cX3_goThrough 58 = .ok (.ifCond .eq 15, 3) := by decide +kernel
theorem dX3_goThrough_61 : decode cX3_goThrough 61 = .ok (.aload_n 0, 1) := by decide +kernel
theorem dX3_goThrough_62 : decode cX3_goThrough 62 = .ok (.iload_n 1, 1) := by decide +kernel
theorem dX3_goThrough_63 : decode cX3_goThrough 63 = .ok (.iload 4, 2) := by decide +kernel
theorem dX3_goThrough_65 : decode cX3_goThrough 65 = .ok (.invokevirtual 112, 3) := by decide +kernel
theorem dX3_goThrough_68 : decode cX3_goThrough 68 = .ok (.ifCond .ne 5, 3) := by decide +kernel
theorem dX3_goThrough_71 : decode cX3_goThrough 71 = .ok (.iconst 0, 1) := by decide +kernel
theorem dX3_goThrough_72 : decode cX3_goThrough 72 = .ok (.ireturn, 1) := by decide +kernel
theorem dX3_goThrough_73 : decode cX3_goThrough 73 = .ok (.iinc 4 1, 3) := by decide +kernel
theorem dX3_goThrough_76 : decode cX3_goThrough 76 = .ok (.goto (-35), 3) := by decide +kernel
theorem dX3_goThrough_79 : decode cX3_goThrough 79 = .ok (.iconst 1, 1) := by decide +kernel
theorem dX3_goThrough_80 : decode cX3_goThrough 80 = .ok (.ireturn, 1) := by decide +kernel
set_option maxRecDepth 20000 in
theorem ggX3_goThroughLine_X7_placeOf : GoodIn wsX3_goThroughLine wsX7_placeOf := goodIn_r _ [5] (by decide +kernel) (by decide +kernel)
set_option maxRecDepth 20000 in
theorem gX3_goThroughLine_X7_placeOf_n116 : GoodIn wsX3_goThroughLine (wsX7_placeOf) := ggX3_goThroughLine_X7_placeOf
set_option maxRecDepth 20000 in
theorem ggX3_goThroughLine_X3_addOnce : GoodIn wsX3_goThroughLine wsX3_addOnce := goodIn_r _ [10, 11, 12, 13, 14, 15, 16, 1, 17, 18, 19, 20, 21, 22, 23, 9, 24, 25, 26, 27, 28, 29, 30, 31, 32, 33, 34, 35, 36, 37, 38, 39, 40, 41, 42, 43, 44, 45, 46, 47, 48, 49, 50, 51, 52, 53, 54, 55, 56, 57, 58, 59, 60, 61, 62, 63, 64, 65, 66, 67, 68, 69, 70, 71, 72, 73, 74, 75, 76, 77, 78, 79, 80] (by decide +kernel) (by decide +kernel)
set_option maxRecDepth 20000 in
theorem gX3_goThroughLine_X3_addOnce : GoodIn wsX3_goThroughLine (wsV RX3 122 RX3 yX3_addOnce wsX3_addOnce) := goodIn_app (goodIn_of _ (by decide +kernel)) ggX3_goThroughLine_X3_addOnce
theorem dX3_goThroughLine_0 : decode cX3_goThroughLine 0 = .ok (.iconst 0, 1) := by decide +kernel
theorem dX3_goThroughLine_1 : decode cX3_goThroughLine 1 = .ok (.istore_n 3, 1) := by decide +kernel
theorem dX3_goThroughLine_2 : decode cX3_goThroughLine 2 = .ok (.iload_n 3, 1) := by decide +kernel
theorem dX3_goThroughLine_3 : decode cX3_goThroughLine 3 = .ok (.bipush 16, 2) := by decide +kernel
theorem dX3_goThroughLine_5 : decode cX3_goThroughLine 5 = .ok (.if_icmp .ge 80, 3) := by decide +kernel
theorem dX3_goThroughLine_8 : decode cX3_goThroughLine 8 = .ok (.iload_n 3, 1) := by decide +kernel
theorem dX3_goThroughLine_9 : decode cX3_goThroughLine 9 = .ok (.iload_n 2, 1) := by decide +kernel
theorem dX3_goThroughLine_10 : decode cX3_goThroughLine 10 = .ok (.invokestatic 116, 3) := by decide +kernel
theorem dX3_goThroughLine_13 : decode cX3_goThroughLine 13 = .ok (.istore 4, 2) := by decide +kernel
theorem dX3_goThroughLine_15 : decode cX3_goThroughLine 15 = .ok (.aload_n 0, 1) := by decide +kernel
theorem dX3_goThroughLine_16 : decode cX3_goThroughLine 16 = .ok (.getfield 9, 3) := by decide +kernel
theorem dX3_goThroughLine_19 : decode cX3_goThroughLine 19 = .ok (.getfield 119, 3) := by decide +kernel
theorem dX3_goThroughLine_22 : decode cX3_goThroughLine 22 = .ok (.iload 4, 2) := by decide +kernel
theorem dX3_goThroughLine_24 : decode cX3_goThroughLine 24 = .ok (.laload, 1) := by decide +kernel
theorem dX3_goThroughLine_25 : decode cX3_goThroughLine 25 = .ok (.lstore 5, 2) := by decide +kernel
theorem dX3_goThroughLine_27 : decode cX3_goThroughLine 27 = .ok (.iconst 0, 1) := by decide +kernel
theorem dX3_goThroughLine_28 : decode cX3_goThroughLine 28 = .ok (.istore 7, 2) := by decide +kernel
theorem dX3_goThroughLine_30 : decode cX3_goThroughLine 30 = .ok (.iload 7, 2) := by decide +kernel
theorem dX3_goThroughLine_32 : decode cX3_goThroughLine 32 = .ok (.bipush 40, 2) := by decide +kernel
theorem dX3_goThroughLine_34 : decode cX3_goThroughLine 34 = .ok (.if_icmp .ge 45, 3) := by decide +kernel
theorem dX3_goThroughLine_37 : decode cX3_goThroughLine 37 = .ok (.lload 5, 2) := by decide +kernel
theorem dX3_goThroughLine_39 : decode cX3_goThroughLine 39 = .ok (.iload 7, 2) := by decide +kernel
theorem dX3_goThroughLine_41 : decode cX3_goThroughLine 41 = .ok (.lushr, 1) := by decide +kernel
theorem dX3_goThroughLine_42 : decode cX3_goThroughLine 42 = .ok (.lconst 0, 1) := by decide +kernel
theorem dX3_goThroughLine_43 : decode cX3_goThroughLine 43 = .ok (.lcmp, 1) := by decide +kernel
theorem dX3_goThroughLine_44 : decode cX3_goThroughLine 44 = .ok (.ifCond .eq 35, 3) := by decide +kernel
theorem dX3_goThroughLine_47 : decode cX3_goThroughLine 47 = .ok (.lload 5, 2) := by decide +kernel
theorem dX3_goThroughLine_49 : decode cX3_goThroughLine 49 = .ok (.iload 7, 2) := by decide +kernel
theorem dX3_goThroughLine_51 : decode cX3_goThroughLine 51 = .ok (.lushr, 1) := by decide +kernel
theorem dX3_goThroughLine_52 : decode cX3_goThroughLine 52 = .ok (.lconst 1, 1) := by decide +kernel
theorem dX3_goThroughLine_53 : decode cX3_goThroughLine 53 = .ok (.land, 1) := by decide +kernel
theorem dX3_goThroughLine_54 : decode cX3_goThroughLine 54 = .ok (.lconst 1, 1) := by decide +kernel
theorem dX3_goThroughLine_55 : decode cX3_goThroughLine 55 = .ok (.lcmp, 1) := by decide +kernel
theorem dX3_goThroughLine_56 : decode cX3_goThroughLine 56 = .ok (.ifCond .ne 17, 3) := by decide +kernel
theorem dX3_goThroughLine_59 : decode cX3_goThroughLine 59 = .ok (.aload_n 0, 1) := by decide +kernel
theorem dX3_goThroughLine_60 : decode cX3_goThroughLine 60 = .ok (.iload_n 1, 1) := by decide +kernel
theorem dX3_goThroughLine_61 : decode cX3_goThroughLine 61 = .ok (.iload 4, 2) := by decide +kernel
theorem dX3_goThroughLine_63 : decode cX3_goThroughLine 63 = .ok (.iload 7, 2) := by decide +kernel
theorem dX3_goThroughLine_65 : decode cX3_goThroughLine 65 = .ok (.invokevirtual 122, 3) := by decide +kernel
theorem dX3_goThroughLine_68 : decode cX3_goThroughLine 68 = .ok (.ifCond .ne 5, 3) := by decide +kernel
theorem dX3_goThroughLine_71 : decode cX3_goThroughLine 71 = .ok (.iconst 0, 1) := by decide +kernel
theorem dX3_goThroughLine_72 : decode cX3_goThroughLine 72 = .ok (.ireturn, 1) := by decide +kernel
theorem dX3_goThroughLine_73 : decode cX3_goThroughLine 73 = .ok (.iinc 7 1, 3) := by decide +kernel
theorem dX3_goThroughLine_76 : decode cX3_goThroughLine 76 = .ok (.goto (-46), 3) := by decide +kernel
theorem dX3_goThroughLine_79 : decode cX3_goThroughLine 79 = .ok (.iinc 3 1, 3) := by decide +kernel
theorem dX3_goThroughLine_82 : decode cX3_goThroughLine 82 = .ok (.goto (-80), 3) := by decide +kernel
theorem dX3_goThroughLine_85 : decode cX3_goThroughLine 85 = .ok (.iconst 1, 1) := by decide +kernel
theorem dX3_goThroughLine_86 : decode cX3_goThroughLine 86 = .ok (.ireturn, 1) := by decide +kernel
set_option maxRecDepth 20000 in
theorem ggX3_addOnce_X3_scattered : GoodIn wsX3_addOnce wsX3_scattered := goodIn_r _ [16, 17, 18] (by decide +kernel) (by decide +kernel)
set_option maxRecDepth 20000 in
theorem gX3_addOnce_X3_scattered : GoodIn wsX3_addOnce (va_wsS RX3 125 yX3_scattered wsX3_scattered) := goodIn_app (goodIn_of _ (by decide +kernel)) ggX3_addOnce_X3_scattered
set_option maxRecDepth 20000 in
theorem ggX3_addOnce_X3_isKnown : GoodIn wsX3_addOnce wsX3_isKnown := goodIn_r _ [22, 12, 1, 11, 23, 24, 25, 15, 26, 10, 7, 27, 4, 5, 28, 3, 29, 30, 31, 32, 33, 34, 35, 36, 37, 38, 39, 40, 41, 42, 43, 44, 45, 46, 47, 48, 49, 50, 51, 52, 53, 54, 55, 56, 57, 58, 59] (by decide +kernel) (by decide +kernel)
set_option maxRecDepth 20000 in
theorem gX3_addOnce_X3_isKnown : GoodIn wsX3_addOnce (wsV RX3 129 RX3 yX3_isKnown wsX3_isKnown) := goodIn_app (goodIn_of _ (by decide +kernel)) ggX3_addOnce_X3_isKnown
theorem dX3_addOnce_0 : decode cX3_addOnce 0 = .ok (.aload_n 0, 1) := by decide +kernel
theorem dX3_addOnce_1 : decode cX3_addOnce 1 = .ok (.getfield 42, 3) := by decide +kernel
theorem dX3_addOnce_4 : decode cX3_addOnce 4 = .ok (.iload_n 1, 1) := by decide +kernel
theorem dX3_addOnce_5 : decode cX3_addOnce 5 = .ok (.laload, 1) := by decide +kernel
theorem dX3_addOnce_6 : decode cX3_addOnce 6 = .ok (.bipush 64, 2) := by decide +kernel
theorem dX3_addOnce_8 : decode cX3_addOnce 8 = .ok (.iload_n 2, 1) := by decide +kernel
theorem dX3_addOnce_9 : decode cX3_addOnce 9 = .ok (.imul, 1) := by decide +kernel
theorem dX3_addOnce_10 : decode cX3_addOnce 10 = .ok (.iload_n 3, 1) := by decide +kernel
theorem dX3_addOnce_11 : decode cX3_addOnce 11 = .ok (.iadd, 1) := by decide +kernel
theorem dX3_addOnce_12 : decode cX3_addOnce 12 = .ok (.invokestatic 125, 3) := by decide +kernel
theorem dX3_addOnce_15 : decode cX3_addOnce 15 = .ok (.ladd, 1) := by decide +kernel
theorem dX3_addOnce_16 : decode cX3_addOnce 16 = .ok (.lstore 4, 2) := by decide +kernel
theorem dX3_addOnce_18 : decode cX3_addOnce 18 = .ok (.lload 4, 2) := by decide +kernel
theorem dX3_addOnce_20 : decode cX3_addOnce 20 = .ok (.bipush 40, 2) := by decide +kernel
theorem dX3_addOnce_22 : decode cX3_addOnce 22 = .ok (.lushr, 1) := by decide +kernel
theorem dX3_addOnce_23 : decode cX3_addOnce 23 = .ok (.l2i, 1) := by decide +kernel
theorem dX3_addOnce_24 : decode cX3_addOnce 24 = .ok (.sipush 511, 3) := by decide +kernel
theorem dX3_addOnce_27 : decode cX3_addOnce 27 = .ok (.iand, 1) := by decide +kernel
theorem dX3_addOnce_28 : decode cX3_addOnce 28 = .ok (.istore 6, 2) := by decide +kernel
theorem dX3_addOnce_30 : decode cX3_addOnce 30 = .ok (.aload_n 0, 1) := by decide +kernel
theorem dX3_addOnce_31 : decode cX3_addOnce 31 = .ok (.iload 6, 2) := by decide +kernel
theorem dX3_addOnce_33 : decode cX3_addOnce 33 = .ok (.lload 4, 2) := by decide +kernel
theorem dX3_addOnce_35 : decode cX3_addOnce 35 = .ok (.iload_n 2, 1) := by decide +kernel
theorem dX3_addOnce_36 : decode cX3_addOnce 36 = .ok (.iload_n 3, 1) := by decide +kernel
theorem dX3_addOnce_37 : decode cX3_addOnce 37 = .ok (.invokevirtual 129, 3) := by decide +kernel
theorem dX3_addOnce_40 : decode cX3_addOnce 40 = .ok (.ifCond .eq 5, 3) := by decide +kernel
theorem dX3_addOnce_43 : decode cX3_addOnce 43 = .ok (.iconst 1, 1) := by decide +kernel
