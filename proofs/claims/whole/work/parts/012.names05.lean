theorem dX8_rule_266 : decode cX8_rule 266 = .ok (.iload 7, 2) := by decide +kernel
theorem dX8_rule_268 : decode cX8_rule 268 = .ok (.isub, 1) := by decide +kernel
theorem dX8_rule_269 : decode cX8_rule 269 = .ok (.invokevirtual 240, 3) := by decide +kernel
theorem dX8_rule_272 : decode cX8_rule 272 = .ok (.pop, 1) := by decide +kernel
theorem dX8_rule_273 : decode cX8_rule 273 = .ok (.iinc 7 1, 3) := by decide +kernel
theorem dX8_rule_276 : decode cX8_rule 276 = .ok (.goto (-31), 3) := by decide +kernel
theorem dX8_rule_279 : decode cX8_rule 279 = .ok (.iload_n 3, 1) := by decide +kernel
theorem dX8_rule_280 : decode cX8_rule 280 = .ok (.iload 4, 2) := by decide +kernel
theorem dX8_rule_282 : decode cX8_rule 282 = .ok (.iadd, 1) := by decide +kernel
theorem dX8_rule_283 : decode cX8_rule 283 = .ok (.ireturn, 1) := by decide +kernel
set_option maxRecDepth 20000 in
theorem ggX8_row_X8_of : GoodIn wsX8_row wsX8_of := goodIn_r _ [5, 6, 7, 8, 9, 10, 11, 4, 12, 13, 14, 15, 16, 17, 18, 19, 20, 21, 22, 23, 24, 25, 26, 27, 28, 29, 30, 31, 32, 33, 34, 35, 36, 37, 38, 39, 40, 41, 42, 43, 44, 45, 46, 47, 48, 49, 50, 51, 52, 53, 54, 55, 56, 57, 58, 59, 60, 61, 62, 63, 64, 65, 66, 67, 68, 69, 70] (by decide +kernel) (by decide +kernel)
set_option maxRecDepth 20000 in
theorem gX8_row_X8_of : GoodIn wsX8_row (wsV RX8 243 RX8 yX8_of wsX8_of) := goodIn_app (goodIn_of _ (by decide +kernel)) ggX8_row_X8_of
theorem dX8_row_0 : decode cX8_row 0 = .ok (.iload_n 1, 1) := by decide +kernel
theorem dX8_row_1 : decode cX8_row 1 = .ok (.ifCond .lt 20, 3) := by decide +kernel
theorem dX8_row_4 : decode cX8_row 4 = .ok (.iload_n 1, 1) := by decide +kernel
theorem dX8_row_5 : decode cX8_row 5 = .ok (.bipush 16, 2) := by decide +kernel
theorem dX8_row_7 : decode cX8_row 7 = .ok (.if_icmp .ge 14, 3) := by decide +kernel
theorem dX8_row_10 : decode cX8_row 10 = .ok (.iload_n 2, 1) := by decide +kernel
theorem dX8_row_11 : decode cX8_row 11 = .ok (.iconst 1, 1) := by decide +kernel
theorem dX8_row_12 : decode cX8_row 12 = .ok (.if_icmp .lt 9, 3) := by decide +kernel
theorem dX8_row_15 : decode cX8_row 15 = .ok (.iload_n 2, 1) := by decide +kernel
theorem dX8_row_16 : decode cX8_row 16 = .ok (.bipush 16, 2) := by decide +kernel
theorem dX8_row_18 : decode cX8_row 18 = .ok (.if_icmp .le 5, 3) := by decide +kernel
theorem dX8_row_21 : decode cX8_row 21 = .ok (.iconst (-1), 1) := by decide +kernel
theorem dX8_row_22 : decode cX8_row 22 = .ok (.ireturn, 1) := by decide +kernel
theorem dX8_row_23 : decode cX8_row 23 = .ok (.iconst 0, 1) := by decide +kernel
theorem dX8_row_24 : decode cX8_row 24 = .ok (.istore_n 3, 1) := by decide +kernel
theorem dX8_row_25 : decode cX8_row 25 = .ok (.iconst 0, 1) := by decide +kernel
theorem dX8_row_26 : decode cX8_row 26 = .ok (.istore 4, 2) := by decide +kernel
theorem dX8_row_28 : decode cX8_row 28 = .ok (.iload 4, 2) := by decide +kernel
theorem dX8_row_30 : decode cX8_row 30 = .ok (.iload_n 2, 1) := by decide +kernel
theorem dX8_row_31 : decode cX8_row 31 = .ok (.if_icmp .ge 42, 3) := by decide +kernel
theorem dX8_row_34 : decode cX8_row 34 = .ok (.aload_n 0, 1) := by decide +kernel
theorem dX8_row_35 : decode cX8_row 35 = .ok (.iload 4, 2) := by decide +kernel
theorem dX8_row_37 : decode cX8_row 37 = .ok (.iload_n 1, 1) := by decide +kernel
theorem dX8_row_38 : decode cX8_row 38 = .ok (.iconst 1, 1) := by decide +kernel
theorem dX8_row_39 : decode cX8_row 39 = .ok (.invokevirtual 243, 3) := by decide +kernel
theorem dX8_row_42 : decode cX8_row 42 = .ok (.istore 5, 2) := by decide +kernel
theorem dX8_row_44 : decode cX8_row 44 = .ok (.iload 5, 2) := by decide +kernel
theorem dX8_row_46 : decode cX8_row 46 = .ok (.iconst 1, 1) := by decide +kernel
theorem dX8_row_47 : decode cX8_row 47 = .ok (.if_icmp .eq 11, 3) := by decide +kernel
theorem dX8_row_50 : decode cX8_row 50 = .ok (.iload 5, 2) := by decide +kernel
theorem dX8_row_52 : decode cX8_row 52 = .ok (.iconst 2, 1) := by decide +kernel
theorem dX8_row_53 : decode cX8_row 53 = .ok (.if_icmp .eq 5, 3) := by decide +kernel
theorem dX8_row_56 : decode cX8_row 56 = .ok (.iconst (-1), 1) := by decide +kernel
theorem dX8_row_57 : decode cX8_row 57 = .ok (.ireturn, 1) := by decide +kernel
theorem dX8_row_58 : decode cX8_row 58 = .ok (.iconst 2, 1) := by decide +kernel
theorem dX8_row_59 : decode cX8_row 59 = .ok (.iload_n 3, 1) := by decide +kernel
theorem dX8_row_60 : decode cX8_row 60 = .ok (.imul, 1) := by decide +kernel
theorem dX8_row_61 : decode cX8_row 61 = .ok (.iload 5, 2) := by decide +kernel
theorem dX8_row_63 : decode cX8_row 63 = .ok (.iadd, 1) := by decide +kernel
theorem dX8_row_64 : decode cX8_row 64 = .ok (.iconst 1, 1) := by decide +kernel
theorem dX8_row_65 : decode cX8_row 65 = .ok (.isub, 1) := by decide +kernel
theorem dX8_row_66 : decode cX8_row 66 = .ok (.istore_n 3, 1) := by decide +kernel
theorem dX8_row_67 : decode cX8_row 67 = .ok (.iinc 4 1, 3) := by decide +kernel
theorem dX8_row_70 : decode cX8_row 70 = .ok (.goto (-42), 3) := by decide +kernel
theorem dX8_row_73 : decode cX8_row 73 = .ok (.iload_n 3, 1) := by decide +kernel
theorem dX8_row_74 : decode cX8_row 74 = .ok (.ireturn, 1) := by decide +kernel
set_option maxRecDepth 20000 in
theorem ggX8_undo_X8_lay : GoodIn wsX8_undo wsX8_lay := goodIn_r _ [12, 13, 23, 24, 25, 26, 27, 28, 29, 30, 31, 32, 33, 34, 35, 36, 37, 38, 39, 40, 41, 42, 43, 44, 45, 46, 47, 48, 49, 50, 51, 52, 53, 54, 55, 56, 57, 58, 59, 60] (by decide +kernel) (by decide +kernel)
set_option maxRecDepth 20000 in
theorem gX8_undo_X8_lay : GoodIn wsX8_undo (wsV RX8 162 RX8 yX8_lay wsX8_lay) := goodIn_app (goodIn_of _ (by decide +kernel)) ggX8_undo_X8_lay
set_option maxRecDepth 20000 in
theorem ggX8_undo_X8_setSince : GoodIn wsX8_undo wsX8_setSince := goodIn_r _ [17, 18, 13, 23, 24, 25, 26, 27, 28, 29, 30, 31, 32, 33, 34, 35, 36, 37, 38, 39, 40, 41, 42, 43, 44, 45, 46, 47, 48, 49, 50, 51, 52, 53, 54, 55, 56, 57, 58, 59, 60] (by decide +kernel) (by decide +kernel)
set_option maxRecDepth 20000 in
theorem gX8_undo_X8_setSince : GoodIn wsX8_undo (wsV RX8 166 RX8 yX8_setSince wsX8_setSince) := goodIn_app (goodIn_of _ (by decide +kernel)) ggX8_undo_X8_setSince
set_option maxRecDepth 20000 in
theorem ggX8_undo_X8_away : GoodIn wsX8_undo wsX8_away := goodIn_r _ [22, 13, 23, 24, 25, 26, 27, 28, 29, 30, 31, 32, 33, 34, 35, 36, 37, 38, 39, 40, 41, 42, 43, 44, 45, 46, 47, 48, 49, 50, 51, 52, 53, 54, 55, 56, 57, 58, 59, 60] (by decide +kernel) (by decide +kernel)
set_option maxRecDepth 20000 in
theorem gX8_undo_X8_away : GoodIn wsX8_undo (wsV RX8 246 RX8 yX8_away wsX8_away) := goodIn_app (goodIn_of _ (by decide +kernel)) ggX8_undo_X8_away
theorem dX8_undo_0 : decode cX8_undo 0 = .ok (.iload_n 1, 1) := by decide +kernel
theorem dX8_undo_1 : decode cX8_undo 1 = .ok (.ifCond .lt 11, 3) := by decide +kernel
theorem dX8_undo_4 : decode cX8_undo 4 = .ok (.iload_n 1, 1) := by decide +kernel
theorem dX8_undo_5 : decode cX8_undo 5 = .ok (.aload_n 0, 1) := by decide +kernel
theorem dX8_undo_6 : decode cX8_undo 6 = .ok (.getfield 156, 3) := by decide +kernel
theorem dX8_undo_9 : decode cX8_undo 9 = .ok (.if_icmp .le 5, 3) := by decide +kernel
theorem dX8_undo_12 : decode cX8_undo 12 = .ok (.iconst (-1), 1) := by decide +kernel
theorem dX8_undo_13 : decode cX8_undo 13 = .ok (.ireturn, 1) := by decide +kernel
theorem dX8_undo_14 : decode cX8_undo 14 = .ok (.iconst 0, 1) := by decide +kernel
theorem dX8_undo_15 : decode cX8_undo 15 = .ok (.istore_n 2, 1) := by decide +kernel
theorem dX8_undo_16 : decode cX8_undo 16 = .ok (.iload_n 2, 1) := by decide +kernel
theorem dX8_undo_17 : decode cX8_undo 17 = .ok (.iload_n 1, 1) := by decide +kernel
theorem dX8_undo_18 : decode cX8_undo 18 = .ok (.if_icmp .ge 113, 3) := by decide +kernel
theorem dX8_undo_21 : decode cX8_undo 21 = .ok (.aload_n 0, 1) := by decide +kernel
theorem dX8_undo_22 : decode cX8_undo 22 = .ok (.dup, 1) := by decide +kernel
theorem dX8_undo_23 : decode cX8_undo 23 = .ok (.getfield 156, 3) := by decide +kernel
theorem dX8_undo_26 : decode cX8_undo 26 = .ok (.iconst 1, 1) := by decide +kernel
theorem dX8_undo_27 : decode cX8_undo 27 = .ok (.isub, 1) := by decide +kernel
theorem dX8_undo_28 : decode cX8_undo 28 = .ok (.putfield 156, 3) := by decide +kernel
theorem dX8_undo_31 : decode cX8_undo 31 = .ok (.aload_n 0, 1) := by decide +kernel
theorem dX8_undo_32 : decode cX8_undo 32 = .ok (.dup, 1) := by decide +kernel
theorem dX8_undo_33 : decode cX8_undo 33 = .ok (.getfield 159, 3) := by decide +kernel
theorem dX8_undo_36 : decode cX8_undo 36 = .ok (.iconst 1, 1) := by decide +kernel
theorem dX8_undo_37 : decode cX8_undo 37 = .ok (.isub, 1) := by decide +kernel
theorem dX8_undo_38 : decode cX8_undo 38 = .ok (.putfield 159, 3) := by decide +kernel
theorem dX8_undo_41 : decode cX8_undo 41 = .ok (.aload_n 0, 1) := by decide +kernel
theorem dX8_undo_42 : decode cX8_undo 42 = .ok (.getfield 60, 3) := by decide +kernel
theorem dX8_undo_45 : decode cX8_undo 45 = .ok (.aload_n 0, 1) := by decide +kernel
theorem dX8_undo_46 : decode cX8_undo 46 = .ok (.getfield 156, 3) := by decide +kernel
theorem dX8_undo_49 : decode cX8_undo 49 = .ok (.iaload, 1) := by decide +kernel
theorem dX8_undo_50 : decode cX8_undo 50 = .ok (.istore_n 3, 1) := by decide +kernel
theorem dX8_undo_51 : decode cX8_undo 51 = .ok (.aload_n 0, 1) := by decide +kernel
theorem dX8_undo_52 : decode cX8_undo 52 = .ok (.getfield 63, 3) := by decide +kernel
theorem dX8_undo_55 : decode cX8_undo 55 = .ok (.aload_n 0, 1) := by decide +kernel
theorem dX8_undo_56 : decode cX8_undo 56 = .ok (.getfield 156, 3) := by decide +kernel
theorem dX8_undo_59 : decode cX8_undo 59 = .ok (.iaload, 1) := by decide +kernel
theorem dX8_undo_60 : decode cX8_undo 60 = .ok (.istore 4, 2) := by decide +kernel
theorem dX8_undo_62 : decode cX8_undo 62 = .ok (.aload_n 0, 1) := by decide +kernel
theorem dX8_undo_63 : decode cX8_undo 63 = .ok (.getfield 57, 3) := by decide +kernel
theorem dX8_undo_66 : decode cX8_undo 66 = .ok (.aload_n 0, 1) := by decide +kernel
theorem dX8_undo_67 : decode cX8_undo 67 = .ok (.getfield 156, 3) := by decide +kernel
theorem dX8_undo_70 : decode cX8_undo 70 = .ok (.iaload, 1) := by decide +kernel
theorem dX8_undo_71 : decode cX8_undo 71 = .ok (.iconst 2, 1) := by decide +kernel
theorem dX8_undo_72 : decode cX8_undo 72 = .ok (.if_icmp .ne 34, 3) := by decide +kernel
theorem dX8_undo_75 : decode cX8_undo 75 = .ok (.aload_n 0, 1) := by decide +kernel
theorem dX8_undo_76 : decode cX8_undo 76 = .ok (.aload_n 0, 1) := by decide +kernel
theorem dX8_undo_77 : decode cX8_undo 77 = .ok (.getfield 26, 3) := by decide +kernel
theorem dX8_undo_80 : decode cX8_undo 80 = .ok (.iconst 0, 1) := by decide +kernel
theorem dX8_undo_81 : decode cX8_undo 81 = .ok (.iload_n 3, 1) := by decide +kernel
theorem dX8_undo_82 : decode cX8_undo 82 = .ok (.iload 4, 2) := by decide +kernel
theorem dX8_undo_84 : decode cX8_undo 84 = .ok (.invokevirtual 162, 3) := by decide +kernel
theorem dX8_undo_87 : decode cX8_undo 87 = .ok (.aload_n 0, 1) := by decide +kernel
theorem dX8_undo_88 : decode cX8_undo 88 = .ok (.iload_n 3, 1) := by decide +kernel
theorem dX8_undo_89 : decode cX8_undo 89 = .ok (.iload 4, 2) := by decide +kernel
theorem dX8_undo_91 : decode cX8_undo 91 = .ok (.aload_n 0, 1) := by decide +kernel
theorem dX8_undo_92 : decode cX8_undo 92 = .ok (.getfield 66, 3) := by decide +kernel
theorem dX8_undo_95 : decode cX8_undo 95 = .ok (.aload_n 0, 1) := by decide +kernel
theorem dX8_undo_96 : decode cX8_undo 96 = .ok (.getfield 156, 3) := by decide +kernel
theorem dX8_undo_99 : decode cX8_undo 99 = .ok (.iaload, 1) := by decide +kernel
theorem dX8_undo_100 : decode cX8_undo 100 = .ok (.invokevirtual 166, 3) := by decide +kernel
theorem dX8_undo_103 : decode cX8_undo 103 = .ok (.goto 22, 3) := by decide +kernel
theorem dX8_undo_106 : decode cX8_undo 106 = .ok (.aload_n 0, 1) := by decide +kernel
theorem dX8_undo_107 : decode cX8_undo 107 = .ok (.aload_n 0, 1) := by decide +kernel
theorem dX8_undo_108 : decode cX8_undo 108 = .ok (.getfield 26, 3) := by decide +kernel
theorem dX8_undo_111 : decode cX8_undo 111 = .ok (.iload_n 3, 1) := by decide +kernel
theorem dX8_undo_112 : decode cX8_undo 112 = .ok (.iload 4, 2) := by decide +kernel
theorem dX8_undo_114 : decode cX8_undo 114 = .ok (.invokevirtual 246, 3) := by decide +kernel
theorem dX8_undo_117 : decode cX8_undo 117 = .ok (.aload_n 0, 1) := by decide +kernel
theorem dX8_undo_118 : decode cX8_undo 118 = .ok (.iload_n 3, 1) := by decide +kernel
theorem dX8_undo_119 : decode cX8_undo 119 = .ok (.iload 4, 2) := by decide +kernel
theorem dX8_undo_121 : decode cX8_undo 121 = .ok (.iconst (-1), 1) := by decide +kernel
theorem dX8_undo_122 : decode cX8_undo 122 = .ok (.invokevirtual 166, 3) := by decide +kernel
theorem dX8_undo_125 : decode cX8_undo 125 = .ok (.iinc 2 1, 3) := by decide +kernel
theorem dX8_undo_128 : decode cX8_undo 128 = .ok (.goto (-112), 3) := by decide +kernel
theorem dX8_undo_131 : decode cX8_undo 131 = .ok (.iload_n 1, 1) := by decide +kernel
theorem dX8_undo_132 : decode cX8_undo 132 = .ok (.ireturn, 1) := by decide +kernel
theorem dX8_keep_0 : decode cX8_keep 0 = .ok (.iload_n 1, 1) := by decide +kernel
theorem dX8_keep_1 : decode cX8_keep 1 = .ok (.ifCond .lt 8, 3) := by decide +kernel
theorem dX8_keep_4 : decode cX8_keep 4 = .ok (.iload_n 1, 1) := by decide +kernel
theorem dX8_keep_5 : decode cX8_keep 5 = .ok (.iconst 2, 1) := by decide +kernel
theorem dX8_keep_6 : decode cX8_keep 6 = .ok (.if_icmp .le 5, 3) := by decide +kernel
theorem dX8_keep_9 : decode cX8_keep 9 = .ok (.iconst 0, 1) := by decide +kernel
theorem dX8_keep_10 : decode cX8_keep 10 = .ok (.ireturn, 1) := by decide +kernel
theorem dX8_keep_11 : decode cX8_keep 11 = .ok (.iconst 0, 1) := by decide +kernel
theorem dX8_keep_12 : decode cX8_keep 12 = .ok (.istore_n 2, 1) := by decide +kernel
theorem dX8_keep_13 : decode cX8_keep 13 = .ok (.iload_n 2, 1) := by decide +kernel
theorem dX8_keep_14 : decode cX8_keep 14 = .ok (.bipush 50, 2) := by decide +kernel
theorem dX8_keep_16 : decode cX8_keep 16 = .ok (.if_icmp .gt 26, 3) := by decide +kernel
theorem dX8_keep_19 : decode cX8_keep 19 = .ok (.aload_n 0, 1) := by decide +kernel
theorem dX8_keep_20 : decode cX8_keep 20 = .ok (.getfield 32, 3) := by decide +kernel
theorem dX8_keep_23 : decode cX8_keep 23 = .ok (.bipush 51, 2) := by decide +kernel
theorem dX8_keep_25 : decode cX8_keep 25 = .ok (.iload_n 1, 1) := by decide +kernel
theorem dX8_keep_26 : decode cX8_keep 26 = .ok (.imul, 1) := by decide +kernel
theorem dX8_keep_27 : decode cX8_keep 27 = .ok (.iload_n 2, 1) := by decide +kernel
theorem dX8_keep_28 : decode cX8_keep 28 = .ok (.iadd, 1) := by decide +kernel
theorem dX8_keep_29 : decode cX8_keep 29 = .ok (.aload_n 0, 1) := by decide +kernel
theorem dX8_keep_30 : decode cX8_keep 30 = .ok (.getfield 7, 3) := by decide +kernel
theorem dX8_keep_33 : decode cX8_keep 33 = .ok (.iload_n 2, 1) := by decide +kernel
theorem dX8_keep_34 : decode cX8_keep 34 = .ok (.iaload, 1) := by decide +kernel
theorem dX8_keep_35 : decode cX8_keep 35 = .ok (.iastore, 1) := by decide +kernel
theorem dX8_keep_36 : decode cX8_keep 36 = .ok (.iinc 2 1, 3) := by decide +kernel
theorem dX8_keep_39 : decode cX8_keep 39 = .ok (.goto (-26), 3) := by decide +kernel
theorem dX8_keep_42 : decode cX8_keep 42 = .ok (.iconst 0, 1) := by decide +kernel
theorem dX8_keep_43 : decode cX8_keep 43 = .ok (.istore_n 2, 1) := by decide +kernel
theorem dX8_keep_44 : decode cX8_keep 44 = .ok (.iload_n 2, 1) := by decide +kernel
theorem dX8_keep_45 : decode cX8_keep 45 = .ok (.bipush 40, 2) := by decide +kernel
theorem dX8_keep_47 : decode cX8_keep 47 = .ok (.if_icmp .ge 82, 3) := by decide +kernel
theorem dX8_keep_50 : decode cX8_keep 50 = .ok (.aload_n 0, 1) := by decide +kernel
theorem dX8_keep_51 : decode cX8_keep 51 = .ok (.getfield 35, 3) := by decide +kernel
theorem dX8_keep_54 : decode cX8_keep 54 = .ok (.bipush 40, 2) := by decide +kernel
theorem dX8_keep_56 : decode cX8_keep 56 = .ok (.iload_n 1, 1) := by decide +kernel
theorem dX8_keep_57 : decode cX8_keep 57 = .ok (.imul, 1) := by decide +kernel
theorem dX8_keep_58 : decode cX8_keep 58 = .ok (.iload_n 2, 1) := by decide +kernel
theorem dX8_keep_59 : decode cX8_keep 59 = .ok (.iadd, 1) := by decide +kernel
theorem dX8_keep_60 : decode cX8_keep 60 = .ok (.aload_n 0, 1) := by decide +kernel
theorem dX8_keep_61 : decode cX8_keep 61 = .ok (.getfield 13, 3) := by decide +kernel
theorem dX8_keep_64 : decode cX8_keep 64 = .ok (.iload_n 2, 1) := by decide +kernel
theorem dX8_keep_65 : decode cX8_keep 65 = .ok (.iaload, 1) := by decide +kernel
theorem dX8_keep_66 : decode cX8_keep 66 = .ok (.iastore, 1) := by decide +kernel
theorem dX8_keep_67 : decode cX8_keep 67 = .ok (.aload_n 0, 1) := by decide +kernel
theorem dX8_keep_68 : decode cX8_keep 68 = .ok (.getfield 38, 3) := by decide +kernel
theorem dX8_keep_71 : decode cX8_keep 71 = .ok (.bipush 40, 2) := by decide +kernel
theorem dX8_keep_73 : decode cX8_keep 73 = .ok (.iload_n 1, 1) := by decide +kernel
theorem dX8_keep_74 : decode cX8_keep 74 = .ok (.imul, 1) := by decide +kernel
theorem dX8_keep_75 : decode cX8_keep 75 = .ok (.iload_n 2, 1) := by decide +kernel
theorem dX8_keep_76 : decode cX8_keep 76 = .ok (.iadd, 1) := by decide +kernel
theorem dX8_keep_77 : decode cX8_keep 77 = .ok (.aload_n 0, 1) := by decide +kernel
theorem dX8_keep_78 : decode cX8_keep 78 = .ok (.getfield 16, 3) := by decide +kernel
theorem dX8_keep_81 : decode cX8_keep 81 = .ok (.iload_n 2, 1) := by decide +kernel
theorem dX8_keep_82 : decode cX8_keep 82 = .ok (.iaload, 1) := by decide +kernel
theorem dX8_keep_83 : decode cX8_keep 83 = .ok (.iastore, 1) := by decide +kernel
theorem dX8_keep_84 : decode cX8_keep 84 = .ok (.iconst 0, 1) := by decide +kernel
theorem dX8_keep_85 : decode cX8_keep 85 = .ok (.istore_n 3, 1) := by decide +kernel
theorem dX8_keep_86 : decode cX8_keep 86 = .ok (.iload_n 3, 1) := by decide +kernel
theorem dX8_keep_87 : decode cX8_keep 87 = .ok (.iconst 4, 1) := by decide +kernel
theorem dX8_keep_88 : decode cX8_keep 88 = .ok (.if_icmp .ge 35, 3) := by decide +kernel
theorem dX8_keep_91 : decode cX8_keep 91 = .ok (.aload_n 0, 1) := by decide +kernel
theorem dX8_keep_92 : decode cX8_keep 92 = .ok (.getfield 41, 3) := by decide +kernel
theorem dX8_keep_95 : decode cX8_keep 95 = .ok (.sipush 160, 3) := by decide +kernel
theorem dX8_keep_98 : decode cX8_keep 98 = .ok (.iload_n 1, 1) := by decide +kernel
theorem dX8_keep_99 : decode cX8_keep 99 = .ok (.imul, 1) := by decide +kernel
theorem dX8_keep_100 : decode cX8_keep 100 = .ok (.iconst 4, 1) := by decide +kernel
theorem dX8_keep_101 : decode cX8_keep 101 = .ok (.iload_n 2, 1) := by decide +kernel
theorem dX8_keep_102 : decode cX8_keep 102 = .ok (.imul, 1) := by decide +kernel
theorem dX8_keep_103 : decode cX8_keep 103 = .ok (.iadd, 1) := by decide +kernel
theorem dX8_keep_104 : decode cX8_keep 104 = .ok (.iload_n 3, 1) := by decide +kernel
theorem dX8_keep_105 : decode cX8_keep 105 = .ok (.iadd, 1) := by decide +kernel
theorem dX8_keep_106 : decode cX8_keep 106 = .ok (.aload_n 0, 1) := by decide +kernel
theorem dX8_keep_107 : decode cX8_keep 107 = .ok (.getfield 19, 3) := by decide +kernel
theorem dX8_keep_110 : decode cX8_keep 110 = .ok (.iconst 4, 1) := by decide +kernel
theorem dX8_keep_111 : decode cX8_keep 111 = .ok (.iload_n 2, 1) := by decide +kernel
theorem dX8_keep_112 : decode cX8_keep 112 = .ok (.imul, 1) := by decide +kernel
theorem dX8_keep_113 : decode cX8_keep 113 = .ok (.iload_n 3, 1) := by decide +kernel
theorem dX8_keep_114 : decode cX8_keep 114 = .ok (.iadd, 1) := by decide +kernel
theorem dX8_keep_115 : decode cX8_keep 115 = .ok (.iaload, 1) := by decide +kernel
theorem dX8_keep_116 : decode cX8_keep 116 = .ok (.iastore, 1) := by decide +kernel
theorem dX8_keep_117 : decode cX8_keep 117 = .ok (.iinc 3 1, 3) := by decide +kernel
theorem dX8_keep_120 : decode cX8_keep 120 = .ok (.goto (-34), 3) := by decide +kernel
theorem dX8_keep_123 : decode cX8_keep 123 = .ok (.iinc 2 1, 3) := by decide +kernel
theorem dX8_keep_126 : decode cX8_keep 126 = .ok (.goto (-82), 3) := by decide +kernel
theorem dX8_keep_129 : decode cX8_keep 129 = .ok (.aload_n 0, 1) := by decide +kernel
theorem dX8_keep_130 : decode cX8_keep 130 = .ok (.getfield 44, 3) := by decide +kernel
theorem dX8_keep_133 : decode cX8_keep 133 = .ok (.iload_n 1, 1) := by decide +kernel
theorem dX8_keep_134 : decode cX8_keep 134 = .ok (.aload_n 0, 1) := by decide +kernel
theorem dX8_keep_135 : decode cX8_keep 135 = .ok (.getfield 92, 3) := by decide +kernel
theorem dX8_keep_138 : decode cX8_keep 138 = .ok (.iastore, 1) := by decide +kernel
theorem dX8_keep_139 : decode cX8_keep 139 = .ok (.aload_n 0, 1) := by decide +kernel
theorem dX8_keep_140 : decode cX8_keep 140 = .ok (.getfield 47, 3) := by decide +kernel
theorem dX8_keep_143 : decode cX8_keep 143 = .ok (.iload_n 1, 1) := by decide +kernel
theorem dX8_keep_144 : decode cX8_keep 144 = .ok (.aload_n 0, 1) := by decide +kernel
theorem dX8_keep_145 : decode cX8_keep 145 = .ok (.getfield 22, 3) := by decide +kernel
theorem dX8_keep_148 : decode cX8_keep 148 = .ok (.iastore, 1) := by decide +kernel
theorem dX8_keep_149 : decode cX8_keep 149 = .ok (.aload_n 0, 1) := by decide +kernel
theorem dX8_keep_150 : decode cX8_keep 150 = .ok (.getfield 53, 3) := by decide +kernel
theorem dX8_keep_153 : decode cX8_keep 153 = .ok (.iload_n 1, 1) := by decide +kernel
theorem dX8_keep_154 : decode cX8_keep 154 = .ok (.aload_n 0, 1) := by decide +kernel
theorem dX8_keep_155 : decode cX8_keep 155 = .ok (.getfield 198, 3) := by decide +kernel
theorem dX8_keep_158 : decode cX8_keep 158 = .ok (.lastore, 1) := by decide +kernel
theorem dX8_keep_159 : decode cX8_keep 159 = .ok (.iconst 0, 1) := by decide +kernel
theorem dX8_keep_160 : decode cX8_keep 160 = .ok (.istore_n 2, 1) := by decide +kernel
theorem dX8_keep_161 : decode cX8_keep 161 = .ok (.iload_n 2, 1) := by decide +kernel
theorem dX8_keep_162 : decode cX8_keep 162 = .ok (.sipush 256, 3) := by decide +kernel
theorem dX8_keep_165 : decode cX8_keep 165 = .ok (.if_icmp .ge 27, 3) := by decide +kernel
theorem dX8_keep_168 : decode cX8_keep 168 = .ok (.aload_n 0, 1) := by decide +kernel
theorem dX8_keep_169 : decode cX8_keep 169 = .ok (.getfield 50, 3) := by decide +kernel
theorem dX8_keep_172 : decode cX8_keep 172 = .ok (.sipush 256, 3) := by decide +kernel
theorem dX8_keep_175 : decode cX8_keep 175 = .ok (.iload_n 1, 1) := by decide +kernel
theorem dX8_keep_176 : decode cX8_keep 176 = .ok (.imul, 1) := by decide +kernel
theorem dX8_keep_177 : decode cX8_keep 177 = .ok (.iload_n 2, 1) := by decide +kernel
theorem dX8_keep_178 : decode cX8_keep 178 = .ok (.iadd, 1) := by decide +kernel
theorem dX8_keep_179 : decode cX8_keep 179 = .ok (.aload_n 0, 1) := by decide +kernel
theorem dX8_keep_180 : decode cX8_keep 180 = .ok (.getfield 26, 3) := by decide +kernel
theorem dX8_keep_183 : decode cX8_keep 183 = .ok (.iload_n 2, 1) := by decide +kernel
theorem dX8_keep_184 : decode cX8_keep 184 = .ok (.iaload, 1) := by decide +kernel
theorem dX8_keep_185 : decode cX8_keep 185 = .ok (.iastore, 1) := by decide +kernel
theorem dX8_keep_186 : decode cX8_keep 186 = .ok (.iinc 2 1, 3) := by decide +kernel
theorem dX8_keep_189 : decode cX8_keep 189 = .ok (.goto (-28), 3) := by decide +kernel
theorem dX8_keep_192 : decode cX8_keep 192 = .ok (.iconst 1, 1) := by decide +kernel
theorem dX8_keep_193 : decode cX8_keep 193 = .ok (.ireturn, 1) := by decide +kernel
set_option maxRecDepth 20000 in
theorem ggX8_back_X8_noSteps : GoodIn wsX8_back wsX8_noSteps := goodIn_r _ [23, 24, 25, 30, 31, 32, 33, 34, 35, 36, 37, 38, 39, 40, 41, 42, 43, 44, 45, 46, 47, 48, 49, 50, 51, 52, 53, 54, 55, 56, 57, 58, 59, 60, 61, 62, 63, 64, 65, 66, 67] (by decide +kernel) (by decide +kernel)
set_option maxRecDepth 20000 in
theorem gX8_back_X8_noSteps : GoodIn wsX8_back (wsV RX8 178 RX8 yX8_noSteps wsX8_noSteps) := goodIn_app (goodIn_of _ (by decide +kernel)) ggX8_back_X8_noSteps
set_option maxRecDepth 20000 in
theorem ggX8_back_X8_isClear : GoodIn wsX8_back wsX8_isClear := goodIn_r _ [29, 15, 30, 31, 32, 33, 34, 35, 36, 37, 38, 39, 40, 41, 42, 43, 44, 45, 46, 47, 48, 49, 50, 51, 52, 53, 54, 55, 56, 57, 58, 59, 60, 61, 62, 63, 64, 65, 66, 67] (by decide +kernel) (by decide +kernel)
set_option maxRecDepth 20000 in
theorem gX8_back_X8_isClear : GoodIn wsX8_back (wsV RX8 95 RX8 yX8_isClear wsX8_isClear) := goodIn_app (goodIn_of _ (by decide +kernel)) ggX8_back_X8_isClear
theorem dX8_back_0 : decode cX8_back 0 = .ok (.iload_n 1, 1) := by decide +kernel
theorem dX8_back_1 : decode cX8_back 1 = .ok (.ifCond .lt 8, 3) := by decide +kernel
theorem dX8_back_4 : decode cX8_back 4 = .ok (.iload_n 1, 1) := by decide +kernel
theorem dX8_back_5 : decode cX8_back 5 = .ok (.iconst 2, 1) := by decide +kernel
theorem dX8_back_6 : decode cX8_back 6 = .ok (.if_icmp .le 5, 3) := by decide +kernel
theorem dX8_back_9 : decode cX8_back 9 = .ok (.iconst 0, 1) := by decide +kernel
theorem dX8_back_10 : decode cX8_back 10 = .ok (.ireturn, 1) := by decide +kernel
theorem dX8_back_11 : decode cX8_back 11 = .ok (.iconst 0, 1) := by decide +kernel
theorem dX8_back_12 : decode cX8_back 12 = .ok (.istore_n 2, 1) := by decide +kernel
theorem dX8_back_13 : decode cX8_back 13 = .ok (.iload_n 2, 1) := by decide +kernel
theorem dX8_back_14 : decode cX8_back 14 = .ok (.bipush 50, 2) := by decide +kernel
theorem dX8_back_16 : decode cX8_back 16 = .ok (.if_icmp .gt 26, 3) := by decide +kernel
theorem dX8_back_19 : decode cX8_back 19 = .ok (.aload_n 0, 1) := by decide +kernel
theorem dX8_back_20 : decode cX8_back 20 = .ok (.getfield 7, 3) := by decide +kernel
theorem dX8_back_23 : decode cX8_back 23 = .ok (.iload_n 2, 1) := by decide +kernel
theorem dX8_back_24 : decode cX8_back 24 = .ok (.aload_n 0, 1) := by decide +kernel
theorem dX8_back_25 : decode cX8_back 25 = .ok (.getfield 32, 3) := by decide +kernel
theorem dX8_back_28 : decode cX8_back 28 = .ok (.bipush 51, 2) := by decide +kernel
theorem dX8_back_30 : decode cX8_back 30 = .ok (.iload_n 1, 1) := by decide +kernel
theorem dX8_back_31 : decode cX8_back 31 = .ok (.imul, 1) := by decide +kernel
theorem dX8_back_32 : decode cX8_back 32 = .ok (.iload_n 2, 1) := by decide +kernel
theorem dX8_back_33 : decode cX8_back 33 = .ok (.iadd, 1) := by decide +kernel
theorem dX8_back_34 : decode cX8_back 34 = .ok (.iaload, 1) := by decide +kernel
theorem dX8_back_35 : decode cX8_back 35 = .ok (.iastore, 1) := by decide +kernel
theorem dX8_back_36 : decode cX8_back 36 = .ok (.iinc 2 1, 3) := by decide +kernel
theorem dX8_back_39 : decode cX8_back 39 = .ok (.goto (-26), 3) := by decide +kernel
theorem dX8_back_42 : decode cX8_back 42 = .ok (.iconst 0, 1) := by decide +kernel
theorem dX8_back_43 : decode cX8_back 43 = .ok (.istore_n 2, 1) := by decide +kernel
theorem dX8_back_44 : decode cX8_back 44 = .ok (.iload_n 2, 1) := by decide +kernel
theorem dX8_back_45 : decode cX8_back 45 = .ok (.bipush 40, 2) := by decide +kernel
theorem dX8_back_47 : decode cX8_back 47 = .ok (.if_icmp .ge 82, 3) := by decide +kernel
theorem dX8_back_50 : decode cX8_back 50 = .ok (.aload_n 0, 1) := by decide +kernel
theorem dX8_back_51 : decode cX8_back 51 = .ok (.getfield 13, 3) := by decide +kernel
theorem dX8_back_54 : decode cX8_back 54 = .ok (.iload_n 2, 1) := by decide +kernel
theorem dX8_back_55 : decode cX8_back 55 = .ok (.aload_n 0, 1) := by decide +kernel
theorem dX8_back_56 : decode cX8_back 56 = .ok (.getfield 35, 3) := by decide +kernel
theorem dX8_back_59 : decode cX8_back 59 = .ok (.bipush 40, 2) := by decide +kernel
theorem dX8_back_61 : decode cX8_back 61 = .ok (.iload_n 1, 1) := by decide +kernel
theorem dX8_back_62 : decode cX8_back 62 = .ok (.imul, 1) := by decide +kernel
theorem dX8_back_63 : decode cX8_back 63 = .ok (.iload_n 2, 1) := by decide +kernel
theorem dX8_back_64 : decode cX8_back 64 = .ok (.iadd, 1) := by decide +kernel
theorem dX8_back_65 : decode cX8_back 65 = .ok (.iaload, 1) := by decide +kernel
theorem dX8_back_66 : decode cX8_back 66 = .ok (.iastore, 1) := by decide +kernel
theorem dX8_back_67 : decode cX8_back 67 = .ok (.aload_n 0, 1) := by decide +kernel
theorem dX8_back_68 : decode cX8_back 68 = .ok (.getfield 16, 3) := by decide +kernel
theorem dX8_back_71 : decode cX8_back 71 = .ok (.iload_n 2, 1) := by decide +kernel
theorem dX8_back_72 : decode cX8_back 72 = .ok (.aload_n 0, 1) := by decide +kernel
theorem dX8_back_73 : decode cX8_back 73 = .ok (.getfield 38, 3) := by decide +kernel
theorem dX8_back_76 : decode cX8_back 76 = .ok (.bipush 40, 2) := by decide +kernel
theorem dX8_back_78 : decode cX8_back 78 = .ok (.iload_n 1, 1) := by decide +kernel
theorem dX8_back_79 : decode cX8_back 79 = .ok (.imul, 1) := by decide +kernel
theorem dX8_back_80 : decode cX8_back 80 = .ok (.iload_n 2, 1) := by decide +kernel
theorem dX8_back_81 : decode cX8_back 81 = .ok (.iadd, 1) := by decide +kernel
theorem dX8_back_82 : decode cX8_back 82 = .ok (.iaload, 1) := by decide +kernel
theorem dX8_back_83 : decode cX8_back 83 = .ok (.iastore, 1) := by decide +kernel
theorem dX8_back_84 : decode cX8_back 84 = .ok (.iconst 0, 1) := by decide +kernel
theorem dX8_back_85 : decode cX8_back 85 = .ok (.istore_n 3, 1) := by decide +kernel
theorem dX8_back_86 : decode cX8_back 86 = .ok (.iload_n 3, 1) := by decide +kernel
theorem dX8_back_87 : decode cX8_back 87 = .ok (.iconst 4, 1) := by decide +kernel
theorem dX8_back_88 : decode cX8_back 88 = .ok (.if_icmp .ge 35, 3) := by decide +kernel
theorem dX8_back_91 : decode cX8_back 91 = .ok (.aload_n 0, 1) := by decide +kernel
theorem dX8_back_92 : decode cX8_back 92 = .ok (.getfield 19, 3) := by decide +kernel
theorem dX8_back_95 : decode cX8_back 95 = .ok (.iconst 4, 1) := by decide +kernel
theorem dX8_back_96 : decode cX8_back 96 = .ok (.iload_n 2, 1) := by decide +kernel
theorem dX8_back_97 : decode cX8_back 97 = .ok (.imul, 1) := by decide +kernel
theorem dX8_back_98 : decode cX8_back 98 = .ok (.iload_n 3, 1) := by decide +kernel
theorem dX8_back_99 : decode cX8_back 99 = .ok (.iadd, 1) := by decide +kernel
theorem dX8_back_100 : decode cX8_back 100 = .ok (.aload_n 0, 1) := by decide +kernel
theorem dX8_back_101 : decode cX8_back 101 = .ok (.getfield 41, 3) := by decide +kernel
theorem dX8_back_104 : decode cX8_back 104 = .ok (.sipush 160, 3) := by decide +kernel
theorem dX8_back_107 : decode cX8_back 107 = .ok (.iload_n 1, 1) := by decide +kernel
theorem dX8_back_108 : decode cX8_back 108 = .ok (.imul, 1) := by decide +kernel
theorem dX8_back_109 : decode cX8_back 109 = .ok (.iconst 4, 1) := by decide +kernel
theorem dX8_back_110 : decode cX8_back 110 = .ok (.iload_n 2, 1) := by decide +kernel
theorem dX8_back_111 : decode cX8_back 111 = .ok (.imul, 1) := by decide +kernel
theorem dX8_back_112 : decode cX8_back 112 = .ok (.iadd, 1) := by decide +kernel
theorem dX8_back_113 : decode cX8_back 113 = .ok (.iload_n 3, 1) := by decide +kernel
theorem dX8_back_114 : decode cX8_back 114 = .ok (.iadd, 1) := by decide +kernel
theorem dX8_back_115 : decode cX8_back 115 = .ok (.iaload, 1) := by decide +kernel
theorem dX8_back_116 : decode cX8_back 116 = .ok (.iastore, 1) := by decide +kernel
theorem dX8_back_117 : decode cX8_back 117 = .ok (.iinc 3 1, 3) := by decide +kernel
theorem dX8_back_120 : decode cX8_back 120 = .ok (.goto (-34), 3) := by decide +kernel
theorem dX8_back_123 : decode cX8_back 123 = .ok (.iinc 2 1, 3) := by decide +kernel
theorem dX8_back_126 : decode cX8_back 126 = .ok (.goto (-82), 3) := by decide +kernel
theorem dX8_back_129 : decode cX8_back 129 = .ok (.aload_n 0, 1) := by decide +kernel
theorem dX8_back_130 : decode cX8_back 130 = .ok (.aload_n 0, 1) := by decide +kernel
theorem dX8_back_131 : decode cX8_back 131 = .ok (.getfield 44, 3) := by decide +kernel
theorem dX8_back_134 : decode cX8_back 134 = .ok (.iload_n 1, 1) := by decide +kernel
theorem dX8_back_135 : decode cX8_back 135 = .ok (.iaload, 1) := by decide +kernel
theorem dX8_back_136 : decode cX8_back 136 = .ok (.putfield 92, 3) := by decide +kernel
theorem dX8_back_139 : decode cX8_back 139 = .ok (.aload_n 0, 1) := by decide +kernel
theorem dX8_back_140 : decode cX8_back 140 = .ok (.aload_n 0, 1) := by decide +kernel
theorem dX8_back_141 : decode cX8_back 141 = .ok (.getfield 47, 3) := by decide +kernel
theorem dX8_back_144 : decode cX8_back 144 = .ok (.iload_n 1, 1) := by decide +kernel
theorem dX8_back_145 : decode cX8_back 145 = .ok (.iaload, 1) := by decide +kernel
theorem dX8_back_146 : decode cX8_back 146 = .ok (.putfield 22, 3) := by decide +kernel
theorem dX8_back_149 : decode cX8_back 149 = .ok (.aload_n 0, 1) := by decide +kernel
theorem dX8_back_150 : decode cX8_back 150 = .ok (.aload_n 0, 1) := by decide +kernel
theorem dX8_back_151 : decode cX8_back 151 = .ok (.getfield 53, 3) := by decide +kernel
theorem dX8_back_154 : decode cX8_back 154 = .ok (.iload_n 1, 1) := by decide +kernel
theorem dX8_back_155 : decode cX8_back 155 = .ok (.laload, 1) := by decide +kernel
theorem dX8_back_156 : decode cX8_back 156 = .ok (.putfield 198, 3) := by decide +kernel
theorem dX8_back_159 : decode cX8_back 159 = .ok (.iconst 0, 1) := by decide +kernel
theorem dX8_back_160 : decode cX8_back 160 = .ok (.istore_n 2, 1) := by decide +kernel
theorem dX8_back_161 : decode cX8_back 161 = .ok (.iload_n 2, 1) := by decide +kernel
theorem dX8_back_162 : decode cX8_back 162 = .ok (.sipush 256, 3) := by decide +kernel
theorem dX8_back_165 : decode cX8_back 165 = .ok (.if_icmp .ge 34, 3) := by decide +kernel
theorem dX8_back_168 : decode cX8_back 168 = .ok (.aload_n 0, 1) := by decide +kernel
theorem dX8_back_169 : decode cX8_back 169 = .ok (.getfield 26, 3) := by decide +kernel
theorem dX8_back_172 : decode cX8_back 172 = .ok (.iload_n 2, 1) := by decide +kernel
theorem dX8_back_173 : decode cX8_back 173 = .ok (.aload_n 0, 1) := by decide +kernel
theorem dX8_back_174 : decode cX8_back 174 = .ok (.getfield 50, 3) := by decide +kernel
theorem dX8_back_177 : decode cX8_back 177 = .ok (.sipush 256, 3) := by decide +kernel
theorem dX8_back_180 : decode cX8_back 180 = .ok (.iload_n 1, 1) := by decide +kernel
theorem dX8_back_181 : decode cX8_back 181 = .ok (.imul, 1) := by decide +kernel
theorem dX8_back_182 : decode cX8_back 182 = .ok (.iload_n 2, 1) := by decide +kernel
theorem dX8_back_183 : decode cX8_back 183 = .ok (.iadd, 1) := by decide +kernel
theorem dX8_back_184 : decode cX8_back 184 = .ok (.iaload, 1) := by decide +kernel
theorem dX8_back_185 : decode cX8_back 185 = .ok (.iastore, 1) := by decide +kernel
theorem dX8_back_186 : decode cX8_back 186 = .ok (.aload_n 0, 1) := by decide +kernel
theorem dX8_back_187 : decode cX8_back 187 = .ok (.getfield 29, 3) := by decide +kernel
theorem dX8_back_190 : decode cX8_back 190 = .ok (.iload_n 2, 1) := by decide +kernel
theorem dX8_back_191 : decode cX8_back 191 = .ok (.iconst (-1), 1) := by decide +kernel
theorem dX8_back_192 : decode cX8_back 192 = .ok (.iastore, 1) := by decide +kernel
theorem dX8_back_193 : decode cX8_back 193 = .ok (.iinc 2 1, 3) := by decide +kernel
theorem dX8_back_196 : decode cX8_back 196 = .ok (.goto (-35), 3) := by decide +kernel
theorem dX8_back_199 : decode cX8_back 199 = .ok (.aload_n 0, 1) := by decide +kernel
theorem dX8_back_200 : decode cX8_back 200 = .ok (.invokevirtual 178, 3) := by decide +kernel
theorem dX8_back_203 : decode cX8_back 203 = .ok (.aload_n 0, 1) := by decide +kernel
theorem dX8_back_204 : decode cX8_back 204 = .ok (.aload_n 0, 1) := by decide +kernel
theorem dX8_back_205 : decode cX8_back 205 = .ok (.invokevirtual 95, 3) := by decide +kernel
theorem dX8_back_208 : decode cX8_back 208 = .ok (.ifCond .ne 7, 3) := by decide +kernel
theorem dX8_back_211 : decode cX8_back 211 = .ok (.iconst 1, 1) := by decide +kernel
theorem dX8_back_212 : decode cX8_back 212 = .ok (.goto 4, 3) := by decide +kernel
theorem dX8_back_215 : decode cX8_back 215 = .ok (.iconst 0, 1) := by decide +kernel
theorem dX8_back_216 : decode cX8_back 216 = .ok (.putfield 181, 3) := by decide +kernel
theorem dX8_back_219 : decode cX8_back 219 = .ok (.iconst 1, 1) := by decide +kernel
theorem dX8_back_220 : decode cX8_back 220 = .ok (.ireturn, 1) := by decide +kernel
set_option maxRecDepth 20000 in
theorem ggX8_about_X8_piecesOn : GoodIn wsX8_about wsX8_piecesOn := goodIn_r _ [11] (by decide +kernel) (by decide +kernel)
set_option maxRecDepth 20000 in
theorem gX8_about_X8_piecesOn : GoodIn wsX8_about (wsV RX8 174 RX8 yX8_piecesOn wsX8_piecesOn) := goodIn_app (goodIn_of _ (by decide +kernel)) ggX8_about_X8_piecesOn
theorem dX8_about_0 : decode cX8_about 0 = .ok (.iload_n 1, 1) := by decide +kernel
theorem dX8_about_1 : decode cX8_about 1 = .ok (.tableswitch 74 0 5 #[39, 44, 54, 59, 64, 69], 39) := by decide +kernel
theorem dX8_about_40 : decode cX8_about 40 = .ok (.aload_n 0, 1) := by decide +kernel
theorem dX8_about_41 : decode cX8_about 41 = .ok (.getfield 92, 3) := by decide +kernel
theorem dX8_about_44 : decode cX8_about 44 = .ok (.ireturn, 1) := by decide +kernel
theorem dX8_about_45 : decode cX8_about 45 = .ok (.aload_n 0, 1) := by decide +kernel
theorem dX8_about_46 : decode cX8_about 46 = .ok (.aload_n 0, 1) := by decide +kernel
theorem dX8_about_47 : decode cX8_about 47 = .ok (.getfield 26, 3) := by decide +kernel
theorem dX8_about_50 : decode cX8_about 50 = .ok (.iconst 0, 1) := by decide +kernel
theorem dX8_about_51 : decode cX8_about 51 = .ok (.invokevirtual 174, 3) := by decide +kernel
theorem dX8_about_54 : decode cX8_about 54 = .ok (.ireturn, 1) := by decide +kernel
theorem dX8_about_55 : decode cX8_about 55 = .ok (.aload_n 0, 1) := by decide +kernel
theorem dX8_about_56 : decode cX8_about 56 = .ok (.getfield 22, 3) := by decide +kernel
theorem dX8_about_59 : decode cX8_about 59 = .ok (.ireturn, 1) := by decide +kernel
theorem dX8_about_60 : decode cX8_about 60 = .ok (.aload_n 0, 1) := by decide +kernel
theorem dX8_about_61 : decode cX8_about 61 = .ok (.getfield 159, 3) := by decide +kernel
theorem dX8_about_64 : decode cX8_about 64 = .ok (.ireturn, 1) := by decide +kernel
theorem dX8_about_65 : decode cX8_about 65 = .ok (.aload_n 0, 1) := by decide +kernel
theorem dX8_about_66 : decode cX8_about 66 = .ok (.getfield 156, 3) := by decide +kernel
theorem dX8_about_69 : decode cX8_about 69 = .ok (.ireturn, 1) := by decide +kernel
theorem dX8_about_70 : decode cX8_about 70 = .ok (.aload_n 0, 1) := by decide +kernel
theorem dX8_about_71 : decode cX8_about 71 = .ok (.getfield 107, 3) := by decide +kernel
theorem dX8_about_74 : decode cX8_about 74 = .ok (.ireturn, 1) := by decide +kernel
theorem dX8_about_75 : decode cX8_about 75 = .ok (.iconst (-1), 1) := by decide +kernel
theorem dX8_about_76 : decode cX8_about 76 = .ok (.ireturn, 1) := by decide +kernel
theorem dJ6_numberOfTrailingZeros_0f7a4_0 : decode cJ6_numberOfTrailingZeros_0f7a4 0 = .ok (.iload_n 0, 1) := by decide +kernel
theorem dJ6_numberOfTrailingZeros_0f7a4_1 : decode cJ6_numberOfTrailingZeros_0f7a4 1 = .ok (.iconst (-1), 1) := by decide +kernel
theorem dJ6_numberOfTrailingZeros_0f7a4_2 : decode cJ6_numberOfTrailingZeros_0f7a4 2 = .ok (.ixor, 1) := by decide +kernel
theorem dJ6_numberOfTrailingZeros_0f7a4_3 : decode cJ6_numberOfTrailingZeros_0f7a4 3 = .ok (.iload_n 0, 1) := by decide +kernel
theorem dJ6_numberOfTrailingZeros_0f7a4_4 : decode cJ6_numberOfTrailingZeros_0f7a4 4 = .ok (.iconst 1, 1) := by decide +kernel
theorem dJ6_numberOfTrailingZeros_0f7a4_5 : decode cJ6_numberOfTrailingZeros_0f7a4 5 = .ok (.isub, 1) := by decide +kernel
theorem dJ6_numberOfTrailingZeros_0f7a4_6 : decode cJ6_numberOfTrailingZeros_0f7a4 6 = .ok (.iand, 1) := by decide +kernel
theorem dJ6_numberOfTrailingZeros_0f7a4_7 : decode cJ6_numberOfTrailingZeros_0f7a4 7 = .ok (.istore_n 0, 1) := by decide +kernel
theorem dJ6_numberOfTrailingZeros_0f7a4_8 : decode cJ6_numberOfTrailingZeros_0f7a4 8 = .ok (.iload_n 0, 1) := by decide +kernel
theorem dJ6_numberOfTrailingZeros_0f7a4_9 : decode cJ6_numberOfTrailingZeros_0f7a4 9 = .ok (.ifCond .gt 8, 3) := by decide +kernel
theorem dJ6_numberOfTrailingZeros_0f7a4_12 : decode cJ6_numberOfTrailingZeros_0f7a4 12 = .ok (.iload_n 0, 1) := by decide +kernel
theorem dJ6_numberOfTrailingZeros_0f7a4_13 : decode cJ6_numberOfTrailingZeros_0f7a4 13 = .ok (.bipush 32, 2) := by decide +kernel
theorem dJ6_numberOfTrailingZeros_0f7a4_15 : decode cJ6_numberOfTrailingZeros_0f7a4 15 = .ok (.iand, 1) := by decide +kernel
theorem dJ6_numberOfTrailingZeros_0f7a4_16 : decode cJ6_numberOfTrailingZeros_0f7a4 16 = .ok (.ireturn, 1) := by decide +kernel
theorem dJ6_numberOfTrailingZeros_0f7a4_17 : decode cJ6_numberOfTrailingZeros_0f7a4 17 = .ok (.iconst 1, 1) := by decide +kernel
theorem dJ6_numberOfTrailingZeros_0f7a4_18 : decode cJ6_numberOfTrailingZeros_0f7a4 18 = .ok (.istore_n 1, 1) := by decide +kernel
theorem dJ6_numberOfTrailingZeros_0f7a4_19 : decode cJ6_numberOfTrailingZeros_0f7a4 19 = .ok (.iload_n 0, 1) := by decide +kernel
theorem dJ6_numberOfTrailingZeros_0f7a4_20 : decode cJ6_numberOfTrailingZeros_0f7a4 20 = .ok (.ldc_w 264, 3) := by decide +kernel
theorem dJ6_numberOfTrailingZeros_0f7a4_23 : decode cJ6_numberOfTrailingZeros_0f7a4 23 = .ok (.if_icmp .le 11, 3) := by decide +kernel
theorem dJ6_numberOfTrailingZeros_0f7a4_26 : decode cJ6_numberOfTrailingZeros_0f7a4 26 = .ok (.iinc 1 16, 3) := by decide +kernel
theorem dJ6_numberOfTrailingZeros_0f7a4_29 : decode cJ6_numberOfTrailingZeros_0f7a4 29 = .ok (.iload_n 0, 1) := by decide +kernel
theorem dJ6_numberOfTrailingZeros_0f7a4_30 : decode cJ6_numberOfTrailingZeros_0f7a4 30 = .ok (.bipush 16, 2) := by decide +kernel
theorem dJ6_numberOfTrailingZeros_0f7a4_32 : decode cJ6_numberOfTrailingZeros_0f7a4 32 = .ok (.iushr, 1) := by decide +kernel
theorem dJ6_numberOfTrailingZeros_0f7a4_33 : decode cJ6_numberOfTrailingZeros_0f7a4 33 = .ok (.istore_n 0, 1) := by decide +kernel
theorem dJ6_numberOfTrailingZeros_0f7a4_34 : decode cJ6_numberOfTrailingZeros_0f7a4 34 = .ok (.iload_n 0, 1) := by decide +kernel
theorem dJ6_numberOfTrailingZeros_0f7a4_35 : decode cJ6_numberOfTrailingZeros_0f7a4 35 = .ok (.sipush 256, 3) := by decide +kernel
theorem dJ6_numberOfTrailingZeros_0f7a4_38 : decode cJ6_numberOfTrailingZeros_0f7a4 38 = .ok (.if_icmp .le 11, 3) := by decide +kernel
theorem dJ6_numberOfTrailingZeros_0f7a4_41 : decode cJ6_numberOfTrailingZeros_0f7a4 41 = .ok (.iinc 1 8, 3) := by decide +kernel
theorem dJ6_numberOfTrailingZeros_0f7a4_44 : decode cJ6_numberOfTrailingZeros_0f7a4 44 = .ok (.iload_n 0, 1) := by decide +kernel
theorem dJ6_numberOfTrailingZeros_0f7a4_45 : decode cJ6_numberOfTrailingZeros_0f7a4 45 = .ok (.bipush 8, 2) := by decide +kernel
theorem dJ6_numberOfTrailingZeros_0f7a4_47 : decode cJ6_numberOfTrailingZeros_0f7a4 47 = .ok (.iushr, 1) := by decide +kernel
theorem dJ6_numberOfTrailingZeros_0f7a4_48 : decode cJ6_numberOfTrailingZeros_0f7a4 48 = .ok (.istore_n 0, 1) := by decide +kernel
theorem dJ6_numberOfTrailingZeros_0f7a4_49 : decode cJ6_numberOfTrailingZeros_0f7a4 49 = .ok (.iload_n 0, 1) := by decide +kernel
theorem dJ6_numberOfTrailingZeros_0f7a4_50 : decode cJ6_numberOfTrailingZeros_0f7a4 50 = .ok (.bipush 16, 2) := by decide +kernel
theorem dJ6_numberOfTrailingZeros_0f7a4_52 : decode cJ6_numberOfTrailingZeros_0f7a4 52 = .ok (.if_icmp .le 10, 3) := by decide +kernel
theorem dJ6_numberOfTrailingZeros_0f7a4_55 : decode cJ6_numberOfTrailingZeros_0f7a4 55 = .ok (.iinc 1 4, 3) := by decide +kernel
theorem dJ6_numberOfTrailingZeros_0f7a4_58 : decode cJ6_numberOfTrailingZeros_0f7a4 58 = .ok (.iload_n 0, 1) := by decide +kernel
theorem dJ6_numberOfTrailingZeros_0f7a4_59 : decode cJ6_numberOfTrailingZeros_0f7a4 59 = .ok (.iconst 4, 1) := by decide +kernel
theorem dJ6_numberOfTrailingZeros_0f7a4_60 : decode cJ6_numberOfTrailingZeros_0f7a4 60 = .ok (.iushr, 1) := by decide +kernel
theorem dJ6_numberOfTrailingZeros_0f7a4_61 : decode cJ6_numberOfTrailingZeros_0f7a4 61 = .ok (.istore_n 0, 1) := by decide +kernel
theorem dJ6_numberOfTrailingZeros_0f7a4_62 : decode cJ6_numberOfTrailingZeros_0f7a4 62 = .ok (.iload_n 0, 1) := by decide +kernel
theorem dJ6_numberOfTrailingZeros_0f7a4_63 : decode cJ6_numberOfTrailingZeros_0f7a4 63 = .ok (.iconst 4, 1) := by decide +kernel
theorem dJ6_numberOfTrailingZeros_0f7a4_64 : decode cJ6_numberOfTrailingZeros_0f7a4 64 = .ok (.if_icmp .le 10, 3) := by decide +kernel
theorem dJ6_numberOfTrailingZeros_0f7a4_67 : decode cJ6_numberOfTrailingZeros_0f7a4 67 = .ok (.iinc 1 2, 3) := by decide +kernel
theorem dJ6_numberOfTrailingZeros_0f7a4_70 : decode cJ6_numberOfTrailingZeros_0f7a4 70 = .ok (.iload_n 0, 1) := by decide +kernel
theorem dJ6_numberOfTrailingZeros_0f7a4_71 : decode cJ6_numberOfTrailingZeros_0f7a4 71 = .ok (.iconst 2, 1) := by decide +kernel
theorem dJ6_numberOfTrailingZeros_0f7a4_72 : decode cJ6_numberOfTrailingZeros_0f7a4 72 = .ok (.iushr, 1) := by decide +kernel
theorem dJ6_numberOfTrailingZeros_0f7a4_73 : decode cJ6_numberOfTrailingZeros_0f7a4 73 = .ok (.istore_n 0, 1) := by decide +kernel
theorem dJ6_numberOfTrailingZeros_0f7a4_74 : decode cJ6_numberOfTrailingZeros_0f7a4 74 = .ok (.iload_n 1, 1) := by decide +kernel
theorem dJ6_numberOfTrailingZeros_0f7a4_75 : decode cJ6_numberOfTrailingZeros_0f7a4 75 = .ok (.iload_n 0, 1) := by decide +kernel
theorem dJ6_numberOfTrailingZeros_0f7a4_76 : decode cJ6_numberOfTrailingZeros_0f7a4 76 = .ok (.iconst 1, 1) := by decide +kernel
theorem dJ6_numberOfTrailingZeros_0f7a4_77 : decode cJ6_numberOfTrailingZeros_0f7a4 77 = .ok (.iushr, 1) := by decide +kernel
theorem dJ6_numberOfTrailingZeros_0f7a4_78 : decode cJ6_numberOfTrailingZeros_0f7a4 78 = .ok (.iadd, 1) := by decide +kernel
theorem dJ6_numberOfTrailingZeros_0f7a4_79 : decode cJ6_numberOfTrailingZeros_0f7a4 79 = .ok (.ireturn, 1) := by decide +kernel
set_option maxRecDepth 20000 in
theorem ggJ13_numberOfTrailingZeros_95d88_J6_numberOfTrailingZeros_0f7a4 : GoodIn wsJ13_numberOfTrailingZeros_95d88 wsJ6_numberOfTrailingZeros_0f7a4 := goodIn_r _ [4, 5] (by decide +kernel) (by decide +kernel)
set_option maxRecDepth 20000 in
theorem gJ13_numberOfTrailingZeros_95d88_J6_numberOfTrailingZeros_0f7a4 : GoodIn wsJ13_numberOfTrailingZeros_95d88 (va_wsS RJ13 311 yJ6_numberOfTrailingZeros_0f7a4 wsJ6_numberOfTrailingZeros_0f7a4) := goodIn_app (goodIn_of _ (by decide +kernel)) ggJ13_numberOfTrailingZeros_95d88_J6_numberOfTrailingZeros_0f7a4
theorem dJ13_numberOfTrailingZeros_95d88_0 : decode cJ13_numberOfTrailingZeros_95d88 0 = .ok (.lload_n 0, 1) := by decide +kernel
theorem dJ13_numberOfTrailingZeros_95d88_1 : decode cJ13_numberOfTrailingZeros_95d88 1 = .ok (.l2i, 1) := by decide +kernel
theorem dJ13_numberOfTrailingZeros_95d88_2 : decode cJ13_numberOfTrailingZeros_95d88 2 = .ok (.istore_n 2, 1) := by decide +kernel
theorem dJ13_numberOfTrailingZeros_95d88_3 : decode cJ13_numberOfTrailingZeros_95d88 3 = .ok (.iload_n 2, 1) := by decide +kernel
theorem dJ13_numberOfTrailingZeros_95d88_4 : decode cJ13_numberOfTrailingZeros_95d88 4 = .ok (.ifCond .ne 17, 3) := by decide +kernel
theorem dJ13_numberOfTrailingZeros_95d88_7 : decode cJ13_numberOfTrailingZeros_95d88 7 = .ok (.bipush 32, 2) := by decide +kernel
theorem dJ13_numberOfTrailingZeros_95d88_9 : decode cJ13_numberOfTrailingZeros_95d88 9 = .ok (.lload_n 0, 1) := by decide +kernel
theorem dJ13_numberOfTrailingZeros_95d88_10 : decode cJ13_numberOfTrailingZeros_95d88 10 = .ok (.bipush 32, 2) := by decide +kernel
theorem dJ13_numberOfTrailingZeros_95d88_12 : decode cJ13_numberOfTrailingZeros_95d88 12 = .ok (.lushr, 1) := by decide +kernel
theorem dJ13_numberOfTrailingZeros_95d88_13 : decode cJ13_numberOfTrailingZeros_95d88 13 = .ok (.l2i, 1) := by decide +kernel
theorem dJ13_numberOfTrailingZeros_95d88_14 : decode cJ13_numberOfTrailingZeros_95d88 14 = .ok (.invokestatic 311, 3) := by decide +kernel
theorem dJ13_numberOfTrailingZeros_95d88_17 : decode cJ13_numberOfTrailingZeros_95d88 17 = .ok (.iadd, 1) := by decide +kernel
theorem dJ13_numberOfTrailingZeros_95d88_18 : decode cJ13_numberOfTrailingZeros_95d88 18 = .ok (.goto 7, 3) := by decide +kernel
theorem dJ13_numberOfTrailingZeros_95d88_21 : decode cJ13_numberOfTrailingZeros_95d88 21 = .ok (.iload_n 2, 1) := by decide +kernel
theorem dJ13_numberOfTrailingZeros_95d88_22 : decode cJ13_numberOfTrailingZeros_95d88 22 = .ok (.invokestatic 311, 3) := by decide +kernel
theorem dJ13_numberOfTrailingZeros_95d88_25 : decode cJ13_numberOfTrailingZeros_95d88 25 = .ok (.ireturn, 1) := by decide +kernel
theorem dJ13_bitCount_95d88_0 : decode cJ13_bitCount_95d88 0 = .ok (.lload_n 0, 1) := by decide +kernel
theorem dJ13_bitCount_95d88_1 : decode cJ13_bitCount_95d88 1 = .ok (.lload_n 0, 1) := by decide +kernel
theorem dJ13_bitCount_95d88_2 : decode cJ13_bitCount_95d88 2 = .ok (.iconst 1, 1) := by decide +kernel
theorem dJ13_bitCount_95d88_3 : decode cJ13_bitCount_95d88 3 = .ok (.lushr, 1) := by decide +kernel
theorem dJ13_bitCount_95d88_4 : decode cJ13_bitCount_95d88 4 = .ok (.ldc2_w 314, 3) := by decide +kernel
theorem dJ13_bitCount_95d88_7 : decode cJ13_bitCount_95d88 7 = .ok (.land, 1) := by decide +kernel
theorem dJ13_bitCount_95d88_8 : decode cJ13_bitCount_95d88 8 = .ok (.lsub, 1) := by decide +kernel
theorem dJ13_bitCount_95d88_9 : decode cJ13_bitCount_95d88 9 = .ok (.lstore_n 0, 1) := by decide +kernel
theorem dJ13_bitCount_95d88_10 : decode cJ13_bitCount_95d88 10 = .ok (.lload_n 0, 1) := by decide +kernel
theorem dJ13_bitCount_95d88_11 : decode cJ13_bitCount_95d88 11 = .ok (.ldc2_w 316, 3) := by decide +kernel
theorem dJ13_bitCount_95d88_14 : decode cJ13_bitCount_95d88 14 = .ok (.land, 1) := by decide +kernel
theorem dJ13_bitCount_95d88_15 : decode cJ13_bitCount_95d88 15 = .ok (.lload_n 0, 1) := by decide +kernel
theorem dJ13_bitCount_95d88_16 : decode cJ13_bitCount_95d88 16 = .ok (.iconst 2, 1) := by decide +kernel
theorem dJ13_bitCount_95d88_17 : decode cJ13_bitCount_95d88 17 = .ok (.lushr, 1) := by decide +kernel
theorem dJ13_bitCount_95d88_18 : decode cJ13_bitCount_95d88 18 = .ok (.ldc2_w 316, 3) := by decide +kernel
theorem dJ13_bitCount_95d88_21 : decode cJ13_bitCount_95d88 21 = .ok (.land, 1) := by decide +kernel
theorem dJ13_bitCount_95d88_22 : decode cJ13_bitCount_95d88 22 = .ok (.ladd, 1) := by decide +kernel
theorem dJ13_bitCount_95d88_23 : decode cJ13_bitCount_95d88 23 = .ok (.lstore_n 0, 1) := by decide +kernel
theorem dJ13_bitCount_95d88_24 : decode cJ13_bitCount_95d88 24 = .ok (.lload_n 0, 1) := by decide +kernel
theorem dJ13_bitCount_95d88_25 : decode cJ13_bitCount_95d88 25 = .ok (.lload_n 0, 1) := by decide +kernel
theorem dJ13_bitCount_95d88_26 : decode cJ13_bitCount_95d88 26 = .ok (.iconst 4, 1) := by decide +kernel
theorem dJ13_bitCount_95d88_27 : decode cJ13_bitCount_95d88 27 = .ok (.lushr, 1) := by decide +kernel
theorem dJ13_bitCount_95d88_28 : decode cJ13_bitCount_95d88 28 = .ok (.ladd, 1) := by decide +kernel
theorem dJ13_bitCount_95d88_29 : decode cJ13_bitCount_95d88 29 = .ok (.ldc2_w 318, 3) := by decide +kernel
theorem dJ13_bitCount_95d88_32 : decode cJ13_bitCount_95d88 32 = .ok (.land, 1) := by decide +kernel
theorem dJ13_bitCount_95d88_33 : decode cJ13_bitCount_95d88 33 = .ok (.lstore_n 0, 1) := by decide +kernel
theorem dJ13_bitCount_95d88_34 : decode cJ13_bitCount_95d88 34 = .ok (.lload_n 0, 1) := by decide +kernel
theorem dJ13_bitCount_95d88_35 : decode cJ13_bitCount_95d88 35 = .ok (.lload_n 0, 1) := by decide +kernel
theorem dJ13_bitCount_95d88_36 : decode cJ13_bitCount_95d88 36 = .ok (.bipush 8, 2) := by decide +kernel
theorem dJ13_bitCount_95d88_38 : decode cJ13_bitCount_95d88 38 = .ok (.lushr, 1) := by decide +kernel
theorem dJ13_bitCount_95d88_39 : decode cJ13_bitCount_95d88 39 = .ok (.ladd, 1) := by decide +kernel
theorem dJ13_bitCount_95d88_40 : decode cJ13_bitCount_95d88 40 = .ok (.lstore_n 0, 1) := by decide +kernel
theorem dJ13_bitCount_95d88_41 : decode cJ13_bitCount_95d88 41 = .ok (.lload_n 0, 1) := by decide +kernel
theorem dJ13_bitCount_95d88_42 : decode cJ13_bitCount_95d88 42 = .ok (.lload_n 0, 1) := by decide +kernel
theorem dJ13_bitCount_95d88_43 : decode cJ13_bitCount_95d88 43 = .ok (.bipush 16, 2) := by decide +kernel
theorem dJ13_bitCount_95d88_45 : decode cJ13_bitCount_95d88 45 = .ok (.lushr, 1) := by decide +kernel
theorem dJ13_bitCount_95d88_46 : decode cJ13_bitCount_95d88 46 = .ok (.ladd, 1) := by decide +kernel
theorem dJ13_bitCount_95d88_47 : decode cJ13_bitCount_95d88 47 = .ok (.lstore_n 0, 1) := by decide +kernel
theorem dJ13_bitCount_95d88_48 : decode cJ13_bitCount_95d88 48 = .ok (.lload_n 0, 1) := by decide +kernel
theorem dJ13_bitCount_95d88_49 : decode cJ13_bitCount_95d88 49 = .ok (.lload_n 0, 1) := by decide +kernel
theorem dJ13_bitCount_95d88_50 : decode cJ13_bitCount_95d88 50 = .ok (.bipush 32, 2) := by decide +kernel
theorem dJ13_bitCount_95d88_52 : decode cJ13_bitCount_95d88 52 = .ok (.lushr, 1) := by decide +kernel
theorem dJ13_bitCount_95d88_53 : decode cJ13_bitCount_95d88 53 = .ok (.ladd, 1) := by decide +kernel
theorem dJ13_bitCount_95d88_54 : decode cJ13_bitCount_95d88 54 = .ok (.lstore_n 0, 1) := by decide +kernel
theorem dJ13_bitCount_95d88_55 : decode cJ13_bitCount_95d88 55 = .ok (.lload_n 0, 1) := by decide +kernel
theorem dJ13_bitCount_95d88_56 : decode cJ13_bitCount_95d88 56 = .ok (.l2i, 1) := by decide +kernel
theorem dJ13_bitCount_95d88_57 : decode cJ13_bitCount_95d88 57 = .ok (.bipush 127, 2) := by decide +kernel
theorem dJ13_bitCount_95d88_59 : decode cJ13_bitCount_95d88 59 = .ok (.iand, 1) := by decide +kernel
theorem dJ13_bitCount_95d88_60 : decode cJ13_bitCount_95d88 60 = .ok (.ireturn, 1) := by decide +kernel
theorem dJ9_min_7cf53_0 : decode cJ9_min_7cf53 0 = .ok (.iload_n 0, 1) := by decide +kernel
theorem dJ9_min_7cf53_1 : decode cJ9_min_7cf53 1 = .ok (.iload_n 1, 1) := by decide +kernel
theorem dJ9_min_7cf53_2 : decode cJ9_min_7cf53 2 = .ok (.if_icmp .gt 7, 3) := by decide +kernel
theorem dJ9_min_7cf53_5 : decode cJ9_min_7cf53 5 = .ok (.iload_n 0, 1) := by decide +kernel
theorem dJ9_min_7cf53_6 : decode cJ9_min_7cf53 6 = .ok (.goto 4, 3) := by decide +kernel
theorem dJ9_min_7cf53_9 : decode cJ9_min_7cf53 9 = .ok (.iload_n 1, 1) := by decide +kernel
theorem dJ9_min_7cf53_10 : decode cJ9_min_7cf53 10 = .ok (.ireturn, 1) := by decide +kernel
theorem dJ7_fill_d0a16_0 : decode cJ7_fill_d0a16 0 = .ok (.iconst 0, 1) := by decide +kernel
theorem dJ7_fill_d0a16_1 : decode cJ7_fill_d0a16 1 = .ok (.istore_n 3, 1) := by decide +kernel
theorem dJ7_fill_d0a16_2 : decode cJ7_fill_d0a16 2 = .ok (.aload_n 0, 1) := by decide +kernel
theorem dJ7_fill_d0a16_3 : decode cJ7_fill_d0a16 3 = .ok (.arraylength, 1) := by decide +kernel
theorem dJ7_fill_d0a16_4 : decode cJ7_fill_d0a16 4 = .ok (.istore 4, 2) := by decide +kernel
theorem dJ7_fill_d0a16_6 : decode cJ7_fill_d0a16 6 = .ok (.iload_n 3, 1) := by decide +kernel
theorem dJ7_fill_d0a16_7 : decode cJ7_fill_d0a16 7 = .ok (.iload 4, 2) := by decide +kernel
theorem dJ7_fill_d0a16_9 : decode cJ7_fill_d0a16 9 = .ok (.if_icmp .ge 13, 3) := by decide +kernel
theorem dJ7_fill_d0a16_12 : decode cJ7_fill_d0a16 12 = .ok (.aload_n 0, 1) := by decide +kernel
theorem dJ7_fill_d0a16_13 : decode cJ7_fill_d0a16 13 = .ok (.iload_n 3, 1) := by decide +kernel
theorem dJ7_fill_d0a16_14 : decode cJ7_fill_d0a16 14 = .ok (.lload_n 1, 1) := by decide +kernel
theorem dJ7_fill_d0a16_15 : decode cJ7_fill_d0a16 15 = .ok (.lastore, 1) := by decide +kernel
theorem dJ7_fill_d0a16_16 : decode cJ7_fill_d0a16 16 = .ok (.iinc 3 1, 3) := by decide +kernel
theorem dJ7_fill_d0a16_19 : decode cJ7_fill_d0a16 19 = .ok (.goto (-13), 3) := by decide +kernel
theorem dJ7_fill_d0a16_22 : decode cJ7_fill_d0a16 22 = .ok (.return_, 1) := by decide +kernel
theorem dJ7_fill_53178_0 : decode cJ7_fill_53178 0 = .ok (.iconst 0, 1) := by decide +kernel
theorem dJ7_fill_53178_1 : decode cJ7_fill_53178 1 = .ok (.istore_n 2, 1) := by decide +kernel
theorem dJ7_fill_53178_2 : decode cJ7_fill_53178 2 = .ok (.aload_n 0, 1) := by decide +kernel
theorem dJ7_fill_53178_3 : decode cJ7_fill_53178 3 = .ok (.arraylength, 1) := by decide +kernel
theorem dJ7_fill_53178_4 : decode cJ7_fill_53178 4 = .ok (.istore_n 3, 1) := by decide +kernel
theorem dJ7_fill_53178_5 : decode cJ7_fill_53178 5 = .ok (.iload_n 2, 1) := by decide +kernel
theorem dJ7_fill_53178_6 : decode cJ7_fill_53178 6 = .ok (.iload_n 3, 1) := by decide +kernel
theorem dJ7_fill_53178_7 : decode cJ7_fill_53178 7 = .ok (.if_icmp .ge 13, 3) := by decide +kernel
theorem dJ7_fill_53178_10 : decode cJ7_fill_53178 10 = .ok (.aload_n 0, 1) := by decide +kernel
theorem dJ7_fill_53178_11 : decode cJ7_fill_53178 11 = .ok (.iload_n 2, 1) := by decide +kernel
theorem dJ7_fill_53178_12 : decode cJ7_fill_53178 12 = .ok (.iload_n 1, 1) := by decide +kernel
theorem dJ7_fill_53178_13 : decode cJ7_fill_53178 13 = .ok (.iastore, 1) := by decide +kernel
theorem dJ7_fill_53178_14 : decode cJ7_fill_53178 14 = .ok (.iinc 2 1, 3) := by decide +kernel
theorem dJ7_fill_53178_17 : decode cJ7_fill_53178 17 = .ok (.goto (-12), 3) := by decide +kernel
theorem dJ7_fill_53178_20 : decode cJ7_fill_53178 20 = .ok (.return_, 1) := by decide +kernel
def lw_pcs : List (List Cond) := [wsL_law_r1, wsL_law_r2, wsL_law_r3, wsL_law_r4, wsL_law_r5, wsL_law_r6, wsL_law_r7, wsL_law_r8, wsL_law_r9, wsL_law_r10, wsL_law_r11, wsL_law_r12, wsL_law_r13, wsL_law_r14, wsL_law_r15, wsL_law_r16, wsL_law_r17, wsL_law_r18, wsL_law_r19, wsL_law_r20, wsL_law_r21, wsL_law_r22, wsL_law_r23, wsL_law_r24, wsL_law_r25, wsL_law_r26, wsL_law_r27, wsL_law_r28, wsL_law_r29, wsL_law_r30, wsL_law_r31, wsL_law_r32, wsL_law_r33, wsL_law_r34, wsL_law_r35, wsL_law_r36, wsL_law_r37, wsL_law_r38, wsL_law_r39, wsX70, wsX80, wsX10, wsX40, wsX50, wsX60, wsX30, wsX20, wsX00]
theorem lw_pcs_in : ∀ w ∈ lw_pcs.flatten, w ∈ wsL_law := by
  intro w h
  simp only [lw_pcs, List.flatten_cons, List.flatten_nil, List.append_nil] at h
  simp only [wsL_law, List.append_assoc, List.append_nil]
  exact h
theorem goodIn_rr (ws : List Cond) (ps : List (Nat × Nat)) (hp : ws = ps.filterMap (fun q => (lw_pcs[q.1]?).bind (fun l => l[q.2]?))) (h : ws.all goodWord = true) : GoodIn wsL_law ws := by
  intro w hw
  have h1 := List.all_eq_true.mp h w hw
  rw [hp] at hw
  obtain ⟨q, -, hq⟩ := List.mem_filterMap.mp hw
  obtain ⟨l, hl, hj⟩ := Option.bind_eq_some_iff.mp hq
  exact ⟨lw_pcs_in w (List.mem_flatten.mpr ⟨l, List.mem_of_getElem? hl, List.mem_of_getElem? hj⟩), good_of_word h1⟩
set_option maxRecDepth 20000 in
theorem ggL_law_X7_init : GoodIn wsL_law wsX7_init := goodIn_rr _ [(0, 9), (0, 10), (0, 11), (0, 12), (0, 13), (0, 14), (0, 15), (0, 16), (0, 17), (0, 18), (0, 19), (0, 20), (0, 21), (0, 22), (0, 23), (1, 0), (1, 1), (1, 2), (1, 3), (1, 4), (1, 5), (1, 6), (1, 7), (1, 8), (1, 9), (1, 10), (1, 11), (1, 12), (1, 13), (1, 14), (1, 15), (1, 16), (1, 17), (1, 18), (1, 19), (1, 20), (1, 21), (1, 22), (1, 23), (2, 0), (2, 1), (2, 2), (2, 3), (2, 4), (2, 5), (2, 6), (2, 7), (2, 8), (2, 9), (2, 10), (2, 11), (2, 12), (2, 13), (2, 14), (2, 15), (2, 16), (2, 17), (2, 18), (2, 19), (2, 20), (2, 21), (2, 22), (2, 23), (3, 0), (3, 1), (3, 2), (3, 3), (3, 4), (3, 5), (3, 6), (3, 7), (3, 8), (3, 9), (3, 10), (3, 11), (3, 12), (3, 13), (3, 14), (3, 15), (3, 16), (3, 17), (3, 18), (3, 19), (3, 20), (3, 21), (3, 22), (3, 23), (4, 0), (4, 1), (4, 2), (4, 3), (4, 4), (4, 5), (4, 6), (4, 7), (4, 8), (4, 9), (4, 10), (4, 11), (4, 12), (4, 13), (4, 14), (4, 15), (4, 16), (4, 17), (4, 18), (4, 19), (4, 20), (4, 21), (4, 22), (4, 23), (5, 0), (5, 1), (5, 2), (5, 3), (5, 4), (5, 5), (5, 6), (5, 7), (41, 0), (41, 1), (41, 2), (41, 3), (41, 4), (41, 5), (41, 6), (41, 7), (41, 8), (41, 9), (41, 10), (41, 11), (41, 12), (39, 0), (39, 1), (39, 2), (39, 3), (39, 4), (39, 5), (39, 6), (39, 7), (42, 0), (42, 1), (42, 2), (42, 3), (42, 4), (42, 5), (42, 6), (42, 7), (42, 8), (42, 9), (42, 10), (42, 11), (42, 12), (42, 13), (42, 14), (43, 0), (43, 1), (43, 2), (43, 3), (43, 4), (43, 5), (43, 6), (43, 7), (44, 0), (44, 1), (45, 0), (45, 1), (45, 2), (45, 3), (45, 4), (45, 5), (45, 6), (45, 7), (45, 8), (45, 9), (45, 10), (45, 11), (45, 12), (45, 13), (45, 14), (45, 15), (46, 0), (46, 1), (46, 2), (47, 0), (47, 1), (47, 2)] (by decide +kernel) (by decide +kernel)
set_option maxRecDepth 20000 in
theorem gL_law_X7_init : GoodIn wsL_law (wsX7_init) := ggL_law_X7_init
set_option maxRecDepth 20000 in
theorem ggL_law_X8_init : GoodIn wsL_law wsX8_init := goodIn_rr _ [(5, 10), (5, 11), (0, 11), (0, 12), (2, 0), (5, 12), (5, 13), (5, 14), (5, 15), (5, 16), (5, 17), (5, 18), (5, 19), (5, 20), (5, 21), (5, 22), (5, 23), (6, 0), (6, 1), (2, 6), (6, 2), (6, 3), (6, 4), (6, 5), (6, 6), (6, 7), (6, 8), (6, 9), (6, 10), (3, 0), (6, 11), (6, 12), (6, 13), (6, 14), (40, 0), (40, 1), (40, 2), (40, 3), (40, 4), (40, 5), (40, 6), (40, 7), (40, 8), (40, 9), (40, 10), (40, 11), (40, 12), (40, 13), (40, 14), (40, 15), (40, 16), (40, 17), (40, 18), (40, 19), (40, 20), (40, 21), (40, 22), (40, 23), (40, 24), (40, 25), (40, 26), (40, 27), (40, 28), (40, 29), (40, 30), (40, 31), (40, 32), (40, 33), (40, 34), (40, 35), (40, 36), (40, 37)] (by decide +kernel) (by decide +kernel)
set_option maxRecDepth 20000 in
theorem gL_law_X8_init : GoodIn wsL_law (wsX8_init) := ggL_law_X8_init
set_option maxRecDepth 20000 in
theorem ggL_law_X7_glue : GoodIn wsL_law wsX7_glue := goodIn_rr _ [(6, 18), (0, 20), (6, 19), (0, 16), (6, 20), (39, 0), (39, 1), (39, 2), (39, 3), (39, 4), (39, 5), (39, 6), (39, 7), (42, 0), (42, 1), (42, 2), (42, 3), (42, 4), (42, 5), (42, 6), (42, 7), (42, 8), (42, 9), (42, 10), (42, 11), (42, 12), (42, 13), (42, 14), (41, 0), (41, 1), (41, 2), (41, 3), (41, 4), (41, 5), (41, 6), (41, 7), (41, 8), (41, 9), (41, 10), (41, 11), (41, 12)] (by decide +kernel) (by decide +kernel)
set_option maxRecDepth 20000 in
theorem gL_law_X7_glue : GoodIn wsL_law (wsV RL 13 RX7 yX7_glue wsX7_glue) := goodIn_app (goodIn_of _ (by decide +kernel)) ggL_law_X7_glue
set_option maxRecDepth 20000 in
theorem ggL_law_X8_glue : GoodIn wsL_law wsX8_glue := goodIn_rr _ [(7, 0), (5, 12), (7, 1), (7, 2), (7, 3), (0, 5), (7, 4), (5, 17), (40, 0), (40, 1), (40, 2), (40, 3), (40, 4), (40, 5), (40, 6), (40, 7), (40, 8), (40, 9), (40, 10), (40, 11), (40, 12), (40, 13), (40, 14), (40, 15), (40, 16), (40, 17), (40, 18), (40, 19), (40, 20), (40, 21), (40, 22), (40, 23), (40, 24), (40, 25), (40, 26), (40, 27), (40, 28), (40, 29), (40, 30), (40, 31), (40, 32), (40, 33), (40, 34), (40, 35), (40, 36), (40, 37)] (by decide +kernel) (by decide +kernel)
set_option maxRecDepth 20000 in
theorem gL_law_X8_glue : GoodIn wsL_law (wsV RL 17 RX8 yX8_glue wsX8_glue) := goodIn_app (goodIn_of _ (by decide +kernel)) ggL_law_X8_glue
set_option maxRecDepth 20000 in
theorem ggL_law_X7_piece : GoodIn wsL_law wsX7_piece := goodIn_rr _ [(7, 8), (0, 16), (0, 20), (7, 9), (7, 10), (7, 11), (0, 15), (7, 12), (1, 23), (2, 2), (2, 3), (2, 7), (2, 8), (7, 13), (7, 14), (7, 15), (7, 16), (7, 17), (7, 18), (7, 19), (7, 20), (7, 21), (7, 22), (2, 10), (2, 11), (2, 12), (7, 23), (8, 0), (8, 1), (8, 2), (2, 5), (2, 9), (8, 3), (0, 2), (8, 4), (8, 5), (8, 6), (8, 7), (8, 8), (2, 4), (8, 9), (8, 10), (8, 11), (0, 19), (8, 12), (8, 13), (8, 14), (8, 15), (8, 16), (3, 1), (3, 2), (3, 3), (8, 17), (8, 18), (39, 0), (39, 1), (39, 2), (39, 3), (39, 4), (39, 5), (39, 6), (39, 7), (41, 0), (41, 1), (41, 2), (41, 3), (41, 4), (41, 5), (41, 6), (41, 7), (41, 8), (41, 9), (41, 10), (41, 11), (41, 12), (42, 0), (42, 1), (42, 2), (42, 3), (42, 4), (42, 5), (42, 6), (42, 7), (42, 8), (42, 9), (42, 10), (42, 11), (42, 12), (42, 13), (42, 14)] (by decide +kernel) (by decide +kernel)
set_option maxRecDepth 20000 in
theorem gL_law_X7_piece : GoodIn wsL_law (wsV RL 18 RX7 yX7_piece wsX7_piece) := goodIn_app (goodIn_of _ (by decide +kernel)) ggL_law_X7_piece
set_option maxRecDepth 20000 in
theorem ggL_law_X8_piece : GoodIn wsL_law wsX8_piece := goodIn_rr _ [(8, 22), (8, 23), (5, 13), (5, 14), (5, 15), (9, 0), (9, 1), (0, 5), (9, 2), (9, 3), (9, 4), (9, 5), (40, 0), (40, 1), (40, 2), (40, 3), (40, 4), (40, 5), (40, 6), (40, 7), (40, 8), (40, 9), (40, 10), (40, 11), (40, 12), (40, 13), (40, 14), (40, 15), (40, 16), (40, 17), (40, 18), (40, 19), (40, 20), (40, 21), (40, 22), (40, 23), (40, 24), (40, 25), (40, 26), (40, 27), (40, 28), (40, 29), (40, 30), (40, 31), (40, 32), (40, 33), (40, 34), (40, 35), (40, 36), (40, 37)] (by decide +kernel) (by decide +kernel)
set_option maxRecDepth 20000 in
theorem gL_law_X8_piece : GoodIn wsL_law (wsV RL 22 RX8 yX8_piece wsX8_piece) := goodIn_app (goodIn_of _ (by decide +kernel)) ggL_law_X8_piece
set_option maxRecDepth 20000 in
theorem ggL_law_X7_feed : GoodIn wsL_law wsX7_feed := goodIn_rr _ [(9, 9), (1, 4), (9, 10), (9, 11), (9, 12), (9, 13), (1, 3), (9, 14), (3, 22), (9, 15), (9, 16), (9, 17), (9, 18), (3, 23), (39, 0), (39, 1), (39, 2), (39, 3), (39, 4), (39, 5), (39, 6), (39, 7), (44, 0), (44, 1)] (by decide +kernel) (by decide +kernel)
set_option maxRecDepth 20000 in
theorem gL_law_X7_feed : GoodIn wsL_law (wsV RL 23 RX7 yX7_feed wsX7_feed) := goodIn_app (goodIn_of _ (by decide +kernel)) ggL_law_X7_feed
set_option maxRecDepth 20000 in
theorem ggL_law_X8_feed : GoodIn wsL_law wsX8_feed := goodIn_rr _ [(9, 22), (9, 23), (10, 0), (10, 1), (10, 2), (0, 5), (10, 3), (6, 7), (40, 0), (40, 1), (40, 2), (40, 3), (40, 4), (40, 5), (40, 6), (40, 7), (40, 8), (40, 9), (40, 10), (40, 11), (40, 12), (40, 13), (40, 14), (40, 15), (40, 16), (40, 17), (40, 18), (40, 19), (40, 20), (40, 21), (40, 22), (40, 23), (40, 24), (40, 25), (40, 26), (40, 27), (40, 28), (40, 29), (40, 30), (40, 31), (40, 32), (40, 33), (40, 34), (40, 35), (40, 36), (40, 37)] (by decide +kernel) (by decide +kernel)
set_option maxRecDepth 20000 in
theorem gL_law_X8_feed : GoodIn wsL_law (wsV RL 27 RX8 yX8_feed wsX8_feed) := goodIn_app (goodIn_of _ (by decide +kernel)) ggL_law_X8_feed
set_option maxRecDepth 20000 in
theorem ggL_law_X7_set : GoodIn wsL_law wsX7_set := goodIn_rr _ [(10, 7), (1, 4), (9, 10), (0, 16), (0, 20), (10, 8), (10, 9), (10, 10), (1, 3), (10, 11), (3, 23), (10, 12), (7, 10), (7, 11), (0, 15), (7, 12), (1, 23), (2, 2), (2, 3), (2, 7), (2, 8), (7, 13), (7, 14), (7, 15), (7, 16), (7, 17), (7, 18), (7, 19), (7, 20), (7, 21), (7, 22), (2, 10), (2, 11), (2, 12), (7, 23), (8, 0), (8, 1), (8, 2), (2, 5), (2, 9), (8, 3), (0, 2), (8, 4), (8, 5), (8, 6), (8, 7), (8, 8), (2, 4), (8, 9), (8, 10), (8, 11), (0, 19), (8, 12), (8, 13), (8, 14), (8, 15), (8, 16), (3, 1), (3, 2), (3, 3), (8, 17), (8, 18), (39, 0), (39, 1), (39, 2), (39, 3), (39, 4), (39, 5), (39, 6), (39, 7), (44, 0), (44, 1), (41, 0), (41, 1), (41, 2), (41, 3), (41, 4), (41, 5), (41, 6), (41, 7), (41, 8), (41, 9), (41, 10), (41, 11), (41, 12), (42, 0), (42, 1), (42, 2), (42, 3), (42, 4), (42, 5), (42, 6), (42, 7), (42, 8), (42, 9), (42, 10), (42, 11), (42, 12), (42, 13), (42, 14)] (by decide +kernel) (by decide +kernel)
set_option maxRecDepth 20000 in
theorem gL_law_X7_set : GoodIn wsL_law (wsV RL 28 RX7 yX7_set wsX7_set) := goodIn_app (goodIn_of _ (by decide +kernel)) ggL_law_X7_set
set_option maxRecDepth 20000 in
theorem ggL_law_X8_set : GoodIn wsL_law wsX8_set := goodIn_rr _ [(10, 16), (9, 23), (6, 7), (10, 17), (8, 20), (8, 21), (0, 5), (8, 22), (8, 23), (5, 13), (5, 14), (5, 15), (9, 0), (9, 1), (9, 2), (9, 3), (9, 4), (9, 5), (40, 0), (40, 1), (40, 2), (40, 3), (40, 4), (40, 5), (40, 6), (40, 7), (40, 8), (40, 9), (40, 10), (40, 11), (40, 12), (40, 13), (40, 14), (40, 15), (40, 16), (40, 17), (40, 18), (40, 19), (40, 20), (40, 21), (40, 22), (40, 23), (40, 24), (40, 25), (40, 26), (40, 27), (40, 28), (40, 29), (40, 30), (40, 31), (40, 32), (40, 33), (40, 34), (40, 35), (40, 36), (40, 37)] (by decide +kernel) (by decide +kernel)
set_option maxRecDepth 20000 in
theorem gL_law_X8_set : GoodIn wsL_law (wsV RL 32 RX8 yX8_set wsX8_set) := goodIn_app (goodIn_of _ (by decide +kernel)) ggL_law_X8_set
set_option maxRecDepth 20000 in
theorem ggL_law_X7_warmth : GoodIn wsL_law wsX7_warmth := goodIn_rr _ [(10, 21), (0, 20), (6, 19), (0, 16), (10, 22), (39, 0), (39, 1), (39, 2), (39, 3), (39, 4), (39, 5), (39, 6), (39, 7), (42, 0), (42, 1), (42, 2), (42, 3), (42, 4), (42, 5), (42, 6), (42, 7), (42, 8), (42, 9), (42, 10), (42, 11), (42, 12), (42, 13), (42, 14), (41, 0), (41, 1), (41, 2), (41, 3), (41, 4), (41, 5), (41, 6), (41, 7), (41, 8), (41, 9), (41, 10), (41, 11), (41, 12)] (by decide +kernel) (by decide +kernel)
set_option maxRecDepth 20000 in
theorem gL_law_X7_warmth : GoodIn wsL_law (wsV RL 33 RX7 yX7_warmth wsX7_warmth) := goodIn_app (goodIn_of _ (by decide +kernel)) ggL_law_X7_warmth
set_option maxRecDepth 20000 in
theorem ggL_law_X8_warmth : GoodIn wsL_law wsX8_warmth := goodIn_rr _ [(11, 2), (5, 16), (7, 1), (7, 2), (7, 3), (0, 5), (7, 4), (5, 17), (40, 0), (40, 1), (40, 2), (40, 3), (40, 4), (40, 5), (40, 6), (40, 7), (40, 8), (40, 9), (40, 10), (40, 11), (40, 12), (40, 13), (40, 14), (40, 15), (40, 16), (40, 17), (40, 18), (40, 19), (40, 20), (40, 21), (40, 22), (40, 23), (40, 24), (40, 25), (40, 26), (40, 27), (40, 28), (40, 29), (40, 30), (40, 31), (40, 32), (40, 33), (40, 34), (40, 35), (40, 36), (40, 37)] (by decide +kernel) (by decide +kernel)
set_option maxRecDepth 20000 in
theorem gL_law_X8_warmth : GoodIn wsL_law (wsV RL 37 RX8 yX8_warmth wsX8_warmth) := goodIn_app (goodIn_of _ (by decide +kernel)) ggL_law_X8_warmth
set_option maxRecDepth 20000 in
theorem ggL_law_X7_clear : GoodIn wsL_law wsX7_clear := goodIn_rr _ [(11, 6), (0, 20), (6, 19), (1, 0), (11, 7), (11, 8), (11, 9), (0, 19), (11, 10), (2, 18), (2, 19), (2, 20), (11, 11), (11, 12), (11, 13), (11, 14), (11, 15), (8, 10), (8, 11), (8, 12), (8, 13), (8, 14), (8, 15), (8, 16), (3, 1), (3, 2), (3, 3), (8, 17), (0, 2), (8, 18), (11, 16), (11, 17), (11, 18), (0, 23), (11, 19), (3, 10), (3, 11), (3, 12), (3, 17), (11, 20), (39, 0), (39, 1), (39, 2), (39, 3), (39, 4), (39, 5), (39, 6), (39, 7), (42, 0), (42, 1), (42, 2), (42, 3), (42, 4), (42, 5), (42, 6), (42, 7), (42, 8), (42, 9), (42, 10), (42, 11), (42, 12), (42, 13), (42, 14), (43, 0), (43, 1), (43, 2), (43, 3), (43, 4), (43, 5), (43, 6), (43, 7)] (by decide +kernel) (by decide +kernel)
set_option maxRecDepth 20000 in
theorem gL_law_X7_clear : GoodIn wsL_law (wsV RL 38 RX7 yX7_clear wsX7_clear) := goodIn_app (goodIn_of _ (by decide +kernel)) ggL_law_X7_clear
set_option maxRecDepth 20000 in
theorem ggL_law_X8_clear : GoodIn wsL_law wsX8_clear := goodIn_rr _ [(12, 0), (5, 17), (5, 18), (12, 1), (12, 2), (12, 3), (12, 4), (0, 5), (12, 5), (12, 6), (12, 7), (12, 8), (12, 9), (12, 10), (12, 11), (40, 0), (40, 1), (40, 2), (40, 3), (40, 4), (40, 5), (40, 6), (40, 7), (40, 8), (40, 9), (40, 10), (40, 11), (40, 12), (40, 13), (40, 14), (40, 15), (40, 16), (40, 17), (40, 18), (40, 19), (40, 20), (40, 21), (40, 22), (40, 23), (40, 24), (40, 25), (40, 26), (40, 27), (40, 28), (40, 29), (40, 30), (40, 31), (40, 32), (40, 33), (40, 34), (40, 35), (40, 36), (40, 37)] (by decide +kernel) (by decide +kernel)
set_option maxRecDepth 20000 in
theorem gL_law_X8_clear : GoodIn wsL_law (wsV RL 42 RX8 yX8_clear wsX8_clear) := goodIn_app (goodIn_of _ (by decide +kernel)) ggL_law_X8_clear
set_option maxRecDepth 20000 in
theorem ggL_law_X7_seed : GoodIn wsL_law wsX7_seed := goodIn_rr _ [(12, 15), (0, 16), (0, 20), (12, 16), (12, 17), (12, 18), (0, 2), (12, 19), (12, 20), (12, 21), (12, 22), (0, 15), (12, 23), (2, 2), (13, 0), (13, 1), (13, 2), (13, 3), (1, 23), (13, 4), (13, 5), (13, 6), (0, 19), (13, 7), (2, 18), (13, 8), (13, 9), (13, 10), (13, 11), (1, 0), (13, 12), (13, 13), (13, 14), (13, 15), (2, 17), (13, 16), (2, 19), (2, 20), (13, 17), (13, 18), (13, 19), (13, 20), (8, 13), (8, 14), (8, 15), (8, 16), (3, 1), (3, 2), (3, 3), (8, 17), (8, 18), (13, 21), (13, 22), (13, 23), (0, 23), (14, 0), (3, 10), (3, 13), (3, 14), (3, 15), (3, 16), (3, 17), (3, 11), (14, 1), (14, 2), (14, 3), (14, 4), (39, 0), (39, 1), (39, 2), (39, 3), (39, 4), (39, 5), (39, 6), (39, 7), (42, 0), (42, 1), (42, 2), (42, 3), (42, 4), (42, 5), (42, 6), (42, 7), (42, 8), (42, 9), (42, 10), (42, 11), (42, 12), (42, 13), (42, 14), (41, 0), (41, 1), (41, 2), (41, 3), (41, 4), (41, 5), (41, 6), (41, 7), (41, 8), (41, 9), (41, 10), (41, 11), (41, 12), (43, 0), (43, 1), (43, 2), (43, 3), (43, 4), (43, 5), (43, 6), (43, 7)] (by decide +kernel) (by decide +kernel)
set_option maxRecDepth 20000 in
theorem gL_law_X7_seed : GoodIn wsL_law (wsV RL 43 RX7 yX7_seed wsX7_seed) := goodIn_app (goodIn_of _ (by decide +kernel)) ggL_law_X7_seed
set_option maxRecDepth 20000 in
theorem ggL_law_X8_seed : GoodIn wsL_law wsX8_seed := goodIn_rr _ [(14, 8), (5, 13), (5, 17), (14, 9), (14, 10), (14, 11), (0, 5), (14, 12), (8, 23), (14, 13), (14, 14), (14, 15), (14, 16), (14, 17), (14, 18), (14, 19), (14, 20), (14, 21), (14, 22), (14, 23), (12, 10), (15, 0), (15, 1), (15, 2), (15, 3), (15, 4), (15, 5), (15, 6), (15, 7), (5, 18), (15, 8), (15, 9), (15, 10), (15, 11), (12, 11), (6, 3), (6, 4), (6, 5), (6, 6), (40, 0), (40, 1), (40, 2), (40, 3), (40, 4), (40, 5), (40, 6), (40, 7), (40, 8), (40, 9), (40, 10), (40, 11), (40, 12), (40, 13), (40, 14), (40, 15), (40, 16), (40, 17), (40, 18), (40, 19), (40, 20), (40, 21), (40, 22), (40, 23), (40, 24), (40, 25), (40, 26), (40, 27), (40, 28), (40, 29), (40, 30), (40, 31), (40, 32), (40, 33), (40, 34), (40, 35), (40, 36), (40, 37)] (by decide +kernel) (by decide +kernel)
set_option maxRecDepth 20000 in
theorem gL_law_X8_seed : GoodIn wsL_law (wsV RL 47 RX8 yX8_seed wsX8_seed) := goodIn_app (goodIn_of _ (by decide +kernel)) ggL_law_X8_seed
set_option maxRecDepth 20000 in
theorem ggL_law_X7_may : GoodIn wsL_law wsX7_may := goodIn_rr _ [(15, 15), (0, 16), (0, 20), (12, 17), (12, 18), (0, 2), (12, 19), (15, 16), (13, 1), (13, 2), (0, 15), (13, 3), (1, 23), (15, 17), (15, 18), (15, 19), (0, 19), (15, 20), (2, 21), (15, 21), (15, 22), (15, 23), (16, 0), (3, 3), (3, 2), (2, 22), (2, 23), (3, 1), (16, 1), (16, 2), (16, 3), (16, 4), (2, 18), (2, 17), (16, 5), (16, 6), (16, 7), (16, 8), (16, 9), (16, 10), (16, 11), (16, 12), (16, 13), (16, 14), (16, 15), (16, 16), (16, 17), (16, 18), (16, 19), (16, 20), (16, 21), (16, 22), (16, 23), (17, 0), (17, 1), (17, 2), (17, 3), (17, 4), (8, 3), (8, 4), (17, 5), (17, 6), (17, 7), (17, 8), (17, 9), (17, 10), (17, 11), (17, 12), (17, 13), (17, 14), (17, 15), (17, 16), (17, 17), (17, 18), (17, 19), (17, 20), (17, 21), (17, 22), (17, 23), (18, 0), (18, 1), (18, 2), (18, 3), (18, 4), (39, 0), (39, 1), (39, 2), (39, 3), (39, 4), (39, 5), (39, 6), (39, 7), (41, 0), (41, 1), (41, 2), (41, 3), (41, 4), (41, 5), (41, 6), (41, 7), (41, 8), (41, 9), (41, 10), (41, 11), (41, 12), (42, 0), (42, 1), (42, 2), (42, 3), (42, 4), (42, 5), (42, 6), (42, 7), (42, 8), (42, 9), (42, 10), (42, 11), (42, 12), (42, 13), (42, 14)] (by decide +kernel) (by decide +kernel)
set_option maxRecDepth 20000 in
theorem gL_law_X7_may : GoodIn wsL_law (wsV RL 48 RX7 yX7_may wsX7_may) := goodIn_app (goodIn_of _ (by decide +kernel)) ggL_law_X7_may
set_option maxRecDepth 20000 in
theorem ggL_law_X8_may : GoodIn wsL_law wsX8_may := goodIn_rr _ [(18, 8), (5, 17), (14, 9), (14, 10), (14, 11), (0, 5), (14, 12), (8, 23), (18, 9), (18, 10), (18, 11), (18, 12), (5, 13), (5, 16), (14, 13), (14, 14), (14, 15), (14, 16), (14, 17), (14, 18), (14, 19), (18, 13), (18, 14), (18, 15), (18, 16), (18, 17), (18, 18), (18, 19), (18, 20), (5, 12), (18, 21), (18, 22), (18, 23), (19, 0), (19, 1), (19, 2), (19, 3), (19, 4), (19, 5), (19, 6), (5, 15), (5, 14), (19, 7), (19, 8), (19, 9), (19, 10), (19, 11), (19, 12), (19, 13), (19, 14), (40, 0), (40, 1), (40, 2), (40, 3), (40, 4), (40, 5), (40, 6), (40, 7), (40, 8), (40, 9), (40, 10), (40, 11), (40, 12), (40, 13), (40, 14), (40, 15), (40, 16), (40, 17), (40, 18), (40, 19), (40, 20), (40, 21), (40, 22), (40, 23), (40, 24), (40, 25), (40, 26), (40, 27), (40, 28), (40, 29), (40, 30), (40, 31), (40, 32), (40, 33), (40, 34), (40, 35), (40, 36), (40, 37)] (by decide +kernel) (by decide +kernel)
set_option maxRecDepth 20000 in
theorem gL_law_X8_may : GoodIn wsL_law (wsV RL 51 RX8 yX8_may wsX8_may) := goodIn_app (goodIn_of _ (by decide +kernel)) ggL_law_X8_may
set_option maxRecDepth 20000 in
theorem ggL_law_X7_hold : GoodIn wsL_law wsX7_hold := goodIn_rr _ [(19, 18), (0, 16), (0, 20), (12, 17), (12, 18), (0, 2), (12, 19), (15, 16), (13, 1), (13, 2), (0, 15), (13, 3), (1, 23), (19, 19), (19, 20), (19, 21), (0, 19), (19, 22), (2, 18), (2, 17), (13, 16), (16, 10), (16, 11), (16, 12), (16, 13), (16, 14), (16, 15), (19, 23), (20, 0), (20, 1), (20, 2), (20, 3), (20, 4), (20, 5), (20, 6), (8, 3), (8, 4), (20, 7), (20, 8), (20, 9), (20, 10), (17, 3), (17, 4), (39, 0), (39, 1), (39, 2), (39, 3), (39, 4), (39, 5), (39, 6), (39, 7), (41, 0), (41, 1), (41, 2), (41, 3), (41, 4), (41, 5), (41, 6), (41, 7), (41, 8), (41, 9), (41, 10), (41, 11), (41, 12), (42, 0), (42, 1), (42, 2), (42, 3), (42, 4), (42, 5), (42, 6), (42, 7), (42, 8), (42, 9), (42, 10), (42, 11), (42, 12), (42, 13), (42, 14)] (by decide +kernel) (by decide +kernel)
set_option maxRecDepth 20000 in
theorem gL_law_X7_hold : GoodIn wsL_law (wsV RL 52 RX7 yX7_hold wsX7_hold) := goodIn_app (goodIn_of _ (by decide +kernel)) ggL_law_X7_hold
set_option maxRecDepth 20000 in
theorem ggL_law_X8_hold : GoodIn wsL_law wsX8_hold := goodIn_rr _ [(20, 14), (5, 17), (14, 9), (14, 10), (14, 11), (0, 5), (14, 12), (8, 23), (14, 13), (14, 14), (14, 15), (14, 16), (5, 13), (14, 17), (14, 18), (14, 19), (18, 13), (18, 14), (18, 15), (18, 16), (18, 17), (18, 18), (18, 19), (18, 20), (5, 12), (18, 21), (18, 22), (18, 23), (19, 0), (19, 1), (19, 2), (19, 3), (19, 4), (19, 5), (19, 6), (5, 15), (5, 14), (40, 0), (40, 1), (40, 2), (40, 3), (40, 4), (40, 5), (40, 6), (40, 7), (40, 8), (40, 9), (40, 10), (40, 11), (40, 12), (40, 13), (40, 14), (40, 15), (40, 16), (40, 17), (40, 18), (40, 19), (40, 20), (40, 21), (40, 22), (40, 23), (40, 24), (40, 25), (40, 26), (40, 27), (40, 28), (40, 29), (40, 30), (40, 31), (40, 32), (40, 33), (40, 34), (40, 35), (40, 36), (40, 37)] (by decide +kernel) (by decide +kernel)
set_option maxRecDepth 20000 in
theorem gL_law_X8_hold : GoodIn wsL_law (wsV RL 56 RX8 yX8_hold wsX8_hold) := goodIn_app (goodIn_of _ (by decide +kernel)) ggL_law_X8_hold
set_option maxRecDepth 20000 in
theorem ggL_law_X7_come : GoodIn wsL_law wsX7_come := goodIn_rr _ [(20, 18), (0, 16), (0, 20), (12, 17), (12, 18), (0, 2), (12, 19), (15, 16), (13, 1), (13, 2), (0, 15), (13, 3), (1, 23), (15, 17), (15, 18), (15, 19), (0, 19), (15, 20), (2, 21), (15, 21), (15, 22), (15, 23), (16, 0), (3, 3), (3, 2), (2, 22), (2, 23), (3, 1), (16, 1), (16, 2), (16, 3), (16, 4), (2, 18), (2, 17), (16, 5), (16, 6), (16, 7), (16, 8), (16, 9), (16, 10), (16, 11), (16, 12), (16, 13), (16, 14), (16, 15), (16, 16), (16, 17), (16, 18), (16, 19), (16, 20), (16, 21), (16, 22), (16, 23), (17, 0), (17, 1), (17, 2), (17, 3), (17, 4), (8, 3), (8, 4), (17, 5), (17, 6), (17, 7), (17, 8), (17, 9), (17, 10), (17, 11), (17, 12), (17, 13), (17, 14), (17, 15), (17, 16), (17, 17), (17, 18), (17, 19), (17, 20), (17, 21), (17, 22), (17, 23), (18, 0), (18, 1), (18, 2), (18, 3), (18, 4), (13, 8), (13, 9), (13, 10), (13, 11), (1, 0), (13, 12), (13, 13), (13, 14), (13, 15), (13, 16), (2, 19), (2, 20), (13, 17), (13, 18), (13, 19), (13, 20), (8, 13), (8, 14), (8, 15), (8, 16), (8, 17), (8, 18), (13, 21), (13, 22), (13, 23), (0, 23), (14, 0), (3, 10), (3, 13), (3, 14), (3, 15), (3, 16), (3, 17), (3, 11), (14, 1), (14, 2), (14, 3), (14, 4), (39, 0), (39, 1), (39, 2), (39, 3), (39, 4), (39, 5), (39, 6), (39, 7), (41, 0), (41, 1), (41, 2), (41, 3), (41, 4), (41, 5), (41, 6), (41, 7), (41, 8), (41, 9), (41, 10), (41, 11), (41, 12), (42, 0), (42, 1), (42, 2), (42, 3), (42, 4), (42, 5), (42, 6), (42, 7), (42, 8), (42, 9), (42, 10), (42, 11), (42, 12), (42, 13), (42, 14), (43, 0), (43, 1), (43, 2), (43, 3), (43, 4), (43, 5), (43, 6), (43, 7)] (by decide +kernel) (by decide +kernel)
set_option maxRecDepth 20000 in
theorem gL_law_X7_come : GoodIn wsL_law (wsV RL 57 RX7 yX7_come wsX7_come) := goodIn_app (goodIn_of _ (by decide +kernel)) ggL_law_X7_come
set_option maxRecDepth 20000 in
theorem ggL_law_X8_come : GoodIn wsL_law wsX8_come := goodIn_rr _ [(20, 22), (20, 23), (18, 6), (18, 7), (0, 5), (18, 8), (5, 17), (14, 9), (14, 10), (14, 11), (14, 12), (8, 23), (18, 9), (18, 10), (18, 11), (18, 12), (5, 13), (5, 16), (14, 13), (14, 14), (14, 15), (14, 16), (14, 17), (14, 18), (14, 19), (18, 13), (18, 14), (18, 15), (18, 16), (18, 17), (18, 18), (18, 19), (18, 20), (5, 12), (18, 21), (18, 22), (18, 23), (19, 0), (19, 1), (19, 2), (19, 3), (19, 4), (19, 5), (19, 6), (5, 15), (5, 14), (19, 7), (19, 8), (19, 9), (19, 10), (19, 11), (19, 12), (19, 13), (19, 14), (14, 20), (14, 21), (14, 22), (14, 23), (12, 10), (15, 0), (15, 1), (15, 2), (15, 3), (15, 4), (15, 5), (15, 6), (15, 7), (5, 18), (15, 8), (15, 9), (15, 10), (15, 11), (12, 11), (6, 3), (6, 4), (6, 5), (6, 6), (40, 0), (40, 1), (40, 2), (40, 3), (40, 4), (40, 5), (40, 6), (40, 7), (40, 8), (40, 9), (40, 10), (40, 11), (40, 12), (40, 13), (40, 14), (40, 15), (40, 16), (40, 17), (40, 18), (40, 19), (40, 20), (40, 21), (40, 22), (40, 23), (40, 24), (40, 25), (40, 26), (40, 27), (40, 28), (40, 29), (40, 30), (40, 31), (40, 32), (40, 33), (40, 34), (40, 35), (40, 36), (40, 37)] (by decide +kernel) (by decide +kernel)
set_option maxRecDepth 20000 in
theorem gL_law_X8_come : GoodIn wsL_law (wsV RL 60 RX8 yX8_come wsX8_come) := goodIn_app (goodIn_of _ (by decide +kernel)) ggL_law_X8_come
set_option maxRecDepth 20000 in
theorem ggL_law_X7_go : GoodIn wsL_law wsX7_go := goodIn_rr _ [(21, 3), (0, 20), (21, 4), (1, 0), (12, 17), (12, 18), (0, 2), (12, 19), (13, 4), (13, 5), (13, 6), (0, 19), (13, 7), (2, 18), (21, 5), (21, 6), (21, 7), (21, 8), (2, 17), (17, 9), (21, 9), (21, 10), (21, 11), (12, 21), (12, 22), (0, 15), (12, 23), (2, 2), (13, 0), (13, 1), (13, 2), (13, 3), (1, 23), (21, 12), (20, 0), (20, 1), (20, 2), (13, 16), (20, 3), (20, 4), (20, 5), (20, 6), (8, 3), (8, 4), (20, 7), (20, 8), (20, 9), (20, 10), (17, 3), (17, 4), (21, 13), (21, 14), (21, 15), (21, 16), (3, 4), (11, 11), (11, 12), (11, 13), (11, 14), (21, 17), (21, 18), (21, 19), (21, 20), (3, 5), (21, 21), (21, 22), (21, 23), (22, 0), (22, 1), (22, 2), (22, 3), (22, 4), (22, 5), (2, 19), (2, 20), (13, 17), (13, 18), (13, 19), (13, 20), (8, 13), (8, 14), (8, 15), (8, 16), (3, 1), (3, 2), (3, 3), (8, 17), (8, 18), (13, 21), (13, 22), (13, 23), (0, 23), (14, 0), (3, 10), (3, 13), (3, 14), (3, 15), (3, 16), (3, 17), (3, 11), (14, 1), (14, 2), (14, 3), (14, 4), (39, 0), (39, 1), (39, 2), (39, 3), (39, 4), (39, 5), (39, 6), (39, 7), (42, 0), (42, 1), (42, 2), (42, 3), (42, 4), (42, 5), (42, 6), (42, 7), (42, 8), (42, 9), (42, 10), (42, 11), (42, 12), (42, 13), (42, 14), (41, 0), (41, 1), (41, 2), (41, 3), (41, 4), (41, 5), (41, 6), (41, 7), (41, 8), (41, 9), (41, 10), (41, 11), (41, 12), (43, 0), (43, 1), (43, 2), (43, 3), (43, 4), (43, 5), (43, 6), (43, 7)] (by decide +kernel) (by decide +kernel)
set_option maxRecDepth 20000 in
theorem gL_law_X7_go : GoodIn wsL_law (wsV RL 61 RX7 yX7_go wsX7_go) := goodIn_app (goodIn_of _ (by decide +kernel)) ggL_law_X7_go
set_option maxRecDepth 20000 in
theorem ggL_law_X8_go : GoodIn wsL_law wsX8_go := goodIn_rr _ [(22, 9), (5, 17), (5, 13), (5, 16), (5, 18), (14, 17), (14, 18), (0, 5), (14, 19), (18, 13), (18, 14), (18, 15), (18, 16), (18, 17), (18, 18), (18, 19), (18, 20), (5, 12), (18, 21), (18, 22), (18, 23), (19, 0), (19, 1), (19, 2), (19, 3), (19, 4), (19, 5), (19, 6), (5, 15), (5, 14), (22, 10), (22, 11), (22, 12), (22, 13), (6, 11), (6, 10), (15, 8), (15, 9), (15, 10), (15, 11), (12, 11), (6, 3), (6, 4), (6, 5), (6, 6), (12, 10), (40, 0), (40, 1), (40, 2), (40, 3), (40, 4), (40, 5), (40, 6), (40, 7), (40, 8), (40, 9), (40, 10), (40, 11), (40, 12), (40, 13), (40, 14), (40, 15), (40, 16), (40, 17), (40, 18), (40, 19), (40, 20), (40, 21), (40, 22), (40, 23), (40, 24), (40, 25), (40, 26), (40, 27), (40, 28), (40, 29), (40, 30), (40, 31), (40, 32), (40, 33), (40, 34), (40, 35), (40, 36), (40, 37)] (by decide +kernel) (by decide +kernel)
set_option maxRecDepth 20000 in
theorem gL_law_X8_go : GoodIn wsL_law (wsV RL 64 RX8 yX8_go wsX8_go) := goodIn_app (goodIn_of _ (by decide +kernel)) ggL_law_X8_go
set_option maxRecDepth 20000 in
theorem ggL_law_X7_force : GoodIn wsL_law wsX7_force := goodIn_rr _ [(22, 17), (0, 16), (22, 18), (0, 20), (12, 17), (12, 18), (0, 2), (12, 19), (15, 16), (13, 1), (13, 2), (0, 15), (13, 3), (1, 23), (19, 19), (19, 20), (19, 21), (0, 19), (19, 22), (2, 18), (2, 17), (13, 16), (16, 10), (16, 11), (16, 12), (16, 13), (16, 14), (16, 15), (13, 8), (13, 9), (13, 10), (13, 11), (1, 0), (13, 12), (13, 13), (13, 14), (13, 15), (2, 19), (2, 20), (13, 17), (13, 18), (13, 19), (13, 20), (8, 13), (8, 14), (8, 15), (8, 16), (3, 1), (3, 2), (3, 3), (8, 17), (8, 18), (13, 21), (13, 22), (13, 23), (0, 23), (14, 0), (3, 10), (3, 13), (3, 14), (3, 15), (3, 16), (3, 17), (3, 11), (14, 1), (14, 2), (14, 3), (14, 4), (39, 0), (39, 1), (39, 2), (39, 3), (39, 4), (39, 5), (39, 6), (39, 7), (41, 0), (41, 1), (41, 2), (41, 3), (41, 4), (41, 5), (41, 6), (41, 7), (41, 8), (41, 9), (41, 10), (41, 11), (41, 12), (42, 0), (42, 1), (42, 2), (42, 3), (42, 4), (42, 5), (42, 6), (42, 7), (42, 8), (42, 9), (42, 10), (42, 11), (42, 12), (42, 13), (42, 14), (43, 0), (43, 1), (43, 2), (43, 3), (43, 4), (43, 5), (43, 6), (43, 7)] (by decide +kernel) (by decide +kernel)
set_option maxRecDepth 20000 in
theorem gL_law_X7_force : GoodIn wsL_law (wsV RL 65 RX7 yX7_force wsX7_force) := goodIn_app (goodIn_of _ (by decide +kernel)) ggL_law_X7_force
set_option maxRecDepth 20000 in
theorem ggL_law_X8_force : GoodIn wsL_law wsX8_force := goodIn_rr _ [(22, 22), (5, 13), (5, 17), (14, 9), (14, 10), (14, 11), (0, 5), (14, 12), (8, 23), (14, 13), (14, 14), (14, 15), (14, 16), (14, 17), (14, 18), (14, 19), (14, 20), (14, 21), (14, 22), (14, 23), (12, 10), (15, 0), (15, 1), (15, 2), (15, 3), (15, 4), (15, 5), (15, 6), (15, 7), (5, 18), (15, 8), (15, 9), (15, 10), (15, 11), (12, 11), (6, 3), (6, 4), (6, 5), (6, 6), (40, 0), (40, 1), (40, 2), (40, 3), (40, 4), (40, 5), (40, 6), (40, 7), (40, 8), (40, 9), (40, 10), (40, 11), (40, 12), (40, 13), (40, 14), (40, 15), (40, 16), (40, 17), (40, 18), (40, 19), (40, 20), (40, 21), (40, 22), (40, 23), (40, 24), (40, 25), (40, 26), (40, 27), (40, 28), (40, 29), (40, 30), (40, 31), (40, 32), (40, 33), (40, 34), (40, 35), (40, 36), (40, 37)] (by decide +kernel) (by decide +kernel)
set_option maxRecDepth 20000 in
theorem gL_law_X8_force : GoodIn wsL_law (wsV RL 68 RX8 yX8_force wsX8_force) := goodIn_app (goodIn_of _ (by decide +kernel)) ggL_law_X8_force
set_option maxRecDepth 20000 in
theorem ggL_law_X7_choices : GoodIn wsL_law wsX7_choices := goodIn_rr _ [(23, 2), (0, 20), (23, 3), (23, 4), (23, 5), (0, 19), (23, 6), (2, 23), (15, 21), (15, 22), (15, 23), (16, 0), (3, 3), (3, 2), (2, 21), (2, 22), (3, 1), (16, 1), (16, 2), (16, 3), (16, 4), (2, 18), (2, 17), (16, 5), (16, 6), (16, 7), (16, 8), (16, 9), (16, 10), (16, 11), (16, 12), (16, 13), (16, 14), (0, 2), (16, 15), (16, 16), (16, 17), (16, 18), (16, 19), (16, 20), (16, 21), (16, 22), (16, 23), (17, 0), (17, 1), (17, 2), (17, 3), (17, 4), (8, 3), (8, 4), (17, 5), (17, 6), (17, 7), (17, 8), (17, 9), (17, 10), (17, 11), (17, 12), (17, 13), (17, 14), (17, 15), (17, 16), (17, 17), (17, 18), (17, 19), (17, 20), (17, 21), (17, 22), (17, 23), (18, 0), (18, 1), (18, 2), (18, 3), (18, 4), (39, 0), (39, 1), (39, 2), (39, 3), (39, 4), (39, 5), (39, 6), (39, 7), (42, 0), (42, 1), (42, 2), (42, 3), (42, 4), (42, 5), (42, 6), (42, 7), (42, 8), (42, 9), (42, 10), (42, 11), (42, 12), (42, 13), (42, 14), (41, 0), (41, 1), (41, 2), (41, 3), (41, 4), (41, 5), (41, 6), (41, 7), (41, 8), (41, 9), (41, 10), (41, 11), (41, 12)] (by decide +kernel) (by decide +kernel)
set_option maxRecDepth 20000 in
theorem gL_law_X7_choices : GoodIn wsL_law (wsV RL 69 RX7 yX7_choices wsX7_choices) := goodIn_app (goodIn_of _ (by decide +kernel)) ggL_law_X7_choices
set_option maxRecDepth 20000 in
theorem ggL_law_X8_choices : GoodIn wsL_law wsX8_choices := goodIn_rr _ [(23, 10), (8, 23), (5, 17), (18, 9), (18, 10), (18, 11), (0, 5), (18, 12), (5, 13), (5, 16), (14, 13), (14, 14), (14, 15), (14, 16), (14, 17), (14, 18), (14, 19), (18, 13), (18, 14), (18, 15), (18, 16), (18, 17), (18, 18), (18, 19), (18, 20), (5, 12), (18, 21), (18, 22), (18, 23), (19, 0), (19, 1), (19, 2), (19, 3), (19, 4), (19, 5), (19, 6), (5, 15), (5, 14), (19, 7), (19, 8), (19, 9), (19, 10), (19, 11), (19, 12), (19, 13), (19, 14), (40, 0), (40, 1), (40, 2), (40, 3), (40, 4), (40, 5), (40, 6), (40, 7), (40, 8), (40, 9), (40, 10), (40, 11), (40, 12), (40, 13), (40, 14), (40, 15), (40, 16), (40, 17), (40, 18), (40, 19), (40, 20), (40, 21), (40, 22), (40, 23), (40, 24), (40, 25), (40, 26), (40, 27), (40, 28), (40, 29), (40, 30), (40, 31), (40, 32), (40, 33), (40, 34), (40, 35), (40, 36), (40, 37)] (by decide +kernel) (by decide +kernel)
set_option maxRecDepth 20000 in
theorem gL_law_X8_choices : GoodIn wsL_law (wsV RL 72 RX8 yX8_choices wsX8_choices) := goodIn_app (goodIn_of _ (by decide +kernel)) ggL_law_X8_choices
set_option maxRecDepth 20000 in
theorem ggL_law_X7_choice : GoodIn wsL_law wsX7_choice := goodIn_rr _ [(23, 14), (0, 20), (23, 3), (23, 4), (23, 5), (0, 19), (23, 6), (2, 23), (15, 21), (15, 22), (15, 23), (16, 0), (3, 3), (3, 2), (2, 21), (2, 22), (3, 1), (16, 1), (16, 2), (16, 3), (16, 4), (2, 18), (2, 17), (16, 5), (16, 6), (16, 7), (16, 8), (16, 9), (16, 10), (16, 11), (16, 12), (16, 13), (16, 14), (0, 2), (16, 15), (16, 16), (16, 17), (16, 18), (16, 19), (16, 20), (16, 21), (16, 22), (16, 23), (17, 0), (17, 1), (17, 2), (17, 3), (17, 4), (8, 3), (8, 4), (17, 5), (17, 6), (17, 7), (17, 8), (17, 9), (17, 10), (17, 11), (17, 12), (17, 13), (17, 14), (17, 15), (17, 16), (17, 17), (17, 18), (17, 19), (17, 20), (17, 21), (17, 22), (17, 23), (18, 0), (18, 1), (18, 2), (18, 3), (18, 4), (23, 15), (23, 16), (23, 17), (23, 18), (23, 19), (23, 20), (23, 21), (23, 22), (12, 18), (12, 19), (23, 23), (24, 0), (24, 1), (24, 2), (24, 3), (24, 4), (24, 5), (24, 6), (24, 7), (24, 8), (24, 9), (24, 10), (24, 11), (39, 0), (39, 1), (39, 2), (39, 3), (39, 4), (39, 5), (39, 6), (39, 7), (42, 0), (42, 1), (42, 2), (42, 3), (42, 4), (42, 5), (42, 6), (42, 7), (42, 8), (42, 9), (42, 10), (42, 11), (42, 12), (42, 13), (42, 14), (41, 0), (41, 1), (41, 2), (41, 3), (41, 4), (41, 5), (41, 6), (41, 7), (41, 8), (41, 9), (41, 10), (41, 11), (41, 12)] (by decide +kernel) (by decide +kernel)
set_option maxRecDepth 20000 in
theorem gL_law_X7_choice : GoodIn wsL_law (wsV RL 73 RX7 yX7_choice wsX7_choice) := goodIn_app (goodIn_of _ (by decide +kernel)) ggL_law_X7_choice
set_option maxRecDepth 20000 in
theorem ggL_law_X8_choice : GoodIn wsL_law wsX8_choice := goodIn_rr _ [(24, 15), (24, 16), (24, 17), (24, 18), (0, 5), (24, 19), (8, 23), (5, 17), (18, 9), (18, 10), (18, 11), (18, 12), (5, 13), (5, 16), (14, 13), (14, 14), (14, 15), (14, 16), (14, 17), (14, 18), (14, 19), (18, 13), (18, 14), (18, 15), (18, 16), (18, 17), (18, 18), (18, 19), (18, 20), (5, 12), (18, 21), (18, 22), (18, 23), (19, 0), (19, 1), (19, 2), (19, 3), (19, 4), (19, 5), (19, 6), (5, 15), (5, 14), (19, 7), (19, 8), (19, 9), (19, 10), (19, 11), (19, 12), (19, 13), (19, 14), (40, 0), (40, 1), (40, 2), (40, 3), (40, 4), (40, 5), (40, 6), (40, 7), (40, 8), (40, 9), (40, 10), (40, 11), (40, 12), (40, 13), (40, 14), (40, 15), (40, 16), (40, 17), (40, 18), (40, 19), (40, 20), (40, 21), (40, 22), (40, 23), (40, 24), (40, 25), (40, 26), (40, 27), (40, 28), (40, 29), (40, 30), (40, 31), (40, 32), (40, 33), (40, 34), (40, 35), (40, 36), (40, 37)] (by decide +kernel) (by decide +kernel)
set_option maxRecDepth 20000 in
theorem gL_law_X8_choice : GoodIn wsL_law (wsV RL 77 RX8 yX8_choice wsX8_choice) := goodIn_app (goodIn_of _ (by decide +kernel)) ggL_law_X8_choice
set_option maxRecDepth 20000 in
theorem ggL_law_X7_draw : GoodIn wsL_law wsX7_draw := goodIn_rr _ [(24, 23), (1, 17), (39, 0), (39, 1), (39, 2), (39, 3), (39, 4), (39, 5), (39, 6), (39, 7)] (by decide +kernel) (by decide +kernel)
set_option maxRecDepth 20000 in
theorem gL_law_X7_draw : GoodIn wsL_law (wsV RL 80 RX7 yX7_draw wsX7_draw) := goodIn_app (goodIn_of _ (by decide +kernel)) ggL_law_X7_draw
set_option maxRecDepth 20000 in
theorem ggL_law_X8_draw : GoodIn wsL_law wsX8_draw := goodIn_rr _ [(25, 3), (25, 4), (40, 0), (40, 1), (40, 2), (40, 3), (40, 4), (40, 5), (40, 6), (40, 7), (40, 8), (40, 9), (40, 10), (40, 11), (40, 12), (40, 13), (40, 14), (40, 15), (40, 16), (40, 17), (40, 18), (40, 19), (40, 20), (40, 21), (40, 22), (40, 23), (40, 24), (40, 25), (40, 26), (40, 27), (40, 28), (40, 29), (40, 30), (40, 31), (40, 32), (40, 33), (40, 34), (40, 35), (40, 36), (40, 37)] (by decide +kernel) (by decide +kernel)
set_option maxRecDepth 20000 in
theorem gL_law_X8_draw : GoodIn wsL_law (wsV RL 84 RX8 yX8_draw wsX8_draw) := goodIn_app (goodIn_of _ (by decide +kernel)) ggL_law_X8_draw
set_option maxRecDepth 20000 in
theorem ggL_law_X7_grow : GoodIn wsL_law wsX7_grow := goodIn_rr _ [(25, 8), (0, 20), (23, 3), (23, 4), (23, 5), (0, 19), (23, 6), (2, 23), (15, 21), (15, 22), (15, 23), (16, 0), (3, 3), (3, 2), (2, 21), (2, 22), (3, 1), (16, 1), (16, 2), (16, 3), (16, 4), (2, 18), (2, 17), (16, 5), (16, 6), (16, 7), (16, 8), (16, 9), (16, 10), (16, 11), (16, 12), (16, 13), (16, 14), (0, 2), (16, 15), (16, 16), (16, 17), (16, 18), (16, 19), (16, 20), (16, 21), (16, 22), (16, 23), (17, 0), (17, 1), (17, 2), (17, 3), (17, 4), (8, 3), (8, 4), (17, 5), (17, 6), (17, 7), (17, 8), (17, 9), (17, 10), (17, 11), (17, 12), (17, 13), (17, 14), (17, 15), (17, 16), (17, 17), (17, 18), (17, 19), (17, 20), (17, 21), (17, 22), (17, 23), (18, 0), (18, 1), (18, 2), (18, 3), (18, 4), (25, 9), (25, 10), (25, 11), (25, 12), (1, 17), (25, 13), (25, 14), (23, 15), (23, 16), (23, 17), (23, 18), (23, 19), (23, 20), (23, 21), (23, 22), (12, 18), (12, 19), (23, 23), (24, 0), (24, 1), (24, 2), (24, 3), (24, 4), (24, 5), (24, 6), (24, 7), (24, 8), (24, 9), (13, 8), (13, 9), (13, 10), (13, 11), (1, 0), (13, 12), (13, 13), (13, 14), (13, 15), (13, 16), (2, 19), (2, 20), (13, 17), (13, 18), (13, 19), (13, 20), (8, 13), (8, 14), (8, 15), (8, 16), (8, 17), (8, 18), (13, 21), (13, 22), (13, 23), (0, 23), (14, 0), (3, 10), (3, 13), (3, 14), (3, 15), (3, 16), (3, 17), (3, 11), (14, 1), (14, 2), (14, 3), (14, 4), (39, 0), (39, 1), (39, 2), (39, 3), (39, 4), (39, 5), (39, 6), (39, 7), (42, 0), (42, 1), (42, 2), (42, 3), (42, 4), (42, 5), (42, 6), (42, 7), (42, 8), (42, 9), (42, 10), (42, 11), (42, 12), (42, 13), (42, 14), (41, 0), (41, 1), (41, 2), (41, 3), (41, 4), (41, 5), (41, 6), (41, 7), (41, 8), (41, 9), (41, 10), (41, 11), (41, 12), (43, 0), (43, 1), (43, 2), (43, 3), (43, 4), (43, 5), (43, 6), (43, 7)] (by decide +kernel) (by decide +kernel)
set_option maxRecDepth 20000 in
theorem gL_law_X7_grow : GoodIn wsL_law (wsV RL 85 RX7 yX7_grow wsX7_grow) := goodIn_app (goodIn_of _ (by decide +kernel)) ggL_law_X7_grow
set_option maxRecDepth 20000 in
theorem ggL_law_X8_grow : GoodIn wsL_law wsX8_grow := goodIn_rr _ [(25, 18), (25, 4), (25, 19), (25, 20), (25, 21), (23, 8), (23, 9), (0, 5), (23, 10), (8, 23), (5, 17), (18, 9), (18, 10), (18, 11), (18, 12), (5, 13), (5, 16), (14, 13), (14, 14), (14, 15), (14, 16), (14, 17), (14, 18), (14, 19), (18, 13), (18, 14), (18, 15), (18, 16), (18, 17), (18, 18), (18, 19), (18, 20), (5, 12), (18, 21), (18, 22), (18, 23), (19, 0), (19, 1), (19, 2), (19, 3), (19, 4), (19, 5), (19, 6), (5, 15), (5, 14), (19, 7), (19, 8), (19, 9), (19, 10), (19, 11), (19, 12), (19, 13), (19, 14), (24, 16), (24, 17), (24, 18), (24, 19), (14, 20), (14, 21), (14, 22), (14, 23), (12, 10), (15, 0), (15, 1), (15, 2), (15, 3), (15, 4), (15, 5), (15, 6), (15, 7), (5, 18), (15, 8), (15, 9), (15, 10), (15, 11), (12, 11), (6, 3), (6, 4), (6, 5), (6, 6), (40, 0), (40, 1), (40, 2), (40, 3), (40, 4), (40, 5), (40, 6), (40, 7), (40, 8), (40, 9), (40, 10), (40, 11), (40, 12), (40, 13), (40, 14), (40, 15), (40, 16), (40, 17), (40, 18), (40, 19), (40, 20), (40, 21), (40, 22), (40, 23), (40, 24), (40, 25), (40, 26), (40, 27), (40, 28), (40, 29), (40, 30), (40, 31), (40, 32), (40, 33), (40, 34), (40, 35), (40, 36), (40, 37)] (by decide +kernel) (by decide +kernel)
set_option maxRecDepth 20000 in
theorem gL_law_X8_grow : GoodIn wsL_law (wsV RL 88 RX8 yX8_grow wsX8_grow) := goodIn_app (goodIn_of _ (by decide +kernel)) ggL_law_X8_grow
set_option maxRecDepth 20000 in
theorem ggL_law_X7_at : GoodIn wsL_law wsX7_at := goodIn_rr _ [(26, 1), (0, 20), (21, 4), (12, 17), (12, 18), (0, 2), (12, 19), (22, 1), (21, 9), (21, 10), (39, 0), (39, 1), (39, 2), (39, 3), (39, 4), (39, 5), (39, 6), (39, 7), (42, 0), (42, 1), (42, 2), (42, 3), (42, 4), (42, 5), (42, 6), (42, 7), (42, 8), (42, 9), (42, 10), (42, 11), (42, 12), (42, 13), (42, 14)] (by decide +kernel) (by decide +kernel)
set_option maxRecDepth 20000 in
theorem gL_law_X7_at : GoodIn wsL_law (wsV RL 89 RX7 yX7_at wsX7_at) := goodIn_app (goodIn_of _ (by decide +kernel)) ggL_law_X7_at
set_option maxRecDepth 20000 in
theorem ggL_law_X8_at : GoodIn wsL_law wsX8_at := goodIn_rr _ [(26, 5), (5, 17), (14, 17), (14, 18), (0, 5), (14, 19), (40, 0), (40, 1), (40, 2), (40, 3), (40, 4), (40, 5), (40, 6), (40, 7), (40, 8), (40, 9), (40, 10), (40, 11), (40, 12), (40, 13), (40, 14), (40, 15), (40, 16), (40, 17), (40, 18), (40, 19), (40, 20), (40, 21), (40, 22), (40, 23), (40, 24), (40, 25), (40, 26), (40, 27), (40, 28), (40, 29), (40, 30), (40, 31), (40, 32), (40, 33), (40, 34), (40, 35), (40, 36), (40, 37)] (by decide +kernel) (by decide +kernel)
set_option maxRecDepth 20000 in
theorem gL_law_X8_at : GoodIn wsL_law (wsV RL 92 RX8 yX8_at wsX8_at) := goodIn_app (goodIn_of _ (by decide +kernel)) ggL_law_X8_at
set_option maxRecDepth 20000 in
theorem ggL_law_X7_of : GoodIn wsL_law wsX7_of := goodIn_rr _ [(26, 9), (0, 20), (21, 4), (0, 16), (22, 18), (26, 10), (1, 0), (26, 11), (12, 17), (12, 18), (0, 2), (12, 19), (13, 4), (13, 5), (13, 6), (0, 19), (13, 7), (2, 18), (22, 1), (21, 9), (21, 10), (26, 12), (26, 13), (26, 14), (19, 23), (20, 0), (20, 1), (20, 2), (2, 17), (13, 16), (20, 3), (20, 4), (20, 5), (20, 6), (8, 3), (8, 4), (20, 7), (20, 8), (20, 9), (20, 10), (17, 3), (17, 4), (39, 0), (39, 1), (39, 2), (39, 3), (39, 4), (39, 5), (39, 6), (39, 7), (42, 0), (42, 1), (42, 2), (42, 3), (42, 4), (42, 5), (42, 6), (42, 7), (42, 8), (42, 9), (42, 10), (42, 11), (42, 12), (42, 13), (42, 14), (41, 0), (41, 1), (41, 2), (41, 3), (41, 4), (41, 5), (41, 6), (41, 7), (41, 8), (41, 9), (41, 10), (41, 11), (41, 12), (43, 0), (43, 1), (43, 2), (43, 3), (43, 4), (43, 5), (43, 6), (43, 7)] (by decide +kernel) (by decide +kernel)
set_option maxRecDepth 20000 in
theorem gL_law_X7_of : GoodIn wsL_law (wsV RL 93 RX7 yX7_of wsX7_of) := goodIn_app (goodIn_of _ (by decide +kernel)) ggL_law_X7_of
set_option maxRecDepth 20000 in
theorem ggL_law_X8_of : GoodIn wsL_law wsX8_of := goodIn_rr _ [(26, 18), (5, 17), (5, 13), (5, 14), (5, 18), (14, 17), (14, 18), (0, 5), (14, 19), (18, 13), (18, 14), (18, 15), (18, 16), (18, 17), (18, 18), (18, 19), (18, 20), (5, 12), (18, 21), (18, 22), (18, 23), (19, 0), (19, 1), (19, 2), (19, 3), (19, 4), (19, 5), (19, 6), (5, 15), (40, 0), (40, 1), (40, 2), (40, 3), (40, 4), (40, 5), (40, 6), (40, 7), (40, 8), (40, 9), (40, 10), (40, 11), (40, 12), (40, 13), (40, 14), (40, 15), (40, 16), (40, 17), (40, 18), (40, 19), (40, 20), (40, 21), (40, 22), (40, 23), (40, 24), (40, 25), (40, 26), (40, 27), (40, 28), (40, 29), (40, 30), (40, 31), (40, 32), (40, 33), (40, 34), (40, 35), (40, 36), (40, 37)] (by decide +kernel) (by decide +kernel)
set_option maxRecDepth 20000 in
theorem gL_law_X8_of : GoodIn wsL_law (wsV RL 96 RX8 yX8_of wsX8_of) := goodIn_app (goodIn_of _ (by decide +kernel)) ggL_law_X8_of
set_option maxRecDepth 20000 in
theorem ggL_law_X7_walk : GoodIn wsL_law wsX7_walk := goodIn_rr _ [(26, 22), (1, 8), (26, 23), (27, 0), (27, 1), (1, 7), (27, 2), (4, 4), (27, 3), (4, 5), (27, 4), (27, 5), (27, 6), (27, 7), (4, 6), (4, 12), (27, 8), (27, 9), (27, 10), (27, 11), (27, 12), (27, 13), (4, 7), (27, 14), (27, 15), (27, 16), (27, 17), (4, 14), (27, 18), (27, 19), (27, 20), (4, 8), (4, 13), (27, 21), (11, 12), (11, 13), (11, 14), (27, 22), (27, 23), (28, 0), (28, 1), (4, 9), (4, 10), (28, 2), (28, 3), (28, 4), (28, 5), (28, 6), (22, 3), (22, 4), (0, 19), (22, 5), (2, 18), (2, 17), (13, 16), (2, 19), (2, 20), (21, 9), (0, 2), (21, 10), (13, 17), (13, 18), (13, 19), (13, 20), (8, 13), (8, 14), (8, 15), (8, 16), (3, 1), (3, 2), (3, 3), (8, 17), (8, 18), (28, 7), (13, 13), (13, 14), (13, 15), (28, 8), (23, 4), (23, 5), (23, 6), (2, 23), (15, 21), (15, 22), (15, 23), (16, 0), (2, 21), (2, 22), (16, 1), (16, 2), (16, 3), (16, 4), (16, 5), (16, 6), (16, 7), (16, 8), (16, 9), (16, 10), (16, 11), (16, 12), (16, 13), (16, 14), (16, 15), (16, 16), (16, 17), (16, 18), (16, 19), (16, 20), (16, 21), (16, 22), (16, 23), (17, 0), (17, 1), (17, 2), (17, 3), (17, 4), (8, 3), (8, 4), (17, 5), (17, 6), (17, 7), (17, 8), (17, 9), (17, 10), (17, 11), (17, 12), (17, 13), (17, 14), (17, 15), (17, 16), (17, 17), (17, 18), (17, 19), (17, 20), (17, 21), (17, 22), (17, 23), (18, 0), (18, 1), (18, 2), (18, 3), (18, 4), (28, 9), (28, 10), (28, 11), (28, 12), (28, 13), (28, 14), (28, 15), (28, 16), (28, 17), (28, 18), (12, 18), (12, 19), (28, 19), (28, 20), (28, 21), (28, 22), (4, 11), (28, 23), (29, 0), (4, 15), (29, 1), (29, 2), (29, 3), (29, 4), (29, 5), (29, 6), (29, 7), (29, 8), (29, 9), (29, 10), (29, 11), (29, 12), (29, 13), (39, 0), (39, 1), (39, 2), (39, 3), (39, 4), (39, 5), (39, 6), (39, 7), (45, 0), (45, 1), (45, 2), (45, 3), (45, 4), (45, 5), (45, 6), (45, 7), (45, 8), (45, 9), (45, 10), (45, 11), (45, 12), (45, 13), (45, 14), (45, 15), (42, 0), (42, 1), (42, 2), (42, 3), (42, 4), (42, 5), (42, 6), (42, 7), (42, 8), (42, 9), (42, 10), (42, 11), (42, 12), (42, 13), (42, 14), (41, 0), (41, 1), (41, 2), (41, 3), (41, 4), (41, 5), (41, 6), (41, 7), (41, 8), (41, 9), (41, 10), (41, 11), (41, 12)] (by decide +kernel) (by decide +kernel)
set_option maxRecDepth 20000 in
theorem gL_law_X7_walk : GoodIn wsL_law (wsV RL 97 RX7 yX7_walk wsX7_walk) := goodIn_app (goodIn_of _ (by decide +kernel)) ggL_law_X7_walk
set_option maxRecDepth 20000 in
theorem ggL_law_X8_walk : GoodIn wsL_law wsX8_walk := goodIn_rr _ [(29, 17), (5, 17), (29, 18), (29, 19), (29, 20), (29, 21), (6, 9), (29, 22), (29, 23), (8, 23), (6, 12), (12, 2), (12, 3), (12, 4), (0, 5), (12, 5), (18, 9), (18, 10), (18, 11), (18, 12), (5, 13), (5, 16), (14, 13), (14, 14), (14, 15), (14, 16), (14, 17), (14, 18), (14, 19), (18, 13), (18, 14), (18, 15), (18, 16), (18, 17), (18, 18), (18, 19), (18, 20), (5, 12), (18, 21), (18, 22), (18, 23), (19, 0), (19, 1), (19, 2), (19, 3), (19, 4), (19, 5), (19, 6), (5, 15), (5, 14), (19, 7), (19, 8), (19, 9), (19, 10), (19, 11), (19, 12), (19, 13), (19, 14), (15, 0), (15, 1), (15, 2), (15, 3), (30, 0), (30, 1), (30, 2), (30, 3), (40, 0), (40, 1), (40, 2), (40, 3), (40, 4), (40, 5), (40, 6), (40, 7), (40, 8), (40, 9), (40, 10), (40, 11), (40, 12), (40, 13), (40, 14), (40, 15), (40, 16), (40, 17), (40, 18), (40, 19), (40, 20), (40, 21), (40, 22), (40, 23), (40, 24), (40, 25), (40, 26), (40, 27), (40, 28), (40, 29), (40, 30), (40, 31), (40, 32), (40, 33), (40, 34), (40, 35), (40, 36), (40, 37)] (by decide +kernel) (by decide +kernel)
set_option maxRecDepth 20000 in
theorem gL_law_X8_walk : GoodIn wsL_law (wsV RL 100 RX8 yX8_walk wsX8_walk) := goodIn_app (goodIn_of _ (by decide +kernel)) ggL_law_X8_walk
set_option maxRecDepth 20000 in
theorem ggL_law_X7_ways : GoodIn wsL_law wsX7_ways := goodIn_rr _ [(30, 7), (1, 8), (30, 8), (30, 9), (30, 10), (30, 11), (30, 12), (39, 0), (39, 1), (39, 2), (39, 3), (39, 4), (39, 5), (39, 6), (39, 7), (45, 0), (45, 1), (45, 2), (45, 3), (45, 4), (45, 5), (45, 6), (45, 7), (45, 8), (45, 9), (45, 10), (45, 11), (45, 12), (45, 13), (45, 14), (45, 15)] (by decide +kernel) (by decide +kernel)
set_option maxRecDepth 20000 in
theorem gL_law_X7_ways : GoodIn wsL_law (wsV RL 101 RX7 yX7_ways wsX7_ways) := goodIn_app (goodIn_of _ (by decide +kernel)) ggL_law_X7_ways
set_option maxRecDepth 20000 in
theorem ggL_law_X8_ways : GoodIn wsL_law wsX8_ways := goodIn_rr _ [(30, 16), (29, 19), (29, 22), (29, 20), (29, 21), (29, 23), (40, 0), (40, 1), (40, 2), (40, 3), (40, 4), (40, 5), (40, 6), (40, 7), (40, 8), (40, 9), (40, 10), (40, 11), (40, 12), (40, 13), (40, 14), (40, 15), (40, 16), (40, 17), (40, 18), (40, 19), (40, 20), (40, 21), (40, 22), (40, 23), (40, 24), (40, 25), (40, 26), (40, 27), (40, 28), (40, 29), (40, 30), (40, 31), (40, 32), (40, 33), (40, 34), (40, 35), (40, 36), (40, 37)] (by decide +kernel) (by decide +kernel)
set_option maxRecDepth 20000 in
theorem gL_law_X8_ways : GoodIn wsL_law (wsV RL 104 RX8 yX8_ways wsX8_ways) := goodIn_app (goodIn_of _ (by decide +kernel)) ggL_law_X8_ways
set_option maxRecDepth 20000 in
theorem ggL_law_X7_way : GoodIn wsL_law wsX7_way := goodIn_rr _ [(30, 20), (1, 8), (30, 9), (12, 17), (12, 18), (0, 2), (12, 19), (30, 21), (30, 22), (30, 23), (1, 7), (31, 0), (4, 9), (4, 11), (4, 10), (4, 8), (4, 7), (21, 9), (21, 10), (39, 0), (39, 1), (39, 2), (39, 3), (39, 4), (39, 5), (39, 6), (39, 7), (45, 0), (45, 1), (45, 2), (45, 3), (45, 4), (45, 5), (45, 6), (45, 7), (45, 8), (45, 9), (45, 10), (45, 11), (45, 12), (45, 13), (45, 14), (45, 15)] (by decide +kernel) (by decide +kernel)
set_option maxRecDepth 20000 in
theorem gL_law_X7_way : GoodIn wsL_law (wsV RL 105 RX7 yX7_way wsX7_way) := goodIn_app (goodIn_of _ (by decide +kernel)) ggL_law_X7_way
set_option maxRecDepth 20000 in
theorem ggL_law_X8_way : GoodIn wsL_law wsX8_way := goodIn_rr _ [(31, 4), (29, 19), (29, 22), (6, 9), (14, 17), (14, 18), (0, 5), (14, 19), (40, 0), (40, 1), (40, 2), (40, 3), (40, 4), (40, 5), (40, 6), (40, 7), (40, 8), (40, 9), (40, 10), (40, 11), (40, 12), (40, 13), (40, 14), (40, 15), (40, 16), (40, 17), (40, 18), (40, 19), (40, 20), (40, 21), (40, 22), (40, 23), (40, 24), (40, 25), (40, 26), (40, 27), (40, 28), (40, 29), (40, 30), (40, 31), (40, 32), (40, 33), (40, 34), (40, 35), (40, 36), (40, 37)] (by decide +kernel) (by decide +kernel)
set_option maxRecDepth 20000 in
theorem gL_law_X8_way : GoodIn wsL_law (wsV RL 108 RX8 yX8_way wsX8_way) := goodIn_app (goodIn_of _ (by decide +kernel)) ggL_law_X8_way
set_option maxRecDepth 20000 in
theorem ggL_law_X7_orderly : GoodIn wsL_law wsX7_orderly := goodIn_rr _ [(31, 8), (1, 12), (31, 9), (31, 10), (31, 11), (1, 11), (31, 12), (4, 22), (31, 13), (31, 14), (31, 15), (4, 21), (31, 16), (31, 17), (31, 18), (31, 19), (31, 20), (31, 21), (31, 22), (31, 23), (32, 0), (0, 23), (32, 1), (3, 10), (3, 11), (32, 2), (32, 3), (32, 4), (32, 5), (4, 20), (32, 6), (32, 7), (32, 8), (32, 9), (32, 10), (32, 11), (32, 12), (32, 13), (32, 14), (32, 15), (32, 16), (32, 17), (32, 18), (13, 5), (13, 6), (0, 19), (13, 7), (2, 18), (32, 19), (20, 4), (20, 5), (20, 6), (8, 3), (0, 2), (8, 4), (20, 7), (20, 8), (20, 9), (20, 10), (2, 17), (17, 3), (17, 4), (32, 20), (32, 21), (32, 22), (16, 14), (16, 15), (18, 3), (18, 4), (32, 23), (33, 0), (33, 1), (33, 2), (33, 3), (33, 4), (33, 5), (33, 6), (33, 7), (33, 8), (33, 9), (33, 10), (33, 11), (33, 12), (33, 13), (16, 5), (16, 16), (16, 17), (16, 18), (16, 19), (16, 20), (16, 21), (16, 22), (16, 23), (17, 0), (17, 1), (17, 2), (17, 5), (17, 6), (17, 7), (17, 8), (17, 9), (33, 14), (23, 4), (23, 5), (23, 6), (2, 23), (15, 21), (15, 22), (15, 23), (16, 0), (3, 3), (3, 2), (2, 21), (2, 22), (3, 1), (16, 1), (16, 2), (16, 3), (16, 4), (16, 6), (16, 7), (16, 8), (16, 9), (16, 10), (16, 11), (16, 12), (16, 13), (17, 10), (17, 11), (17, 12), (17, 13), (17, 14), (17, 15), (17, 16), (17, 17), (17, 18), (17, 19), (17, 20), (17, 21), (17, 22), (17, 23), (18, 0), (18, 1), (18, 2), (39, 0), (39, 1), (39, 2), (39, 3), (39, 4), (39, 5), (39, 6), (39, 7), (46, 0), (46, 1), (46, 2), (43, 0), (43, 1), (43, 2), (43, 3), (43, 4), (43, 5), (43, 6), (43, 7), (41, 0), (41, 1), (41, 2), (41, 3), (41, 4), (41, 5), (41, 6), (41, 7), (41, 8), (41, 9), (41, 10), (41, 11), (41, 12), (42, 0), (42, 1), (42, 2), (42, 3), (42, 4), (42, 5), (42, 6), (42, 7), (42, 8), (42, 9), (42, 10), (42, 11), (42, 12), (42, 13), (42, 14)] (by decide +kernel) (by decide +kernel)
set_option maxRecDepth 20000 in
theorem gL_law_X7_orderly : GoodIn wsL_law (wsV RL 109 RX7 yX7_orderly wsX7_orderly) := goodIn_app (goodIn_of _ (by decide +kernel)) ggL_law_X7_orderly
set_option maxRecDepth 20000 in
theorem ggL_law_X8_orderly : GoodIn wsL_law wsX8_orderly := goodIn_rr _ [(33, 18), (6, 14), (12, 11), (6, 5), (6, 4), (6, 13), (6, 3), (5, 16), (33, 19), (33, 20), (33, 21), (0, 5), (33, 22), (12, 1), (12, 10), (5, 17), (5, 13), (5, 14), (18, 17), (18, 18), (18, 19), (18, 20), (5, 12), (18, 21), (18, 22), (18, 23), (19, 0), (19, 1), (19, 2), (14, 17), (14, 18), (14, 19), (19, 3), (19, 4), (19, 5), (19, 6), (5, 15), (18, 13), (18, 14), (18, 15), (18, 16), (15, 0), (15, 1), (15, 2), (15, 3), (33, 23), (34, 0), (34, 1), (34, 2), (8, 23), (25, 21), (23, 8), (23, 9), (23, 10), (18, 9), (18, 10), (18, 11), (18, 12), (14, 13), (14, 14), (14, 15), (14, 16), (19, 7), (19, 8), (19, 9), (19, 10), (19, 11), (19, 12), (19, 13), (19, 14), (40, 0), (40, 1), (40, 2), (40, 3), (40, 4), (40, 5), (40, 6), (40, 7), (40, 8), (40, 9), (40, 10), (40, 11), (40, 12), (40, 13), (40, 14), (40, 15), (40, 16), (40, 17), (40, 18), (40, 19), (40, 20), (40, 21), (40, 22), (40, 23), (40, 24), (40, 25), (40, 26), (40, 27), (40, 28), (40, 29), (40, 30), (40, 31), (40, 32), (40, 33), (40, 34), (40, 35), (40, 36), (40, 37)] (by decide +kernel) (by decide +kernel)
set_option maxRecDepth 20000 in
theorem gL_law_X8_orderly : GoodIn wsL_law (wsV RL 112 RX8 yX8_orderly wsX8_orderly) := goodIn_app (goodIn_of _ (by decide +kernel)) ggL_law_X8_orderly
set_option maxRecDepth 20000 in
theorem ggL_law_X7_rule : GoodIn wsL_law wsX7_rule := goodIn_rr _ [(34, 6), (0, 20), (1, 0), (0, 16), (11, 7), (11, 8), (11, 9), (0, 19), (11, 10), (2, 18), (2, 19), (2, 20), (11, 11), (11, 12), (11, 13), (11, 14), (11, 15), (8, 10), (8, 11), (8, 12), (8, 13), (8, 14), (8, 15), (8, 16), (3, 1), (3, 2), (3, 3), (8, 17), (0, 2), (8, 18), (11, 16), (11, 17), (11, 18), (0, 23), (11, 19), (3, 10), (3, 11), (3, 12), (3, 17), (11, 20), (34, 7), (34, 8), (34, 9), (0, 15), (34, 10), (2, 1), (34, 11), (34, 12), (34, 13), (34, 14), (1, 22), (1, 23), (2, 4), (2, 5), (2, 7), (2, 8), (2, 9), (2, 10), (2, 11), (2, 12), (34, 15), (34, 16), (34, 17), (34, 18), (8, 3), (8, 4), (34, 19), (7, 10), (7, 11), (7, 12), (2, 2), (2, 3), (7, 13), (7, 14), (7, 15), (7, 16), (7, 17), (7, 18), (7, 19), (7, 20), (7, 21), (7, 22), (7, 23), (8, 0), (8, 1), (8, 2), (8, 5), (8, 6), (8, 7), (8, 8), (34, 20), (12, 17), (12, 18), (12, 19), (13, 8), (13, 9), (13, 10), (13, 11), (13, 12), (13, 13), (13, 14), (13, 15), (2, 17), (13, 16), (13, 17), (13, 18), (13, 19), (13, 20), (13, 21), (13, 22), (13, 23), (14, 0), (3, 13), (3, 14), (3, 15), (3, 16), (14, 1), (14, 2), (14, 3), (14, 4), (39, 0), (39, 1), (39, 2), (39, 3), (39, 4), (39, 5), (39, 6), (39, 7), (42, 0), (42, 1), (42, 2), (42, 3), (42, 4), (42, 5), (42, 6), (42, 7), (42, 8), (42, 9), (42, 10), (42, 11), (42, 12), (42, 13), (42, 14), (43, 0), (43, 1), (43, 2), (43, 3), (43, 4), (43, 5), (43, 6), (43, 7), (41, 0), (41, 1), (41, 2), (41, 3), (41, 4), (41, 5), (41, 6), (41, 7), (41, 8), (41, 9), (41, 10), (41, 11), (41, 12)] (by decide +kernel) (by decide +kernel)
set_option maxRecDepth 20000 in
theorem gL_law_X7_rule : GoodIn wsL_law (wsV RL 113 RX7 yX7_rule wsX7_rule) := goodIn_app (goodIn_of _ (by decide +kernel)) ggL_law_X7_rule
set_option maxRecDepth 20000 in
theorem ggL_law_X8_rule : GoodIn wsL_law wsX8_rule := goodIn_rr _ [(35, 0), (8, 23), (5, 12), (5, 16), (35, 1), (11, 22), (11, 23), (0, 5), (12, 0), (5, 17), (5, 18), (12, 1), (12, 2), (12, 3), (12, 4), (12, 5), (12, 6), (12, 7), (12, 8), (12, 9), (12, 10), (12, 11), (10, 17), (8, 20), (8, 21), (8, 22), (5, 13), (5, 14), (5, 15), (9, 0), (9, 1), (9, 2), (9, 3), (9, 4), (9, 5), (35, 2), (14, 6), (14, 7), (14, 8), (14, 9), (14, 10), (14, 11), (14, 12), (14, 13), (14, 14), (14, 15), (14, 16), (14, 17), (14, 18), (14, 19), (14, 20), (14, 21), (14, 22), (14, 23), (15, 0), (15, 1), (15, 2), (15, 3), (15, 4), (15, 5), (15, 6), (15, 7), (15, 8), (15, 9), (15, 10), (15, 11), (6, 3), (6, 4), (6, 5), (6, 6), (40, 0), (40, 1), (40, 2), (40, 3), (40, 4), (40, 5), (40, 6), (40, 7), (40, 8), (40, 9), (40, 10), (40, 11), (40, 12), (40, 13), (40, 14), (40, 15), (40, 16), (40, 17), (40, 18), (40, 19), (40, 20), (40, 21), (40, 22), (40, 23), (40, 24), (40, 25), (40, 26), (40, 27), (40, 28), (40, 29), (40, 30), (40, 31), (40, 32), (40, 33), (40, 34), (40, 35), (40, 36), (40, 37)] (by decide +kernel) (by decide +kernel)
set_option maxRecDepth 20000 in
theorem gL_law_X8_rule : GoodIn wsL_law (wsV RL 116 RX8 yX8_rule wsX8_rule) := goodIn_app (goodIn_of _ (by decide +kernel)) ggL_law_X8_rule
set_option maxRecDepth 20000 in
theorem ggL_law_X7_row : GoodIn wsL_law wsX7_row := goodIn_rr _ [(35, 6), (0, 20), (21, 4), (0, 16), (26, 10), (12, 17), (12, 18), (0, 2), (12, 19), (22, 1), (21, 9), (21, 10), (39, 0), (39, 1), (39, 2), (39, 3), (39, 4), (39, 5), (39, 6), (39, 7), (42, 0), (42, 1), (42, 2), (42, 3), (42, 4), (42, 5), (42, 6), (42, 7), (42, 8), (42, 9), (42, 10), (42, 11), (42, 12), (42, 13), (42, 14), (41, 0), (41, 1), (41, 2), (41, 3), (41, 4), (41, 5), (41, 6), (41, 7), (41, 8), (41, 9), (41, 10), (41, 11), (41, 12)] (by decide +kernel) (by decide +kernel)
set_option maxRecDepth 20000 in
theorem gL_law_X7_row : GoodIn wsL_law (wsV RL 117 RX7 yX7_row wsX7_row) := goodIn_app (goodIn_of _ (by decide +kernel)) ggL_law_X7_row
set_option maxRecDepth 20000 in
theorem ggL_law_X8_row : GoodIn wsL_law wsX8_row := goodIn_rr _ [(35, 10), (35, 11), (26, 16), (26, 17), (0, 5), (26, 18), (5, 17), (5, 13), (5, 14), (5, 18), (14, 17), (14, 18), (14, 19), (18, 13), (18, 14), (18, 15), (18, 16), (18, 17), (18, 18), (18, 19), (18, 20), (5, 12), (18, 21), (18, 22), (18, 23), (19, 0), (19, 1), (19, 2), (19, 3), (19, 4), (19, 5), (19, 6), (5, 15), (40, 0), (40, 1), (40, 2), (40, 3), (40, 4), (40, 5), (40, 6), (40, 7), (40, 8), (40, 9), (40, 10), (40, 11), (40, 12), (40, 13), (40, 14), (40, 15), (40, 16), (40, 17), (40, 18), (40, 19), (40, 20), (40, 21), (40, 22), (40, 23), (40, 24), (40, 25), (40, 26), (40, 27), (40, 28), (40, 29), (40, 30), (40, 31), (40, 32), (40, 33), (40, 34), (40, 35), (40, 36), (40, 37)] (by decide +kernel) (by decide +kernel)
set_option maxRecDepth 20000 in
theorem gL_law_X8_row : GoodIn wsL_law (wsV RL 120 RX8 yX8_row wsX8_row) := goodIn_app (goodIn_of _ (by decide +kernel)) ggL_law_X8_row
set_option maxRecDepth 20000 in
theorem ggL_law_X7_undo : GoodIn wsL_law wsX7_undo := goodIn_rr _ [(35, 15), (1, 0), (35, 16), (35, 17), (35, 18), (35, 19), (0, 2), (35, 20), (35, 21), (35, 22), (0, 20), (35, 23), (26, 11), (36, 0), (36, 1), (36, 2), (36, 3), (0, 23), (36, 4), (3, 11), (3, 10), (13, 12), (13, 13), (13, 14), (0, 19), (13, 15), (2, 18), (2, 17), (13, 16), (2, 19), (2, 20), (13, 17), (13, 18), (13, 19), (13, 20), (8, 13), (8, 14), (8, 15), (8, 16), (3, 1), (3, 2), (3, 3), (8, 17), (8, 18), (22, 2), (22, 3), (22, 4), (22, 5), (21, 9), (21, 10), (39, 0), (39, 1), (39, 2), (39, 3), (39, 4), (39, 5), (39, 6), (39, 7), (43, 0), (43, 1), (43, 2), (43, 3), (43, 4), (43, 5), (43, 6), (43, 7), (42, 0), (42, 1), (42, 2), (42, 3), (42, 4), (42, 5), (42, 6), (42, 7), (42, 8), (42, 9), (42, 10), (42, 11), (42, 12), (42, 13), (42, 14), (41, 0), (41, 1), (41, 2), (41, 3), (41, 4), (41, 5), (41, 6), (41, 7), (41, 8), (41, 9), (41, 10), (41, 11), (41, 12)] (by decide +kernel) (by decide +kernel)
set_option maxRecDepth 20000 in
theorem gL_law_X7_undo : GoodIn wsL_law (wsV RL 121 RX7 yX7_undo wsX7_undo) := goodIn_app (goodIn_of _ (by decide +kernel)) ggL_law_X7_undo
set_option maxRecDepth 20000 in
theorem ggL_law_X8_undo : GoodIn wsL_law wsX8_undo := goodIn_rr _ [(36, 8), (12, 11), (12, 10), (6, 4), (6, 5), (6, 3), (5, 17), (6, 6), (15, 0), (15, 1), (15, 2), (0, 5), (15, 3), (5, 13), (15, 4), (15, 5), (15, 6), (15, 7), (5, 18), (36, 9), (36, 10), (36, 11), (36, 12), (40, 0), (40, 1), (40, 2), (40, 3), (40, 4), (40, 5), (40, 6), (40, 7), (40, 8), (40, 9), (40, 10), (40, 11), (40, 12), (40, 13), (40, 14), (40, 15), (40, 16), (40, 17), (40, 18), (40, 19), (40, 20), (40, 21), (40, 22), (40, 23), (40, 24), (40, 25), (40, 26), (40, 27), (40, 28), (40, 29), (40, 30), (40, 31), (40, 32), (40, 33), (40, 34), (40, 35), (40, 36), (40, 37)] (by decide +kernel) (by decide +kernel)
set_option maxRecDepth 20000 in
theorem gL_law_X8_undo : GoodIn wsL_law (wsV RL 124 RX8 yX8_undo wsX8_undo) := goodIn_app (goodIn_of _ (by decide +kernel)) ggL_law_X8_undo
set_option maxRecDepth 20000 in
theorem ggL_law_X7_keep : GoodIn wsL_law wsX7_keep := goodIn_rr _ [(36, 16), (1, 14), (0, 16), (0, 20), (1, 17), (36, 17), (36, 18), (36, 19), (1, 16), (36, 20), (5, 4), (36, 21), (5, 5), (36, 22), (27, 15), (27, 16), (27, 17), (5, 6), (36, 23), (37, 0), (37, 1), (0, 15), (37, 2), (1, 22), (1, 23), (2, 1), (37, 3), (2, 2), (2, 3), (2, 4), (2, 5), (2, 7), (2, 8), (2, 9), (2, 10), (2, 11), (2, 12), (39, 0), (39, 1), (39, 2), (39, 3), (39, 4), (39, 5), (39, 6), (39, 7), (47, 0), (47, 1), (47, 2), (42, 0), (42, 1), (42, 2), (42, 3), (42, 4), (42, 5), (42, 6), (42, 7), (42, 8), (42, 9), (42, 10), (42, 11), (42, 12), (42, 13), (42, 14), (41, 0), (41, 1), (41, 2), (41, 3), (41, 4), (41, 5), (41, 6), (41, 7), (41, 8), (41, 9), (41, 10), (41, 11), (41, 12)] (by decide +kernel) (by decide +kernel)
set_option maxRecDepth 20000 in
theorem gL_law_X7_keep : GoodIn wsL_law (wsV RL 125 RX7 yX7_keep wsX7_keep) := goodIn_app (goodIn_of _ (by decide +kernel)) ggL_law_X7_keep
set_option maxRecDepth 20000 in
theorem ggL_law_X8_keep : GoodIn wsL_law wsX8_keep := goodIn_rr _ [(37, 7), (5, 19), (5, 12), (5, 20), (5, 13), (5, 21), (5, 14), (5, 22), (5, 15), (5, 23), (8, 23), (6, 0), (5, 16), (6, 2), (25, 4), (6, 1), (5, 17), (40, 0), (40, 1), (40, 2), (40, 3), (40, 4), (40, 5), (40, 6), (40, 7), (40, 8), (40, 9), (40, 10), (40, 11), (40, 12), (40, 13), (40, 14), (40, 15), (40, 16), (40, 17), (40, 18), (40, 19), (40, 20), (40, 21), (40, 22), (40, 23), (40, 24), (40, 25), (40, 26), (40, 27), (40, 28), (40, 29), (40, 30), (40, 31), (40, 32), (40, 33), (40, 34), (40, 35), (40, 36), (40, 37)] (by decide +kernel) (by decide +kernel)
set_option maxRecDepth 20000 in
theorem gL_law_X8_keep : GoodIn wsL_law (wsV RL 128 RX8 yX8_keep wsX8_keep) := goodIn_app (goodIn_of _ (by decide +kernel)) ggL_law_X8_keep
set_option maxRecDepth 20000 in
theorem ggL_law_X7_back : GoodIn wsL_law wsX7_back := goodIn_rr _ [(37, 11), (1, 14), (0, 16), (37, 12), (0, 20), (37, 13), (37, 14), (1, 17), (1, 0), (6, 19), (37, 15), (37, 0), (37, 1), (0, 15), (37, 2), (1, 22), (1, 23), (2, 1), (37, 3), (27, 15), (27, 16), (27, 17), (2, 2), (2, 3), (2, 4), (2, 5), (2, 7), (2, 8), (2, 9), (2, 10), (2, 11), (2, 12), (37, 16), (37, 17), (37, 18), (0, 19), (37, 19), (2, 18), (37, 20), (2, 19), (2, 20), (2, 17), (13, 16), (11, 15), (8, 10), (8, 11), (8, 12), (8, 13), (8, 14), (8, 15), (8, 16), (3, 1), (3, 2), (3, 3), (8, 17), (0, 2), (8, 18), (11, 16), (11, 17), (11, 18), (0, 23), (11, 19), (3, 10), (3, 11), (3, 12), (3, 17), (11, 20), (11, 12), (11, 13), (11, 14), (39, 0), (39, 1), (39, 2), (39, 3), (39, 4), (39, 5), (39, 6), (39, 7), (47, 0), (47, 1), (47, 2), (42, 0), (42, 1), (42, 2), (42, 3), (42, 4), (42, 5), (42, 6), (42, 7), (42, 8), (42, 9), (42, 10), (42, 11), (42, 12), (42, 13), (42, 14), (41, 0), (41, 1), (41, 2), (41, 3), (41, 4), (41, 5), (41, 6), (41, 7), (41, 8), (41, 9), (41, 10), (41, 11), (41, 12), (43, 0), (43, 1), (43, 2), (43, 3), (43, 4), (43, 5), (43, 6), (43, 7)] (by decide +kernel) (by decide +kernel)
set_option maxRecDepth 20000 in
theorem gL_law_X7_back : GoodIn wsL_law (wsV RL 129 RX7 yX7_back wsX7_back) := goodIn_app (goodIn_of _ (by decide +kernel)) ggL_law_X7_back
set_option maxRecDepth 20000 in
theorem ggL_law_X8_back : GoodIn wsL_law wsX8_back := goodIn_rr _ [(38, 0), (5, 12), (5, 19), (5, 13), (5, 20), (5, 14), (5, 21), (5, 15), (5, 22), (5, 23), (8, 23), (6, 0), (5, 16), (6, 2), (25, 4), (5, 17), (6, 1), (5, 18), (12, 1), (12, 6), (12, 7), (12, 8), (0, 5), (12, 9), (12, 10), (12, 11), (7, 1), (7, 2), (7, 3), (7, 4), (40, 0), (40, 1), (40, 2), (40, 3), (40, 4), (40, 5), (40, 6), (40, 7), (40, 8), (40, 9), (40, 10), (40, 11), (40, 12), (40, 13), (40, 14), (40, 15), (40, 16), (40, 17), (40, 18), (40, 19), (40, 20), (40, 21), (40, 22), (40, 23), (40, 24), (40, 25), (40, 26), (40, 27), (40, 28), (40, 29), (40, 30), (40, 31), (40, 32), (40, 33), (40, 34), (40, 35), (40, 36), (40, 37)] (by decide +kernel) (by decide +kernel)
set_option maxRecDepth 20000 in
theorem gL_law_X8_back : GoodIn wsL_law (wsV RL 132 RX8 yX8_back wsX8_back) := goodIn_app (goodIn_of _ (by decide +kernel)) ggL_law_X8_back
set_option maxRecDepth 20000 in
theorem ggL_law_X7_about : GoodIn wsL_law wsX7_about := goodIn_rr _ [(38, 4), (0, 16), (38, 5), (0, 20), (6, 19), (10, 22), (1, 0), (38, 6), (35, 16), (1, 4), (9, 10), (39, 0), (39, 1), (39, 2), (39, 3), (39, 4), (39, 5), (39, 6), (39, 7), (41, 0), (41, 1), (41, 2), (41, 3), (41, 4), (41, 5), (41, 6), (41, 7), (41, 8), (41, 9), (41, 10), (41, 11), (41, 12), (42, 0), (42, 1), (42, 2), (42, 3), (42, 4), (42, 5), (42, 6), (42, 7), (42, 8), (42, 9), (42, 10), (42, 11), (42, 12), (42, 13), (42, 14), (43, 0), (43, 1), (43, 2), (43, 3), (43, 4), (43, 5), (43, 6), (43, 7), (44, 0), (44, 1)] (by decide +kernel) (by decide +kernel)
set_option maxRecDepth 20000 in
theorem gL_law_X7_about : GoodIn wsL_law (wsV RL 133 RX7 yX7_about wsX7_about) := goodIn_app (goodIn_of _ (by decide +kernel)) ggL_law_X7_about
set_option maxRecDepth 20000 in
theorem ggL_law_X8_about : GoodIn wsL_law wsX8_about := goodIn_rr _ [(38, 10), (8, 23), (5, 17), (5, 16), (12, 10), (12, 11), (9, 23), (12, 2), (12, 3), (12, 4), (0, 5), (12, 5), (40, 0), (40, 1), (40, 2), (40, 3), (40, 4), (40, 5), (40, 6), (40, 7), (40, 8), (40, 9), (40, 10), (40, 11), (40, 12), (40, 13), (40, 14), (40, 15), (40, 16), (40, 17), (40, 18), (40, 19), (40, 20), (40, 21), (40, 22), (40, 23), (40, 24), (40, 25), (40, 26), (40, 27), (40, 28), (40, 29), (40, 30), (40, 31), (40, 32), (40, 33), (40, 34), (40, 35), (40, 36), (40, 37)] (by decide +kernel) (by decide +kernel)
set_option maxRecDepth 20000 in
theorem gL_law_X8_about : GoodIn wsL_law (wsV RL 136 RX8 yX8_about wsX8_about) := goodIn_app (goodIn_of _ (by decide +kernel)) ggL_law_X8_about
theorem dL_law_0 : decode cL_law 0 = .ok (.new 7, 3) := by decide +kernel
theorem dL_law_3 : decode cL_law 3 = .ok (.dup, 1) := by decide +kernel
theorem dL_law_4 : decode cL_law 4 = .ok (.invokespecial 9, 3) := by decide +kernel
theorem dL_law_7 : decode cL_law 7 = .ok (.astore_n 1, 1) := by decide +kernel
theorem dL_law_8 : decode cL_law 8 = .ok (.new 10, 3) := by decide +kernel
theorem dL_law_11 : decode cL_law 11 = .ok (.dup, 1) := by decide +kernel
theorem dL_law_12 : decode cL_law 12 = .ok (.invokespecial 12, 3) := by decide +kernel
theorem dL_law_15 : decode cL_law 15 = .ok (.astore_n 2, 1) := by decide +kernel
theorem dL_law_16 : decode cL_law 16 = .ok (.iconst 0, 1) := by decide +kernel
theorem dL_law_17 : decode cL_law 17 = .ok (.istore_n 3, 1) := by decide +kernel
theorem dL_law_18 : decode cL_law 18 = .ok (.iload_n 3, 1) := by decide +kernel
theorem dL_law_19 : decode cL_law 19 = .ok (.aload_n 0, 1) := by decide +kernel
theorem dL_law_20 : decode cL_law 20 = .ok (.arraylength, 1) := by decide +kernel
theorem dL_law_21 : decode cL_law 21 = .ok (.bipush 7, 2) := by decide +kernel
theorem dL_law_23 : decode cL_law 23 = .ok (.isub, 1) := by decide +kernel
theorem dL_law_24 : decode cL_law 24 = .ok (.if_icmp .gt 1118, 3) := by decide +kernel
theorem dL_law_27 : decode cL_law 27 = .ok (.aload_n 0, 1) := by decide +kernel
theorem dL_law_28 : decode cL_law 28 = .ok (.iload_n 3, 1) := by decide +kernel
theorem dL_law_29 : decode cL_law 29 = .ok (.iaload, 1) := by decide +kernel
theorem dL_law_30 : decode cL_law 30 = .ok (.bipush 31, 2) := by decide +kernel
theorem dL_law_32 : decode cL_law 32 = .ok (.iand, 1) := by decide +kernel
theorem dL_law_33 : decode cL_law 33 = .ok (.tableswitch 1103 0 27 #[127, 160, 235, 298, 321, 344, 357, 400, 443, 486, 529, 562, 605, 618, 651, 702, 725, 758, 801, 824, 847, 890, 903, 978, 1011, 1034, 1057, 1080], 127) := by decide +kernel
theorem dL_law_160 : decode cL_law 160 = .ok (.aload_n 1, 1) := by decide +kernel
theorem dL_law_161 : decode cL_law 161 = .ok (.aload_n 0, 1) := by decide +kernel
theorem dL_law_162 : decode cL_law 162 = .ok (.iload_n 3, 1) := by decide +kernel
theorem dL_law_163 : decode cL_law 163 = .ok (.iconst 1, 1) := by decide +kernel
theorem dL_law_164 : decode cL_law 164 = .ok (.iadd, 1) := by decide +kernel
theorem dL_law_165 : decode cL_law 165 = .ok (.iaload, 1) := by decide +kernel
theorem dL_law_166 : decode cL_law 166 = .ok (.aload_n 0, 1) := by decide +kernel
theorem dL_law_167 : decode cL_law 167 = .ok (.iload_n 3, 1) := by decide +kernel
theorem dL_law_168 : decode cL_law 168 = .ok (.iconst 2, 1) := by decide +kernel
theorem dL_law_169 : decode cL_law 169 = .ok (.iadd, 1) := by decide +kernel
theorem dL_law_170 : decode cL_law 170 = .ok (.iaload, 1) := by decide +kernel
theorem dL_law_171 : decode cL_law 171 = .ok (.invokevirtual 13, 3) := by decide +kernel
theorem dL_law_174 : decode cL_law 174 = .ok (.aload_n 2, 1) := by decide +kernel
theorem dL_law_175 : decode cL_law 175 = .ok (.aload_n 0, 1) := by decide +kernel
theorem dL_law_176 : decode cL_law 176 = .ok (.iload_n 3, 1) := by decide +kernel
theorem dL_law_177 : decode cL_law 177 = .ok (.iconst 1, 1) := by decide +kernel
theorem dL_law_178 : decode cL_law 178 = .ok (.iadd, 1) := by decide +kernel
theorem dL_law_179 : decode cL_law 179 = .ok (.iaload, 1) := by decide +kernel
theorem dL_law_180 : decode cL_law 180 = .ok (.aload_n 0, 1) := by decide +kernel
theorem dL_law_181 : decode cL_law 181 = .ok (.iload_n 3, 1) := by decide +kernel
theorem dL_law_182 : decode cL_law 182 = .ok (.iconst 2, 1) := by decide +kernel
theorem dL_law_183 : decode cL_law 183 = .ok (.iadd, 1) := by decide +kernel
theorem dL_law_184 : decode cL_law 184 = .ok (.iaload, 1) := by decide +kernel
theorem dL_law_185 : decode cL_law 185 = .ok (.invokevirtual 17, 3) := by decide +kernel
theorem dL_law_188 : decode cL_law 188 = .ok (.if_icmp .eq 948, 3) := by decide +kernel
theorem dL_law_191 : decode cL_law 191 = .ok (.iconst 0, 1) := by decide +kernel
theorem dL_law_192 : decode cL_law 192 = .ok (.ireturn, 1) := by decide +kernel
theorem dL_law_193 : decode cL_law 193 = .ok (.aload_n 1, 1) := by decide +kernel
theorem dL_law_194 : decode cL_law 194 = .ok (.aload_n 0, 1) := by decide +kernel
theorem dL_law_195 : decode cL_law 195 = .ok (.iload_n 3, 1) := by decide +kernel
theorem dL_law_196 : decode cL_law 196 = .ok (.iconst 1, 1) := by decide +kernel
theorem dL_law_197 : decode cL_law 197 = .ok (.iadd, 1) := by decide +kernel
theorem dL_law_198 : decode cL_law 198 = .ok (.iaload, 1) := by decide +kernel
theorem dL_law_199 : decode cL_law 199 = .ok (.aload_n 0, 1) := by decide +kernel
theorem dL_law_200 : decode cL_law 200 = .ok (.iload_n 3, 1) := by decide +kernel
theorem dL_law_201 : decode cL_law 201 = .ok (.iconst 2, 1) := by decide +kernel
theorem dL_law_202 : decode cL_law 202 = .ok (.iadd, 1) := by decide +kernel
theorem dL_law_203 : decode cL_law 203 = .ok (.iaload, 1) := by decide +kernel
theorem dL_law_204 : decode cL_law 204 = .ok (.aload_n 0, 1) := by decide +kernel
theorem dL_law_205 : decode cL_law 205 = .ok (.iload_n 3, 1) := by decide +kernel
theorem dL_law_206 : decode cL_law 206 = .ok (.iconst 3, 1) := by decide +kernel
theorem dL_law_207 : decode cL_law 207 = .ok (.iadd, 1) := by decide +kernel
theorem dL_law_208 : decode cL_law 208 = .ok (.iaload, 1) := by decide +kernel
theorem dL_law_209 : decode cL_law 209 = .ok (.aload_n 0, 1) := by decide +kernel
theorem dL_law_210 : decode cL_law 210 = .ok (.iload_n 3, 1) := by decide +kernel
theorem dL_law_211 : decode cL_law 211 = .ok (.iconst 4, 1) := by decide +kernel
theorem dL_law_212 : decode cL_law 212 = .ok (.iadd, 1) := by decide +kernel
theorem dL_law_213 : decode cL_law 213 = .ok (.iaload, 1) := by decide +kernel
theorem dL_law_214 : decode cL_law 214 = .ok (.aload_n 0, 1) := by decide +kernel
theorem dL_law_215 : decode cL_law 215 = .ok (.iload_n 3, 1) := by decide +kernel
theorem dL_law_216 : decode cL_law 216 = .ok (.iconst 5, 1) := by decide +kernel
theorem dL_law_217 : decode cL_law 217 = .ok (.iadd, 1) := by decide +kernel
theorem dL_law_218 : decode cL_law 218 = .ok (.iaload, 1) := by decide +kernel
theorem dL_law_219 : decode cL_law 219 = .ok (.aload_n 0, 1) := by decide +kernel
theorem dL_law_220 : decode cL_law 220 = .ok (.iload_n 3, 1) := by decide +kernel
theorem dL_law_221 : decode cL_law 221 = .ok (.bipush 6, 2) := by decide +kernel
theorem dL_law_223 : decode cL_law 223 = .ok (.iadd, 1) := by decide +kernel
theorem dL_law_224 : decode cL_law 224 = .ok (.iaload, 1) := by decide +kernel
theorem dL_law_225 : decode cL_law 225 = .ok (.invokevirtual 18, 3) := by decide +kernel
theorem dL_law_228 : decode cL_law 228 = .ok (.aload_n 2, 1) := by decide +kernel
theorem dL_law_229 : decode cL_law 229 = .ok (.aload_n 0, 1) := by decide +kernel
theorem dL_law_230 : decode cL_law 230 = .ok (.iload_n 3, 1) := by decide +kernel
theorem dL_law_231 : decode cL_law 231 = .ok (.iconst 1, 1) := by decide +kernel
theorem dL_law_232 : decode cL_law 232 = .ok (.iadd, 1) := by decide +kernel
theorem dL_law_233 : decode cL_law 233 = .ok (.iaload, 1) := by decide +kernel
theorem dL_law_234 : decode cL_law 234 = .ok (.aload_n 0, 1) := by decide +kernel
theorem dL_law_235 : decode cL_law 235 = .ok (.iload_n 3, 1) := by decide +kernel
theorem dL_law_236 : decode cL_law 236 = .ok (.iconst 2, 1) := by decide +kernel
theorem dL_law_237 : decode cL_law 237 = .ok (.iadd, 1) := by decide +kernel
theorem dL_law_238 : decode cL_law 238 = .ok (.iaload, 1) := by decide +kernel
theorem dL_law_239 : decode cL_law 239 = .ok (.aload_n 0, 1) := by decide +kernel
theorem dL_law_240 : decode cL_law 240 = .ok (.iload_n 3, 1) := by decide +kernel
theorem dL_law_241 : decode cL_law 241 = .ok (.iconst 3, 1) := by decide +kernel
theorem dL_law_242 : decode cL_law 242 = .ok (.iadd, 1) := by decide +kernel
theorem dL_law_243 : decode cL_law 243 = .ok (.iaload, 1) := by decide +kernel
theorem dL_law_244 : decode cL_law 244 = .ok (.aload_n 0, 1) := by decide +kernel
theorem dL_law_245 : decode cL_law 245 = .ok (.iload_n 3, 1) := by decide +kernel
theorem dL_law_246 : decode cL_law 246 = .ok (.iconst 4, 1) := by decide +kernel
theorem dL_law_247 : decode cL_law 247 = .ok (.iadd, 1) := by decide +kernel
theorem dL_law_248 : decode cL_law 248 = .ok (.iaload, 1) := by decide +kernel
theorem dL_law_249 : decode cL_law 249 = .ok (.aload_n 0, 1) := by decide +kernel
theorem dL_law_250 : decode cL_law 250 = .ok (.iload_n 3, 1) := by decide +kernel
theorem dL_law_251 : decode cL_law 251 = .ok (.iconst 5, 1) := by decide +kernel
theorem dL_law_252 : decode cL_law 252 = .ok (.iadd, 1) := by decide +kernel
theorem dL_law_253 : decode cL_law 253 = .ok (.iaload, 1) := by decide +kernel
theorem dL_law_254 : decode cL_law 254 = .ok (.aload_n 0, 1) := by decide +kernel
theorem dL_law_255 : decode cL_law 255 = .ok (.iload_n 3, 1) := by decide +kernel
theorem dL_law_256 : decode cL_law 256 = .ok (.bipush 6, 2) := by decide +kernel
theorem dL_law_258 : decode cL_law 258 = .ok (.iadd, 1) := by decide +kernel
theorem dL_law_259 : decode cL_law 259 = .ok (.iaload, 1) := by decide +kernel
theorem dL_law_260 : decode cL_law 260 = .ok (.invokevirtual 22, 3) := by decide +kernel
theorem dL_law_263 : decode cL_law 263 = .ok (.if_icmp .eq 873, 3) := by decide +kernel
theorem dL_law_266 : decode cL_law 266 = .ok (.iconst 0, 1) := by decide +kernel
theorem dL_law_267 : decode cL_law 267 = .ok (.ireturn, 1) := by decide +kernel
theorem dL_law_268 : decode cL_law 268 = .ok (.aload_n 1, 1) := by decide +kernel
theorem dL_law_269 : decode cL_law 269 = .ok (.aload_n 0, 1) := by decide +kernel
theorem dL_law_270 : decode cL_law 270 = .ok (.iload_n 3, 1) := by decide +kernel
theorem dL_law_271 : decode cL_law 271 = .ok (.iconst 1, 1) := by decide +kernel
theorem dL_law_272 : decode cL_law 272 = .ok (.iadd, 1) := by decide +kernel
theorem dL_law_273 : decode cL_law 273 = .ok (.iaload, 1) := by decide +kernel
theorem dL_law_274 : decode cL_law 274 = .ok (.aload_n 0, 1) := by decide +kernel
theorem dL_law_275 : decode cL_law 275 = .ok (.iload_n 3, 1) := by decide +kernel
theorem dL_law_276 : decode cL_law 276 = .ok (.iconst 2, 1) := by decide +kernel
theorem dL_law_277 : decode cL_law 277 = .ok (.iadd, 1) := by decide +kernel
theorem dL_law_278 : decode cL_law 278 = .ok (.iaload, 1) := by decide +kernel
theorem dL_law_279 : decode cL_law 279 = .ok (.aload_n 0, 1) := by decide +kernel
theorem dL_law_280 : decode cL_law 280 = .ok (.iload_n 3, 1) := by decide +kernel
theorem dL_law_281 : decode cL_law 281 = .ok (.iconst 3, 1) := by decide +kernel
theorem dL_law_282 : decode cL_law 282 = .ok (.iadd, 1) := by decide +kernel
theorem dL_law_283 : decode cL_law 283 = .ok (.iaload, 1) := by decide +kernel
theorem dL_law_284 : decode cL_law 284 = .ok (.aload_n 0, 1) := by decide +kernel
theorem dL_law_285 : decode cL_law 285 = .ok (.iload_n 3, 1) := by decide +kernel
theorem dL_law_286 : decode cL_law 286 = .ok (.iconst 4, 1) := by decide +kernel
theorem dL_law_287 : decode cL_law 287 = .ok (.iadd, 1) := by decide +kernel
theorem dL_law_288 : decode cL_law 288 = .ok (.iaload, 1) := by decide +kernel
theorem dL_law_289 : decode cL_law 289 = .ok (.aload_n 0, 1) := by decide +kernel
theorem dL_law_290 : decode cL_law 290 = .ok (.iload_n 3, 1) := by decide +kernel
theorem dL_law_291 : decode cL_law 291 = .ok (.iconst 5, 1) := by decide +kernel
theorem dL_law_292 : decode cL_law 292 = .ok (.iadd, 1) := by decide +kernel
theorem dL_law_293 : decode cL_law 293 = .ok (.iaload, 1) := by decide +kernel
theorem dL_law_294 : decode cL_law 294 = .ok (.invokevirtual 23, 3) := by decide +kernel
theorem dL_law_297 : decode cL_law 297 = .ok (.aload_n 2, 1) := by decide +kernel
theorem dL_law_298 : decode cL_law 298 = .ok (.aload_n 0, 1) := by decide +kernel
theorem dL_law_299 : decode cL_law 299 = .ok (.iload_n 3, 1) := by decide +kernel
theorem dL_law_300 : decode cL_law 300 = .ok (.iconst 1, 1) := by decide +kernel
theorem dL_law_301 : decode cL_law 301 = .ok (.iadd, 1) := by decide +kernel
theorem dL_law_302 : decode cL_law 302 = .ok (.iaload, 1) := by decide +kernel
theorem dL_law_303 : decode cL_law 303 = .ok (.aload_n 0, 1) := by decide +kernel
theorem dL_law_304 : decode cL_law 304 = .ok (.iload_n 3, 1) := by decide +kernel
theorem dL_law_305 : decode cL_law 305 = .ok (.iconst 2, 1) := by decide +kernel
theorem dL_law_306 : decode cL_law 306 = .ok (.iadd, 1) := by decide +kernel
theorem dL_law_307 : decode cL_law 307 = .ok (.iaload, 1) := by decide +kernel
theorem dL_law_308 : decode cL_law 308 = .ok (.aload_n 0, 1) := by decide +kernel
theorem dL_law_309 : decode cL_law 309 = .ok (.iload_n 3, 1) := by decide +kernel
theorem dL_law_310 : decode cL_law 310 = .ok (.iconst 3, 1) := by decide +kernel
theorem dL_law_311 : decode cL_law 311 = .ok (.iadd, 1) := by decide +kernel
theorem dL_law_312 : decode cL_law 312 = .ok (.iaload, 1) := by decide +kernel
theorem dL_law_313 : decode cL_law 313 = .ok (.aload_n 0, 1) := by decide +kernel
theorem dL_law_314 : decode cL_law 314 = .ok (.iload_n 3, 1) := by decide +kernel
theorem dL_law_315 : decode cL_law 315 = .ok (.iconst 4, 1) := by decide +kernel
theorem dL_law_316 : decode cL_law 316 = .ok (.iadd, 1) := by decide +kernel
theorem dL_law_317 : decode cL_law 317 = .ok (.iaload, 1) := by decide +kernel
theorem dL_law_318 : decode cL_law 318 = .ok (.aload_n 0, 1) := by decide +kernel
theorem dL_law_319 : decode cL_law 319 = .ok (.iload_n 3, 1) := by decide +kernel
theorem dL_law_320 : decode cL_law 320 = .ok (.iconst 5, 1) := by decide +kernel
theorem dL_law_321 : decode cL_law 321 = .ok (.iadd, 1) := by decide +kernel
theorem dL_law_322 : decode cL_law 322 = .ok (.iaload, 1) := by decide +kernel
theorem dL_law_323 : decode cL_law 323 = .ok (.invokevirtual 27, 3) := by decide +kernel
theorem dL_law_326 : decode cL_law 326 = .ok (.if_icmp .eq 810, 3) := by decide +kernel
theorem dL_law_329 : decode cL_law 329 = .ok (.iconst 0, 1) := by decide +kernel
theorem dL_law_330 : decode cL_law 330 = .ok (.ireturn, 1) := by decide +kernel
theorem dL_law_331 : decode cL_law 331 = .ok (.aload_n 1, 1) := by decide +kernel
theorem dL_law_332 : decode cL_law 332 = .ok (.aload_n 0, 1) := by decide +kernel
theorem dL_law_333 : decode cL_law 333 = .ok (.iload_n 3, 1) := by decide +kernel
theorem dL_law_334 : decode cL_law 334 = .ok (.iconst 1, 1) := by decide +kernel
theorem dL_law_335 : decode cL_law 335 = .ok (.iadd, 1) := by decide +kernel
theorem dL_law_336 : decode cL_law 336 = .ok (.iaload, 1) := by decide +kernel
theorem dL_law_337 : decode cL_law 337 = .ok (.invokevirtual 28, 3) := by decide +kernel
theorem dL_law_340 : decode cL_law 340 = .ok (.aload_n 2, 1) := by decide +kernel
theorem dL_law_341 : decode cL_law 341 = .ok (.aload_n 0, 1) := by decide +kernel
theorem dL_law_342 : decode cL_law 342 = .ok (.iload_n 3, 1) := by decide +kernel
theorem dL_law_343 : decode cL_law 343 = .ok (.iconst 1, 1) := by decide +kernel
theorem dL_law_344 : decode cL_law 344 = .ok (.iadd, 1) := by decide +kernel
theorem dL_law_345 : decode cL_law 345 = .ok (.iaload, 1) := by decide +kernel
theorem dL_law_346 : decode cL_law 346 = .ok (.invokevirtual 32, 3) := by decide +kernel
theorem dL_law_349 : decode cL_law 349 = .ok (.if_icmp .eq 787, 3) := by decide +kernel
theorem dL_law_352 : decode cL_law 352 = .ok (.iconst 0, 1) := by decide +kernel
theorem dL_law_353 : decode cL_law 353 = .ok (.ireturn, 1) := by decide +kernel
theorem dL_law_354 : decode cL_law 354 = .ok (.aload_n 1, 1) := by decide +kernel
theorem dL_law_355 : decode cL_law 355 = .ok (.aload_n 0, 1) := by decide +kernel
theorem dL_law_356 : decode cL_law 356 = .ok (.iload_n 3, 1) := by decide +kernel
theorem dL_law_357 : decode cL_law 357 = .ok (.iconst 1, 1) := by decide +kernel
theorem dL_law_358 : decode cL_law 358 = .ok (.iadd, 1) := by decide +kernel
theorem dL_law_359 : decode cL_law 359 = .ok (.iaload, 1) := by decide +kernel
theorem dL_law_360 : decode cL_law 360 = .ok (.invokevirtual 33, 3) := by decide +kernel
theorem dL_law_363 : decode cL_law 363 = .ok (.aload_n 2, 1) := by decide +kernel
theorem dL_law_364 : decode cL_law 364 = .ok (.aload_n 0, 1) := by decide +kernel
theorem dL_law_365 : decode cL_law 365 = .ok (.iload_n 3, 1) := by decide +kernel
theorem dL_law_366 : decode cL_law 366 = .ok (.iconst 1, 1) := by decide +kernel
theorem dL_law_367 : decode cL_law 367 = .ok (.iadd, 1) := by decide +kernel
theorem dL_law_368 : decode cL_law 368 = .ok (.iaload, 1) := by decide +kernel
theorem dL_law_369 : decode cL_law 369 = .ok (.invokevirtual 37, 3) := by decide +kernel
theorem dL_law_372 : decode cL_law 372 = .ok (.if_icmp .eq 764, 3) := by decide +kernel
theorem dL_law_375 : decode cL_law 375 = .ok (.iconst 0, 1) := by decide +kernel
theorem dL_law_376 : decode cL_law 376 = .ok (.ireturn, 1) := by decide +kernel
theorem dL_law_377 : decode cL_law 377 = .ok (.aload_n 1, 1) := by decide +kernel
theorem dL_law_378 : decode cL_law 378 = .ok (.invokevirtual 38, 3) := by decide +kernel
theorem dL_law_381 : decode cL_law 381 = .ok (.aload_n 2, 1) := by decide +kernel
theorem dL_law_382 : decode cL_law 382 = .ok (.invokevirtual 42, 3) := by decide +kernel
theorem dL_law_385 : decode cL_law 385 = .ok (.if_icmp .eq 751, 3) := by decide +kernel
theorem dL_law_388 : decode cL_law 388 = .ok (.iconst 0, 1) := by decide +kernel
theorem dL_law_389 : decode cL_law 389 = .ok (.ireturn, 1) := by decide +kernel
theorem dL_law_390 : decode cL_law 390 = .ok (.aload_n 1, 1) := by decide +kernel
theorem dL_law_391 : decode cL_law 391 = .ok (.aload_n 0, 1) := by decide +kernel
theorem dL_law_392 : decode cL_law 392 = .ok (.iload_n 3, 1) := by decide +kernel
theorem dL_law_393 : decode cL_law 393 = .ok (.iconst 1, 1) := by decide +kernel
theorem dL_law_394 : decode cL_law 394 = .ok (.iadd, 1) := by decide +kernel
theorem dL_law_395 : decode cL_law 395 = .ok (.iaload, 1) := by decide +kernel
theorem dL_law_396 : decode cL_law 396 = .ok (.aload_n 0, 1) := by decide +kernel
theorem dL_law_397 : decode cL_law 397 = .ok (.iload_n 3, 1) := by decide +kernel
theorem dL_law_398 : decode cL_law 398 = .ok (.iconst 2, 1) := by decide +kernel
theorem dL_law_399 : decode cL_law 399 = .ok (.iadd, 1) := by decide +kernel
theorem dL_law_400 : decode cL_law 400 = .ok (.iaload, 1) := by decide +kernel
theorem dL_law_401 : decode cL_law 401 = .ok (.aload_n 0, 1) := by decide +kernel
theorem dL_law_402 : decode cL_law 402 = .ok (.iload_n 3, 1) := by decide +kernel
theorem dL_law_403 : decode cL_law 403 = .ok (.iconst 3, 1) := by decide +kernel
theorem dL_law_404 : decode cL_law 404 = .ok (.iadd, 1) := by decide +kernel
theorem dL_law_405 : decode cL_law 405 = .ok (.iaload, 1) := by decide +kernel
theorem dL_law_406 : decode cL_law 406 = .ok (.invokevirtual 43, 3) := by decide +kernel
theorem dL_law_409 : decode cL_law 409 = .ok (.aload_n 2, 1) := by decide +kernel
theorem dL_law_410 : decode cL_law 410 = .ok (.aload_n 0, 1) := by decide +kernel
theorem dL_law_411 : decode cL_law 411 = .ok (.iload_n 3, 1) := by decide +kernel
theorem dL_law_412 : decode cL_law 412 = .ok (.iconst 1, 1) := by decide +kernel
theorem dL_law_413 : decode cL_law 413 = .ok (.iadd, 1) := by decide +kernel
theorem dL_law_414 : decode cL_law 414 = .ok (.iaload, 1) := by decide +kernel
theorem dL_law_415 : decode cL_law 415 = .ok (.aload_n 0, 1) := by decide +kernel
theorem dL_law_416 : decode cL_law 416 = .ok (.iload_n 3, 1) := by decide +kernel
theorem dL_law_417 : decode cL_law 417 = .ok (.iconst 2, 1) := by decide +kernel
theorem dL_law_418 : decode cL_law 418 = .ok (.iadd, 1) := by decide +kernel
theorem dL_law_419 : decode cL_law 419 = .ok (.iaload, 1) := by decide +kernel
theorem dL_law_420 : decode cL_law 420 = .ok (.aload_n 0, 1) := by decide +kernel
theorem dL_law_421 : decode cL_law 421 = .ok (.iload_n 3, 1) := by decide +kernel
theorem dL_law_422 : decode cL_law 422 = .ok (.iconst 3, 1) := by decide +kernel
theorem dL_law_423 : decode cL_law 423 = .ok (.iadd, 1) := by decide +kernel
theorem dL_law_424 : decode cL_law 424 = .ok (.iaload, 1) := by decide +kernel
theorem dL_law_425 : decode cL_law 425 = .ok (.invokevirtual 47, 3) := by decide +kernel
theorem dL_law_428 : decode cL_law 428 = .ok (.if_icmp .eq 708, 3) := by decide +kernel
theorem dL_law_431 : decode cL_law 431 = .ok (.iconst 0, 1) := by decide +kernel
theorem dL_law_432 : decode cL_law 432 = .ok (.ireturn, 1) := by decide +kernel
theorem dL_law_433 : decode cL_law 433 = .ok (.aload_n 1, 1) := by decide +kernel
theorem dL_law_434 : decode cL_law 434 = .ok (.aload_n 0, 1) := by decide +kernel
theorem dL_law_435 : decode cL_law 435 = .ok (.iload_n 3, 1) := by decide +kernel
theorem dL_law_436 : decode cL_law 436 = .ok (.iconst 1, 1) := by decide +kernel
theorem dL_law_437 : decode cL_law 437 = .ok (.iadd, 1) := by decide +kernel
theorem dL_law_438 : decode cL_law 438 = .ok (.iaload, 1) := by decide +kernel
theorem dL_law_439 : decode cL_law 439 = .ok (.aload_n 0, 1) := by decide +kernel
theorem dL_law_440 : decode cL_law 440 = .ok (.iload_n 3, 1) := by decide +kernel
theorem dL_law_441 : decode cL_law 441 = .ok (.iconst 2, 1) := by decide +kernel
theorem dL_law_442 : decode cL_law 442 = .ok (.iadd, 1) := by decide +kernel
theorem dL_law_443 : decode cL_law 443 = .ok (.iaload, 1) := by decide +kernel
theorem dL_law_444 : decode cL_law 444 = .ok (.aload_n 0, 1) := by decide +kernel
theorem dL_law_445 : decode cL_law 445 = .ok (.iload_n 3, 1) := by decide +kernel
theorem dL_law_446 : decode cL_law 446 = .ok (.iconst 3, 1) := by decide +kernel
theorem dL_law_447 : decode cL_law 447 = .ok (.iadd, 1) := by decide +kernel
theorem dL_law_448 : decode cL_law 448 = .ok (.iaload, 1) := by decide +kernel
theorem dL_law_449 : decode cL_law 449 = .ok (.invokevirtual 48, 3) := by decide +kernel
theorem dL_law_452 : decode cL_law 452 = .ok (.aload_n 2, 1) := by decide +kernel
theorem dL_law_453 : decode cL_law 453 = .ok (.aload_n 0, 1) := by decide +kernel
theorem dL_law_454 : decode cL_law 454 = .ok (.iload_n 3, 1) := by decide +kernel
theorem dL_law_455 : decode cL_law 455 = .ok (.iconst 1, 1) := by decide +kernel
theorem dL_law_456 : decode cL_law 456 = .ok (.iadd, 1) := by decide +kernel
theorem dL_law_457 : decode cL_law 457 = .ok (.iaload, 1) := by decide +kernel
theorem dL_law_458 : decode cL_law 458 = .ok (.aload_n 0, 1) := by decide +kernel
theorem dL_law_459 : decode cL_law 459 = .ok (.iload_n 3, 1) := by decide +kernel
theorem dL_law_460 : decode cL_law 460 = .ok (.iconst 2, 1) := by decide +kernel
theorem dL_law_461 : decode cL_law 461 = .ok (.iadd, 1) := by decide +kernel
theorem dL_law_462 : decode cL_law 462 = .ok (.iaload, 1) := by decide +kernel
theorem dL_law_463 : decode cL_law 463 = .ok (.aload_n 0, 1) := by decide +kernel
theorem dL_law_464 : decode cL_law 464 = .ok (.iload_n 3, 1) := by decide +kernel
theorem dL_law_465 : decode cL_law 465 = .ok (.iconst 3, 1) := by decide +kernel
theorem dL_law_466 : decode cL_law 466 = .ok (.iadd, 1) := by decide +kernel
theorem dL_law_467 : decode cL_law 467 = .ok (.iaload, 1) := by decide +kernel
theorem dL_law_468 : decode cL_law 468 = .ok (.invokevirtual 51, 3) := by decide +kernel
theorem dL_law_471 : decode cL_law 471 = .ok (.if_icmp .eq 665, 3) := by decide +kernel
theorem dL_law_474 : decode cL_law 474 = .ok (.iconst 0, 1) := by decide +kernel
theorem dL_law_475 : decode cL_law 475 = .ok (.ireturn, 1) := by decide +kernel
theorem dL_law_476 : decode cL_law 476 = .ok (.aload_n 1, 1) := by decide +kernel
theorem dL_law_477 : decode cL_law 477 = .ok (.aload_n 0, 1) := by decide +kernel
theorem dL_law_478 : decode cL_law 478 = .ok (.iload_n 3, 1) := by decide +kernel
theorem dL_law_479 : decode cL_law 479 = .ok (.iconst 1, 1) := by decide +kernel
theorem dL_law_480 : decode cL_law 480 = .ok (.iadd, 1) := by decide +kernel
theorem dL_law_481 : decode cL_law 481 = .ok (.iaload, 1) := by decide +kernel
theorem dL_law_482 : decode cL_law 482 = .ok (.aload_n 0, 1) := by decide +kernel
theorem dL_law_483 : decode cL_law 483 = .ok (.iload_n 3, 1) := by decide +kernel
theorem dL_law_484 : decode cL_law 484 = .ok (.iconst 2, 1) := by decide +kernel
theorem dL_law_485 : decode cL_law 485 = .ok (.iadd, 1) := by decide +kernel
theorem dL_law_486 : decode cL_law 486 = .ok (.iaload, 1) := by decide +kernel
theorem dL_law_487 : decode cL_law 487 = .ok (.aload_n 0, 1) := by decide +kernel
theorem dL_law_488 : decode cL_law 488 = .ok (.iload_n 3, 1) := by decide +kernel
theorem dL_law_489 : decode cL_law 489 = .ok (.iconst 3, 1) := by decide +kernel
theorem dL_law_490 : decode cL_law 490 = .ok (.iadd, 1) := by decide +kernel
theorem dL_law_491 : decode cL_law 491 = .ok (.iaload, 1) := by decide +kernel
theorem dL_law_492 : decode cL_law 492 = .ok (.invokevirtual 52, 3) := by decide +kernel
theorem dL_law_495 : decode cL_law 495 = .ok (.aload_n 2, 1) := by decide +kernel
theorem dL_law_496 : decode cL_law 496 = .ok (.aload_n 0, 1) := by decide +kernel
theorem dL_law_497 : decode cL_law 497 = .ok (.iload_n 3, 1) := by decide +kernel
theorem dL_law_498 : decode cL_law 498 = .ok (.iconst 1, 1) := by decide +kernel
theorem dL_law_499 : decode cL_law 499 = .ok (.iadd, 1) := by decide +kernel
theorem dL_law_500 : decode cL_law 500 = .ok (.iaload, 1) := by decide +kernel
theorem dL_law_501 : decode cL_law 501 = .ok (.aload_n 0, 1) := by decide +kernel
theorem dL_law_502 : decode cL_law 502 = .ok (.iload_n 3, 1) := by decide +kernel
theorem dL_law_503 : decode cL_law 503 = .ok (.iconst 2, 1) := by decide +kernel
theorem dL_law_504 : decode cL_law 504 = .ok (.iadd, 1) := by decide +kernel
theorem dL_law_505 : decode cL_law 505 = .ok (.iaload, 1) := by decide +kernel
theorem dL_law_506 : decode cL_law 506 = .ok (.aload_n 0, 1) := by decide +kernel
theorem dL_law_507 : decode cL_law 507 = .ok (.iload_n 3, 1) := by decide +kernel
theorem dL_law_508 : decode cL_law 508 = .ok (.iconst 3, 1) := by decide +kernel
theorem dL_law_509 : decode cL_law 509 = .ok (.iadd, 1) := by decide +kernel
theorem dL_law_510 : decode cL_law 510 = .ok (.iaload, 1) := by decide +kernel
theorem dL_law_511 : decode cL_law 511 = .ok (.invokevirtual 56, 3) := by decide +kernel
theorem dL_law_514 : decode cL_law 514 = .ok (.if_icmp .eq 622, 3) := by decide +kernel
theorem dL_law_517 : decode cL_law 517 = .ok (.iconst 0, 1) := by decide +kernel
theorem dL_law_518 : decode cL_law 518 = .ok (.ireturn, 1) := by decide +kernel
theorem dL_law_519 : decode cL_law 519 = .ok (.aload_n 1, 1) := by decide +kernel
theorem dL_law_520 : decode cL_law 520 = .ok (.aload_n 0, 1) := by decide +kernel
theorem dL_law_521 : decode cL_law 521 = .ok (.iload_n 3, 1) := by decide +kernel
theorem dL_law_522 : decode cL_law 522 = .ok (.iconst 1, 1) := by decide +kernel
theorem dL_law_523 : decode cL_law 523 = .ok (.iadd, 1) := by decide +kernel
theorem dL_law_524 : decode cL_law 524 = .ok (.iaload, 1) := by decide +kernel
theorem dL_law_525 : decode cL_law 525 = .ok (.aload_n 0, 1) := by decide +kernel
theorem dL_law_526 : decode cL_law 526 = .ok (.iload_n 3, 1) := by decide +kernel
theorem dL_law_527 : decode cL_law 527 = .ok (.iconst 2, 1) := by decide +kernel
theorem dL_law_528 : decode cL_law 528 = .ok (.iadd, 1) := by decide +kernel
theorem dL_law_529 : decode cL_law 529 = .ok (.iaload, 1) := by decide +kernel
theorem dL_law_530 : decode cL_law 530 = .ok (.aload_n 0, 1) := by decide +kernel
theorem dL_law_531 : decode cL_law 531 = .ok (.iload_n 3, 1) := by decide +kernel
theorem dL_law_532 : decode cL_law 532 = .ok (.iconst 3, 1) := by decide +kernel
theorem dL_law_533 : decode cL_law 533 = .ok (.iadd, 1) := by decide +kernel
theorem dL_law_534 : decode cL_law 534 = .ok (.iaload, 1) := by decide +kernel
theorem dL_law_535 : decode cL_law 535 = .ok (.invokevirtual 57, 3) := by decide +kernel
theorem dL_law_538 : decode cL_law 538 = .ok (.aload_n 2, 1) := by decide +kernel
theorem dL_law_539 : decode cL_law 539 = .ok (.aload_n 0, 1) := by decide +kernel
theorem dL_law_540 : decode cL_law 540 = .ok (.iload_n 3, 1) := by decide +kernel
theorem dL_law_541 : decode cL_law 541 = .ok (.iconst 1, 1) := by decide +kernel
theorem dL_law_542 : decode cL_law 542 = .ok (.iadd, 1) := by decide +kernel
theorem dL_law_543 : decode cL_law 543 = .ok (.iaload, 1) := by decide +kernel
theorem dL_law_544 : decode cL_law 544 = .ok (.aload_n 0, 1) := by decide +kernel
theorem dL_law_545 : decode cL_law 545 = .ok (.iload_n 3, 1) := by decide +kernel
theorem dL_law_546 : decode cL_law 546 = .ok (.iconst 2, 1) := by decide +kernel
theorem dL_law_547 : decode cL_law 547 = .ok (.iadd, 1) := by decide +kernel
theorem dL_law_548 : decode cL_law 548 = .ok (.iaload, 1) := by decide +kernel
theorem dL_law_549 : decode cL_law 549 = .ok (.aload_n 0, 1) := by decide +kernel
theorem dL_law_550 : decode cL_law 550 = .ok (.iload_n 3, 1) := by decide +kernel
theorem dL_law_551 : decode cL_law 551 = .ok (.iconst 3, 1) := by decide +kernel
theorem dL_law_552 : decode cL_law 552 = .ok (.iadd, 1) := by decide +kernel
theorem dL_law_553 : decode cL_law 553 = .ok (.iaload, 1) := by decide +kernel
theorem dL_law_554 : decode cL_law 554 = .ok (.invokevirtual 60, 3) := by decide +kernel
theorem dL_law_557 : decode cL_law 557 = .ok (.if_icmp .eq 579, 3) := by decide +kernel
theorem dL_law_560 : decode cL_law 560 = .ok (.iconst 0, 1) := by decide +kernel
theorem dL_law_561 : decode cL_law 561 = .ok (.ireturn, 1) := by decide +kernel
theorem dL_law_562 : decode cL_law 562 = .ok (.aload_n 1, 1) := by decide +kernel
theorem dL_law_563 : decode cL_law 563 = .ok (.aload_n 0, 1) := by decide +kernel
theorem dL_law_564 : decode cL_law 564 = .ok (.iload_n 3, 1) := by decide +kernel
theorem dL_law_565 : decode cL_law 565 = .ok (.iconst 1, 1) := by decide +kernel
theorem dL_law_566 : decode cL_law 566 = .ok (.iadd, 1) := by decide +kernel
theorem dL_law_567 : decode cL_law 567 = .ok (.iaload, 1) := by decide +kernel
theorem dL_law_568 : decode cL_law 568 = .ok (.aload_n 0, 1) := by decide +kernel
theorem dL_law_569 : decode cL_law 569 = .ok (.iload_n 3, 1) := by decide +kernel
theorem dL_law_570 : decode cL_law 570 = .ok (.iconst 2, 1) := by decide +kernel
theorem dL_law_571 : decode cL_law 571 = .ok (.iadd, 1) := by decide +kernel
theorem dL_law_572 : decode cL_law 572 = .ok (.iaload, 1) := by decide +kernel
theorem dL_law_573 : decode cL_law 573 = .ok (.invokevirtual 61, 3) := by decide +kernel
theorem dL_law_576 : decode cL_law 576 = .ok (.aload_n 2, 1) := by decide +kernel
theorem dL_law_577 : decode cL_law 577 = .ok (.aload_n 0, 1) := by decide +kernel
theorem dL_law_578 : decode cL_law 578 = .ok (.iload_n 3, 1) := by decide +kernel
theorem dL_law_579 : decode cL_law 579 = .ok (.iconst 1, 1) := by decide +kernel
theorem dL_law_580 : decode cL_law 580 = .ok (.iadd, 1) := by decide +kernel
theorem dL_law_581 : decode cL_law 581 = .ok (.iaload, 1) := by decide +kernel
theorem dL_law_582 : decode cL_law 582 = .ok (.aload_n 0, 1) := by decide +kernel
theorem dL_law_583 : decode cL_law 583 = .ok (.iload_n 3, 1) := by decide +kernel
theorem dL_law_584 : decode cL_law 584 = .ok (.iconst 2, 1) := by decide +kernel
theorem dL_law_585 : decode cL_law 585 = .ok (.iadd, 1) := by decide +kernel
theorem dL_law_586 : decode cL_law 586 = .ok (.iaload, 1) := by decide +kernel
theorem dL_law_587 : decode cL_law 587 = .ok (.invokevirtual 64, 3) := by decide +kernel
theorem dL_law_590 : decode cL_law 590 = .ok (.if_icmp .eq 546, 3) := by decide +kernel
theorem dL_law_593 : decode cL_law 593 = .ok (.iconst 0, 1) := by decide +kernel
theorem dL_law_594 : decode cL_law 594 = .ok (.ireturn, 1) := by decide +kernel
theorem dL_law_595 : decode cL_law 595 = .ok (.aload_n 1, 1) := by decide +kernel
theorem dL_law_596 : decode cL_law 596 = .ok (.aload_n 0, 1) := by decide +kernel
theorem dL_law_597 : decode cL_law 597 = .ok (.iload_n 3, 1) := by decide +kernel
theorem dL_law_598 : decode cL_law 598 = .ok (.iconst 1, 1) := by decide +kernel
theorem dL_law_599 : decode cL_law 599 = .ok (.iadd, 1) := by decide +kernel
theorem dL_law_600 : decode cL_law 600 = .ok (.iaload, 1) := by decide +kernel
theorem dL_law_601 : decode cL_law 601 = .ok (.aload_n 0, 1) := by decide +kernel
theorem dL_law_602 : decode cL_law 602 = .ok (.iload_n 3, 1) := by decide +kernel
theorem dL_law_603 : decode cL_law 603 = .ok (.iconst 2, 1) := by decide +kernel
theorem dL_law_604 : decode cL_law 604 = .ok (.iadd, 1) := by decide +kernel
theorem dL_law_605 : decode cL_law 605 = .ok (.iaload, 1) := by decide +kernel
theorem dL_law_606 : decode cL_law 606 = .ok (.aload_n 0, 1) := by decide +kernel
theorem dL_law_607 : decode cL_law 607 = .ok (.iload_n 3, 1) := by decide +kernel
theorem dL_law_608 : decode cL_law 608 = .ok (.iconst 3, 1) := by decide +kernel
theorem dL_law_609 : decode cL_law 609 = .ok (.iadd, 1) := by decide +kernel
theorem dL_law_610 : decode cL_law 610 = .ok (.iaload, 1) := by decide +kernel
theorem dL_law_611 : decode cL_law 611 = .ok (.invokevirtual 65, 3) := by decide +kernel
theorem dL_law_614 : decode cL_law 614 = .ok (.aload_n 2, 1) := by decide +kernel
theorem dL_law_615 : decode cL_law 615 = .ok (.aload_n 0, 1) := by decide +kernel
theorem dL_law_616 : decode cL_law 616 = .ok (.iload_n 3, 1) := by decide +kernel
theorem dL_law_617 : decode cL_law 617 = .ok (.iconst 1, 1) := by decide +kernel
theorem dL_law_618 : decode cL_law 618 = .ok (.iadd, 1) := by decide +kernel
theorem dL_law_619 : decode cL_law 619 = .ok (.iaload, 1) := by decide +kernel
theorem dL_law_620 : decode cL_law 620 = .ok (.aload_n 0, 1) := by decide +kernel
theorem dL_law_621 : decode cL_law 621 = .ok (.iload_n 3, 1) := by decide +kernel
theorem dL_law_622 : decode cL_law 622 = .ok (.iconst 2, 1) := by decide +kernel
theorem dL_law_623 : decode cL_law 623 = .ok (.iadd, 1) := by decide +kernel
theorem dL_law_624 : decode cL_law 624 = .ok (.iaload, 1) := by decide +kernel
theorem dL_law_625 : decode cL_law 625 = .ok (.aload_n 0, 1) := by decide +kernel
theorem dL_law_626 : decode cL_law 626 = .ok (.iload_n 3, 1) := by decide +kernel
theorem dL_law_627 : decode cL_law 627 = .ok (.iconst 3, 1) := by decide +kernel
theorem dL_law_628 : decode cL_law 628 = .ok (.iadd, 1) := by decide +kernel
theorem dL_law_629 : decode cL_law 629 = .ok (.iaload, 1) := by decide +kernel
theorem dL_law_630 : decode cL_law 630 = .ok (.invokevirtual 68, 3) := by decide +kernel
theorem dL_law_633 : decode cL_law 633 = .ok (.if_icmp .eq 503, 3) := by decide +kernel
theorem dL_law_636 : decode cL_law 636 = .ok (.iconst 0, 1) := by decide +kernel
theorem dL_law_637 : decode cL_law 637 = .ok (.ireturn, 1) := by decide +kernel
theorem dL_law_638 : decode cL_law 638 = .ok (.aload_n 1, 1) := by decide +kernel
theorem dL_law_639 : decode cL_law 639 = .ok (.invokevirtual 69, 3) := by decide +kernel
theorem dL_law_642 : decode cL_law 642 = .ok (.aload_n 2, 1) := by decide +kernel
theorem dL_law_643 : decode cL_law 643 = .ok (.invokevirtual 72, 3) := by decide +kernel
theorem dL_law_646 : decode cL_law 646 = .ok (.if_icmp .eq 490, 3) := by decide +kernel
theorem dL_law_649 : decode cL_law 649 = .ok (.iconst 0, 1) := by decide +kernel
theorem dL_law_650 : decode cL_law 650 = .ok (.ireturn, 1) := by decide +kernel
theorem dL_law_651 : decode cL_law 651 = .ok (.aload_n 1, 1) := by decide +kernel
theorem dL_law_652 : decode cL_law 652 = .ok (.aload_n 0, 1) := by decide +kernel
theorem dL_law_653 : decode cL_law 653 = .ok (.iload_n 3, 1) := by decide +kernel
theorem dL_law_654 : decode cL_law 654 = .ok (.iconst 1, 1) := by decide +kernel
theorem dL_law_655 : decode cL_law 655 = .ok (.iadd, 1) := by decide +kernel
theorem dL_law_656 : decode cL_law 656 = .ok (.iaload, 1) := by decide +kernel
theorem dL_law_657 : decode cL_law 657 = .ok (.aload_n 0, 1) := by decide +kernel
theorem dL_law_658 : decode cL_law 658 = .ok (.iload_n 3, 1) := by decide +kernel
theorem dL_law_659 : decode cL_law 659 = .ok (.iconst 2, 1) := by decide +kernel
theorem dL_law_660 : decode cL_law 660 = .ok (.iadd, 1) := by decide +kernel
theorem dL_law_661 : decode cL_law 661 = .ok (.iaload, 1) := by decide +kernel
theorem dL_law_662 : decode cL_law 662 = .ok (.invokevirtual 73, 3) := by decide +kernel
theorem dL_law_665 : decode cL_law 665 = .ok (.aload_n 2, 1) := by decide +kernel
theorem dL_law_666 : decode cL_law 666 = .ok (.aload_n 0, 1) := by decide +kernel
theorem dL_law_667 : decode cL_law 667 = .ok (.iload_n 3, 1) := by decide +kernel
theorem dL_law_668 : decode cL_law 668 = .ok (.iconst 1, 1) := by decide +kernel
theorem dL_law_669 : decode cL_law 669 = .ok (.iadd, 1) := by decide +kernel
theorem dL_law_670 : decode cL_law 670 = .ok (.iaload, 1) := by decide +kernel
theorem dL_law_671 : decode cL_law 671 = .ok (.aload_n 0, 1) := by decide +kernel
theorem dL_law_672 : decode cL_law 672 = .ok (.iload_n 3, 1) := by decide +kernel
theorem dL_law_673 : decode cL_law 673 = .ok (.iconst 2, 1) := by decide +kernel
theorem dL_law_674 : decode cL_law 674 = .ok (.iadd, 1) := by decide +kernel
theorem dL_law_675 : decode cL_law 675 = .ok (.iaload, 1) := by decide +kernel
theorem dL_law_676 : decode cL_law 676 = .ok (.invokevirtual 77, 3) := by decide +kernel
theorem dL_law_679 : decode cL_law 679 = .ok (.if_icmp .eq 457, 3) := by decide +kernel
theorem dL_law_682 : decode cL_law 682 = .ok (.iconst 0, 1) := by decide +kernel
theorem dL_law_683 : decode cL_law 683 = .ok (.ireturn, 1) := by decide +kernel
theorem dL_law_684 : decode cL_law 684 = .ok (.aload_n 1, 1) := by decide +kernel
theorem dL_law_685 : decode cL_law 685 = .ok (.aload_n 0, 1) := by decide +kernel
theorem dL_law_686 : decode cL_law 686 = .ok (.iload_n 3, 1) := by decide +kernel
theorem dL_law_687 : decode cL_law 687 = .ok (.iconst 1, 1) := by decide +kernel
theorem dL_law_688 : decode cL_law 688 = .ok (.iadd, 1) := by decide +kernel
theorem dL_law_689 : decode cL_law 689 = .ok (.iaload, 1) := by decide +kernel
theorem dL_law_690 : decode cL_law 690 = .ok (.i2l, 1) := by decide +kernel
theorem dL_law_691 : decode cL_law 691 = .ok (.bipush 32, 2) := by decide +kernel
theorem dL_law_693 : decode cL_law 693 = .ok (.lshl, 1) := by decide +kernel
theorem dL_law_694 : decode cL_law 694 = .ok (.aload_n 0, 1) := by decide +kernel
theorem dL_law_695 : decode cL_law 695 = .ok (.iload_n 3, 1) := by decide +kernel
theorem dL_law_696 : decode cL_law 696 = .ok (.iconst 2, 1) := by decide +kernel
theorem dL_law_697 : decode cL_law 697 = .ok (.iadd, 1) := by decide +kernel
theorem dL_law_698 : decode cL_law 698 = .ok (.iaload, 1) := by decide +kernel
theorem dL_law_699 : decode cL_law 699 = .ok (.i2l, 1) := by decide +kernel
theorem dL_law_700 : decode cL_law 700 = .ok (.ldc2_w 78, 3) := by decide +kernel
theorem dL_law_703 : decode cL_law 703 = .ok (.land, 1) := by decide +kernel
theorem dL_law_704 : decode cL_law 704 = .ok (.lor, 1) := by decide +kernel
theorem dL_law_705 : decode cL_law 705 = .ok (.invokevirtual 80, 3) := by decide +kernel
theorem dL_law_708 : decode cL_law 708 = .ok (.aload_n 2, 1) := by decide +kernel
theorem dL_law_709 : decode cL_law 709 = .ok (.aload_n 0, 1) := by decide +kernel
theorem dL_law_710 : decode cL_law 710 = .ok (.iload_n 3, 1) := by decide +kernel
theorem dL_law_711 : decode cL_law 711 = .ok (.iconst 1, 1) := by decide +kernel
theorem dL_law_712 : decode cL_law 712 = .ok (.iadd, 1) := by decide +kernel
theorem dL_law_713 : decode cL_law 713 = .ok (.iaload, 1) := by decide +kernel
theorem dL_law_714 : decode cL_law 714 = .ok (.i2l, 1) := by decide +kernel
theorem dL_law_715 : decode cL_law 715 = .ok (.bipush 32, 2) := by decide +kernel
theorem dL_law_717 : decode cL_law 717 = .ok (.lshl, 1) := by decide +kernel
theorem dL_law_718 : decode cL_law 718 = .ok (.aload_n 0, 1) := by decide +kernel
theorem dL_law_719 : decode cL_law 719 = .ok (.iload_n 3, 1) := by decide +kernel
theorem dL_law_720 : decode cL_law 720 = .ok (.iconst 2, 1) := by decide +kernel
theorem dL_law_721 : decode cL_law 721 = .ok (.iadd, 1) := by decide +kernel
theorem dL_law_722 : decode cL_law 722 = .ok (.iaload, 1) := by decide +kernel
theorem dL_law_723 : decode cL_law 723 = .ok (.i2l, 1) := by decide +kernel
theorem dL_law_724 : decode cL_law 724 = .ok (.ldc2_w 78, 3) := by decide +kernel
theorem dL_law_727 : decode cL_law 727 = .ok (.land, 1) := by decide +kernel
theorem dL_law_728 : decode cL_law 728 = .ok (.lor, 1) := by decide +kernel
theorem dL_law_729 : decode cL_law 729 = .ok (.invokevirtual 84, 3) := by decide +kernel
theorem dL_law_732 : decode cL_law 732 = .ok (.goto 404, 3) := by decide +kernel
theorem dL_law_735 : decode cL_law 735 = .ok (.aload_n 1, 1) := by decide +kernel
theorem dL_law_736 : decode cL_law 736 = .ok (.aload_n 0, 1) := by decide +kernel
theorem dL_law_737 : decode cL_law 737 = .ok (.iload_n 3, 1) := by decide +kernel
theorem dL_law_738 : decode cL_law 738 = .ok (.iconst 1, 1) := by decide +kernel
theorem dL_law_739 : decode cL_law 739 = .ok (.iadd, 1) := by decide +kernel
theorem dL_law_740 : decode cL_law 740 = .ok (.iaload, 1) := by decide +kernel
theorem dL_law_741 : decode cL_law 741 = .ok (.invokevirtual 85, 3) := by decide +kernel
theorem dL_law_744 : decode cL_law 744 = .ok (.aload_n 2, 1) := by decide +kernel
theorem dL_law_745 : decode cL_law 745 = .ok (.aload_n 0, 1) := by decide +kernel
theorem dL_law_746 : decode cL_law 746 = .ok (.iload_n 3, 1) := by decide +kernel
theorem dL_law_747 : decode cL_law 747 = .ok (.iconst 1, 1) := by decide +kernel
theorem dL_law_748 : decode cL_law 748 = .ok (.iadd, 1) := by decide +kernel
theorem dL_law_749 : decode cL_law 749 = .ok (.iaload, 1) := by decide +kernel
theorem dL_law_750 : decode cL_law 750 = .ok (.invokevirtual 88, 3) := by decide +kernel
theorem dL_law_753 : decode cL_law 753 = .ok (.if_icmp .eq 383, 3) := by decide +kernel
theorem dL_law_756 : decode cL_law 756 = .ok (.iconst 0, 1) := by decide +kernel
theorem dL_law_757 : decode cL_law 757 = .ok (.ireturn, 1) := by decide +kernel
theorem dL_law_758 : decode cL_law 758 = .ok (.aload_n 1, 1) := by decide +kernel
theorem dL_law_759 : decode cL_law 759 = .ok (.aload_n 0, 1) := by decide +kernel
theorem dL_law_760 : decode cL_law 760 = .ok (.iload_n 3, 1) := by decide +kernel
theorem dL_law_761 : decode cL_law 761 = .ok (.iconst 1, 1) := by decide +kernel
theorem dL_law_762 : decode cL_law 762 = .ok (.iadd, 1) := by decide +kernel
theorem dL_law_763 : decode cL_law 763 = .ok (.iaload, 1) := by decide +kernel
theorem dL_law_764 : decode cL_law 764 = .ok (.aload_n 0, 1) := by decide +kernel
theorem dL_law_765 : decode cL_law 765 = .ok (.iload_n 3, 1) := by decide +kernel
theorem dL_law_766 : decode cL_law 766 = .ok (.iconst 2, 1) := by decide +kernel
theorem dL_law_767 : decode cL_law 767 = .ok (.iadd, 1) := by decide +kernel
theorem dL_law_768 : decode cL_law 768 = .ok (.iaload, 1) := by decide +kernel
theorem dL_law_769 : decode cL_law 769 = .ok (.invokevirtual 89, 3) := by decide +kernel
theorem dL_law_772 : decode cL_law 772 = .ok (.aload_n 2, 1) := by decide +kernel
theorem dL_law_773 : decode cL_law 773 = .ok (.aload_n 0, 1) := by decide +kernel
theorem dL_law_774 : decode cL_law 774 = .ok (.iload_n 3, 1) := by decide +kernel
theorem dL_law_775 : decode cL_law 775 = .ok (.iconst 1, 1) := by decide +kernel
theorem dL_law_776 : decode cL_law 776 = .ok (.iadd, 1) := by decide +kernel
theorem dL_law_777 : decode cL_law 777 = .ok (.iaload, 1) := by decide +kernel
theorem dL_law_778 : decode cL_law 778 = .ok (.aload_n 0, 1) := by decide +kernel
theorem dL_law_779 : decode cL_law 779 = .ok (.iload_n 3, 1) := by decide +kernel
theorem dL_law_780 : decode cL_law 780 = .ok (.iconst 2, 1) := by decide +kernel
theorem dL_law_781 : decode cL_law 781 = .ok (.iadd, 1) := by decide +kernel
theorem dL_law_782 : decode cL_law 782 = .ok (.iaload, 1) := by decide +kernel
theorem dL_law_783 : decode cL_law 783 = .ok (.invokevirtual 92, 3) := by decide +kernel
theorem dL_law_786 : decode cL_law 786 = .ok (.if_icmp .eq 350, 3) := by decide +kernel
theorem dL_law_789 : decode cL_law 789 = .ok (.iconst 0, 1) := by decide +kernel
theorem dL_law_790 : decode cL_law 790 = .ok (.ireturn, 1) := by decide +kernel
theorem dL_law_791 : decode cL_law 791 = .ok (.aload_n 1, 1) := by decide +kernel
theorem dL_law_792 : decode cL_law 792 = .ok (.aload_n 0, 1) := by decide +kernel
theorem dL_law_793 : decode cL_law 793 = .ok (.iload_n 3, 1) := by decide +kernel
theorem dL_law_794 : decode cL_law 794 = .ok (.iconst 1, 1) := by decide +kernel
theorem dL_law_795 : decode cL_law 795 = .ok (.iadd, 1) := by decide +kernel
theorem dL_law_796 : decode cL_law 796 = .ok (.iaload, 1) := by decide +kernel
theorem dL_law_797 : decode cL_law 797 = .ok (.aload_n 0, 1) := by decide +kernel
theorem dL_law_798 : decode cL_law 798 = .ok (.iload_n 3, 1) := by decide +kernel
theorem dL_law_799 : decode cL_law 799 = .ok (.iconst 2, 1) := by decide +kernel
theorem dL_law_800 : decode cL_law 800 = .ok (.iadd, 1) := by decide +kernel
theorem dL_law_801 : decode cL_law 801 = .ok (.iaload, 1) := by decide +kernel
theorem dL_law_802 : decode cL_law 802 = .ok (.aload_n 0, 1) := by decide +kernel
theorem dL_law_803 : decode cL_law 803 = .ok (.iload_n 3, 1) := by decide +kernel
theorem dL_law_804 : decode cL_law 804 = .ok (.iconst 3, 1) := by decide +kernel
theorem dL_law_805 : decode cL_law 805 = .ok (.iadd, 1) := by decide +kernel
theorem dL_law_806 : decode cL_law 806 = .ok (.iaload, 1) := by decide +kernel
theorem dL_law_807 : decode cL_law 807 = .ok (.invokevirtual 93, 3) := by decide +kernel
theorem dL_law_810 : decode cL_law 810 = .ok (.aload_n 2, 1) := by decide +kernel
theorem dL_law_811 : decode cL_law 811 = .ok (.aload_n 0, 1) := by decide +kernel
theorem dL_law_812 : decode cL_law 812 = .ok (.iload_n 3, 1) := by decide +kernel
theorem dL_law_813 : decode cL_law 813 = .ok (.iconst 1, 1) := by decide +kernel
theorem dL_law_814 : decode cL_law 814 = .ok (.iadd, 1) := by decide +kernel
theorem dL_law_815 : decode cL_law 815 = .ok (.iaload, 1) := by decide +kernel
theorem dL_law_816 : decode cL_law 816 = .ok (.aload_n 0, 1) := by decide +kernel
theorem dL_law_817 : decode cL_law 817 = .ok (.iload_n 3, 1) := by decide +kernel
theorem dL_law_818 : decode cL_law 818 = .ok (.iconst 2, 1) := by decide +kernel
theorem dL_law_819 : decode cL_law 819 = .ok (.iadd, 1) := by decide +kernel
theorem dL_law_820 : decode cL_law 820 = .ok (.iaload, 1) := by decide +kernel
theorem dL_law_821 : decode cL_law 821 = .ok (.aload_n 0, 1) := by decide +kernel
theorem dL_law_822 : decode cL_law 822 = .ok (.iload_n 3, 1) := by decide +kernel
theorem dL_law_823 : decode cL_law 823 = .ok (.iconst 3, 1) := by decide +kernel
theorem dL_law_824 : decode cL_law 824 = .ok (.iadd, 1) := by decide +kernel
theorem dL_law_825 : decode cL_law 825 = .ok (.iaload, 1) := by decide +kernel
theorem dL_law_826 : decode cL_law 826 = .ok (.invokevirtual 96, 3) := by decide +kernel
theorem dL_law_829 : decode cL_law 829 = .ok (.if_icmp .eq 307, 3) := by decide +kernel
theorem dL_law_832 : decode cL_law 832 = .ok (.iconst 0, 1) := by decide +kernel
theorem dL_law_833 : decode cL_law 833 = .ok (.ireturn, 1) := by decide +kernel
theorem dL_law_834 : decode cL_law 834 = .ok (.aload_n 1, 1) := by decide +kernel
theorem dL_law_835 : decode cL_law 835 = .ok (.aload_n 0, 1) := by decide +kernel
theorem dL_law_836 : decode cL_law 836 = .ok (.iload_n 3, 1) := by decide +kernel
theorem dL_law_837 : decode cL_law 837 = .ok (.iconst 1, 1) := by decide +kernel
theorem dL_law_838 : decode cL_law 838 = .ok (.iadd, 1) := by decide +kernel
theorem dL_law_839 : decode cL_law 839 = .ok (.iaload, 1) := by decide +kernel
theorem dL_law_840 : decode cL_law 840 = .ok (.invokevirtual 97, 3) := by decide +kernel
theorem dL_law_843 : decode cL_law 843 = .ok (.aload_n 2, 1) := by decide +kernel
theorem dL_law_844 : decode cL_law 844 = .ok (.aload_n 0, 1) := by decide +kernel
theorem dL_law_845 : decode cL_law 845 = .ok (.iload_n 3, 1) := by decide +kernel
theorem dL_law_846 : decode cL_law 846 = .ok (.iconst 1, 1) := by decide +kernel
theorem dL_law_847 : decode cL_law 847 = .ok (.iadd, 1) := by decide +kernel
theorem dL_law_848 : decode cL_law 848 = .ok (.iaload, 1) := by decide +kernel
theorem dL_law_849 : decode cL_law 849 = .ok (.invokevirtual 100, 3) := by decide +kernel
theorem dL_law_852 : decode cL_law 852 = .ok (.if_icmp .eq 284, 3) := by decide +kernel
theorem dL_law_855 : decode cL_law 855 = .ok (.iconst 0, 1) := by decide +kernel
theorem dL_law_856 : decode cL_law 856 = .ok (.ireturn, 1) := by decide +kernel
theorem dL_law_857 : decode cL_law 857 = .ok (.aload_n 1, 1) := by decide +kernel
theorem dL_law_858 : decode cL_law 858 = .ok (.aload_n 0, 1) := by decide +kernel
theorem dL_law_859 : decode cL_law 859 = .ok (.iload_n 3, 1) := by decide +kernel
theorem dL_law_860 : decode cL_law 860 = .ok (.iconst 1, 1) := by decide +kernel
theorem dL_law_861 : decode cL_law 861 = .ok (.iadd, 1) := by decide +kernel
theorem dL_law_862 : decode cL_law 862 = .ok (.iaload, 1) := by decide +kernel
theorem dL_law_863 : decode cL_law 863 = .ok (.invokevirtual 101, 3) := by decide +kernel
theorem dL_law_866 : decode cL_law 866 = .ok (.aload_n 2, 1) := by decide +kernel
theorem dL_law_867 : decode cL_law 867 = .ok (.aload_n 0, 1) := by decide +kernel
theorem dL_law_868 : decode cL_law 868 = .ok (.iload_n 3, 1) := by decide +kernel
theorem dL_law_869 : decode cL_law 869 = .ok (.iconst 1, 1) := by decide +kernel
theorem dL_law_870 : decode cL_law 870 = .ok (.iadd, 1) := by decide +kernel
theorem dL_law_871 : decode cL_law 871 = .ok (.iaload, 1) := by decide +kernel
theorem dL_law_872 : decode cL_law 872 = .ok (.invokevirtual 104, 3) := by decide +kernel
theorem dL_law_875 : decode cL_law 875 = .ok (.if_icmp .eq 261, 3) := by decide +kernel
theorem dL_law_878 : decode cL_law 878 = .ok (.iconst 0, 1) := by decide +kernel
theorem dL_law_879 : decode cL_law 879 = .ok (.ireturn, 1) := by decide +kernel
theorem dL_law_880 : decode cL_law 880 = .ok (.aload_n 1, 1) := by decide +kernel
theorem dL_law_881 : decode cL_law 881 = .ok (.aload_n 0, 1) := by decide +kernel
theorem dL_law_882 : decode cL_law 882 = .ok (.iload_n 3, 1) := by decide +kernel
theorem dL_law_883 : decode cL_law 883 = .ok (.iconst 1, 1) := by decide +kernel
theorem dL_law_884 : decode cL_law 884 = .ok (.iadd, 1) := by decide +kernel
theorem dL_law_885 : decode cL_law 885 = .ok (.iaload, 1) := by decide +kernel
theorem dL_law_886 : decode cL_law 886 = .ok (.aload_n 0, 1) := by decide +kernel
theorem dL_law_887 : decode cL_law 887 = .ok (.iload_n 3, 1) := by decide +kernel
theorem dL_law_888 : decode cL_law 888 = .ok (.iconst 2, 1) := by decide +kernel
theorem dL_law_889 : decode cL_law 889 = .ok (.iadd, 1) := by decide +kernel
theorem dL_law_890 : decode cL_law 890 = .ok (.iaload, 1) := by decide +kernel
theorem dL_law_891 : decode cL_law 891 = .ok (.aload_n 0, 1) := by decide +kernel
theorem dL_law_892 : decode cL_law 892 = .ok (.iload_n 3, 1) := by decide +kernel
theorem dL_law_893 : decode cL_law 893 = .ok (.iconst 3, 1) := by decide +kernel
theorem dL_law_894 : decode cL_law 894 = .ok (.iadd, 1) := by decide +kernel
theorem dL_law_895 : decode cL_law 895 = .ok (.iaload, 1) := by decide +kernel
theorem dL_law_896 : decode cL_law 896 = .ok (.invokevirtual 105, 3) := by decide +kernel
theorem dL_law_899 : decode cL_law 899 = .ok (.aload_n 2, 1) := by decide +kernel
theorem dL_law_900 : decode cL_law 900 = .ok (.aload_n 0, 1) := by decide +kernel
theorem dL_law_901 : decode cL_law 901 = .ok (.iload_n 3, 1) := by decide +kernel
theorem dL_law_902 : decode cL_law 902 = .ok (.iconst 1, 1) := by decide +kernel
theorem dL_law_903 : decode cL_law 903 = .ok (.iadd, 1) := by decide +kernel
theorem dL_law_904 : decode cL_law 904 = .ok (.iaload, 1) := by decide +kernel
theorem dL_law_905 : decode cL_law 905 = .ok (.aload_n 0, 1) := by decide +kernel
theorem dL_law_906 : decode cL_law 906 = .ok (.iload_n 3, 1) := by decide +kernel
theorem dL_law_907 : decode cL_law 907 = .ok (.iconst 2, 1) := by decide +kernel
theorem dL_law_908 : decode cL_law 908 = .ok (.iadd, 1) := by decide +kernel
theorem dL_law_909 : decode cL_law 909 = .ok (.iaload, 1) := by decide +kernel
theorem dL_law_910 : decode cL_law 910 = .ok (.aload_n 0, 1) := by decide +kernel
theorem dL_law_911 : decode cL_law 911 = .ok (.iload_n 3, 1) := by decide +kernel
theorem dL_law_912 : decode cL_law 912 = .ok (.iconst 3, 1) := by decide +kernel
theorem dL_law_913 : decode cL_law 913 = .ok (.iadd, 1) := by decide +kernel
theorem dL_law_914 : decode cL_law 914 = .ok (.iaload, 1) := by decide +kernel
theorem dL_law_915 : decode cL_law 915 = .ok (.invokevirtual 108, 3) := by decide +kernel
theorem dL_law_918 : decode cL_law 918 = .ok (.if_icmp .eq 218, 3) := by decide +kernel
theorem dL_law_921 : decode cL_law 921 = .ok (.iconst 0, 1) := by decide +kernel
theorem dL_law_922 : decode cL_law 922 = .ok (.ireturn, 1) := by decide +kernel
theorem dL_law_923 : decode cL_law 923 = .ok (.aload_n 1, 1) := by decide +kernel
theorem dL_law_924 : decode cL_law 924 = .ok (.invokevirtual 109, 3) := by decide +kernel
theorem dL_law_927 : decode cL_law 927 = .ok (.aload_n 2, 1) := by decide +kernel
theorem dL_law_928 : decode cL_law 928 = .ok (.invokevirtual 112, 3) := by decide +kernel
theorem dL_law_931 : decode cL_law 931 = .ok (.if_icmp .eq 205, 3) := by decide +kernel
theorem dL_law_934 : decode cL_law 934 = .ok (.iconst 0, 1) := by decide +kernel
theorem dL_law_935 : decode cL_law 935 = .ok (.ireturn, 1) := by decide +kernel
theorem dL_law_936 : decode cL_law 936 = .ok (.aload_n 1, 1) := by decide +kernel
theorem dL_law_937 : decode cL_law 937 = .ok (.aload_n 0, 1) := by decide +kernel
theorem dL_law_938 : decode cL_law 938 = .ok (.iload_n 3, 1) := by decide +kernel
theorem dL_law_939 : decode cL_law 939 = .ok (.iconst 1, 1) := by decide +kernel
