theorem dX3_addOnce_44 : decode cX3_addOnce 44 = .ok (.ireturn, 1) := by decide +kernel
theorem dX3_addOnce_45 : decode cX3_addOnce 45 = .ok (.aload_n 0, 1) := by decide +kernel
theorem dX3_addOnce_46 : decode cX3_addOnce 46 = .ok (.getfield 19, 3) := by decide +kernel
theorem dX3_addOnce_49 : decode cX3_addOnce 49 = .ok (.sipush 300, 3) := by decide +kernel
theorem dX3_addOnce_52 : decode cX3_addOnce 52 = .ok (.if_icmp .lt 5, 3) := by decide +kernel
theorem dX3_addOnce_55 : decode cX3_addOnce 55 = .ok (.iconst 0, 1) := by decide +kernel
theorem dX3_addOnce_56 : decode cX3_addOnce 56 = .ok (.ireturn, 1) := by decide +kernel
theorem dX3_addOnce_57 : decode cX3_addOnce 57 = .ok (.aload_n 0, 1) := by decide +kernel
theorem dX3_addOnce_58 : decode cX3_addOnce 58 = .ok (.getfield 19, 3) := by decide +kernel
theorem dX3_addOnce_61 : decode cX3_addOnce 61 = .ok (.istore 7, 2) := by decide +kernel
theorem dX3_addOnce_63 : decode cX3_addOnce 63 = .ok (.aload_n 0, 1) := by decide +kernel
theorem dX3_addOnce_64 : decode cX3_addOnce 64 = .ok (.dup, 1) := by decide +kernel
theorem dX3_addOnce_65 : decode cX3_addOnce 65 = .ok (.getfield 19, 3) := by decide +kernel
theorem dX3_addOnce_68 : decode cX3_addOnce 68 = .ok (.iconst 1, 1) := by decide +kernel
theorem dX3_addOnce_69 : decode cX3_addOnce 69 = .ok (.iadd, 1) := by decide +kernel
theorem dX3_addOnce_70 : decode cX3_addOnce 70 = .ok (.putfield 19, 3) := by decide +kernel
theorem dX3_addOnce_73 : decode cX3_addOnce 73 = .ok (.aload_n 0, 1) := by decide +kernel
theorem dX3_addOnce_74 : decode cX3_addOnce 74 = .ok (.getfield 26, 3) := by decide +kernel
theorem dX3_addOnce_77 : decode cX3_addOnce 77 = .ok (.iload 7, 2) := by decide +kernel
theorem dX3_addOnce_79 : decode cX3_addOnce 79 = .ok (.iload_n 1, 1) := by decide +kernel
theorem dX3_addOnce_80 : decode cX3_addOnce 80 = .ok (.iastore, 1) := by decide +kernel
theorem dX3_addOnce_81 : decode cX3_addOnce 81 = .ok (.aload_n 0, 1) := by decide +kernel
theorem dX3_addOnce_82 : decode cX3_addOnce 82 = .ok (.getfield 29, 3) := by decide +kernel
theorem dX3_addOnce_85 : decode cX3_addOnce 85 = .ok (.iload 7, 2) := by decide +kernel
theorem dX3_addOnce_87 : decode cX3_addOnce 87 = .ok (.iload_n 2, 1) := by decide +kernel
theorem dX3_addOnce_88 : decode cX3_addOnce 88 = .ok (.iastore, 1) := by decide +kernel
theorem dX3_addOnce_89 : decode cX3_addOnce 89 = .ok (.aload_n 0, 1) := by decide +kernel
theorem dX3_addOnce_90 : decode cX3_addOnce 90 = .ok (.getfield 32, 3) := by decide +kernel
theorem dX3_addOnce_93 : decode cX3_addOnce 93 = .ok (.iload 7, 2) := by decide +kernel
theorem dX3_addOnce_95 : decode cX3_addOnce 95 = .ok (.iload_n 3, 1) := by decide +kernel
theorem dX3_addOnce_96 : decode cX3_addOnce 96 = .ok (.iastore, 1) := by decide +kernel
theorem dX3_addOnce_97 : decode cX3_addOnce 97 = .ok (.aload_n 0, 1) := by decide +kernel
theorem dX3_addOnce_98 : decode cX3_addOnce 98 = .ok (.getfield 35, 3) := by decide +kernel
theorem dX3_addOnce_101 : decode cX3_addOnce 101 = .ok (.iload 7, 2) := by decide +kernel
theorem dX3_addOnce_103 : decode cX3_addOnce 103 = .ok (.aload_n 0, 1) := by decide +kernel
theorem dX3_addOnce_104 : decode cX3_addOnce 104 = .ok (.getfield 9, 3) := by decide +kernel
theorem dX3_addOnce_107 : decode cX3_addOnce 107 = .ok (.getfield 133, 3) := by decide +kernel
theorem dX3_addOnce_110 : decode cX3_addOnce 110 = .ok (.getfield 137, 3) := by decide +kernel
theorem dX3_addOnce_113 : decode cX3_addOnce 113 = .ok (.iload_n 3, 1) := by decide +kernel
theorem dX3_addOnce_114 : decode cX3_addOnce 114 = .ok (.iaload, 1) := by decide +kernel
theorem dX3_addOnce_115 : decode cX3_addOnce 115 = .ok (.iconst 2, 1) := by decide +kernel
theorem dX3_addOnce_116 : decode cX3_addOnce 116 = .ok (.if_icmp .ne 7, 3) := by decide +kernel
theorem dX3_addOnce_119 : decode cX3_addOnce 119 = .ok (.iconst 1, 1) := by decide +kernel
theorem dX3_addOnce_120 : decode cX3_addOnce 120 = .ok (.goto 4, 3) := by decide +kernel
theorem dX3_addOnce_123 : decode cX3_addOnce 123 = .ok (.iconst 0, 1) := by decide +kernel
theorem dX3_addOnce_124 : decode cX3_addOnce 124 = .ok (.bastore, 1) := by decide +kernel
theorem dX3_addOnce_125 : decode cX3_addOnce 125 = .ok (.aload_n 0, 1) := by decide +kernel
theorem dX3_addOnce_126 : decode cX3_addOnce 126 = .ok (.getfield 39, 3) := by decide +kernel
theorem dX3_addOnce_129 : decode cX3_addOnce 129 = .ok (.iload 7, 2) := by decide +kernel
theorem dX3_addOnce_131 : decode cX3_addOnce 131 = .ok (.aload_n 0, 1) := by decide +kernel
theorem dX3_addOnce_132 : decode cX3_addOnce 132 = .ok (.getfield 39, 3) := by decide +kernel
theorem dX3_addOnce_135 : decode cX3_addOnce 135 = .ok (.iload_n 1, 1) := by decide +kernel
theorem dX3_addOnce_136 : decode cX3_addOnce 136 = .ok (.iaload, 1) := by decide +kernel
theorem dX3_addOnce_137 : decode cX3_addOnce 137 = .ok (.iconst 1, 1) := by decide +kernel
theorem dX3_addOnce_138 : decode cX3_addOnce 138 = .ok (.iadd, 1) := by decide +kernel
theorem dX3_addOnce_139 : decode cX3_addOnce 139 = .ok (.iastore, 1) := by decide +kernel
theorem dX3_addOnce_140 : decode cX3_addOnce 140 = .ok (.aload_n 0, 1) := by decide +kernel
theorem dX3_addOnce_141 : decode cX3_addOnce 141 = .ok (.getfield 42, 3) := by decide +kernel
theorem dX3_addOnce_144 : decode cX3_addOnce 144 = .ok (.iload 7, 2) := by decide +kernel
theorem dX3_addOnce_146 : decode cX3_addOnce 146 = .ok (.lload 4, 2) := by decide +kernel
theorem dX3_addOnce_148 : decode cX3_addOnce 148 = .ok (.lastore, 1) := by decide +kernel
theorem dX3_addOnce_149 : decode cX3_addOnce 149 = .ok (.aload_n 0, 1) := by decide +kernel
theorem dX3_addOnce_150 : decode cX3_addOnce 150 = .ok (.getfield 49, 3) := by decide +kernel
theorem dX3_addOnce_153 : decode cX3_addOnce 153 = .ok (.iload 7, 2) := by decide +kernel
theorem dX3_addOnce_155 : decode cX3_addOnce 155 = .ok (.aload_n 0, 1) := by decide +kernel
theorem dX3_addOnce_156 : decode cX3_addOnce 156 = .ok (.getfield 46, 3) := by decide +kernel
theorem dX3_addOnce_159 : decode cX3_addOnce 159 = .ok (.iload 6, 2) := by decide +kernel
theorem dX3_addOnce_161 : decode cX3_addOnce 161 = .ok (.iaload, 1) := by decide +kernel
theorem dX3_addOnce_162 : decode cX3_addOnce 162 = .ok (.iastore, 1) := by decide +kernel
theorem dX3_addOnce_163 : decode cX3_addOnce 163 = .ok (.aload_n 0, 1) := by decide +kernel
theorem dX3_addOnce_164 : decode cX3_addOnce 164 = .ok (.getfield 46, 3) := by decide +kernel
theorem dX3_addOnce_167 : decode cX3_addOnce 167 = .ok (.iload 6, 2) := by decide +kernel
theorem dX3_addOnce_169 : decode cX3_addOnce 169 = .ok (.iload 7, 2) := by decide +kernel
theorem dX3_addOnce_171 : decode cX3_addOnce 171 = .ok (.iastore, 1) := by decide +kernel
theorem dX3_addOnce_172 : decode cX3_addOnce 172 = .ok (.iconst 1, 1) := by decide +kernel
theorem dX3_addOnce_173 : decode cX3_addOnce 173 = .ok (.ireturn, 1) := by decide +kernel
theorem dX3_scattered_0 : decode cX3_scattered 0 = .ok (.iload_n 0, 1) := by decide +kernel
theorem dX3_scattered_1 : decode cX3_scattered 1 = .ok (.i2l, 1) := by decide +kernel
theorem dX3_scattered_2 : decode cX3_scattered 2 = .ok (.lconst 1, 1) := by decide +kernel
theorem dX3_scattered_3 : decode cX3_scattered 3 = .ok (.ladd, 1) := by decide +kernel
theorem dX3_scattered_4 : decode cX3_scattered 4 = .ok (.ldc2_w 142, 3) := by decide +kernel
theorem dX3_scattered_7 : decode cX3_scattered 7 = .ok (.lmul, 1) := by decide +kernel
theorem dX3_scattered_8 : decode cX3_scattered 8 = .ok (.lstore_n 1, 1) := by decide +kernel
theorem dX3_scattered_9 : decode cX3_scattered 9 = .ok (.lload_n 1, 1) := by decide +kernel
theorem dX3_scattered_10 : decode cX3_scattered 10 = .ok (.lload_n 1, 1) := by decide +kernel
theorem dX3_scattered_11 : decode cX3_scattered 11 = .ok (.bipush 31, 2) := by decide +kernel
theorem dX3_scattered_13 : decode cX3_scattered 13 = .ok (.lushr, 1) := by decide +kernel
theorem dX3_scattered_14 : decode cX3_scattered 14 = .ok (.lxor, 1) := by decide +kernel
theorem dX3_scattered_15 : decode cX3_scattered 15 = .ok (.ldc2_w 144, 3) := by decide +kernel
theorem dX3_scattered_18 : decode cX3_scattered 18 = .ok (.lmul, 1) := by decide +kernel
theorem dX3_scattered_19 : decode cX3_scattered 19 = .ok (.lstore_n 1, 1) := by decide +kernel
theorem dX3_scattered_20 : decode cX3_scattered 20 = .ok (.lload_n 1, 1) := by decide +kernel
theorem dX3_scattered_21 : decode cX3_scattered 21 = .ok (.lload_n 1, 1) := by decide +kernel
theorem dX3_scattered_22 : decode cX3_scattered 22 = .ok (.bipush 29, 2) := by decide +kernel
theorem dX3_scattered_24 : decode cX3_scattered 24 = .ok (.lushr, 1) := by decide +kernel
theorem dX3_scattered_25 : decode cX3_scattered 25 = .ok (.lxor, 1) := by decide +kernel
theorem dX3_scattered_26 : decode cX3_scattered 26 = .ok (.lreturn, 1) := by decide +kernel
set_option maxRecDepth 20000 in
theorem ggX3_isKnown_X3_isSame : GoodIn wsX3_isKnown wsX3_isSame := goodIn_r _ [8, 9, 10, 11, 12, 13, 14, 15, 16, 17, 18, 19, 20, 21, 22, 23, 24, 25, 26, 27, 28, 29, 30, 31, 32, 33, 34, 35, 36, 37, 38, 39, 40, 41, 42, 43, 44, 45, 46] (by decide +kernel) (by decide +kernel)
set_option maxRecDepth 20000 in
theorem gX3_isKnown_X3_isSame : GoodIn wsX3_isKnown (wsV RX3 146 RX3 yX3_isSame wsX3_isSame) := goodIn_app (goodIn_of _ (by decide +kernel)) ggX3_isKnown_X3_isSame
theorem dX3_isKnown_0 : decode cX3_isKnown 0 = .ok (.aload_n 0, 1) := by decide +kernel
theorem dX3_isKnown_1 : decode cX3_isKnown 1 = .ok (.getfield 46, 3) := by decide +kernel
theorem dX3_isKnown_4 : decode cX3_isKnown 4 = .ok (.iload_n 1, 1) := by decide +kernel
theorem dX3_isKnown_5 : decode cX3_isKnown 5 = .ok (.iaload, 1) := by decide +kernel
theorem dX3_isKnown_6 : decode cX3_isKnown 6 = .ok (.istore 6, 2) := by decide +kernel
theorem dX3_isKnown_8 : decode cX3_isKnown 8 = .ok (.iconst 0, 1) := by decide +kernel
theorem dX3_isKnown_9 : decode cX3_isKnown 9 = .ok (.istore 7, 2) := by decide +kernel
theorem dX3_isKnown_11 : decode cX3_isKnown 11 = .ok (.iload 7, 2) := by decide +kernel
theorem dX3_isKnown_13 : decode cX3_isKnown 13 = .ok (.sipush 300, 3) := by decide +kernel
theorem dX3_isKnown_16 : decode cX3_isKnown 16 = .ok (.if_icmp .ge 51, 3) := by decide +kernel
theorem dX3_isKnown_19 : decode cX3_isKnown 19 = .ok (.iload 6, 2) := by decide +kernel
theorem dX3_isKnown_21 : decode cX3_isKnown 21 = .ok (.iconst (-1), 1) := by decide +kernel
theorem dX3_isKnown_22 : decode cX3_isKnown 22 = .ok (.if_icmp .eq 45, 3) := by decide +kernel
theorem dX3_isKnown_25 : decode cX3_isKnown 25 = .ok (.aload_n 0, 1) := by decide +kernel
theorem dX3_isKnown_26 : decode cX3_isKnown 26 = .ok (.getfield 42, 3) := by decide +kernel
theorem dX3_isKnown_29 : decode cX3_isKnown 29 = .ok (.iload 6, 2) := by decide +kernel
theorem dX3_isKnown_31 : decode cX3_isKnown 31 = .ok (.laload, 1) := by decide +kernel
theorem dX3_isKnown_32 : decode cX3_isKnown 32 = .ok (.lload_n 2, 1) := by decide +kernel
theorem dX3_isKnown_33 : decode cX3_isKnown 33 = .ok (.lcmp, 1) := by decide +kernel
theorem dX3_isKnown_34 : decode cX3_isKnown 34 = .ok (.ifCond .ne 18, 3) := by decide +kernel
theorem dX3_isKnown_37 : decode cX3_isKnown 37 = .ok (.aload_n 0, 1) := by decide +kernel
theorem dX3_isKnown_38 : decode cX3_isKnown 38 = .ok (.iload 6, 2) := by decide +kernel
theorem dX3_isKnown_40 : decode cX3_isKnown 40 = .ok (.iload 4, 2) := by decide +kernel
theorem dX3_isKnown_42 : decode cX3_isKnown 42 = .ok (.iload 5, 2) := by decide +kernel
theorem dX3_isKnown_44 : decode cX3_isKnown 44 = .ok (.invokevirtual 146, 3) := by decide +kernel
theorem dX3_isKnown_47 : decode cX3_isKnown 47 = .ok (.ifCond .eq 5, 3) := by decide +kernel
theorem dX3_isKnown_50 : decode cX3_isKnown 50 = .ok (.iconst 1, 1) := by decide +kernel
theorem dX3_isKnown_51 : decode cX3_isKnown 51 = .ok (.ireturn, 1) := by decide +kernel
theorem dX3_isKnown_52 : decode cX3_isKnown 52 = .ok (.aload_n 0, 1) := by decide +kernel
theorem dX3_isKnown_53 : decode cX3_isKnown 53 = .ok (.getfield 49, 3) := by decide +kernel
theorem dX3_isKnown_56 : decode cX3_isKnown 56 = .ok (.iload 6, 2) := by decide +kernel
theorem dX3_isKnown_58 : decode cX3_isKnown 58 = .ok (.iaload, 1) := by decide +kernel
theorem dX3_isKnown_59 : decode cX3_isKnown 59 = .ok (.istore 6, 2) := by decide +kernel
theorem dX3_isKnown_61 : decode cX3_isKnown 61 = .ok (.iinc 7 1, 3) := by decide +kernel
theorem dX3_isKnown_64 : decode cX3_isKnown 64 = .ok (.goto (-53), 3) := by decide +kernel
theorem dX3_isKnown_67 : decode cX3_isKnown 67 = .ok (.iconst 0, 1) := by decide +kernel
theorem dX3_isKnown_68 : decode cX3_isKnown 68 = .ok (.ireturn, 1) := by decide +kernel
theorem dX3_isSame_0 : decode cX3_isSame 0 = .ok (.aload_n 0, 1) := by decide +kernel
theorem dX3_isSame_1 : decode cX3_isSame 1 = .ok (.getfield 39, 3) := by decide +kernel
theorem dX3_isSame_4 : decode cX3_isSame 4 = .ok (.iload_n 1, 1) := by decide +kernel
theorem dX3_isSame_5 : decode cX3_isSame 5 = .ok (.iaload, 1) := by decide +kernel
theorem dX3_isSame_6 : decode cX3_isSame 6 = .ok (.aload_n 0, 1) := by decide +kernel
theorem dX3_isSame_7 : decode cX3_isSame 7 = .ok (.getfield 9, 3) := by decide +kernel
theorem dX3_isSame_10 : decode cX3_isSame 10 = .ok (.getfield 52, 3) := by decide +kernel
theorem dX3_isSame_13 : decode cX3_isSame 13 = .ok (.iconst 1, 1) := by decide +kernel
theorem dX3_isSame_14 : decode cX3_isSame 14 = .ok (.iadd, 1) := by decide +kernel
theorem dX3_isSame_15 : decode cX3_isSame 15 = .ok (.if_icmp .eq 5, 3) := by decide +kernel
theorem dX3_isSame_18 : decode cX3_isSame 18 = .ok (.iconst 0, 1) := by decide +kernel
theorem dX3_isSame_19 : decode cX3_isSame 19 = .ok (.ireturn, 1) := by decide +kernel
theorem dX3_isSame_20 : decode cX3_isSame 20 = .ok (.iload_n 1, 1) := by decide +kernel
theorem dX3_isSame_21 : decode cX3_isSame 21 = .ok (.istore 4, 2) := by decide +kernel
theorem dX3_isSame_23 : decode cX3_isSame 23 = .ok (.iconst 0, 1) := by decide +kernel
theorem dX3_isSame_24 : decode cX3_isSame 24 = .ok (.istore 5, 2) := by decide +kernel
theorem dX3_isSame_26 : decode cX3_isSame 26 = .ok (.iload 5, 2) := by decide +kernel
theorem dX3_isSame_28 : decode cX3_isSame 28 = .ok (.sipush 300, 3) := by decide +kernel
theorem dX3_isSame_31 : decode cX3_isSame 31 = .ok (.if_icmp .ge 86, 3) := by decide +kernel
theorem dX3_isSame_34 : decode cX3_isSame 34 = .ok (.iload 4, 2) := by decide +kernel
theorem dX3_isSame_36 : decode cX3_isSame 36 = .ok (.ifCond .eq 81, 3) := by decide +kernel
theorem dX3_isSame_39 : decode cX3_isSame 39 = .ok (.aload_n 0, 1) := by decide +kernel
theorem dX3_isSame_40 : decode cX3_isSame 40 = .ok (.getfield 29, 3) := by decide +kernel
theorem dX3_isSame_43 : decode cX3_isSame 43 = .ok (.iload 4, 2) := by decide +kernel
theorem dX3_isSame_45 : decode cX3_isSame 45 = .ok (.iaload, 1) := by decide +kernel
theorem dX3_isSame_46 : decode cX3_isSame 46 = .ok (.iload_n 2, 1) := by decide +kernel
theorem dX3_isSame_47 : decode cX3_isSame 47 = .ok (.if_icmp .ne 18, 3) := by decide +kernel
theorem dX3_isSame_50 : decode cX3_isSame 50 = .ok (.aload_n 0, 1) := by decide +kernel
theorem dX3_isSame_51 : decode cX3_isSame 51 = .ok (.getfield 32, 3) := by decide +kernel
theorem dX3_isSame_54 : decode cX3_isSame 54 = .ok (.iload 4, 2) := by decide +kernel
theorem dX3_isSame_56 : decode cX3_isSame 56 = .ok (.iaload, 1) := by decide +kernel
theorem dX3_isSame_57 : decode cX3_isSame 57 = .ok (.iload_n 3, 1) := by decide +kernel
theorem dX3_isSame_58 : decode cX3_isSame 58 = .ok (.if_icmp .ne 7, 3) := by decide +kernel
theorem dX3_isSame_61 : decode cX3_isSame 61 = .ok (.iconst 1, 1) := by decide +kernel
theorem dX3_isSame_62 : decode cX3_isSame 62 = .ok (.goto 4, 3) := by decide +kernel
theorem dX3_isSame_65 : decode cX3_isSame 65 = .ok (.iconst 0, 1) := by decide +kernel
theorem dX3_isSame_66 : decode cX3_isSame 66 = .ok (.istore 6, 2) := by decide +kernel
theorem dX3_isSame_68 : decode cX3_isSame 68 = .ok (.iload 6, 2) := by decide +kernel
theorem dX3_isSame_70 : decode cX3_isSame 70 = .ok (.ifCond .ne 32, 3) := by decide +kernel
theorem dX3_isSame_73 : decode cX3_isSame 73 = .ok (.aload_n 0, 1) := by decide +kernel
theorem dX3_isSame_74 : decode cX3_isSame 74 = .ok (.getfield 9, 3) := by decide +kernel
theorem dX3_isSame_77 : decode cX3_isSame 77 = .ok (.getfield 74, 3) := by decide +kernel
theorem dX3_isSame_80 : decode cX3_isSame 80 = .ok (.aload_n 0, 1) := by decide +kernel
theorem dX3_isSame_81 : decode cX3_isSame 81 = .ok (.getfield 29, 3) := by decide +kernel
theorem dX3_isSame_84 : decode cX3_isSame 84 = .ok (.iload 4, 2) := by decide +kernel
theorem dX3_isSame_86 : decode cX3_isSame 86 = .ok (.iaload, 1) := by decide +kernel
theorem dX3_isSame_87 : decode cX3_isSame 87 = .ok (.iaload, 1) := by decide +kernel
theorem dX3_isSame_88 : decode cX3_isSame 88 = .ok (.iconst 1, 1) := by decide +kernel
theorem dX3_isSame_89 : decode cX3_isSame 89 = .ok (.aload_n 0, 1) := by decide +kernel
theorem dX3_isSame_90 : decode cX3_isSame 90 = .ok (.getfield 32, 3) := by decide +kernel
theorem dX3_isSame_93 : decode cX3_isSame 93 = .ok (.iload 4, 2) := by decide +kernel
theorem dX3_isSame_95 : decode cX3_isSame 95 = .ok (.iaload, 1) := by decide +kernel
theorem dX3_isSame_96 : decode cX3_isSame 96 = .ok (.iadd, 1) := by decide +kernel
theorem dX3_isSame_97 : decode cX3_isSame 97 = .ok (.if_icmp .eq 5, 3) := by decide +kernel
theorem dX3_isSame_100 : decode cX3_isSame 100 = .ok (.iconst 0, 1) := by decide +kernel
theorem dX3_isSame_101 : decode cX3_isSame 101 = .ok (.ireturn, 1) := by decide +kernel
theorem dX3_isSame_102 : decode cX3_isSame 102 = .ok (.aload_n 0, 1) := by decide +kernel
theorem dX3_isSame_103 : decode cX3_isSame 103 = .ok (.getfield 26, 3) := by decide +kernel
theorem dX3_isSame_106 : decode cX3_isSame 106 = .ok (.iload 4, 2) := by decide +kernel
theorem dX3_isSame_108 : decode cX3_isSame 108 = .ok (.iaload, 1) := by decide +kernel
theorem dX3_isSame_109 : decode cX3_isSame 109 = .ok (.istore 4, 2) := by decide +kernel
theorem dX3_isSame_111 : decode cX3_isSame 111 = .ok (.iinc 5 1, 3) := by decide +kernel
theorem dX3_isSame_114 : decode cX3_isSame 114 = .ok (.goto (-88), 3) := by decide +kernel
theorem dX3_isSame_117 : decode cX3_isSame 117 = .ok (.iconst 1, 1) := by decide +kernel
theorem dX3_isSame_118 : decode cX3_isSame 118 = .ok (.ireturn, 1) := by decide +kernel
set_option maxRecDepth 20000 in
theorem ggX3_heldIn_X7_pieceIn : GoodIn wsX3_heldIn wsX7_pieceIn := goodIn_r _ [8] (by decide +kernel) (by decide +kernel)
set_option maxRecDepth 20000 in
theorem gX3_heldIn_X7_pieceIn_n149 : GoodIn wsX3_heldIn (wsX7_pieceIn) := ggX3_heldIn_X7_pieceIn
theorem dX3_heldIn_0 : decode cX3_heldIn 0 = .ok (.iload_n 1, 1) := by decide +kernel
theorem dX3_heldIn_1 : decode cX3_heldIn 1 = .ok (.istore_n 3, 1) := by decide +kernel
theorem dX3_heldIn_2 : decode cX3_heldIn 2 = .ok (.iconst 0, 1) := by decide +kernel
theorem dX3_heldIn_3 : decode cX3_heldIn 3 = .ok (.istore 4, 2) := by decide +kernel
theorem dX3_heldIn_5 : decode cX3_heldIn 5 = .ok (.iload 4, 2) := by decide +kernel
theorem dX3_heldIn_7 : decode cX3_heldIn 7 = .ok (.sipush 300, 3) := by decide +kernel
theorem dX3_heldIn_10 : decode cX3_heldIn 10 = .ok (.if_icmp .ge 58, 3) := by decide +kernel
theorem dX3_heldIn_13 : decode cX3_heldIn 13 = .ok (.iload_n 3, 1) := by decide +kernel
theorem dX3_heldIn_14 : decode cX3_heldIn 14 = .ok (.ifCond .eq 54, 3) := by decide +kernel
theorem dX3_heldIn_17 : decode cX3_heldIn 17 = .ok (.aload_n 0, 1) := by decide +kernel
theorem dX3_heldIn_18 : decode cX3_heldIn 18 = .ok (.getfield 29, 3) := by decide +kernel
theorem dX3_heldIn_21 : decode cX3_heldIn 21 = .ok (.iload_n 3, 1) := by decide +kernel
theorem dX3_heldIn_22 : decode cX3_heldIn 22 = .ok (.iaload, 1) := by decide +kernel
theorem dX3_heldIn_23 : decode cX3_heldIn 23 = .ok (.iload_n 2, 1) := by decide +kernel
theorem dX3_heldIn_24 : decode cX3_heldIn 24 = .ok (.if_icmp .eq 24, 3) := by decide +kernel
theorem dX3_heldIn_27 : decode cX3_heldIn 27 = .ok (.aload_n 0, 1) := by decide +kernel
theorem dX3_heldIn_28 : decode cX3_heldIn 28 = .ok (.getfield 35, 3) := by decide +kernel
theorem dX3_heldIn_31 : decode cX3_heldIn 31 = .ok (.iload_n 3, 1) := by decide +kernel
theorem dX3_heldIn_32 : decode cX3_heldIn 32 = .ok (.baload, 1) := by decide +kernel
theorem dX3_heldIn_33 : decode cX3_heldIn 33 = .ok (.ifCond .eq 22, 3) := by decide +kernel
theorem dX3_heldIn_36 : decode cX3_heldIn 36 = .ok (.aload_n 0, 1) := by decide +kernel
theorem dX3_heldIn_37 : decode cX3_heldIn 37 = .ok (.getfield 29, 3) := by decide +kernel
theorem dX3_heldIn_40 : decode cX3_heldIn 40 = .ok (.iload_n 3, 1) := by decide +kernel
theorem dX3_heldIn_41 : decode cX3_heldIn 41 = .ok (.iaload, 1) := by decide +kernel
theorem dX3_heldIn_42 : decode cX3_heldIn 42 = .ok (.iconst 1, 1) := by decide +kernel
theorem dX3_heldIn_43 : decode cX3_heldIn 43 = .ok (.iadd, 1) := by decide +kernel
theorem dX3_heldIn_44 : decode cX3_heldIn 44 = .ok (.iload_n 2, 1) := by decide +kernel
theorem dX3_heldIn_45 : decode cX3_heldIn 45 = .ok (.if_icmp .ne 10, 3) := by decide +kernel
theorem dX3_heldIn_48 : decode cX3_heldIn 48 = .ok (.aload_n 0, 1) := by decide +kernel
theorem dX3_heldIn_49 : decode cX3_heldIn 49 = .ok (.getfield 32, 3) := by decide +kernel
theorem dX3_heldIn_52 : decode cX3_heldIn 52 = .ok (.iload_n 3, 1) := by decide +kernel
theorem dX3_heldIn_53 : decode cX3_heldIn 53 = .ok (.iaload, 1) := by decide +kernel
theorem dX3_heldIn_54 : decode cX3_heldIn 54 = .ok (.ireturn, 1) := by decide +kernel
theorem dX3_heldIn_55 : decode cX3_heldIn 55 = .ok (.aload_n 0, 1) := by decide +kernel
theorem dX3_heldIn_56 : decode cX3_heldIn 56 = .ok (.getfield 26, 3) := by decide +kernel
theorem dX3_heldIn_59 : decode cX3_heldIn 59 = .ok (.iload_n 3, 1) := by decide +kernel
theorem dX3_heldIn_60 : decode cX3_heldIn 60 = .ok (.iaload, 1) := by decide +kernel
theorem dX3_heldIn_61 : decode cX3_heldIn 61 = .ok (.istore_n 3, 1) := by decide +kernel
theorem dX3_heldIn_62 : decode cX3_heldIn 62 = .ok (.iinc 4 1, 3) := by decide +kernel
theorem dX3_heldIn_65 : decode cX3_heldIn 65 = .ok (.goto (-60), 3) := by decide +kernel
theorem dX3_heldIn_68 : decode cX3_heldIn 68 = .ok (.aload_n 0, 1) := by decide +kernel
theorem dX3_heldIn_69 : decode cX3_heldIn 69 = .ok (.getfield 22, 3) := by decide +kernel
theorem dX3_heldIn_72 : decode cX3_heldIn 72 = .ok (.iload_n 2, 1) := by decide +kernel
theorem dX3_heldIn_73 : decode cX3_heldIn 73 = .ok (.iaload, 1) := by decide +kernel
theorem dX3_heldIn_74 : decode cX3_heldIn 74 = .ok (.invokestatic 149, 3) := by decide +kernel
theorem dX3_heldIn_77 : decode cX3_heldIn 77 = .ok (.ireturn, 1) := by decide +kernel
theorem dX4_init_0 : decode cX4_init 0 = .ok (.aload_n 0, 1) := by decide +kernel
theorem dX4_init_1 : decode cX4_init 1 = .ok (.invokespecial 3, 3) := by decide +kernel
theorem dX4_init_4 : decode cX4_init 4 = .ok (.aload_n 0, 1) := by decide +kernel
theorem dX4_init_5 : decode cX4_init 5 = .ok (.aload_n 1, 1) := by decide +kernel
theorem dX4_init_6 : decode cX4_init 6 = .ok (.putfield 9, 3) := by decide +kernel
theorem dX4_init_9 : decode cX4_init 9 = .ok (.aload_n 0, 1) := by decide +kernel
theorem dX4_init_10 : decode cX4_init 10 = .ok (.sipush 324, 3) := by decide +kernel
theorem dX4_init_13 : decode cX4_init 13 = .ok (.newarray .int, 2) := by decide +kernel
theorem dX4_init_15 : decode cX4_init 15 = .ok (.putfield 15, 3) := by decide +kernel
theorem dX4_init_18 : decode cX4_init 18 = .ok (.aload_n 0, 1) := by decide +kernel
theorem dX4_init_19 : decode cX4_init 19 = .ok (.iconst 0, 1) := by decide +kernel
theorem dX4_init_20 : decode cX4_init 20 = .ok (.putfield 19, 3) := by decide +kernel
theorem dX4_init_23 : decode cX4_init 23 = .ok (.aload_n 0, 1) := by decide +kernel
theorem dX4_init_24 : decode cX4_init 24 = .ok (.iconst 0, 1) := by decide +kernel
theorem dX4_init_25 : decode cX4_init 25 = .ok (.putfield 23, 3) := by decide +kernel
theorem dX4_init_28 : decode cX4_init 28 = .ok (.aload_n 0, 1) := by decide +kernel
theorem dX4_init_29 : decode cX4_init 29 = .ok (.sipush 324, 3) := by decide +kernel
theorem dX4_init_32 : decode cX4_init 32 = .ok (.newarray .long, 2) := by decide +kernel
theorem dX4_init_34 : decode cX4_init 34 = .ok (.putfield 26, 3) := by decide +kernel
theorem dX4_init_37 : decode cX4_init 37 = .ok (.aload_n 0, 1) := by decide +kernel
theorem dX4_init_38 : decode cX4_init 38 = .ok (.bipush 16, 2) := by decide +kernel
theorem dX4_init_40 : decode cX4_init 40 = .ok (.newarray .int, 2) := by decide +kernel
theorem dX4_init_42 : decode cX4_init 42 = .ok (.putfield 30, 3) := by decide +kernel
theorem dX4_init_45 : decode cX4_init 45 = .ok (.aload_n 0, 1) := by decide +kernel
theorem dX4_init_46 : decode cX4_init 46 = .ok (.iconst 0, 1) := by decide +kernel
theorem dX4_init_47 : decode cX4_init 47 = .ok (.putfield 33, 3) := by decide +kernel
theorem dX4_init_50 : decode cX4_init 50 = .ok (.aload_n 0, 1) := by decide +kernel
theorem dX4_init_51 : decode cX4_init 51 = .ok (.sipush 324, 3) := by decide +kernel
theorem dX4_init_54 : decode cX4_init 54 = .ok (.newarray .boolean, 2) := by decide +kernel
theorem dX4_init_56 : decode cX4_init 56 = .ok (.putfield 36, 3) := by decide +kernel
theorem dX4_init_59 : decode cX4_init 59 = .ok (.aload_n 0, 1) := by decide +kernel
theorem dX4_init_60 : decode cX4_init 60 = .ok (.sipush 256, 3) := by decide +kernel
theorem dX4_init_63 : decode cX4_init 63 = .ok (.newarray .int, 2) := by decide +kernel
theorem dX4_init_65 : decode cX4_init 65 = .ok (.putfield 40, 3) := by decide +kernel
theorem dX4_init_68 : decode cX4_init 68 = .ok (.aload_n 0, 1) := by decide +kernel
theorem dX4_init_69 : decode cX4_init 69 = .ok (.iconst 0, 1) := by decide +kernel
theorem dX4_init_70 : decode cX4_init 70 = .ok (.putfield 43, 3) := by decide +kernel
theorem dX4_init_73 : decode cX4_init 73 = .ok (.aload_n 0, 1) := by decide +kernel
theorem dX4_init_74 : decode cX4_init 74 = .ok (.sipush 324, 3) := by decide +kernel
theorem dX4_init_77 : decode cX4_init 77 = .ok (.newarray .int, 2) := by decide +kernel
theorem dX4_init_79 : decode cX4_init 79 = .ok (.putfield 46, 3) := by decide +kernel
theorem dX4_init_82 : decode cX4_init 82 = .ok (.aload_n 0, 1) := by decide +kernel
theorem dX4_init_83 : decode cX4_init 83 = .ok (.sipush 256, 3) := by decide +kernel
theorem dX4_init_86 : decode cX4_init 86 = .ok (.newarray .int, 2) := by decide +kernel
theorem dX4_init_88 : decode cX4_init 88 = .ok (.putfield 49, 3) := by decide +kernel
theorem dX4_init_91 : decode cX4_init 91 = .ok (.return_, 1) := by decide +kernel
theorem dX4_isFree_0 : decode cX4_isFree 0 = .ok (.aload_n 0, 1) := by decide +kernel
theorem dX4_isFree_1 : decode cX4_isFree 1 = .ok (.getfield 15, 3) := by decide +kernel
theorem dX4_isFree_4 : decode cX4_isFree 4 = .ok (.iload_n 1, 1) := by decide +kernel
theorem dX4_isFree_5 : decode cX4_isFree 5 = .ok (.iaload, 1) := by decide +kernel
theorem dX4_isFree_6 : decode cX4_isFree 6 = .ok (.ifCond .ne 7, 3) := by decide +kernel
theorem dX4_isFree_9 : decode cX4_isFree 9 = .ok (.iconst 1, 1) := by decide +kernel
theorem dX4_isFree_10 : decode cX4_isFree 10 = .ok (.goto 4, 3) := by decide +kernel
theorem dX4_isFree_13 : decode cX4_isFree 13 = .ok (.iconst 0, 1) := by decide +kernel
theorem dX4_isFree_14 : decode cX4_isFree 14 = .ok (.ireturn, 1) := by decide +kernel
set_option maxRecDepth 20000 in
theorem ggX4_hasRoomFor_X4_isRightFree : GoodIn wsX4_hasRoomFor wsX4_isRightFree := goodIn_r _ [8, 1, 9, 10, 11, 12, 13, 14, 15, 16, 17, 18, 19, 20, 21, 22, 23, 24, 25, 26] (by decide +kernel) (by decide +kernel)
set_option maxRecDepth 20000 in
theorem gX4_hasRoomFor_X4_isRightFree : GoodIn wsX4_hasRoomFor (wsV RX4 57 RX4 yX4_isRightFree wsX4_isRightFree) := goodIn_app (goodIn_of _ (by decide +kernel)) ggX4_hasRoomFor_X4_isRightFree
theorem dX4_hasRoomFor_0 : decode cX4_hasRoomFor 0 = .ok (.aload_n 0, 1) := by decide +kernel
theorem dX4_hasRoomFor_1 : decode cX4_hasRoomFor 1 = .ok (.getfield 15, 3) := by decide +kernel
theorem dX4_hasRoomFor_4 : decode cX4_hasRoomFor 4 = .ok (.iload_n 2, 1) := by decide +kernel
theorem dX4_hasRoomFor_5 : decode cX4_hasRoomFor 5 = .ok (.iaload, 1) := by decide +kernel
theorem dX4_hasRoomFor_6 : decode cX4_hasRoomFor 6 = .ok (.ifCond .ne 28, 3) := by decide +kernel
theorem dX4_hasRoomFor_9 : decode cX4_hasRoomFor 9 = .ok (.aload_n 0, 1) := by decide +kernel
theorem dX4_hasRoomFor_10 : decode cX4_hasRoomFor 10 = .ok (.getfield 9, 3) := by decide +kernel
theorem dX4_hasRoomFor_13 : decode cX4_hasRoomFor 13 = .ok (.getfield 52, 3) := by decide +kernel
theorem dX4_hasRoomFor_16 : decode cX4_hasRoomFor 16 = .ok (.iload_n 1, 1) := by decide +kernel
theorem dX4_hasRoomFor_17 : decode cX4_hasRoomFor 17 = .ok (.iaload, 1) := by decide +kernel
theorem dX4_hasRoomFor_18 : decode cX4_hasRoomFor 18 = .ok (.iconst 2, 1) := by decide +kernel
theorem dX4_hasRoomFor_19 : decode cX4_hasRoomFor 19 = .ok (.if_icmp .ne 11, 3) := by decide +kernel
theorem dX4_hasRoomFor_22 : decode cX4_hasRoomFor 22 = .ok (.aload_n 0, 1) := by decide +kernel
theorem dX4_hasRoomFor_23 : decode cX4_hasRoomFor 23 = .ok (.iload_n 2, 1) := by decide +kernel
theorem dX4_hasRoomFor_24 : decode cX4_hasRoomFor 24 = .ok (.invokevirtual 57, 3) := by decide +kernel
theorem dX4_hasRoomFor_27 : decode cX4_hasRoomFor 27 = .ok (.ifCond .eq 7, 3) := by decide +kernel
theorem dX4_hasRoomFor_30 : decode cX4_hasRoomFor 30 = .ok (.iconst 1, 1) := by decide +kernel
theorem dX4_hasRoomFor_31 : decode cX4_hasRoomFor 31 = .ok (.goto 4, 3) := by decide +kernel
theorem dX4_hasRoomFor_34 : decode cX4_hasRoomFor 34 = .ok (.iconst 0, 1) := by decide +kernel
theorem dX4_hasRoomFor_35 : decode cX4_hasRoomFor 35 = .ok (.ireturn, 1) := by decide +kernel
set_option maxRecDepth 20000 in
theorem ggX4_isRightFree_X7_columnOf : GoodIn wsX4_isRightFree wsX7_columnOf := goodIn_r _ [4] (by decide +kernel) (by decide +kernel)
set_option maxRecDepth 20000 in
theorem gX4_isRightFree_X7_columnOf_n61 : GoodIn wsX4_isRightFree (wsX7_columnOf) := ggX4_isRightFree_X7_columnOf
theorem dX4_isRightFree_0 : decode cX4_isRightFree 0 = .ok (.iload_n 1, 1) := by decide +kernel
theorem dX4_isRightFree_1 : decode cX4_isRightFree 1 = .ok (.invokestatic 61, 3) := by decide +kernel
theorem dX4_isRightFree_4 : decode cX4_isRightFree 4 = .ok (.bipush 15, 2) := by decide +kernel
theorem dX4_isRightFree_6 : decode cX4_isRightFree 6 = .ok (.if_icmp .ge 18, 3) := by decide +kernel
theorem dX4_isRightFree_9 : decode cX4_isRightFree 9 = .ok (.aload_n 0, 1) := by decide +kernel
theorem dX4_isRightFree_10 : decode cX4_isRightFree 10 = .ok (.getfield 15, 3) := by decide +kernel
theorem dX4_isRightFree_13 : decode cX4_isRightFree 13 = .ok (.iload_n 1, 1) := by decide +kernel
theorem dX4_isRightFree_14 : decode cX4_isRightFree 14 = .ok (.iconst 1, 1) := by decide +kernel
theorem dX4_isRightFree_15 : decode cX4_isRightFree 15 = .ok (.iadd, 1) := by decide +kernel
theorem dX4_isRightFree_16 : decode cX4_isRightFree 16 = .ok (.iaload, 1) := by decide +kernel
theorem dX4_isRightFree_17 : decode cX4_isRightFree 17 = .ok (.ifCond .ne 7, 3) := by decide +kernel
theorem dX4_isRightFree_20 : decode cX4_isRightFree 20 = .ok (.iconst 1, 1) := by decide +kernel
theorem dX4_isRightFree_21 : decode cX4_isRightFree 21 = .ok (.goto 4, 3) := by decide +kernel
theorem dX4_isRightFree_24 : decode cX4_isRightFree 24 = .ok (.iconst 0, 1) := by decide +kernel
theorem dX4_isRightFree_25 : decode cX4_isRightFree 25 = .ok (.ireturn, 1) := by decide +kernel
set_option maxRecDepth 20000 in
theorem ggX4_putDown_X4_touch : GoodIn wsX4_putDown wsX4_touch := goodIn_r _ [10, 11, 12, 13, 9, 14, 15, 16, 17, 18, 19, 20, 21, 22, 23, 24, 25, 26, 27, 28, 29, 30, 31, 32, 33, 34, 35] (by decide +kernel) (by decide +kernel)
set_option maxRecDepth 20000 in
theorem gX4_putDown_X4_touch : GoodIn wsX4_putDown (wsV RX4 65 RX4 yX4_touch wsX4_touch) := goodIn_app (goodIn_of _ (by decide +kernel)) ggX4_putDown_X4_touch
theorem dX4_putDown_0 : decode cX4_putDown 0 = .ok (.aload_n 0, 1) := by decide +kernel
theorem dX4_putDown_1 : decode cX4_putDown 1 = .ok (.getfield 15, 3) := by decide +kernel
theorem dX4_putDown_4 : decode cX4_putDown 4 = .ok (.iload_n 2, 1) := by decide +kernel
theorem dX4_putDown_5 : decode cX4_putDown 5 = .ok (.iconst 1, 1) := by decide +kernel
theorem dX4_putDown_6 : decode cX4_putDown 6 = .ok (.iload_n 1, 1) := by decide +kernel
theorem dX4_putDown_7 : decode cX4_putDown 7 = .ok (.iadd, 1) := by decide +kernel
theorem dX4_putDown_8 : decode cX4_putDown 8 = .ok (.iastore, 1) := by decide +kernel
theorem dX4_putDown_9 : decode cX4_putDown 9 = .ok (.aload_n 0, 1) := by decide +kernel
theorem dX4_putDown_10 : decode cX4_putDown 10 = .ok (.iload_n 2, 1) := by decide +kernel
theorem dX4_putDown_11 : decode cX4_putDown 11 = .ok (.invokevirtual 65, 3) := by decide +kernel
theorem dX4_putDown_14 : decode cX4_putDown 14 = .ok (.aload_n 0, 1) := by decide +kernel
theorem dX4_putDown_15 : decode cX4_putDown 15 = .ok (.getfield 9, 3) := by decide +kernel
theorem dX4_putDown_18 : decode cX4_putDown 18 = .ok (.getfield 52, 3) := by decide +kernel
theorem dX4_putDown_21 : decode cX4_putDown 21 = .ok (.iload_n 1, 1) := by decide +kernel
theorem dX4_putDown_22 : decode cX4_putDown 22 = .ok (.iaload, 1) := by decide +kernel
theorem dX4_putDown_23 : decode cX4_putDown 23 = .ok (.iconst 2, 1) := by decide +kernel
theorem dX4_putDown_24 : decode cX4_putDown 24 = .ok (.if_icmp .ne 24, 3) := by decide +kernel
theorem dX4_putDown_27 : decode cX4_putDown 27 = .ok (.aload_n 0, 1) := by decide +kernel
theorem dX4_putDown_28 : decode cX4_putDown 28 = .ok (.getfield 15, 3) := by decide +kernel
theorem dX4_putDown_31 : decode cX4_putDown 31 = .ok (.iload_n 2, 1) := by decide +kernel
theorem dX4_putDown_32 : decode cX4_putDown 32 = .ok (.iconst 1, 1) := by decide +kernel
theorem dX4_putDown_33 : decode cX4_putDown 33 = .ok (.iadd, 1) := by decide +kernel
theorem dX4_putDown_34 : decode cX4_putDown 34 = .ok (.iconst 1, 1) := by decide +kernel
theorem dX4_putDown_35 : decode cX4_putDown 35 = .ok (.iload_n 1, 1) := by decide +kernel
theorem dX4_putDown_36 : decode cX4_putDown 36 = .ok (.iadd, 1) := by decide +kernel
theorem dX4_putDown_37 : decode cX4_putDown 37 = .ok (.bipush 64, 2) := by decide +kernel
theorem dX4_putDown_39 : decode cX4_putDown 39 = .ok (.iadd, 1) := by decide +kernel
theorem dX4_putDown_40 : decode cX4_putDown 40 = .ok (.iastore, 1) := by decide +kernel
theorem dX4_putDown_41 : decode cX4_putDown 41 = .ok (.aload_n 0, 1) := by decide +kernel
theorem dX4_putDown_42 : decode cX4_putDown 42 = .ok (.iload_n 2, 1) := by decide +kernel
theorem dX4_putDown_43 : decode cX4_putDown 43 = .ok (.iconst 1, 1) := by decide +kernel
theorem dX4_putDown_44 : decode cX4_putDown 44 = .ok (.iadd, 1) := by decide +kernel
theorem dX4_putDown_45 : decode cX4_putDown 45 = .ok (.invokevirtual 65, 3) := by decide +kernel
theorem dX4_putDown_48 : decode cX4_putDown 48 = .ok (.aload_n 0, 1) := by decide +kernel
theorem dX4_putDown_49 : decode cX4_putDown 49 = .ok (.dup, 1) := by decide +kernel
theorem dX4_putDown_50 : decode cX4_putDown 50 = .ok (.getfield 19, 3) := by decide +kernel
theorem dX4_putDown_53 : decode cX4_putDown 53 = .ok (.iconst 1, 1) := by decide +kernel
theorem dX4_putDown_54 : decode cX4_putDown 54 = .ok (.iadd, 1) := by decide +kernel
theorem dX4_putDown_55 : decode cX4_putDown 55 = .ok (.putfield 19, 3) := by decide +kernel
theorem dX4_putDown_58 : decode cX4_putDown 58 = .ok (.aload_n 0, 1) := by decide +kernel
theorem dX4_putDown_59 : decode cX4_putDown 59 = .ok (.dup, 1) := by decide +kernel
theorem dX4_putDown_60 : decode cX4_putDown 60 = .ok (.getfield 23, 3) := by decide +kernel
theorem dX4_putDown_63 : decode cX4_putDown 63 = .ok (.aload_n 0, 1) := by decide +kernel
theorem dX4_putDown_64 : decode cX4_putDown 64 = .ok (.getfield 9, 3) := by decide +kernel
theorem dX4_putDown_67 : decode cX4_putDown 67 = .ok (.getfield 52, 3) := by decide +kernel
theorem dX4_putDown_70 : decode cX4_putDown 70 = .ok (.iload_n 1, 1) := by decide +kernel
theorem dX4_putDown_71 : decode cX4_putDown 71 = .ok (.iaload, 1) := by decide +kernel
theorem dX4_putDown_72 : decode cX4_putDown 72 = .ok (.iconst 1, 1) := by decide +kernel
theorem dX4_putDown_73 : decode cX4_putDown 73 = .ok (.if_icmp .ne 7, 3) := by decide +kernel
theorem dX4_putDown_76 : decode cX4_putDown 76 = .ok (.iconst 0, 1) := by decide +kernel
theorem dX4_putDown_77 : decode cX4_putDown 77 = .ok (.goto 4, 3) := by decide +kernel
theorem dX4_putDown_80 : decode cX4_putDown 80 = .ok (.iconst 1, 1) := by decide +kernel
theorem dX4_putDown_81 : decode cX4_putDown 81 = .ok (.iadd, 1) := by decide +kernel
theorem dX4_putDown_82 : decode cX4_putDown 82 = .ok (.putfield 23, 3) := by decide +kernel
theorem dX4_putDown_85 : decode cX4_putDown 85 = .ok (.return_, 1) := by decide +kernel
set_option maxRecDepth 20000 in
theorem ggX4_lift_X7_pieceIn : GoodIn wsX4_lift wsX7_pieceIn := goodIn_r _ [8] (by decide +kernel) (by decide +kernel)
set_option maxRecDepth 20000 in
theorem gX4_lift_X7_pieceIn_n69 : GoodIn wsX4_lift (wsX7_pieceIn) := ggX4_lift_X7_pieceIn
set_option maxRecDepth 20000 in
theorem ggX4_lift_X4_touch : GoodIn wsX4_lift wsX4_touch := goodIn_r _ [13, 14, 15, 16, 12, 17, 18, 19, 20, 21, 7, 22, 23, 24, 25, 26, 27, 28, 29, 30, 31, 32, 33, 34, 35, 36, 37] (by decide +kernel) (by decide +kernel)
set_option maxRecDepth 20000 in
theorem gX4_lift_X4_touch : GoodIn wsX4_lift (wsV RX4 65 RX4 yX4_touch wsX4_touch) := goodIn_app (goodIn_of _ (by decide +kernel)) ggX4_lift_X4_touch
theorem dX4_lift_0 : decode cX4_lift 0 = .ok (.aload_n 0, 1) := by decide +kernel
theorem dX4_lift_1 : decode cX4_lift 1 = .ok (.getfield 15, 3) := by decide +kernel
theorem dX4_lift_4 : decode cX4_lift 4 = .ok (.iload_n 1, 1) := by decide +kernel
theorem dX4_lift_5 : decode cX4_lift 5 = .ok (.iaload, 1) := by decide +kernel
theorem dX4_lift_6 : decode cX4_lift 6 = .ok (.invokestatic 69, 3) := by decide +kernel
theorem dX4_lift_9 : decode cX4_lift 9 = .ok (.istore_n 2, 1) := by decide +kernel
theorem dX4_lift_10 : decode cX4_lift 10 = .ok (.iload_n 2, 1) := by decide +kernel
theorem dX4_lift_11 : decode cX4_lift 11 = .ok (.iconst (-1), 1) := by decide +kernel
theorem dX4_lift_12 : decode cX4_lift 12 = .ok (.if_icmp .ne 4, 3) := by decide +kernel
theorem dX4_lift_15 : decode cX4_lift 15 = .ok (.return_, 1) := by decide +kernel
theorem dX4_lift_16 : decode cX4_lift 16 = .ok (.aload_n 0, 1) := by decide +kernel
theorem dX4_lift_17 : decode cX4_lift 17 = .ok (.getfield 15, 3) := by decide +kernel
theorem dX4_lift_20 : decode cX4_lift 20 = .ok (.iload_n 1, 1) := by decide +kernel
theorem dX4_lift_21 : decode cX4_lift 21 = .ok (.iconst 0, 1) := by decide +kernel
theorem dX4_lift_22 : decode cX4_lift 22 = .ok (.iastore, 1) := by decide +kernel
theorem dX4_lift_23 : decode cX4_lift 23 = .ok (.aload_n 0, 1) := by decide +kernel
theorem dX4_lift_24 : decode cX4_lift 24 = .ok (.iload_n 1, 1) := by decide +kernel
theorem dX4_lift_25 : decode cX4_lift 25 = .ok (.invokevirtual 65, 3) := by decide +kernel
theorem dX4_lift_28 : decode cX4_lift 28 = .ok (.aload_n 0, 1) := by decide +kernel
theorem dX4_lift_29 : decode cX4_lift 29 = .ok (.getfield 9, 3) := by decide +kernel
theorem dX4_lift_32 : decode cX4_lift 32 = .ok (.getfield 52, 3) := by decide +kernel
theorem dX4_lift_35 : decode cX4_lift 35 = .ok (.iload_n 2, 1) := by decide +kernel
theorem dX4_lift_36 : decode cX4_lift 36 = .ok (.iaload, 1) := by decide +kernel
theorem dX4_lift_37 : decode cX4_lift 37 = .ok (.iconst 2, 1) := by decide +kernel
theorem dX4_lift_38 : decode cX4_lift 38 = .ok (.if_icmp .ne 19, 3) := by decide +kernel
theorem dX4_lift_41 : decode cX4_lift 41 = .ok (.aload_n 0, 1) := by decide +kernel
theorem dX4_lift_42 : decode cX4_lift 42 = .ok (.getfield 15, 3) := by decide +kernel
theorem dX4_lift_45 : decode cX4_lift 45 = .ok (.iload_n 1, 1) := by decide +kernel
theorem dX4_lift_46 : decode cX4_lift 46 = .ok (.iconst 1, 1) := by decide +kernel
theorem dX4_lift_47 : decode cX4_lift 47 = .ok (.iadd, 1) := by decide +kernel
theorem dX4_lift_48 : decode cX4_lift 48 = .ok (.iconst 0, 1) := by decide +kernel
theorem dX4_lift_49 : decode cX4_lift 49 = .ok (.iastore, 1) := by decide +kernel
theorem dX4_lift_50 : decode cX4_lift 50 = .ok (.aload_n 0, 1) := by decide +kernel
theorem dX4_lift_51 : decode cX4_lift 51 = .ok (.iload_n 1, 1) := by decide +kernel
theorem dX4_lift_52 : decode cX4_lift 52 = .ok (.iconst 1, 1) := by decide +kernel
theorem dX4_lift_53 : decode cX4_lift 53 = .ok (.iadd, 1) := by decide +kernel
theorem dX4_lift_54 : decode cX4_lift 54 = .ok (.invokevirtual 65, 3) := by decide +kernel
theorem dX4_lift_57 : decode cX4_lift 57 = .ok (.aload_n 0, 1) := by decide +kernel
theorem dX4_lift_58 : decode cX4_lift 58 = .ok (.dup, 1) := by decide +kernel
theorem dX4_lift_59 : decode cX4_lift 59 = .ok (.getfield 19, 3) := by decide +kernel
theorem dX4_lift_62 : decode cX4_lift 62 = .ok (.iconst 1, 1) := by decide +kernel
theorem dX4_lift_63 : decode cX4_lift 63 = .ok (.isub, 1) := by decide +kernel
theorem dX4_lift_64 : decode cX4_lift 64 = .ok (.putfield 19, 3) := by decide +kernel
theorem dX4_lift_67 : decode cX4_lift 67 = .ok (.aload_n 0, 1) := by decide +kernel
theorem dX4_lift_68 : decode cX4_lift 68 = .ok (.dup, 1) := by decide +kernel
theorem dX4_lift_69 : decode cX4_lift 69 = .ok (.getfield 23, 3) := by decide +kernel
theorem dX4_lift_72 : decode cX4_lift 72 = .ok (.aload_n 0, 1) := by decide +kernel
theorem dX4_lift_73 : decode cX4_lift 73 = .ok (.getfield 9, 3) := by decide +kernel
theorem dX4_lift_76 : decode cX4_lift 76 = .ok (.getfield 52, 3) := by decide +kernel
theorem dX4_lift_79 : decode cX4_lift 79 = .ok (.iload_n 2, 1) := by decide +kernel
theorem dX4_lift_80 : decode cX4_lift 80 = .ok (.iaload, 1) := by decide +kernel
theorem dX4_lift_81 : decode cX4_lift 81 = .ok (.iconst 1, 1) := by decide +kernel
theorem dX4_lift_82 : decode cX4_lift 82 = .ok (.if_icmp .ne 7, 3) := by decide +kernel
theorem dX4_lift_85 : decode cX4_lift 85 = .ok (.iconst 0, 1) := by decide +kernel
theorem dX4_lift_86 : decode cX4_lift 86 = .ok (.goto 4, 3) := by decide +kernel
theorem dX4_lift_89 : decode cX4_lift 89 = .ok (.iconst 1, 1) := by decide +kernel
theorem dX4_lift_90 : decode cX4_lift 90 = .ok (.isub, 1) := by decide +kernel
theorem dX4_lift_91 : decode cX4_lift 91 = .ok (.putfield 23, 3) := by decide +kernel
theorem dX4_lift_94 : decode cX4_lift 94 = .ok (.return_, 1) := by decide +kernel
set_option maxRecDepth 20000 in
theorem ggX4_sweep_J7_fill_53178 : GoodIn wsX4_sweep wsJ7_fill_53178 := goodIn_r _ [7] (by decide +kernel) (by decide +kernel)
set_option maxRecDepth 20000 in
theorem gX4_sweep_J7_fill_53178 : GoodIn wsX4_sweep (va_wsS RX4 72 yJ7_fill_53178 wsJ7_fill_53178) := goodIn_app (goodIn_of _ (by decide +kernel)) ggX4_sweep_J7_fill_53178
set_option maxRecDepth 20000 in
theorem ggX4_sweep_X4_touchAll : GoodIn wsX4_sweep wsX4_touchAll := goodIn_r _ [12, 13, 14, 15, 11, 16, 17, 18, 19, 20, 21, 22, 23, 24, 25, 26, 27, 28, 29, 30, 31, 32, 33, 34, 35, 36, 37] (by decide +kernel) (by decide +kernel)
set_option maxRecDepth 20000 in
theorem gX4_sweep_X4_touchAll : GoodIn wsX4_sweep (wsV RX4 78 RX4 yX4_touchAll wsX4_touchAll) := goodIn_app (goodIn_of _ (by decide +kernel)) ggX4_sweep_X4_touchAll
theorem dX4_sweep_0 : decode cX4_sweep 0 = .ok (.aload_n 0, 1) := by decide +kernel
theorem dX4_sweep_1 : decode cX4_sweep 1 = .ok (.getfield 15, 3) := by decide +kernel
theorem dX4_sweep_4 : decode cX4_sweep 4 = .ok (.iconst 0, 1) := by decide +kernel
theorem dX4_sweep_5 : decode cX4_sweep 5 = .ok (.invokestatic 72, 3) := by decide +kernel
theorem dX4_sweep_8 : decode cX4_sweep 8 = .ok (.aload_n 0, 1) := by decide +kernel
theorem dX4_sweep_9 : decode cX4_sweep 9 = .ok (.iconst 0, 1) := by decide +kernel
theorem dX4_sweep_10 : decode cX4_sweep 10 = .ok (.putfield 19, 3) := by decide +kernel
theorem dX4_sweep_13 : decode cX4_sweep 13 = .ok (.aload_n 0, 1) := by decide +kernel
theorem dX4_sweep_14 : decode cX4_sweep 14 = .ok (.iconst 0, 1) := by decide +kernel
theorem dX4_sweep_15 : decode cX4_sweep 15 = .ok (.putfield 23, 3) := by decide +kernel
theorem dX4_sweep_18 : decode cX4_sweep 18 = .ok (.aload_n 0, 1) := by decide +kernel
theorem dX4_sweep_19 : decode cX4_sweep 19 = .ok (.invokevirtual 78, 3) := by decide +kernel
theorem dX4_sweep_22 : decode cX4_sweep 22 = .ok (.return_, 1) := by decide +kernel
set_option maxRecDepth 20000 in
theorem ggX4_layOut_X4_touchAll : GoodIn wsX4_layOut wsX4_touchAll := goodIn_r _ [14, 15, 16, 17, 13, 18, 19, 20, 21, 22, 23, 24, 25, 26, 27, 28, 29, 30, 31, 32, 33, 34, 35, 36, 37, 38, 39] (by decide +kernel) (by decide +kernel)
set_option maxRecDepth 20000 in
theorem gX4_layOut_X4_touchAll : GoodIn wsX4_layOut (wsV RX4 78 RX4 yX4_touchAll wsX4_touchAll) := goodIn_app (goodIn_of _ (by decide +kernel)) ggX4_layOut_X4_touchAll
theorem dX4_layOut_0 : decode cX4_layOut 0 = .ok (.aload_n 1, 1) := by decide +kernel
theorem dX4_layOut_1 : decode cX4_layOut 1 = .ok (.iconst 0, 1) := by decide +kernel
theorem dX4_layOut_2 : decode cX4_layOut 2 = .ok (.aload_n 0, 1) := by decide +kernel
theorem dX4_layOut_3 : decode cX4_layOut 3 = .ok (.getfield 15, 3) := by decide +kernel
theorem dX4_layOut_6 : decode cX4_layOut 6 = .ok (.iconst 0, 1) := by decide +kernel
theorem dX4_layOut_7 : decode cX4_layOut 7 = .ok (.sipush 324, 3) := by decide +kernel
theorem dX4_layOut_10 : decode cX4_layOut 10 = .ok (.invokestatic 81, 3) := by decide +kernel
theorem dX4_layOut_13 : decode cX4_layOut 13 = .ok (.aload_n 0, 1) := by decide +kernel
theorem dX4_layOut_14 : decode cX4_layOut 14 = .ok (.iconst 0, 1) := by decide +kernel
theorem dX4_layOut_15 : decode cX4_layOut 15 = .ok (.putfield 19, 3) := by decide +kernel
theorem dX4_layOut_18 : decode cX4_layOut 18 = .ok (.aload_n 0, 1) := by decide +kernel
theorem dX4_layOut_19 : decode cX4_layOut 19 = .ok (.iconst 0, 1) := by decide +kernel
theorem dX4_layOut_20 : decode cX4_layOut 20 = .ok (.putfield 23, 3) := by decide +kernel
theorem dX4_layOut_23 : decode cX4_layOut 23 = .ok (.iconst 0, 1) := by decide +kernel
theorem dX4_layOut_24 : decode cX4_layOut 24 = .ok (.istore_n 2, 1) := by decide +kernel
theorem dX4_layOut_25 : decode cX4_layOut 25 = .ok (.iload_n 2, 1) := by decide +kernel
theorem dX4_layOut_26 : decode cX4_layOut 26 = .ok (.sipush 324, 3) := by decide +kernel
theorem dX4_layOut_29 : decode cX4_layOut 29 = .ok (.if_icmp .ge 65, 3) := by decide +kernel
theorem dX4_layOut_32 : decode cX4_layOut 32 = .ok (.aload_n 0, 1) := by decide +kernel
theorem dX4_layOut_33 : decode cX4_layOut 33 = .ok (.getfield 15, 3) := by decide +kernel
theorem dX4_layOut_36 : decode cX4_layOut 36 = .ok (.iload_n 2, 1) := by decide +kernel
theorem dX4_layOut_37 : decode cX4_layOut 37 = .ok (.iaload, 1) := by decide +kernel
theorem dX4_layOut_38 : decode cX4_layOut 38 = .ok (.istore_n 3, 1) := by decide +kernel
theorem dX4_layOut_39 : decode cX4_layOut 39 = .ok (.iload_n 3, 1) := by decide +kernel
theorem dX4_layOut_40 : decode cX4_layOut 40 = .ok (.ifCond .eq 48, 3) := by decide +kernel
theorem dX4_layOut_43 : decode cX4_layOut 43 = .ok (.iload_n 3, 1) := by decide +kernel
theorem dX4_layOut_44 : decode cX4_layOut 44 = .ok (.bipush 64, 2) := by decide +kernel
theorem dX4_layOut_46 : decode cX4_layOut 46 = .ok (.if_icmp .gt 42, 3) := by decide +kernel
theorem dX4_layOut_49 : decode cX4_layOut 49 = .ok (.aload_n 0, 1) := by decide +kernel
theorem dX4_layOut_50 : decode cX4_layOut 50 = .ok (.dup, 1) := by decide +kernel
theorem dX4_layOut_51 : decode cX4_layOut 51 = .ok (.getfield 19, 3) := by decide +kernel
theorem dX4_layOut_54 : decode cX4_layOut 54 = .ok (.iconst 1, 1) := by decide +kernel
theorem dX4_layOut_55 : decode cX4_layOut 55 = .ok (.iadd, 1) := by decide +kernel
theorem dX4_layOut_56 : decode cX4_layOut 56 = .ok (.putfield 19, 3) := by decide +kernel
theorem dX4_layOut_59 : decode cX4_layOut 59 = .ok (.aload_n 0, 1) := by decide +kernel
theorem dX4_layOut_60 : decode cX4_layOut 60 = .ok (.dup, 1) := by decide +kernel
theorem dX4_layOut_61 : decode cX4_layOut 61 = .ok (.getfield 23, 3) := by decide +kernel
theorem dX4_layOut_64 : decode cX4_layOut 64 = .ok (.aload_n 0, 1) := by decide +kernel
theorem dX4_layOut_65 : decode cX4_layOut 65 = .ok (.getfield 9, 3) := by decide +kernel
theorem dX4_layOut_68 : decode cX4_layOut 68 = .ok (.getfield 52, 3) := by decide +kernel
theorem dX4_layOut_71 : decode cX4_layOut 71 = .ok (.iload_n 3, 1) := by decide +kernel
theorem dX4_layOut_72 : decode cX4_layOut 72 = .ok (.iconst 1, 1) := by decide +kernel
theorem dX4_layOut_73 : decode cX4_layOut 73 = .ok (.isub, 1) := by decide +kernel
theorem dX4_layOut_74 : decode cX4_layOut 74 = .ok (.iaload, 1) := by decide +kernel
theorem dX4_layOut_75 : decode cX4_layOut 75 = .ok (.iconst 1, 1) := by decide +kernel
theorem dX4_layOut_76 : decode cX4_layOut 76 = .ok (.if_icmp .ne 7, 3) := by decide +kernel
theorem dX4_layOut_79 : decode cX4_layOut 79 = .ok (.iconst 0, 1) := by decide +kernel
theorem dX4_layOut_80 : decode cX4_layOut 80 = .ok (.goto 4, 3) := by decide +kernel
theorem dX4_layOut_83 : decode cX4_layOut 83 = .ok (.iconst 1, 1) := by decide +kernel
theorem dX4_layOut_84 : decode cX4_layOut 84 = .ok (.iadd, 1) := by decide +kernel
theorem dX4_layOut_85 : decode cX4_layOut 85 = .ok (.putfield 23, 3) := by decide +kernel
theorem dX4_layOut_88 : decode cX4_layOut 88 = .ok (.iinc 2 1, 3) := by decide +kernel
theorem dX4_layOut_91 : decode cX4_layOut 91 = .ok (.goto (-66), 3) := by decide +kernel
theorem dX4_layOut_94 : decode cX4_layOut 94 = .ok (.aload_n 0, 1) := by decide +kernel
theorem dX4_layOut_95 : decode cX4_layOut 95 = .ok (.invokevirtual 78, 3) := by decide +kernel
theorem dX4_layOut_98 : decode cX4_layOut 98 = .ok (.return_, 1) := by decide +kernel
set_option maxRecDepth 20000 in
theorem ggX4_touchAll_X4_markStale : GoodIn wsX4_touchAll wsX4_markStale := goodIn_r _ [5, 6, 7, 8, 9, 10, 11, 12, 13, 14, 15, 16, 17, 18, 19, 20, 21, 22, 23, 24, 25, 26] (by decide +kernel) (by decide +kernel)
set_option maxRecDepth 20000 in
theorem gX4_touchAll_X4_markStale : GoodIn wsX4_touchAll (wsV RX4 87 RX4 yX4_markStale wsX4_markStale) := goodIn_app (goodIn_of _ (by decide +kernel)) ggX4_touchAll_X4_markStale
theorem dX4_touchAll_0 : decode cX4_touchAll 0 = .ok (.iconst 0, 1) := by decide +kernel
theorem dX4_touchAll_1 : decode cX4_touchAll 1 = .ok (.istore_n 1, 1) := by decide +kernel
theorem dX4_touchAll_2 : decode cX4_touchAll 2 = .ok (.iload_n 1, 1) := by decide +kernel
theorem dX4_touchAll_3 : decode cX4_touchAll 3 = .ok (.sipush 324, 3) := by decide +kernel
theorem dX4_touchAll_6 : decode cX4_touchAll 6 = .ok (.if_icmp .ge 14, 3) := by decide +kernel
theorem dX4_touchAll_9 : decode cX4_touchAll 9 = .ok (.aload_n 0, 1) := by decide +kernel
theorem dX4_touchAll_10 : decode cX4_touchAll 10 = .ok (.iload_n 1, 1) := by decide +kernel
theorem dX4_touchAll_11 : decode cX4_touchAll 11 = .ok (.invokevirtual 87, 3) := by decide +kernel
theorem dX4_touchAll_14 : decode cX4_touchAll 14 = .ok (.iinc 1 1, 3) := by decide +kernel
theorem dX4_touchAll_17 : decode cX4_touchAll 17 = .ok (.goto (-15), 3) := by decide +kernel
theorem dX4_touchAll_20 : decode cX4_touchAll 20 = .ok (.return_, 1) := by decide +kernel
set_option maxRecDepth 20000 in
theorem ggX4_touch_X4_markStale : GoodIn wsX4_touch wsX4_markStale := goodIn_r _ [5, 6, 7, 8, 9, 10, 11, 12, 13, 14, 15, 16, 17, 18, 19, 20, 21, 22, 23, 24, 25, 26] (by decide +kernel) (by decide +kernel)
set_option maxRecDepth 20000 in
theorem gX4_touch_X4_markStale : GoodIn wsX4_touch (wsV RX4 87 RX4 yX4_markStale wsX4_markStale) := goodIn_app (goodIn_of _ (by decide +kernel)) ggX4_touch_X4_markStale
theorem dX4_touch_0 : decode cX4_touch 0 = .ok (.iconst 0, 1) := by decide +kernel
theorem dX4_touch_1 : decode cX4_touch 1 = .ok (.istore_n 2, 1) := by decide +kernel
theorem dX4_touch_2 : decode cX4_touch 2 = .ok (.iload_n 2, 1) := by decide +kernel
theorem dX4_touch_3 : decode cX4_touch 3 = .ok (.getstatic 90, 3) := by decide +kernel
theorem dX4_touch_6 : decode cX4_touch 6 = .ok (.arraylength, 1) := by decide +kernel
theorem dX4_touch_7 : decode cX4_touch 7 = .ok (.if_icmp .ge 20, 3) := by decide +kernel
theorem dX4_touch_10 : decode cX4_touch 10 = .ok (.aload_n 0, 1) := by decide +kernel
theorem dX4_touch_11 : decode cX4_touch 11 = .ok (.iload_n 1, 1) := by decide +kernel
theorem dX4_touch_12 : decode cX4_touch 12 = .ok (.getstatic 90, 3) := by decide +kernel
theorem dX4_touch_15 : decode cX4_touch 15 = .ok (.iload_n 2, 1) := by decide +kernel
theorem dX4_touch_16 : decode cX4_touch 16 = .ok (.iaload, 1) := by decide +kernel
theorem dX4_touch_17 : decode cX4_touch 17 = .ok (.iadd, 1) := by decide +kernel
theorem dX4_touch_18 : decode cX4_touch 18 = .ok (.invokevirtual 87, 3) := by decide +kernel
theorem dX4_touch_21 : decode cX4_touch 21 = .ok (.iinc 2 1, 3) := by decide +kernel
theorem dX4_touch_24 : decode cX4_touch 24 = .ok (.goto (-22), 3) := by decide +kernel
theorem dX4_touch_27 : decode cX4_touch 27 = .ok (.return_, 1) := by decide +kernel
set_option maxRecDepth 20000 in
theorem ggX4_markStale_X7_isOnSheet : GoodIn wsX4_markStale wsX7_isOnSheet := goodIn_r _ [6] (by decide +kernel) (by decide +kernel)
set_option maxRecDepth 20000 in
theorem gX4_markStale_X7_isOnSheet_n93 : GoodIn wsX4_markStale (wsX7_isOnSheet) := ggX4_markStale_X7_isOnSheet
theorem dX4_markStale_0 : decode cX4_markStale 0 = .ok (.iload_n 1, 1) := by decide +kernel
theorem dX4_markStale_1 : decode cX4_markStale 1 = .ok (.invokestatic 93, 3) := by decide +kernel
theorem dX4_markStale_4 : decode cX4_markStale 4 = .ok (.ifCond .eq 39, 3) := by decide +kernel
theorem dX4_markStale_7 : decode cX4_markStale 7 = .ok (.aload_n 0, 1) := by decide +kernel
theorem dX4_markStale_8 : decode cX4_markStale 8 = .ok (.getfield 36, 3) := by decide +kernel
theorem dX4_markStale_11 : decode cX4_markStale 11 = .ok (.iload_n 1, 1) := by decide +kernel
theorem dX4_markStale_12 : decode cX4_markStale 12 = .ok (.baload, 1) := by decide +kernel
theorem dX4_markStale_13 : decode cX4_markStale 13 = .ok (.ifCond .ne 30, 3) := by decide +kernel
theorem dX4_markStale_16 : decode cX4_markStale 16 = .ok (.aload_n 0, 1) := by decide +kernel
theorem dX4_markStale_17 : decode cX4_markStale 17 = .ok (.getfield 36, 3) := by decide +kernel
theorem dX4_markStale_20 : decode cX4_markStale 20 = .ok (.iload_n 1, 1) := by decide +kernel
theorem dX4_markStale_21 : decode cX4_markStale 21 = .ok (.iconst 1, 1) := by decide +kernel
theorem dX4_markStale_22 : decode cX4_markStale 22 = .ok (.bastore, 1) := by decide +kernel
theorem dX4_markStale_23 : decode cX4_markStale 23 = .ok (.aload_n 0, 1) := by decide +kernel
theorem dX4_markStale_24 : decode cX4_markStale 24 = .ok (.getfield 40, 3) := by decide +kernel
theorem dX4_markStale_27 : decode cX4_markStale 27 = .ok (.aload_n 0, 1) := by decide +kernel
theorem dX4_markStale_28 : decode cX4_markStale 28 = .ok (.getfield 43, 3) := by decide +kernel
theorem dX4_markStale_31 : decode cX4_markStale 31 = .ok (.iload_n 1, 1) := by decide +kernel
theorem dX4_markStale_32 : decode cX4_markStale 32 = .ok (.iastore, 1) := by decide +kernel
theorem dX4_markStale_33 : decode cX4_markStale 33 = .ok (.aload_n 0, 1) := by decide +kernel
theorem dX4_markStale_34 : decode cX4_markStale 34 = .ok (.dup, 1) := by decide +kernel
theorem dX4_markStale_35 : decode cX4_markStale 35 = .ok (.getfield 43, 3) := by decide +kernel
theorem dX4_markStale_38 : decode cX4_markStale 38 = .ok (.iconst 1, 1) := by decide +kernel
theorem dX4_markStale_39 : decode cX4_markStale 39 = .ok (.iadd, 1) := by decide +kernel
theorem dX4_markStale_40 : decode cX4_markStale 40 = .ok (.putfield 43, 3) := by decide +kernel
theorem dX4_markStale_43 : decode cX4_markStale 43 = .ok (.return_, 1) := by decide +kernel
set_option maxRecDepth 20000 in
theorem ggX4_renewStale_X4_fitsNow : GoodIn wsX4_renewStale wsX4_fitsNow := goodIn_r _ [11, 12, 13, 14, 15, 16, 17, 18, 19, 20, 21, 10, 22, 23, 24, 25, 26, 27, 28, 29, 30, 31, 32, 33, 34, 35, 36, 37, 38, 39, 40, 41, 42, 43, 44, 45, 46, 47, 48, 49, 50, 51, 52, 53, 54, 55, 65, 66, 67, 68, 69, 70, 71, 72, 73, 74, 75, 76, 77, 78, 79, 80, 81, 82, 83, 84, 85, 86, 87, 88, 89, 90, 91, 92] (by decide +kernel) (by decide +kernel)
set_option maxRecDepth 20000 in
theorem gX4_renewStale_X4_fitsNow : GoodIn wsX4_renewStale (wsV RX4 96 RX4 yX4_fitsNow wsX4_fitsNow) := goodIn_app (goodIn_of _ (by decide +kernel)) ggX4_renewStale_X4_fitsNow
set_option maxRecDepth 20000 in
theorem ggX4_renewStale_J13_bitCount_95d88 : GoodIn wsX4_renewStale wsJ13_bitCount_95d88 := goodIn_r _ [59, 60, 61, 62] (by decide +kernel) (by decide +kernel)
set_option maxRecDepth 20000 in
theorem gX4_renewStale_J13_bitCount_95d88 : GoodIn wsX4_renewStale (va_wsS RX4 100 yJ13_bitCount_95d88 wsJ13_bitCount_95d88) := goodIn_app (goodIn_of _ (by decide +kernel)) ggX4_renewStale_J13_bitCount_95d88
set_option maxRecDepth 20000 in
theorem ggX4_renewStale_X7_lineOf : GoodIn wsX4_renewStale wsX7_lineOf := goodIn_r _ [64] (by decide +kernel) (by decide +kernel)
set_option maxRecDepth 20000 in
theorem gX4_renewStale_X7_lineOf_n106 : GoodIn wsX4_renewStale (wsX7_lineOf) := ggX4_renewStale_X7_lineOf
theorem dX4_renewStale_0 : decode cX4_renewStale 0 = .ok (.iconst 0, 1) := by decide +kernel
theorem dX4_renewStale_1 : decode cX4_renewStale 1 = .ok (.istore_n 1, 1) := by decide +kernel
theorem dX4_renewStale_2 : decode cX4_renewStale 2 = .ok (.iload_n 1, 1) := by decide +kernel
theorem dX4_renewStale_3 : decode cX4_renewStale 3 = .ok (.aload_n 0, 1) := by decide +kernel
theorem dX4_renewStale_4 : decode cX4_renewStale 4 = .ok (.getfield 43, 3) := by decide +kernel
theorem dX4_renewStale_7 : decode cX4_renewStale 7 = .ok (.if_icmp .ge 77, 3) := by decide +kernel
theorem dX4_renewStale_10 : decode cX4_renewStale 10 = .ok (.aload_n 0, 1) := by decide +kernel
theorem dX4_renewStale_11 : decode cX4_renewStale 11 = .ok (.getfield 40, 3) := by decide +kernel
theorem dX4_renewStale_14 : decode cX4_renewStale 14 = .ok (.iload_n 1, 1) := by decide +kernel
theorem dX4_renewStale_15 : decode cX4_renewStale 15 = .ok (.iaload, 1) := by decide +kernel
theorem dX4_renewStale_16 : decode cX4_renewStale 16 = .ok (.istore_n 2, 1) := by decide +kernel
theorem dX4_renewStale_17 : decode cX4_renewStale 17 = .ok (.aload_n 0, 1) := by decide +kernel
theorem dX4_renewStale_18 : decode cX4_renewStale 18 = .ok (.iload_n 2, 1) := by decide +kernel
theorem dX4_renewStale_19 : decode cX4_renewStale 19 = .ok (.invokevirtual 96, 3) := by decide +kernel
theorem dX4_renewStale_22 : decode cX4_renewStale 22 = .ok (.lstore_n 3, 1) := by decide +kernel
theorem dX4_renewStale_23 : decode cX4_renewStale 23 = .ok (.lload_n 3, 1) := by decide +kernel
theorem dX4_renewStale_24 : decode cX4_renewStale 24 = .ok (.invokestatic 100, 3) := by decide +kernel
theorem dX4_renewStale_27 : decode cX4_renewStale 27 = .ok (.aload_n 0, 1) := by decide +kernel
theorem dX4_renewStale_28 : decode cX4_renewStale 28 = .ok (.getfield 26, 3) := by decide +kernel
theorem dX4_renewStale_31 : decode cX4_renewStale 31 = .ok (.iload_n 2, 1) := by decide +kernel
theorem dX4_renewStale_32 : decode cX4_renewStale 32 = .ok (.laload, 1) := by decide +kernel
theorem dX4_renewStale_33 : decode cX4_renewStale 33 = .ok (.invokestatic 100, 3) := by decide +kernel
theorem dX4_renewStale_36 : decode cX4_renewStale 36 = .ok (.isub, 1) := by decide +kernel
theorem dX4_renewStale_37 : decode cX4_renewStale 37 = .ok (.istore 5, 2) := by decide +kernel
theorem dX4_renewStale_39 : decode cX4_renewStale 39 = .ok (.aload_n 0, 1) := by decide +kernel
theorem dX4_renewStale_40 : decode cX4_renewStale 40 = .ok (.getfield 26, 3) := by decide +kernel
theorem dX4_renewStale_43 : decode cX4_renewStale 43 = .ok (.iload_n 2, 1) := by decide +kernel
theorem dX4_renewStale_44 : decode cX4_renewStale 44 = .ok (.lload_n 3, 1) := by decide +kernel
theorem dX4_renewStale_45 : decode cX4_renewStale 45 = .ok (.lastore, 1) := by decide +kernel
theorem dX4_renewStale_46 : decode cX4_renewStale 46 = .ok (.aload_n 0, 1) := by decide +kernel
theorem dX4_renewStale_47 : decode cX4_renewStale 47 = .ok (.getfield 30, 3) := by decide +kernel
theorem dX4_renewStale_50 : decode cX4_renewStale 50 = .ok (.iload_n 2, 1) := by decide +kernel
theorem dX4_renewStale_51 : decode cX4_renewStale 51 = .ok (.invokestatic 106, 3) := by decide +kernel
theorem dX4_renewStale_54 : decode cX4_renewStale 54 = .ok (.dup2, 1) := by decide +kernel
theorem dX4_renewStale_55 : decode cX4_renewStale 55 = .ok (.iaload, 1) := by decide +kernel
theorem dX4_renewStale_56 : decode cX4_renewStale 56 = .ok (.iload 5, 2) := by decide +kernel
theorem dX4_renewStale_58 : decode cX4_renewStale 58 = .ok (.iadd, 1) := by decide +kernel
theorem dX4_renewStale_59 : decode cX4_renewStale 59 = .ok (.iastore, 1) := by decide +kernel
theorem dX4_renewStale_60 : decode cX4_renewStale 60 = .ok (.aload_n 0, 1) := by decide +kernel
theorem dX4_renewStale_61 : decode cX4_renewStale 61 = .ok (.dup, 1) := by decide +kernel
theorem dX4_renewStale_62 : decode cX4_renewStale 62 = .ok (.getfield 33, 3) := by decide +kernel
theorem dX4_renewStale_65 : decode cX4_renewStale 65 = .ok (.iload 5, 2) := by decide +kernel
theorem dX4_renewStale_67 : decode cX4_renewStale 67 = .ok (.iadd, 1) := by decide +kernel
theorem dX4_renewStale_68 : decode cX4_renewStale 68 = .ok (.putfield 33, 3) := by decide +kernel
theorem dX4_renewStale_71 : decode cX4_renewStale 71 = .ok (.aload_n 0, 1) := by decide +kernel
theorem dX4_renewStale_72 : decode cX4_renewStale 72 = .ok (.getfield 36, 3) := by decide +kernel
theorem dX4_renewStale_75 : decode cX4_renewStale 75 = .ok (.iload_n 2, 1) := by decide +kernel
theorem dX4_renewStale_76 : decode cX4_renewStale 76 = .ok (.iconst 0, 1) := by decide +kernel
theorem dX4_renewStale_77 : decode cX4_renewStale 77 = .ok (.bastore, 1) := by decide +kernel
theorem dX4_renewStale_78 : decode cX4_renewStale 78 = .ok (.iinc 1 1, 3) := by decide +kernel
theorem dX4_renewStale_81 : decode cX4_renewStale 81 = .ok (.goto (-79), 3) := by decide +kernel
theorem dX4_renewStale_84 : decode cX4_renewStale 84 = .ok (.aload_n 0, 1) := by decide +kernel
theorem dX4_renewStale_85 : decode cX4_renewStale 85 = .ok (.iconst 0, 1) := by decide +kernel
theorem dX4_renewStale_86 : decode cX4_renewStale 86 = .ok (.putfield 43, 3) := by decide +kernel
theorem dX4_renewStale_89 : decode cX4_renewStale 89 = .ok (.return_, 1) := by decide +kernel
set_option maxRecDepth 20000 in
theorem ggX4_countFits_X4_renewStale : GoodIn wsX4_countFits wsX4_renewStale := goodIn_r _ [6, 7, 8, 9, 10, 1, 11, 12, 13, 14, 5, 15, 16, 17, 18, 19, 20, 21, 22, 23, 24, 25, 26, 27, 28, 29, 30, 31, 32, 33, 34, 35, 36, 37, 38, 39, 40, 41, 42, 43, 44, 45, 46, 47, 48, 49, 50, 51, 52, 53, 54, 55, 56, 57, 58, 59, 60, 61, 62, 63, 64, 65, 66, 67, 68, 69, 70, 71, 72, 73, 74, 75, 76, 77, 78, 79, 80, 81, 82, 83, 84, 85, 86, 87, 88, 89, 90, 91, 92, 93, 94, 95, 96] (by decide +kernel) (by decide +kernel)
set_option maxRecDepth 20000 in
theorem gX4_countFits_X4_renewStale : GoodIn wsX4_countFits (wsV RX4 109 RX4 yX4_renewStale wsX4_renewStale) := goodIn_app (goodIn_of _ (by decide +kernel)) ggX4_countFits_X4_renewStale
theorem dX4_countFits_0 : decode cX4_countFits 0 = .ok (.aload_n 0, 1) := by decide +kernel
theorem dX4_countFits_1 : decode cX4_countFits 1 = .ok (.invokevirtual 109, 3) := by decide +kernel
theorem dX4_countFits_4 : decode cX4_countFits 4 = .ok (.aload_n 0, 1) := by decide +kernel
theorem dX4_countFits_5 : decode cX4_countFits 5 = .ok (.getfield 33, 3) := by decide +kernel
theorem dX4_countFits_8 : decode cX4_countFits 8 = .ok (.ireturn, 1) := by decide +kernel
set_option maxRecDepth 20000 in
theorem ggX4_fitsAt_X4_renewStale : GoodIn wsX4_fitsAt wsX4_renewStale := goodIn_r _ [6, 7, 8, 1, 9, 10, 11, 12, 13, 14, 5, 15, 16, 17, 18, 19, 20, 21, 22, 23, 24, 25, 26, 27, 28, 29, 30, 31, 32, 33, 34, 35, 36, 37, 38, 39, 40, 41, 42, 43, 44, 45, 46, 47, 48, 49, 50, 51, 52, 53, 54, 55, 56, 57, 58, 59, 60, 61, 62, 63, 64, 65, 66, 67, 68, 69, 70, 71, 72, 73, 74, 75, 76, 77, 78, 79, 80, 81, 82, 83, 84, 85, 86, 87, 88, 89, 90, 91, 92, 93, 94, 95, 96] (by decide +kernel) (by decide +kernel)
set_option maxRecDepth 20000 in
theorem gX4_fitsAt_X4_renewStale : GoodIn wsX4_fitsAt (wsV RX4 109 RX4 yX4_renewStale wsX4_renewStale) := goodIn_app (goodIn_of _ (by decide +kernel)) ggX4_fitsAt_X4_renewStale
theorem dX4_fitsAt_0 : decode cX4_fitsAt 0 = .ok (.aload_n 0, 1) := by decide +kernel
theorem dX4_fitsAt_1 : decode cX4_fitsAt 1 = .ok (.invokevirtual 109, 3) := by decide +kernel
theorem dX4_fitsAt_4 : decode cX4_fitsAt 4 = .ok (.aload_n 0, 1) := by decide +kernel
theorem dX4_fitsAt_5 : decode cX4_fitsAt 5 = .ok (.getfield 26, 3) := by decide +kernel
theorem dX4_fitsAt_8 : decode cX4_fitsAt 8 = .ok (.iload_n 1, 1) := by decide +kernel
theorem dX4_fitsAt_9 : decode cX4_fitsAt 9 = .ok (.laload, 1) := by decide +kernel
theorem dX4_fitsAt_10 : decode cX4_fitsAt 10 = .ok (.iload_n 2, 1) := by decide +kernel
theorem dX4_fitsAt_11 : decode cX4_fitsAt 11 = .ok (.lushr, 1) := by decide +kernel
theorem dX4_fitsAt_12 : decode cX4_fitsAt 12 = .ok (.lconst 1, 1) := by decide +kernel
theorem dX4_fitsAt_13 : decode cX4_fitsAt 13 = .ok (.land, 1) := by decide +kernel
theorem dX4_fitsAt_14 : decode cX4_fitsAt 14 = .ok (.lconst 1, 1) := by decide +kernel
theorem dX4_fitsAt_15 : decode cX4_fitsAt 15 = .ok (.lcmp, 1) := by decide +kernel
theorem dX4_fitsAt_16 : decode cX4_fitsAt 16 = .ok (.ifCond .ne 7, 3) := by decide +kernel
theorem dX4_fitsAt_19 : decode cX4_fitsAt 19 = .ok (.iconst 1, 1) := by decide +kernel
theorem dX4_fitsAt_20 : decode cX4_fitsAt 20 = .ok (.goto 4, 3) := by decide +kernel
theorem dX4_fitsAt_23 : decode cX4_fitsAt 23 = .ok (.iconst 0, 1) := by decide +kernel
theorem dX4_fitsAt_24 : decode cX4_fitsAt 24 = .ok (.ireturn, 1) := by decide +kernel
set_option maxRecDepth 20000 in
theorem ggX4_findFit_X4_renewStale : GoodIn wsX4_findFit wsX4_renewStale := goodIn_r _ [6, 7, 8, 9, 1, 10, 11, 12, 13, 14, 5, 15, 16, 17, 18, 19, 20, 21, 22, 23, 24, 25, 26, 27, 28, 29, 30, 31, 32, 33, 34, 35, 36, 37, 38, 39, 40, 41, 42, 43, 44, 45, 46, 47, 48, 49, 50, 51, 52, 53, 54, 55, 56, 57, 58, 59, 60, 61, 62, 63, 64, 65, 66, 67, 68, 86, 87, 88, 89, 90, 91, 92, 93, 94, 95, 96, 97, 98, 99, 100, 101, 102, 103, 104, 105, 106, 107, 108, 109, 110, 111, 112, 113] (by decide +kernel) (by decide +kernel)
set_option maxRecDepth 20000 in
theorem gX4_findFit_X4_renewStale : GoodIn wsX4_findFit (wsV RX4 109 RX4 yX4_renewStale wsX4_renewStale) := goodIn_app (goodIn_of _ (by decide +kernel)) ggX4_findFit_X4_renewStale
set_option maxRecDepth 20000 in
theorem ggX4_findFit_X4_findInLine : GoodIn wsX4_findFit wsX4_findInLine := goodIn_r _ [72, 9, 73, 28, 74, 60, 61, 62, 63, 64, 65, 66, 75, 76, 5, 77, 78, 79, 80, 81, 82, 83, 84, 85, 86, 87, 88, 89, 90, 91, 92, 93, 94, 95, 96, 97, 98, 99, 100] (by decide +kernel) (by decide +kernel)
set_option maxRecDepth 20000 in
theorem gX4_findFit_X4_findInLine : GoodIn wsX4_findFit (wsV RX4 112 RX4 yX4_findInLine wsX4_findInLine) := goodIn_app (goodIn_of _ (by decide +kernel)) ggX4_findFit_X4_findInLine
theorem dX4_findFit_0 : decode cX4_findFit 0 = .ok (.aload_n 0, 1) := by decide +kernel
theorem dX4_findFit_1 : decode cX4_findFit 1 = .ok (.invokevirtual 109, 3) := by decide +kernel
theorem dX4_findFit_4 : decode cX4_findFit 4 = .ok (.iload_n 1, 1) := by decide +kernel
theorem dX4_findFit_5 : decode cX4_findFit 5 = .ok (.istore_n 2, 1) := by decide +kernel
theorem dX4_findFit_6 : decode cX4_findFit 6 = .ok (.iconst 0, 1) := by decide +kernel
theorem dX4_findFit_7 : decode cX4_findFit 7 = .ok (.istore_n 3, 1) := by decide +kernel
theorem dX4_findFit_8 : decode cX4_findFit 8 = .ok (.iload_n 3, 1) := by decide +kernel
theorem dX4_findFit_9 : decode cX4_findFit 9 = .ok (.bipush 16, 2) := by decide +kernel
theorem dX4_findFit_11 : decode cX4_findFit 11 = .ok (.if_icmp .ge 35, 3) := by decide +kernel
theorem dX4_findFit_14 : decode cX4_findFit 14 = .ok (.iload_n 2, 1) := by decide +kernel
theorem dX4_findFit_15 : decode cX4_findFit 15 = .ok (.aload_n 0, 1) := by decide +kernel
theorem dX4_findFit_16 : decode cX4_findFit 16 = .ok (.getfield 30, 3) := by decide +kernel
theorem dX4_findFit_19 : decode cX4_findFit 19 = .ok (.iload_n 3, 1) := by decide +kernel
theorem dX4_findFit_20 : decode cX4_findFit 20 = .ok (.iaload, 1) := by decide +kernel
theorem dX4_findFit_21 : decode cX4_findFit 21 = .ok (.if_icmp .ge 10, 3) := by decide +kernel
theorem dX4_findFit_24 : decode cX4_findFit 24 = .ok (.aload_n 0, 1) := by decide +kernel
theorem dX4_findFit_25 : decode cX4_findFit 25 = .ok (.iload_n 3, 1) := by decide +kernel
theorem dX4_findFit_26 : decode cX4_findFit 26 = .ok (.iload_n 2, 1) := by decide +kernel
theorem dX4_findFit_27 : decode cX4_findFit 27 = .ok (.invokevirtual 112, 3) := by decide +kernel
theorem dX4_findFit_30 : decode cX4_findFit 30 = .ok (.ireturn, 1) := by decide +kernel
theorem dX4_findFit_31 : decode cX4_findFit 31 = .ok (.iload_n 2, 1) := by decide +kernel
theorem dX4_findFit_32 : decode cX4_findFit 32 = .ok (.aload_n 0, 1) := by decide +kernel
theorem dX4_findFit_33 : decode cX4_findFit 33 = .ok (.getfield 30, 3) := by decide +kernel
theorem dX4_findFit_36 : decode cX4_findFit 36 = .ok (.iload_n 3, 1) := by decide +kernel
theorem dX4_findFit_37 : decode cX4_findFit 37 = .ok (.iaload, 1) := by decide +kernel
theorem dX4_findFit_38 : decode cX4_findFit 38 = .ok (.isub, 1) := by decide +kernel
theorem dX4_findFit_39 : decode cX4_findFit 39 = .ok (.istore_n 2, 1) := by decide +kernel
theorem dX4_findFit_40 : decode cX4_findFit 40 = .ok (.iinc 3 1, 3) := by decide +kernel
theorem dX4_findFit_43 : decode cX4_findFit 43 = .ok (.goto (-35), 3) := by decide +kernel
theorem dX4_findFit_46 : decode cX4_findFit 46 = .ok (.iconst (-1), 1) := by decide +kernel
theorem dX4_findFit_47 : decode cX4_findFit 47 = .ok (.ireturn, 1) := by decide +kernel
set_option maxRecDepth 20000 in
theorem ggX4_findInLine_X7_placeOf : GoodIn wsX4_findInLine wsX7_placeOf := goodIn_r _ [4] (by decide +kernel) (by decide +kernel)
set_option maxRecDepth 20000 in
theorem gX4_findInLine_X7_placeOf_n116 : GoodIn wsX4_findInLine (wsX7_placeOf) := ggX4_findInLine_X7_placeOf
set_option maxRecDepth 20000 in
theorem ggX4_findInLine_J13_bitCount_95d88 : GoodIn wsX4_findInLine wsJ13_bitCount_95d88 := goodIn_r _ [8, 9, 10, 11] (by decide +kernel) (by decide +kernel)
set_option maxRecDepth 20000 in
theorem gX4_findInLine_J13_bitCount_95d88 : GoodIn wsX4_findInLine (va_wsS RX4 100 yJ13_bitCount_95d88 wsJ13_bitCount_95d88) := goodIn_app (goodIn_of _ (by decide +kernel)) ggX4_findInLine_J13_bitCount_95d88
set_option maxRecDepth 20000 in
theorem ggX4_findInLine_X4_lowestBitAfter : GoodIn wsX4_findInLine wsX4_lowestBitAfter := goodIn_r _ [15, 16, 17, 7, 18, 19, 20, 21, 22, 23] (by decide +kernel) (by decide +kernel)
set_option maxRecDepth 20000 in
theorem gX4_findInLine_X4_lowestBitAfter : GoodIn wsX4_findInLine (va_wsS RX4 119 yX4_lowestBitAfter wsX4_lowestBitAfter) := goodIn_app (goodIn_of _ (by decide +kernel)) ggX4_findInLine_X4_lowestBitAfter
theorem dX4_findInLine_0 : decode cX4_findInLine 0 = .ok (.iload_n 2, 1) := by decide +kernel
theorem dX4_findInLine_1 : decode cX4_findInLine 1 = .ok (.istore_n 3, 1) := by decide +kernel
theorem dX4_findInLine_2 : decode cX4_findInLine 2 = .ok (.iconst 0, 1) := by decide +kernel
theorem dX4_findInLine_3 : decode cX4_findInLine 3 = .ok (.istore 4, 2) := by decide +kernel
theorem dX4_findInLine_5 : decode cX4_findInLine 5 = .ok (.iload 4, 2) := by decide +kernel
theorem dX4_findInLine_7 : decode cX4_findInLine 7 = .ok (.bipush 16, 2) := by decide +kernel
theorem dX4_findInLine_9 : decode cX4_findInLine 9 = .ok (.if_icmp .ge 58, 3) := by decide +kernel
theorem dX4_findInLine_12 : decode cX4_findInLine 12 = .ok (.iload 4, 2) := by decide +kernel
theorem dX4_findInLine_14 : decode cX4_findInLine 14 = .ok (.iload_n 1, 1) := by decide +kernel
theorem dX4_findInLine_15 : decode cX4_findInLine 15 = .ok (.invokestatic 116, 3) := by decide +kernel
theorem dX4_findInLine_18 : decode cX4_findInLine 18 = .ok (.istore 5, 2) := by decide +kernel
theorem dX4_findInLine_20 : decode cX4_findInLine 20 = .ok (.aload_n 0, 1) := by decide +kernel
theorem dX4_findInLine_21 : decode cX4_findInLine 21 = .ok (.getfield 26, 3) := by decide +kernel
theorem dX4_findInLine_24 : decode cX4_findInLine 24 = .ok (.iload 5, 2) := by decide +kernel
theorem dX4_findInLine_26 : decode cX4_findInLine 26 = .ok (.laload, 1) := by decide +kernel
theorem dX4_findInLine_27 : decode cX4_findInLine 27 = .ok (.invokestatic 100, 3) := by decide +kernel
theorem dX4_findInLine_30 : decode cX4_findInLine 30 = .ok (.istore 6, 2) := by decide +kernel
theorem dX4_findInLine_32 : decode cX4_findInLine 32 = .ok (.iload_n 3, 1) := by decide +kernel
theorem dX4_findInLine_33 : decode cX4_findInLine 33 = .ok (.iload 6, 2) := by decide +kernel
theorem dX4_findInLine_35 : decode cX4_findInLine 35 = .ok (.if_icmp .ge 21, 3) := by decide +kernel
theorem dX4_findInLine_38 : decode cX4_findInLine 38 = .ok (.bipush 64, 2) := by decide +kernel
theorem dX4_findInLine_40 : decode cX4_findInLine 40 = .ok (.iload 5, 2) := by decide +kernel
theorem dX4_findInLine_42 : decode cX4_findInLine 42 = .ok (.imul, 1) := by decide +kernel
theorem dX4_findInLine_43 : decode cX4_findInLine 43 = .ok (.aload_n 0, 1) := by decide +kernel
theorem dX4_findInLine_44 : decode cX4_findInLine 44 = .ok (.getfield 26, 3) := by decide +kernel
theorem dX4_findInLine_47 : decode cX4_findInLine 47 = .ok (.iload 5, 2) := by decide +kernel
theorem dX4_findInLine_49 : decode cX4_findInLine 49 = .ok (.laload, 1) := by decide +kernel
theorem dX4_findInLine_50 : decode cX4_findInLine 50 = .ok (.iload_n 3, 1) := by decide +kernel
theorem dX4_findInLine_51 : decode cX4_findInLine 51 = .ok (.invokestatic 119, 3) := by decide +kernel
theorem dX4_findInLine_54 : decode cX4_findInLine 54 = .ok (.iadd, 1) := by decide +kernel
theorem dX4_findInLine_55 : decode cX4_findInLine 55 = .ok (.ireturn, 1) := by decide +kernel
theorem dX4_findInLine_56 : decode cX4_findInLine 56 = .ok (.iload_n 3, 1) := by decide +kernel
theorem dX4_findInLine_57 : decode cX4_findInLine 57 = .ok (.iload 6, 2) := by decide +kernel
theorem dX4_findInLine_59 : decode cX4_findInLine 59 = .ok (.isub, 1) := by decide +kernel
theorem dX4_findInLine_60 : decode cX4_findInLine 60 = .ok (.istore_n 3, 1) := by decide +kernel
theorem dX4_findInLine_61 : decode cX4_findInLine 61 = .ok (.iinc 4 1, 3) := by decide +kernel
theorem dX4_findInLine_64 : decode cX4_findInLine 64 = .ok (.goto (-59), 3) := by decide +kernel
theorem dX4_findInLine_67 : decode cX4_findInLine 67 = .ok (.iconst (-1), 1) := by decide +kernel
theorem dX4_findInLine_68 : decode cX4_findInLine 68 = .ok (.ireturn, 1) := by decide +kernel
set_option maxRecDepth 20000 in
theorem ggX4_lowestBitAfter_J13_numberOfTrailingZeros_95d88 : GoodIn wsX4_lowestBitAfter wsJ13_numberOfTrailingZeros_95d88 := goodIn_r _ [4, 5, 6, 7, 8, 9] (by decide +kernel) (by decide +kernel)
set_option maxRecDepth 20000 in
theorem gX4_lowestBitAfter_J13_numberOfTrailingZeros_95d88 : GoodIn wsX4_lowestBitAfter (va_wsS RX4 123 yJ13_numberOfTrailingZeros_95d88 wsJ13_numberOfTrailingZeros_95d88) := goodIn_app (goodIn_of _ (by decide +kernel)) ggX4_lowestBitAfter_J13_numberOfTrailingZeros_95d88
theorem dX4_lowestBitAfter_0 : decode cX4_lowestBitAfter 0 = .ok (.lload_n 0, 1) := by decide +kernel
theorem dX4_lowestBitAfter_1 : decode cX4_lowestBitAfter 1 = .ok (.lstore_n 3, 1) := by decide +kernel
theorem dX4_lowestBitAfter_2 : decode cX4_lowestBitAfter 2 = .ok (.iconst 0, 1) := by decide +kernel
theorem dX4_lowestBitAfter_3 : decode cX4_lowestBitAfter 3 = .ok (.istore 5, 2) := by decide +kernel
theorem dX4_lowestBitAfter_5 : decode cX4_lowestBitAfter 5 = .ok (.iload 5, 2) := by decide +kernel
theorem dX4_lowestBitAfter_7 : decode cX4_lowestBitAfter 7 = .ok (.iload_n 2, 1) := by decide +kernel
theorem dX4_lowestBitAfter_8 : decode cX4_lowestBitAfter 8 = .ok (.if_icmp .ge 15, 3) := by decide +kernel
theorem dX4_lowestBitAfter_11 : decode cX4_lowestBitAfter 11 = .ok (.lload_n 3, 1) := by decide +kernel
theorem dX4_lowestBitAfter_12 : decode cX4_lowestBitAfter 12 = .ok (.lload_n 3, 1) := by decide +kernel
theorem dX4_lowestBitAfter_13 : decode cX4_lowestBitAfter 13 = .ok (.lconst 1, 1) := by decide +kernel
theorem dX4_lowestBitAfter_14 : decode cX4_lowestBitAfter 14 = .ok (.lsub, 1) := by decide +kernel
theorem dX4_lowestBitAfter_15 : decode cX4_lowestBitAfter 15 = .ok (.land, 1) := by decide +kernel
theorem dX4_lowestBitAfter_16 : decode cX4_lowestBitAfter 16 = .ok (.lstore_n 3, 1) := by decide +kernel
theorem dX4_lowestBitAfter_17 : decode cX4_lowestBitAfter 17 = .ok (.iinc 5 1, 3) := by decide +kernel
theorem dX4_lowestBitAfter_20 : decode cX4_lowestBitAfter 20 = .ok (.goto (-15), 3) := by decide +kernel
theorem dX4_lowestBitAfter_23 : decode cX4_lowestBitAfter 23 = .ok (.lload_n 3, 1) := by decide +kernel
theorem dX4_lowestBitAfter_24 : decode cX4_lowestBitAfter 24 = .ok (.invokestatic 123, 3) := by decide +kernel
theorem dX4_lowestBitAfter_27 : decode cX4_lowestBitAfter 27 = .ok (.ireturn, 1) := by decide +kernel
set_option maxRecDepth 20000 in
theorem ggX4_fitsNow_X4_isRightFree : GoodIn wsX4_fitsNow wsX4_isRightFree := goodIn_r _ [12, 1, 13, 14, 15, 46, 47, 48, 49, 50, 51, 52, 53, 54, 55, 56, 57, 58, 59, 60] (by decide +kernel) (by decide +kernel)
set_option maxRecDepth 20000 in
theorem gX4_fitsNow_X4_isRightFree : GoodIn wsX4_fitsNow (wsV RX4 57 RX4 yX4_isRightFree wsX4_isRightFree) := goodIn_app (goodIn_of _ (by decide +kernel)) ggX4_fitsNow_X4_isRightFree
set_option maxRecDepth 20000 in
theorem ggX4_fitsNow_X4_startSums : GoodIn wsX4_fitsNow wsX4_startSums := goodIn_r _ [19, 20, 21, 22, 46, 47, 48, 49, 50, 51, 52, 53, 54, 55, 56, 57, 58, 59, 60] (by decide +kernel) (by decide +kernel)
set_option maxRecDepth 20000 in
theorem gX4_fitsNow_X4_startSums : GoodIn wsX4_fitsNow (wsV RX4 126 RX4 yX4_startSums wsX4_startSums) := goodIn_app (goodIn_of _ (by decide +kernel)) ggX4_fitsNow_X4_startSums
set_option maxRecDepth 20000 in
theorem ggX4_fitsNow_X4_sumUp : GoodIn wsX4_fitsNow wsX4_sumUp := goodIn_r _ [26, 1, 2, 27, 28, 22, 21, 20, 29, 14, 30, 46, 47, 48, 49, 50, 51, 52, 53, 54, 55, 56, 57, 58, 59, 60, 61, 62, 63, 64, 65, 66, 67, 68, 69, 70, 71, 72, 73] (by decide +kernel) (by decide +kernel)
set_option maxRecDepth 20000 in
theorem gX4_fitsNow_X4_sumUp : GoodIn wsX4_fitsNow (wsV RX4 132 RX4 yX4_sumUp wsX4_sumUp) := goodIn_app (goodIn_of _ (by decide +kernel)) ggX4_fitsNow_X4_sumUp
set_option maxRecDepth 20000 in
theorem ggX4_fitsNow_X4_heldEnough : GoodIn wsX4_fitsNow wsX4_heldEnough := goodIn_r _ [34, 2, 35, 20, 21, 22, 46, 47, 48, 49, 50, 51, 52, 53, 54, 55, 56, 57, 58, 59, 60, 61, 62, 63, 64, 65, 66, 67, 68, 69, 70, 71, 72, 73] (by decide +kernel) (by decide +kernel)
set_option maxRecDepth 20000 in
theorem gX4_fitsNow_X4_heldEnough : GoodIn wsX4_fitsNow (wsV RX4 139 RX4 yX4_heldEnough wsX4_heldEnough) := goodIn_app (goodIn_of _ (by decide +kernel)) ggX4_fitsNow_X4_heldEnough
set_option maxRecDepth 20000 in
theorem ggX4_fitsNow_X4_barredAt : GoodIn wsX4_fitsNow wsX4_barredAt := goodIn_r _ [39, 7, 1, 2, 40, 41, 42, 43, 11, 44, 45, 46, 47, 48, 49, 50, 51, 52, 53, 54, 55, 56, 57, 58, 59, 60, 61, 62, 63, 64, 65, 66, 67, 68, 69, 70, 71, 72, 73] (by decide +kernel) (by decide +kernel)
set_option maxRecDepth 20000 in
theorem gX4_fitsNow_X4_barredAt : GoodIn wsX4_fitsNow (wsV RX4 143 RX4 yX4_barredAt wsX4_barredAt) := goodIn_app (goodIn_of _ (by decide +kernel)) ggX4_fitsNow_X4_barredAt
set_option maxRecDepth 20000 in
theorem ggX4_fitsNow_X4_isBarredFromBeside : GoodIn wsX4_fitsNow wsX4_isBarredFromBeside := goodIn_r _ [44, 1, 2, 45, 46, 47, 48, 49, 50, 51, 52, 53, 54, 55, 56, 57, 58, 59, 60, 61, 62, 63, 64, 65, 66, 67, 68, 69, 70, 71, 72, 73] (by decide +kernel) (by decide +kernel)
set_option maxRecDepth 20000 in
theorem gX4_fitsNow_X4_isBarredFromBeside : GoodIn wsX4_fitsNow (wsV RX4 150 RX4 yX4_isBarredFromBeside wsX4_isBarredFromBeside) := goodIn_app (goodIn_of _ (by decide +kernel)) ggX4_fitsNow_X4_isBarredFromBeside
theorem dX4_fitsNow_0 : decode cX4_fitsNow 0 = .ok (.aload_n 0, 1) := by decide +kernel
theorem dX4_fitsNow_1 : decode cX4_fitsNow 1 = .ok (.getfield 15, 3) := by decide +kernel
theorem dX4_fitsNow_4 : decode cX4_fitsNow 4 = .ok (.iload_n 1, 1) := by decide +kernel
theorem dX4_fitsNow_5 : decode cX4_fitsNow 5 = .ok (.iaload, 1) := by decide +kernel
theorem dX4_fitsNow_6 : decode cX4_fitsNow 6 = .ok (.ifCond .eq 5, 3) := by decide +kernel
theorem dX4_fitsNow_9 : decode cX4_fitsNow 9 = .ok (.lconst 0, 1) := by decide +kernel
theorem dX4_fitsNow_10 : decode cX4_fitsNow 10 = .ok (.lreturn, 1) := by decide +kernel
theorem dX4_fitsNow_11 : decode cX4_fitsNow 11 = .ok (.aload_n 0, 1) := by decide +kernel
theorem dX4_fitsNow_12 : decode cX4_fitsNow 12 = .ok (.iload_n 1, 1) := by decide +kernel
theorem dX4_fitsNow_13 : decode cX4_fitsNow 13 = .ok (.invokevirtual 57, 3) := by decide +kernel
theorem dX4_fitsNow_16 : decode cX4_fitsNow 16 = .ok (.istore_n 2, 1) := by decide +kernel
theorem dX4_fitsNow_17 : decode cX4_fitsNow 17 = .ok (.aload_n 0, 1) := by decide +kernel
theorem dX4_fitsNow_18 : decode cX4_fitsNow 18 = .ok (.invokevirtual 126, 3) := by decide +kernel
theorem dX4_fitsNow_21 : decode cX4_fitsNow 21 = .ok (.aload_n 0, 1) := by decide +kernel
theorem dX4_fitsNow_22 : decode cX4_fitsNow 22 = .ok (.aload_n 0, 1) := by decide +kernel
theorem dX4_fitsNow_23 : decode cX4_fitsNow 23 = .ok (.getfield 9, 3) := by decide +kernel
theorem dX4_fitsNow_26 : decode cX4_fitsNow 26 = .ok (.getfield 129, 3) := by decide +kernel
theorem dX4_fitsNow_29 : decode cX4_fitsNow 29 = .ok (.iload_n 1, 1) := by decide +kernel
theorem dX4_fitsNow_30 : decode cX4_fitsNow 30 = .ok (.iconst 0, 1) := by decide +kernel
theorem dX4_fitsNow_31 : decode cX4_fitsNow 31 = .ok (.invokevirtual 132, 3) := by decide +kernel
theorem dX4_fitsNow_34 : decode cX4_fitsNow 34 = .ok (.iload_n 2, 1) := by decide +kernel
theorem dX4_fitsNow_35 : decode cX4_fitsNow 35 = .ok (.ifCond .eq 18, 3) := by decide +kernel
theorem dX4_fitsNow_38 : decode cX4_fitsNow 38 = .ok (.aload_n 0, 1) := by decide +kernel
theorem dX4_fitsNow_39 : decode cX4_fitsNow 39 = .ok (.aload_n 0, 1) := by decide +kernel
theorem dX4_fitsNow_40 : decode cX4_fitsNow 40 = .ok (.getfield 9, 3) := by decide +kernel
theorem dX4_fitsNow_43 : decode cX4_fitsNow 43 = .ok (.getfield 136, 3) := by decide +kernel
theorem dX4_fitsNow_46 : decode cX4_fitsNow 46 = .ok (.iload_n 1, 1) := by decide +kernel
theorem dX4_fitsNow_47 : decode cX4_fitsNow 47 = .ok (.iconst 1, 1) := by decide +kernel
theorem dX4_fitsNow_48 : decode cX4_fitsNow 48 = .ok (.iadd, 1) := by decide +kernel
theorem dX4_fitsNow_49 : decode cX4_fitsNow 49 = .ok (.iconst 0, 1) := by decide +kernel
theorem dX4_fitsNow_50 : decode cX4_fitsNow 50 = .ok (.invokevirtual 132, 3) := by decide +kernel
theorem dX4_fitsNow_53 : decode cX4_fitsNow 53 = .ok (.aload_n 0, 1) := by decide +kernel
theorem dX4_fitsNow_54 : decode cX4_fitsNow 54 = .ok (.invokevirtual 139, 3) := by decide +kernel
theorem dX4_fitsNow_57 : decode cX4_fitsNow 57 = .ok (.lstore_n 3, 1) := by decide +kernel
theorem dX4_fitsNow_58 : decode cX4_fitsNow 58 = .ok (.lload_n 3, 1) := by decide +kernel
theorem dX4_fitsNow_59 : decode cX4_fitsNow 59 = .ok (.lconst 0, 1) := by decide +kernel
theorem dX4_fitsNow_60 : decode cX4_fitsNow 60 = .ok (.lcmp, 1) := by decide +kernel
theorem dX4_fitsNow_61 : decode cX4_fitsNow 61 = .ok (.ifCond .ne 5, 3) := by decide +kernel
theorem dX4_fitsNow_64 : decode cX4_fitsNow 64 = .ok (.lconst 0, 1) := by decide +kernel
theorem dX4_fitsNow_65 : decode cX4_fitsNow 65 = .ok (.lreturn, 1) := by decide +kernel
theorem dX4_fitsNow_66 : decode cX4_fitsNow 66 = .ok (.aload_n 0, 1) := by decide +kernel
theorem dX4_fitsNow_67 : decode cX4_fitsNow 67 = .ok (.iload_n 1, 1) := by decide +kernel
theorem dX4_fitsNow_68 : decode cX4_fitsNow 68 = .ok (.invokevirtual 143, 3) := by decide +kernel
theorem dX4_fitsNow_71 : decode cX4_fitsNow 71 = .ok (.aload_n 0, 1) := by decide +kernel
theorem dX4_fitsNow_72 : decode cX4_fitsNow 72 = .ok (.getfield 9, 3) := by decide +kernel
theorem dX4_fitsNow_75 : decode cX4_fitsNow 75 = .ok (.getfield 146, 3) := by decide +kernel
theorem dX4_fitsNow_78 : decode cX4_fitsNow 78 = .ok (.lor, 1) := by decide +kernel
theorem dX4_fitsNow_79 : decode cX4_fitsNow 79 = .ok (.lstore 5, 2) := by decide +kernel
theorem dX4_fitsNow_81 : decode cX4_fitsNow 81 = .ok (.iload_n 2, 1) := by decide +kernel
theorem dX4_fitsNow_82 : decode cX4_fitsNow 82 = .ok (.ifCond .eq 13, 3) := by decide +kernel
theorem dX4_fitsNow_85 : decode cX4_fitsNow 85 = .ok (.aload_n 0, 1) := by decide +kernel
theorem dX4_fitsNow_86 : decode cX4_fitsNow 86 = .ok (.iload_n 1, 1) := by decide +kernel
theorem dX4_fitsNow_87 : decode cX4_fitsNow 87 = .ok (.iconst 1, 1) := by decide +kernel
theorem dX4_fitsNow_88 : decode cX4_fitsNow 88 = .ok (.iadd, 1) := by decide +kernel
theorem dX4_fitsNow_89 : decode cX4_fitsNow 89 = .ok (.invokevirtual 150, 3) := by decide +kernel
theorem dX4_fitsNow_92 : decode cX4_fitsNow 92 = .ok (.ifCond .eq 15, 3) := by decide +kernel
theorem dX4_fitsNow_95 : decode cX4_fitsNow 95 = .ok (.lload 5, 2) := by decide +kernel
theorem dX4_fitsNow_97 : decode cX4_fitsNow 97 = .ok (.aload_n 0, 1) := by decide +kernel
theorem dX4_fitsNow_98 : decode cX4_fitsNow 98 = .ok (.getfield 9, 3) := by decide +kernel
theorem dX4_fitsNow_101 : decode cX4_fitsNow 101 = .ok (.getfield 153, 3) := by decide +kernel
theorem dX4_fitsNow_104 : decode cX4_fitsNow 104 = .ok (.lor, 1) := by decide +kernel
theorem dX4_fitsNow_105 : decode cX4_fitsNow 105 = .ok (.lstore 5, 2) := by decide +kernel
theorem dX4_fitsNow_107 : decode cX4_fitsNow 107 = .ok (.lload_n 3, 1) := by decide +kernel
theorem dX4_fitsNow_108 : decode cX4_fitsNow 108 = .ok (.lload 5, 2) := by decide +kernel
theorem dX4_fitsNow_110 : decode cX4_fitsNow 110 = .ok (.ldc2_w 156, 3) := by decide +kernel
theorem dX4_fitsNow_113 : decode cX4_fitsNow 113 = .ok (.lxor, 1) := by decide +kernel
theorem dX4_fitsNow_114 : decode cX4_fitsNow 114 = .ok (.land, 1) := by decide +kernel
theorem dX4_fitsNow_115 : decode cX4_fitsNow 115 = .ok (.lreturn, 1) := by decide +kernel
theorem dX4_startSums_0 : decode cX4_startSums 0 = .ok (.aload_n 0, 1) := by decide +kernel
theorem dX4_startSums_1 : decode cX4_startSums 1 = .ok (.lconst 0, 1) := by decide +kernel
theorem dX4_startSums_2 : decode cX4_startSums 2 = .ok (.putfield 158, 3) := by decide +kernel
theorem dX4_startSums_5 : decode cX4_startSums 5 = .ok (.aload_n 0, 1) := by decide +kernel
theorem dX4_startSums_6 : decode cX4_startSums 6 = .ok (.lconst 0, 1) := by decide +kernel
theorem dX4_startSums_7 : decode cX4_startSums 7 = .ok (.putfield 161, 3) := by decide +kernel
theorem dX4_startSums_10 : decode cX4_startSums 10 = .ok (.aload_n 0, 1) := by decide +kernel
theorem dX4_startSums_11 : decode cX4_startSums 11 = .ok (.lconst 0, 1) := by decide +kernel
theorem dX4_startSums_12 : decode cX4_startSums 12 = .ok (.putfield 164, 3) := by decide +kernel
theorem dX4_startSums_15 : decode cX4_startSums 15 = .ok (.return_, 1) := by decide +kernel
set_option maxRecDepth 20000 in
theorem ggX4_sumUp_X7_bitOf : GoodIn wsX4_sumUp wsX7_bitOf := goodIn_r _ [10] (by decide +kernel) (by decide +kernel)
set_option maxRecDepth 20000 in
theorem gX4_sumUp_X7_bitOf_n170 : GoodIn wsX4_sumUp (wsX7_bitOf) := ggX4_sumUp_X7_bitOf
theorem dX4_sumUp_0 : decode cX4_sumUp 0 = .ok (.iconst 0, 1) := by decide +kernel
theorem dX4_sumUp_1 : decode cX4_sumUp 1 = .ok (.istore 4, 2) := by decide +kernel
theorem dX4_sumUp_3 : decode cX4_sumUp 3 = .ok (.iload 4, 2) := by decide +kernel
theorem dX4_sumUp_5 : decode cX4_sumUp 5 = .ok (.iconst 4, 1) := by decide +kernel
theorem dX4_sumUp_6 : decode cX4_sumUp 6 = .ok (.if_icmp .ge 140, 3) := by decide +kernel
theorem dX4_sumUp_9 : decode cX4_sumUp 9 = .ok (.aload_n 0, 1) := by decide +kernel
theorem dX4_sumUp_10 : decode cX4_sumUp 10 = .ok (.getfield 15, 3) := by decide +kernel
theorem dX4_sumUp_13 : decode cX4_sumUp 13 = .ok (.iload_n 2, 1) := by decide +kernel
theorem dX4_sumUp_14 : decode cX4_sumUp 14 = .ok (.getstatic 167, 3) := by decide +kernel
theorem dX4_sumUp_17 : decode cX4_sumUp 17 = .ok (.iload 4, 2) := by decide +kernel
theorem dX4_sumUp_19 : decode cX4_sumUp 19 = .ok (.iaload, 1) := by decide +kernel
theorem dX4_sumUp_20 : decode cX4_sumUp 20 = .ok (.iadd, 1) := by decide +kernel
theorem dX4_sumUp_21 : decode cX4_sumUp 21 = .ok (.iaload, 1) := by decide +kernel
theorem dX4_sumUp_22 : decode cX4_sumUp 22 = .ok (.istore 5, 2) := by decide +kernel
theorem dX4_sumUp_24 : decode cX4_sumUp 24 = .ok (.iload 5, 2) := by decide +kernel
theorem dX4_sumUp_26 : decode cX4_sumUp 26 = .ok (.ifCond .eq 114, 3) := by decide +kernel
theorem dX4_sumUp_29 : decode cX4_sumUp 29 = .ok (.iload_n 3, 1) := by decide +kernel
theorem dX4_sumUp_30 : decode cX4_sumUp 30 = .ok (.iload 4, 2) := by decide +kernel
theorem dX4_sumUp_32 : decode cX4_sumUp 32 = .ok (.invokestatic 170, 3) := by decide +kernel
theorem dX4_sumUp_35 : decode cX4_sumUp 35 = .ok (.iconst 1, 1) := by decide +kernel
theorem dX4_sumUp_36 : decode cX4_sumUp 36 = .ok (.if_icmp .ne 6, 3) := by decide +kernel
theorem dX4_sumUp_39 : decode cX4_sumUp 39 = .ok (.goto 101, 3) := by decide +kernel
theorem dX4_sumUp_42 : decode cX4_sumUp 42 = .ok (.aload_n 0, 1) := by decide +kernel
theorem dX4_sumUp_43 : decode cX4_sumUp 43 = .ok (.getfield 9, 3) := by decide +kernel
theorem dX4_sumUp_46 : decode cX4_sumUp 46 = .ok (.getfield 173, 3) := by decide +kernel
theorem dX4_sumUp_49 : decode cX4_sumUp 49 = .ok (.iconst 4, 1) := by decide +kernel
theorem dX4_sumUp_50 : decode cX4_sumUp 50 = .ok (.iload 5, 2) := by decide +kernel
theorem dX4_sumUp_52 : decode cX4_sumUp 52 = .ok (.imul, 1) := by decide +kernel
theorem dX4_sumUp_53 : decode cX4_sumUp 53 = .ok (.iload 4, 2) := by decide +kernel
theorem dX4_sumUp_55 : decode cX4_sumUp 55 = .ok (.iconst 2, 1) := by decide +kernel
theorem dX4_sumUp_56 : decode cX4_sumUp 56 = .ok (.ixor, 1) := by decide +kernel
theorem dX4_sumUp_57 : decode cX4_sumUp 57 = .ok (.iadd, 1) := by decide +kernel
theorem dX4_sumUp_58 : decode cX4_sumUp 58 = .ok (.iaload, 1) := by decide +kernel
theorem dX4_sumUp_59 : decode cX4_sumUp 59 = .ok (.istore 6, 2) := by decide +kernel
theorem dX4_sumUp_61 : decode cX4_sumUp 61 = .ok (.aload_n 1, 1) := by decide +kernel
theorem dX4_sumUp_62 : decode cX4_sumUp 62 = .ok (.bipush 51, 2) := by decide +kernel
theorem dX4_sumUp_64 : decode cX4_sumUp 64 = .ok (.iload 4, 2) := by decide +kernel
theorem dX4_sumUp_66 : decode cX4_sumUp 66 = .ok (.imul, 1) := by decide +kernel
theorem dX4_sumUp_67 : decode cX4_sumUp 67 = .ok (.iload 6, 2) := by decide +kernel
theorem dX4_sumUp_69 : decode cX4_sumUp 69 = .ok (.iadd, 1) := by decide +kernel
theorem dX4_sumUp_70 : decode cX4_sumUp 70 = .ok (.laload, 1) := by decide +kernel
theorem dX4_sumUp_71 : decode cX4_sumUp 71 = .ok (.lstore 7, 2) := by decide +kernel
theorem dX4_sumUp_73 : decode cX4_sumUp 73 = .ok (.iconst 0, 1) := by decide +kernel
theorem dX4_sumUp_74 : decode cX4_sumUp 74 = .ok (.istore 9, 2) := by decide +kernel
theorem dX4_sumUp_76 : decode cX4_sumUp 76 = .ok (.iload 9, 2) := by decide +kernel
theorem dX4_sumUp_78 : decode cX4_sumUp 78 = .ok (.aload_n 0, 1) := by decide +kernel
theorem dX4_sumUp_79 : decode cX4_sumUp 79 = .ok (.getfield 9, 3) := by decide +kernel
theorem dX4_sumUp_82 : decode cX4_sumUp 82 = .ok (.getfield 176, 3) := by decide +kernel
theorem dX4_sumUp_85 : decode cX4_sumUp 85 = .ok (.iload 6, 2) := by decide +kernel
theorem dX4_sumUp_87 : decode cX4_sumUp 87 = .ok (.iaload, 1) := by decide +kernel
theorem dX4_sumUp_88 : decode cX4_sumUp 88 = .ok (.if_icmp .ge 52, 3) := by decide +kernel
theorem dX4_sumUp_91 : decode cX4_sumUp 91 = .ok (.aload_n 0, 1) := by decide +kernel
theorem dX4_sumUp_92 : decode cX4_sumUp 92 = .ok (.dup, 1) := by decide +kernel
theorem dX4_sumUp_93 : decode cX4_sumUp 93 = .ok (.getfield 164, 3) := by decide +kernel
theorem dX4_sumUp_96 : decode cX4_sumUp 96 = .ok (.aload_n 0, 1) := by decide +kernel
theorem dX4_sumUp_97 : decode cX4_sumUp 97 = .ok (.getfield 161, 3) := by decide +kernel
theorem dX4_sumUp_100 : decode cX4_sumUp 100 = .ok (.lload 7, 2) := by decide +kernel
theorem dX4_sumUp_102 : decode cX4_sumUp 102 = .ok (.land, 1) := by decide +kernel
theorem dX4_sumUp_103 : decode cX4_sumUp 103 = .ok (.lor, 1) := by decide +kernel
theorem dX4_sumUp_104 : decode cX4_sumUp 104 = .ok (.putfield 164, 3) := by decide +kernel
theorem dX4_sumUp_107 : decode cX4_sumUp 107 = .ok (.aload_n 0, 1) := by decide +kernel
theorem dX4_sumUp_108 : decode cX4_sumUp 108 = .ok (.dup, 1) := by decide +kernel
theorem dX4_sumUp_109 : decode cX4_sumUp 109 = .ok (.getfield 161, 3) := by decide +kernel
theorem dX4_sumUp_112 : decode cX4_sumUp 112 = .ok (.aload_n 0, 1) := by decide +kernel
theorem dX4_sumUp_113 : decode cX4_sumUp 113 = .ok (.getfield 158, 3) := by decide +kernel
theorem dX4_sumUp_116 : decode cX4_sumUp 116 = .ok (.lload 7, 2) := by decide +kernel
theorem dX4_sumUp_118 : decode cX4_sumUp 118 = .ok (.land, 1) := by decide +kernel
theorem dX4_sumUp_119 : decode cX4_sumUp 119 = .ok (.lor, 1) := by decide +kernel
theorem dX4_sumUp_120 : decode cX4_sumUp 120 = .ok (.putfield 161, 3) := by decide +kernel
theorem dX4_sumUp_123 : decode cX4_sumUp 123 = .ok (.aload_n 0, 1) := by decide +kernel
theorem dX4_sumUp_124 : decode cX4_sumUp 124 = .ok (.dup, 1) := by decide +kernel
theorem dX4_sumUp_125 : decode cX4_sumUp 125 = .ok (.getfield 158, 3) := by decide +kernel
theorem dX4_sumUp_128 : decode cX4_sumUp 128 = .ok (.lload 7, 2) := by decide +kernel
theorem dX4_sumUp_130 : decode cX4_sumUp 130 = .ok (.lor, 1) := by decide +kernel
theorem dX4_sumUp_131 : decode cX4_sumUp 131 = .ok (.putfield 158, 3) := by decide +kernel
theorem dX4_sumUp_134 : decode cX4_sumUp 134 = .ok (.iinc 9 1, 3) := by decide +kernel
theorem dX4_sumUp_137 : decode cX4_sumUp 137 = .ok (.goto (-61), 3) := by decide +kernel
theorem dX4_sumUp_140 : decode cX4_sumUp 140 = .ok (.iinc 4 1, 3) := by decide +kernel
theorem dX4_sumUp_143 : decode cX4_sumUp 143 = .ok (.goto (-140), 3) := by decide +kernel
theorem dX4_sumUp_146 : decode cX4_sumUp 146 = .ok (.return_, 1) := by decide +kernel
theorem dX4_heldEnough_0 : decode cX4_heldEnough 0 = .ok (.aload_n 0, 1) := by decide +kernel
theorem dX4_heldEnough_1 : decode cX4_heldEnough 1 = .ok (.getfield 9, 3) := by decide +kernel
theorem dX4_heldEnough_4 : decode cX4_heldEnough 4 = .ok (.getfield 179, 3) := by decide +kernel
theorem dX4_heldEnough_7 : decode cX4_heldEnough 7 = .ok (.iconst 1, 1) := by decide +kernel
theorem dX4_heldEnough_8 : decode cX4_heldEnough 8 = .ok (.if_icmp .ne 8, 3) := by decide +kernel
theorem dX4_heldEnough_11 : decode cX4_heldEnough 11 = .ok (.aload_n 0, 1) := by decide +kernel
theorem dX4_heldEnough_12 : decode cX4_heldEnough 12 = .ok (.getfield 158, 3) := by decide +kernel
theorem dX4_heldEnough_15 : decode cX4_heldEnough 15 = .ok (.lreturn, 1) := by decide +kernel
theorem dX4_heldEnough_16 : decode cX4_heldEnough 16 = .ok (.aload_n 0, 1) := by decide +kernel
theorem dX4_heldEnough_17 : decode cX4_heldEnough 17 = .ok (.getfield 9, 3) := by decide +kernel
theorem dX4_heldEnough_20 : decode cX4_heldEnough 20 = .ok (.getfield 179, 3) := by decide +kernel
theorem dX4_heldEnough_23 : decode cX4_heldEnough 23 = .ok (.iconst 2, 1) := by decide +kernel
theorem dX4_heldEnough_24 : decode cX4_heldEnough 24 = .ok (.if_icmp .ne 10, 3) := by decide +kernel
theorem dX4_heldEnough_27 : decode cX4_heldEnough 27 = .ok (.aload_n 0, 1) := by decide +kernel
theorem dX4_heldEnough_28 : decode cX4_heldEnough 28 = .ok (.getfield 161, 3) := by decide +kernel
theorem dX4_heldEnough_31 : decode cX4_heldEnough 31 = .ok (.goto 7, 3) := by decide +kernel
theorem dX4_heldEnough_34 : decode cX4_heldEnough 34 = .ok (.aload_n 0, 1) := by decide +kernel
theorem dX4_heldEnough_35 : decode cX4_heldEnough 35 = .ok (.getfield 164, 3) := by decide +kernel
theorem dX4_heldEnough_38 : decode cX4_heldEnough 38 = .ok (.lreturn, 1) := by decide +kernel
set_option maxRecDepth 20000 in
theorem ggX4_heldAt_X4_startSums : GoodIn wsX4_heldAt wsX4_startSums := goodIn_r _ [7, 8, 9, 10, 26, 27, 28, 29, 30, 31, 32, 33, 34, 35, 36, 37, 38, 39, 40] (by decide +kernel) (by decide +kernel)
set_option maxRecDepth 20000 in
theorem gX4_heldAt_X4_startSums : GoodIn wsX4_heldAt (wsV RX4 126 RX4 yX4_startSums wsX4_startSums) := goodIn_app (goodIn_of _ (by decide +kernel)) ggX4_heldAt_X4_startSums
set_option maxRecDepth 20000 in
theorem ggX4_heldAt_X4_sumUp : GoodIn wsX4_heldAt wsX4_sumUp := goodIn_r _ [14, 15, 1, 16, 17, 10, 9, 8, 18, 19, 20, 26, 27, 28, 29, 30, 31, 32, 33, 34, 35, 36, 37, 38, 39, 40, 41, 42, 43, 44, 45, 46, 47, 48, 49, 50, 51, 52, 53] (by decide +kernel) (by decide +kernel)
set_option maxRecDepth 20000 in
theorem gX4_heldAt_X4_sumUp : GoodIn wsX4_heldAt (wsV RX4 132 RX4 yX4_sumUp wsX4_sumUp) := goodIn_app (goodIn_of _ (by decide +kernel)) ggX4_heldAt_X4_sumUp
set_option maxRecDepth 20000 in
theorem ggX4_heldAt_X4_heldEnough : GoodIn wsX4_heldAt wsX4_heldEnough := goodIn_r _ [24, 1, 25, 8, 9, 10, 26, 27, 28, 29, 30, 31, 32, 33, 34, 35, 36, 37, 38, 39, 40, 41, 42, 43, 44, 45, 46, 47, 48, 49, 50, 51, 52, 53] (by decide +kernel) (by decide +kernel)
set_option maxRecDepth 20000 in
theorem gX4_heldAt_X4_heldEnough : GoodIn wsX4_heldAt (wsV RX4 139 RX4 yX4_heldEnough wsX4_heldEnough) := goodIn_app (goodIn_of _ (by decide +kernel)) ggX4_heldAt_X4_heldEnough
theorem dX4_heldAt_0 : decode cX4_heldAt 0 = .ok (.aload_n 0, 1) := by decide +kernel
theorem dX4_heldAt_1 : decode cX4_heldAt 1 = .ok (.invokevirtual 126, 3) := by decide +kernel
theorem dX4_heldAt_4 : decode cX4_heldAt 4 = .ok (.aload_n 0, 1) := by decide +kernel
theorem dX4_heldAt_5 : decode cX4_heldAt 5 = .ok (.aload_n 0, 1) := by decide +kernel
theorem dX4_heldAt_6 : decode cX4_heldAt 6 = .ok (.getfield 9, 3) := by decide +kernel
theorem dX4_heldAt_9 : decode cX4_heldAt 9 = .ok (.getfield 129, 3) := by decide +kernel
theorem dX4_heldAt_12 : decode cX4_heldAt 12 = .ok (.iload_n 1, 1) := by decide +kernel
theorem dX4_heldAt_13 : decode cX4_heldAt 13 = .ok (.iload_n 2, 1) := by decide +kernel
theorem dX4_heldAt_14 : decode cX4_heldAt 14 = .ok (.invokevirtual 132, 3) := by decide +kernel
theorem dX4_heldAt_17 : decode cX4_heldAt 17 = .ok (.aload_n 0, 1) := by decide +kernel
theorem dX4_heldAt_18 : decode cX4_heldAt 18 = .ok (.invokevirtual 139, 3) := by decide +kernel
theorem dX4_heldAt_21 : decode cX4_heldAt 21 = .ok (.lreturn, 1) := by decide +kernel
set_option maxRecDepth 20000 in
theorem ggX4_barredAt_X4_isBarredFromBeside : GoodIn wsX4_barredAt wsX4_isBarredFromBeside := goodIn_r _ [9, 2, 3, 10, 11, 12, 13, 14, 15, 16, 17, 18, 19, 20, 21, 22, 23, 24, 25, 26, 27, 28, 29, 30, 31, 32, 33, 34, 35, 36, 37, 38] (by decide +kernel) (by decide +kernel)
set_option maxRecDepth 20000 in
theorem gX4_barredAt_X4_isBarredFromBeside : GoodIn wsX4_barredAt (wsV RX4 150 RX4 yX4_isBarredFromBeside wsX4_isBarredFromBeside) := goodIn_app (goodIn_of _ (by decide +kernel)) ggX4_barredAt_X4_isBarredFromBeside
theorem dX4_barredAt_0 : decode cX4_barredAt 0 = .ok (.aload_n 0, 1) := by decide +kernel
theorem dX4_barredAt_1 : decode cX4_barredAt 1 = .ok (.iload_n 1, 1) := by decide +kernel
theorem dX4_barredAt_2 : decode cX4_barredAt 2 = .ok (.invokevirtual 150, 3) := by decide +kernel
theorem dX4_barredAt_5 : decode cX4_barredAt 5 = .ok (.ifCond .eq 7, 3) := by decide +kernel
theorem dX4_barredAt_8 : decode cX4_barredAt 8 = .ok (.ldc2_w 156, 3) := by decide +kernel
theorem dX4_barredAt_11 : decode cX4_barredAt 11 = .ok (.lreturn, 1) := by decide +kernel
theorem dX4_barredAt_12 : decode cX4_barredAt 12 = .ok (.lconst 0, 1) := by decide +kernel
theorem dX4_barredAt_13 : decode cX4_barredAt 13 = .ok (.lstore_n 2, 1) := by decide +kernel
theorem dX4_barredAt_14 : decode cX4_barredAt 14 = .ok (.iconst 0, 1) := by decide +kernel
theorem dX4_barredAt_15 : decode cX4_barredAt 15 = .ok (.istore 4, 2) := by decide +kernel
theorem dX4_barredAt_17 : decode cX4_barredAt 17 = .ok (.iload 4, 2) := by decide +kernel
theorem dX4_barredAt_19 : decode cX4_barredAt 19 = .ok (.iconst 4, 1) := by decide +kernel
theorem dX4_barredAt_20 : decode cX4_barredAt 20 = .ok (.if_icmp .ge 38, 3) := by decide +kernel
theorem dX4_barredAt_23 : decode cX4_barredAt 23 = .ok (.aload_n 0, 1) := by decide +kernel
theorem dX4_barredAt_24 : decode cX4_barredAt 24 = .ok (.getfield 15, 3) := by decide +kernel
theorem dX4_barredAt_27 : decode cX4_barredAt 27 = .ok (.iload_n 1, 1) := by decide +kernel
theorem dX4_barredAt_28 : decode cX4_barredAt 28 = .ok (.getstatic 167, 3) := by decide +kernel
theorem dX4_barredAt_31 : decode cX4_barredAt 31 = .ok (.iload 4, 2) := by decide +kernel
theorem dX4_barredAt_33 : decode cX4_barredAt 33 = .ok (.iaload, 1) := by decide +kernel
theorem dX4_barredAt_34 : decode cX4_barredAt 34 = .ok (.iadd, 1) := by decide +kernel
theorem dX4_barredAt_35 : decode cX4_barredAt 35 = .ok (.iaload, 1) := by decide +kernel
theorem dX4_barredAt_36 : decode cX4_barredAt 36 = .ok (.ifCond .eq 16, 3) := by decide +kernel
theorem dX4_barredAt_39 : decode cX4_barredAt 39 = .ok (.lload_n 2, 1) := by decide +kernel
theorem dX4_barredAt_40 : decode cX4_barredAt 40 = .ok (.aload_n 0, 1) := by decide +kernel
theorem dX4_barredAt_41 : decode cX4_barredAt 41 = .ok (.getfield 9, 3) := by decide +kernel
theorem dX4_barredAt_44 : decode cX4_barredAt 44 = .ok (.getfield 182, 3) := by decide +kernel
theorem dX4_barredAt_47 : decode cX4_barredAt 47 = .ok (.iload 4, 2) := by decide +kernel
theorem dX4_barredAt_49 : decode cX4_barredAt 49 = .ok (.laload, 1) := by decide +kernel
theorem dX4_barredAt_50 : decode cX4_barredAt 50 = .ok (.lor, 1) := by decide +kernel
theorem dX4_barredAt_51 : decode cX4_barredAt 51 = .ok (.lstore_n 2, 1) := by decide +kernel
theorem dX4_barredAt_52 : decode cX4_barredAt 52 = .ok (.iinc 4 1, 3) := by decide +kernel
theorem dX4_barredAt_55 : decode cX4_barredAt 55 = .ok (.goto (-38), 3) := by decide +kernel
theorem dX4_barredAt_58 : decode cX4_barredAt 58 = .ok (.lload_n 2, 1) := by decide +kernel
theorem dX4_barredAt_59 : decode cX4_barredAt 59 = .ok (.lreturn, 1) := by decide +kernel
theorem dX4_isBarredFromBeside_0 : decode cX4_isBarredFromBeside 0 = .ok (.iconst 0, 1) := by decide +kernel
theorem dX4_isBarredFromBeside_1 : decode cX4_isBarredFromBeside 1 = .ok (.istore_n 2, 1) := by decide +kernel
theorem dX4_isBarredFromBeside_2 : decode cX4_isBarredFromBeside 2 = .ok (.iload_n 2, 1) := by decide +kernel
theorem dX4_isBarredFromBeside_3 : decode cX4_isBarredFromBeside 3 = .ok (.iconst 4, 1) := by decide +kernel
theorem dX4_isBarredFromBeside_4 : decode cX4_isBarredFromBeside 4 = .ok (.if_icmp .ge 43, 3) := by decide +kernel
theorem dX4_isBarredFromBeside_7 : decode cX4_isBarredFromBeside 7 = .ok (.aload_n 0, 1) := by decide +kernel
theorem dX4_isBarredFromBeside_8 : decode cX4_isBarredFromBeside 8 = .ok (.getfield 15, 3) := by decide +kernel
theorem dX4_isBarredFromBeside_11 : decode cX4_isBarredFromBeside 11 = .ok (.iload_n 1, 1) := by decide +kernel
theorem dX4_isBarredFromBeside_12 : decode cX4_isBarredFromBeside 12 = .ok (.getstatic 167, 3) := by decide +kernel
theorem dX4_isBarredFromBeside_15 : decode cX4_isBarredFromBeside 15 = .ok (.iload_n 2, 1) := by decide +kernel
theorem dX4_isBarredFromBeside_16 : decode cX4_isBarredFromBeside 16 = .ok (.iaload, 1) := by decide +kernel
theorem dX4_isBarredFromBeside_17 : decode cX4_isBarredFromBeside 17 = .ok (.iadd, 1) := by decide +kernel
theorem dX4_isBarredFromBeside_18 : decode cX4_isBarredFromBeside 18 = .ok (.iaload, 1) := by decide +kernel
theorem dX4_isBarredFromBeside_19 : decode cX4_isBarredFromBeside 19 = .ok (.istore_n 3, 1) := by decide +kernel
theorem dX4_isBarredFromBeside_20 : decode cX4_isBarredFromBeside 20 = .ok (.aload_n 0, 1) := by decide +kernel
theorem dX4_isBarredFromBeside_21 : decode cX4_isBarredFromBeside 21 = .ok (.getfield 9, 3) := by decide +kernel
theorem dX4_isBarredFromBeside_24 : decode cX4_isBarredFromBeside 24 = .ok (.getfield 185, 3) := by decide +kernel
theorem dX4_isBarredFromBeside_27 : decode cX4_isBarredFromBeside 27 = .ok (.iload_n 3, 1) := by decide +kernel
theorem dX4_isBarredFromBeside_28 : decode cX4_isBarredFromBeside 28 = .ok (.iaload, 1) := by decide +kernel
theorem dX4_isBarredFromBeside_29 : decode cX4_isBarredFromBeside 29 = .ok (.iload_n 2, 1) := by decide +kernel
theorem dX4_isBarredFromBeside_30 : decode cX4_isBarredFromBeside 30 = .ok (.iconst 2, 1) := by decide +kernel
theorem dX4_isBarredFromBeside_31 : decode cX4_isBarredFromBeside 31 = .ok (.ixor, 1) := by decide +kernel
theorem dX4_isBarredFromBeside_32 : decode cX4_isBarredFromBeside 32 = .ok (.iushr, 1) := by decide +kernel
theorem dX4_isBarredFromBeside_33 : decode cX4_isBarredFromBeside 33 = .ok (.iconst 1, 1) := by decide +kernel
theorem dX4_isBarredFromBeside_34 : decode cX4_isBarredFromBeside 34 = .ok (.iand, 1) := by decide +kernel
theorem dX4_isBarredFromBeside_35 : decode cX4_isBarredFromBeside 35 = .ok (.iconst 1, 1) := by decide +kernel
theorem dX4_isBarredFromBeside_36 : decode cX4_isBarredFromBeside 36 = .ok (.if_icmp .ne 5, 3) := by decide +kernel
theorem dX4_isBarredFromBeside_39 : decode cX4_isBarredFromBeside 39 = .ok (.iconst 1, 1) := by decide +kernel
theorem dX4_isBarredFromBeside_40 : decode cX4_isBarredFromBeside 40 = .ok (.ireturn, 1) := by decide +kernel
theorem dX4_isBarredFromBeside_41 : decode cX4_isBarredFromBeside 41 = .ok (.iinc 2 1, 3) := by decide +kernel
theorem dX4_isBarredFromBeside_44 : decode cX4_isBarredFromBeside 44 = .ok (.goto (-42), 3) := by decide +kernel
theorem dX4_isBarredFromBeside_47 : decode cX4_isBarredFromBeside 47 = .ok (.iconst 0, 1) := by decide +kernel
theorem dX4_isBarredFromBeside_48 : decode cX4_isBarredFromBeside 48 = .ok (.ireturn, 1) := by decide +kernel
set_option maxRecDepth 20000 in
theorem ggX4_holdOf_X4_holdOfCode : GoodIn wsX4_holdOf wsX4_holdOfCode := goodIn_r _ [7, 8, 9, 10, 11, 12, 13, 6, 14, 1, 15, 16, 17, 18, 19, 20, 21, 22, 23, 24, 25, 26, 27, 28, 29, 30, 31, 32, 33, 34, 35, 36, 37, 38, 39, 40, 41, 42, 43, 44, 45] (by decide +kernel) (by decide +kernel)
set_option maxRecDepth 20000 in
theorem gX4_holdOf_X4_holdOfCode : GoodIn wsX4_holdOf (wsV RX4 188 RX4 yX4_holdOfCode wsX4_holdOfCode) := goodIn_app (goodIn_of _ (by decide +kernel)) ggX4_holdOf_X4_holdOfCode
theorem dX4_holdOf_0 : decode cX4_holdOf 0 = .ok (.aload_n 0, 1) := by decide +kernel
theorem dX4_holdOf_1 : decode cX4_holdOf 1 = .ok (.iconst 1, 1) := by decide +kernel
theorem dX4_holdOf_2 : decode cX4_holdOf 2 = .ok (.iload_n 1, 1) := by decide +kernel
theorem dX4_holdOf_3 : decode cX4_holdOf 3 = .ok (.iadd, 1) := by decide +kernel
theorem dX4_holdOf_4 : decode cX4_holdOf 4 = .ok (.iload_n 2, 1) := by decide +kernel
theorem dX4_holdOf_5 : decode cX4_holdOf 5 = .ok (.iconst 0, 1) := by decide +kernel
theorem dX4_holdOf_6 : decode cX4_holdOf 6 = .ok (.invokevirtual 188, 3) := by decide +kernel
theorem dX4_holdOf_9 : decode cX4_holdOf 9 = .ok (.istore_n 3, 1) := by decide +kernel
theorem dX4_holdOf_10 : decode cX4_holdOf 10 = .ok (.aload_n 0, 1) := by decide +kernel
theorem dX4_holdOf_11 : decode cX4_holdOf 11 = .ok (.getfield 9, 3) := by decide +kernel
theorem dX4_holdOf_14 : decode cX4_holdOf 14 = .ok (.getfield 52, 3) := by decide +kernel
theorem dX4_holdOf_17 : decode cX4_holdOf 17 = .ok (.iload_n 1, 1) := by decide +kernel
theorem dX4_holdOf_18 : decode cX4_holdOf 18 = .ok (.iaload, 1) := by decide +kernel
theorem dX4_holdOf_19 : decode cX4_holdOf 19 = .ok (.iconst 2, 1) := by decide +kernel
theorem dX4_holdOf_20 : decode cX4_holdOf 20 = .ok (.if_icmp .ne 20, 3) := by decide +kernel
theorem dX4_holdOf_23 : decode cX4_holdOf 23 = .ok (.iload_n 3, 1) := by decide +kernel
theorem dX4_holdOf_24 : decode cX4_holdOf 24 = .ok (.aload_n 0, 1) := by decide +kernel
theorem dX4_holdOf_25 : decode cX4_holdOf 25 = .ok (.iconst 1, 1) := by decide +kernel
theorem dX4_holdOf_26 : decode cX4_holdOf 26 = .ok (.iload_n 1, 1) := by decide +kernel
theorem dX4_holdOf_27 : decode cX4_holdOf 27 = .ok (.iadd, 1) := by decide +kernel
theorem dX4_holdOf_28 : decode cX4_holdOf 28 = .ok (.bipush 64, 2) := by decide +kernel
theorem dX4_holdOf_30 : decode cX4_holdOf 30 = .ok (.iadd, 1) := by decide +kernel
theorem dX4_holdOf_31 : decode cX4_holdOf 31 = .ok (.iload_n 2, 1) := by decide +kernel
theorem dX4_holdOf_32 : decode cX4_holdOf 32 = .ok (.iconst 1, 1) := by decide +kernel
theorem dX4_holdOf_33 : decode cX4_holdOf 33 = .ok (.iadd, 1) := by decide +kernel
theorem dX4_holdOf_34 : decode cX4_holdOf 34 = .ok (.iconst 0, 1) := by decide +kernel
theorem dX4_holdOf_35 : decode cX4_holdOf 35 = .ok (.invokevirtual 188, 3) := by decide +kernel
theorem dX4_holdOf_38 : decode cX4_holdOf 38 = .ok (.iadd, 1) := by decide +kernel
theorem dX4_holdOf_39 : decode cX4_holdOf 39 = .ok (.istore_n 3, 1) := by decide +kernel
theorem dX4_holdOf_40 : decode cX4_holdOf 40 = .ok (.iload_n 3, 1) := by decide +kernel
theorem dX4_holdOf_41 : decode cX4_holdOf 41 = .ok (.ireturn, 1) := by decide +kernel
set_option maxRecDepth 20000 in
theorem ggX4_holdOfCode_X7_bitOf : GoodIn wsX4_holdOfCode wsX7_bitOf := goodIn_r _ [3] (by decide +kernel) (by decide +kernel)
set_option maxRecDepth 20000 in
theorem gX4_holdOfCode_X7_bitOf_n170 : GoodIn wsX4_holdOfCode (wsX7_bitOf) := ggX4_holdOfCode_X7_bitOf
set_option maxRecDepth 20000 in
theorem ggX4_holdOfCode_X4_strengthAt : GoodIn wsX4_holdOfCode wsX4_strengthAt := goodIn_r _ [8, 9, 10, 11, 12, 13, 14, 15, 16, 17, 18, 19, 20, 21, 22, 23, 24, 25, 26, 27, 28, 29, 30, 31, 32, 33, 34, 35, 36, 37, 38, 39, 40] (by decide +kernel) (by decide +kernel)
set_option maxRecDepth 20000 in
theorem gX4_holdOfCode_X4_strengthAt : GoodIn wsX4_holdOfCode (wsV RX4 192 RX4 yX4_strengthAt wsX4_strengthAt) := goodIn_app (goodIn_of _ (by decide +kernel)) ggX4_holdOfCode_X4_strengthAt
theorem dX4_holdOfCode_0 : decode cX4_holdOfCode 0 = .ok (.iconst 0, 1) := by decide +kernel
theorem dX4_holdOfCode_1 : decode cX4_holdOfCode 1 = .ok (.istore 4, 2) := by decide +kernel
theorem dX4_holdOfCode_3 : decode cX4_holdOfCode 3 = .ok (.iconst 0, 1) := by decide +kernel
theorem dX4_holdOfCode_4 : decode cX4_holdOfCode 4 = .ok (.istore 5, 2) := by decide +kernel
theorem dX4_holdOfCode_6 : decode cX4_holdOfCode 6 = .ok (.iload 5, 2) := by decide +kernel
theorem dX4_holdOfCode_8 : decode cX4_holdOfCode 8 = .ok (.iconst 4, 1) := by decide +kernel
theorem dX4_holdOfCode_9 : decode cX4_holdOfCode 9 = .ok (.if_icmp .ge 31, 3) := by decide +kernel
theorem dX4_holdOfCode_12 : decode cX4_holdOfCode 12 = .ok (.iload_n 3, 1) := by decide +kernel
theorem dX4_holdOfCode_13 : decode cX4_holdOfCode 13 = .ok (.iload 5, 2) := by decide +kernel
theorem dX4_holdOfCode_15 : decode cX4_holdOfCode 15 = .ok (.invokestatic 170, 3) := by decide +kernel
theorem dX4_holdOfCode_18 : decode cX4_holdOfCode 18 = .ok (.ifCond .ne 16, 3) := by decide +kernel
theorem dX4_holdOfCode_21 : decode cX4_holdOfCode 21 = .ok (.iload 4, 2) := by decide +kernel
theorem dX4_holdOfCode_23 : decode cX4_holdOfCode 23 = .ok (.aload_n 0, 1) := by decide +kernel
theorem dX4_holdOfCode_24 : decode cX4_holdOfCode 24 = .ok (.iload_n 1, 1) := by decide +kernel
theorem dX4_holdOfCode_25 : decode cX4_holdOfCode 25 = .ok (.iload_n 2, 1) := by decide +kernel
theorem dX4_holdOfCode_26 : decode cX4_holdOfCode 26 = .ok (.iload 5, 2) := by decide +kernel
theorem dX4_holdOfCode_28 : decode cX4_holdOfCode 28 = .ok (.invokevirtual 192, 3) := by decide +kernel
theorem dX4_holdOfCode_31 : decode cX4_holdOfCode 31 = .ok (.iadd, 1) := by decide +kernel
theorem dX4_holdOfCode_32 : decode cX4_holdOfCode 32 = .ok (.istore 4, 2) := by decide +kernel
theorem dX4_holdOfCode_34 : decode cX4_holdOfCode 34 = .ok (.iinc 5 1, 3) := by decide +kernel
theorem dX4_holdOfCode_37 : decode cX4_holdOfCode 37 = .ok (.goto (-31), 3) := by decide +kernel
theorem dX4_holdOfCode_40 : decode cX4_holdOfCode 40 = .ok (.iload 4, 2) := by decide +kernel
theorem dX4_holdOfCode_42 : decode cX4_holdOfCode 42 = .ok (.ireturn, 1) := by decide +kernel
theorem dX4_strengthAt_0 : decode cX4_strengthAt 0 = .ok (.aload_n 0, 1) := by decide +kernel
theorem dX4_strengthAt_1 : decode cX4_strengthAt 1 = .ok (.getfield 9, 3) := by decide +kernel
theorem dX4_strengthAt_4 : decode cX4_strengthAt 4 = .ok (.getfield 173, 3) := by decide +kernel
theorem dX4_strengthAt_7 : decode cX4_strengthAt 7 = .ok (.iconst 4, 1) := by decide +kernel
theorem dX4_strengthAt_8 : decode cX4_strengthAt 8 = .ok (.iload_n 1, 1) := by decide +kernel
theorem dX4_strengthAt_9 : decode cX4_strengthAt 9 = .ok (.imul, 1) := by decide +kernel
theorem dX4_strengthAt_10 : decode cX4_strengthAt 10 = .ok (.iload_n 3, 1) := by decide +kernel
theorem dX4_strengthAt_11 : decode cX4_strengthAt 11 = .ok (.iadd, 1) := by decide +kernel
theorem dX4_strengthAt_12 : decode cX4_strengthAt 12 = .ok (.iaload, 1) := by decide +kernel
theorem dX4_strengthAt_13 : decode cX4_strengthAt 13 = .ok (.istore 4, 2) := by decide +kernel
theorem dX4_strengthAt_15 : decode cX4_strengthAt 15 = .ok (.aload_n 0, 1) := by decide +kernel
theorem dX4_strengthAt_16 : decode cX4_strengthAt 16 = .ok (.getfield 15, 3) := by decide +kernel
theorem dX4_strengthAt_19 : decode cX4_strengthAt 19 = .ok (.iload_n 2, 1) := by decide +kernel
theorem dX4_strengthAt_20 : decode cX4_strengthAt 20 = .ok (.getstatic 167, 3) := by decide +kernel
theorem dX4_strengthAt_23 : decode cX4_strengthAt 23 = .ok (.iload_n 3, 1) := by decide +kernel
theorem dX4_strengthAt_24 : decode cX4_strengthAt 24 = .ok (.iaload, 1) := by decide +kernel
theorem dX4_strengthAt_25 : decode cX4_strengthAt 25 = .ok (.iadd, 1) := by decide +kernel
theorem dX4_strengthAt_26 : decode cX4_strengthAt 26 = .ok (.iaload, 1) := by decide +kernel
theorem dX4_strengthAt_27 : decode cX4_strengthAt 27 = .ok (.istore 5, 2) := by decide +kernel
theorem dX4_strengthAt_29 : decode cX4_strengthAt 29 = .ok (.aload_n 0, 1) := by decide +kernel
theorem dX4_strengthAt_30 : decode cX4_strengthAt 30 = .ok (.getfield 9, 3) := by decide +kernel
theorem dX4_strengthAt_33 : decode cX4_strengthAt 33 = .ok (.getfield 173, 3) := by decide +kernel
theorem dX4_strengthAt_36 : decode cX4_strengthAt 36 = .ok (.iconst 4, 1) := by decide +kernel
theorem dX4_strengthAt_37 : decode cX4_strengthAt 37 = .ok (.iload 5, 2) := by decide +kernel
theorem dX4_strengthAt_39 : decode cX4_strengthAt 39 = .ok (.imul, 1) := by decide +kernel
theorem dX4_strengthAt_40 : decode cX4_strengthAt 40 = .ok (.iload_n 3, 1) := by decide +kernel
theorem dX4_strengthAt_41 : decode cX4_strengthAt 41 = .ok (.iconst 2, 1) := by decide +kernel
theorem dX4_strengthAt_42 : decode cX4_strengthAt 42 = .ok (.ixor, 1) := by decide +kernel
theorem dX4_strengthAt_43 : decode cX4_strengthAt 43 = .ok (.iadd, 1) := by decide +kernel
theorem dX4_strengthAt_44 : decode cX4_strengthAt 44 = .ok (.iaload, 1) := by decide +kernel
theorem dX4_strengthAt_45 : decode cX4_strengthAt 45 = .ok (.iload 4, 2) := by decide +kernel
theorem dX4_strengthAt_47 : decode cX4_strengthAt 47 = .ok (.if_icmp .ne 16, 3) := by decide +kernel
theorem dX4_strengthAt_50 : decode cX4_strengthAt 50 = .ok (.aload_n 0, 1) := by decide +kernel
theorem dX4_strengthAt_51 : decode cX4_strengthAt 51 = .ok (.getfield 9, 3) := by decide +kernel
theorem dX4_strengthAt_54 : decode cX4_strengthAt 54 = .ok (.getfield 176, 3) := by decide +kernel
theorem dX4_strengthAt_57 : decode cX4_strengthAt 57 = .ok (.iload 4, 2) := by decide +kernel
theorem dX4_strengthAt_59 : decode cX4_strengthAt 59 = .ok (.iaload, 1) := by decide +kernel
theorem dX4_strengthAt_60 : decode cX4_strengthAt 60 = .ok (.goto 4, 3) := by decide +kernel
theorem dX4_strengthAt_63 : decode cX4_strengthAt 63 = .ok (.iconst 0, 1) := by decide +kernel
theorem dX4_strengthAt_64 : decode cX4_strengthAt 64 = .ok (.ireturn, 1) := by decide +kernel
set_option maxRecDepth 20000 in
theorem ggX4_mayLeave_X7_pieceIn : GoodIn wsX4_mayLeave wsX7_pieceIn := goodIn_r _ [6] (by decide +kernel) (by decide +kernel)
set_option maxRecDepth 20000 in
theorem gX4_mayLeave_X7_pieceIn_n69 : GoodIn wsX4_mayLeave (wsX7_pieceIn) := ggX4_mayLeave_X7_pieceIn
set_option maxRecDepth 20000 in
theorem ggX4_mayLeave_X1_isOfKind : GoodIn wsX4_mayLeave wsX1_isOfKind := goodIn_r _ [11, 12, 13, 14, 15, 10, 16, 17, 69, 70, 71, 72, 73, 74, 75, 76, 77, 78, 79, 80, 81] (by decide +kernel) (by decide +kernel)
set_option maxRecDepth 20000 in
theorem gX4_mayLeave_X1_isOfKind : GoodIn wsX4_mayLeave (wsV RX4 195 RX1 yX1_isOfKind wsX1_isOfKind) := goodIn_app (goodIn_of _ (by decide +kernel)) ggX4_mayLeave_X1_isOfKind
set_option maxRecDepth 20000 in
theorem ggX4_mayLeave_X4_holdOf : GoodIn wsX4_mayLeave wsX4_holdOf := goodIn_r _ [22, 2, 23, 24, 25, 26, 21, 27, 28, 5, 29, 30, 31, 32, 33, 34, 1, 35, 54, 55, 56, 57, 58, 59, 60, 61, 62, 63, 64, 65, 66, 67, 68, 69, 70, 71, 72, 73, 74, 75, 76, 77, 78, 79, 80, 81] (by decide +kernel) (by decide +kernel)
set_option maxRecDepth 20000 in
theorem gX4_mayLeave_X4_holdOf : GoodIn wsX4_mayLeave (wsV RX4 199 RX4 yX4_holdOf wsX4_holdOf) := goodIn_app (goodIn_of _ (by decide +kernel)) ggX4_mayLeave_X4_holdOf
set_option maxRecDepth 20000 in
theorem ggX4_mayLeave_X4_hangsTogetherWithout : GoodIn wsX4_mayLeave wsX4_hangsTogetherWithout := goodIn_r _ [39, 40, 1, 41, 42, 43, 44, 45, 46, 47, 21, 48, 49, 50, 51, 52, 53, 30, 31, 32, 33, 2, 34, 35, 54, 55, 56, 57, 58, 59, 60, 61, 62, 63, 64, 65, 66, 67, 68, 69, 70, 71, 72, 73, 74, 75, 76, 77, 78, 79, 80, 81] (by decide +kernel) (by decide +kernel)
set_option maxRecDepth 20000 in
theorem gX4_mayLeave_X4_hangsTogetherWithout : GoodIn wsX4_mayLeave (wsV RX4 202 RX4 yX4_hangsTogetherWithout wsX4_hangsTogetherWithout) := goodIn_app (goodIn_of _ (by decide +kernel)) ggX4_mayLeave_X4_hangsTogetherWithout
theorem dX4_mayLeave_0 : decode cX4_mayLeave 0 = .ok (.aload_n 0, 1) := by decide +kernel
theorem dX4_mayLeave_1 : decode cX4_mayLeave 1 = .ok (.getfield 15, 3) := by decide +kernel
theorem dX4_mayLeave_4 : decode cX4_mayLeave 4 = .ok (.iload_n 1, 1) := by decide +kernel
theorem dX4_mayLeave_5 : decode cX4_mayLeave 5 = .ok (.iaload, 1) := by decide +kernel
theorem dX4_mayLeave_6 : decode cX4_mayLeave 6 = .ok (.invokestatic 69, 3) := by decide +kernel
theorem dX4_mayLeave_9 : decode cX4_mayLeave 9 = .ok (.istore_n 2, 1) := by decide +kernel
theorem dX4_mayLeave_10 : decode cX4_mayLeave 10 = .ok (.aload_n 0, 1) := by decide +kernel
theorem dX4_mayLeave_11 : decode cX4_mayLeave 11 = .ok (.getfield 9, 3) := by decide +kernel
theorem dX4_mayLeave_14 : decode cX4_mayLeave 14 = .ok (.iload_n 2, 1) := by decide +kernel
theorem dX4_mayLeave_15 : decode cX4_mayLeave 15 = .ok (.iconst 3, 1) := by decide +kernel
theorem dX4_mayLeave_16 : decode cX4_mayLeave 16 = .ok (.invokevirtual 195, 3) := by decide +kernel
theorem dX4_mayLeave_19 : decode cX4_mayLeave 19 = .ok (.ifCond .eq 31, 3) := by decide +kernel
theorem dX4_mayLeave_22 : decode cX4_mayLeave 22 = .ok (.aload_n 0, 1) := by decide +kernel
theorem dX4_mayLeave_23 : decode cX4_mayLeave 23 = .ok (.iload_n 2, 1) := by decide +kernel
theorem dX4_mayLeave_24 : decode cX4_mayLeave 24 = .ok (.iload_n 1, 1) := by decide +kernel
theorem dX4_mayLeave_25 : decode cX4_mayLeave 25 = .ok (.invokevirtual 199, 3) := by decide +kernel
theorem dX4_mayLeave_28 : decode cX4_mayLeave 28 = .ok (.aload_n 0, 1) := by decide +kernel
theorem dX4_mayLeave_29 : decode cX4_mayLeave 29 = .ok (.getfield 9, 3) := by decide +kernel
theorem dX4_mayLeave_32 : decode cX4_mayLeave 32 = .ok (.getfield 179, 3) := by decide +kernel
theorem dX4_mayLeave_35 : decode cX4_mayLeave 35 = .ok (.if_icmp .ne 15, 3) := by decide +kernel
theorem dX4_mayLeave_38 : decode cX4_mayLeave 38 = .ok (.aload_n 0, 1) := by decide +kernel
theorem dX4_mayLeave_39 : decode cX4_mayLeave 39 = .ok (.iload_n 1, 1) := by decide +kernel
theorem dX4_mayLeave_40 : decode cX4_mayLeave 40 = .ok (.invokevirtual 202, 3) := by decide +kernel
theorem dX4_mayLeave_43 : decode cX4_mayLeave 43 = .ok (.ifCond .eq 7, 3) := by decide +kernel
theorem dX4_mayLeave_46 : decode cX4_mayLeave 46 = .ok (.iconst 1, 1) := by decide +kernel
theorem dX4_mayLeave_47 : decode cX4_mayLeave 47 = .ok (.goto 4, 3) := by decide +kernel
theorem dX4_mayLeave_50 : decode cX4_mayLeave 50 = .ok (.iconst 0, 1) := by decide +kernel
theorem dX4_mayLeave_51 : decode cX4_mayLeave 51 = .ok (.ireturn, 1) := by decide +kernel
set_option maxRecDepth 20000 in
theorem ggX4_hangsTogetherWithout_J7_fill_53178 : GoodIn wsX4_hangsTogetherWithout wsJ7_fill_53178 := goodIn_r _ [6] (by decide +kernel) (by decide +kernel)
set_option maxRecDepth 20000 in
theorem gX4_hangsTogetherWithout_J7_fill_53178 : GoodIn wsX4_hangsTogetherWithout (va_wsS RX4 72 yJ7_fill_53178 wsJ7_fill_53178) := goodIn_app (goodIn_of _ (by decide +kernel)) ggX4_hangsTogetherWithout_J7_fill_53178
set_option maxRecDepth 20000 in
theorem ggX4_hangsTogetherWithout_X4_countLedTo : GoodIn wsX4_hangsTogetherWithout wsX4_countLedTo := goodIn_r _ [11, 1, 12, 13, 14, 15, 10, 16, 2, 17, 18, 19, 20, 21, 22, 23, 24, 25, 26, 27, 28, 29, 30, 31, 32, 33, 34, 35, 36, 37, 38, 39, 40, 41, 42, 43, 44, 45, 46, 47, 48, 49, 50, 51] (by decide +kernel) (by decide +kernel)
set_option maxRecDepth 20000 in
theorem gX4_hangsTogetherWithout_X4_countLedTo : GoodIn wsX4_hangsTogetherWithout (wsV RX4 205 RX4 yX4_countLedTo wsX4_countLedTo) := goodIn_app (goodIn_of _ (by decide +kernel)) ggX4_hangsTogetherWithout_X4_countLedTo
theorem dX4_hangsTogetherWithout_0 : decode cX4_hangsTogetherWithout 0 = .ok (.aload_n 0, 1) := by decide +kernel
theorem dX4_hangsTogetherWithout_1 : decode cX4_hangsTogetherWithout 1 = .ok (.getfield 46, 3) := by decide +kernel
theorem dX4_hangsTogetherWithout_4 : decode cX4_hangsTogetherWithout 4 = .ok (.iconst 0, 1) := by decide +kernel
theorem dX4_hangsTogetherWithout_5 : decode cX4_hangsTogetherWithout 5 = .ok (.invokestatic 72, 3) := by decide +kernel
theorem dX4_hangsTogetherWithout_8 : decode cX4_hangsTogetherWithout 8 = .ok (.iconst 0, 1) := by decide +kernel
theorem dX4_hangsTogetherWithout_9 : decode cX4_hangsTogetherWithout 9 = .ok (.istore_n 2, 1) := by decide +kernel
theorem dX4_hangsTogetherWithout_10 : decode cX4_hangsTogetherWithout 10 = .ok (.iconst (-1), 1) := by decide +kernel
theorem dX4_hangsTogetherWithout_11 : decode cX4_hangsTogetherWithout 11 = .ok (.istore_n 3, 1) := by decide +kernel
theorem dX4_hangsTogetherWithout_12 : decode cX4_hangsTogetherWithout 12 = .ok (.iconst 0, 1) := by decide +kernel
theorem dX4_hangsTogetherWithout_13 : decode cX4_hangsTogetherWithout 13 = .ok (.istore 4, 2) := by decide +kernel
theorem dX4_hangsTogetherWithout_15 : decode cX4_hangsTogetherWithout 15 = .ok (.iload 4, 2) := by decide +kernel
theorem dX4_hangsTogetherWithout_17 : decode cX4_hangsTogetherWithout 17 = .ok (.sipush 324, 3) := by decide +kernel
theorem dX4_hangsTogetherWithout_20 : decode cX4_hangsTogetherWithout 20 = .ok (.if_icmp .ge 31, 3) := by decide +kernel
theorem dX4_hangsTogetherWithout_23 : decode cX4_hangsTogetherWithout 23 = .ok (.aload_n 0, 1) := by decide +kernel
theorem dX4_hangsTogetherWithout_24 : decode cX4_hangsTogetherWithout 24 = .ok (.getfield 15, 3) := by decide +kernel
theorem dX4_hangsTogetherWithout_27 : decode cX4_hangsTogetherWithout 27 = .ok (.iload 4, 2) := by decide +kernel
theorem dX4_hangsTogetherWithout_29 : decode cX4_hangsTogetherWithout 29 = .ok (.iaload, 1) := by decide +kernel
theorem dX4_hangsTogetherWithout_30 : decode cX4_hangsTogetherWithout 30 = .ok (.ifCond .eq 15, 3) := by decide +kernel
theorem dX4_hangsTogetherWithout_33 : decode cX4_hangsTogetherWithout 33 = .ok (.iload 4, 2) := by decide +kernel
theorem dX4_hangsTogetherWithout_35 : decode cX4_hangsTogetherWithout 35 = .ok (.iload_n 1, 1) := by decide +kernel
theorem dX4_hangsTogetherWithout_36 : decode cX4_hangsTogetherWithout 36 = .ok (.if_icmp .eq 9, 3) := by decide +kernel
theorem dX4_hangsTogetherWithout_39 : decode cX4_hangsTogetherWithout 39 = .ok (.iinc 2 1, 3) := by decide +kernel
theorem dX4_hangsTogetherWithout_42 : decode cX4_hangsTogetherWithout 42 = .ok (.iload 4, 2) := by decide +kernel
theorem dX4_hangsTogetherWithout_44 : decode cX4_hangsTogetherWithout 44 = .ok (.istore_n 3, 1) := by decide +kernel
theorem dX4_hangsTogetherWithout_45 : decode cX4_hangsTogetherWithout 45 = .ok (.iinc 4 1, 3) := by decide +kernel
theorem dX4_hangsTogetherWithout_48 : decode cX4_hangsTogetherWithout 48 = .ok (.goto (-33), 3) := by decide +kernel
theorem dX4_hangsTogetherWithout_51 : decode cX4_hangsTogetherWithout 51 = .ok (.iload_n 3, 1) := by decide +kernel
theorem dX4_hangsTogetherWithout_52 : decode cX4_hangsTogetherWithout 52 = .ok (.iconst (-1), 1) := by decide +kernel
theorem dX4_hangsTogetherWithout_53 : decode cX4_hangsTogetherWithout 53 = .ok (.if_icmp .eq 13, 3) := by decide +kernel
theorem dX4_hangsTogetherWithout_56 : decode cX4_hangsTogetherWithout 56 = .ok (.aload_n 0, 1) := by decide +kernel
theorem dX4_hangsTogetherWithout_57 : decode cX4_hangsTogetherWithout 57 = .ok (.iload_n 3, 1) := by decide +kernel
theorem dX4_hangsTogetherWithout_58 : decode cX4_hangsTogetherWithout 58 = .ok (.iload_n 1, 1) := by decide +kernel
theorem dX4_hangsTogetherWithout_59 : decode cX4_hangsTogetherWithout 59 = .ok (.invokevirtual 205, 3) := by decide +kernel
theorem dX4_hangsTogetherWithout_62 : decode cX4_hangsTogetherWithout 62 = .ok (.iload_n 2, 1) := by decide +kernel
theorem dX4_hangsTogetherWithout_63 : decode cX4_hangsTogetherWithout 63 = .ok (.if_icmp .ne 7, 3) := by decide +kernel
theorem dX4_hangsTogetherWithout_66 : decode cX4_hangsTogetherWithout 66 = .ok (.iconst 1, 1) := by decide +kernel
theorem dX4_hangsTogetherWithout_67 : decode cX4_hangsTogetherWithout 67 = .ok (.goto 4, 3) := by decide +kernel
theorem dX4_hangsTogetherWithout_70 : decode cX4_hangsTogetherWithout 70 = .ok (.iconst 0, 1) := by decide +kernel
theorem dX4_hangsTogetherWithout_71 : decode cX4_hangsTogetherWithout 71 = .ok (.ireturn, 1) := by decide +kernel
set_option maxRecDepth 20000 in
theorem ggX4_countLedTo_X4_leadsOn : GoodIn wsX4_countLedTo wsX4_leadsOn := goodIn_r _ [7, 8, 9, 10, 11, 6, 12, 13, 14, 15, 16, 17, 18, 19, 20, 21, 22, 23, 24, 25, 26, 27, 28, 29, 30, 31, 32, 33, 34, 35, 36, 37, 38, 39, 40, 41, 42, 43] (by decide +kernel) (by decide +kernel)
set_option maxRecDepth 20000 in
theorem gX4_countLedTo_X4_leadsOn : GoodIn wsX4_countLedTo (wsV RX4 208 RX4 yX4_leadsOn wsX4_leadsOn) := goodIn_app (goodIn_of _ (by decide +kernel)) ggX4_countLedTo_X4_leadsOn
theorem dX4_countLedTo_0 : decode cX4_countLedTo 0 = .ok (.aload_n 0, 1) := by decide +kernel
theorem dX4_countLedTo_1 : decode cX4_countLedTo 1 = .ok (.getfield 46, 3) := by decide +kernel
theorem dX4_countLedTo_4 : decode cX4_countLedTo 4 = .ok (.iload_n 2, 1) := by decide +kernel
theorem dX4_countLedTo_5 : decode cX4_countLedTo 5 = .ok (.iconst 1, 1) := by decide +kernel
theorem dX4_countLedTo_6 : decode cX4_countLedTo 6 = .ok (.iastore, 1) := by decide +kernel
theorem dX4_countLedTo_7 : decode cX4_countLedTo 7 = .ok (.aload_n 0, 1) := by decide +kernel
theorem dX4_countLedTo_8 : decode cX4_countLedTo 8 = .ok (.getfield 46, 3) := by decide +kernel
theorem dX4_countLedTo_11 : decode cX4_countLedTo 11 = .ok (.iload_n 1, 1) := by decide +kernel
theorem dX4_countLedTo_12 : decode cX4_countLedTo 12 = .ok (.iconst 1, 1) := by decide +kernel
theorem dX4_countLedTo_13 : decode cX4_countLedTo 13 = .ok (.iastore, 1) := by decide +kernel
theorem dX4_countLedTo_14 : decode cX4_countLedTo 14 = .ok (.aload_n 0, 1) := by decide +kernel
theorem dX4_countLedTo_15 : decode cX4_countLedTo 15 = .ok (.getfield 49, 3) := by decide +kernel
theorem dX4_countLedTo_18 : decode cX4_countLedTo 18 = .ok (.iconst 0, 1) := by decide +kernel
theorem dX4_countLedTo_19 : decode cX4_countLedTo 19 = .ok (.iload_n 1, 1) := by decide +kernel
theorem dX4_countLedTo_20 : decode cX4_countLedTo 20 = .ok (.iastore, 1) := by decide +kernel
theorem dX4_countLedTo_21 : decode cX4_countLedTo 21 = .ok (.iconst 1, 1) := by decide +kernel
theorem dX4_countLedTo_22 : decode cX4_countLedTo 22 = .ok (.istore_n 3, 1) := by decide +kernel
theorem dX4_countLedTo_23 : decode cX4_countLedTo 23 = .ok (.iconst 0, 1) := by decide +kernel
theorem dX4_countLedTo_24 : decode cX4_countLedTo 24 = .ok (.istore 4, 2) := by decide +kernel
theorem dX4_countLedTo_26 : decode cX4_countLedTo 26 = .ok (.iload 4, 2) := by decide +kernel
theorem dX4_countLedTo_28 : decode cX4_countLedTo 28 = .ok (.iload_n 3, 1) := by decide +kernel
theorem dX4_countLedTo_29 : decode cX4_countLedTo 29 = .ok (.if_icmp .ge 92, 3) := by decide +kernel
theorem dX4_countLedTo_32 : decode cX4_countLedTo 32 = .ok (.iload 4, 2) := by decide +kernel
theorem dX4_countLedTo_34 : decode cX4_countLedTo 34 = .ok (.sipush 256, 3) := by decide +kernel
theorem dX4_countLedTo_37 : decode cX4_countLedTo 37 = .ok (.if_icmp .ge 84, 3) := by decide +kernel
theorem dX4_countLedTo_40 : decode cX4_countLedTo 40 = .ok (.aload_n 0, 1) := by decide +kernel
theorem dX4_countLedTo_41 : decode cX4_countLedTo 41 = .ok (.getfield 49, 3) := by decide +kernel
theorem dX4_countLedTo_44 : decode cX4_countLedTo 44 = .ok (.iload 4, 2) := by decide +kernel
theorem dX4_countLedTo_46 : decode cX4_countLedTo 46 = .ok (.iaload, 1) := by decide +kernel
theorem dX4_countLedTo_47 : decode cX4_countLedTo 47 = .ok (.istore 5, 2) := by decide +kernel
theorem dX4_countLedTo_49 : decode cX4_countLedTo 49 = .ok (.iconst 0, 1) := by decide +kernel
theorem dX4_countLedTo_50 : decode cX4_countLedTo 50 = .ok (.istore 6, 2) := by decide +kernel
theorem dX4_countLedTo_52 : decode cX4_countLedTo 52 = .ok (.iload 6, 2) := by decide +kernel
theorem dX4_countLedTo_54 : decode cX4_countLedTo 54 = .ok (.iconst 4, 1) := by decide +kernel
theorem dX4_countLedTo_55 : decode cX4_countLedTo 55 = .ok (.if_icmp .ge 60, 3) := by decide +kernel
theorem dX4_countLedTo_58 : decode cX4_countLedTo 58 = .ok (.iload 5, 2) := by decide +kernel
theorem dX4_countLedTo_60 : decode cX4_countLedTo 60 = .ok (.getstatic 167, 3) := by decide +kernel
theorem dX4_countLedTo_63 : decode cX4_countLedTo 63 = .ok (.iload 6, 2) := by decide +kernel
theorem dX4_countLedTo_65 : decode cX4_countLedTo 65 = .ok (.iaload, 1) := by decide +kernel
theorem dX4_countLedTo_66 : decode cX4_countLedTo 66 = .ok (.iadd, 1) := by decide +kernel
theorem dX4_countLedTo_67 : decode cX4_countLedTo 67 = .ok (.istore 7, 2) := by decide +kernel
theorem dX4_countLedTo_69 : decode cX4_countLedTo 69 = .ok (.aload_n 0, 1) := by decide +kernel
theorem dX4_countLedTo_70 : decode cX4_countLedTo 70 = .ok (.getfield 46, 3) := by decide +kernel
theorem dX4_countLedTo_73 : decode cX4_countLedTo 73 = .ok (.iload 7, 2) := by decide +kernel
theorem dX4_countLedTo_75 : decode cX4_countLedTo 75 = .ok (.iaload, 1) := by decide +kernel
theorem dX4_countLedTo_76 : decode cX4_countLedTo 76 = .ok (.ifCond .ne 33, 3) := by decide +kernel
theorem dX4_countLedTo_79 : decode cX4_countLedTo 79 = .ok (.aload_n 0, 1) := by decide +kernel
theorem dX4_countLedTo_80 : decode cX4_countLedTo 80 = .ok (.iload 5, 2) := by decide +kernel
theorem dX4_countLedTo_82 : decode cX4_countLedTo 82 = .ok (.iload 6, 2) := by decide +kernel
theorem dX4_countLedTo_84 : decode cX4_countLedTo 84 = .ok (.invokevirtual 208, 3) := by decide +kernel
theorem dX4_countLedTo_87 : decode cX4_countLedTo 87 = .ok (.ifCond .eq 22, 3) := by decide +kernel
theorem dX4_countLedTo_90 : decode cX4_countLedTo 90 = .ok (.aload_n 0, 1) := by decide +kernel
theorem dX4_countLedTo_91 : decode cX4_countLedTo 91 = .ok (.getfield 46, 3) := by decide +kernel
theorem dX4_countLedTo_94 : decode cX4_countLedTo 94 = .ok (.iload 7, 2) := by decide +kernel
theorem dX4_countLedTo_96 : decode cX4_countLedTo 96 = .ok (.iconst 1, 1) := by decide +kernel
theorem dX4_countLedTo_97 : decode cX4_countLedTo 97 = .ok (.iastore, 1) := by decide +kernel
theorem dX4_countLedTo_98 : decode cX4_countLedTo 98 = .ok (.aload_n 0, 1) := by decide +kernel
theorem dX4_countLedTo_99 : decode cX4_countLedTo 99 = .ok (.getfield 49, 3) := by decide +kernel
theorem dX4_countLedTo_102 : decode cX4_countLedTo 102 = .ok (.iload_n 3, 1) := by decide +kernel
theorem dX4_countLedTo_103 : decode cX4_countLedTo 103 = .ok (.iload 7, 2) := by decide +kernel
theorem dX4_countLedTo_105 : decode cX4_countLedTo 105 = .ok (.iastore, 1) := by decide +kernel
theorem dX4_countLedTo_106 : decode cX4_countLedTo 106 = .ok (.iinc 3 1, 3) := by decide +kernel
theorem dX4_countLedTo_109 : decode cX4_countLedTo 109 = .ok (.iinc 6 1, 3) := by decide +kernel
theorem dX4_countLedTo_112 : decode cX4_countLedTo 112 = .ok (.goto (-60), 3) := by decide +kernel
theorem dX4_countLedTo_115 : decode cX4_countLedTo 115 = .ok (.iinc 4 1, 3) := by decide +kernel
theorem dX4_countLedTo_118 : decode cX4_countLedTo 118 = .ok (.goto (-92), 3) := by decide +kernel
theorem dX4_countLedTo_121 : decode cX4_countLedTo 121 = .ok (.iload_n 3, 1) := by decide +kernel
theorem dX4_countLedTo_122 : decode cX4_countLedTo 122 = .ok (.ireturn, 1) := by decide +kernel
set_option maxRecDepth 20000 in
theorem ggX4_leadsOn_X4_strengthAt : GoodIn wsX4_leadsOn wsX4_strengthAt := goodIn_r _ [6, 7, 8, 1, 9, 10, 11, 12, 13, 14, 15, 16, 17, 18, 19, 20, 21, 22, 23, 24, 25, 26, 27, 28, 29, 30, 31, 32, 33, 34, 35, 36, 37] (by decide +kernel) (by decide +kernel)
set_option maxRecDepth 20000 in
theorem gX4_leadsOn_X4_strengthAt : GoodIn wsX4_leadsOn (wsV RX4 192 RX4 yX4_strengthAt wsX4_strengthAt) := goodIn_app (goodIn_of _ (by decide +kernel)) ggX4_leadsOn_X4_strengthAt
theorem dX4_leadsOn_0 : decode cX4_leadsOn 0 = .ok (.aload_n 0, 1) := by decide +kernel
theorem dX4_leadsOn_1 : decode cX4_leadsOn 1 = .ok (.getfield 15, 3) := by decide +kernel
theorem dX4_leadsOn_4 : decode cX4_leadsOn 4 = .ok (.iload_n 1, 1) := by decide +kernel
theorem dX4_leadsOn_5 : decode cX4_leadsOn 5 = .ok (.iaload, 1) := by decide +kernel
theorem dX4_leadsOn_6 : decode cX4_leadsOn 6 = .ok (.istore_n 3, 1) := by decide +kernel
theorem dX4_leadsOn_7 : decode cX4_leadsOn 7 = .ok (.aload_n 0, 1) := by decide +kernel
theorem dX4_leadsOn_8 : decode cX4_leadsOn 8 = .ok (.getfield 15, 3) := by decide +kernel
theorem dX4_leadsOn_11 : decode cX4_leadsOn 11 = .ok (.iload_n 1, 1) := by decide +kernel
theorem dX4_leadsOn_12 : decode cX4_leadsOn 12 = .ok (.getstatic 167, 3) := by decide +kernel
theorem dX4_leadsOn_15 : decode cX4_leadsOn 15 = .ok (.iload_n 2, 1) := by decide +kernel
theorem dX4_leadsOn_16 : decode cX4_leadsOn 16 = .ok (.iaload, 1) := by decide +kernel
theorem dX4_leadsOn_17 : decode cX4_leadsOn 17 = .ok (.iadd, 1) := by decide +kernel
theorem dX4_leadsOn_18 : decode cX4_leadsOn 18 = .ok (.iaload, 1) := by decide +kernel
theorem dX4_leadsOn_19 : decode cX4_leadsOn 19 = .ok (.istore 4, 2) := by decide +kernel
theorem dX4_leadsOn_21 : decode cX4_leadsOn 21 = .ok (.iload_n 2, 1) := by decide +kernel
theorem dX4_leadsOn_22 : decode cX4_leadsOn 22 = .ok (.iconst 1, 1) := by decide +kernel
theorem dX4_leadsOn_23 : decode cX4_leadsOn 23 = .ok (.if_icmp .ne 12, 3) := by decide +kernel
theorem dX4_leadsOn_26 : decode cX4_leadsOn 26 = .ok (.iload 4, 2) := by decide +kernel
theorem dX4_leadsOn_28 : decode cX4_leadsOn 28 = .ok (.iload_n 3, 1) := by decide +kernel
theorem dX4_leadsOn_29 : decode cX4_leadsOn 29 = .ok (.bipush 64, 2) := by decide +kernel
theorem dX4_leadsOn_31 : decode cX4_leadsOn 31 = .ok (.iadd, 1) := by decide +kernel
theorem dX4_leadsOn_32 : decode cX4_leadsOn 32 = .ok (.if_icmp .eq 17, 3) := by decide +kernel
theorem dX4_leadsOn_35 : decode cX4_leadsOn 35 = .ok (.iload_n 2, 1) := by decide +kernel
theorem dX4_leadsOn_36 : decode cX4_leadsOn 36 = .ok (.iconst 3, 1) := by decide +kernel
theorem dX4_leadsOn_37 : decode cX4_leadsOn 37 = .ok (.if_icmp .ne 16, 3) := by decide +kernel
theorem dX4_leadsOn_40 : decode cX4_leadsOn 40 = .ok (.iload_n 3, 1) := by decide +kernel
theorem dX4_leadsOn_41 : decode cX4_leadsOn 41 = .ok (.iload 4, 2) := by decide +kernel
theorem dX4_leadsOn_43 : decode cX4_leadsOn 43 = .ok (.bipush 64, 2) := by decide +kernel
theorem dX4_leadsOn_45 : decode cX4_leadsOn 45 = .ok (.iadd, 1) := by decide +kernel
theorem dX4_leadsOn_46 : decode cX4_leadsOn 46 = .ok (.if_icmp .ne 7, 3) := by decide +kernel
theorem dX4_leadsOn_49 : decode cX4_leadsOn 49 = .ok (.iconst 1, 1) := by decide +kernel
theorem dX4_leadsOn_50 : decode cX4_leadsOn 50 = .ok (.goto 4, 3) := by decide +kernel
theorem dX4_leadsOn_53 : decode cX4_leadsOn 53 = .ok (.iconst 0, 1) := by decide +kernel
theorem dX4_leadsOn_54 : decode cX4_leadsOn 54 = .ok (.istore 5, 2) := by decide +kernel
theorem dX4_leadsOn_56 : decode cX4_leadsOn 56 = .ok (.iload 4, 2) := by decide +kernel
theorem dX4_leadsOn_58 : decode cX4_leadsOn 58 = .ok (.ifCond .eq 22, 3) := by decide +kernel
theorem dX4_leadsOn_61 : decode cX4_leadsOn 61 = .ok (.iload 5, 2) := by decide +kernel
theorem dX4_leadsOn_63 : decode cX4_leadsOn 63 = .ok (.ifCond .ne 13, 3) := by decide +kernel
theorem dX4_leadsOn_66 : decode cX4_leadsOn 66 = .ok (.aload_n 0, 1) := by decide +kernel
theorem dX4_leadsOn_67 : decode cX4_leadsOn 67 = .ok (.iload_n 3, 1) := by decide +kernel
theorem dX4_leadsOn_68 : decode cX4_leadsOn 68 = .ok (.iload_n 1, 1) := by decide +kernel
theorem dX4_leadsOn_69 : decode cX4_leadsOn 69 = .ok (.iload_n 2, 1) := by decide +kernel
theorem dX4_leadsOn_70 : decode cX4_leadsOn 70 = .ok (.invokevirtual 192, 3) := by decide +kernel
theorem dX4_leadsOn_73 : decode cX4_leadsOn 73 = .ok (.ifCond .le 7, 3) := by decide +kernel
theorem dX4_leadsOn_76 : decode cX4_leadsOn 76 = .ok (.iconst 1, 1) := by decide +kernel
theorem dX4_leadsOn_77 : decode cX4_leadsOn 77 = .ok (.goto 4, 3) := by decide +kernel
theorem dX4_leadsOn_80 : decode cX4_leadsOn 80 = .ok (.iconst 0, 1) := by decide +kernel
theorem dX4_leadsOn_81 : decode cX4_leadsOn 81 = .ok (.ireturn, 1) := by decide +kernel
theorem dX5_init_0 : decode cX5_init 0 = .ok (.aload_n 0, 1) := by decide +kernel
theorem dX5_init_1 : decode cX5_init 1 = .ok (.invokespecial 3, 3) := by decide +kernel
theorem dX5_init_4 : decode cX5_init 4 = .ok (.aload_n 0, 1) := by decide +kernel
theorem dX5_init_5 : decode cX5_init 5 = .ok (.iconst 0, 1) := by decide +kernel
theorem dX5_init_6 : decode cX5_init 6 = .ok (.putfield 9, 3) := by decide +kernel
theorem dX5_init_9 : decode cX5_init 9 = .ok (.aload_n 0, 1) := by decide +kernel
theorem dX5_init_10 : decode cX5_init 10 = .ok (.iconst 0, 1) := by decide +kernel
theorem dX5_init_11 : decode cX5_init 11 = .ok (.putfield 15, 3) := by decide +kernel
theorem dX5_init_14 : decode cX5_init 14 = .ok (.aload_n 0, 1) := by decide +kernel
theorem dX5_init_15 : decode cX5_init 15 = .ok (.iconst 1, 1) := by decide +kernel
theorem dX5_init_16 : decode cX5_init 16 = .ok (.putfield 18, 3) := by decide +kernel
theorem dX5_init_19 : decode cX5_init 19 = .ok (.aload_n 0, 1) := by decide +kernel
theorem dX5_init_20 : decode cX5_init 20 = .ok (.sipush 200, 3) := by decide +kernel
theorem dX5_init_23 : decode cX5_init 23 = .ok (.newarray .int, 2) := by decide +kernel
theorem dX5_init_25 : decode cX5_init 25 = .ok (.putfield 22, 3) := by decide +kernel
theorem dX5_init_28 : decode cX5_init 28 = .ok (.aload_n 0, 1) := by decide +kernel
theorem dX5_init_29 : decode cX5_init 29 = .ok (.sipush 200, 3) := by decide +kernel
theorem dX5_init_32 : decode cX5_init 32 = .ok (.newarray .int, 2) := by decide +kernel
theorem dX5_init_34 : decode cX5_init 34 = .ok (.putfield 26, 3) := by decide +kernel
theorem dX5_init_37 : decode cX5_init 37 = .ok (.aload_n 0, 1) := by decide +kernel
theorem dX5_init_38 : decode cX5_init 38 = .ok (.sipush 200, 3) := by decide +kernel
theorem dX5_init_41 : decode cX5_init 41 = .ok (.newarray .int, 2) := by decide +kernel
theorem dX5_init_43 : decode cX5_init 43 = .ok (.putfield 29, 3) := by decide +kernel
theorem dX5_init_46 : decode cX5_init 46 = .ok (.aload_n 0, 1) := by decide +kernel
theorem dX5_init_47 : decode cX5_init 47 = .ok (.sipush 200, 3) := by decide +kernel
theorem dX5_init_50 : decode cX5_init 50 = .ok (.newarray .int, 2) := by decide +kernel
theorem dX5_init_52 : decode cX5_init 52 = .ok (.putfield 32, 3) := by decide +kernel
theorem dX5_init_55 : decode cX5_init 55 = .ok (.aload_n 0, 1) := by decide +kernel
theorem dX5_init_56 : decode cX5_init 56 = .ok (.sipush 324, 3) := by decide +kernel
theorem dX5_init_59 : decode cX5_init 59 = .ok (.newarray .int, 2) := by decide +kernel
theorem dX5_init_61 : decode cX5_init 61 = .ok (.putfield 35, 3) := by decide +kernel
theorem dX5_init_64 : decode cX5_init 64 = .ok (.return_, 1) := by decide +kernel
set_option maxRecDepth 20000 in
theorem ggX5_restart_J7_fill_53178 : GoodIn wsX5_restart wsJ7_fill_53178 := goodIn_r _ [8] (by decide +kernel) (by decide +kernel)
set_option maxRecDepth 20000 in
theorem gX5_restart_J7_fill_53178 : GoodIn wsX5_restart (va_wsS RX5 38 yJ7_fill_53178 wsJ7_fill_53178) := goodIn_app (goodIn_of _ (by decide +kernel)) ggX5_restart_J7_fill_53178
theorem dX5_restart_0 : decode cX5_restart 0 = .ok (.aload_n 0, 1) := by decide +kernel
theorem dX5_restart_1 : decode cX5_restart 1 = .ok (.iconst 0, 1) := by decide +kernel
theorem dX5_restart_2 : decode cX5_restart 2 = .ok (.putfield 9, 3) := by decide +kernel
theorem dX5_restart_5 : decode cX5_restart 5 = .ok (.aload_n 0, 1) := by decide +kernel
theorem dX5_restart_6 : decode cX5_restart 6 = .ok (.iconst 0, 1) := by decide +kernel
theorem dX5_restart_7 : decode cX5_restart 7 = .ok (.putfield 15, 3) := by decide +kernel
theorem dX5_restart_10 : decode cX5_restart 10 = .ok (.aload_n 0, 1) := by decide +kernel
theorem dX5_restart_11 : decode cX5_restart 11 = .ok (.iload_n 1, 1) := by decide +kernel
theorem dX5_restart_12 : decode cX5_restart 12 = .ok (.putfield 18, 3) := by decide +kernel
theorem dX5_restart_15 : decode cX5_restart 15 = .ok (.aload_n 0, 1) := by decide +kernel
theorem dX5_restart_16 : decode cX5_restart 16 = .ok (.getfield 35, 3) := by decide +kernel
