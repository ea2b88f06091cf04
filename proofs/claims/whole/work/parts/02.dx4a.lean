theorem dX4_init_0 : decode cX4_init 0 = .ok (.aload_n 0, 1) := by decide +kernel
theorem dX4_init_1 : decode cX4_init 1 = .ok (.invokespecial 1, 3) := by decide +kernel
theorem dX4_init_4 : decode cX4_init 4 = .ok (.aload_n 0, 1) := by decide +kernel
theorem dX4_init_5 : decode cX4_init 5 = .ok (.bipush 6, 2) := by decide +kernel
theorem dX4_init_7 : decode cX4_init 7 = .ok (.newarray .int, 2) := by decide +kernel
theorem dX4_init_9 : decode cX4_init 9 = .ok (.putfield 7, 3) := by decide +kernel
theorem dX4_init_12 : decode cX4_init 12 = .ok (.aload_n 0, 1) := by decide +kernel
theorem dX4_init_13 : decode cX4_init 13 = .ok (.bipush 6, 2) := by decide +kernel
theorem dX4_init_15 : decode cX4_init 15 = .ok (.newarray .int, 2) := by decide +kernel
theorem dX4_init_17 : decode cX4_init 17 = .ok (.putfield 13, 3) := by decide +kernel
theorem dX4_init_20 : decode cX4_init 20 = .ok (.aload_n 0, 1) := by decide +kernel
theorem dX4_init_21 : decode cX4_init 21 = .ok (.bipush 6, 2) := by decide +kernel
theorem dX4_init_23 : decode cX4_init 23 = .ok (.newarray .int, 2) := by decide +kernel
theorem dX4_init_25 : decode cX4_init 25 = .ok (.putfield 16, 3) := by decide +kernel
theorem dX4_init_28 : decode cX4_init 28 = .ok (.aload_n 0, 1) := by decide +kernel
theorem dX4_init_29 : decode cX4_init 29 = .ok (.bipush 6, 2) := by decide +kernel
theorem dX4_init_31 : decode cX4_init 31 = .ok (.newarray .int, 2) := by decide +kernel
theorem dX4_init_33 : decode cX4_init 33 = .ok (.putfield 19, 3) := by decide +kernel
theorem dX4_init_36 : decode cX4_init 36 = .ok (.aload_n 0, 1) := by decide +kernel
theorem dX4_init_37 : decode cX4_init 37 = .ok (.bipush 72, 2) := by decide +kernel
theorem dX4_init_39 : decode cX4_init 39 = .ok (.newarray .int, 2) := by decide +kernel
theorem dX4_init_41 : decode cX4_init 41 = .ok (.putfield 22, 3) := by decide +kernel
theorem dX4_init_44 : decode cX4_init 44 = .ok (.aload_n 0, 1) := by decide +kernel
theorem dX4_init_45 : decode cX4_init 45 = .ok (.bipush 6, 2) := by decide +kernel
theorem dX4_init_47 : decode cX4_init 47 = .ok (.newarray .int, 2) := by decide +kernel
theorem dX4_init_49 : decode cX4_init 49 = .ok (.putfield 25, 3) := by decide +kernel
theorem dX4_init_52 : decode cX4_init 52 = .ok (.aload_n 0, 1) := by decide +kernel
theorem dX4_init_53 : decode cX4_init 53 = .ok (.bipush 6, 2) := by decide +kernel
theorem dX4_init_55 : decode cX4_init 55 = .ok (.newarray .int, 2) := by decide +kernel
theorem dX4_init_57 : decode cX4_init 57 = .ok (.putfield 28, 3) := by decide +kernel
theorem dX4_init_60 : decode cX4_init 60 = .ok (.aload_n 0, 1) := by decide +kernel
theorem dX4_init_61 : decode cX4_init 61 = .ok (.bipush 108, 2) := by decide +kernel
theorem dX4_init_63 : decode cX4_init 63 = .ok (.newarray .int, 2) := by decide +kernel
theorem dX4_init_65 : decode cX4_init 65 = .ok (.putfield 31, 3) := by decide +kernel
theorem dX4_init_68 : decode cX4_init 68 = .ok (.aload_n 0, 1) := by decide +kernel
theorem dX4_init_69 : decode cX4_init 69 = .ok (.bipush 6, 2) := by decide +kernel
theorem dX4_init_71 : decode cX4_init 71 = .ok (.newarray .int, 2) := by decide +kernel
theorem dX4_init_73 : decode cX4_init 73 = .ok (.putfield 34, 3) := by decide +kernel
theorem dX4_init_76 : decode cX4_init 76 = .ok (.aload_n 0, 1) := by decide +kernel
theorem dX4_init_77 : decode cX4_init 77 = .ok (.sipush 600, 3) := by decide +kernel
theorem dX4_init_80 : decode cX4_init 80 = .ok (.newarray .int, 2) := by decide +kernel
theorem dX4_init_82 : decode cX4_init 82 = .ok (.putfield 37, 3) := by decide +kernel
theorem dX4_init_85 : decode cX4_init 85 = .ok (.aload_n 0, 1) := by decide +kernel
theorem dX4_init_86 : decode cX4_init 86 = .ok (.sipush 600, 3) := by decide +kernel
theorem dX4_init_89 : decode cX4_init 89 = .ok (.newarray .int, 2) := by decide +kernel
theorem dX4_init_91 : decode cX4_init 91 = .ok (.putfield 40, 3) := by decide +kernel
theorem dX4_init_94 : decode cX4_init 94 = .ok (.aload_n 0, 1) := by decide +kernel
theorem dX4_init_95 : decode cX4_init 95 = .ok (.iconst (-1), 1) := by decide +kernel
theorem dX4_init_96 : decode cX4_init 96 = .ok (.putfield 43, 3) := by decide +kernel
theorem dX4_init_99 : decode cX4_init 99 = .ok (.aload_n 0, 1) := by decide +kernel
theorem dX4_init_100 : decode cX4_init 100 = .ok (.ldc 47, 2) := by decide +kernel
theorem dX4_init_102 : decode cX4_init 102 = .ok (.newarray .boolean, 2) := by decide +kernel
theorem dX4_init_104 : decode cX4_init 104 = .ok (.putfield 48, 3) := by decide +kernel
theorem dX4_init_107 : decode cX4_init 107 = .ok (.aload_n 0, 1) := by decide +kernel
theorem dX4_init_108 : decode cX4_init 108 = .ok (.ldc 47, 2) := by decide +kernel
theorem dX4_init_110 : decode cX4_init 110 = .ok (.newarray .int, 2) := by decide +kernel
theorem dX4_init_112 : decode cX4_init 112 = .ok (.putfield 52, 3) := by decide +kernel
theorem dX4_init_115 : decode cX4_init 115 = .ok (.aload_n 0, 1) := by decide +kernel
theorem dX4_init_116 : decode cX4_init 116 = .ok (.ldc 47, 2) := by decide +kernel
theorem dX4_init_118 : decode cX4_init 118 = .ok (.newarray .int, 2) := by decide +kernel
theorem dX4_init_120 : decode cX4_init 120 = .ok (.putfield 55, 3) := by decide +kernel
theorem dX4_init_123 : decode cX4_init 123 = .ok (.aload_n 0, 1) := by decide +kernel
theorem dX4_init_124 : decode cX4_init 124 = .ok (.bipush 7, 2) := by decide +kernel
theorem dX4_init_126 : decode cX4_init 126 = .ok (.newarray .int, 2) := by decide +kernel
theorem dX4_init_128 : decode cX4_init 128 = .ok (.putfield 58, 3) := by decide +kernel
theorem dX4_init_131 : decode cX4_init 131 = .ok (.aload_n 0, 1) := by decide +kernel
theorem dX4_init_132 : decode cX4_init 132 = .ok (.bipush 49, 2) := by decide +kernel
theorem dX4_init_134 : decode cX4_init 134 = .ok (.newarray .int, 2) := by decide +kernel
theorem dX4_init_136 : decode cX4_init 136 = .ok (.putfield 61, 3) := by decide +kernel
theorem dX4_init_139 : decode cX4_init 139 = .ok (.aload_n 0, 1) := by decide +kernel
theorem dX4_init_140 : decode cX4_init 140 = .ok (.bipush 64, 2) := by decide +kernel
theorem dX4_init_142 : decode cX4_init 142 = .ok (.newarray .boolean, 2) := by decide +kernel
theorem dX4_init_144 : decode cX4_init 144 = .ok (.putfield 64, 3) := by decide +kernel
theorem dX4_init_147 : decode cX4_init 147 = .ok (.aload_n 0, 1) := by decide +kernel
theorem dX4_init_148 : decode cX4_init 148 = .ok (.bipush 7, 2) := by decide +kernel
theorem dX4_init_150 : decode cX4_init 150 = .ok (.newarray .int, 2) := by decide +kernel
theorem dX4_init_152 : decode cX4_init 152 = .ok (.putfield 67, 3) := by decide +kernel
theorem dX4_init_155 : decode cX4_init 155 = .ok (.return_, 1) := by decide +kernel
theorem dX4_in_0 : decode cX4_in 0 = .ok (.lload_n 0, 1) := by decide +kernel
theorem dX4_in_1 : decode cX4_in 1 = .ok (.lload_n 2, 1) := by decide +kernel
theorem dX4_in_2 : decode cX4_in 2 = .ok (.lcmp, 1) := by decide +kernel
theorem dX4_in_3 : decode cX4_in 3 = .ok (.ifCond .lt 14, 3) := by decide +kernel
theorem dX4_in_6 : decode cX4_in 6 = .ok (.lload_n 0, 1) := by decide +kernel
theorem dX4_in_7 : decode cX4_in 7 = .ok (.lload 4, 2) := by decide +kernel
theorem dX4_in_9 : decode cX4_in 9 = .ok (.lcmp, 1) := by decide +kernel
theorem dX4_in_10 : decode cX4_in 10 = .ok (.ifCond .gt 7, 3) := by decide +kernel
theorem dX4_in_13 : decode cX4_in 13 = .ok (.iconst 1, 1) := by decide +kernel
theorem dX4_in_14 : decode cX4_in 14 = .ok (.goto 4, 3) := by decide +kernel
theorem dX4_in_17 : decode cX4_in 17 = .ok (.iconst 0, 1) := by decide +kernel
theorem dX4_in_18 : decode cX4_in 18 = .ok (.ireturn, 1) := by decide +kernel
theorem dX4_bits_0 : decode cX4_bits 0 = .ok (.iconst 0, 1) := by decide +kernel
theorem dX4_bits_1 : decode cX4_bits 1 = .ok (.istore_n 1, 1) := by decide +kernel
theorem dX4_bits_2 : decode cX4_bits 2 = .ok (.iconst 0, 1) := by decide +kernel
theorem dX4_bits_3 : decode cX4_bits 3 = .ok (.istore_n 2, 1) := by decide +kernel
theorem dX4_bits_4 : decode cX4_bits 4 = .ok (.iload_n 2, 1) := by decide +kernel
theorem dX4_bits_5 : decode cX4_bits 5 = .ok (.bipush 16, 2) := by decide +kernel
theorem dX4_bits_7 : decode cX4_bits 7 = .ok (.if_icmp .ge 17, 3) := by decide +kernel
theorem dX4_bits_10 : decode cX4_bits 10 = .ok (.iload_n 1, 1) := by decide +kernel
theorem dX4_bits_11 : decode cX4_bits 11 = .ok (.iload_n 0, 1) := by decide +kernel
theorem dX4_bits_12 : decode cX4_bits 12 = .ok (.iload_n 2, 1) := by decide +kernel
theorem dX4_bits_13 : decode cX4_bits 13 = .ok (.ishr, 1) := by decide +kernel
theorem dX4_bits_14 : decode cX4_bits 14 = .ok (.iconst 1, 1) := by decide +kernel
theorem dX4_bits_15 : decode cX4_bits 15 = .ok (.iand, 1) := by decide +kernel
theorem dX4_bits_16 : decode cX4_bits 16 = .ok (.iadd, 1) := by decide +kernel
theorem dX4_bits_17 : decode cX4_bits 17 = .ok (.istore_n 1, 1) := by decide +kernel
theorem dX4_bits_18 : decode cX4_bits 18 = .ok (.iinc 2 1, 3) := by decide +kernel
theorem dX4_bits_21 : decode cX4_bits 21 = .ok (.goto (-17), 3) := by decide +kernel
theorem dX4_bits_24 : decode cX4_bits 24 = .ok (.iload_n 1, 1) := by decide +kernel
theorem dX4_bits_25 : decode cX4_bits 25 = .ok (.ireturn, 1) := by decide +kernel
theorem dX4_rowsOf_0 : decode cX4_rowsOf 0 = .ok (.iconst 1, 1) := by decide +kernel
theorem dX4_rowsOf_1 : decode cX4_rowsOf 1 = .ok (.istore_n 2, 1) := by decide +kernel
theorem dX4_rowsOf_2 : decode cX4_rowsOf 2 = .ok (.iconst 1, 1) := by decide +kernel
theorem dX4_rowsOf_3 : decode cX4_rowsOf 3 = .ok (.istore_n 3, 1) := by decide +kernel
theorem dX4_rowsOf_4 : decode cX4_rowsOf 4 = .ok (.iload_n 3, 1) := by decide +kernel
theorem dX4_rowsOf_5 : decode cX4_rowsOf 5 = .ok (.iload_n 0, 1) := by decide +kernel
theorem dX4_rowsOf_6 : decode cX4_rowsOf 6 = .ok (.if_icmp .gt 17, 3) := by decide +kernel
theorem dX4_rowsOf_9 : decode cX4_rowsOf 9 = .ok (.iload_n 2, 1) := by decide +kernel
theorem dX4_rowsOf_10 : decode cX4_rowsOf 10 = .ok (.iload_n 1, 1) := by decide +kernel
theorem dX4_rowsOf_11 : decode cX4_rowsOf 11 = .ok (.iload_n 3, 1) := by decide +kernel
theorem dX4_rowsOf_12 : decode cX4_rowsOf 12 = .ok (.iadd, 1) := by decide +kernel
theorem dX4_rowsOf_13 : decode cX4_rowsOf 13 = .ok (.imul, 1) := by decide +kernel
theorem dX4_rowsOf_14 : decode cX4_rowsOf 14 = .ok (.iload_n 3, 1) := by decide +kernel
theorem dX4_rowsOf_15 : decode cX4_rowsOf 15 = .ok (.idiv, 1) := by decide +kernel
theorem dX4_rowsOf_16 : decode cX4_rowsOf 16 = .ok (.istore_n 2, 1) := by decide +kernel
theorem dX4_rowsOf_17 : decode cX4_rowsOf 17 = .ok (.iinc 3 1, 3) := by decide +kernel
theorem dX4_rowsOf_20 : decode cX4_rowsOf 20 = .ok (.goto (-16), 3) := by decide +kernel
theorem dX4_rowsOf_23 : decode cX4_rowsOf 23 = .ok (.iload_n 2, 1) := by decide +kernel
theorem dX4_rowsOf_24 : decode cX4_rowsOf 24 = .ok (.ireturn, 1) := by decide +kernel
set_option maxRecDepth 20000 in
theorem ggX4_rankOf_X4_rowsOf : GoodIn wsX4_rankOf wsX4_rowsOf := goodIn_r _ [5] (by decide +kernel) (by decide +kernel)
set_option maxRecDepth 20000 in
theorem gX4_rankOf_X4_rowsOf : GoodIn wsX4_rankOf (va_wsS RX4 70 yX4_rowsOf wsX4_rowsOf) := goodIn_app (goodIn_of _ (by decide +kernel)) ggX4_rankOf_X4_rowsOf
theorem dX4_rankOf_0 : decode cX4_rankOf 0 = .ok (.iconst 0, 1) := by decide +kernel
theorem dX4_rankOf_1 : decode cX4_rankOf 1 = .ok (.istore_n 1, 1) := by decide +kernel
theorem dX4_rankOf_2 : decode cX4_rankOf 2 = .ok (.iconst 0, 1) := by decide +kernel
theorem dX4_rankOf_3 : decode cX4_rankOf 3 = .ok (.istore_n 2, 1) := by decide +kernel
theorem dX4_rankOf_4 : decode cX4_rankOf 4 = .ok (.iload_n 2, 1) := by decide +kernel
theorem dX4_rankOf_5 : decode cX4_rankOf 5 = .ok (.bipush 7, 2) := by decide +kernel
theorem dX4_rankOf_7 : decode cX4_rankOf 7 = .ok (.if_icmp .ge 38, 3) := by decide +kernel
theorem dX4_rankOf_10 : decode cX4_rankOf 10 = .ok (.iconst 0, 1) := by decide +kernel
theorem dX4_rankOf_11 : decode cX4_rankOf 11 = .ok (.istore_n 3, 1) := by decide +kernel
theorem dX4_rankOf_12 : decode cX4_rankOf 12 = .ok (.iload_n 3, 1) := by decide +kernel
theorem dX4_rankOf_13 : decode cX4_rankOf 13 = .ok (.aload_n 0, 1) := by decide +kernel
theorem dX4_rankOf_14 : decode cX4_rankOf 14 = .ok (.getfield 58, 3) := by decide +kernel
theorem dX4_rankOf_17 : decode cX4_rankOf 17 = .ok (.iload_n 2, 1) := by decide +kernel
theorem dX4_rankOf_18 : decode cX4_rankOf 18 = .ok (.iaload, 1) := by decide +kernel
theorem dX4_rankOf_19 : decode cX4_rankOf 19 = .ok (.if_icmp .ge 20, 3) := by decide +kernel
theorem dX4_rankOf_22 : decode cX4_rankOf 22 = .ok (.iload_n 1, 1) := by decide +kernel
theorem dX4_rankOf_23 : decode cX4_rankOf 23 = .ok (.bipush 6, 2) := by decide +kernel
theorem dX4_rankOf_25 : decode cX4_rankOf 25 = .ok (.iload_n 2, 1) := by decide +kernel
theorem dX4_rankOf_26 : decode cX4_rankOf 26 = .ok (.isub, 1) := by decide +kernel
theorem dX4_rankOf_27 : decode cX4_rankOf 27 = .ok (.iload_n 3, 1) := by decide +kernel
theorem dX4_rankOf_28 : decode cX4_rankOf 28 = .ok (.invokestatic 70, 3) := by decide +kernel
theorem dX4_rankOf_31 : decode cX4_rankOf 31 = .ok (.iadd, 1) := by decide +kernel
theorem dX4_rankOf_32 : decode cX4_rankOf 32 = .ok (.istore_n 1, 1) := by decide +kernel
theorem dX4_rankOf_33 : decode cX4_rankOf 33 = .ok (.iinc 3 1, 3) := by decide +kernel
theorem dX4_rankOf_36 : decode cX4_rankOf 36 = .ok (.goto (-24), 3) := by decide +kernel
theorem dX4_rankOf_39 : decode cX4_rankOf 39 = .ok (.iinc 2 1, 3) := by decide +kernel
theorem dX4_rankOf_42 : decode cX4_rankOf 42 = .ok (.goto (-38), 3) := by decide +kernel
theorem dX4_rankOf_45 : decode cX4_rankOf 45 = .ok (.iload_n 1, 1) := by decide +kernel
theorem dX4_rankOf_46 : decode cX4_rankOf 46 = .ok (.ireturn, 1) := by decide +kernel
set_option maxRecDepth 20000 in
theorem ggX4_unrank_X4_rowsOf : GoodIn wsX4_unrank wsX4_rowsOf := goodIn_r _ [5] (by decide +kernel) (by decide +kernel)
set_option maxRecDepth 20000 in
theorem gX4_unrank_X4_rowsOf : GoodIn wsX4_unrank (va_wsS RX4 70 yX4_rowsOf wsX4_rowsOf) := goodIn_app (goodIn_of _ (by decide +kernel)) ggX4_unrank_X4_rowsOf
theorem dX4_unrank_0 : decode cX4_unrank 0 = .ok (.iload_n 1, 1) := by decide +kernel
theorem dX4_unrank_1 : decode cX4_unrank 1 = .ok (.istore_n 2, 1) := by decide +kernel
theorem dX4_unrank_2 : decode cX4_unrank 2 = .ok (.iconst 0, 1) := by decide +kernel
theorem dX4_unrank_3 : decode cX4_unrank 3 = .ok (.istore_n 3, 1) := by decide +kernel
theorem dX4_unrank_4 : decode cX4_unrank 4 = .ok (.iload_n 3, 1) := by decide +kernel
theorem dX4_unrank_5 : decode cX4_unrank 5 = .ok (.bipush 7, 2) := by decide +kernel
theorem dX4_unrank_7 : decode cX4_unrank 7 = .ok (.if_icmp .ge 51, 3) := by decide +kernel
theorem dX4_unrank_10 : decode cX4_unrank 10 = .ok (.iconst 0, 1) := by decide +kernel
theorem dX4_unrank_11 : decode cX4_unrank 11 = .ok (.istore 4, 2) := by decide +kernel
theorem dX4_unrank_13 : decode cX4_unrank 13 = .ok (.iload_n 2, 1) := by decide +kernel
theorem dX4_unrank_14 : decode cX4_unrank 14 = .ok (.bipush 6, 2) := by decide +kernel
theorem dX4_unrank_16 : decode cX4_unrank 16 = .ok (.iload_n 3, 1) := by decide +kernel
theorem dX4_unrank_17 : decode cX4_unrank 17 = .ok (.isub, 1) := by decide +kernel
theorem dX4_unrank_18 : decode cX4_unrank 18 = .ok (.iload 4, 2) := by decide +kernel
theorem dX4_unrank_20 : decode cX4_unrank 20 = .ok (.invokestatic 70, 3) := by decide +kernel
theorem dX4_unrank_23 : decode cX4_unrank 23 = .ok (.if_icmp .lt 21, 3) := by decide +kernel
theorem dX4_unrank_26 : decode cX4_unrank 26 = .ok (.iload_n 2, 1) := by decide +kernel
theorem dX4_unrank_27 : decode cX4_unrank 27 = .ok (.bipush 6, 2) := by decide +kernel
theorem dX4_unrank_29 : decode cX4_unrank 29 = .ok (.iload_n 3, 1) := by decide +kernel
theorem dX4_unrank_30 : decode cX4_unrank 30 = .ok (.isub, 1) := by decide +kernel
theorem dX4_unrank_31 : decode cX4_unrank 31 = .ok (.iload 4, 2) := by decide +kernel
theorem dX4_unrank_33 : decode cX4_unrank 33 = .ok (.invokestatic 70, 3) := by decide +kernel
theorem dX4_unrank_36 : decode cX4_unrank 36 = .ok (.isub, 1) := by decide +kernel
theorem dX4_unrank_37 : decode cX4_unrank 37 = .ok (.istore_n 2, 1) := by decide +kernel
theorem dX4_unrank_38 : decode cX4_unrank 38 = .ok (.iinc 4 1, 3) := by decide +kernel
theorem dX4_unrank_41 : decode cX4_unrank 41 = .ok (.goto (-28), 3) := by decide +kernel
theorem dX4_unrank_44 : decode cX4_unrank 44 = .ok (.aload_n 0, 1) := by decide +kernel
theorem dX4_unrank_45 : decode cX4_unrank 45 = .ok (.getfield 58, 3) := by decide +kernel
theorem dX4_unrank_48 : decode cX4_unrank 48 = .ok (.iload_n 3, 1) := by decide +kernel
theorem dX4_unrank_49 : decode cX4_unrank 49 = .ok (.iload 4, 2) := by decide +kernel
theorem dX4_unrank_51 : decode cX4_unrank 51 = .ok (.iastore, 1) := by decide +kernel
theorem dX4_unrank_52 : decode cX4_unrank 52 = .ok (.iinc 3 1, 3) := by decide +kernel
theorem dX4_unrank_55 : decode cX4_unrank 55 = .ok (.goto (-51), 3) := by decide +kernel
theorem dX4_unrank_58 : decode cX4_unrank 58 = .ok (.return_, 1) := by decide +kernel
theorem dX4_placeOf_0 : decode cX4_placeOf 0 = .ok (.bipush 12, 2) := by decide +kernel
theorem dX4_placeOf_2 : decode cX4_placeOf 2 = .ok (.iload_n 0, 1) := by decide +kernel
theorem dX4_placeOf_3 : decode cX4_placeOf 3 = .ok (.imul, 1) := by decide +kernel
theorem dX4_placeOf_4 : decode cX4_placeOf 4 = .ok (.iload_n 1, 1) := by decide +kernel
theorem dX4_placeOf_5 : decode cX4_placeOf 5 = .ok (.iadd, 1) := by decide +kernel
theorem dX4_placeOf_6 : decode cX4_placeOf 6 = .ok (.ireturn, 1) := by decide +kernel
theorem dX4_withPost_0 : decode cX4_withPost 0 = .ok (.iconst 1, 1) := by decide +kernel
theorem dX4_withPost_1 : decode cX4_withPost 1 = .ok (.iload_n 2, 1) := by decide +kernel
theorem dX4_withPost_2 : decode cX4_withPost 2 = .ok (.ishl, 1) := by decide +kernel
theorem dX4_withPost_3 : decode cX4_withPost 3 = .ok (.istore_n 3, 1) := by decide +kernel
theorem dX4_withPost_4 : decode cX4_withPost 4 = .ok (.iconst 0, 1) := by decide +kernel
theorem dX4_withPost_5 : decode cX4_withPost 5 = .ok (.istore 4, 2) := by decide +kernel
theorem dX4_withPost_7 : decode cX4_withPost 7 = .ok (.iload 4, 2) := by decide +kernel
theorem dX4_withPost_9 : decode cX4_withPost 9 = .ok (.aload_n 0, 1) := by decide +kernel
theorem dX4_withPost_10 : decode cX4_withPost 10 = .ok (.getfield 28, 3) := by decide +kernel
theorem dX4_withPost_13 : decode cX4_withPost 13 = .ok (.iload_n 1, 1) := by decide +kernel
theorem dX4_withPost_14 : decode cX4_withPost 14 = .ok (.iaload, 1) := by decide +kernel
theorem dX4_withPost_15 : decode cX4_withPost 15 = .ok (.if_icmp .ge 56, 3) := by decide +kernel
theorem dX4_withPost_18 : decode cX4_withPost 18 = .ok (.bipush 18, 2) := by decide +kernel
theorem dX4_withPost_20 : decode cX4_withPost 20 = .ok (.iload_n 1, 1) := by decide +kernel
theorem dX4_withPost_21 : decode cX4_withPost 21 = .ok (.imul, 1) := by decide +kernel
theorem dX4_withPost_22 : decode cX4_withPost 22 = .ok (.iconst 2, 1) := by decide +kernel
theorem dX4_withPost_23 : decode cX4_withPost 23 = .ok (.iload 4, 2) := by decide +kernel
theorem dX4_withPost_25 : decode cX4_withPost 25 = .ok (.imul, 1) := by decide +kernel
theorem dX4_withPost_26 : decode cX4_withPost 26 = .ok (.iadd, 1) := by decide +kernel
theorem dX4_withPost_27 : decode cX4_withPost 27 = .ok (.istore 5, 2) := by decide +kernel
theorem dX4_withPost_29 : decode cX4_withPost 29 = .ok (.iload_n 3, 1) := by decide +kernel
theorem dX4_withPost_30 : decode cX4_withPost 30 = .ok (.aload_n 0, 1) := by decide +kernel
theorem dX4_withPost_31 : decode cX4_withPost 31 = .ok (.getfield 31, 3) := by decide +kernel
theorem dX4_withPost_34 : decode cX4_withPost 34 = .ok (.iload 5, 2) := by decide +kernel
theorem dX4_withPost_36 : decode cX4_withPost 36 = .ok (.iaload, 1) := by decide +kernel
theorem dX4_withPost_37 : decode cX4_withPost 37 = .ok (.iload_n 2, 1) := by decide +kernel
theorem dX4_withPost_38 : decode cX4_withPost 38 = .ok (.if_icmp .eq 16, 3) := by decide +kernel
theorem dX4_withPost_41 : decode cX4_withPost 41 = .ok (.aload_n 0, 1) := by decide +kernel
theorem dX4_withPost_42 : decode cX4_withPost 42 = .ok (.getfield 31, 3) := by decide +kernel
theorem dX4_withPost_45 : decode cX4_withPost 45 = .ok (.iload 5, 2) := by decide +kernel
theorem dX4_withPost_47 : decode cX4_withPost 47 = .ok (.iconst 1, 1) := by decide +kernel
theorem dX4_withPost_48 : decode cX4_withPost 48 = .ok (.iadd, 1) := by decide +kernel
theorem dX4_withPost_49 : decode cX4_withPost 49 = .ok (.iaload, 1) := by decide +kernel
theorem dX4_withPost_50 : decode cX4_withPost 50 = .ok (.iload_n 2, 1) := by decide +kernel
theorem dX4_withPost_51 : decode cX4_withPost 51 = .ok (.if_icmp .ne 11, 3) := by decide +kernel
theorem dX4_withPost_54 : decode cX4_withPost 54 = .ok (.bipush 64, 2) := by decide +kernel
theorem dX4_withPost_56 : decode cX4_withPost 56 = .ok (.iload 4, 2) := by decide +kernel
theorem dX4_withPost_58 : decode cX4_withPost 58 = .ok (.ishl, 1) := by decide +kernel
theorem dX4_withPost_59 : decode cX4_withPost 59 = .ok (.goto 4, 3) := by decide +kernel
theorem dX4_withPost_62 : decode cX4_withPost 62 = .ok (.iconst 0, 1) := by decide +kernel
theorem dX4_withPost_63 : decode cX4_withPost 63 = .ok (.ior, 1) := by decide +kernel
theorem dX4_withPost_64 : decode cX4_withPost 64 = .ok (.istore_n 3, 1) := by decide +kernel
theorem dX4_withPost_65 : decode cX4_withPost 65 = .ok (.iinc 4 1, 3) := by decide +kernel
theorem dX4_withPost_68 : decode cX4_withPost 68 = .ok (.goto (-61), 3) := by decide +kernel
theorem dX4_withPost_71 : decode cX4_withPost 71 = .ok (.iload_n 3, 1) := by decide +kernel
theorem dX4_withPost_72 : decode cX4_withPost 72 = .ok (.ireturn, 1) := by decide +kernel
theorem dX4_addNext_0 : decode cX4_addNext 0 = .ok (.aload_n 0, 1) := by decide +kernel
theorem dX4_addNext_1 : decode cX4_addNext 1 = .ok (.getfield 61, 3) := by decide +kernel
theorem dX4_addNext_4 : decode cX4_addNext 4 = .ok (.aload_n 0, 1) := by decide +kernel
theorem dX4_addNext_5 : decode cX4_addNext 5 = .ok (.getfield 74, 3) := by decide +kernel
theorem dX4_addNext_8 : decode cX4_addNext 8 = .ok (.iload_n 1, 1) := by decide +kernel
theorem dX4_addNext_9 : decode cX4_addNext 9 = .ok (.iastore, 1) := by decide +kernel
theorem dX4_addNext_10 : decode cX4_addNext 10 = .ok (.aload_n 0, 1) := by decide +kernel
theorem dX4_addNext_11 : decode cX4_addNext 11 = .ok (.dup, 1) := by decide +kernel
theorem dX4_addNext_12 : decode cX4_addNext 12 = .ok (.getfield 74, 3) := by decide +kernel
theorem dX4_addNext_15 : decode cX4_addNext 15 = .ok (.iconst 1, 1) := by decide +kernel
theorem dX4_addNext_16 : decode cX4_addNext 16 = .ok (.iadd, 1) := by decide +kernel
theorem dX4_addNext_17 : decode cX4_addNext 17 = .ok (.putfield 74, 3) := by decide +kernel
theorem dX4_addNext_20 : decode cX4_addNext 20 = .ok (.return_, 1) := by decide +kernel
set_option maxRecDepth 20000 in
theorem ggX4_bitesOfRows_X4_unrank : GoodIn wsX4_bitesOfRows wsX4_unrank := goodIn_r _ [7, 2, 8, 9, 6, 10, 21, 22, 23, 24, 25, 26, 27, 28, 29, 30, 31, 32, 33, 34, 35, 36, 37, 38, 39, 40, 41] (by decide +kernel) (by decide +kernel)
set_option maxRecDepth 20000 in
theorem gX4_bitesOfRows_X4_unrank : GoodIn wsX4_bitesOfRows (wsV RX4 77 RX4 yX4_unrank wsX4_unrank) := goodIn_app (goodIn_of _ (by decide +kernel)) ggX4_bitesOfRows_X4_unrank
set_option maxRecDepth 20000 in
theorem ggX4_bitesOfRows_X4_rankOf : GoodIn wsX4_bitesOfRows wsX4_rankOf := goodIn_r _ [14, 2, 8, 9, 6, 10, 21, 22, 23, 24, 25, 26, 27, 28, 29, 30, 31, 32, 33, 34, 35, 36, 37, 38, 39, 40, 41] (by decide +kernel) (by decide +kernel)
set_option maxRecDepth 20000 in
theorem gX4_bitesOfRows_X4_rankOf : GoodIn wsX4_bitesOfRows (wsV RX4 81 RX4 yX4_rankOf wsX4_rankOf) := goodIn_app (goodIn_of _ (by decide +kernel)) ggX4_bitesOfRows_X4_rankOf
set_option maxRecDepth 20000 in
theorem ggX4_bitesOfRows_X4_addNext : GoodIn wsX4_bitesOfRows wsX4_addNext := goodIn_r _ [18, 19, 20, 21, 22, 23, 24, 25, 26, 27, 28, 29, 30, 31, 32, 33, 34, 35, 36, 37, 38, 39, 40, 41] (by decide +kernel) (by decide +kernel)
set_option maxRecDepth 20000 in
theorem gX4_bitesOfRows_X4_addNext : GoodIn wsX4_bitesOfRows (wsV RX4 85 RX4 yX4_addNext wsX4_addNext) := goodIn_app (goodIn_of _ (by decide +kernel)) ggX4_bitesOfRows_X4_addNext
theorem dX4_bitesOfRows_0 : decode cX4_bitesOfRows 0 = .ok (.aload_n 0, 1) := by decide +kernel
theorem dX4_bitesOfRows_1 : decode cX4_bitesOfRows 1 = .ok (.iload_n 1, 1) := by decide +kernel
theorem dX4_bitesOfRows_2 : decode cX4_bitesOfRows 2 = .ok (.invokevirtual 77, 3) := by decide +kernel
theorem dX4_bitesOfRows_5 : decode cX4_bitesOfRows 5 = .ok (.iconst 0, 1) := by decide +kernel
theorem dX4_bitesOfRows_6 : decode cX4_bitesOfRows 6 = .ok (.istore_n 2, 1) := by decide +kernel
theorem dX4_bitesOfRows_7 : decode cX4_bitesOfRows 7 = .ok (.iload_n 2, 1) := by decide +kernel
theorem dX4_bitesOfRows_8 : decode cX4_bitesOfRows 8 = .ok (.bipush 7, 2) := by decide +kernel
theorem dX4_bitesOfRows_10 : decode cX4_bitesOfRows 10 = .ok (.if_icmp .ge 21, 3) := by decide +kernel
theorem dX4_bitesOfRows_13 : decode cX4_bitesOfRows 13 = .ok (.aload_n 0, 1) := by decide +kernel
theorem dX4_bitesOfRows_14 : decode cX4_bitesOfRows 14 = .ok (.getfield 67, 3) := by decide +kernel
theorem dX4_bitesOfRows_17 : decode cX4_bitesOfRows 17 = .ok (.iload_n 2, 1) := by decide +kernel
theorem dX4_bitesOfRows_18 : decode cX4_bitesOfRows 18 = .ok (.aload_n 0, 1) := by decide +kernel
theorem dX4_bitesOfRows_19 : decode cX4_bitesOfRows 19 = .ok (.getfield 58, 3) := by decide +kernel
theorem dX4_bitesOfRows_22 : decode cX4_bitesOfRows 22 = .ok (.iload_n 2, 1) := by decide +kernel
theorem dX4_bitesOfRows_23 : decode cX4_bitesOfRows 23 = .ok (.iaload, 1) := by decide +kernel
theorem dX4_bitesOfRows_24 : decode cX4_bitesOfRows 24 = .ok (.iastore, 1) := by decide +kernel
theorem dX4_bitesOfRows_25 : decode cX4_bitesOfRows 25 = .ok (.iinc 2 1, 3) := by decide +kernel
theorem dX4_bitesOfRows_28 : decode cX4_bitesOfRows 28 = .ok (.goto (-21), 3) := by decide +kernel
theorem dX4_bitesOfRows_31 : decode cX4_bitesOfRows 31 = .ok (.iconst 0, 1) := by decide +kernel
theorem dX4_bitesOfRows_32 : decode cX4_bitesOfRows 32 = .ok (.istore_n 2, 1) := by decide +kernel
theorem dX4_bitesOfRows_33 : decode cX4_bitesOfRows 33 = .ok (.iload_n 2, 1) := by decide +kernel
theorem dX4_bitesOfRows_34 : decode cX4_bitesOfRows 34 = .ok (.bipush 7, 2) := by decide +kernel
theorem dX4_bitesOfRows_36 : decode cX4_bitesOfRows 36 = .ok (.if_icmp .ge 86, 3) := by decide +kernel
theorem dX4_bitesOfRows_39 : decode cX4_bitesOfRows 39 = .ok (.iconst 0, 1) := by decide +kernel
theorem dX4_bitesOfRows_40 : decode cX4_bitesOfRows 40 = .ok (.istore_n 3, 1) := by decide +kernel
theorem dX4_bitesOfRows_41 : decode cX4_bitesOfRows 41 = .ok (.iload_n 3, 1) := by decide +kernel
theorem dX4_bitesOfRows_42 : decode cX4_bitesOfRows 42 = .ok (.aload_n 0, 1) := by decide +kernel
theorem dX4_bitesOfRows_43 : decode cX4_bitesOfRows 43 = .ok (.getfield 67, 3) := by decide +kernel
theorem dX4_bitesOfRows_46 : decode cX4_bitesOfRows 46 = .ok (.iload_n 2, 1) := by decide +kernel
theorem dX4_bitesOfRows_47 : decode cX4_bitesOfRows 47 = .ok (.iaload, 1) := by decide +kernel
theorem dX4_bitesOfRows_48 : decode cX4_bitesOfRows 48 = .ok (.if_icmp .ge 68, 3) := by decide +kernel
theorem dX4_bitesOfRows_51 : decode cX4_bitesOfRows 51 = .ok (.iconst 0, 1) := by decide +kernel
theorem dX4_bitesOfRows_52 : decode cX4_bitesOfRows 52 = .ok (.istore 4, 2) := by decide +kernel
theorem dX4_bitesOfRows_54 : decode cX4_bitesOfRows 54 = .ok (.iload 4, 2) := by decide +kernel
theorem dX4_bitesOfRows_56 : decode cX4_bitesOfRows 56 = .ok (.bipush 7, 2) := by decide +kernel
theorem dX4_bitesOfRows_58 : decode cX4_bitesOfRows 58 = .ok (.if_icmp .ge 44, 3) := by decide +kernel
theorem dX4_bitesOfRows_61 : decode cX4_bitesOfRows 61 = .ok (.aload_n 0, 1) := by decide +kernel
theorem dX4_bitesOfRows_62 : decode cX4_bitesOfRows 62 = .ok (.getfield 58, 3) := by decide +kernel
theorem dX4_bitesOfRows_65 : decode cX4_bitesOfRows 65 = .ok (.iload 4, 2) := by decide +kernel
theorem dX4_bitesOfRows_67 : decode cX4_bitesOfRows 67 = .ok (.iload 4, 2) := by decide +kernel
theorem dX4_bitesOfRows_69 : decode cX4_bitesOfRows 69 = .ok (.iload_n 2, 1) := by decide +kernel
theorem dX4_bitesOfRows_70 : decode cX4_bitesOfRows 70 = .ok (.if_icmp .lt 18, 3) := by decide +kernel
theorem dX4_bitesOfRows_73 : decode cX4_bitesOfRows 73 = .ok (.aload_n 0, 1) := by decide +kernel
theorem dX4_bitesOfRows_74 : decode cX4_bitesOfRows 74 = .ok (.getfield 67, 3) := by decide +kernel
theorem dX4_bitesOfRows_77 : decode cX4_bitesOfRows 77 = .ok (.iload 4, 2) := by decide +kernel
theorem dX4_bitesOfRows_79 : decode cX4_bitesOfRows 79 = .ok (.iaload, 1) := by decide +kernel
theorem dX4_bitesOfRows_80 : decode cX4_bitesOfRows 80 = .ok (.iload_n 3, 1) := by decide +kernel
theorem dX4_bitesOfRows_81 : decode cX4_bitesOfRows 81 = .ok (.if_icmp .le 7, 3) := by decide +kernel
theorem dX4_bitesOfRows_84 : decode cX4_bitesOfRows 84 = .ok (.iload_n 3, 1) := by decide +kernel
theorem dX4_bitesOfRows_85 : decode cX4_bitesOfRows 85 = .ok (.goto 10, 3) := by decide +kernel
theorem dX4_bitesOfRows_88 : decode cX4_bitesOfRows 88 = .ok (.aload_n 0, 1) := by decide +kernel
theorem dX4_bitesOfRows_89 : decode cX4_bitesOfRows 89 = .ok (.getfield 67, 3) := by decide +kernel
theorem dX4_bitesOfRows_92 : decode cX4_bitesOfRows 92 = .ok (.iload 4, 2) := by decide +kernel
theorem dX4_bitesOfRows_94 : decode cX4_bitesOfRows 94 = .ok (.iaload, 1) := by decide +kernel
theorem dX4_bitesOfRows_95 : decode cX4_bitesOfRows 95 = .ok (.iastore, 1) := by decide +kernel
theorem dX4_bitesOfRows_96 : decode cX4_bitesOfRows 96 = .ok (.iinc 4 1, 3) := by decide +kernel
theorem dX4_bitesOfRows_99 : decode cX4_bitesOfRows 99 = .ok (.goto (-45), 3) := by decide +kernel
theorem dX4_bitesOfRows_102 : decode cX4_bitesOfRows 102 = .ok (.aload_n 0, 1) := by decide +kernel
theorem dX4_bitesOfRows_103 : decode cX4_bitesOfRows 103 = .ok (.aload_n 0, 1) := by decide +kernel
theorem dX4_bitesOfRows_104 : decode cX4_bitesOfRows 104 = .ok (.invokevirtual 81, 3) := by decide +kernel
theorem dX4_bitesOfRows_107 : decode cX4_bitesOfRows 107 = .ok (.invokevirtual 85, 3) := by decide +kernel
theorem dX4_bitesOfRows_110 : decode cX4_bitesOfRows 110 = .ok (.iinc 3 1, 3) := by decide +kernel
theorem dX4_bitesOfRows_113 : decode cX4_bitesOfRows 113 = .ok (.goto (-72), 3) := by decide +kernel
theorem dX4_bitesOfRows_116 : decode cX4_bitesOfRows 116 = .ok (.iinc 2 1, 3) := by decide +kernel
theorem dX4_bitesOfRows_119 : decode cX4_bitesOfRows 119 = .ok (.goto (-86), 3) := by decide +kernel
theorem dX4_bitesOfRows_122 : decode cX4_bitesOfRows 122 = .ok (.return_, 1) := by decide +kernel
set_option maxRecDepth 20000 in
theorem ggX4_findNext_X4_bitesOfRows : GoodIn wsX4_findNext wsX4_bitesOfRows := goodIn_r _ [11, 12, 13, 14, 15, 16, 10, 17, 18, 19, 20, 21, 22, 23, 24, 25, 26, 27, 28, 29, 1, 38, 39, 40, 41, 42, 43, 44, 45, 46, 47, 48, 49, 50, 51, 52, 53, 54, 55, 56, 57, 58] (by decide +kernel) (by decide +kernel)
set_option maxRecDepth 20000 in
theorem gX4_findNext_X4_bitesOfRows : GoodIn wsX4_findNext (wsV RX4 88 RX4 yX4_bitesOfRows wsX4_bitesOfRows) := goodIn_app (goodIn_of _ (by decide +kernel)) ggX4_findNext_X4_bitesOfRows
set_option maxRecDepth 20000 in
theorem ggX4_findNext_X4_placeOf : GoodIn wsX4_findNext wsX4_placeOf := goodIn_r _ [32] (by decide +kernel) (by decide +kernel)
set_option maxRecDepth 20000 in
theorem gX4_findNext_X4_placeOf : GoodIn wsX4_findNext (va_wsS RX4 91 yX4_placeOf wsX4_placeOf) := goodIn_app (goodIn_of _ (by decide +kernel)) ggX4_findNext_X4_placeOf
set_option maxRecDepth 20000 in
theorem ggX4_findNext_X4_addNext : GoodIn wsX4_findNext wsX4_addNext := goodIn_r _ [28, 29, 1, 38, 39, 40, 41, 42, 43, 44, 45, 46, 47, 48, 49, 50, 51, 52, 53, 54, 55, 56, 57, 58] (by decide +kernel) (by decide +kernel)
set_option maxRecDepth 20000 in
theorem gX4_findNext_X4_addNext : GoodIn wsX4_findNext (wsV RX4 85 RX4 yX4_addNext wsX4_addNext) := goodIn_app (goodIn_of _ (by decide +kernel)) ggX4_findNext_X4_addNext
set_option maxRecDepth 20000 in
theorem ggX4_findNext_X4_withPost : GoodIn wsX4_findNext wsX4_withPost := goodIn_r _ [36, 6, 37, 38, 39, 40, 41, 42, 43, 44, 45, 46, 47, 48, 49, 50, 51, 52, 53, 54, 55, 56, 57, 58] (by decide +kernel) (by decide +kernel)
set_option maxRecDepth 20000 in
theorem gX4_findNext_X4_withPost : GoodIn wsX4_findNext (wsV RX4 94 RX4 yX4_withPost wsX4_withPost) := goodIn_app (goodIn_of _ (by decide +kernel)) ggX4_findNext_X4_withPost
theorem dX4_findNext_0 : decode cX4_findNext 0 = .ok (.aload_n 0, 1) := by decide +kernel
theorem dX4_findNext_1 : decode cX4_findNext 1 = .ok (.iconst 0, 1) := by decide +kernel
theorem dX4_findNext_2 : decode cX4_findNext 2 = .ok (.putfield 74, 3) := by decide +kernel
theorem dX4_findNext_5 : decode cX4_findNext 5 = .ok (.aload_n 0, 1) := by decide +kernel
theorem dX4_findNext_6 : decode cX4_findNext 6 = .ok (.getfield 7, 3) := by decide +kernel
theorem dX4_findNext_9 : decode cX4_findNext 9 = .ok (.iload_n 1, 1) := by decide +kernel
theorem dX4_findNext_10 : decode cX4_findNext 10 = .ok (.iaload, 1) := by decide +kernel
theorem dX4_findNext_11 : decode cX4_findNext 11 = .ok (.ifCond .ne 11, 3) := by decide +kernel
theorem dX4_findNext_14 : decode cX4_findNext 14 = .ok (.aload_n 0, 1) := by decide +kernel
theorem dX4_findNext_15 : decode cX4_findNext 15 = .ok (.iload_n 2, 1) := by decide +kernel
theorem dX4_findNext_16 : decode cX4_findNext 16 = .ok (.invokevirtual 88, 3) := by decide +kernel
theorem dX4_findNext_19 : decode cX4_findNext 19 = .ok (.goto 148, 3) := by decide +kernel
theorem dX4_findNext_22 : decode cX4_findNext 22 = .ok (.aload_n 0, 1) := by decide +kernel
theorem dX4_findNext_23 : decode cX4_findNext 23 = .ok (.getfield 7, 3) := by decide +kernel
theorem dX4_findNext_26 : decode cX4_findNext 26 = .ok (.iload_n 1, 1) := by decide +kernel
theorem dX4_findNext_27 : decode cX4_findNext 27 = .ok (.iaload, 1) := by decide +kernel
theorem dX4_findNext_28 : decode cX4_findNext 28 = .ok (.iconst 1, 1) := by decide +kernel
theorem dX4_findNext_29 : decode cX4_findNext 29 = .ok (.if_icmp .ne 55, 3) := by decide +kernel
theorem dX4_findNext_32 : decode cX4_findNext 32 = .ok (.iconst 0, 1) := by decide +kernel
theorem dX4_findNext_33 : decode cX4_findNext 33 = .ok (.istore_n 3, 1) := by decide +kernel
theorem dX4_findNext_34 : decode cX4_findNext 34 = .ok (.iload_n 3, 1) := by decide +kernel
theorem dX4_findNext_35 : decode cX4_findNext 35 = .ok (.aload_n 0, 1) := by decide +kernel
theorem dX4_findNext_36 : decode cX4_findNext 36 = .ok (.getfield 19, 3) := by decide +kernel
theorem dX4_findNext_39 : decode cX4_findNext 39 = .ok (.iload_n 1, 1) := by decide +kernel
theorem dX4_findNext_40 : decode cX4_findNext 40 = .ok (.iaload, 1) := by decide +kernel
theorem dX4_findNext_41 : decode cX4_findNext 41 = .ok (.if_icmp .ge 40, 3) := by decide +kernel
theorem dX4_findNext_44 : decode cX4_findNext 44 = .ok (.iload_n 2, 1) := by decide +kernel
theorem dX4_findNext_45 : decode cX4_findNext 45 = .ok (.iload_n 3, 1) := by decide +kernel
theorem dX4_findNext_46 : decode cX4_findNext 46 = .ok (.ishr, 1) := by decide +kernel
theorem dX4_findNext_47 : decode cX4_findNext 47 = .ok (.iconst 1, 1) := by decide +kernel
theorem dX4_findNext_48 : decode cX4_findNext 48 = .ok (.iand, 1) := by decide +kernel
theorem dX4_findNext_49 : decode cX4_findNext 49 = .ok (.iconst 1, 1) := by decide +kernel
theorem dX4_findNext_50 : decode cX4_findNext 50 = .ok (.if_icmp .ne 25, 3) := by decide +kernel
theorem dX4_findNext_53 : decode cX4_findNext 53 = .ok (.aload_n 0, 1) := by decide +kernel
theorem dX4_findNext_54 : decode cX4_findNext 54 = .ok (.iload_n 2, 1) := by decide +kernel
theorem dX4_findNext_55 : decode cX4_findNext 55 = .ok (.iconst 1, 1) := by decide +kernel
theorem dX4_findNext_56 : decode cX4_findNext 56 = .ok (.iload_n 3, 1) := by decide +kernel
theorem dX4_findNext_57 : decode cX4_findNext 57 = .ok (.ishl, 1) := by decide +kernel
theorem dX4_findNext_58 : decode cX4_findNext 58 = .ok (.aload_n 0, 1) := by decide +kernel
theorem dX4_findNext_59 : decode cX4_findNext 59 = .ok (.getfield 22, 3) := by decide +kernel
theorem dX4_findNext_62 : decode cX4_findNext 62 = .ok (.iload_n 1, 1) := by decide +kernel
theorem dX4_findNext_63 : decode cX4_findNext 63 = .ok (.iload_n 3, 1) := by decide +kernel
theorem dX4_findNext_64 : decode cX4_findNext 64 = .ok (.invokestatic 91, 3) := by decide +kernel
theorem dX4_findNext_67 : decode cX4_findNext 67 = .ok (.iaload, 1) := by decide +kernel
theorem dX4_findNext_68 : decode cX4_findNext 68 = .ok (.ior, 1) := by decide +kernel
theorem dX4_findNext_69 : decode cX4_findNext 69 = .ok (.iconst (-1), 1) := by decide +kernel
theorem dX4_findNext_70 : decode cX4_findNext 70 = .ok (.ixor, 1) := by decide +kernel
theorem dX4_findNext_71 : decode cX4_findNext 71 = .ok (.iand, 1) := by decide +kernel
theorem dX4_findNext_72 : decode cX4_findNext 72 = .ok (.invokevirtual 85, 3) := by decide +kernel
theorem dX4_findNext_75 : decode cX4_findNext 75 = .ok (.iinc 3 1, 3) := by decide +kernel
theorem dX4_findNext_78 : decode cX4_findNext 78 = .ok (.goto (-44), 3) := by decide +kernel
theorem dX4_findNext_81 : decode cX4_findNext 81 = .ok (.goto 86, 3) := by decide +kernel
theorem dX4_findNext_84 : decode cX4_findNext 84 = .ok (.iconst 0, 1) := by decide +kernel
theorem dX4_findNext_85 : decode cX4_findNext 85 = .ok (.istore_n 3, 1) := by decide +kernel
theorem dX4_findNext_86 : decode cX4_findNext 86 = .ok (.iload_n 3, 1) := by decide +kernel
theorem dX4_findNext_87 : decode cX4_findNext 87 = .ok (.aload_n 0, 1) := by decide +kernel
theorem dX4_findNext_88 : decode cX4_findNext 88 = .ok (.getfield 25, 3) := by decide +kernel
theorem dX4_findNext_91 : decode cX4_findNext 91 = .ok (.iload_n 1, 1) := by decide +kernel
theorem dX4_findNext_92 : decode cX4_findNext 92 = .ok (.iaload, 1) := by decide +kernel
theorem dX4_findNext_93 : decode cX4_findNext 93 = .ok (.if_icmp .ge 32, 3) := by decide +kernel
theorem dX4_findNext_96 : decode cX4_findNext 96 = .ok (.iload_n 2, 1) := by decide +kernel
theorem dX4_findNext_97 : decode cX4_findNext 97 = .ok (.iload_n 3, 1) := by decide +kernel
theorem dX4_findNext_98 : decode cX4_findNext 98 = .ok (.ishr, 1) := by decide +kernel
theorem dX4_findNext_99 : decode cX4_findNext 99 = .ok (.iconst 1, 1) := by decide +kernel
theorem dX4_findNext_100 : decode cX4_findNext 100 = .ok (.iand, 1) := by decide +kernel
theorem dX4_findNext_101 : decode cX4_findNext 101 = .ok (.iconst 1, 1) := by decide +kernel
theorem dX4_findNext_102 : decode cX4_findNext 102 = .ok (.if_icmp .ne 17, 3) := by decide +kernel
theorem dX4_findNext_105 : decode cX4_findNext 105 = .ok (.aload_n 0, 1) := by decide +kernel
theorem dX4_findNext_106 : decode cX4_findNext 106 = .ok (.iload_n 2, 1) := by decide +kernel
theorem dX4_findNext_107 : decode cX4_findNext 107 = .ok (.aload_n 0, 1) := by decide +kernel
theorem dX4_findNext_108 : decode cX4_findNext 108 = .ok (.iload_n 1, 1) := by decide +kernel
theorem dX4_findNext_109 : decode cX4_findNext 109 = .ok (.iload_n 3, 1) := by decide +kernel
theorem dX4_findNext_110 : decode cX4_findNext 110 = .ok (.invokevirtual 94, 3) := by decide +kernel
theorem dX4_findNext_113 : decode cX4_findNext 113 = .ok (.iconst (-1), 1) := by decide +kernel
theorem dX4_findNext_114 : decode cX4_findNext 114 = .ok (.ixor, 1) := by decide +kernel
theorem dX4_findNext_115 : decode cX4_findNext 115 = .ok (.iand, 1) := by decide +kernel
theorem dX4_findNext_116 : decode cX4_findNext 116 = .ok (.invokevirtual 85, 3) := by decide +kernel
theorem dX4_findNext_119 : decode cX4_findNext 119 = .ok (.iinc 3 1, 3) := by decide +kernel
theorem dX4_findNext_122 : decode cX4_findNext 122 = .ok (.goto (-36), 3) := by decide +kernel
theorem dX4_findNext_125 : decode cX4_findNext 125 = .ok (.iconst 0, 1) := by decide +kernel
theorem dX4_findNext_126 : decode cX4_findNext 126 = .ok (.istore_n 3, 1) := by decide +kernel
theorem dX4_findNext_127 : decode cX4_findNext 127 = .ok (.iload_n 3, 1) := by decide +kernel
theorem dX4_findNext_128 : decode cX4_findNext 128 = .ok (.aload_n 0, 1) := by decide +kernel
theorem dX4_findNext_129 : decode cX4_findNext 129 = .ok (.getfield 28, 3) := by decide +kernel
theorem dX4_findNext_132 : decode cX4_findNext 132 = .ok (.iload_n 1, 1) := by decide +kernel
theorem dX4_findNext_133 : decode cX4_findNext 133 = .ok (.iaload, 1) := by decide +kernel
theorem dX4_findNext_134 : decode cX4_findNext 134 = .ok (.if_icmp .ge 33, 3) := by decide +kernel
theorem dX4_findNext_137 : decode cX4_findNext 137 = .ok (.iload_n 2, 1) := by decide +kernel
theorem dX4_findNext_138 : decode cX4_findNext 138 = .ok (.bipush 6, 2) := by decide +kernel
theorem dX4_findNext_140 : decode cX4_findNext 140 = .ok (.iload_n 3, 1) := by decide +kernel
theorem dX4_findNext_141 : decode cX4_findNext 141 = .ok (.iadd, 1) := by decide +kernel
theorem dX4_findNext_142 : decode cX4_findNext 142 = .ok (.ishr, 1) := by decide +kernel
theorem dX4_findNext_143 : decode cX4_findNext 143 = .ok (.iconst 1, 1) := by decide +kernel
theorem dX4_findNext_144 : decode cX4_findNext 144 = .ok (.iand, 1) := by decide +kernel
theorem dX4_findNext_145 : decode cX4_findNext 145 = .ok (.iconst 1, 1) := by decide +kernel
theorem dX4_findNext_146 : decode cX4_findNext 146 = .ok (.if_icmp .ne 15, 3) := by decide +kernel
theorem dX4_findNext_149 : decode cX4_findNext 149 = .ok (.aload_n 0, 1) := by decide +kernel
theorem dX4_findNext_150 : decode cX4_findNext 150 = .ok (.iload_n 2, 1) := by decide +kernel
theorem dX4_findNext_151 : decode cX4_findNext 151 = .ok (.bipush 64, 2) := by decide +kernel
theorem dX4_findNext_153 : decode cX4_findNext 153 = .ok (.iload_n 3, 1) := by decide +kernel
theorem dX4_findNext_154 : decode cX4_findNext 154 = .ok (.ishl, 1) := by decide +kernel
theorem dX4_findNext_155 : decode cX4_findNext 155 = .ok (.iconst (-1), 1) := by decide +kernel
theorem dX4_findNext_156 : decode cX4_findNext 156 = .ok (.ixor, 1) := by decide +kernel
theorem dX4_findNext_157 : decode cX4_findNext 157 = .ok (.iand, 1) := by decide +kernel
theorem dX4_findNext_158 : decode cX4_findNext 158 = .ok (.invokevirtual 85, 3) := by decide +kernel
theorem dX4_findNext_161 : decode cX4_findNext 161 = .ok (.iinc 3 1, 3) := by decide +kernel
theorem dX4_findNext_164 : decode cX4_findNext 164 = .ok (.goto (-37), 3) := by decide +kernel
theorem dX4_findNext_167 : decode cX4_findNext 167 = .ok (.return_, 1) := by decide +kernel
theorem dX4_fullOf_0 : decode cX4_fullOf 0 = .ok (.aload_n 0, 1) := by decide +kernel
theorem dX4_fullOf_1 : decode cX4_fullOf 1 = .ok (.getfield 7, 3) := by decide +kernel
theorem dX4_fullOf_4 : decode cX4_fullOf 4 = .ok (.iload_n 1, 1) := by decide +kernel
theorem dX4_fullOf_5 : decode cX4_fullOf 5 = .ok (.iaload, 1) := by decide +kernel
theorem dX4_fullOf_6 : decode cX4_fullOf 6 = .ok (.ifCond .ne 9, 3) := by decide +kernel
theorem dX4_fullOf_9 : decode cX4_fullOf 9 = .ok (.sipush 3431, 3) := by decide +kernel
theorem dX4_fullOf_12 : decode cX4_fullOf 12 = .ok (.goto 50, 3) := by decide +kernel
theorem dX4_fullOf_15 : decode cX4_fullOf 15 = .ok (.aload_n 0, 1) := by decide +kernel
theorem dX4_fullOf_16 : decode cX4_fullOf 16 = .ok (.getfield 7, 3) := by decide +kernel
theorem dX4_fullOf_19 : decode cX4_fullOf 19 = .ok (.iload_n 1, 1) := by decide +kernel
theorem dX4_fullOf_20 : decode cX4_fullOf 20 = .ok (.iaload, 1) := by decide +kernel
theorem dX4_fullOf_21 : decode cX4_fullOf 21 = .ok (.iconst 1, 1) := by decide +kernel
theorem dX4_fullOf_22 : decode cX4_fullOf 22 = .ok (.if_icmp .ne 16, 3) := by decide +kernel
theorem dX4_fullOf_25 : decode cX4_fullOf 25 = .ok (.iconst 1, 1) := by decide +kernel
theorem dX4_fullOf_26 : decode cX4_fullOf 26 = .ok (.aload_n 0, 1) := by decide +kernel
theorem dX4_fullOf_27 : decode cX4_fullOf 27 = .ok (.getfield 19, 3) := by decide +kernel
theorem dX4_fullOf_30 : decode cX4_fullOf 30 = .ok (.iload_n 1, 1) := by decide +kernel
theorem dX4_fullOf_31 : decode cX4_fullOf 31 = .ok (.iaload, 1) := by decide +kernel
theorem dX4_fullOf_32 : decode cX4_fullOf 32 = .ok (.ishl, 1) := by decide +kernel
theorem dX4_fullOf_33 : decode cX4_fullOf 33 = .ok (.iconst 1, 1) := by decide +kernel
theorem dX4_fullOf_34 : decode cX4_fullOf 34 = .ok (.isub, 1) := by decide +kernel
theorem dX4_fullOf_35 : decode cX4_fullOf 35 = .ok (.goto 27, 3) := by decide +kernel
theorem dX4_fullOf_38 : decode cX4_fullOf 38 = .ok (.iconst 1, 1) := by decide +kernel
theorem dX4_fullOf_39 : decode cX4_fullOf 39 = .ok (.aload_n 0, 1) := by decide +kernel
theorem dX4_fullOf_40 : decode cX4_fullOf 40 = .ok (.getfield 25, 3) := by decide +kernel
theorem dX4_fullOf_43 : decode cX4_fullOf 43 = .ok (.iload_n 1, 1) := by decide +kernel
theorem dX4_fullOf_44 : decode cX4_fullOf 44 = .ok (.iaload, 1) := by decide +kernel
theorem dX4_fullOf_45 : decode cX4_fullOf 45 = .ok (.ishl, 1) := by decide +kernel
theorem dX4_fullOf_46 : decode cX4_fullOf 46 = .ok (.iconst 1, 1) := by decide +kernel
theorem dX4_fullOf_47 : decode cX4_fullOf 47 = .ok (.isub, 1) := by decide +kernel
theorem dX4_fullOf_48 : decode cX4_fullOf 48 = .ok (.iconst 1, 1) := by decide +kernel
theorem dX4_fullOf_49 : decode cX4_fullOf 49 = .ok (.aload_n 0, 1) := by decide +kernel
theorem dX4_fullOf_50 : decode cX4_fullOf 50 = .ok (.getfield 28, 3) := by decide +kernel
theorem dX4_fullOf_53 : decode cX4_fullOf 53 = .ok (.iload_n 1, 1) := by decide +kernel
theorem dX4_fullOf_54 : decode cX4_fullOf 54 = .ok (.iaload, 1) := by decide +kernel
theorem dX4_fullOf_55 : decode cX4_fullOf 55 = .ok (.ishl, 1) := by decide +kernel
theorem dX4_fullOf_56 : decode cX4_fullOf 56 = .ok (.iconst 1, 1) := by decide +kernel
theorem dX4_fullOf_57 : decode cX4_fullOf 57 = .ok (.isub, 1) := by decide +kernel
theorem dX4_fullOf_58 : decode cX4_fullOf 58 = .ok (.bipush 6, 2) := by decide +kernel
theorem dX4_fullOf_60 : decode cX4_fullOf 60 = .ok (.ishl, 1) := by decide +kernel
theorem dX4_fullOf_61 : decode cX4_fullOf 61 = .ok (.ior, 1) := by decide +kernel
theorem dX4_fullOf_62 : decode cX4_fullOf 62 = .ok (.ireturn, 1) := by decide +kernel
set_option maxRecDepth 20000 in
theorem ggX4_solveState_X4_findNext : GoodIn wsX4_solveState wsX4_findNext := goodIn_r _ [12, 2, 13, 14, 15, 16, 17, 18, 19, 20, 11, 21, 22, 23, 24, 25, 26, 27, 28, 29, 30, 31, 32, 33, 34, 35, 36, 37, 38, 4, 39, 40, 41, 42, 43, 44, 45, 46, 47, 48, 49, 50, 51, 52, 53, 54, 55, 56, 57, 58, 59, 60, 61, 62, 63, 64, 65, 66, 67] (by decide +kernel) (by decide +kernel)
set_option maxRecDepth 20000 in
theorem gX4_solveState_X4_findNext : GoodIn wsX4_solveState (wsV RX4 97 RX4 yX4_findNext wsX4_findNext) := goodIn_app (goodIn_of _ (by decide +kernel)) ggX4_solveState_X4_findNext
theorem dX4_solveState_0 : decode cX4_solveState 0 = .ok (.aload_n 0, 1) := by decide +kernel
theorem dX4_solveState_1 : decode cX4_solveState 1 = .ok (.iload_n 1, 1) := by decide +kernel
theorem dX4_solveState_2 : decode cX4_solveState 2 = .ok (.iload_n 2, 1) := by decide +kernel
theorem dX4_solveState_3 : decode cX4_solveState 3 = .ok (.invokevirtual 97, 3) := by decide +kernel
theorem dX4_solveState_6 : decode cX4_solveState 6 = .ok (.iconst 0, 1) := by decide +kernel
theorem dX4_solveState_7 : decode cX4_solveState 7 = .ok (.istore_n 3, 1) := by decide +kernel
theorem dX4_solveState_8 : decode cX4_solveState 8 = .ok (.iload_n 3, 1) := by decide +kernel
theorem dX4_solveState_9 : decode cX4_solveState 9 = .ok (.bipush 64, 2) := by decide +kernel
theorem dX4_solveState_11 : decode cX4_solveState 11 = .ok (.if_icmp .ge 16, 3) := by decide +kernel
theorem dX4_solveState_14 : decode cX4_solveState 14 = .ok (.aload_n 0, 1) := by decide +kernel
theorem dX4_solveState_15 : decode cX4_solveState 15 = .ok (.getfield 64, 3) := by decide +kernel
theorem dX4_solveState_18 : decode cX4_solveState 18 = .ok (.iload_n 3, 1) := by decide +kernel
theorem dX4_solveState_19 : decode cX4_solveState 19 = .ok (.iconst 0, 1) := by decide +kernel
theorem dX4_solveState_20 : decode cX4_solveState 20 = .ok (.bastore, 1) := by decide +kernel
theorem dX4_solveState_21 : decode cX4_solveState 21 = .ok (.iinc 3 1, 3) := by decide +kernel
theorem dX4_solveState_24 : decode cX4_solveState 24 = .ok (.goto (-16), 3) := by decide +kernel
theorem dX4_solveState_27 : decode cX4_solveState 27 = .ok (.aload_n 0, 1) := by decide +kernel
theorem dX4_solveState_28 : decode cX4_solveState 28 = .ok (.getfield 74, 3) := by decide +kernel
theorem dX4_solveState_31 : decode cX4_solveState 31 = .ok (.ifCond .ne 16, 3) := by decide +kernel
theorem dX4_solveState_34 : decode cX4_solveState 34 = .ok (.aload_n 0, 1) := by decide +kernel
theorem dX4_solveState_35 : decode cX4_solveState 35 = .ok (.getfield 13, 3) := by decide +kernel
theorem dX4_solveState_38 : decode cX4_solveState 38 = .ok (.iload_n 1, 1) := by decide +kernel
theorem dX4_solveState_39 : decode cX4_solveState 39 = .ok (.iaload, 1) := by decide +kernel
theorem dX4_solveState_40 : decode cX4_solveState 40 = .ok (.ifCond .ne 7, 3) := by decide +kernel
theorem dX4_solveState_43 : decode cX4_solveState 43 = .ok (.iconst 1, 1) := by decide +kernel
theorem dX4_solveState_44 : decode cX4_solveState 44 = .ok (.goto 4, 3) := by decide +kernel
theorem dX4_solveState_47 : decode cX4_solveState 47 = .ok (.iconst 0, 1) := by decide +kernel
theorem dX4_solveState_48 : decode cX4_solveState 48 = .ok (.istore_n 3, 1) := by decide +kernel
theorem dX4_solveState_49 : decode cX4_solveState 49 = .ok (.iconst (-1), 1) := by decide +kernel
theorem dX4_solveState_50 : decode cX4_solveState 50 = .ok (.istore 4, 2) := by decide +kernel
theorem dX4_solveState_52 : decode cX4_solveState 52 = .ok (.iconst (-1), 1) := by decide +kernel
theorem dX4_solveState_53 : decode cX4_solveState 53 = .ok (.istore 5, 2) := by decide +kernel
theorem dX4_solveState_55 : decode cX4_solveState 55 = .ok (.iconst 0, 1) := by decide +kernel
theorem dX4_solveState_56 : decode cX4_solveState 56 = .ok (.istore 6, 2) := by decide +kernel
theorem dX4_solveState_58 : decode cX4_solveState 58 = .ok (.iload 6, 2) := by decide +kernel
theorem dX4_solveState_60 : decode cX4_solveState 60 = .ok (.aload_n 0, 1) := by decide +kernel
theorem dX4_solveState_61 : decode cX4_solveState 61 = .ok (.getfield 74, 3) := by decide +kernel
theorem dX4_solveState_64 : decode cX4_solveState 64 = .ok (.if_icmp .ge 118, 3) := by decide +kernel
theorem dX4_solveState_67 : decode cX4_solveState 67 = .ok (.aload_n 0, 1) := by decide +kernel
theorem dX4_solveState_68 : decode cX4_solveState 68 = .ok (.getfield 61, 3) := by decide +kernel
theorem dX4_solveState_71 : decode cX4_solveState 71 = .ok (.iload 6, 2) := by decide +kernel
theorem dX4_solveState_73 : decode cX4_solveState 73 = .ok (.iaload, 1) := by decide +kernel
theorem dX4_solveState_74 : decode cX4_solveState 74 = .ok (.istore 7, 2) := by decide +kernel
theorem dX4_solveState_76 : decode cX4_solveState 76 = .ok (.aload_n 0, 1) := by decide +kernel
theorem dX4_solveState_77 : decode cX4_solveState 77 = .ok (.getfield 64, 3) := by decide +kernel
theorem dX4_solveState_80 : decode cX4_solveState 80 = .ok (.aload_n 0, 1) := by decide +kernel
theorem dX4_solveState_81 : decode cX4_solveState 81 = .ok (.getfield 55, 3) := by decide +kernel
theorem dX4_solveState_84 : decode cX4_solveState 84 = .ok (.iload 7, 2) := by decide +kernel
theorem dX4_solveState_86 : decode cX4_solveState 86 = .ok (.iaload, 1) := by decide +kernel
theorem dX4_solveState_87 : decode cX4_solveState 87 = .ok (.iconst 1, 1) := by decide +kernel
theorem dX4_solveState_88 : decode cX4_solveState 88 = .ok (.bastore, 1) := by decide +kernel
theorem dX4_solveState_89 : decode cX4_solveState 89 = .ok (.iload_n 3, 1) := by decide +kernel
theorem dX4_solveState_90 : decode cX4_solveState 90 = .ok (.ifCond .ne 13, 3) := by decide +kernel
theorem dX4_solveState_93 : decode cX4_solveState 93 = .ok (.aload_n 0, 1) := by decide +kernel
theorem dX4_solveState_94 : decode cX4_solveState 94 = .ok (.getfield 48, 3) := by decide +kernel
theorem dX4_solveState_97 : decode cX4_solveState 97 = .ok (.iload 7, 2) := by decide +kernel
theorem dX4_solveState_99 : decode cX4_solveState 99 = .ok (.baload, 1) := by decide +kernel
theorem dX4_solveState_100 : decode cX4_solveState 100 = .ok (.ifCond .ne 7, 3) := by decide +kernel
theorem dX4_solveState_103 : decode cX4_solveState 103 = .ok (.iconst 1, 1) := by decide +kernel
theorem dX4_solveState_104 : decode cX4_solveState 104 = .ok (.goto 4, 3) := by decide +kernel
theorem dX4_solveState_107 : decode cX4_solveState 107 = .ok (.iconst 0, 1) := by decide +kernel
theorem dX4_solveState_108 : decode cX4_solveState 108 = .ok (.istore_n 3, 1) := by decide +kernel
theorem dX4_solveState_109 : decode cX4_solveState 109 = .ok (.aload_n 0, 1) := by decide +kernel
theorem dX4_solveState_110 : decode cX4_solveState 110 = .ok (.getfield 48, 3) := by decide +kernel
theorem dX4_solveState_113 : decode cX4_solveState 113 = .ok (.iload 7, 2) := by decide +kernel
theorem dX4_solveState_115 : decode cX4_solveState 115 = .ok (.baload, 1) := by decide +kernel
theorem dX4_solveState_116 : decode cX4_solveState 116 = .ok (.ifCond .ne 30, 3) := by decide +kernel
theorem dX4_solveState_119 : decode cX4_solveState 119 = .ok (.iload 4, 2) := by decide +kernel
theorem dX4_solveState_121 : decode cX4_solveState 121 = .ok (.ifCond .lt 15, 3) := by decide +kernel
theorem dX4_solveState_124 : decode cX4_solveState 124 = .ok (.aload_n 0, 1) := by decide +kernel
theorem dX4_solveState_125 : decode cX4_solveState 125 = .ok (.getfield 52, 3) := by decide +kernel
theorem dX4_solveState_128 : decode cX4_solveState 128 = .ok (.iload 7, 2) := by decide +kernel
theorem dX4_solveState_130 : decode cX4_solveState 130 = .ok (.iaload, 1) := by decide +kernel
theorem dX4_solveState_131 : decode cX4_solveState 131 = .ok (.iload 4, 2) := by decide +kernel
theorem dX4_solveState_133 : decode cX4_solveState 133 = .ok (.if_icmp .ge 13, 3) := by decide +kernel
theorem dX4_solveState_136 : decode cX4_solveState 136 = .ok (.aload_n 0, 1) := by decide +kernel
theorem dX4_solveState_137 : decode cX4_solveState 137 = .ok (.getfield 52, 3) := by decide +kernel
theorem dX4_solveState_140 : decode cX4_solveState 140 = .ok (.iload 7, 2) := by decide +kernel
theorem dX4_solveState_142 : decode cX4_solveState 142 = .ok (.iaload, 1) := by decide +kernel
theorem dX4_solveState_143 : decode cX4_solveState 143 = .ok (.goto 5, 3) := by decide +kernel
theorem dX4_solveState_146 : decode cX4_solveState 146 = .ok (.iload 4, 2) := by decide +kernel
theorem dX4_solveState_148 : decode cX4_solveState 148 = .ok (.istore 4, 2) := by decide +kernel
theorem dX4_solveState_150 : decode cX4_solveState 150 = .ok (.aload_n 0, 1) := by decide +kernel
theorem dX4_solveState_151 : decode cX4_solveState 151 = .ok (.getfield 52, 3) := by decide +kernel
theorem dX4_solveState_154 : decode cX4_solveState 154 = .ok (.iload 7, 2) := by decide +kernel
theorem dX4_solveState_156 : decode cX4_solveState 156 = .ok (.iaload, 1) := by decide +kernel
theorem dX4_solveState_157 : decode cX4_solveState 157 = .ok (.iload 5, 2) := by decide +kernel
theorem dX4_solveState_159 : decode cX4_solveState 159 = .ok (.if_icmp .le 13, 3) := by decide +kernel
theorem dX4_solveState_162 : decode cX4_solveState 162 = .ok (.aload_n 0, 1) := by decide +kernel
theorem dX4_solveState_163 : decode cX4_solveState 163 = .ok (.getfield 52, 3) := by decide +kernel
theorem dX4_solveState_166 : decode cX4_solveState 166 = .ok (.iload 7, 2) := by decide +kernel
theorem dX4_solveState_168 : decode cX4_solveState 168 = .ok (.iaload, 1) := by decide +kernel
theorem dX4_solveState_169 : decode cX4_solveState 169 = .ok (.goto 5, 3) := by decide +kernel
theorem dX4_solveState_172 : decode cX4_solveState 172 = .ok (.iload 5, 2) := by decide +kernel
theorem dX4_solveState_174 : decode cX4_solveState 174 = .ok (.istore 5, 2) := by decide +kernel
theorem dX4_solveState_176 : decode cX4_solveState 176 = .ok (.iinc 6 1, 3) := by decide +kernel
theorem dX4_solveState_179 : decode cX4_solveState 179 = .ok (.goto (-121), 3) := by decide +kernel
theorem dX4_solveState_182 : decode cX4_solveState 182 = .ok (.aload_n 0, 1) := by decide +kernel
theorem dX4_solveState_183 : decode cX4_solveState 183 = .ok (.getfield 48, 3) := by decide +kernel
theorem dX4_solveState_186 : decode cX4_solveState 186 = .ok (.iload_n 2, 1) := by decide +kernel
theorem dX4_solveState_187 : decode cX4_solveState 187 = .ok (.iload_n 3, 1) := by decide +kernel
theorem dX4_solveState_188 : decode cX4_solveState 188 = .ok (.bastore, 1) := by decide +kernel
theorem dX4_solveState_189 : decode cX4_solveState 189 = .ok (.aload_n 0, 1) := by decide +kernel
theorem dX4_solveState_190 : decode cX4_solveState 190 = .ok (.getfield 52, 3) := by decide +kernel
theorem dX4_solveState_193 : decode cX4_solveState 193 = .ok (.iload_n 2, 1) := by decide +kernel
theorem dX4_solveState_194 : decode cX4_solveState 194 = .ok (.aload_n 0, 1) := by decide +kernel
theorem dX4_solveState_195 : decode cX4_solveState 195 = .ok (.getfield 74, 3) := by decide +kernel
theorem dX4_solveState_198 : decode cX4_solveState 198 = .ok (.ifCond .ne 7, 3) := by decide +kernel
theorem dX4_solveState_201 : decode cX4_solveState 201 = .ok (.iconst 0, 1) := by decide +kernel
theorem dX4_solveState_202 : decode cX4_solveState 202 = .ok (.goto 16, 3) := by decide +kernel
theorem dX4_solveState_205 : decode cX4_solveState 205 = .ok (.iconst 1, 1) := by decide +kernel
theorem dX4_solveState_206 : decode cX4_solveState 206 = .ok (.iload_n 3, 1) := by decide +kernel
theorem dX4_solveState_207 : decode cX4_solveState 207 = .ok (.ifCond .eq 8, 3) := by decide +kernel
theorem dX4_solveState_210 : decode cX4_solveState 210 = .ok (.iload 4, 2) := by decide +kernel
theorem dX4_solveState_212 : decode cX4_solveState 212 = .ok (.goto 5, 3) := by decide +kernel
theorem dX4_solveState_215 : decode cX4_solveState 215 = .ok (.iload 5, 2) := by decide +kernel
theorem dX4_solveState_217 : decode cX4_solveState 217 = .ok (.iadd, 1) := by decide +kernel
theorem dX4_solveState_218 : decode cX4_solveState 218 = .ok (.iastore, 1) := by decide +kernel
theorem dX4_solveState_219 : decode cX4_solveState 219 = .ok (.iconst 0, 1) := by decide +kernel
theorem dX4_solveState_220 : decode cX4_solveState 220 = .ok (.istore 6, 2) := by decide +kernel
theorem dX4_solveState_222 : decode cX4_solveState 222 = .ok (.aload_n 0, 1) := by decide +kernel
theorem dX4_solveState_223 : decode cX4_solveState 223 = .ok (.getfield 64, 3) := by decide +kernel
theorem dX4_solveState_226 : decode cX4_solveState 226 = .ok (.iload 6, 2) := by decide +kernel
theorem dX4_solveState_228 : decode cX4_solveState 228 = .ok (.baload, 1) := by decide +kernel
theorem dX4_solveState_229 : decode cX4_solveState 229 = .ok (.ifCond .eq 9, 3) := by decide +kernel
theorem dX4_solveState_232 : decode cX4_solveState 232 = .ok (.iinc 6 1, 3) := by decide +kernel
theorem dX4_solveState_235 : decode cX4_solveState 235 = .ok (.goto (-13), 3) := by decide +kernel
theorem dX4_solveState_238 : decode cX4_solveState 238 = .ok (.aload_n 0, 1) := by decide +kernel
theorem dX4_solveState_239 : decode cX4_solveState 239 = .ok (.getfield 55, 3) := by decide +kernel
theorem dX4_solveState_242 : decode cX4_solveState 242 = .ok (.iload_n 2, 1) := by decide +kernel
theorem dX4_solveState_243 : decode cX4_solveState 243 = .ok (.iload 6, 2) := by decide +kernel
theorem dX4_solveState_245 : decode cX4_solveState 245 = .ok (.iastore, 1) := by decide +kernel
theorem dX4_solveState_246 : decode cX4_solveState 246 = .ok (.return_, 1) := by decide +kernel
set_option maxRecDepth 20000 in
theorem ggX4_solve_X4_fullOf : GoodIn wsX4_solve wsX4_fullOf := goodIn_r _ [6, 7, 8, 9, 10, 56, 57, 58, 59, 60, 61, 62, 63, 64, 65, 66, 67, 68, 69, 70, 71, 72, 73, 74, 75, 76] (by decide +kernel) (by decide +kernel)
set_option maxRecDepth 20000 in
theorem gX4_solve_X4_fullOf : GoodIn wsX4_solve (wsV RX4 101 RX4 yX4_fullOf wsX4_fullOf) := goodIn_app (goodIn_of _ (by decide +kernel)) ggX4_solve_X4_fullOf
set_option maxRecDepth 20000 in
theorem ggX4_solve_X4_solveState : GoodIn wsX4_solve wsX4_solveState := goodIn_r _ [14, 15, 16, 17, 18, 19, 20, 21, 22, 23, 24, 5, 25, 7, 8, 26, 9, 10, 27, 28, 29, 30, 31, 32, 33, 34, 35, 36, 37, 38, 39, 40, 41, 42, 43, 44, 45, 46, 47, 48, 49, 50, 51, 52, 53, 54, 55, 56, 57, 58, 59, 60, 61, 62, 63, 64, 65, 66, 67, 68, 69, 70, 71, 72, 73, 74, 75, 76] (by decide +kernel) (by decide +kernel)
set_option maxRecDepth 20000 in
theorem gX4_solve_X4_solveState : GoodIn wsX4_solve (wsV RX4 105 RX4 yX4_solveState wsX4_solveState) := goodIn_app (goodIn_of _ (by decide +kernel)) ggX4_solve_X4_solveState
theorem dX4_solve_0 : decode cX4_solve 0 = .ok (.aload_n 0, 1) := by decide +kernel
theorem dX4_solve_1 : decode cX4_solve 1 = .ok (.getfield 43, 3) := by decide +kernel
theorem dX4_solve_4 : decode cX4_solve 4 = .ok (.iload_n 1, 1) := by decide +kernel
theorem dX4_solve_5 : decode cX4_solve 5 = .ok (.if_icmp .eq 33, 3) := by decide +kernel
theorem dX4_solve_8 : decode cX4_solve 8 = .ok (.aload_n 0, 1) := by decide +kernel
theorem dX4_solve_9 : decode cX4_solve 9 = .ok (.iload_n 1, 1) := by decide +kernel
theorem dX4_solve_10 : decode cX4_solve 10 = .ok (.invokevirtual 101, 3) := by decide +kernel
theorem dX4_solve_13 : decode cX4_solve 13 = .ok (.istore_n 2, 1) := by decide +kernel
theorem dX4_solve_14 : decode cX4_solve 14 = .ok (.iconst 0, 1) := by decide +kernel
theorem dX4_solve_15 : decode cX4_solve 15 = .ok (.istore_n 3, 1) := by decide +kernel
theorem dX4_solve_16 : decode cX4_solve 16 = .ok (.iload_n 3, 1) := by decide +kernel
theorem dX4_solve_17 : decode cX4_solve 17 = .ok (.iload_n 2, 1) := by decide +kernel
theorem dX4_solve_18 : decode cX4_solve 18 = .ok (.if_icmp .gt 15, 3) := by decide +kernel
theorem dX4_solve_21 : decode cX4_solve 21 = .ok (.aload_n 0, 1) := by decide +kernel
theorem dX4_solve_22 : decode cX4_solve 22 = .ok (.iload_n 1, 1) := by decide +kernel
theorem dX4_solve_23 : decode cX4_solve 23 = .ok (.iload_n 3, 1) := by decide +kernel
theorem dX4_solve_24 : decode cX4_solve 24 = .ok (.invokevirtual 105, 3) := by decide +kernel
theorem dX4_solve_27 : decode cX4_solve 27 = .ok (.iinc 3 1, 3) := by decide +kernel
theorem dX4_solve_30 : decode cX4_solve 30 = .ok (.goto (-14), 3) := by decide +kernel
theorem dX4_solve_33 : decode cX4_solve 33 = .ok (.aload_n 0, 1) := by decide +kernel
theorem dX4_solve_34 : decode cX4_solve 34 = .ok (.iload_n 1, 1) := by decide +kernel
theorem dX4_solve_35 : decode cX4_solve 35 = .ok (.putfield 43, 3) := by decide +kernel
theorem dX4_solve_38 : decode cX4_solve 38 = .ok (.return_, 1) := by decide +kernel
theorem dX4_fresh_0 : decode cX4_fresh 0 = .ok (.aload_n 0, 1) := by decide +kernel
theorem dX4_fresh_1 : decode cX4_fresh 1 = .ok (.getfield 108, 3) := by decide +kernel
theorem dX4_fresh_4 : decode cX4_fresh 4 = .ok (.istore_n 3, 1) := by decide +kernel
theorem dX4_fresh_5 : decode cX4_fresh 5 = .ok (.aload_n 0, 1) := by decide +kernel
theorem dX4_fresh_6 : decode cX4_fresh 6 = .ok (.getfield 7, 3) := by decide +kernel
theorem dX4_fresh_9 : decode cX4_fresh 9 = .ok (.iload_n 3, 1) := by decide +kernel
theorem dX4_fresh_10 : decode cX4_fresh 10 = .ok (.iload_n 1, 1) := by decide +kernel
theorem dX4_fresh_11 : decode cX4_fresh 11 = .ok (.iastore, 1) := by decide +kernel
theorem dX4_fresh_12 : decode cX4_fresh 12 = .ok (.aload_n 0, 1) := by decide +kernel
theorem dX4_fresh_13 : decode cX4_fresh 13 = .ok (.getfield 13, 3) := by decide +kernel
theorem dX4_fresh_16 : decode cX4_fresh 16 = .ok (.iload_n 3, 1) := by decide +kernel
theorem dX4_fresh_17 : decode cX4_fresh 17 = .ok (.iload_n 2, 1) := by decide +kernel
theorem dX4_fresh_18 : decode cX4_fresh 18 = .ok (.iastore, 1) := by decide +kernel
theorem dX4_fresh_19 : decode cX4_fresh 19 = .ok (.aload_n 0, 1) := by decide +kernel
theorem dX4_fresh_20 : decode cX4_fresh 20 = .ok (.getfield 16, 3) := by decide +kernel
theorem dX4_fresh_23 : decode cX4_fresh 23 = .ok (.iload_n 3, 1) := by decide +kernel
theorem dX4_fresh_24 : decode cX4_fresh 24 = .ok (.iconst 0, 1) := by decide +kernel
theorem dX4_fresh_25 : decode cX4_fresh 25 = .ok (.iastore, 1) := by decide +kernel
theorem dX4_fresh_26 : decode cX4_fresh 26 = .ok (.aload_n 0, 1) := by decide +kernel
theorem dX4_fresh_27 : decode cX4_fresh 27 = .ok (.getfield 19, 3) := by decide +kernel
theorem dX4_fresh_30 : decode cX4_fresh 30 = .ok (.iload_n 3, 1) := by decide +kernel
theorem dX4_fresh_31 : decode cX4_fresh 31 = .ok (.iconst 0, 1) := by decide +kernel
theorem dX4_fresh_32 : decode cX4_fresh 32 = .ok (.iastore, 1) := by decide +kernel
theorem dX4_fresh_33 : decode cX4_fresh 33 = .ok (.aload_n 0, 1) := by decide +kernel
theorem dX4_fresh_34 : decode cX4_fresh 34 = .ok (.getfield 25, 3) := by decide +kernel
theorem dX4_fresh_37 : decode cX4_fresh 37 = .ok (.iload_n 3, 1) := by decide +kernel
theorem dX4_fresh_38 : decode cX4_fresh 38 = .ok (.iconst 0, 1) := by decide +kernel
theorem dX4_fresh_39 : decode cX4_fresh 39 = .ok (.iastore, 1) := by decide +kernel
theorem dX4_fresh_40 : decode cX4_fresh 40 = .ok (.aload_n 0, 1) := by decide +kernel
theorem dX4_fresh_41 : decode cX4_fresh 41 = .ok (.getfield 28, 3) := by decide +kernel
theorem dX4_fresh_44 : decode cX4_fresh 44 = .ok (.iload_n 3, 1) := by decide +kernel
theorem dX4_fresh_45 : decode cX4_fresh 45 = .ok (.iconst 0, 1) := by decide +kernel
theorem dX4_fresh_46 : decode cX4_fresh 46 = .ok (.iastore, 1) := by decide +kernel
theorem dX4_fresh_47 : decode cX4_fresh 47 = .ok (.aload_n 0, 1) := by decide +kernel
theorem dX4_fresh_48 : decode cX4_fresh 48 = .ok (.getfield 34, 3) := by decide +kernel
theorem dX4_fresh_51 : decode cX4_fresh 51 = .ok (.iload_n 3, 1) := by decide +kernel
theorem dX4_fresh_52 : decode cX4_fresh 52 = .ok (.iconst 0, 1) := by decide +kernel
theorem dX4_fresh_53 : decode cX4_fresh 53 = .ok (.iastore, 1) := by decide +kernel
theorem dX4_fresh_54 : decode cX4_fresh 54 = .ok (.aload_n 0, 1) := by decide +kernel
theorem dX4_fresh_55 : decode cX4_fresh 55 = .ok (.aload_n 0, 1) := by decide +kernel
theorem dX4_fresh_56 : decode cX4_fresh 56 = .ok (.getfield 43, 3) := by decide +kernel
theorem dX4_fresh_59 : decode cX4_fresh 59 = .ok (.iload_n 3, 1) := by decide +kernel
theorem dX4_fresh_60 : decode cX4_fresh 60 = .ok (.if_icmp .ne 7, 3) := by decide +kernel
theorem dX4_fresh_63 : decode cX4_fresh 63 = .ok (.iconst (-1), 1) := by decide +kernel
theorem dX4_fresh_64 : decode cX4_fresh 64 = .ok (.goto 7, 3) := by decide +kernel
theorem dX4_fresh_67 : decode cX4_fresh 67 = .ok (.aload_n 0, 1) := by decide +kernel
theorem dX4_fresh_68 : decode cX4_fresh 68 = .ok (.getfield 43, 3) := by decide +kernel
theorem dX4_fresh_71 : decode cX4_fresh 71 = .ok (.putfield 43, 3) := by decide +kernel
theorem dX4_fresh_74 : decode cX4_fresh 74 = .ok (.aload_n 0, 1) := by decide +kernel
theorem dX4_fresh_75 : decode cX4_fresh 75 = .ok (.dup, 1) := by decide +kernel
theorem dX4_fresh_76 : decode cX4_fresh 76 = .ok (.getfield 108, 3) := by decide +kernel
theorem dX4_fresh_79 : decode cX4_fresh 79 = .ok (.iconst 1, 1) := by decide +kernel
theorem dX4_fresh_80 : decode cX4_fresh 80 = .ok (.iadd, 1) := by decide +kernel
theorem dX4_fresh_81 : decode cX4_fresh 81 = .ok (.putfield 108, 3) := by decide +kernel
theorem dX4_fresh_84 : decode cX4_fresh 84 = .ok (.iload_n 3, 1) := by decide +kernel
theorem dX4_fresh_85 : decode cX4_fresh 85 = .ok (.ireturn, 1) := by decide +kernel
set_option maxRecDepth 20000 in
theorem ggX4_isRule_X4_in : GoodIn wsX4_isRule wsX4_in := goodIn_r _ [4] (by decide +kernel) (by decide +kernel)
set_option maxRecDepth 20000 in
theorem gX4_isRule_X4_in : GoodIn wsX4_isRule (va_wsS RX4 111 yX4_in wsX4_in) := goodIn_app (goodIn_of _ (by decide +kernel)) ggX4_isRule_X4_in
theorem dX4_isRule_0 : decode cX4_isRule 0 = .ok (.iload_n 0, 1) := by decide +kernel
theorem dX4_isRule_1 : decode cX4_isRule 1 = .ok (.i2l, 1) := by decide +kernel
theorem dX4_isRule_2 : decode cX4_isRule 2 = .ok (.lconst 0, 1) := by decide +kernel
theorem dX4_isRule_3 : decode cX4_isRule 3 = .ok (.lconst 1, 1) := by decide +kernel
theorem dX4_isRule_4 : decode cX4_isRule 4 = .ok (.invokestatic 111, 3) := by decide +kernel
theorem dX4_isRule_7 : decode cX4_isRule 7 = .ok (.ireturn, 1) := by decide +kernel
set_option maxRecDepth 20000 in
theorem ggX4_rows_X4_in : GoodIn wsX4_rows wsX4_in := goodIn_r _ [8] (by decide +kernel) (by decide +kernel)
set_option maxRecDepth 20000 in
theorem gX4_rows_X4_in : GoodIn wsX4_rows (va_wsS RX4 111 yX4_in wsX4_in) := goodIn_app (goodIn_of _ (by decide +kernel)) ggX4_rows_X4_in
set_option maxRecDepth 20000 in
theorem ggX4_rows_X4_isRule : GoodIn wsX4_rows wsX4_isRule := goodIn_r _ [11, 5, 6, 7, 8] (by decide +kernel) (by decide +kernel)
set_option maxRecDepth 20000 in
theorem gX4_rows_X4_isRule : GoodIn wsX4_rows (va_wsS RX4 117 yX4_isRule wsX4_isRule) := goodIn_app (goodIn_of _ (by decide +kernel)) ggX4_rows_X4_isRule
set_option maxRecDepth 20000 in
theorem ggX4_rows_X4_fresh : GoodIn wsX4_rows wsX4_fresh := goodIn_r _ [15, 2, 16, 17, 4, 18, 19, 20, 21, 22, 30, 31, 32, 33, 34, 35, 36, 37, 38, 39, 40, 41, 42, 43, 44, 45, 46, 47, 48, 49, 50] (by decide +kernel) (by decide +kernel)
set_option maxRecDepth 20000 in
theorem gX4_rows_X4_fresh : GoodIn wsX4_rows (wsV RX4 121 RX4 yX4_fresh wsX4_fresh) := goodIn_app (goodIn_of _ (by decide +kernel)) ggX4_rows_X4_fresh
set_option maxRecDepth 20000 in
theorem ggX4_rows_X4_rankOf : GoodIn wsX4_rows wsX4_rankOf := goodIn_r _ [26, 3, 27, 28, 7, 29, 30, 31, 32, 33, 34, 35, 36, 37, 38, 39, 40, 41, 42, 43, 44, 45, 46, 47, 48, 49, 50] (by decide +kernel) (by decide +kernel)
set_option maxRecDepth 20000 in
theorem gX4_rows_X4_rankOf : GoodIn wsX4_rows (wsV RX4 81 RX4 yX4_rankOf wsX4_rankOf) := goodIn_app (goodIn_of _ (by decide +kernel)) ggX4_rows_X4_rankOf
theorem dX4_rows_0 : decode cX4_rows 0 = .ok (.iload_n 1, 1) := by decide +kernel
theorem dX4_rows_1 : decode cX4_rows 1 = .ok (.i2l, 1) := by decide +kernel
theorem dX4_rows_2 : decode cX4_rows 2 = .ok (.lconst 1, 1) := by decide +kernel
theorem dX4_rows_3 : decode cX4_rows 3 = .ok (.ldc2_w 115, 3) := by decide +kernel
theorem dX4_rows_6 : decode cX4_rows 6 = .ok (.invokestatic 111, 3) := by decide +kernel
theorem dX4_rows_9 : decode cX4_rows 9 = .ok (.ifCond .eq 22, 3) := by decide +kernel
theorem dX4_rows_12 : decode cX4_rows 12 = .ok (.iload_n 2, 1) := by decide +kernel
theorem dX4_rows_13 : decode cX4_rows 13 = .ok (.i2l, 1) := by decide +kernel
theorem dX4_rows_14 : decode cX4_rows 14 = .ok (.lconst 1, 1) := by decide +kernel
theorem dX4_rows_15 : decode cX4_rows 15 = .ok (.ldc2_w 115, 3) := by decide +kernel
theorem dX4_rows_18 : decode cX4_rows 18 = .ok (.invokestatic 111, 3) := by decide +kernel
theorem dX4_rows_21 : decode cX4_rows 21 = .ok (.ifCond .eq 10, 3) := by decide +kernel
theorem dX4_rows_24 : decode cX4_rows 24 = .ok (.iload_n 3, 1) := by decide +kernel
theorem dX4_rows_25 : decode cX4_rows 25 = .ok (.invokestatic 117, 3) := by decide +kernel
theorem dX4_rows_28 : decode cX4_rows 28 = .ok (.ifCond .ne 7, 3) := by decide +kernel
theorem dX4_rows_31 : decode cX4_rows 31 = .ok (.sipush (-1002), 3) := by decide +kernel
theorem dX4_rows_34 : decode cX4_rows 34 = .ok (.ireturn, 1) := by decide +kernel
theorem dX4_rows_35 : decode cX4_rows 35 = .ok (.aload_n 0, 1) := by decide +kernel
theorem dX4_rows_36 : decode cX4_rows 36 = .ok (.getfield 108, 3) := by decide +kernel
theorem dX4_rows_39 : decode cX4_rows 39 = .ok (.bipush 6, 2) := by decide +kernel
theorem dX4_rows_41 : decode cX4_rows 41 = .ok (.if_icmp .ne 7, 3) := by decide +kernel
theorem dX4_rows_44 : decode cX4_rows 44 = .ok (.sipush (-1004), 3) := by decide +kernel
theorem dX4_rows_47 : decode cX4_rows 47 = .ok (.ireturn, 1) := by decide +kernel
theorem dX4_rows_48 : decode cX4_rows 48 = .ok (.aload_n 0, 1) := by decide +kernel
theorem dX4_rows_49 : decode cX4_rows 49 = .ok (.iconst 0, 1) := by decide +kernel
theorem dX4_rows_50 : decode cX4_rows 50 = .ok (.iload_n 3, 1) := by decide +kernel
theorem dX4_rows_51 : decode cX4_rows 51 = .ok (.invokevirtual 121, 3) := by decide +kernel
theorem dX4_rows_54 : decode cX4_rows 54 = .ok (.istore 4, 2) := by decide +kernel
theorem dX4_rows_56 : decode cX4_rows 56 = .ok (.iconst 0, 1) := by decide +kernel
theorem dX4_rows_57 : decode cX4_rows 57 = .ok (.istore 5, 2) := by decide +kernel
theorem dX4_rows_59 : decode cX4_rows 59 = .ok (.iload 5, 2) := by decide +kernel
theorem dX4_rows_61 : decode cX4_rows 61 = .ok (.bipush 7, 2) := by decide +kernel
theorem dX4_rows_63 : decode cX4_rows 63 = .ok (.if_icmp .ge 27, 3) := by decide +kernel
theorem dX4_rows_66 : decode cX4_rows 66 = .ok (.aload_n 0, 1) := by decide +kernel
theorem dX4_rows_67 : decode cX4_rows 67 = .ok (.getfield 58, 3) := by decide +kernel
theorem dX4_rows_70 : decode cX4_rows 70 = .ok (.iload 5, 2) := by decide +kernel
theorem dX4_rows_72 : decode cX4_rows 72 = .ok (.iload 5, 2) := by decide +kernel
theorem dX4_rows_74 : decode cX4_rows 74 = .ok (.iload_n 1, 1) := by decide +kernel
theorem dX4_rows_75 : decode cX4_rows 75 = .ok (.if_icmp .ge 7, 3) := by decide +kernel
theorem dX4_rows_78 : decode cX4_rows 78 = .ok (.iload_n 2, 1) := by decide +kernel
theorem dX4_rows_79 : decode cX4_rows 79 = .ok (.goto 4, 3) := by decide +kernel
theorem dX4_rows_82 : decode cX4_rows 82 = .ok (.iconst 0, 1) := by decide +kernel
theorem dX4_rows_83 : decode cX4_rows 83 = .ok (.iastore, 1) := by decide +kernel
theorem dX4_rows_84 : decode cX4_rows 84 = .ok (.iinc 5 1, 3) := by decide +kernel
theorem dX4_rows_87 : decode cX4_rows 87 = .ok (.goto (-28), 3) := by decide +kernel
theorem dX4_rows_90 : decode cX4_rows 90 = .ok (.aload_n 0, 1) := by decide +kernel
theorem dX4_rows_91 : decode cX4_rows 91 = .ok (.getfield 16, 3) := by decide +kernel
theorem dX4_rows_94 : decode cX4_rows 94 = .ok (.iload 4, 2) := by decide +kernel
theorem dX4_rows_96 : decode cX4_rows 96 = .ok (.aload_n 0, 1) := by decide +kernel
theorem dX4_rows_97 : decode cX4_rows 97 = .ok (.invokevirtual 81, 3) := by decide +kernel
theorem dX4_rows_100 : decode cX4_rows 100 = .ok (.iastore, 1) := by decide +kernel
theorem dX4_rows_101 : decode cX4_rows 101 = .ok (.iload 4, 2) := by decide +kernel
theorem dX4_rows_103 : decode cX4_rows 103 = .ok (.ireturn, 1) := by decide +kernel
set_option maxRecDepth 20000 in
theorem ggX4_order_X4_isRule : GoodIn wsX4_order wsX4_isRule := goodIn_r _ [5, 6, 7, 4, 8] (by decide +kernel) (by decide +kernel)
set_option maxRecDepth 20000 in
theorem gX4_order_X4_isRule : GoodIn wsX4_order (va_wsS RX4 117 yX4_isRule wsX4_isRule) := goodIn_app (goodIn_of _ (by decide +kernel)) ggX4_order_X4_isRule
set_option maxRecDepth 20000 in
theorem ggX4_order_X4_fresh : GoodIn wsX4_order wsX4_fresh := goodIn_r _ [12, 1, 13, 14, 15, 16, 17, 18, 19, 20, 21, 22, 23, 24, 25, 26, 27, 28, 29, 30, 31, 32, 33, 34, 35, 36, 37, 38, 39, 40, 41] (by decide +kernel) (by decide +kernel)
set_option maxRecDepth 20000 in
theorem gX4_order_X4_fresh : GoodIn wsX4_order (wsV RX4 121 RX4 yX4_fresh wsX4_fresh) := goodIn_app (goodIn_of _ (by decide +kernel)) ggX4_order_X4_fresh
theorem dX4_order_0 : decode cX4_order 0 = .ok (.iload_n 1, 1) := by decide +kernel
theorem dX4_order_1 : decode cX4_order 1 = .ok (.invokestatic 117, 3) := by decide +kernel
theorem dX4_order_4 : decode cX4_order 4 = .ok (.ifCond .ne 9, 3) := by decide +kernel
theorem dX4_order_7 : decode cX4_order 7 = .ok (.sipush (-1002), 3) := by decide +kernel
theorem dX4_order_10 : decode cX4_order 10 = .ok (.goto 24, 3) := by decide +kernel
theorem dX4_order_13 : decode cX4_order 13 = .ok (.aload_n 0, 1) := by decide +kernel
theorem dX4_order_14 : decode cX4_order 14 = .ok (.getfield 108, 3) := by decide +kernel
theorem dX4_order_17 : decode cX4_order 17 = .ok (.bipush 6, 2) := by decide +kernel
theorem dX4_order_19 : decode cX4_order 19 = .ok (.if_icmp .ne 9, 3) := by decide +kernel
theorem dX4_order_22 : decode cX4_order 22 = .ok (.sipush (-1004), 3) := by decide +kernel
theorem dX4_order_25 : decode cX4_order 25 = .ok (.goto 9, 3) := by decide +kernel
theorem dX4_order_28 : decode cX4_order 28 = .ok (.aload_n 0, 1) := by decide +kernel
theorem dX4_order_29 : decode cX4_order 29 = .ok (.iconst 1, 1) := by decide +kernel
theorem dX4_order_30 : decode cX4_order 30 = .ok (.iload_n 1, 1) := by decide +kernel
theorem dX4_order_31 : decode cX4_order 31 = .ok (.invokevirtual 121, 3) := by decide +kernel
theorem dX4_order_34 : decode cX4_order 34 = .ok (.ireturn, 1) := by decide +kernel
set_option maxRecDepth 20000 in
theorem ggX4_divisors_X4_in : GoodIn wsX4_divisors wsX4_in := goodIn_r _ [10] (by decide +kernel) (by decide +kernel)
set_option maxRecDepth 20000 in
theorem gX4_divisors_X4_in : GoodIn wsX4_divisors (va_wsS RX4 111 yX4_in wsX4_in) := goodIn_app (goodIn_of _ (by decide +kernel)) ggX4_divisors_X4_in
set_option maxRecDepth 20000 in
theorem ggX4_divisors_X4_isRule : GoodIn wsX4_divisors wsX4_isRule := goodIn_r _ [13, 7, 8, 9, 10] (by decide +kernel) (by decide +kernel)
set_option maxRecDepth 20000 in
theorem gX4_divisors_X4_isRule : GoodIn wsX4_divisors (va_wsS RX4 117 yX4_isRule wsX4_isRule) := goodIn_app (goodIn_of _ (by decide +kernel)) ggX4_divisors_X4_isRule
set_option maxRecDepth 20000 in
theorem ggX4_divisors_X4_fresh : GoodIn wsX4_divisors wsX4_fresh := goodIn_r _ [17, 3, 18, 19, 6, 4, 20, 21, 22, 23, 31, 32, 33, 34, 35, 36, 37, 38, 39, 40, 41, 42, 43, 44, 45, 46, 47, 48, 49, 50, 51] (by decide +kernel) (by decide +kernel)
set_option maxRecDepth 20000 in
theorem gX4_divisors_X4_fresh : GoodIn wsX4_divisors (wsV RX4 121 RX4 yX4_fresh wsX4_fresh) := goodIn_app (goodIn_of _ (by decide +kernel)) ggX4_divisors_X4_fresh
set_option maxRecDepth 20000 in
theorem ggX4_divisors_X4_placeOf : GoodIn wsX4_divisors wsX4_placeOf := goodIn_r _ [26] (by decide +kernel) (by decide +kernel)
set_option maxRecDepth 20000 in
theorem gX4_divisors_X4_placeOf : GoodIn wsX4_divisors (va_wsS RX4 91 yX4_placeOf wsX4_placeOf) := goodIn_app (goodIn_of _ (by decide +kernel)) ggX4_divisors_X4_placeOf
set_option maxRecDepth 20000 in
theorem ggX4_divisors_X4_fullOf : GoodIn wsX4_divisors wsX4_fullOf := goodIn_r _ [30, 18, 4, 20, 21, 31, 32, 33, 34, 35, 36, 37, 38, 39, 40, 41, 42, 43, 44, 45, 46, 47, 48, 49, 50, 51] (by decide +kernel) (by decide +kernel)
set_option maxRecDepth 20000 in
theorem gX4_divisors_X4_fullOf : GoodIn wsX4_divisors (wsV RX4 101 RX4 yX4_fullOf wsX4_fullOf) := goodIn_app (goodIn_of _ (by decide +kernel)) ggX4_divisors_X4_fullOf
theorem dX4_divisors_0 : decode cX4_divisors 0 = .ok (.iconst 0, 1) := by decide +kernel
theorem dX4_divisors_1 : decode cX4_divisors 1 = .ok (.istore_n 3, 1) := by decide +kernel
theorem dX4_divisors_2 : decode cX4_divisors 2 = .ok (.iconst 1, 1) := by decide +kernel
theorem dX4_divisors_3 : decode cX4_divisors 3 = .ok (.istore 4, 2) := by decide +kernel
theorem dX4_divisors_5 : decode cX4_divisors 5 = .ok (.iload 4, 2) := by decide +kernel
theorem dX4_divisors_7 : decode cX4_divisors 7 = .ok (.iload_n 1, 1) := by decide +kernel
theorem dX4_divisors_8 : decode cX4_divisors 8 = .ok (.if_icmp .gt 36, 3) := by decide +kernel
theorem dX4_divisors_11 : decode cX4_divisors 11 = .ok (.iload_n 1, 1) := by decide +kernel
theorem dX4_divisors_12 : decode cX4_divisors 12 = .ok (.i2l, 1) := by decide +kernel
theorem dX4_divisors_13 : decode cX4_divisors 13 = .ok (.lconst 1, 1) := by decide +kernel
theorem dX4_divisors_14 : decode cX4_divisors 14 = .ok (.ldc2_w 124, 3) := by decide +kernel
theorem dX4_divisors_17 : decode cX4_divisors 17 = .ok (.invokestatic 111, 3) := by decide +kernel
theorem dX4_divisors_20 : decode cX4_divisors 20 = .ok (.ifCond .eq 24, 3) := by decide +kernel
theorem dX4_divisors_23 : decode cX4_divisors 23 = .ok (.iload_n 3, 1) := by decide +kernel
theorem dX4_divisors_24 : decode cX4_divisors 24 = .ok (.iload_n 1, 1) := by decide +kernel
theorem dX4_divisors_25 : decode cX4_divisors 25 = .ok (.iload 4, 2) := by decide +kernel
theorem dX4_divisors_27 : decode cX4_divisors 27 = .ok (.irem, 1) := by decide +kernel
theorem dX4_divisors_28 : decode cX4_divisors 28 = .ok (.ifCond .ne 7, 3) := by decide +kernel
theorem dX4_divisors_31 : decode cX4_divisors 31 = .ok (.iconst 1, 1) := by decide +kernel
theorem dX4_divisors_32 : decode cX4_divisors 32 = .ok (.goto 4, 3) := by decide +kernel
theorem dX4_divisors_35 : decode cX4_divisors 35 = .ok (.iconst 0, 1) := by decide +kernel
theorem dX4_divisors_36 : decode cX4_divisors 36 = .ok (.iadd, 1) := by decide +kernel
theorem dX4_divisors_37 : decode cX4_divisors 37 = .ok (.istore_n 3, 1) := by decide +kernel
theorem dX4_divisors_38 : decode cX4_divisors 38 = .ok (.iinc 4 1, 3) := by decide +kernel
theorem dX4_divisors_41 : decode cX4_divisors 41 = .ok (.goto (-36), 3) := by decide +kernel
theorem dX4_divisors_44 : decode cX4_divisors 44 = .ok (.iload_n 3, 1) := by decide +kernel
theorem dX4_divisors_45 : decode cX4_divisors 45 = .ok (.i2l, 1) := by decide +kernel
theorem dX4_divisors_46 : decode cX4_divisors 46 = .ok (.lconst 1, 1) := by decide +kernel
theorem dX4_divisors_47 : decode cX4_divisors 47 = .ok (.ldc2_w 126, 3) := by decide +kernel
theorem dX4_divisors_50 : decode cX4_divisors 50 = .ok (.invokestatic 111, 3) := by decide +kernel
theorem dX4_divisors_53 : decode cX4_divisors 53 = .ok (.ifCond .eq 10, 3) := by decide +kernel
theorem dX4_divisors_56 : decode cX4_divisors 56 = .ok (.iload_n 2, 1) := by decide +kernel
theorem dX4_divisors_57 : decode cX4_divisors 57 = .ok (.invokestatic 117, 3) := by decide +kernel
theorem dX4_divisors_60 : decode cX4_divisors 60 = .ok (.ifCond .ne 7, 3) := by decide +kernel
theorem dX4_divisors_63 : decode cX4_divisors 63 = .ok (.sipush (-1002), 3) := by decide +kernel
theorem dX4_divisors_66 : decode cX4_divisors 66 = .ok (.ireturn, 1) := by decide +kernel
theorem dX4_divisors_67 : decode cX4_divisors 67 = .ok (.aload_n 0, 1) := by decide +kernel
theorem dX4_divisors_68 : decode cX4_divisors 68 = .ok (.getfield 108, 3) := by decide +kernel
theorem dX4_divisors_71 : decode cX4_divisors 71 = .ok (.bipush 6, 2) := by decide +kernel
theorem dX4_divisors_73 : decode cX4_divisors 73 = .ok (.if_icmp .ne 7, 3) := by decide +kernel
theorem dX4_divisors_76 : decode cX4_divisors 76 = .ok (.sipush (-1004), 3) := by decide +kernel
theorem dX4_divisors_79 : decode cX4_divisors 79 = .ok (.ireturn, 1) := by decide +kernel
theorem dX4_divisors_80 : decode cX4_divisors 80 = .ok (.aload_n 0, 1) := by decide +kernel
theorem dX4_divisors_81 : decode cX4_divisors 81 = .ok (.iconst 1, 1) := by decide +kernel
theorem dX4_divisors_82 : decode cX4_divisors 82 = .ok (.iload_n 2, 1) := by decide +kernel
theorem dX4_divisors_83 : decode cX4_divisors 83 = .ok (.invokevirtual 121, 3) := by decide +kernel
theorem dX4_divisors_86 : decode cX4_divisors 86 = .ok (.istore 4, 2) := by decide +kernel
theorem dX4_divisors_88 : decode cX4_divisors 88 = .ok (.aload_n 0, 1) := by decide +kernel
theorem dX4_divisors_89 : decode cX4_divisors 89 = .ok (.getfield 19, 3) := by decide +kernel
theorem dX4_divisors_92 : decode cX4_divisors 92 = .ok (.iload 4, 2) := by decide +kernel
theorem dX4_divisors_94 : decode cX4_divisors 94 = .ok (.iload_n 3, 1) := by decide +kernel
theorem dX4_divisors_95 : decode cX4_divisors 95 = .ok (.iastore, 1) := by decide +kernel
theorem dX4_divisors_96 : decode cX4_divisors 96 = .ok (.iconst 0, 1) := by decide +kernel
theorem dX4_divisors_97 : decode cX4_divisors 97 = .ok (.istore 5, 2) := by decide +kernel
theorem dX4_divisors_99 : decode cX4_divisors 99 = .ok (.iconst 1, 1) := by decide +kernel
theorem dX4_divisors_100 : decode cX4_divisors 100 = .ok (.istore 6, 2) := by decide +kernel
theorem dX4_divisors_102 : decode cX4_divisors 102 = .ok (.iload 6, 2) := by decide +kernel
theorem dX4_divisors_104 : decode cX4_divisors 104 = .ok (.iload_n 1, 1) := by decide +kernel
theorem dX4_divisors_105 : decode cX4_divisors 105 = .ok (.if_icmp .gt 98, 3) := by decide +kernel
theorem dX4_divisors_108 : decode cX4_divisors 108 = .ok (.iload_n 1, 1) := by decide +kernel
theorem dX4_divisors_109 : decode cX4_divisors 109 = .ok (.iload 6, 2) := by decide +kernel
theorem dX4_divisors_111 : decode cX4_divisors 111 = .ok (.irem, 1) := by decide +kernel
theorem dX4_divisors_112 : decode cX4_divisors 112 = .ok (.ifCond .ne 85, 3) := by decide +kernel
theorem dX4_divisors_115 : decode cX4_divisors 115 = .ok (.iconst 0, 1) := by decide +kernel
theorem dX4_divisors_116 : decode cX4_divisors 116 = .ok (.istore 7, 2) := by decide +kernel
theorem dX4_divisors_118 : decode cX4_divisors 118 = .ok (.aload_n 0, 1) := by decide +kernel
theorem dX4_divisors_119 : decode cX4_divisors 119 = .ok (.getfield 22, 3) := by decide +kernel
theorem dX4_divisors_122 : decode cX4_divisors 122 = .ok (.iload 4, 2) := by decide +kernel
theorem dX4_divisors_124 : decode cX4_divisors 124 = .ok (.iload 5, 2) := by decide +kernel
theorem dX4_divisors_126 : decode cX4_divisors 126 = .ok (.invokestatic 91, 3) := by decide +kernel
theorem dX4_divisors_129 : decode cX4_divisors 129 = .ok (.iconst 0, 1) := by decide +kernel
theorem dX4_divisors_130 : decode cX4_divisors 130 = .ok (.iastore, 1) := by decide +kernel
theorem dX4_divisors_131 : decode cX4_divisors 131 = .ok (.iconst 1, 1) := by decide +kernel
theorem dX4_divisors_132 : decode cX4_divisors 132 = .ok (.istore 8, 2) := by decide +kernel
theorem dX4_divisors_134 : decode cX4_divisors 134 = .ok (.iload 8, 2) := by decide +kernel
theorem dX4_divisors_136 : decode cX4_divisors 136 = .ok (.iload_n 1, 1) := by decide +kernel
theorem dX4_divisors_137 : decode cX4_divisors 137 = .ok (.if_icmp .gt 57, 3) := by decide +kernel
theorem dX4_divisors_140 : decode cX4_divisors 140 = .ok (.iload_n 1, 1) := by decide +kernel
theorem dX4_divisors_141 : decode cX4_divisors 141 = .ok (.iload 8, 2) := by decide +kernel
theorem dX4_divisors_143 : decode cX4_divisors 143 = .ok (.irem, 1) := by decide +kernel
theorem dX4_divisors_144 : decode cX4_divisors 144 = .ok (.ifCond .ne 44, 3) := by decide +kernel
theorem dX4_divisors_147 : decode cX4_divisors 147 = .ok (.aload_n 0, 1) := by decide +kernel
theorem dX4_divisors_148 : decode cX4_divisors 148 = .ok (.getfield 22, 3) := by decide +kernel
theorem dX4_divisors_151 : decode cX4_divisors 151 = .ok (.iload 4, 2) := by decide +kernel
theorem dX4_divisors_153 : decode cX4_divisors 153 = .ok (.iload 5, 2) := by decide +kernel
theorem dX4_divisors_155 : decode cX4_divisors 155 = .ok (.invokestatic 91, 3) := by decide +kernel
theorem dX4_divisors_158 : decode cX4_divisors 158 = .ok (.dup2, 1) := by decide +kernel
theorem dX4_divisors_159 : decode cX4_divisors 159 = .ok (.iaload, 1) := by decide +kernel
theorem dX4_divisors_160 : decode cX4_divisors 160 = .ok (.iload 8, 2) := by decide +kernel
theorem dX4_divisors_162 : decode cX4_divisors 162 = .ok (.iload 6, 2) := by decide +kernel
theorem dX4_divisors_164 : decode cX4_divisors 164 = .ok (.if_icmp .eq 18, 3) := by decide +kernel
theorem dX4_divisors_167 : decode cX4_divisors 167 = .ok (.iload 8, 2) := by decide +kernel
theorem dX4_divisors_169 : decode cX4_divisors 169 = .ok (.iload 6, 2) := by decide +kernel
theorem dX4_divisors_171 : decode cX4_divisors 171 = .ok (.irem, 1) := by decide +kernel
theorem dX4_divisors_172 : decode cX4_divisors 172 = .ok (.ifCond .ne 10, 3) := by decide +kernel
theorem dX4_divisors_175 : decode cX4_divisors 175 = .ok (.iconst 1, 1) := by decide +kernel
theorem dX4_divisors_176 : decode cX4_divisors 176 = .ok (.iload 7, 2) := by decide +kernel
theorem dX4_divisors_178 : decode cX4_divisors 178 = .ok (.ishl, 1) := by decide +kernel
theorem dX4_divisors_179 : decode cX4_divisors 179 = .ok (.goto 4, 3) := by decide +kernel
theorem dX4_divisors_182 : decode cX4_divisors 182 = .ok (.iconst 0, 1) := by decide +kernel
theorem dX4_divisors_183 : decode cX4_divisors 183 = .ok (.ior, 1) := by decide +kernel
theorem dX4_divisors_184 : decode cX4_divisors 184 = .ok (.iastore, 1) := by decide +kernel
theorem dX4_divisors_185 : decode cX4_divisors 185 = .ok (.iinc 7 1, 3) := by decide +kernel
theorem dX4_divisors_188 : decode cX4_divisors 188 = .ok (.iinc 8 1, 3) := by decide +kernel
theorem dX4_divisors_191 : decode cX4_divisors 191 = .ok (.goto (-57), 3) := by decide +kernel
theorem dX4_divisors_194 : decode cX4_divisors 194 = .ok (.iinc 5 1, 3) := by decide +kernel
theorem dX4_divisors_197 : decode cX4_divisors 197 = .ok (.iinc 6 1, 3) := by decide +kernel
theorem dX4_divisors_200 : decode cX4_divisors 200 = .ok (.goto (-98), 3) := by decide +kernel
theorem dX4_divisors_203 : decode cX4_divisors 203 = .ok (.aload_n 0, 1) := by decide +kernel
theorem dX4_divisors_204 : decode cX4_divisors 204 = .ok (.getfield 16, 3) := by decide +kernel
theorem dX4_divisors_207 : decode cX4_divisors 207 = .ok (.iload 4, 2) := by decide +kernel
theorem dX4_divisors_209 : decode cX4_divisors 209 = .ok (.aload_n 0, 1) := by decide +kernel
theorem dX4_divisors_210 : decode cX4_divisors 210 = .ok (.iload 4, 2) := by decide +kernel
theorem dX4_divisors_212 : decode cX4_divisors 212 = .ok (.invokevirtual 101, 3) := by decide +kernel
theorem dX4_divisors_215 : decode cX4_divisors 215 = .ok (.iastore, 1) := by decide +kernel
theorem dX4_divisors_216 : decode cX4_divisors 216 = .ok (.iload 4, 2) := by decide +kernel
theorem dX4_divisors_218 : decode cX4_divisors 218 = .ok (.ireturn, 1) := by decide +kernel
set_option maxRecDepth 20000 in
theorem ggX4_net_X4_isRule : GoodIn wsX4_net wsX4_isRule := goodIn_r _ [5, 6, 7, 4, 8] (by decide +kernel) (by decide +kernel)
set_option maxRecDepth 20000 in
theorem gX4_net_X4_isRule : GoodIn wsX4_net (va_wsS RX4 117 yX4_isRule wsX4_isRule) := goodIn_app (goodIn_of _ (by decide +kernel)) ggX4_net_X4_isRule
set_option maxRecDepth 20000 in
theorem ggX4_net_X4_fresh : GoodIn wsX4_net wsX4_fresh := goodIn_r _ [12, 1, 13, 14, 15, 16, 17, 18, 19, 20, 21, 22, 23, 24, 25, 26, 27, 28, 29, 30, 31, 32, 33, 34, 35, 36, 37, 38, 39, 40, 41] (by decide +kernel) (by decide +kernel)
set_option maxRecDepth 20000 in
theorem gX4_net_X4_fresh : GoodIn wsX4_net (wsV RX4 121 RX4 yX4_fresh wsX4_fresh) := goodIn_app (goodIn_of _ (by decide +kernel)) ggX4_net_X4_fresh
theorem dX4_net_0 : decode cX4_net 0 = .ok (.iload_n 1, 1) := by decide +kernel
theorem dX4_net_1 : decode cX4_net 1 = .ok (.invokestatic 117, 3) := by decide +kernel
theorem dX4_net_4 : decode cX4_net 4 = .ok (.ifCond .ne 9, 3) := by decide +kernel
theorem dX4_net_7 : decode cX4_net 7 = .ok (.sipush (-1002), 3) := by decide +kernel
theorem dX4_net_10 : decode cX4_net 10 = .ok (.goto 24, 3) := by decide +kernel
theorem dX4_net_13 : decode cX4_net 13 = .ok (.aload_n 0, 1) := by decide +kernel
theorem dX4_net_14 : decode cX4_net 14 = .ok (.getfield 108, 3) := by decide +kernel
theorem dX4_net_17 : decode cX4_net 17 = .ok (.bipush 6, 2) := by decide +kernel
theorem dX4_net_19 : decode cX4_net 19 = .ok (.if_icmp .ne 9, 3) := by decide +kernel
theorem dX4_net_22 : decode cX4_net 22 = .ok (.sipush (-1004), 3) := by decide +kernel
theorem dX4_net_25 : decode cX4_net 25 = .ok (.goto 9, 3) := by decide +kernel
theorem dX4_net_28 : decode cX4_net 28 = .ok (.aload_n 0, 1) := by decide +kernel
theorem dX4_net_29 : decode cX4_net 29 = .ok (.iconst 2, 1) := by decide +kernel
theorem dX4_net_30 : decode cX4_net 30 = .ok (.iload_n 1, 1) := by decide +kernel
theorem dX4_net_31 : decode cX4_net 31 = .ok (.invokevirtual 121, 3) := by decide +kernel
theorem dX4_net_34 : decode cX4_net 34 = .ok (.ireturn, 1) := by decide +kernel
theorem dX4_clear_0 : decode cX4_clear 0 = .ok (.aload_n 0, 1) := by decide +kernel
theorem dX4_clear_1 : decode cX4_clear 1 = .ok (.getfield 108, 3) := by decide +kernel
theorem dX4_clear_4 : decode cX4_clear 4 = .ok (.istore_n 1, 1) := by decide +kernel
theorem dX4_clear_5 : decode cX4_clear 5 = .ok (.aload_n 0, 1) := by decide +kernel
theorem dX4_clear_6 : decode cX4_clear 6 = .ok (.iconst 0, 1) := by decide +kernel
theorem dX4_clear_7 : decode cX4_clear 7 = .ok (.putfield 108, 3) := by decide +kernel
theorem dX4_clear_10 : decode cX4_clear 10 = .ok (.aload_n 0, 1) := by decide +kernel
theorem dX4_clear_11 : decode cX4_clear 11 = .ok (.iconst (-1), 1) := by decide +kernel
theorem dX4_clear_12 : decode cX4_clear 12 = .ok (.putfield 43, 3) := by decide +kernel
theorem dX4_clear_15 : decode cX4_clear 15 = .ok (.iload_n 1, 1) := by decide +kernel
theorem dX4_clear_16 : decode cX4_clear 16 = .ok (.ireturn, 1) := by decide +kernel
set_option maxRecDepth 20000 in
theorem ggX4_isGame_X4_in : GoodIn wsX4_isGame wsX4_in := goodIn_r _ [5] (by decide +kernel) (by decide +kernel)
set_option maxRecDepth 20000 in
theorem gX4_isGame_X4_in : GoodIn wsX4_isGame (va_wsS RX4 111 yX4_in wsX4_in) := goodIn_app (goodIn_of _ (by decide +kernel)) ggX4_isGame_X4_in
theorem dX4_isGame_0 : decode cX4_isGame 0 = .ok (.iload_n 1, 1) := by decide +kernel
theorem dX4_isGame_1 : decode cX4_isGame 1 = .ok (.i2l, 1) := by decide +kernel
theorem dX4_isGame_2 : decode cX4_isGame 2 = .ok (.lconst 0, 1) := by decide +kernel
theorem dX4_isGame_3 : decode cX4_isGame 3 = .ok (.aload_n 0, 1) := by decide +kernel
theorem dX4_isGame_4 : decode cX4_isGame 4 = .ok (.getfield 108, 3) := by decide +kernel
theorem dX4_isGame_7 : decode cX4_isGame 7 = .ok (.iconst 1, 1) := by decide +kernel
theorem dX4_isGame_8 : decode cX4_isGame 8 = .ok (.isub, 1) := by decide +kernel
theorem dX4_isGame_9 : decode cX4_isGame 9 = .ok (.i2l, 1) := by decide +kernel
theorem dX4_isGame_10 : decode cX4_isGame 10 = .ok (.invokestatic 111, 3) := by decide +kernel
theorem dX4_isGame_13 : decode cX4_isGame 13 = .ok (.ireturn, 1) := by decide +kernel
set_option maxRecDepth 20000 in
theorem ggX4_isOf_X4_isGame : GoodIn wsX4_isOf wsX4_isGame := goodIn_r _ [6, 7, 8, 9, 5, 10, 11, 12, 13, 14, 15, 16, 17, 18, 19, 20, 21, 22, 23, 24, 25, 26, 27, 28, 29, 30, 31] (by decide +kernel) (by decide +kernel)
set_option maxRecDepth 20000 in
theorem gX4_isOf_X4_isGame : GoodIn wsX4_isOf (wsV RX4 128 RX4 yX4_isGame wsX4_isGame) := goodIn_app (goodIn_of _ (by decide +kernel)) ggX4_isOf_X4_isGame
theorem dX4_isOf_0 : decode cX4_isOf 0 = .ok (.aload_n 0, 1) := by decide +kernel
theorem dX4_isOf_1 : decode cX4_isOf 1 = .ok (.iload_n 1, 1) := by decide +kernel
theorem dX4_isOf_2 : decode cX4_isOf 2 = .ok (.invokevirtual 128, 3) := by decide +kernel
theorem dX4_isOf_5 : decode cX4_isOf 5 = .ok (.ifCond .eq 17, 3) := by decide +kernel
theorem dX4_isOf_8 : decode cX4_isOf 8 = .ok (.aload_n 0, 1) := by decide +kernel
theorem dX4_isOf_9 : decode cX4_isOf 9 = .ok (.getfield 7, 3) := by decide +kernel
theorem dX4_isOf_12 : decode cX4_isOf 12 = .ok (.iload_n 1, 1) := by decide +kernel
theorem dX4_isOf_13 : decode cX4_isOf 13 = .ok (.iaload, 1) := by decide +kernel
theorem dX4_isOf_14 : decode cX4_isOf 14 = .ok (.iload_n 2, 1) := by decide +kernel
theorem dX4_isOf_15 : decode cX4_isOf 15 = .ok (.if_icmp .ne 7, 3) := by decide +kernel
theorem dX4_isOf_18 : decode cX4_isOf 18 = .ok (.iconst 1, 1) := by decide +kernel
theorem dX4_isOf_19 : decode cX4_isOf 19 = .ok (.goto 4, 3) := by decide +kernel
theorem dX4_isOf_22 : decode cX4_isOf 22 = .ok (.iconst 0, 1) := by decide +kernel
theorem dX4_isOf_23 : decode cX4_isOf 23 = .ok (.ireturn, 1) := by decide +kernel
set_option maxRecDepth 20000 in
theorem ggX4_row_X4_isOf : GoodIn wsX4_row wsX4_isOf := goodIn_r _ [10, 11, 12, 13, 14, 9, 15, 16, 17, 18, 19, 62, 63, 64, 65, 66, 67, 68, 69, 70, 71, 72, 73, 74, 75, 76, 77, 78, 79, 80, 81, 82] (by decide +kernel) (by decide +kernel)
set_option maxRecDepth 20000 in
theorem gX4_row_X4_isOf : GoodIn wsX4_row (wsV RX4 131 RX4 yX4_isOf wsX4_isOf) := goodIn_app (goodIn_of _ (by decide +kernel)) ggX4_row_X4_isOf
set_option maxRecDepth 20000 in
theorem ggX4_row_X4_in : GoodIn wsX4_row wsX4_in := goodIn_r _ [19] (by decide +kernel) (by decide +kernel)
set_option maxRecDepth 20000 in
theorem gX4_row_X4_in : GoodIn wsX4_row (va_wsS RX4 111 yX4_in wsX4_in) := goodIn_app (goodIn_of _ (by decide +kernel)) ggX4_row_X4_in
set_option maxRecDepth 20000 in
theorem ggX4_row_X4_unrank : GoodIn wsX4_row wsX4_unrank := goodIn_r _ [23, 4, 24, 25, 9, 26, 62, 63, 64, 65, 66, 67, 68, 69, 70, 71, 72, 73, 74, 75, 76, 77, 78, 79, 80, 81, 82] (by decide +kernel) (by decide +kernel)
set_option maxRecDepth 20000 in
theorem gX4_row_X4_unrank : GoodIn wsX4_row (wsV RX4 77 RX4 yX4_unrank wsX4_unrank) := goodIn_app (goodIn_of _ (by decide +kernel)) ggX4_row_X4_unrank
set_option maxRecDepth 20000 in
theorem ggX4_row_X4_rankOf : GoodIn wsX4_row wsX4_rankOf := goodIn_r _ [30, 4, 24, 25, 9, 26, 62, 63, 64, 65, 66, 67, 68, 69, 70, 71, 72, 73, 74, 75, 76, 77, 78, 79, 80, 81, 82] (by decide +kernel) (by decide +kernel)
set_option maxRecDepth 20000 in
theorem gX4_row_X4_rankOf : GoodIn wsX4_row (wsV RX4 81 RX4 yX4_rankOf wsX4_rankOf) := goodIn_app (goodIn_of _ (by decide +kernel)) ggX4_row_X4_rankOf
set_option maxRecDepth 20000 in
theorem ggX4_row_X4_bitesOf : GoodIn wsX4_row wsX4_bitesOf := goodIn_r _ [34, 3, 35, 36, 37, 38, 9, 39, 11, 40, 41, 42, 43, 44, 45, 46, 47, 48, 4, 20, 21, 22, 23, 24, 25, 26, 27, 28, 29, 30, 49, 50, 51, 52, 53, 54, 55, 56, 57, 58, 59, 60, 61, 62, 63, 64, 65, 66, 67, 68, 69, 70, 71, 72, 73, 74, 75, 76, 77, 78, 79, 80, 81, 82] (by decide +kernel) (by decide +kernel)
set_option maxRecDepth 20000 in
theorem gX4_row_X4_bitesOf : GoodIn wsX4_row (wsV RX4 137 RX4 yX4_bitesOf wsX4_bitesOf) := goodIn_app (goodIn_of _ (by decide +kernel)) ggX4_row_X4_bitesOf
theorem dX4_row_0 : decode cX4_row 0 = .ok (.aload_n 0, 1) := by decide +kernel
theorem dX4_row_1 : decode cX4_row 1 = .ok (.iload_n 1, 1) := by decide +kernel
theorem dX4_row_2 : decode cX4_row 2 = .ok (.iconst 0, 1) := by decide +kernel
theorem dX4_row_3 : decode cX4_row 3 = .ok (.invokevirtual 131, 3) := by decide +kernel
theorem dX4_row_6 : decode cX4_row 6 = .ok (.ifCond .ne 7, 3) := by decide +kernel
theorem dX4_row_9 : decode cX4_row 9 = .ok (.sipush (-1001), 3) := by decide +kernel
theorem dX4_row_12 : decode cX4_row 12 = .ok (.ireturn, 1) := by decide +kernel
theorem dX4_row_13 : decode cX4_row 13 = .ok (.iload_n 2, 1) := by decide +kernel
theorem dX4_row_14 : decode cX4_row 14 = .ok (.i2l, 1) := by decide +kernel
theorem dX4_row_15 : decode cX4_row 15 = .ok (.lconst 0, 1) := by decide +kernel
theorem dX4_row_16 : decode cX4_row 16 = .ok (.ldc2_w 135, 3) := by decide +kernel
theorem dX4_row_19 : decode cX4_row 19 = .ok (.invokestatic 111, 3) := by decide +kernel
theorem dX4_row_22 : decode cX4_row 22 = .ok (.ifCond .eq 15, 3) := by decide +kernel
theorem dX4_row_25 : decode cX4_row 25 = .ok (.iload_n 3, 1) := by decide +kernel
theorem dX4_row_26 : decode cX4_row 26 = .ok (.i2l, 1) := by decide +kernel
theorem dX4_row_27 : decode cX4_row 27 = .ok (.lconst 0, 1) := by decide +kernel
theorem dX4_row_28 : decode cX4_row 28 = .ok (.ldc2_w 115, 3) := by decide +kernel
theorem dX4_row_31 : decode cX4_row 31 = .ok (.invokestatic 111, 3) := by decide +kernel
theorem dX4_row_34 : decode cX4_row 34 = .ok (.ifCond .ne 7, 3) := by decide +kernel
theorem dX4_row_37 : decode cX4_row 37 = .ok (.sipush (-1002), 3) := by decide +kernel
theorem dX4_row_40 : decode cX4_row 40 = .ok (.ireturn, 1) := by decide +kernel
theorem dX4_row_41 : decode cX4_row 41 = .ok (.aload_n 0, 1) := by decide +kernel
theorem dX4_row_42 : decode cX4_row 42 = .ok (.aload_n 0, 1) := by decide +kernel
theorem dX4_row_43 : decode cX4_row 43 = .ok (.getfield 16, 3) := by decide +kernel
theorem dX4_row_46 : decode cX4_row 46 = .ok (.iload_n 1, 1) := by decide +kernel
theorem dX4_row_47 : decode cX4_row 47 = .ok (.iaload, 1) := by decide +kernel
theorem dX4_row_48 : decode cX4_row 48 = .ok (.invokevirtual 77, 3) := by decide +kernel
theorem dX4_row_51 : decode cX4_row 51 = .ok (.iload_n 2, 1) := by decide +kernel
theorem dX4_row_52 : decode cX4_row 52 = .ok (.ifCond .le 19, 3) := by decide +kernel
theorem dX4_row_55 : decode cX4_row 55 = .ok (.iload_n 3, 1) := by decide +kernel
theorem dX4_row_56 : decode cX4_row 56 = .ok (.aload_n 0, 1) := by decide +kernel
theorem dX4_row_57 : decode cX4_row 57 = .ok (.getfield 58, 3) := by decide +kernel
theorem dX4_row_60 : decode cX4_row 60 = .ok (.iload_n 2, 1) := by decide +kernel
theorem dX4_row_61 : decode cX4_row 61 = .ok (.iconst 1, 1) := by decide +kernel
theorem dX4_row_62 : decode cX4_row 62 = .ok (.isub, 1) := by decide +kernel
theorem dX4_row_63 : decode cX4_row 63 = .ok (.iaload, 1) := by decide +kernel
theorem dX4_row_64 : decode cX4_row 64 = .ok (.if_icmp .le 7, 3) := by decide +kernel
theorem dX4_row_67 : decode cX4_row 67 = .ok (.sipush (-1003), 3) := by decide +kernel
theorem dX4_row_70 : decode cX4_row 70 = .ok (.ireturn, 1) := by decide +kernel
theorem dX4_row_71 : decode cX4_row 71 = .ok (.aload_n 0, 1) := by decide +kernel
theorem dX4_row_72 : decode cX4_row 72 = .ok (.getfield 58, 3) := by decide +kernel
theorem dX4_row_75 : decode cX4_row 75 = .ok (.iload_n 2, 1) := by decide +kernel
theorem dX4_row_76 : decode cX4_row 76 = .ok (.iload_n 3, 1) := by decide +kernel
theorem dX4_row_77 : decode cX4_row 77 = .ok (.iastore, 1) := by decide +kernel
theorem dX4_row_78 : decode cX4_row 78 = .ok (.iload_n 2, 1) := by decide +kernel
theorem dX4_row_79 : decode cX4_row 79 = .ok (.iconst 1, 1) := by decide +kernel
theorem dX4_row_80 : decode cX4_row 80 = .ok (.iadd, 1) := by decide +kernel
theorem dX4_row_81 : decode cX4_row 81 = .ok (.istore 4, 2) := by decide +kernel
theorem dX4_row_83 : decode cX4_row 83 = .ok (.iload 4, 2) := by decide +kernel
theorem dX4_row_85 : decode cX4_row 85 = .ok (.bipush 7, 2) := by decide +kernel
theorem dX4_row_87 : decode cX4_row 87 = .ok (.if_icmp .ge 38, 3) := by decide +kernel
theorem dX4_row_90 : decode cX4_row 90 = .ok (.aload_n 0, 1) := by decide +kernel
theorem dX4_row_91 : decode cX4_row 91 = .ok (.getfield 58, 3) := by decide +kernel
theorem dX4_row_94 : decode cX4_row 94 = .ok (.iload 4, 2) := by decide +kernel
theorem dX4_row_96 : decode cX4_row 96 = .ok (.aload_n 0, 1) := by decide +kernel
theorem dX4_row_97 : decode cX4_row 97 = .ok (.getfield 58, 3) := by decide +kernel
theorem dX4_row_100 : decode cX4_row 100 = .ok (.iload 4, 2) := by decide +kernel
theorem dX4_row_102 : decode cX4_row 102 = .ok (.iaload, 1) := by decide +kernel
theorem dX4_row_103 : decode cX4_row 103 = .ok (.iload_n 3, 1) := by decide +kernel
theorem dX4_row_104 : decode cX4_row 104 = .ok (.if_icmp .le 7, 3) := by decide +kernel
theorem dX4_row_107 : decode cX4_row 107 = .ok (.iload_n 3, 1) := by decide +kernel
theorem dX4_row_108 : decode cX4_row 108 = .ok (.goto 10, 3) := by decide +kernel
theorem dX4_row_111 : decode cX4_row 111 = .ok (.aload_n 0, 1) := by decide +kernel
theorem dX4_row_112 : decode cX4_row 112 = .ok (.getfield 58, 3) := by decide +kernel
theorem dX4_row_115 : decode cX4_row 115 = .ok (.iload 4, 2) := by decide +kernel
theorem dX4_row_117 : decode cX4_row 117 = .ok (.iaload, 1) := by decide +kernel
theorem dX4_row_118 : decode cX4_row 118 = .ok (.iastore, 1) := by decide +kernel
theorem dX4_row_119 : decode cX4_row 119 = .ok (.iinc 4 1, 3) := by decide +kernel
theorem dX4_row_122 : decode cX4_row 122 = .ok (.goto (-39), 3) := by decide +kernel
theorem dX4_row_125 : decode cX4_row 125 = .ok (.aload_n 0, 1) := by decide +kernel
theorem dX4_row_126 : decode cX4_row 126 = .ok (.getfield 16, 3) := by decide +kernel
theorem dX4_row_129 : decode cX4_row 129 = .ok (.iload_n 1, 1) := by decide +kernel
theorem dX4_row_130 : decode cX4_row 130 = .ok (.aload_n 0, 1) := by decide +kernel
theorem dX4_row_131 : decode cX4_row 131 = .ok (.invokevirtual 81, 3) := by decide +kernel
theorem dX4_row_134 : decode cX4_row 134 = .ok (.iastore, 1) := by decide +kernel
theorem dX4_row_135 : decode cX4_row 135 = .ok (.aload_n 0, 1) := by decide +kernel
theorem dX4_row_136 : decode cX4_row 136 = .ok (.getfield 34, 3) := by decide +kernel
theorem dX4_row_139 : decode cX4_row 139 = .ok (.iload_n 1, 1) := by decide +kernel
theorem dX4_row_140 : decode cX4_row 140 = .ok (.iconst 0, 1) := by decide +kernel
theorem dX4_row_141 : decode cX4_row 141 = .ok (.iastore, 1) := by decide +kernel
theorem dX4_row_142 : decode cX4_row 142 = .ok (.aload_n 0, 1) := by decide +kernel
theorem dX4_row_143 : decode cX4_row 143 = .ok (.iload_n 1, 1) := by decide +kernel
theorem dX4_row_144 : decode cX4_row 144 = .ok (.invokevirtual 137, 3) := by decide +kernel
theorem dX4_row_147 : decode cX4_row 147 = .ok (.ireturn, 1) := by decide +kernel
set_option maxRecDepth 20000 in
theorem ggX4_again_X4_fullOf : GoodIn wsX4_again wsX4_fullOf := goodIn_r _ [8, 9, 10, 11, 12, 13, 14, 15, 16, 17, 18, 19, 20, 21, 22, 23, 24, 25, 26, 27, 28, 29, 30, 31, 32, 33] (by decide +kernel) (by decide +kernel)
set_option maxRecDepth 20000 in
theorem gX4_again_X4_fullOf : GoodIn wsX4_again (wsV RX4 101 RX4 yX4_fullOf wsX4_fullOf) := goodIn_app (goodIn_of _ (by decide +kernel)) ggX4_again_X4_fullOf
theorem dX4_again_0 : decode cX4_again 0 = .ok (.aload_n 0, 1) := by decide +kernel
theorem dX4_again_1 : decode cX4_again 1 = .ok (.getfield 16, 3) := by decide +kernel
theorem dX4_again_4 : decode cX4_again 4 = .ok (.iload_n 1, 1) := by decide +kernel
theorem dX4_again_5 : decode cX4_again 5 = .ok (.aload_n 0, 1) := by decide +kernel
theorem dX4_again_6 : decode cX4_again 6 = .ok (.iload_n 1, 1) := by decide +kernel
theorem dX4_again_7 : decode cX4_again 7 = .ok (.invokevirtual 101, 3) := by decide +kernel
theorem dX4_again_10 : decode cX4_again 10 = .ok (.iastore, 1) := by decide +kernel
theorem dX4_again_11 : decode cX4_again 11 = .ok (.aload_n 0, 1) := by decide +kernel
theorem dX4_again_12 : decode cX4_again 12 = .ok (.getfield 34, 3) := by decide +kernel
theorem dX4_again_15 : decode cX4_again 15 = .ok (.iload_n 1, 1) := by decide +kernel
theorem dX4_again_16 : decode cX4_again 16 = .ok (.iconst 0, 1) := by decide +kernel
theorem dX4_again_17 : decode cX4_again 17 = .ok (.iastore, 1) := by decide +kernel
theorem dX4_again_18 : decode cX4_again 18 = .ok (.aload_n 0, 1) := by decide +kernel
theorem dX4_again_19 : decode cX4_again 19 = .ok (.aload_n 0, 1) := by decide +kernel
theorem dX4_again_20 : decode cX4_again 20 = .ok (.getfield 43, 3) := by decide +kernel
theorem dX4_again_23 : decode cX4_again 23 = .ok (.iload_n 1, 1) := by decide +kernel
theorem dX4_again_24 : decode cX4_again 24 = .ok (.if_icmp .ne 7, 3) := by decide +kernel
theorem dX4_again_27 : decode cX4_again 27 = .ok (.iconst (-1), 1) := by decide +kernel
theorem dX4_again_28 : decode cX4_again 28 = .ok (.goto 7, 3) := by decide +kernel
theorem dX4_again_31 : decode cX4_again 31 = .ok (.aload_n 0, 1) := by decide +kernel
theorem dX4_again_32 : decode cX4_again 32 = .ok (.getfield 43, 3) := by decide +kernel
theorem dX4_again_35 : decode cX4_again 35 = .ok (.putfield 43, 3) := by decide +kernel
theorem dX4_again_38 : decode cX4_again 38 = .ok (.return_, 1) := by decide +kernel
set_option maxRecDepth 20000 in
theorem ggX4_thing_X4_isOf : GoodIn wsX4_thing wsX4_isOf := goodIn_r _ [7, 8, 9, 10, 11, 6, 12, 13, 14, 15, 16, 33, 34, 35, 36, 37, 38, 39, 40, 41, 42, 43, 44, 45, 46, 47, 48, 49, 50, 51, 52, 53] (by decide +kernel) (by decide +kernel)
set_option maxRecDepth 20000 in
theorem gX4_thing_X4_isOf : GoodIn wsX4_thing (wsV RX4 131 RX4 yX4_isOf wsX4_isOf) := goodIn_app (goodIn_of _ (by decide +kernel)) ggX4_thing_X4_isOf
set_option maxRecDepth 20000 in
theorem ggX4_thing_X4_placeOf : GoodIn wsX4_thing wsX4_placeOf := goodIn_r _ [19] (by decide +kernel) (by decide +kernel)
set_option maxRecDepth 20000 in
theorem gX4_thing_X4_placeOf : GoodIn wsX4_thing (va_wsS RX4 91 yX4_placeOf wsX4_placeOf) := goodIn_app (goodIn_of _ (by decide +kernel)) ggX4_thing_X4_placeOf
set_option maxRecDepth 20000 in
theorem ggX4_thing_X4_again : GoodIn wsX4_thing wsX4_again := goodIn_r _ [23, 24, 25, 26, 27, 28, 29, 6, 30, 8, 1, 31, 32, 33, 34, 35, 36, 37, 38, 39, 40, 41, 42, 43, 44, 45, 46, 47, 48, 49, 50, 51, 52, 53] (by decide +kernel) (by decide +kernel)
set_option maxRecDepth 20000 in
theorem gX4_thing_X4_again : GoodIn wsX4_thing (wsV RX4 140 RX4 yX4_again wsX4_again) := goodIn_app (goodIn_of _ (by decide +kernel)) ggX4_thing_X4_again
theorem dX4_thing_0 : decode cX4_thing 0 = .ok (.aload_n 0, 1) := by decide +kernel
theorem dX4_thing_1 : decode cX4_thing 1 = .ok (.iload_n 1, 1) := by decide +kernel
theorem dX4_thing_2 : decode cX4_thing 2 = .ok (.iconst 1, 1) := by decide +kernel
theorem dX4_thing_3 : decode cX4_thing 3 = .ok (.invokevirtual 131, 3) := by decide +kernel
theorem dX4_thing_6 : decode cX4_thing 6 = .ok (.ifCond .ne 7, 3) := by decide +kernel
theorem dX4_thing_9 : decode cX4_thing 9 = .ok (.sipush (-1001), 3) := by decide +kernel
theorem dX4_thing_12 : decode cX4_thing 12 = .ok (.ireturn, 1) := by decide +kernel
theorem dX4_thing_13 : decode cX4_thing 13 = .ok (.aload_n 0, 1) := by decide +kernel
theorem dX4_thing_14 : decode cX4_thing 14 = .ok (.getfield 19, 3) := by decide +kernel
theorem dX4_thing_17 : decode cX4_thing 17 = .ok (.iload_n 1, 1) := by decide +kernel
theorem dX4_thing_18 : decode cX4_thing 18 = .ok (.iaload, 1) := by decide +kernel
theorem dX4_thing_19 : decode cX4_thing 19 = .ok (.bipush 12, 2) := by decide +kernel
theorem dX4_thing_21 : decode cX4_thing 21 = .ok (.if_icmp .ne 7, 3) := by decide +kernel
theorem dX4_thing_24 : decode cX4_thing 24 = .ok (.sipush (-1004), 3) := by decide +kernel
theorem dX4_thing_27 : decode cX4_thing 27 = .ok (.ireturn, 1) := by decide +kernel
theorem dX4_thing_28 : decode cX4_thing 28 = .ok (.aload_n 0, 1) := by decide +kernel
theorem dX4_thing_29 : decode cX4_thing 29 = .ok (.getfield 22, 3) := by decide +kernel
theorem dX4_thing_32 : decode cX4_thing 32 = .ok (.iload_n 1, 1) := by decide +kernel
theorem dX4_thing_33 : decode cX4_thing 33 = .ok (.aload_n 0, 1) := by decide +kernel
theorem dX4_thing_34 : decode cX4_thing 34 = .ok (.getfield 19, 3) := by decide +kernel
theorem dX4_thing_37 : decode cX4_thing 37 = .ok (.iload_n 1, 1) := by decide +kernel
theorem dX4_thing_38 : decode cX4_thing 38 = .ok (.iaload, 1) := by decide +kernel
theorem dX4_thing_39 : decode cX4_thing 39 = .ok (.invokestatic 91, 3) := by decide +kernel
theorem dX4_thing_42 : decode cX4_thing 42 = .ok (.iconst 0, 1) := by decide +kernel
theorem dX4_thing_43 : decode cX4_thing 43 = .ok (.iastore, 1) := by decide +kernel
theorem dX4_thing_44 : decode cX4_thing 44 = .ok (.aload_n 0, 1) := by decide +kernel
theorem dX4_thing_45 : decode cX4_thing 45 = .ok (.getfield 19, 3) := by decide +kernel
theorem dX4_thing_48 : decode cX4_thing 48 = .ok (.iload_n 1, 1) := by decide +kernel
theorem dX4_thing_49 : decode cX4_thing 49 = .ok (.dup2, 1) := by decide +kernel
theorem dX4_thing_50 : decode cX4_thing 50 = .ok (.iaload, 1) := by decide +kernel
theorem dX4_thing_51 : decode cX4_thing 51 = .ok (.iconst 1, 1) := by decide +kernel
theorem dX4_thing_52 : decode cX4_thing 52 = .ok (.iadd, 1) := by decide +kernel
theorem dX4_thing_53 : decode cX4_thing 53 = .ok (.iastore, 1) := by decide +kernel
theorem dX4_thing_54 : decode cX4_thing 54 = .ok (.aload_n 0, 1) := by decide +kernel
theorem dX4_thing_55 : decode cX4_thing 55 = .ok (.iload_n 1, 1) := by decide +kernel
theorem dX4_thing_56 : decode cX4_thing 56 = .ok (.invokevirtual 140, 3) := by decide +kernel
theorem dX4_thing_59 : decode cX4_thing 59 = .ok (.aload_n 0, 1) := by decide +kernel
theorem dX4_thing_60 : decode cX4_thing 60 = .ok (.getfield 19, 3) := by decide +kernel
theorem dX4_thing_63 : decode cX4_thing 63 = .ok (.iload_n 1, 1) := by decide +kernel
theorem dX4_thing_64 : decode cX4_thing 64 = .ok (.iaload, 1) := by decide +kernel
theorem dX4_thing_65 : decode cX4_thing 65 = .ok (.iconst 1, 1) := by decide +kernel
theorem dX4_thing_66 : decode cX4_thing 66 = .ok (.isub, 1) := by decide +kernel
theorem dX4_thing_67 : decode cX4_thing 67 = .ok (.ireturn, 1) := by decide +kernel
set_option maxRecDepth 20000 in
theorem ggX4_isThing_X4_isOf : GoodIn wsX4_isThing wsX4_isOf := goodIn_r _ [6, 7, 8, 9, 10, 5, 11, 12, 13, 14, 15, 16, 17, 18, 19, 20, 21, 22, 23, 24, 25, 26, 27, 28, 29, 30, 31, 32, 33, 34, 35, 36] (by decide +kernel) (by decide +kernel)
set_option maxRecDepth 20000 in
theorem gX4_isThing_X4_isOf : GoodIn wsX4_isThing (wsV RX4 131 RX4 yX4_isOf wsX4_isOf) := goodIn_app (goodIn_of _ (by decide +kernel)) ggX4_isThing_X4_isOf
set_option maxRecDepth 20000 in
theorem ggX4_isThing_X4_in : GoodIn wsX4_isThing wsX4_in := goodIn_r _ [15] (by decide +kernel) (by decide +kernel)
set_option maxRecDepth 20000 in
theorem gX4_isThing_X4_in : GoodIn wsX4_isThing (va_wsS RX4 111 yX4_in wsX4_in) := goodIn_app (goodIn_of _ (by decide +kernel)) ggX4_isThing_X4_in
theorem dX4_isThing_0 : decode cX4_isThing 0 = .ok (.aload_n 0, 1) := by decide +kernel
theorem dX4_isThing_1 : decode cX4_isThing 1 = .ok (.iload_n 1, 1) := by decide +kernel
theorem dX4_isThing_2 : decode cX4_isThing 2 = .ok (.iconst 1, 1) := by decide +kernel
theorem dX4_isThing_3 : decode cX4_isThing 3 = .ok (.invokevirtual 131, 3) := by decide +kernel
theorem dX4_isThing_6 : decode cX4_isThing 6 = .ok (.ifCond .eq 25, 3) := by decide +kernel
theorem dX4_isThing_9 : decode cX4_isThing 9 = .ok (.iload_n 2, 1) := by decide +kernel
theorem dX4_isThing_10 : decode cX4_isThing 10 = .ok (.i2l, 1) := by decide +kernel
theorem dX4_isThing_11 : decode cX4_isThing 11 = .ok (.lconst 0, 1) := by decide +kernel
theorem dX4_isThing_12 : decode cX4_isThing 12 = .ok (.aload_n 0, 1) := by decide +kernel
theorem dX4_isThing_13 : decode cX4_isThing 13 = .ok (.getfield 19, 3) := by decide +kernel
theorem dX4_isThing_16 : decode cX4_isThing 16 = .ok (.iload_n 1, 1) := by decide +kernel
theorem dX4_isThing_17 : decode cX4_isThing 17 = .ok (.iaload, 1) := by decide +kernel
theorem dX4_isThing_18 : decode cX4_isThing 18 = .ok (.iconst 1, 1) := by decide +kernel
theorem dX4_isThing_19 : decode cX4_isThing 19 = .ok (.isub, 1) := by decide +kernel
theorem dX4_isThing_20 : decode cX4_isThing 20 = .ok (.i2l, 1) := by decide +kernel
theorem dX4_isThing_21 : decode cX4_isThing 21 = .ok (.invokestatic 111, 3) := by decide +kernel
theorem dX4_isThing_24 : decode cX4_isThing 24 = .ok (.ifCond .eq 7, 3) := by decide +kernel
theorem dX4_isThing_27 : decode cX4_isThing 27 = .ok (.iconst 1, 1) := by decide +kernel
theorem dX4_isThing_28 : decode cX4_isThing 28 = .ok (.goto 4, 3) := by decide +kernel
theorem dX4_isThing_31 : decode cX4_isThing 31 = .ok (.iconst 0, 1) := by decide +kernel
theorem dX4_isThing_32 : decode cX4_isThing 32 = .ok (.ireturn, 1) := by decide +kernel
set_option maxRecDepth 20000 in
theorem ggX4_lies_X4_placeOf : GoodIn wsX4_lies wsX4_placeOf := goodIn_r _ [5] (by decide +kernel) (by decide +kernel)
set_option maxRecDepth 20000 in
theorem gX4_lies_X4_placeOf : GoodIn wsX4_lies (va_wsS RX4 91 yX4_placeOf wsX4_placeOf) := goodIn_app (goodIn_of _ (by decide +kernel)) ggX4_lies_X4_placeOf
theorem dX4_lies_0 : decode cX4_lies 0 = .ok (.aload_n 0, 1) := by decide +kernel
theorem dX4_lies_1 : decode cX4_lies 1 = .ok (.getfield 22, 3) := by decide +kernel
theorem dX4_lies_4 : decode cX4_lies 4 = .ok (.iload_n 1, 1) := by decide +kernel
theorem dX4_lies_5 : decode cX4_lies 5 = .ok (.iload_n 2, 1) := by decide +kernel
theorem dX4_lies_6 : decode cX4_lies 6 = .ok (.invokestatic 91, 3) := by decide +kernel
theorem dX4_lies_9 : decode cX4_lies 9 = .ok (.iaload, 1) := by decide +kernel
theorem dX4_lies_10 : decode cX4_lies 10 = .ok (.iload_n 3, 1) := by decide +kernel
theorem dX4_lies_11 : decode cX4_lies 11 = .ok (.ishr, 1) := by decide +kernel
theorem dX4_lies_12 : decode cX4_lies 12 = .ok (.iconst 1, 1) := by decide +kernel
theorem dX4_lies_13 : decode cX4_lies 13 = .ok (.iand, 1) := by decide +kernel
theorem dX4_lies_14 : decode cX4_lies 14 = .ok (.iconst 1, 1) := by decide +kernel
theorem dX4_lies_15 : decode cX4_lies 15 = .ok (.if_icmp .ne 7, 3) := by decide +kernel
theorem dX4_lies_18 : decode cX4_lies 18 = .ok (.iconst 1, 1) := by decide +kernel
theorem dX4_lies_19 : decode cX4_lies 19 = .ok (.goto 4, 3) := by decide +kernel
theorem dX4_lies_22 : decode cX4_lies 22 = .ok (.iconst 0, 1) := by decide +kernel
theorem dX4_lies_23 : decode cX4_lies 23 = .ok (.ireturn, 1) := by decide +kernel
