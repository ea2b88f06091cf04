theorem dX0_init_0 : decode cX0_init 0 = .ok (.aload_n 0, 1) := by decide +kernel
theorem dX0_init_1 : decode cX0_init 1 = .ok (.invokespecial 3, 3) := by decide +kernel
theorem dX0_init_4 : decode cX0_init 4 = .ok (.aload_n 0, 1) := by decide +kernel
theorem dX0_init_5 : decode cX0_init 5 = .ok (.bipush 64, 2) := by decide +kernel
theorem dX0_init_7 : decode cX0_init 7 = .ok (.newarray .int, 2) := by decide +kernel
theorem dX0_init_9 : decode cX0_init 9 = .ok (.putfield 9, 3) := by decide +kernel
theorem dX0_init_12 : decode cX0_init 12 = .ok (.aload_n 0, 1) := by decide +kernel
theorem dX0_init_13 : decode cX0_init 13 = .ok (.bipush 7, 2) := by decide +kernel
theorem dX0_init_15 : decode cX0_init 15 = .ok (.newarray .int, 2) := by decide +kernel
theorem dX0_init_17 : decode cX0_init 17 = .ok (.putfield 15, 3) := by decide +kernel
theorem dX0_init_20 : decode cX0_init 20 = .ok (.aload_n 0, 1) := by decide +kernel
theorem dX0_init_21 : decode cX0_init 21 = .ok (.sipush 3432, 3) := by decide +kernel
theorem dX0_init_24 : decode cX0_init 24 = .ok (.newarray .int, 2) := by decide +kernel
theorem dX0_init_26 : decode cX0_init 26 = .ok (.putfield 18, 3) := by decide +kernel
theorem dX0_init_29 : decode cX0_init 29 = .ok (.aload_n 0, 1) := by decide +kernel
theorem dX0_init_30 : decode cX0_init 30 = .ok (.sipush 3432, 3) := by decide +kernel
theorem dX0_init_33 : decode cX0_init 33 = .ok (.newarray .int, 2) := by decide +kernel
theorem dX0_init_35 : decode cX0_init 35 = .ok (.putfield 21, 3) := by decide +kernel
theorem dX0_init_38 : decode cX0_init 38 = .ok (.aload_n 0, 1) := by decide +kernel
theorem dX0_init_39 : decode cX0_init 39 = .ok (.sipush 3432, 3) := by decide +kernel
theorem dX0_init_42 : decode cX0_init 42 = .ok (.newarray .int, 2) := by decide +kernel
theorem dX0_init_44 : decode cX0_init 44 = .ok (.putfield 24, 3) := by decide +kernel
theorem dX0_init_47 : decode cX0_init 47 = .ok (.aload_n 0, 1) := by decide +kernel
theorem dX0_init_48 : decode cX0_init 48 = .ok (.aload_n 1, 1) := by decide +kernel
theorem dX0_init_49 : decode cX0_init 49 = .ok (.putfield 27, 3) := by decide +kernel
theorem dX0_init_52 : decode cX0_init 52 = .ok (.iconst 1, 1) := by decide +kernel
theorem dX0_init_53 : decode cX0_init 53 = .ok (.istore_n 2, 1) := by decide +kernel
theorem dX0_init_54 : decode cX0_init 54 = .ok (.iload_n 2, 1) := by decide +kernel
theorem dX0_init_55 : decode cX0_init 55 = .ok (.bipush 7, 2) := by decide +kernel
theorem dX0_init_57 : decode cX0_init 57 = .ok (.if_icmp .gt 19, 3) := by decide +kernel
theorem dX0_init_60 : decode cX0_init 60 = .ok (.aload_n 0, 1) := by decide +kernel
theorem dX0_init_61 : decode cX0_init 61 = .ok (.getfield 9, 3) := by decide +kernel
theorem dX0_init_64 : decode cX0_init 64 = .ok (.bipush 56, 2) := by decide +kernel
theorem dX0_init_66 : decode cX0_init 66 = .ok (.iload_n 2, 1) := by decide +kernel
theorem dX0_init_67 : decode cX0_init 67 = .ok (.iadd, 1) := by decide +kernel
theorem dX0_init_68 : decode cX0_init 68 = .ok (.iconst 1, 1) := by decide +kernel
theorem dX0_init_69 : decode cX0_init 69 = .ok (.iastore, 1) := by decide +kernel
theorem dX0_init_70 : decode cX0_init 70 = .ok (.iinc 2 1, 3) := by decide +kernel
theorem dX0_init_73 : decode cX0_init 73 = .ok (.goto (-19), 3) := by decide +kernel
theorem dX0_init_76 : decode cX0_init 76 = .ok (.bipush 6, 2) := by decide +kernel
theorem dX0_init_78 : decode cX0_init 78 = .ok (.istore_n 2, 1) := by decide +kernel
theorem dX0_init_79 : decode cX0_init 79 = .ok (.iload_n 2, 1) := by decide +kernel
theorem dX0_init_80 : decode cX0_init 80 = .ok (.ifCond .lt 61, 3) := by decide +kernel
theorem dX0_init_83 : decode cX0_init 83 = .ok (.iconst 1, 1) := by decide +kernel
theorem dX0_init_84 : decode cX0_init 84 = .ok (.istore_n 3, 1) := by decide +kernel
theorem dX0_init_85 : decode cX0_init 85 = .ok (.iload_n 3, 1) := by decide +kernel
theorem dX0_init_86 : decode cX0_init 86 = .ok (.bipush 7, 2) := by decide +kernel
theorem dX0_init_88 : decode cX0_init 88 = .ok (.if_icmp .gt 47, 3) := by decide +kernel
theorem dX0_init_91 : decode cX0_init 91 = .ok (.aload_n 0, 1) := by decide +kernel
theorem dX0_init_92 : decode cX0_init 92 = .ok (.getfield 9, 3) := by decide +kernel
theorem dX0_init_95 : decode cX0_init 95 = .ok (.bipush 8, 2) := by decide +kernel
theorem dX0_init_97 : decode cX0_init 97 = .ok (.iload_n 2, 1) := by decide +kernel
theorem dX0_init_98 : decode cX0_init 98 = .ok (.imul, 1) := by decide +kernel
theorem dX0_init_99 : decode cX0_init 99 = .ok (.iload_n 3, 1) := by decide +kernel
theorem dX0_init_100 : decode cX0_init 100 = .ok (.iadd, 1) := by decide +kernel
theorem dX0_init_101 : decode cX0_init 101 = .ok (.aload_n 0, 1) := by decide +kernel
theorem dX0_init_102 : decode cX0_init 102 = .ok (.getfield 9, 3) := by decide +kernel
theorem dX0_init_105 : decode cX0_init 105 = .ok (.bipush 8, 2) := by decide +kernel
theorem dX0_init_107 : decode cX0_init 107 = .ok (.iload_n 2, 1) := by decide +kernel
theorem dX0_init_108 : decode cX0_init 108 = .ok (.imul, 1) := by decide +kernel
theorem dX0_init_109 : decode cX0_init 109 = .ok (.iload_n 3, 1) := by decide +kernel
theorem dX0_init_110 : decode cX0_init 110 = .ok (.iadd, 1) := by decide +kernel
theorem dX0_init_111 : decode cX0_init 111 = .ok (.iconst 1, 1) := by decide +kernel
theorem dX0_init_112 : decode cX0_init 112 = .ok (.isub, 1) := by decide +kernel
theorem dX0_init_113 : decode cX0_init 113 = .ok (.iaload, 1) := by decide +kernel
theorem dX0_init_114 : decode cX0_init 114 = .ok (.aload_n 0, 1) := by decide +kernel
theorem dX0_init_115 : decode cX0_init 115 = .ok (.getfield 9, 3) := by decide +kernel
theorem dX0_init_118 : decode cX0_init 118 = .ok (.bipush 8, 2) := by decide +kernel
theorem dX0_init_120 : decode cX0_init 120 = .ok (.iload_n 2, 1) := by decide +kernel
theorem dX0_init_121 : decode cX0_init 121 = .ok (.iconst 1, 1) := by decide +kernel
theorem dX0_init_122 : decode cX0_init 122 = .ok (.iadd, 1) := by decide +kernel
theorem dX0_init_123 : decode cX0_init 123 = .ok (.imul, 1) := by decide +kernel
theorem dX0_init_124 : decode cX0_init 124 = .ok (.iload_n 3, 1) := by decide +kernel
theorem dX0_init_125 : decode cX0_init 125 = .ok (.iadd, 1) := by decide +kernel
theorem dX0_init_126 : decode cX0_init 126 = .ok (.iaload, 1) := by decide +kernel
theorem dX0_init_127 : decode cX0_init 127 = .ok (.iadd, 1) := by decide +kernel
theorem dX0_init_128 : decode cX0_init 128 = .ok (.iastore, 1) := by decide +kernel
theorem dX0_init_129 : decode cX0_init 129 = .ok (.iinc 3 1, 3) := by decide +kernel
theorem dX0_init_132 : decode cX0_init 132 = .ok (.goto (-47), 3) := by decide +kernel
theorem dX0_init_135 : decode cX0_init 135 = .ok (.iinc 2 (-1), 3) := by decide +kernel
theorem dX0_init_138 : decode cX0_init 138 = .ok (.goto (-59), 3) := by decide +kernel
theorem dX0_init_141 : decode cX0_init 141 = .ok (.return_, 1) := by decide +kernel
set_option maxRecDepth 20000 in
theorem ggX0_rankOfBlock_X0_rankOfLines : GoodIn wsX0_rankOfBlock wsX0_rankOfLines := goodIn_r _ [6, 1, 7, 8, 9, 10, 11, 12, 13, 14, 15, 16, 17] (by decide +kernel) (by decide +kernel)
set_option maxRecDepth 20000 in
theorem gX0_rankOfBlock_X0_rankOfLines : GoodIn wsX0_rankOfBlock (wsV RX0 31 RX0 yX0_rankOfLines wsX0_rankOfLines) := goodIn_app (goodIn_of _ (by decide +kernel)) ggX0_rankOfBlock_X0_rankOfLines
theorem dX0_rankOfBlock_0 : decode cX0_rankOfBlock 0 = .ok (.iconst 0, 1) := by decide +kernel
theorem dX0_rankOfBlock_1 : decode cX0_rankOfBlock 1 = .ok (.istore_n 3, 1) := by decide +kernel
theorem dX0_rankOfBlock_2 : decode cX0_rankOfBlock 2 = .ok (.iload_n 3, 1) := by decide +kernel
theorem dX0_rankOfBlock_3 : decode cX0_rankOfBlock 3 = .ok (.aload_n 0, 1) := by decide +kernel
theorem dX0_rankOfBlock_4 : decode cX0_rankOfBlock 4 = .ok (.getfield 15, 3) := by decide +kernel
theorem dX0_rankOfBlock_7 : decode cX0_rankOfBlock 7 = .ok (.arraylength, 1) := by decide +kernel
theorem dX0_rankOfBlock_8 : decode cX0_rankOfBlock 8 = .ok (.if_icmp .ge 25, 3) := by decide +kernel
theorem dX0_rankOfBlock_11 : decode cX0_rankOfBlock 11 = .ok (.aload_n 0, 1) := by decide +kernel
theorem dX0_rankOfBlock_12 : decode cX0_rankOfBlock 12 = .ok (.getfield 15, 3) := by decide +kernel
theorem dX0_rankOfBlock_15 : decode cX0_rankOfBlock 15 = .ok (.iload_n 3, 1) := by decide +kernel
theorem dX0_rankOfBlock_16 : decode cX0_rankOfBlock 16 = .ok (.iload_n 3, 1) := by decide +kernel
theorem dX0_rankOfBlock_17 : decode cX0_rankOfBlock 17 = .ok (.iload_n 1, 1) := by decide +kernel
theorem dX0_rankOfBlock_18 : decode cX0_rankOfBlock 18 = .ok (.if_icmp .ge 7, 3) := by decide +kernel
theorem dX0_rankOfBlock_21 : decode cX0_rankOfBlock 21 = .ok (.iload_n 2, 1) := by decide +kernel
theorem dX0_rankOfBlock_22 : decode cX0_rankOfBlock 22 = .ok (.goto 4, 3) := by decide +kernel
theorem dX0_rankOfBlock_25 : decode cX0_rankOfBlock 25 = .ok (.iconst 0, 1) := by decide +kernel
theorem dX0_rankOfBlock_26 : decode cX0_rankOfBlock 26 = .ok (.iastore, 1) := by decide +kernel
theorem dX0_rankOfBlock_27 : decode cX0_rankOfBlock 27 = .ok (.iinc 3 1, 3) := by decide +kernel
theorem dX0_rankOfBlock_30 : decode cX0_rankOfBlock 30 = .ok (.goto (-28), 3) := by decide +kernel
theorem dX0_rankOfBlock_33 : decode cX0_rankOfBlock 33 = .ok (.aload_n 0, 1) := by decide +kernel
theorem dX0_rankOfBlock_34 : decode cX0_rankOfBlock 34 = .ok (.invokevirtual 31, 3) := by decide +kernel
theorem dX0_rankOfBlock_37 : decode cX0_rankOfBlock 37 = .ok (.ireturn, 1) := by decide +kernel
set_option maxRecDepth 20000 in
theorem ggX0_rankWithRow_X0_lookAt : GoodIn wsX0_rankWithRow wsX0_lookAt := goodIn_r _ [10, 1, 11, 12, 13, 14, 19, 20, 21, 22, 23, 24, 25] (by decide +kernel) (by decide +kernel)
set_option maxRecDepth 20000 in
theorem gX0_rankWithRow_X0_lookAt : GoodIn wsX0_rankWithRow (wsV RX0 35 RX0 yX0_lookAt wsX0_lookAt) := goodIn_app (goodIn_of _ (by decide +kernel)) ggX0_rankWithRow_X0_lookAt
set_option maxRecDepth 20000 in
theorem ggX0_rankWithRow_X0_rankOfLines : GoodIn wsX0_rankWithRow wsX0_rankOfLines := goodIn_r _ [18, 1, 11, 12, 13, 14, 19, 20, 21, 22, 23, 24, 25] (by decide +kernel) (by decide +kernel)
set_option maxRecDepth 20000 in
theorem gX0_rankWithRow_X0_rankOfLines : GoodIn wsX0_rankWithRow (wsV RX0 31 RX0 yX0_rankOfLines wsX0_rankOfLines) := goodIn_app (goodIn_of _ (by decide +kernel)) ggX0_rankWithRow_X0_rankOfLines
theorem dX0_rankWithRow_0 : decode cX0_rankWithRow 0 = .ok (.aload_n 0, 1) := by decide +kernel
theorem dX0_rankWithRow_1 : decode cX0_rankWithRow 1 = .ok (.iload_n 1, 1) := by decide +kernel
theorem dX0_rankWithRow_2 : decode cX0_rankWithRow 2 = .ok (.invokevirtual 35, 3) := by decide +kernel
theorem dX0_rankWithRow_5 : decode cX0_rankWithRow 5 = .ok (.iconst 0, 1) := by decide +kernel
theorem dX0_rankWithRow_6 : decode cX0_rankWithRow 6 = .ok (.istore 4, 2) := by decide +kernel
theorem dX0_rankWithRow_8 : decode cX0_rankWithRow 8 = .ok (.iload 4, 2) := by decide +kernel
theorem dX0_rankWithRow_10 : decode cX0_rankWithRow 10 = .ok (.aload_n 0, 1) := by decide +kernel
theorem dX0_rankWithRow_11 : decode cX0_rankWithRow 11 = .ok (.getfield 15, 3) := by decide +kernel
theorem dX0_rankWithRow_14 : decode cX0_rankWithRow 14 = .ok (.arraylength, 1) := by decide +kernel
theorem dX0_rankWithRow_15 : decode cX0_rankWithRow 15 = .ok (.if_icmp .ge 50, 3) := by decide +kernel
theorem dX0_rankWithRow_18 : decode cX0_rankWithRow 18 = .ok (.iload 4, 2) := by decide +kernel
theorem dX0_rankWithRow_20 : decode cX0_rankWithRow 20 = .ok (.iload_n 2, 1) := by decide +kernel
theorem dX0_rankWithRow_21 : decode cX0_rankWithRow 21 = .ok (.if_icmp .ne 14, 3) := by decide +kernel
theorem dX0_rankWithRow_24 : decode cX0_rankWithRow 24 = .ok (.aload_n 0, 1) := by decide +kernel
theorem dX0_rankWithRow_25 : decode cX0_rankWithRow 25 = .ok (.getfield 15, 3) := by decide +kernel
theorem dX0_rankWithRow_28 : decode cX0_rankWithRow 28 = .ok (.iload 4, 2) := by decide +kernel
theorem dX0_rankWithRow_30 : decode cX0_rankWithRow 30 = .ok (.iload_n 3, 1) := by decide +kernel
theorem dX0_rankWithRow_31 : decode cX0_rankWithRow 31 = .ok (.iastore, 1) := by decide +kernel
theorem dX0_rankWithRow_32 : decode cX0_rankWithRow 32 = .ok (.goto 27, 3) := by decide +kernel
theorem dX0_rankWithRow_35 : decode cX0_rankWithRow 35 = .ok (.iload 4, 2) := by decide +kernel
theorem dX0_rankWithRow_37 : decode cX0_rankWithRow 37 = .ok (.iload_n 2, 1) := by decide +kernel
theorem dX0_rankWithRow_38 : decode cX0_rankWithRow 38 = .ok (.if_icmp .le 21, 3) := by decide +kernel
theorem dX0_rankWithRow_41 : decode cX0_rankWithRow 41 = .ok (.aload_n 0, 1) := by decide +kernel
theorem dX0_rankWithRow_42 : decode cX0_rankWithRow 42 = .ok (.getfield 15, 3) := by decide +kernel
theorem dX0_rankWithRow_45 : decode cX0_rankWithRow 45 = .ok (.iload 4, 2) := by decide +kernel
theorem dX0_rankWithRow_47 : decode cX0_rankWithRow 47 = .ok (.aload_n 0, 1) := by decide +kernel
theorem dX0_rankWithRow_48 : decode cX0_rankWithRow 48 = .ok (.getfield 15, 3) := by decide +kernel
theorem dX0_rankWithRow_51 : decode cX0_rankWithRow 51 = .ok (.iload 4, 2) := by decide +kernel
theorem dX0_rankWithRow_53 : decode cX0_rankWithRow 53 = .ok (.iaload, 1) := by decide +kernel
theorem dX0_rankWithRow_54 : decode cX0_rankWithRow 54 = .ok (.iload_n 3, 1) := by decide +kernel
theorem dX0_rankWithRow_55 : decode cX0_rankWithRow 55 = .ok (.invokestatic 39, 3) := by decide +kernel
theorem dX0_rankWithRow_58 : decode cX0_rankWithRow 58 = .ok (.iastore, 1) := by decide +kernel
theorem dX0_rankWithRow_59 : decode cX0_rankWithRow 59 = .ok (.iinc 4 1, 3) := by decide +kernel
theorem dX0_rankWithRow_62 : decode cX0_rankWithRow 62 = .ok (.goto (-54), 3) := by decide +kernel
theorem dX0_rankWithRow_65 : decode cX0_rankWithRow 65 = .ok (.aload_n 0, 1) := by decide +kernel
theorem dX0_rankWithRow_66 : decode cX0_rankWithRow 66 = .ok (.invokevirtual 31, 3) := by decide +kernel
theorem dX0_rankWithRow_69 : decode cX0_rankWithRow 69 = .ok (.ireturn, 1) := by decide +kernel
set_option maxRecDepth 20000 in
theorem ggX0_rankAfter_X0_rowOfBite : GoodIn wsX0_rankAfter wsX0_rowOfBite := goodIn_r _ [10, 1, 11, 12, 13, 9, 14, 15, 16, 17, 18, 27, 28, 29, 30, 31, 32, 33] (by decide +kernel) (by decide +kernel)
set_option maxRecDepth 20000 in
theorem gX0_rankAfter_X0_rowOfBite : GoodIn wsX0_rankAfter (wsV RX0 45 RX0 yX0_rowOfBite wsX0_rowOfBite) := goodIn_app (goodIn_of _ (by decide +kernel)) ggX0_rankAfter_X0_rowOfBite
set_option maxRecDepth 20000 in
theorem ggX0_rankAfter_X0_columnOfBite : GoodIn wsX0_rankAfter wsX0_columnOfBite := goodIn_r _ [22, 1, 11, 12, 13, 9, 14, 15, 16, 17, 18, 27, 28, 29, 30, 31, 32, 33] (by decide +kernel) (by decide +kernel)
set_option maxRecDepth 20000 in
theorem gX0_rankAfter_X0_columnOfBite : GoodIn wsX0_rankAfter (wsV RX0 48 RX0 yX0_columnOfBite wsX0_columnOfBite) := goodIn_app (goodIn_of _ (by decide +kernel)) ggX0_rankAfter_X0_columnOfBite
set_option maxRecDepth 20000 in
theorem ggX0_rankAfter_X0_rankOfLines : GoodIn wsX0_rankAfter wsX0_rankOfLines := goodIn_r _ [26, 1, 15, 16, 17, 18, 27, 28, 29, 30, 31, 32, 33] (by decide +kernel) (by decide +kernel)
set_option maxRecDepth 20000 in
theorem gX0_rankAfter_X0_rankOfLines : GoodIn wsX0_rankAfter (wsV RX0 31 RX0 yX0_rankOfLines wsX0_rankOfLines) := goodIn_app (goodIn_of _ (by decide +kernel)) ggX0_rankAfter_X0_rankOfLines
theorem dX0_rankAfter_0 : decode cX0_rankAfter 0 = .ok (.aload_n 0, 1) := by decide +kernel
theorem dX0_rankAfter_1 : decode cX0_rankAfter 1 = .ok (.iload_n 1, 1) := by decide +kernel
theorem dX0_rankAfter_2 : decode cX0_rankAfter 2 = .ok (.iload_n 2, 1) := by decide +kernel
theorem dX0_rankAfter_3 : decode cX0_rankAfter 3 = .ok (.invokevirtual 45, 3) := by decide +kernel
theorem dX0_rankAfter_6 : decode cX0_rankAfter 6 = .ok (.istore_n 3, 1) := by decide +kernel
theorem dX0_rankAfter_7 : decode cX0_rankAfter 7 = .ok (.aload_n 0, 1) := by decide +kernel
theorem dX0_rankAfter_8 : decode cX0_rankAfter 8 = .ok (.iload_n 1, 1) := by decide +kernel
theorem dX0_rankAfter_9 : decode cX0_rankAfter 9 = .ok (.iload_n 2, 1) := by decide +kernel
theorem dX0_rankAfter_10 : decode cX0_rankAfter 10 = .ok (.invokevirtual 48, 3) := by decide +kernel
theorem dX0_rankAfter_13 : decode cX0_rankAfter 13 = .ok (.istore 4, 2) := by decide +kernel
theorem dX0_rankAfter_15 : decode cX0_rankAfter 15 = .ok (.iconst 0, 1) := by decide +kernel
theorem dX0_rankAfter_16 : decode cX0_rankAfter 16 = .ok (.istore 5, 2) := by decide +kernel
theorem dX0_rankAfter_18 : decode cX0_rankAfter 18 = .ok (.iload 5, 2) := by decide +kernel
theorem dX0_rankAfter_20 : decode cX0_rankAfter 20 = .ok (.aload_n 0, 1) := by decide +kernel
theorem dX0_rankAfter_21 : decode cX0_rankAfter 21 = .ok (.getfield 15, 3) := by decide +kernel
theorem dX0_rankAfter_24 : decode cX0_rankAfter 24 = .ok (.arraylength, 1) := by decide +kernel
theorem dX0_rankAfter_25 : decode cX0_rankAfter 25 = .ok (.if_icmp .ge 34, 3) := by decide +kernel
theorem dX0_rankAfter_28 : decode cX0_rankAfter 28 = .ok (.iload 5, 2) := by decide +kernel
theorem dX0_rankAfter_30 : decode cX0_rankAfter 30 = .ok (.iload_n 3, 1) := by decide +kernel
theorem dX0_rankAfter_31 : decode cX0_rankAfter 31 = .ok (.if_icmp .lt 22, 3) := by decide +kernel
theorem dX0_rankAfter_34 : decode cX0_rankAfter 34 = .ok (.aload_n 0, 1) := by decide +kernel
theorem dX0_rankAfter_35 : decode cX0_rankAfter 35 = .ok (.getfield 15, 3) := by decide +kernel
theorem dX0_rankAfter_38 : decode cX0_rankAfter 38 = .ok (.iload 5, 2) := by decide +kernel
theorem dX0_rankAfter_40 : decode cX0_rankAfter 40 = .ok (.aload_n 0, 1) := by decide +kernel
theorem dX0_rankAfter_41 : decode cX0_rankAfter 41 = .ok (.getfield 15, 3) := by decide +kernel
theorem dX0_rankAfter_44 : decode cX0_rankAfter 44 = .ok (.iload 5, 2) := by decide +kernel
theorem dX0_rankAfter_46 : decode cX0_rankAfter 46 = .ok (.iaload, 1) := by decide +kernel
theorem dX0_rankAfter_47 : decode cX0_rankAfter 47 = .ok (.iload 4, 2) := by decide +kernel
theorem dX0_rankAfter_49 : decode cX0_rankAfter 49 = .ok (.invokestatic 39, 3) := by decide +kernel
theorem dX0_rankAfter_52 : decode cX0_rankAfter 52 = .ok (.iastore, 1) := by decide +kernel
theorem dX0_rankAfter_53 : decode cX0_rankAfter 53 = .ok (.iinc 5 1, 3) := by decide +kernel
theorem dX0_rankAfter_56 : decode cX0_rankAfter 56 = .ok (.goto (-38), 3) := by decide +kernel
theorem dX0_rankAfter_59 : decode cX0_rankAfter 59 = .ok (.aload_n 0, 1) := by decide +kernel
theorem dX0_rankAfter_60 : decode cX0_rankAfter 60 = .ok (.invokevirtual 31, 3) := by decide +kernel
theorem dX0_rankAfter_63 : decode cX0_rankAfter 63 = .ok (.ireturn, 1) := by decide +kernel
set_option maxRecDepth 20000 in
theorem ggX0_rowOf_X0_lookAt : GoodIn wsX0_rowOf wsX0_lookAt := goodIn_r _ [6, 1, 7, 8, 9, 10, 11, 12, 13, 14, 15, 16, 17] (by decide +kernel) (by decide +kernel)
set_option maxRecDepth 20000 in
theorem gX0_rowOf_X0_lookAt : GoodIn wsX0_rowOf (wsV RX0 35 RX0 yX0_lookAt wsX0_lookAt) := goodIn_app (goodIn_of _ (by decide +kernel)) ggX0_rowOf_X0_lookAt
set_option maxRecDepth 20000 in
theorem ggX0_rowOf_X3_at : GoodIn wsX0_rowOf wsX3_at := goodIn_r _ [10] (by decide +kernel) (by decide +kernel)
set_option maxRecDepth 20000 in
theorem gX0_rowOf_X3_at_n51 : GoodIn wsX0_rowOf (wsX3_at) := ggX0_rowOf_X3_at
theorem dX0_rowOf_0 : decode cX0_rowOf 0 = .ok (.aload_n 0, 1) := by decide +kernel
theorem dX0_rowOf_1 : decode cX0_rowOf 1 = .ok (.iload_n 1, 1) := by decide +kernel
theorem dX0_rowOf_2 : decode cX0_rowOf 2 = .ok (.invokevirtual 35, 3) := by decide +kernel
theorem dX0_rowOf_5 : decode cX0_rowOf 5 = .ok (.aload_n 0, 1) := by decide +kernel
theorem dX0_rowOf_6 : decode cX0_rowOf 6 = .ok (.getfield 15, 3) := by decide +kernel
theorem dX0_rowOf_9 : decode cX0_rowOf 9 = .ok (.iload_n 2, 1) := by decide +kernel
theorem dX0_rowOf_10 : decode cX0_rowOf 10 = .ok (.invokestatic 51, 3) := by decide +kernel
theorem dX0_rowOf_13 : decode cX0_rowOf 13 = .ok (.ireturn, 1) := by decide +kernel
set_option maxRecDepth 20000 in
theorem ggX0_countSquares_X0_lookAt : GoodIn wsX0_countSquares wsX0_lookAt := goodIn_r _ [6, 1, 7, 8, 9, 10, 11, 12, 13, 14, 15, 16, 17] (by decide +kernel) (by decide +kernel)
set_option maxRecDepth 20000 in
theorem gX0_countSquares_X0_lookAt : GoodIn wsX0_countSquares (wsV RX0 35 RX0 yX0_lookAt wsX0_lookAt) := goodIn_app (goodIn_of _ (by decide +kernel)) ggX0_countSquares_X0_lookAt
theorem dX0_countSquares_0 : decode cX0_countSquares 0 = .ok (.aload_n 0, 1) := by decide +kernel
theorem dX0_countSquares_1 : decode cX0_countSquares 1 = .ok (.iload_n 1, 1) := by decide +kernel
theorem dX0_countSquares_2 : decode cX0_countSquares 2 = .ok (.invokevirtual 35, 3) := by decide +kernel
theorem dX0_countSquares_5 : decode cX0_countSquares 5 = .ok (.iconst 0, 1) := by decide +kernel
theorem dX0_countSquares_6 : decode cX0_countSquares 6 = .ok (.istore_n 2, 1) := by decide +kernel
theorem dX0_countSquares_7 : decode cX0_countSquares 7 = .ok (.aload_n 0, 1) := by decide +kernel
theorem dX0_countSquares_8 : decode cX0_countSquares 8 = .ok (.getfield 15, 3) := by decide +kernel
theorem dX0_countSquares_11 : decode cX0_countSquares 11 = .ok (.astore_n 3, 1) := by decide +kernel
theorem dX0_countSquares_12 : decode cX0_countSquares 12 = .ok (.aload_n 3, 1) := by decide +kernel
theorem dX0_countSquares_13 : decode cX0_countSquares 13 = .ok (.arraylength, 1) := by decide +kernel
theorem dX0_countSquares_14 : decode cX0_countSquares 14 = .ok (.istore 4, 2) := by decide +kernel
theorem dX0_countSquares_16 : decode cX0_countSquares 16 = .ok (.iconst 0, 1) := by decide +kernel
theorem dX0_countSquares_17 : decode cX0_countSquares 17 = .ok (.istore 5, 2) := by decide +kernel
theorem dX0_countSquares_19 : decode cX0_countSquares 19 = .ok (.iload 5, 2) := by decide +kernel
theorem dX0_countSquares_21 : decode cX0_countSquares 21 = .ok (.iload 4, 2) := by decide +kernel
theorem dX0_countSquares_23 : decode cX0_countSquares 23 = .ok (.if_icmp .ge 20, 3) := by decide +kernel
theorem dX0_countSquares_26 : decode cX0_countSquares 26 = .ok (.aload_n 3, 1) := by decide +kernel
theorem dX0_countSquares_27 : decode cX0_countSquares 27 = .ok (.iload 5, 2) := by decide +kernel
theorem dX0_countSquares_29 : decode cX0_countSquares 29 = .ok (.iaload, 1) := by decide +kernel
theorem dX0_countSquares_30 : decode cX0_countSquares 30 = .ok (.istore 6, 2) := by decide +kernel
theorem dX0_countSquares_32 : decode cX0_countSquares 32 = .ok (.iload_n 2, 1) := by decide +kernel
theorem dX0_countSquares_33 : decode cX0_countSquares 33 = .ok (.iload 6, 2) := by decide +kernel
theorem dX0_countSquares_35 : decode cX0_countSquares 35 = .ok (.iadd, 1) := by decide +kernel
theorem dX0_countSquares_36 : decode cX0_countSquares 36 = .ok (.istore_n 2, 1) := by decide +kernel
theorem dX0_countSquares_37 : decode cX0_countSquares 37 = .ok (.iinc 5 1, 3) := by decide +kernel
theorem dX0_countSquares_40 : decode cX0_countSquares 40 = .ok (.goto (-21), 3) := by decide +kernel
theorem dX0_countSquares_43 : decode cX0_countSquares 43 = .ok (.iload_n 2, 1) := by decide +kernel
theorem dX0_countSquares_44 : decode cX0_countSquares 44 = .ok (.ireturn, 1) := by decide +kernel
set_option maxRecDepth 20000 in
theorem ggX0_rowOfBite_X0_lookAt : GoodIn wsX0_rowOfBite wsX0_lookAt := goodIn_r _ [6, 1, 7, 8, 9, 10, 11, 12, 13, 14, 15, 16, 17] (by decide +kernel) (by decide +kernel)
set_option maxRecDepth 20000 in
theorem gX0_rowOfBite_X0_lookAt : GoodIn wsX0_rowOfBite (wsV RX0 35 RX0 yX0_lookAt wsX0_lookAt) := goodIn_app (goodIn_of _ (by decide +kernel)) ggX0_rowOfBite_X0_lookAt
theorem dX0_rowOfBite_0 : decode cX0_rowOfBite 0 = .ok (.aload_n 0, 1) := by decide +kernel
theorem dX0_rowOfBite_1 : decode cX0_rowOfBite 1 = .ok (.iload_n 1, 1) := by decide +kernel
theorem dX0_rowOfBite_2 : decode cX0_rowOfBite 2 = .ok (.invokevirtual 35, 3) := by decide +kernel
theorem dX0_rowOfBite_5 : decode cX0_rowOfBite 5 = .ok (.iload_n 2, 1) := by decide +kernel
theorem dX0_rowOfBite_6 : decode cX0_rowOfBite 6 = .ok (.istore_n 3, 1) := by decide +kernel
theorem dX0_rowOfBite_7 : decode cX0_rowOfBite 7 = .ok (.iconst 0, 1) := by decide +kernel
theorem dX0_rowOfBite_8 : decode cX0_rowOfBite 8 = .ok (.istore 4, 2) := by decide +kernel
theorem dX0_rowOfBite_10 : decode cX0_rowOfBite 10 = .ok (.iload 4, 2) := by decide +kernel
theorem dX0_rowOfBite_12 : decode cX0_rowOfBite 12 = .ok (.aload_n 0, 1) := by decide +kernel
theorem dX0_rowOfBite_13 : decode cX0_rowOfBite 13 = .ok (.getfield 15, 3) := by decide +kernel
theorem dX0_rowOfBite_16 : decode cX0_rowOfBite 16 = .ok (.arraylength, 1) := by decide +kernel
theorem dX0_rowOfBite_17 : decode cX0_rowOfBite 17 = .ok (.if_icmp .ge 30, 3) := by decide +kernel
theorem dX0_rowOfBite_20 : decode cX0_rowOfBite 20 = .ok (.iload_n 3, 1) := by decide +kernel
theorem dX0_rowOfBite_21 : decode cX0_rowOfBite 21 = .ok (.aload_n 0, 1) := by decide +kernel
theorem dX0_rowOfBite_22 : decode cX0_rowOfBite 22 = .ok (.getfield 15, 3) := by decide +kernel
theorem dX0_rowOfBite_25 : decode cX0_rowOfBite 25 = .ok (.iload 4, 2) := by decide +kernel
theorem dX0_rowOfBite_27 : decode cX0_rowOfBite 27 = .ok (.iaload, 1) := by decide +kernel
theorem dX0_rowOfBite_28 : decode cX0_rowOfBite 28 = .ok (.if_icmp .lt 19, 3) := by decide +kernel
theorem dX0_rowOfBite_31 : decode cX0_rowOfBite 31 = .ok (.iload_n 3, 1) := by decide +kernel
theorem dX0_rowOfBite_32 : decode cX0_rowOfBite 32 = .ok (.aload_n 0, 1) := by decide +kernel
theorem dX0_rowOfBite_33 : decode cX0_rowOfBite 33 = .ok (.getfield 15, 3) := by decide +kernel
theorem dX0_rowOfBite_36 : decode cX0_rowOfBite 36 = .ok (.iload 4, 2) := by decide +kernel
theorem dX0_rowOfBite_38 : decode cX0_rowOfBite 38 = .ok (.iaload, 1) := by decide +kernel
theorem dX0_rowOfBite_39 : decode cX0_rowOfBite 39 = .ok (.isub, 1) := by decide +kernel
theorem dX0_rowOfBite_40 : decode cX0_rowOfBite 40 = .ok (.istore_n 3, 1) := by decide +kernel
theorem dX0_rowOfBite_41 : decode cX0_rowOfBite 41 = .ok (.iinc 4 1, 3) := by decide +kernel
theorem dX0_rowOfBite_44 : decode cX0_rowOfBite 44 = .ok (.goto (-34), 3) := by decide +kernel
theorem dX0_rowOfBite_47 : decode cX0_rowOfBite 47 = .ok (.iload 4, 2) := by decide +kernel
theorem dX0_rowOfBite_49 : decode cX0_rowOfBite 49 = .ok (.ireturn, 1) := by decide +kernel
set_option maxRecDepth 20000 in
theorem ggX0_columnOfBite_X0_lookAt : GoodIn wsX0_columnOfBite wsX0_lookAt := goodIn_r _ [6, 1, 7, 8, 9, 10, 11, 12, 13, 14, 15, 16, 17] (by decide +kernel) (by decide +kernel)
set_option maxRecDepth 20000 in
theorem gX0_columnOfBite_X0_lookAt : GoodIn wsX0_columnOfBite (wsV RX0 35 RX0 yX0_lookAt wsX0_lookAt) := goodIn_app (goodIn_of _ (by decide +kernel)) ggX0_columnOfBite_X0_lookAt
theorem dX0_columnOfBite_0 : decode cX0_columnOfBite 0 = .ok (.aload_n 0, 1) := by decide +kernel
theorem dX0_columnOfBite_1 : decode cX0_columnOfBite 1 = .ok (.iload_n 1, 1) := by decide +kernel
theorem dX0_columnOfBite_2 : decode cX0_columnOfBite 2 = .ok (.invokevirtual 35, 3) := by decide +kernel
theorem dX0_columnOfBite_5 : decode cX0_columnOfBite 5 = .ok (.iload_n 2, 1) := by decide +kernel
theorem dX0_columnOfBite_6 : decode cX0_columnOfBite 6 = .ok (.istore_n 3, 1) := by decide +kernel
theorem dX0_columnOfBite_7 : decode cX0_columnOfBite 7 = .ok (.iconst 0, 1) := by decide +kernel
theorem dX0_columnOfBite_8 : decode cX0_columnOfBite 8 = .ok (.istore 4, 2) := by decide +kernel
theorem dX0_columnOfBite_10 : decode cX0_columnOfBite 10 = .ok (.iload 4, 2) := by decide +kernel
theorem dX0_columnOfBite_12 : decode cX0_columnOfBite 12 = .ok (.aload_n 0, 1) := by decide +kernel
theorem dX0_columnOfBite_13 : decode cX0_columnOfBite 13 = .ok (.getfield 15, 3) := by decide +kernel
theorem dX0_columnOfBite_16 : decode cX0_columnOfBite 16 = .ok (.arraylength, 1) := by decide +kernel
theorem dX0_columnOfBite_17 : decode cX0_columnOfBite 17 = .ok (.if_icmp .ge 30, 3) := by decide +kernel
theorem dX0_columnOfBite_20 : decode cX0_columnOfBite 20 = .ok (.iload_n 3, 1) := by decide +kernel
theorem dX0_columnOfBite_21 : decode cX0_columnOfBite 21 = .ok (.aload_n 0, 1) := by decide +kernel
theorem dX0_columnOfBite_22 : decode cX0_columnOfBite 22 = .ok (.getfield 15, 3) := by decide +kernel
theorem dX0_columnOfBite_25 : decode cX0_columnOfBite 25 = .ok (.iload 4, 2) := by decide +kernel
theorem dX0_columnOfBite_27 : decode cX0_columnOfBite 27 = .ok (.iaload, 1) := by decide +kernel
theorem dX0_columnOfBite_28 : decode cX0_columnOfBite 28 = .ok (.if_icmp .lt 19, 3) := by decide +kernel
theorem dX0_columnOfBite_31 : decode cX0_columnOfBite 31 = .ok (.iload_n 3, 1) := by decide +kernel
theorem dX0_columnOfBite_32 : decode cX0_columnOfBite 32 = .ok (.aload_n 0, 1) := by decide +kernel
theorem dX0_columnOfBite_33 : decode cX0_columnOfBite 33 = .ok (.getfield 15, 3) := by decide +kernel
theorem dX0_columnOfBite_36 : decode cX0_columnOfBite 36 = .ok (.iload 4, 2) := by decide +kernel
theorem dX0_columnOfBite_38 : decode cX0_columnOfBite 38 = .ok (.iaload, 1) := by decide +kernel
theorem dX0_columnOfBite_39 : decode cX0_columnOfBite 39 = .ok (.isub, 1) := by decide +kernel
theorem dX0_columnOfBite_40 : decode cX0_columnOfBite 40 = .ok (.istore_n 3, 1) := by decide +kernel
theorem dX0_columnOfBite_41 : decode cX0_columnOfBite 41 = .ok (.iinc 4 1, 3) := by decide +kernel
theorem dX0_columnOfBite_44 : decode cX0_columnOfBite 44 = .ok (.goto (-34), 3) := by decide +kernel
theorem dX0_columnOfBite_47 : decode cX0_columnOfBite 47 = .ok (.iload_n 3, 1) := by decide +kernel
theorem dX0_columnOfBite_48 : decode cX0_columnOfBite 48 = .ok (.ireturn, 1) := by decide +kernel
set_option maxRecDepth 20000 in
theorem ggX0_countWithin_X0_solve : GoodIn wsX0_countWithin wsX0_solve := goodIn_r _ [6, 7, 8, 9, 10, 1, 11, 12, 13, 5, 14, 15, 16, 17, 18, 19, 20, 21, 22, 23, 24, 25, 26, 27, 28, 29, 30, 31, 32, 33, 34, 35, 36, 37, 38, 39, 40, 41, 42, 43, 44, 45, 46, 47, 48, 49, 50, 51, 52, 53, 54, 55, 56, 57, 58, 59, 60, 65, 66, 67, 68, 69, 70, 71, 72, 73, 74] (by decide +kernel) (by decide +kernel)
set_option maxRecDepth 20000 in
theorem gX0_countWithin_X0_solve : GoodIn wsX0_countWithin (wsV RX0 55 RX0 yX0_solve wsX0_solve) := goodIn_app (goodIn_of _ (by decide +kernel)) ggX0_countWithin_X0_solve
set_option maxRecDepth 20000 in
theorem ggX0_countWithin_X3_at : GoodIn wsX0_countWithin wsX3_at := goodIn_r _ [18] (by decide +kernel) (by decide +kernel)
set_option maxRecDepth 20000 in
theorem gX0_countWithin_X3_at_n51 : GoodIn wsX0_countWithin (wsX3_at) := ggX0_countWithin_X3_at
set_option maxRecDepth 20000 in
theorem ggX0_countWithin_X3_lengthIn : GoodIn wsX0_countWithin wsX3_lengthIn := goodIn_r _ [50] (by decide +kernel) (by decide +kernel)
set_option maxRecDepth 20000 in
theorem gX0_countWithin_X3_lengthIn_n58 : GoodIn wsX0_countWithin (wsX3_lengthIn) := ggX0_countWithin_X3_lengthIn
set_option maxRecDepth 20000 in
theorem ggX0_countWithin_X3_isWon : GoodIn wsX0_countWithin wsX3_isWon := goodIn_r _ [52] (by decide +kernel) (by decide +kernel)
set_option maxRecDepth 20000 in
theorem gX0_countWithin_X3_isWon_n61 : GoodIn wsX0_countWithin (wsX3_isWon) := ggX0_countWithin_X3_isWon
set_option maxRecDepth 20000 in
theorem ggX0_countWithin_X0_isInside : GoodIn wsX0_countWithin wsX0_isInside := goodIn_r _ [64, 8, 10, 16, 17, 18, 65, 66, 67, 68, 69, 70, 71] (by decide +kernel) (by decide +kernel)
set_option maxRecDepth 20000 in
theorem gX0_countWithin_X0_isInside : GoodIn wsX0_countWithin (wsV RX0 65 RX0 yX0_isInside wsX0_isInside) := goodIn_app (goodIn_of _ (by decide +kernel)) ggX0_countWithin_X0_isInside
theorem dX0_countWithin_0 : decode cX0_countWithin 0 = .ok (.aload_n 0, 1) := by decide +kernel
theorem dX0_countWithin_1 : decode cX0_countWithin 1 = .ok (.invokevirtual 55, 3) := by decide +kernel
theorem dX0_countWithin_4 : decode cX0_countWithin 4 = .ok (.iconst 0, 1) := by decide +kernel
theorem dX0_countWithin_5 : decode cX0_countWithin 5 = .ok (.istore 4, 2) := by decide +kernel
theorem dX0_countWithin_7 : decode cX0_countWithin 7 = .ok (.iconst 0, 1) := by decide +kernel
theorem dX0_countWithin_8 : decode cX0_countWithin 8 = .ok (.istore 5, 2) := by decide +kernel
theorem dX0_countWithin_10 : decode cX0_countWithin 10 = .ok (.iload 5, 2) := by decide +kernel
theorem dX0_countWithin_12 : decode cX0_countWithin 12 = .ok (.sipush 3432, 3) := by decide +kernel
theorem dX0_countWithin_15 : decode cX0_countWithin 15 = .ok (.if_icmp .ge 59, 3) := by decide +kernel
theorem dX0_countWithin_18 : decode cX0_countWithin 18 = .ok (.aload_n 0, 1) := by decide +kernel
theorem dX0_countWithin_19 : decode cX0_countWithin 19 = .ok (.getfield 18, 3) := by decide +kernel
theorem dX0_countWithin_22 : decode cX0_countWithin 22 = .ok (.iload 5, 2) := by decide +kernel
theorem dX0_countWithin_24 : decode cX0_countWithin 24 = .ok (.invokestatic 51, 3) := by decide +kernel
theorem dX0_countWithin_27 : decode cX0_countWithin 27 = .ok (.iconst 0, 1) := by decide +kernel
theorem dX0_countWithin_28 : decode cX0_countWithin 28 = .ok (.invokestatic 58, 3) := by decide +kernel
theorem dX0_countWithin_31 : decode cX0_countWithin 31 = .ok (.iconst 0, 1) := by decide +kernel
theorem dX0_countWithin_32 : decode cX0_countWithin 32 = .ok (.invokestatic 61, 3) := by decide +kernel
theorem dX0_countWithin_35 : decode cX0_countWithin 35 = .ok (.ifCond .ne 7, 3) := by decide +kernel
theorem dX0_countWithin_38 : decode cX0_countWithin 38 = .ok (.iconst 1, 1) := by decide +kernel
theorem dX0_countWithin_39 : decode cX0_countWithin 39 = .ok (.goto 4, 3) := by decide +kernel
theorem dX0_countWithin_42 : decode cX0_countWithin 42 = .ok (.iconst 0, 1) := by decide +kernel
theorem dX0_countWithin_43 : decode cX0_countWithin 43 = .ok (.istore 6, 2) := by decide +kernel
theorem dX0_countWithin_45 : decode cX0_countWithin 45 = .ok (.aload_n 0, 1) := by decide +kernel
theorem dX0_countWithin_46 : decode cX0_countWithin 46 = .ok (.iload 5, 2) := by decide +kernel
theorem dX0_countWithin_48 : decode cX0_countWithin 48 = .ok (.iload_n 1, 1) := by decide +kernel
theorem dX0_countWithin_49 : decode cX0_countWithin 49 = .ok (.iload_n 2, 1) := by decide +kernel
theorem dX0_countWithin_50 : decode cX0_countWithin 50 = .ok (.invokevirtual 65, 3) := by decide +kernel
theorem dX0_countWithin_53 : decode cX0_countWithin 53 = .ok (.ifCond .eq 15, 3) := by decide +kernel
theorem dX0_countWithin_56 : decode cX0_countWithin 56 = .ok (.iload 6, 2) := by decide +kernel
theorem dX0_countWithin_58 : decode cX0_countWithin 58 = .ok (.ifCond .ne 7, 3) := by decide +kernel
theorem dX0_countWithin_61 : decode cX0_countWithin 61 = .ok (.iload_n 3, 1) := by decide +kernel
theorem dX0_countWithin_62 : decode cX0_countWithin 62 = .ok (.ifCond .ne 6, 3) := by decide +kernel
theorem dX0_countWithin_65 : decode cX0_countWithin 65 = .ok (.iinc 4 1, 3) := by decide +kernel
theorem dX0_countWithin_68 : decode cX0_countWithin 68 = .ok (.iinc 5 1, 3) := by decide +kernel
theorem dX0_countWithin_71 : decode cX0_countWithin 71 = .ok (.goto (-61), 3) := by decide +kernel
theorem dX0_countWithin_74 : decode cX0_countWithin 74 = .ok (.iload 4, 2) := by decide +kernel
theorem dX0_countWithin_76 : decode cX0_countWithin 76 = .ok (.ireturn, 1) := by decide +kernel
set_option maxRecDepth 20000 in
theorem ggX0_greatestWorth_X0_solve : GoodIn wsX0_greatestWorth wsX0_solve := goodIn_r _ [10, 11, 12, 13, 14, 1, 15, 16, 17, 9, 18, 19, 20, 21, 22, 23, 24, 25, 26, 27, 28, 29, 30, 31, 32, 33, 34, 35, 36, 37, 38, 39, 40, 41, 42, 43, 44, 3, 4, 5, 45, 46, 47, 48, 49, 50, 51, 52, 53, 54, 55, 56, 57, 58, 59, 60, 61, 66, 67, 68, 69, 70, 71, 72, 73, 74, 75] (by decide +kernel) (by decide +kernel)
set_option maxRecDepth 20000 in
theorem gX0_greatestWorth_X0_solve : GoodIn wsX0_greatestWorth (wsV RX0 55 RX0 yX0_solve wsX0_solve) := goodIn_app (goodIn_of _ (by decide +kernel)) ggX0_greatestWorth_X0_solve
set_option maxRecDepth 20000 in
theorem ggX0_greatestWorth_X0_isInside : GoodIn wsX0_greatestWorth wsX0_isInside := goodIn_r _ [65, 12, 14, 20, 21, 22, 66, 67, 68, 69, 70, 71, 72] (by decide +kernel) (by decide +kernel)
set_option maxRecDepth 20000 in
theorem gX0_greatestWorth_X0_isInside : GoodIn wsX0_greatestWorth (wsV RX0 65 RX0 yX0_isInside wsX0_isInside) := goodIn_app (goodIn_of _ (by decide +kernel)) ggX0_greatestWorth_X0_isInside
set_option maxRecDepth 20000 in
theorem ggX0_greatestWorth_X3_at : GoodIn wsX0_greatestWorth wsX3_at := goodIn_r _ [22] (by decide +kernel) (by decide +kernel)
set_option maxRecDepth 20000 in
theorem gX0_greatestWorth_X3_at_n51 : GoodIn wsX0_greatestWorth (wsX3_at) := ggX0_greatestWorth_X3_at
set_option maxRecDepth 20000 in
theorem ggX0_greatestWorth_X3_worthIn : GoodIn wsX0_greatestWorth wsX3_worthIn := goodIn_r _ [49] (by decide +kernel) (by decide +kernel)
set_option maxRecDepth 20000 in
theorem gX0_greatestWorth_X3_worthIn_n69 : GoodIn wsX0_greatestWorth (wsX3_worthIn) := ggX0_greatestWorth_X3_worthIn
theorem dX0_greatestWorth_0 : decode cX0_greatestWorth 0 = .ok (.aload_n 0, 1) := by decide +kernel
theorem dX0_greatestWorth_1 : decode cX0_greatestWorth 1 = .ok (.invokevirtual 55, 3) := by decide +kernel
theorem dX0_greatestWorth_4 : decode cX0_greatestWorth 4 = .ok (.iconst 0, 1) := by decide +kernel
theorem dX0_greatestWorth_5 : decode cX0_greatestWorth 5 = .ok (.istore_n 3, 1) := by decide +kernel
theorem dX0_greatestWorth_6 : decode cX0_greatestWorth 6 = .ok (.iconst 0, 1) := by decide +kernel
theorem dX0_greatestWorth_7 : decode cX0_greatestWorth 7 = .ok (.istore 4, 2) := by decide +kernel
theorem dX0_greatestWorth_9 : decode cX0_greatestWorth 9 = .ok (.iload 4, 2) := by decide +kernel
theorem dX0_greatestWorth_11 : decode cX0_greatestWorth 11 = .ok (.sipush 3432, 3) := by decide +kernel
theorem dX0_greatestWorth_14 : decode cX0_greatestWorth 14 = .ok (.if_icmp .ge 37, 3) := by decide +kernel
theorem dX0_greatestWorth_17 : decode cX0_greatestWorth 17 = .ok (.aload_n 0, 1) := by decide +kernel
theorem dX0_greatestWorth_18 : decode cX0_greatestWorth 18 = .ok (.iload 4, 2) := by decide +kernel
theorem dX0_greatestWorth_20 : decode cX0_greatestWorth 20 = .ok (.iload_n 1, 1) := by decide +kernel
theorem dX0_greatestWorth_21 : decode cX0_greatestWorth 21 = .ok (.iload_n 2, 1) := by decide +kernel
theorem dX0_greatestWorth_22 : decode cX0_greatestWorth 22 = .ok (.invokevirtual 65, 3) := by decide +kernel
theorem dX0_greatestWorth_25 : decode cX0_greatestWorth 25 = .ok (.ifCond .eq 20, 3) := by decide +kernel
theorem dX0_greatestWorth_28 : decode cX0_greatestWorth 28 = .ok (.iload_n 3, 1) := by decide +kernel
theorem dX0_greatestWorth_29 : decode cX0_greatestWorth 29 = .ok (.aload_n 0, 1) := by decide +kernel
theorem dX0_greatestWorth_30 : decode cX0_greatestWorth 30 = .ok (.getfield 18, 3) := by decide +kernel
theorem dX0_greatestWorth_33 : decode cX0_greatestWorth 33 = .ok (.iload 4, 2) := by decide +kernel
theorem dX0_greatestWorth_35 : decode cX0_greatestWorth 35 = .ok (.invokestatic 51, 3) := by decide +kernel
theorem dX0_greatestWorth_38 : decode cX0_greatestWorth 38 = .ok (.invokestatic 69, 3) := by decide +kernel
theorem dX0_greatestWorth_41 : decode cX0_greatestWorth 41 = .ok (.invokestatic 73, 3) := by decide +kernel
theorem dX0_greatestWorth_44 : decode cX0_greatestWorth 44 = .ok (.istore_n 3, 1) := by decide +kernel
theorem dX0_greatestWorth_45 : decode cX0_greatestWorth 45 = .ok (.iinc 4 1, 3) := by decide +kernel
theorem dX0_greatestWorth_48 : decode cX0_greatestWorth 48 = .ok (.goto (-39), 3) := by decide +kernel
theorem dX0_greatestWorth_51 : decode cX0_greatestWorth 51 = .ok (.iload_n 3, 1) := by decide +kernel
theorem dX0_greatestWorth_52 : decode cX0_greatestWorth 52 = .ok (.ireturn, 1) := by decide +kernel
set_option maxRecDepth 20000 in
theorem ggX0_isInside_X3_at : GoodIn wsX0_isInside wsX3_at := goodIn_r _ [5] (by decide +kernel) (by decide +kernel)
set_option maxRecDepth 20000 in
theorem gX0_isInside_X3_at_n51 : GoodIn wsX0_isInside (wsX3_at) := ggX0_isInside_X3_at
theorem dX0_isInside_0 : decode cX0_isInside 0 = .ok (.aload_n 0, 1) := by decide +kernel
theorem dX0_isInside_1 : decode cX0_isInside 1 = .ok (.getfield 21, 3) := by decide +kernel
theorem dX0_isInside_4 : decode cX0_isInside 4 = .ok (.iload_n 1, 1) := by decide +kernel
theorem dX0_isInside_5 : decode cX0_isInside 5 = .ok (.invokestatic 51, 3) := by decide +kernel
theorem dX0_isInside_8 : decode cX0_isInside 8 = .ok (.iload_n 3, 1) := by decide +kernel
theorem dX0_isInside_9 : decode cX0_isInside 9 = .ok (.if_icmp .gt 19, 3) := by decide +kernel
theorem dX0_isInside_12 : decode cX0_isInside 12 = .ok (.aload_n 0, 1) := by decide +kernel
theorem dX0_isInside_13 : decode cX0_isInside 13 = .ok (.getfield 24, 3) := by decide +kernel
theorem dX0_isInside_16 : decode cX0_isInside 16 = .ok (.iload_n 1, 1) := by decide +kernel
theorem dX0_isInside_17 : decode cX0_isInside 17 = .ok (.invokestatic 51, 3) := by decide +kernel
theorem dX0_isInside_20 : decode cX0_isInside 20 = .ok (.iload_n 2, 1) := by decide +kernel
theorem dX0_isInside_21 : decode cX0_isInside 21 = .ok (.if_icmp .gt 7, 3) := by decide +kernel
theorem dX0_isInside_24 : decode cX0_isInside 24 = .ok (.iconst 1, 1) := by decide +kernel
theorem dX0_isInside_25 : decode cX0_isInside 25 = .ok (.goto 4, 3) := by decide +kernel
theorem dX0_isInside_28 : decode cX0_isInside 28 = .ok (.iconst 0, 1) := by decide +kernel
theorem dX0_isInside_29 : decode cX0_isInside 29 = .ok (.ireturn, 1) := by decide +kernel
set_option maxRecDepth 20000 in
theorem ggX0_solve_X0_lookAt : GoodIn wsX0_solve wsX0_lookAt := goodIn_r _ [10, 3, 11, 12, 13, 14, 57, 58, 59, 60, 61, 62, 63] (by decide +kernel) (by decide +kernel)
set_option maxRecDepth 20000 in
theorem gX0_solve_X0_lookAt : GoodIn wsX0_solve (wsV RX0 35 RX0 yX0_lookAt wsX0_lookAt) := goodIn_app (goodIn_of _ (by decide +kernel)) ggX0_solve_X0_lookAt
set_option maxRecDepth 20000 in
theorem ggX0_solve_X3_at : GoodIn wsX0_solve wsX3_at := goodIn_r _ [14] (by decide +kernel) (by decide +kernel)
set_option maxRecDepth 20000 in
theorem gX0_solve_X3_at_n51 : GoodIn wsX0_solve (wsX3_at) := ggX0_solve_X3_at
set_option maxRecDepth 20000 in
theorem ggX0_solve_X0_countFilled : GoodIn wsX0_solve wsX0_countFilled := goodIn_r _ [18, 3, 57, 58, 59, 60, 61, 62, 63] (by decide +kernel) (by decide +kernel)
set_option maxRecDepth 20000 in
theorem gX0_solve_X0_countFilled : GoodIn wsX0_solve (wsV RX0 80 RX0 yX0_countFilled wsX0_countFilled) := goodIn_app (goodIn_of _ (by decide +kernel)) ggX0_solve_X0_countFilled
set_option maxRecDepth 20000 in
theorem ggX0_solve_X0_factsOfLines : GoodIn wsX0_solve wsX0_factsOfLines := goodIn_r _ [22, 23, 3, 11, 5, 24, 25, 26, 27, 28, 29, 30, 31, 12, 13, 14, 32, 33, 34, 35, 36, 37, 38, 39, 40, 41, 42, 43, 44, 45, 46, 47, 48, 49, 50, 51, 52, 53, 54, 55, 56, 57, 58, 59, 60, 61, 62, 63, 64, 65, 66] (by decide +kernel) (by decide +kernel)
set_option maxRecDepth 20000 in
theorem gX0_solve_X0_factsOfLines : GoodIn wsX0_solve (wsV RX0 83 RX0 yX0_factsOfLines wsX0_factsOfLines) := goodIn_app (goodIn_of _ (by decide +kernel)) ggX0_solve_X0_factsOfLines
theorem dX0_solve_0 : decode cX0_solve 0 = .ok (.aload_n 0, 1) := by decide +kernel
theorem dX0_solve_1 : decode cX0_solve 1 = .ok (.getfield 76, 3) := by decide +kernel
theorem dX0_solve_4 : decode cX0_solve 4 = .ok (.ifCond .eq 4, 3) := by decide +kernel
theorem dX0_solve_7 : decode cX0_solve 7 = .ok (.return_, 1) := by decide +kernel
theorem dX0_solve_8 : decode cX0_solve 8 = .ok (.iconst 0, 1) := by decide +kernel
theorem dX0_solve_9 : decode cX0_solve 9 = .ok (.istore_n 1, 1) := by decide +kernel
theorem dX0_solve_10 : decode cX0_solve 10 = .ok (.iload_n 1, 1) := by decide +kernel
theorem dX0_solve_11 : decode cX0_solve 11 = .ok (.sipush 3432, 3) := by decide +kernel
theorem dX0_solve_14 : decode cX0_solve 14 = .ok (.if_icmp .ge 49, 3) := by decide +kernel
theorem dX0_solve_17 : decode cX0_solve 17 = .ok (.aload_n 0, 1) := by decide +kernel
theorem dX0_solve_18 : decode cX0_solve 18 = .ok (.iload_n 1, 1) := by decide +kernel
theorem dX0_solve_19 : decode cX0_solve 19 = .ok (.invokevirtual 35, 3) := by decide +kernel
theorem dX0_solve_22 : decode cX0_solve 22 = .ok (.aload_n 0, 1) := by decide +kernel
theorem dX0_solve_23 : decode cX0_solve 23 = .ok (.getfield 21, 3) := by decide +kernel
theorem dX0_solve_26 : decode cX0_solve 26 = .ok (.iload_n 1, 1) := by decide +kernel
theorem dX0_solve_27 : decode cX0_solve 27 = .ok (.aload_n 0, 1) := by decide +kernel
theorem dX0_solve_28 : decode cX0_solve 28 = .ok (.getfield 15, 3) := by decide +kernel
theorem dX0_solve_31 : decode cX0_solve 31 = .ok (.iconst 0, 1) := by decide +kernel
theorem dX0_solve_32 : decode cX0_solve 32 = .ok (.invokestatic 51, 3) := by decide +kernel
theorem dX0_solve_35 : decode cX0_solve 35 = .ok (.iastore, 1) := by decide +kernel
theorem dX0_solve_36 : decode cX0_solve 36 = .ok (.aload_n 0, 1) := by decide +kernel
theorem dX0_solve_37 : decode cX0_solve 37 = .ok (.getfield 24, 3) := by decide +kernel
theorem dX0_solve_40 : decode cX0_solve 40 = .ok (.iload_n 1, 1) := by decide +kernel
theorem dX0_solve_41 : decode cX0_solve 41 = .ok (.aload_n 0, 1) := by decide +kernel
theorem dX0_solve_42 : decode cX0_solve 42 = .ok (.invokevirtual 80, 3) := by decide +kernel
theorem dX0_solve_45 : decode cX0_solve 45 = .ok (.iastore, 1) := by decide +kernel
theorem dX0_solve_46 : decode cX0_solve 46 = .ok (.aload_n 0, 1) := by decide +kernel
theorem dX0_solve_47 : decode cX0_solve 47 = .ok (.getfield 18, 3) := by decide +kernel
theorem dX0_solve_50 : decode cX0_solve 50 = .ok (.iload_n 1, 1) := by decide +kernel
theorem dX0_solve_51 : decode cX0_solve 51 = .ok (.aload_n 0, 1) := by decide +kernel
theorem dX0_solve_52 : decode cX0_solve 52 = .ok (.iload_n 1, 1) := by decide +kernel
theorem dX0_solve_53 : decode cX0_solve 53 = .ok (.invokevirtual 83, 3) := by decide +kernel
theorem dX0_solve_56 : decode cX0_solve 56 = .ok (.iastore, 1) := by decide +kernel
theorem dX0_solve_57 : decode cX0_solve 57 = .ok (.iinc 1 1, 3) := by decide +kernel
theorem dX0_solve_60 : decode cX0_solve 60 = .ok (.goto (-50), 3) := by decide +kernel
theorem dX0_solve_63 : decode cX0_solve 63 = .ok (.aload_n 0, 1) := by decide +kernel
theorem dX0_solve_64 : decode cX0_solve 64 = .ok (.iconst 1, 1) := by decide +kernel
theorem dX0_solve_65 : decode cX0_solve 65 = .ok (.putfield 76, 3) := by decide +kernel
theorem dX0_solve_68 : decode cX0_solve 68 = .ok (.return_, 1) := by decide +kernel
set_option maxRecDepth 20000 in
theorem ggX0_factsOfLines_X2_begin : GoodIn wsX0_factsOfLines wsX2_begin := goodIn_r _ [9, 10, 11, 12, 48, 49, 50] (by decide +kernel) (by decide +kernel)
set_option maxRecDepth 20000 in
theorem gX0_factsOfLines_X2_begin : GoodIn wsX0_factsOfLines (wsV RX0 86 RX2 yX2_begin wsX2_begin) := goodIn_app (goodIn_of _ (by decide +kernel)) ggX0_factsOfLines_X2_begin
set_option maxRecDepth 20000 in
theorem ggX0_factsOfLines_X3_at : GoodIn wsX0_factsOfLines wsX3_at := goodIn_r _ [15] (by decide +kernel) (by decide +kernel)
set_option maxRecDepth 20000 in
theorem gX0_factsOfLines_X3_at_n51 : GoodIn wsX0_factsOfLines (wsX3_at) := ggX0_factsOfLines_X3_at
set_option maxRecDepth 20000 in
theorem ggX0_factsOfLines_X2_take : GoodIn wsX0_factsOfLines wsX2_take := goodIn_r _ [19, 10, 12, 20, 21, 22, 23, 11, 24, 25, 26, 27, 14, 28, 29, 30, 31, 32, 48, 49, 50] (by decide +kernel) (by decide +kernel)
set_option maxRecDepth 20000 in
theorem gX0_factsOfLines_X2_take : GoodIn wsX0_factsOfLines (wsV RX0 91 RX2 yX2_take wsX2_take) := goodIn_app (goodIn_of _ (by decide +kernel)) ggX0_factsOfLines_X2_take
set_option maxRecDepth 20000 in
theorem ggX0_factsOfLines_X2_facts : GoodIn wsX0_factsOfLines wsX2_facts := goodIn_r _ [36, 11, 12, 37, 38, 39, 8, 40, 10, 48, 49, 50] (by decide +kernel) (by decide +kernel)
set_option maxRecDepth 20000 in
theorem gX0_factsOfLines_X2_facts : GoodIn wsX0_factsOfLines (wsV RX0 94 RX2 yX2_facts wsX2_facts) := goodIn_app (goodIn_of _ (by decide +kernel)) ggX0_factsOfLines_X2_facts
theorem dX0_factsOfLines_0 : decode cX0_factsOfLines 0 = .ok (.aload_n 0, 1) := by decide +kernel
theorem dX0_factsOfLines_1 : decode cX0_factsOfLines 1 = .ok (.getfield 27, 3) := by decide +kernel
theorem dX0_factsOfLines_4 : decode cX0_factsOfLines 4 = .ok (.invokevirtual 86, 3) := by decide +kernel
theorem dX0_factsOfLines_7 : decode cX0_factsOfLines 7 = .ok (.iconst 0, 1) := by decide +kernel
theorem dX0_factsOfLines_8 : decode cX0_factsOfLines 8 = .ok (.istore_n 2, 1) := by decide +kernel
theorem dX0_factsOfLines_9 : decode cX0_factsOfLines 9 = .ok (.iload_n 2, 1) := by decide +kernel
theorem dX0_factsOfLines_10 : decode cX0_factsOfLines 10 = .ok (.bipush 7, 2) := by decide +kernel
theorem dX0_factsOfLines_12 : decode cX0_factsOfLines 12 = .ok (.if_icmp .ge 95, 3) := by decide +kernel
theorem dX0_factsOfLines_15 : decode cX0_factsOfLines 15 = .ok (.iload_n 1, 1) := by decide +kernel
theorem dX0_factsOfLines_16 : decode cX0_factsOfLines 16 = .ok (.istore_n 3, 1) := by decide +kernel
theorem dX0_factsOfLines_17 : decode cX0_factsOfLines 17 = .ok (.aload_n 0, 1) := by decide +kernel
theorem dX0_factsOfLines_18 : decode cX0_factsOfLines 18 = .ok (.getfield 15, 3) := by decide +kernel
theorem dX0_factsOfLines_21 : decode cX0_factsOfLines 21 = .ok (.arraylength, 1) := by decide +kernel
theorem dX0_factsOfLines_22 : decode cX0_factsOfLines 22 = .ok (.iconst 1, 1) := by decide +kernel
theorem dX0_factsOfLines_23 : decode cX0_factsOfLines 23 = .ok (.isub, 1) := by decide +kernel
theorem dX0_factsOfLines_24 : decode cX0_factsOfLines 24 = .ok (.istore 4, 2) := by decide +kernel
theorem dX0_factsOfLines_26 : decode cX0_factsOfLines 26 = .ok (.iload 4, 2) := by decide +kernel
theorem dX0_factsOfLines_28 : decode cX0_factsOfLines 28 = .ok (.ifCond .lt 73, 3) := by decide +kernel
theorem dX0_factsOfLines_31 : decode cX0_factsOfLines 31 = .ok (.aload_n 0, 1) := by decide +kernel
theorem dX0_factsOfLines_32 : decode cX0_factsOfLines 32 = .ok (.getfield 15, 3) := by decide +kernel
theorem dX0_factsOfLines_35 : decode cX0_factsOfLines 35 = .ok (.iload 4, 2) := by decide +kernel
theorem dX0_factsOfLines_37 : decode cX0_factsOfLines 37 = .ok (.iaload, 1) := by decide +kernel
theorem dX0_factsOfLines_38 : decode cX0_factsOfLines 38 = .ok (.iload_n 2, 1) := by decide +kernel
theorem dX0_factsOfLines_39 : decode cX0_factsOfLines 39 = .ok (.if_icmp .le 56, 3) := by decide +kernel
theorem dX0_factsOfLines_42 : decode cX0_factsOfLines 42 = .ok (.iload_n 3, 1) := by decide +kernel
theorem dX0_factsOfLines_43 : decode cX0_factsOfLines 43 = .ok (.aload_n 0, 1) := by decide +kernel
theorem dX0_factsOfLines_44 : decode cX0_factsOfLines 44 = .ok (.getfield 9, 3) := by decide +kernel
theorem dX0_factsOfLines_47 : decode cX0_factsOfLines 47 = .ok (.bipush 8, 2) := by decide +kernel
theorem dX0_factsOfLines_49 : decode cX0_factsOfLines 49 = .ok (.iload 4, 2) := by decide +kernel
theorem dX0_factsOfLines_51 : decode cX0_factsOfLines 51 = .ok (.imul, 1) := by decide +kernel
theorem dX0_factsOfLines_52 : decode cX0_factsOfLines 52 = .ok (.iload_n 2, 1) := by decide +kernel
theorem dX0_factsOfLines_53 : decode cX0_factsOfLines 53 = .ok (.iadd, 1) := by decide +kernel
theorem dX0_factsOfLines_54 : decode cX0_factsOfLines 54 = .ok (.invokestatic 51, 3) := by decide +kernel
theorem dX0_factsOfLines_57 : decode cX0_factsOfLines 57 = .ok (.aload_n 0, 1) := by decide +kernel
theorem dX0_factsOfLines_58 : decode cX0_factsOfLines 58 = .ok (.getfield 9, 3) := by decide +kernel
theorem dX0_factsOfLines_61 : decode cX0_factsOfLines 61 = .ok (.bipush 8, 2) := by decide +kernel
theorem dX0_factsOfLines_63 : decode cX0_factsOfLines 63 = .ok (.iload 4, 2) := by decide +kernel
theorem dX0_factsOfLines_65 : decode cX0_factsOfLines 65 = .ok (.imul, 1) := by decide +kernel
theorem dX0_factsOfLines_66 : decode cX0_factsOfLines 66 = .ok (.aload_n 0, 1) := by decide +kernel
theorem dX0_factsOfLines_67 : decode cX0_factsOfLines 67 = .ok (.getfield 15, 3) := by decide +kernel
theorem dX0_factsOfLines_70 : decode cX0_factsOfLines 70 = .ok (.iload 4, 2) := by decide +kernel
theorem dX0_factsOfLines_72 : decode cX0_factsOfLines 72 = .ok (.iaload, 1) := by decide +kernel
theorem dX0_factsOfLines_73 : decode cX0_factsOfLines 73 = .ok (.iadd, 1) := by decide +kernel
theorem dX0_factsOfLines_74 : decode cX0_factsOfLines 74 = .ok (.invokestatic 51, 3) := by decide +kernel
theorem dX0_factsOfLines_77 : decode cX0_factsOfLines 77 = .ok (.isub, 1) := by decide +kernel
theorem dX0_factsOfLines_78 : decode cX0_factsOfLines 78 = .ok (.iadd, 1) := by decide +kernel
theorem dX0_factsOfLines_79 : decode cX0_factsOfLines 79 = .ok (.istore_n 3, 1) := by decide +kernel
theorem dX0_factsOfLines_80 : decode cX0_factsOfLines 80 = .ok (.aload_n 0, 1) := by decide +kernel
theorem dX0_factsOfLines_81 : decode cX0_factsOfLines 81 = .ok (.getfield 27, 3) := by decide +kernel
theorem dX0_factsOfLines_84 : decode cX0_factsOfLines 84 = .ok (.aload_n 0, 1) := by decide +kernel
theorem dX0_factsOfLines_85 : decode cX0_factsOfLines 85 = .ok (.getfield 18, 3) := by decide +kernel
theorem dX0_factsOfLines_88 : decode cX0_factsOfLines 88 = .ok (.iload_n 3, 1) := by decide +kernel
theorem dX0_factsOfLines_89 : decode cX0_factsOfLines 89 = .ok (.invokestatic 51, 3) := by decide +kernel
theorem dX0_factsOfLines_92 : decode cX0_factsOfLines 92 = .ok (.invokevirtual 91, 3) := by decide +kernel
theorem dX0_factsOfLines_95 : decode cX0_factsOfLines 95 = .ok (.iinc 4 (-1), 3) := by decide +kernel
theorem dX0_factsOfLines_98 : decode cX0_factsOfLines 98 = .ok (.goto (-72), 3) := by decide +kernel
theorem dX0_factsOfLines_101 : decode cX0_factsOfLines 101 = .ok (.iinc 2 1, 3) := by decide +kernel
theorem dX0_factsOfLines_104 : decode cX0_factsOfLines 104 = .ok (.goto (-95), 3) := by decide +kernel
theorem dX0_factsOfLines_107 : decode cX0_factsOfLines 107 = .ok (.aload_n 0, 1) := by decide +kernel
theorem dX0_factsOfLines_108 : decode cX0_factsOfLines 108 = .ok (.getfield 27, 3) := by decide +kernel
theorem dX0_factsOfLines_111 : decode cX0_factsOfLines 111 = .ok (.invokevirtual 94, 3) := by decide +kernel
theorem dX0_factsOfLines_114 : decode cX0_factsOfLines 114 = .ok (.ireturn, 1) := by decide +kernel
theorem dX0_countFilled_0 : decode cX0_countFilled 0 = .ok (.iconst 0, 1) := by decide +kernel
theorem dX0_countFilled_1 : decode cX0_countFilled 1 = .ok (.istore_n 1, 1) := by decide +kernel
theorem dX0_countFilled_2 : decode cX0_countFilled 2 = .ok (.aload_n 0, 1) := by decide +kernel
theorem dX0_countFilled_3 : decode cX0_countFilled 3 = .ok (.getfield 15, 3) := by decide +kernel
theorem dX0_countFilled_6 : decode cX0_countFilled 6 = .ok (.astore_n 2, 1) := by decide +kernel
theorem dX0_countFilled_7 : decode cX0_countFilled 7 = .ok (.aload_n 2, 1) := by decide +kernel
theorem dX0_countFilled_8 : decode cX0_countFilled 8 = .ok (.arraylength, 1) := by decide +kernel
theorem dX0_countFilled_9 : decode cX0_countFilled 9 = .ok (.istore_n 3, 1) := by decide +kernel
theorem dX0_countFilled_10 : decode cX0_countFilled 10 = .ok (.iconst 0, 1) := by decide +kernel
theorem dX0_countFilled_11 : decode cX0_countFilled 11 = .ok (.istore 4, 2) := by decide +kernel
theorem dX0_countFilled_13 : decode cX0_countFilled 13 = .ok (.iload 4, 2) := by decide +kernel
theorem dX0_countFilled_15 : decode cX0_countFilled 15 = .ok (.iload_n 3, 1) := by decide +kernel
theorem dX0_countFilled_16 : decode cX0_countFilled 16 = .ok (.if_icmp .ge 23, 3) := by decide +kernel
theorem dX0_countFilled_19 : decode cX0_countFilled 19 = .ok (.aload_n 2, 1) := by decide +kernel
theorem dX0_countFilled_20 : decode cX0_countFilled 20 = .ok (.iload 4, 2) := by decide +kernel
theorem dX0_countFilled_22 : decode cX0_countFilled 22 = .ok (.iaload, 1) := by decide +kernel
theorem dX0_countFilled_23 : decode cX0_countFilled 23 = .ok (.istore 5, 2) := by decide +kernel
theorem dX0_countFilled_25 : decode cX0_countFilled 25 = .ok (.iload 5, 2) := by decide +kernel
theorem dX0_countFilled_27 : decode cX0_countFilled 27 = .ok (.ifCond .le 6, 3) := by decide +kernel
theorem dX0_countFilled_30 : decode cX0_countFilled 30 = .ok (.iinc 1 1, 3) := by decide +kernel
theorem dX0_countFilled_33 : decode cX0_countFilled 33 = .ok (.iinc 4 1, 3) := by decide +kernel
theorem dX0_countFilled_36 : decode cX0_countFilled 36 = .ok (.goto (-23), 3) := by decide +kernel
theorem dX0_countFilled_39 : decode cX0_countFilled 39 = .ok (.iload_n 1, 1) := by decide +kernel
theorem dX0_countFilled_40 : decode cX0_countFilled 40 = .ok (.ireturn, 1) := by decide +kernel
set_option maxRecDepth 20000 in
theorem ggX0_lookAt_X3_at : GoodIn wsX0_lookAt wsX3_at := goodIn_r _ [5] (by decide +kernel) (by decide +kernel)
set_option maxRecDepth 20000 in
theorem gX0_lookAt_X3_at_n51 : GoodIn wsX0_lookAt (wsX3_at) := ggX0_lookAt_X3_at
theorem dX0_lookAt_0 : decode cX0_lookAt 0 = .ok (.iload_n 1, 1) := by decide +kernel
theorem dX0_lookAt_1 : decode cX0_lookAt 1 = .ok (.istore_n 2, 1) := by decide +kernel
theorem dX0_lookAt_2 : decode cX0_lookAt 2 = .ok (.iconst 0, 1) := by decide +kernel
theorem dX0_lookAt_3 : decode cX0_lookAt 3 = .ok (.istore_n 3, 1) := by decide +kernel
theorem dX0_lookAt_4 : decode cX0_lookAt 4 = .ok (.iload_n 3, 1) := by decide +kernel
theorem dX0_lookAt_5 : decode cX0_lookAt 5 = .ok (.aload_n 0, 1) := by decide +kernel
theorem dX0_lookAt_6 : decode cX0_lookAt 6 = .ok (.getfield 15, 3) := by decide +kernel
theorem dX0_lookAt_9 : decode cX0_lookAt 9 = .ok (.arraylength, 1) := by decide +kernel
theorem dX0_lookAt_10 : decode cX0_lookAt 10 = .ok (.if_icmp .ge 67, 3) := by decide +kernel
theorem dX0_lookAt_13 : decode cX0_lookAt 13 = .ok (.bipush 7, 2) := by decide +kernel
theorem dX0_lookAt_15 : decode cX0_lookAt 15 = .ok (.istore 4, 2) := by decide +kernel
theorem dX0_lookAt_17 : decode cX0_lookAt 17 = .ok (.iload 4, 2) := by decide +kernel
theorem dX0_lookAt_19 : decode cX0_lookAt 19 = .ok (.ifCond .le 27, 3) := by decide +kernel
theorem dX0_lookAt_22 : decode cX0_lookAt 22 = .ok (.aload_n 0, 1) := by decide +kernel
theorem dX0_lookAt_23 : decode cX0_lookAt 23 = .ok (.getfield 9, 3) := by decide +kernel
theorem dX0_lookAt_26 : decode cX0_lookAt 26 = .ok (.bipush 8, 2) := by decide +kernel
theorem dX0_lookAt_28 : decode cX0_lookAt 28 = .ok (.iload_n 3, 1) := by decide +kernel
theorem dX0_lookAt_29 : decode cX0_lookAt 29 = .ok (.imul, 1) := by decide +kernel
theorem dX0_lookAt_30 : decode cX0_lookAt 30 = .ok (.iload 4, 2) := by decide +kernel
theorem dX0_lookAt_32 : decode cX0_lookAt 32 = .ok (.iadd, 1) := by decide +kernel
theorem dX0_lookAt_33 : decode cX0_lookAt 33 = .ok (.invokestatic 51, 3) := by decide +kernel
theorem dX0_lookAt_36 : decode cX0_lookAt 36 = .ok (.iload_n 2, 1) := by decide +kernel
theorem dX0_lookAt_37 : decode cX0_lookAt 37 = .ok (.if_icmp .le 9, 3) := by decide +kernel
theorem dX0_lookAt_40 : decode cX0_lookAt 40 = .ok (.iinc 4 (-1), 3) := by decide +kernel
theorem dX0_lookAt_43 : decode cX0_lookAt 43 = .ok (.goto (-26), 3) := by decide +kernel
theorem dX0_lookAt_46 : decode cX0_lookAt 46 = .ok (.aload_n 0, 1) := by decide +kernel
theorem dX0_lookAt_47 : decode cX0_lookAt 47 = .ok (.getfield 15, 3) := by decide +kernel
theorem dX0_lookAt_50 : decode cX0_lookAt 50 = .ok (.iload_n 3, 1) := by decide +kernel
theorem dX0_lookAt_51 : decode cX0_lookAt 51 = .ok (.iload 4, 2) := by decide +kernel
theorem dX0_lookAt_53 : decode cX0_lookAt 53 = .ok (.iastore, 1) := by decide +kernel
theorem dX0_lookAt_54 : decode cX0_lookAt 54 = .ok (.iload_n 2, 1) := by decide +kernel
theorem dX0_lookAt_55 : decode cX0_lookAt 55 = .ok (.aload_n 0, 1) := by decide +kernel
theorem dX0_lookAt_56 : decode cX0_lookAt 56 = .ok (.getfield 9, 3) := by decide +kernel
theorem dX0_lookAt_59 : decode cX0_lookAt 59 = .ok (.bipush 8, 2) := by decide +kernel
theorem dX0_lookAt_61 : decode cX0_lookAt 61 = .ok (.iload_n 3, 1) := by decide +kernel
theorem dX0_lookAt_62 : decode cX0_lookAt 62 = .ok (.imul, 1) := by decide +kernel
theorem dX0_lookAt_63 : decode cX0_lookAt 63 = .ok (.iload 4, 2) := by decide +kernel
theorem dX0_lookAt_65 : decode cX0_lookAt 65 = .ok (.iadd, 1) := by decide +kernel
theorem dX0_lookAt_66 : decode cX0_lookAt 66 = .ok (.invokestatic 51, 3) := by decide +kernel
theorem dX0_lookAt_69 : decode cX0_lookAt 69 = .ok (.isub, 1) := by decide +kernel
theorem dX0_lookAt_70 : decode cX0_lookAt 70 = .ok (.istore_n 2, 1) := by decide +kernel
theorem dX0_lookAt_71 : decode cX0_lookAt 71 = .ok (.iinc 3 1, 3) := by decide +kernel
theorem dX0_lookAt_74 : decode cX0_lookAt 74 = .ok (.goto (-70), 3) := by decide +kernel
theorem dX0_lookAt_77 : decode cX0_lookAt 77 = .ok (.return_, 1) := by decide +kernel
set_option maxRecDepth 20000 in
theorem ggX0_rankOfLines_X3_at : GoodIn wsX0_rankOfLines wsX3_at := goodIn_r _ [5] (by decide +kernel) (by decide +kernel)
set_option maxRecDepth 20000 in
theorem gX0_rankOfLines_X3_at_n51 : GoodIn wsX0_rankOfLines (wsX3_at) := ggX0_rankOfLines_X3_at
theorem dX0_rankOfLines_0 : decode cX0_rankOfLines 0 = .ok (.iconst 0, 1) := by decide +kernel
theorem dX0_rankOfLines_1 : decode cX0_rankOfLines 1 = .ok (.istore_n 1, 1) := by decide +kernel
theorem dX0_rankOfLines_2 : decode cX0_rankOfLines 2 = .ok (.iconst 0, 1) := by decide +kernel
theorem dX0_rankOfLines_3 : decode cX0_rankOfLines 3 = .ok (.istore_n 2, 1) := by decide +kernel
theorem dX0_rankOfLines_4 : decode cX0_rankOfLines 4 = .ok (.iload_n 2, 1) := by decide +kernel
theorem dX0_rankOfLines_5 : decode cX0_rankOfLines 5 = .ok (.aload_n 0, 1) := by decide +kernel
theorem dX0_rankOfLines_6 : decode cX0_rankOfLines 6 = .ok (.getfield 15, 3) := by decide +kernel
theorem dX0_rankOfLines_9 : decode cX0_rankOfLines 9 = .ok (.arraylength, 1) := by decide +kernel
theorem dX0_rankOfLines_10 : decode cX0_rankOfLines 10 = .ok (.if_icmp .ge 30, 3) := by decide +kernel
theorem dX0_rankOfLines_13 : decode cX0_rankOfLines 13 = .ok (.iload_n 1, 1) := by decide +kernel
theorem dX0_rankOfLines_14 : decode cX0_rankOfLines 14 = .ok (.aload_n 0, 1) := by decide +kernel
theorem dX0_rankOfLines_15 : decode cX0_rankOfLines 15 = .ok (.getfield 9, 3) := by decide +kernel
theorem dX0_rankOfLines_18 : decode cX0_rankOfLines 18 = .ok (.bipush 8, 2) := by decide +kernel
theorem dX0_rankOfLines_20 : decode cX0_rankOfLines 20 = .ok (.iload_n 2, 1) := by decide +kernel
theorem dX0_rankOfLines_21 : decode cX0_rankOfLines 21 = .ok (.imul, 1) := by decide +kernel
theorem dX0_rankOfLines_22 : decode cX0_rankOfLines 22 = .ok (.aload_n 0, 1) := by decide +kernel
theorem dX0_rankOfLines_23 : decode cX0_rankOfLines 23 = .ok (.getfield 15, 3) := by decide +kernel
theorem dX0_rankOfLines_26 : decode cX0_rankOfLines 26 = .ok (.iload_n 2, 1) := by decide +kernel
theorem dX0_rankOfLines_27 : decode cX0_rankOfLines 27 = .ok (.iaload, 1) := by decide +kernel
theorem dX0_rankOfLines_28 : decode cX0_rankOfLines 28 = .ok (.iadd, 1) := by decide +kernel
theorem dX0_rankOfLines_29 : decode cX0_rankOfLines 29 = .ok (.invokestatic 51, 3) := by decide +kernel
theorem dX0_rankOfLines_32 : decode cX0_rankOfLines 32 = .ok (.iadd, 1) := by decide +kernel
theorem dX0_rankOfLines_33 : decode cX0_rankOfLines 33 = .ok (.istore_n 1, 1) := by decide +kernel
theorem dX0_rankOfLines_34 : decode cX0_rankOfLines 34 = .ok (.iinc 2 1, 3) := by decide +kernel
theorem dX0_rankOfLines_37 : decode cX0_rankOfLines 37 = .ok (.goto (-33), 3) := by decide +kernel
theorem dX0_rankOfLines_40 : decode cX0_rankOfLines 40 = .ok (.iload_n 1, 1) := by decide +kernel
theorem dX0_rankOfLines_41 : decode cX0_rankOfLines 41 = .ok (.ireturn, 1) := by decide +kernel
theorem dX1_init_0 : decode cX1_init 0 = .ok (.aload_n 0, 1) := by decide +kernel
theorem dX1_init_1 : decode cX1_init 1 = .ok (.invokespecial 3, 3) := by decide +kernel
theorem dX1_init_4 : decode cX1_init 4 = .ok (.aload_n 0, 1) := by decide +kernel
theorem dX1_init_5 : decode cX1_init 5 = .ok (.bipush 15, 2) := by decide +kernel
theorem dX1_init_7 : decode cX1_init 7 = .ok (.newarray .int, 2) := by decide +kernel
theorem dX1_init_9 : decode cX1_init 9 = .ok (.putfield 9, 3) := by decide +kernel
theorem dX1_init_12 : decode cX1_init 12 = .ok (.aload_n 0, 1) := by decide +kernel
theorem dX1_init_13 : decode cX1_init 13 = .ok (.bipush 100, 2) := by decide +kernel
theorem dX1_init_15 : decode cX1_init 15 = .ok (.newarray .int, 2) := by decide +kernel
theorem dX1_init_17 : decode cX1_init 17 = .ok (.putfield 15, 3) := by decide +kernel
theorem dX1_init_20 : decode cX1_init 20 = .ok (.aload_n 0, 1) := by decide +kernel
theorem dX1_init_21 : decode cX1_init 21 = .ok (.bipush 100, 2) := by decide +kernel
theorem dX1_init_23 : decode cX1_init 23 = .ok (.newarray .int, 2) := by decide +kernel
theorem dX1_init_25 : decode cX1_init 25 = .ok (.putfield 18, 3) := by decide +kernel
theorem dX1_init_28 : decode cX1_init 28 = .ok (.aload_n 0, 1) := by decide +kernel
theorem dX1_init_29 : decode cX1_init 29 = .ok (.ldc 21, 2) := by decide +kernel
theorem dX1_init_31 : decode cX1_init 31 = .ok (.newarray .int, 2) := by decide +kernel
theorem dX1_init_33 : decode cX1_init 33 = .ok (.putfield 22, 3) := by decide +kernel
theorem dX1_init_36 : decode cX1_init 36 = .ok (.aload_n 0, 1) := by decide +kernel
theorem dX1_init_37 : decode cX1_init 37 = .ok (.aload_n 1, 1) := by decide +kernel
theorem dX1_init_38 : decode cX1_init 38 = .ok (.putfield 25, 3) := by decide +kernel
theorem dX1_init_41 : decode cX1_init 41 = .ok (.aload_n 0, 1) := by decide +kernel
theorem dX1_init_42 : decode cX1_init 42 = .ok (.aload_n 2, 1) := by decide +kernel
theorem dX1_init_43 : decode cX1_init 43 = .ok (.putfield 29, 3) := by decide +kernel
theorem dX1_init_46 : decode cX1_init 46 = .ok (.return_, 1) := by decide +kernel
set_option maxRecDepth 20000 in
theorem ggX1_begin_X1_restart : GoodIn wsX1_begin wsX1_restart := goodIn_r _ [9, 3, 10, 11, 12, 13, 14, 15, 16, 17, 18, 19, 20, 21, 22, 23] (by decide +kernel) (by decide +kernel)
set_option maxRecDepth 20000 in
theorem gX1_begin_X1_restart : GoodIn wsX1_begin (wsV RX1 47 RX1 yX1_restart wsX1_restart) := goodIn_app (goodIn_of _ (by decide +kernel)) ggX1_begin_X1_restart
theorem dX1_begin_0 : decode cX1_begin 0 = .ok (.aload_n 0, 1) := by decide +kernel
theorem dX1_begin_1 : decode cX1_begin 1 = .ok (.iload_n 1, 1) := by decide +kernel
theorem dX1_begin_2 : decode cX1_begin 2 = .ok (.putfield 33, 3) := by decide +kernel
theorem dX1_begin_5 : decode cX1_begin 5 = .ok (.aload_n 0, 1) := by decide +kernel
theorem dX1_begin_6 : decode cX1_begin 6 = .ok (.iload_n 2, 1) := by decide +kernel
theorem dX1_begin_7 : decode cX1_begin 7 = .ok (.putfield 37, 3) := by decide +kernel
theorem dX1_begin_10 : decode cX1_begin 10 = .ok (.aload_n 0, 1) := by decide +kernel
theorem dX1_begin_11 : decode cX1_begin 11 = .ok (.iconst 0, 1) := by decide +kernel
theorem dX1_begin_12 : decode cX1_begin 12 = .ok (.putfield 40, 3) := by decide +kernel
theorem dX1_begin_15 : decode cX1_begin 15 = .ok (.aload_n 0, 1) := by decide +kernel
theorem dX1_begin_16 : decode cX1_begin 16 = .ok (.iconst 0, 1) := by decide +kernel
theorem dX1_begin_17 : decode cX1_begin 17 = .ok (.putfield 43, 3) := by decide +kernel
theorem dX1_begin_20 : decode cX1_begin 20 = .ok (.aload_n 0, 1) := by decide +kernel
theorem dX1_begin_21 : decode cX1_begin 21 = .ok (.invokevirtual 47, 3) := by decide +kernel
theorem dX1_begin_24 : decode cX1_begin 24 = .ok (.return_, 1) := by decide +kernel
theorem dX1_putBoard_0 : decode cX1_putBoard 0 = .ok (.aload_n 0, 1) := by decide +kernel
theorem dX1_putBoard_1 : decode cX1_putBoard 1 = .ok (.iload_n 1, 1) := by decide +kernel
theorem dX1_putBoard_2 : decode cX1_putBoard 2 = .ok (.putfield 50, 3) := by decide +kernel
theorem dX1_putBoard_5 : decode cX1_putBoard 5 = .ok (.aload_n 0, 1) := by decide +kernel
theorem dX1_putBoard_6 : decode cX1_putBoard 6 = .ok (.iconst 0, 1) := by decide +kernel
theorem dX1_putBoard_7 : decode cX1_putBoard 7 = .ok (.putfield 53, 3) := by decide +kernel
theorem dX1_putBoard_10 : decode cX1_putBoard 10 = .ok (.return_, 1) := by decide +kernel
set_option maxRecDepth 20000 in
theorem ggX1_putMultiples_X1_addPart : GoodIn wsX1_putMultiples wsX1_addPart := goodIn_r _ [5, 6, 7, 8, 9, 10, 11, 4, 12, 13, 14, 45, 46, 47, 48, 49, 50, 51, 52, 53, 54, 55, 56] (by decide +kernel) (by decide +kernel)
set_option maxRecDepth 20000 in
theorem gX1_putMultiples_X1_addPart : GoodIn wsX1_putMultiples (wsV RX1 56 RX1 yX1_addPart wsX1_addPart) := goodIn_app (goodIn_of _ (by decide +kernel)) ggX1_putMultiples_X1_addPart
set_option maxRecDepth 20000 in
theorem ggX1_putMultiples_X3_at : GoodIn wsX1_putMultiples wsX3_at := goodIn_r _ [17] (by decide +kernel) (by decide +kernel)
set_option maxRecDepth 20000 in
theorem gX1_putMultiples_X3_at_n60 : GoodIn wsX1_putMultiples (wsX3_at) := ggX1_putMultiples_X3_at
set_option maxRecDepth 20000 in
theorem ggX1_putMultiples_X1_putBelow : GoodIn wsX1_putMultiples wsX1_putBelow := goodIn_r _ [21, 6, 8, 15, 16, 17, 22, 23, 24, 4, 25, 26, 27, 28, 29, 30, 31, 32, 33, 7, 34, 35, 36, 37, 38, 39, 40, 41, 42, 43, 44, 9, 10, 11, 12, 13, 14, 45, 46, 47, 48, 49, 50, 51, 52, 53, 54, 55, 56] (by decide +kernel) (by decide +kernel)
set_option maxRecDepth 20000 in
theorem gX1_putMultiples_X1_putBelow : GoodIn wsX1_putMultiples (wsV RX1 64 RX1 yX1_putBelow wsX1_putBelow) := goodIn_app (goodIn_of _ (by decide +kernel)) ggX1_putMultiples_X1_putBelow
theorem dX1_putMultiples_0 : decode cX1_putMultiples 0 = .ok (.iconst 0, 1) := by decide +kernel
theorem dX1_putMultiples_1 : decode cX1_putMultiples 1 = .ok (.istore_n 3, 1) := by decide +kernel
theorem dX1_putMultiples_2 : decode cX1_putMultiples 2 = .ok (.iload_n 3, 1) := by decide +kernel
theorem dX1_putMultiples_3 : decode cX1_putMultiples 3 = .ok (.iload_n 2, 1) := by decide +kernel
theorem dX1_putMultiples_4 : decode cX1_putMultiples 4 = .ok (.if_icmp .ge 14, 3) := by decide +kernel
theorem dX1_putMultiples_7 : decode cX1_putMultiples 7 = .ok (.aload_n 0, 1) := by decide +kernel
theorem dX1_putMultiples_8 : decode cX1_putMultiples 8 = .ok (.iload_n 3, 1) := by decide +kernel
theorem dX1_putMultiples_9 : decode cX1_putMultiples 9 = .ok (.invokevirtual 56, 3) := by decide +kernel
theorem dX1_putMultiples_12 : decode cX1_putMultiples 12 = .ok (.iinc 3 1, 3) := by decide +kernel
theorem dX1_putMultiples_15 : decode cX1_putMultiples 15 = .ok (.goto (-13), 3) := by decide +kernel
theorem dX1_putMultiples_18 : decode cX1_putMultiples 18 = .ok (.iconst 0, 1) := by decide +kernel
theorem dX1_putMultiples_19 : decode cX1_putMultiples 19 = .ok (.istore_n 3, 1) := by decide +kernel
theorem dX1_putMultiples_20 : decode cX1_putMultiples 20 = .ok (.iload_n 3, 1) := by decide +kernel
theorem dX1_putMultiples_21 : decode cX1_putMultiples 21 = .ok (.iload_n 2, 1) := by decide +kernel
theorem dX1_putMultiples_22 : decode cX1_putMultiples 22 = .ok (.if_icmp .ge 57, 3) := by decide +kernel
theorem dX1_putMultiples_25 : decode cX1_putMultiples 25 = .ok (.iload_n 3, 1) := by decide +kernel
theorem dX1_putMultiples_26 : decode cX1_putMultiples 26 = .ok (.iconst 1, 1) := by decide +kernel
theorem dX1_putMultiples_27 : decode cX1_putMultiples 27 = .ok (.iadd, 1) := by decide +kernel
theorem dX1_putMultiples_28 : decode cX1_putMultiples 28 = .ok (.istore 4, 2) := by decide +kernel
theorem dX1_putMultiples_30 : decode cX1_putMultiples 30 = .ok (.iload 4, 2) := by decide +kernel
theorem dX1_putMultiples_32 : decode cX1_putMultiples 32 = .ok (.iload_n 2, 1) := by decide +kernel
theorem dX1_putMultiples_33 : decode cX1_putMultiples 33 = .ok (.if_icmp .ge 40, 3) := by decide +kernel
theorem dX1_putMultiples_36 : decode cX1_putMultiples 36 = .ok (.aload_n 1, 1) := by decide +kernel
theorem dX1_putMultiples_37 : decode cX1_putMultiples 37 = .ok (.iload_n 3, 1) := by decide +kernel
theorem dX1_putMultiples_38 : decode cX1_putMultiples 38 = .ok (.invokestatic 60, 3) := by decide +kernel
theorem dX1_putMultiples_41 : decode cX1_putMultiples 41 = .ok (.istore 5, 2) := by decide +kernel
theorem dX1_putMultiples_43 : decode cX1_putMultiples 43 = .ok (.iload 5, 2) := by decide +kernel
theorem dX1_putMultiples_45 : decode cX1_putMultiples 45 = .ok (.ifCond .le 22, 3) := by decide +kernel
theorem dX1_putMultiples_48 : decode cX1_putMultiples 48 = .ok (.aload_n 1, 1) := by decide +kernel
theorem dX1_putMultiples_49 : decode cX1_putMultiples 49 = .ok (.iload 4, 2) := by decide +kernel
theorem dX1_putMultiples_51 : decode cX1_putMultiples 51 = .ok (.invokestatic 60, 3) := by decide +kernel
theorem dX1_putMultiples_54 : decode cX1_putMultiples 54 = .ok (.iload 5, 2) := by decide +kernel
theorem dX1_putMultiples_56 : decode cX1_putMultiples 56 = .ok (.irem, 1) := by decide +kernel
theorem dX1_putMultiples_57 : decode cX1_putMultiples 57 = .ok (.ifCond .ne 10, 3) := by decide +kernel
theorem dX1_putMultiples_60 : decode cX1_putMultiples 60 = .ok (.aload_n 0, 1) := by decide +kernel
theorem dX1_putMultiples_61 : decode cX1_putMultiples 61 = .ok (.iload_n 3, 1) := by decide +kernel
theorem dX1_putMultiples_62 : decode cX1_putMultiples 62 = .ok (.iload 4, 2) := by decide +kernel
theorem dX1_putMultiples_64 : decode cX1_putMultiples 64 = .ok (.invokevirtual 64, 3) := by decide +kernel
theorem dX1_putMultiples_67 : decode cX1_putMultiples 67 = .ok (.iinc 4 1, 3) := by decide +kernel
theorem dX1_putMultiples_70 : decode cX1_putMultiples 70 = .ok (.goto (-40), 3) := by decide +kernel
theorem dX1_putMultiples_73 : decode cX1_putMultiples 73 = .ok (.iinc 3 1, 3) := by decide +kernel
theorem dX1_putMultiples_76 : decode cX1_putMultiples 76 = .ok (.goto (-56), 3) := by decide +kernel
theorem dX1_putMultiples_79 : decode cX1_putMultiples 79 = .ok (.return_, 1) := by decide +kernel
set_option maxRecDepth 20000 in
theorem ggX1_addPart_X1_restart : GoodIn wsX1_addPart wsX1_restart := goodIn_r _ [8, 2, 9, 10, 11, 12, 13, 14, 15, 16, 17, 18, 19, 20, 21, 22] (by decide +kernel) (by decide +kernel)
set_option maxRecDepth 20000 in
theorem gX1_addPart_X1_restart : GoodIn wsX1_addPart (wsV RX1 47 RX1 yX1_restart wsX1_restart) := goodIn_app (goodIn_of _ (by decide +kernel)) ggX1_addPart_X1_restart
theorem dX1_addPart_0 : decode cX1_addPart 0 = .ok (.iload_n 1, 1) := by decide +kernel
theorem dX1_addPart_1 : decode cX1_addPart 1 = .ok (.ifCond .lt 42, 3) := by decide +kernel
theorem dX1_addPart_4 : decode cX1_addPart 4 = .ok (.iload_n 1, 1) := by decide +kernel
theorem dX1_addPart_5 : decode cX1_addPart 5 = .ok (.aload_n 0, 1) := by decide +kernel
theorem dX1_addPart_6 : decode cX1_addPart 6 = .ok (.getfield 9, 3) := by decide +kernel
theorem dX1_addPart_9 : decode cX1_addPart 9 = .ok (.arraylength, 1) := by decide +kernel
theorem dX1_addPart_10 : decode cX1_addPart 10 = .ok (.if_icmp .ge 33, 3) := by decide +kernel
theorem dX1_addPart_13 : decode cX1_addPart 13 = .ok (.aload_n 0, 1) := by decide +kernel
theorem dX1_addPart_14 : decode cX1_addPart 14 = .ok (.getfield 9, 3) := by decide +kernel
theorem dX1_addPart_17 : decode cX1_addPart 17 = .ok (.iload_n 1, 1) := by decide +kernel
theorem dX1_addPart_18 : decode cX1_addPart 18 = .ok (.iconst 1, 1) := by decide +kernel
theorem dX1_addPart_19 : decode cX1_addPart 19 = .ok (.iload_n 1, 1) := by decide +kernel
theorem dX1_addPart_20 : decode cX1_addPart 20 = .ok (.ishl, 1) := by decide +kernel
theorem dX1_addPart_21 : decode cX1_addPart 21 = .ok (.iastore, 1) := by decide +kernel
theorem dX1_addPart_22 : decode cX1_addPart 22 = .ok (.aload_n 0, 1) := by decide +kernel
theorem dX1_addPart_23 : decode cX1_addPart 23 = .ok (.dup, 1) := by decide +kernel
theorem dX1_addPart_24 : decode cX1_addPart 24 = .ok (.getfield 40, 3) := by decide +kernel
theorem dX1_addPart_27 : decode cX1_addPart 27 = .ok (.iconst 1, 1) := by decide +kernel
theorem dX1_addPart_28 : decode cX1_addPart 28 = .ok (.iload_n 1, 1) := by decide +kernel
theorem dX1_addPart_29 : decode cX1_addPart 29 = .ok (.ishl, 1) := by decide +kernel
theorem dX1_addPart_30 : decode cX1_addPart 30 = .ok (.ior, 1) := by decide +kernel
theorem dX1_addPart_31 : decode cX1_addPart 31 = .ok (.putfield 40, 3) := by decide +kernel
theorem dX1_addPart_34 : decode cX1_addPart 34 = .ok (.aload_n 0, 1) := by decide +kernel
theorem dX1_addPart_35 : decode cX1_addPart 35 = .ok (.iconst 0, 1) := by decide +kernel
theorem dX1_addPart_36 : decode cX1_addPart 36 = .ok (.putfield 43, 3) := by decide +kernel
theorem dX1_addPart_39 : decode cX1_addPart 39 = .ok (.aload_n 0, 1) := by decide +kernel
theorem dX1_addPart_40 : decode cX1_addPart 40 = .ok (.invokevirtual 47, 3) := by decide +kernel
theorem dX1_addPart_43 : decode cX1_addPart 43 = .ok (.return_, 1) := by decide +kernel
set_option maxRecDepth 20000 in
theorem ggX1_addRoad_X1_addPart : GoodIn wsX1_addRoad wsX1_addPart := goodIn_r _ [5, 6, 7, 8, 9, 10, 11, 4, 12, 13, 14, 19, 20, 21, 22, 23, 24, 25, 26, 27, 28, 29, 30] (by decide +kernel) (by decide +kernel)
set_option maxRecDepth 20000 in
theorem gX1_addRoad_X1_addPart : GoodIn wsX1_addRoad (wsV RX1 56 RX1 yX1_addPart wsX1_addPart) := goodIn_app (goodIn_of _ (by decide +kernel)) ggX1_addRoad_X1_addPart
set_option maxRecDepth 20000 in
theorem ggX1_addRoad_X1_takeAlong : GoodIn wsX1_addRoad wsX1_takeAlong := goodIn_r _ [18, 6, 19, 20, 21, 22, 23, 24, 25, 26, 27, 28, 29, 30] (by decide +kernel) (by decide +kernel)
set_option maxRecDepth 20000 in
theorem gX1_addRoad_X1_takeAlong : GoodIn wsX1_addRoad (wsV RX1 68 RX1 yX1_takeAlong wsX1_takeAlong) := goodIn_app (goodIn_of _ (by decide +kernel)) ggX1_addRoad_X1_takeAlong
theorem dX1_addRoad_0 : decode cX1_addRoad 0 = .ok (.aload_n 0, 1) := by decide +kernel
theorem dX1_addRoad_1 : decode cX1_addRoad 1 = .ok (.iload_n 1, 1) := by decide +kernel
theorem dX1_addRoad_2 : decode cX1_addRoad 2 = .ok (.invokevirtual 56, 3) := by decide +kernel
theorem dX1_addRoad_5 : decode cX1_addRoad 5 = .ok (.aload_n 0, 1) := by decide +kernel
theorem dX1_addRoad_6 : decode cX1_addRoad 6 = .ok (.iload_n 2, 1) := by decide +kernel
theorem dX1_addRoad_7 : decode cX1_addRoad 7 = .ok (.iconst 1, 1) := by decide +kernel
theorem dX1_addRoad_8 : decode cX1_addRoad 8 = .ok (.iload_n 1, 1) := by decide +kernel
theorem dX1_addRoad_9 : decode cX1_addRoad 9 = .ok (.ishl, 1) := by decide +kernel
theorem dX1_addRoad_10 : decode cX1_addRoad 10 = .ok (.invokevirtual 68, 3) := by decide +kernel
theorem dX1_addRoad_13 : decode cX1_addRoad 13 = .ok (.aload_n 0, 1) := by decide +kernel
theorem dX1_addRoad_14 : decode cX1_addRoad 14 = .ok (.iload_n 3, 1) := by decide +kernel
theorem dX1_addRoad_15 : decode cX1_addRoad 15 = .ok (.iconst 1, 1) := by decide +kernel
theorem dX1_addRoad_16 : decode cX1_addRoad 16 = .ok (.iload_n 1, 1) := by decide +kernel
theorem dX1_addRoad_17 : decode cX1_addRoad 17 = .ok (.ishl, 1) := by decide +kernel
theorem dX1_addRoad_18 : decode cX1_addRoad 18 = .ok (.invokevirtual 68, 3) := by decide +kernel
theorem dX1_addRoad_21 : decode cX1_addRoad 21 = .ok (.return_, 1) := by decide +kernel
set_option maxRecDepth 20000 in
theorem ggX1_putBelow_X3_at : GoodIn wsX1_putBelow wsX3_at := goodIn_r _ [5] (by decide +kernel) (by decide +kernel)
set_option maxRecDepth 20000 in
theorem gX1_putBelow_X3_at_n60 : GoodIn wsX1_putBelow (wsX3_at) := ggX1_putBelow_X3_at
set_option maxRecDepth 20000 in
theorem ggX1_putBelow_X1_takesAlong : GoodIn wsX1_putBelow wsX1_takesAlong := goodIn_r _ [10, 1, 3, 4, 5, 37, 38, 39, 40, 41, 42, 43, 44, 45, 46, 47, 48] (by decide +kernel) (by decide +kernel)
set_option maxRecDepth 20000 in
theorem gX1_putBelow_X1_takesAlong : GoodIn wsX1_putBelow (wsV RX1 71 RX1 yX1_takesAlong wsX1_takesAlong) := goodIn_app (goodIn_of _ (by decide +kernel)) ggX1_putBelow_X1_takesAlong
set_option maxRecDepth 20000 in
theorem ggX1_putBelow_X1_hasThing : GoodIn wsX1_putBelow wsX1_hasThing := goodIn_r _ [14, 15, 16, 17, 9, 18, 19, 20, 21, 22, 23, 24, 25, 26, 37, 38, 39, 40, 41, 42, 43, 44, 45, 46, 47, 48] (by decide +kernel) (by decide +kernel)
set_option maxRecDepth 20000 in
theorem gX1_putBelow_X1_hasThing : GoodIn wsX1_putBelow (wsV RX1 75 RX1 yX1_hasThing wsX1_hasThing) := goodIn_app (goodIn_of _ (by decide +kernel)) ggX1_putBelow_X1_hasThing
set_option maxRecDepth 20000 in
theorem ggX1_putBelow_X1_takeAlong : GoodIn wsX1_putBelow wsX1_takeAlong := goodIn_r _ [30, 1, 37, 38, 39, 40, 41, 42, 43, 44, 45, 46, 47, 48] (by decide +kernel) (by decide +kernel)
set_option maxRecDepth 20000 in
theorem gX1_putBelow_X1_takeAlong : GoodIn wsX1_putBelow (wsV RX1 68 RX1 yX1_takeAlong wsX1_takeAlong) := goodIn_app (goodIn_of _ (by decide +kernel)) ggX1_putBelow_X1_takeAlong
set_option maxRecDepth 20000 in
theorem ggX1_putBelow_X1_restart : GoodIn wsX1_putBelow wsX1_restart := goodIn_r _ [34, 19, 35, 36, 37, 38, 39, 40, 41, 42, 43, 44, 45, 46, 47, 48] (by decide +kernel) (by decide +kernel)
set_option maxRecDepth 20000 in
theorem gX1_putBelow_X1_restart : GoodIn wsX1_putBelow (wsV RX1 47 RX1 yX1_restart wsX1_restart) := goodIn_app (goodIn_of _ (by decide +kernel)) ggX1_putBelow_X1_restart
theorem dX1_putBelow_0 : decode cX1_putBelow 0 = .ok (.aload_n 0, 1) := by decide +kernel
theorem dX1_putBelow_1 : decode cX1_putBelow 1 = .ok (.getfield 9, 3) := by decide +kernel
theorem dX1_putBelow_4 : decode cX1_putBelow 4 = .ok (.iload_n 2, 1) := by decide +kernel
theorem dX1_putBelow_5 : decode cX1_putBelow 5 = .ok (.invokestatic 60, 3) := by decide +kernel
theorem dX1_putBelow_8 : decode cX1_putBelow 8 = .ok (.istore_n 3, 1) := by decide +kernel
theorem dX1_putBelow_9 : decode cX1_putBelow 9 = .ok (.aload_n 0, 1) := by decide +kernel
theorem dX1_putBelow_10 : decode cX1_putBelow 10 = .ok (.iload_n 1, 1) := by decide +kernel
theorem dX1_putBelow_11 : decode cX1_putBelow 11 = .ok (.iload_n 2, 1) := by decide +kernel
theorem dX1_putBelow_12 : decode cX1_putBelow 12 = .ok (.invokevirtual 71, 3) := by decide +kernel
theorem dX1_putBelow_15 : decode cX1_putBelow 15 = .ok (.ifCond .ne 50, 3) := by decide +kernel
theorem dX1_putBelow_18 : decode cX1_putBelow 18 = .ok (.iconst 0, 1) := by decide +kernel
theorem dX1_putBelow_19 : decode cX1_putBelow 19 = .ok (.istore 4, 2) := by decide +kernel
theorem dX1_putBelow_21 : decode cX1_putBelow 21 = .ok (.iload 4, 2) := by decide +kernel
theorem dX1_putBelow_23 : decode cX1_putBelow 23 = .ok (.bipush 12, 2) := by decide +kernel
theorem dX1_putBelow_25 : decode cX1_putBelow 25 = .ok (.if_icmp .ge 35, 3) := by decide +kernel
theorem dX1_putBelow_28 : decode cX1_putBelow 28 = .ok (.aload_n 0, 1) := by decide +kernel
theorem dX1_putBelow_29 : decode cX1_putBelow 29 = .ok (.iload 4, 2) := by decide +kernel
theorem dX1_putBelow_31 : decode cX1_putBelow 31 = .ok (.invokevirtual 75, 3) := by decide +kernel
theorem dX1_putBelow_34 : decode cX1_putBelow 34 = .ok (.ifCond .eq 20, 3) := by decide +kernel
theorem dX1_putBelow_37 : decode cX1_putBelow 37 = .ok (.aload_n 0, 1) := by decide +kernel
theorem dX1_putBelow_38 : decode cX1_putBelow 38 = .ok (.iload 4, 2) := by decide +kernel
theorem dX1_putBelow_40 : decode cX1_putBelow 40 = .ok (.iload_n 1, 1) := by decide +kernel
theorem dX1_putBelow_41 : decode cX1_putBelow 41 = .ok (.invokevirtual 71, 3) := by decide +kernel
theorem dX1_putBelow_44 : decode cX1_putBelow 44 = .ok (.ifCond .eq 10, 3) := by decide +kernel
theorem dX1_putBelow_47 : decode cX1_putBelow 47 = .ok (.aload_n 0, 1) := by decide +kernel
theorem dX1_putBelow_48 : decode cX1_putBelow 48 = .ok (.iload 4, 2) := by decide +kernel
theorem dX1_putBelow_50 : decode cX1_putBelow 50 = .ok (.iload_n 3, 1) := by decide +kernel
theorem dX1_putBelow_51 : decode cX1_putBelow 51 = .ok (.invokevirtual 68, 3) := by decide +kernel
theorem dX1_putBelow_54 : decode cX1_putBelow 54 = .ok (.iinc 4 1, 3) := by decide +kernel
theorem dX1_putBelow_57 : decode cX1_putBelow 57 = .ok (.goto (-36), 3) := by decide +kernel
theorem dX1_putBelow_60 : decode cX1_putBelow 60 = .ok (.aload_n 0, 1) := by decide +kernel
theorem dX1_putBelow_61 : decode cX1_putBelow 61 = .ok (.iconst 0, 1) := by decide +kernel
theorem dX1_putBelow_62 : decode cX1_putBelow 62 = .ok (.putfield 43, 3) := by decide +kernel
theorem dX1_putBelow_65 : decode cX1_putBelow 65 = .ok (.aload_n 0, 1) := by decide +kernel
theorem dX1_putBelow_66 : decode cX1_putBelow 66 = .ok (.invokevirtual 47, 3) := by decide +kernel
theorem dX1_putBelow_69 : decode cX1_putBelow 69 = .ok (.return_, 1) := by decide +kernel
theorem dX1_takeAlong_0 : decode cX1_takeAlong 0 = .ok (.iload_n 1, 1) := by decide +kernel
theorem dX1_takeAlong_1 : decode cX1_takeAlong 1 = .ok (.ifCond .lt 22, 3) := by decide +kernel
theorem dX1_takeAlong_4 : decode cX1_takeAlong 4 = .ok (.iload_n 1, 1) := by decide +kernel
theorem dX1_takeAlong_5 : decode cX1_takeAlong 5 = .ok (.aload_n 0, 1) := by decide +kernel
theorem dX1_takeAlong_6 : decode cX1_takeAlong 6 = .ok (.getfield 9, 3) := by decide +kernel
theorem dX1_takeAlong_9 : decode cX1_takeAlong 9 = .ok (.arraylength, 1) := by decide +kernel
theorem dX1_takeAlong_10 : decode cX1_takeAlong 10 = .ok (.if_icmp .ge 13, 3) := by decide +kernel
theorem dX1_takeAlong_13 : decode cX1_takeAlong 13 = .ok (.aload_n 0, 1) := by decide +kernel
theorem dX1_takeAlong_14 : decode cX1_takeAlong 14 = .ok (.getfield 9, 3) := by decide +kernel
theorem dX1_takeAlong_17 : decode cX1_takeAlong 17 = .ok (.iload_n 1, 1) := by decide +kernel
theorem dX1_takeAlong_18 : decode cX1_takeAlong 18 = .ok (.dup2, 1) := by decide +kernel
theorem dX1_takeAlong_19 : decode cX1_takeAlong 19 = .ok (.iaload, 1) := by decide +kernel
theorem dX1_takeAlong_20 : decode cX1_takeAlong 20 = .ok (.iload_n 2, 1) := by decide +kernel
theorem dX1_takeAlong_21 : decode cX1_takeAlong 21 = .ok (.ior, 1) := by decide +kernel
theorem dX1_takeAlong_22 : decode cX1_takeAlong 22 = .ok (.iastore, 1) := by decide +kernel
theorem dX1_takeAlong_23 : decode cX1_takeAlong 23 = .ok (.return_, 1) := by decide +kernel
theorem dX1_restart_0 : decode cX1_restart 0 = .ok (.aload_n 0, 1) := by decide +kernel
theorem dX1_restart_1 : decode cX1_restart 1 = .ok (.aload_n 0, 1) := by decide +kernel
theorem dX1_restart_2 : decode cX1_restart 2 = .ok (.getfield 40, 3) := by decide +kernel
theorem dX1_restart_5 : decode cX1_restart 5 = .ok (.putfield 50, 3) := by decide +kernel
theorem dX1_restart_8 : decode cX1_restart 8 = .ok (.aload_n 0, 1) := by decide +kernel
theorem dX1_restart_9 : decode cX1_restart 9 = .ok (.iconst 0, 1) := by decide +kernel
theorem dX1_restart_10 : decode cX1_restart 10 = .ok (.putfield 53, 3) := by decide +kernel
theorem dX1_restart_13 : decode cX1_restart 13 = .ok (.return_, 1) := by decide +kernel
set_option maxRecDepth 20000 in
theorem ggX1_takesAlong_X3_at : GoodIn wsX1_takesAlong wsX3_at := goodIn_r _ [4] (by decide +kernel) (by decide +kernel)
set_option maxRecDepth 20000 in
theorem gX1_takesAlong_X3_at_n60 : GoodIn wsX1_takesAlong (wsX3_at) := ggX1_takesAlong_X3_at
theorem dX1_takesAlong_0 : decode cX1_takesAlong 0 = .ok (.aload_n 0, 1) := by decide +kernel
theorem dX1_takesAlong_1 : decode cX1_takesAlong 1 = .ok (.getfield 9, 3) := by decide +kernel
theorem dX1_takesAlong_4 : decode cX1_takesAlong 4 = .ok (.iload_n 1, 1) := by decide +kernel
theorem dX1_takesAlong_5 : decode cX1_takesAlong 5 = .ok (.invokestatic 60, 3) := by decide +kernel
theorem dX1_takesAlong_8 : decode cX1_takesAlong 8 = .ok (.iload_n 2, 1) := by decide +kernel
theorem dX1_takesAlong_9 : decode cX1_takesAlong 9 = .ok (.ishr, 1) := by decide +kernel
theorem dX1_takesAlong_10 : decode cX1_takesAlong 10 = .ok (.iconst 1, 1) := by decide +kernel
theorem dX1_takesAlong_11 : decode cX1_takesAlong 11 = .ok (.iand, 1) := by decide +kernel
theorem dX1_takesAlong_12 : decode cX1_takesAlong 12 = .ok (.ifCond .eq 7, 3) := by decide +kernel
theorem dX1_takesAlong_15 : decode cX1_takesAlong 15 = .ok (.iconst 1, 1) := by decide +kernel
theorem dX1_takesAlong_16 : decode cX1_takesAlong 16 = .ok (.goto 4, 3) := by decide +kernel
theorem dX1_takesAlong_19 : decode cX1_takesAlong 19 = .ok (.iconst 0, 1) := by decide +kernel
theorem dX1_takesAlong_20 : decode cX1_takesAlong 20 = .ok (.ireturn, 1) := by decide +kernel
set_option maxRecDepth 20000 in
theorem ggX1_hasThing_X1_countThings : GoodIn wsX1_hasThing wsX1_countThings := goodIn_r _ [5, 6, 7, 8, 9, 10, 11, 12, 13, 14, 15, 16, 17, 18, 19, 20, 21, 22, 23, 24, 25] (by decide +kernel) (by decide +kernel)
set_option maxRecDepth 20000 in
theorem gX1_hasThing_X1_countThings : GoodIn wsX1_hasThing (wsV RX1 79 RX1 yX1_countThings wsX1_countThings) := goodIn_app (goodIn_of _ (by decide +kernel)) ggX1_hasThing_X1_countThings
theorem dX1_hasThing_0 : decode cX1_hasThing 0 = .ok (.iload_n 1, 1) := by decide +kernel
theorem dX1_hasThing_1 : decode cX1_hasThing 1 = .ok (.ifCond .lt 15, 3) := by decide +kernel
theorem dX1_hasThing_4 : decode cX1_hasThing 4 = .ok (.iload_n 1, 1) := by decide +kernel
theorem dX1_hasThing_5 : decode cX1_hasThing 5 = .ok (.aload_n 0, 1) := by decide +kernel
theorem dX1_hasThing_6 : decode cX1_hasThing 6 = .ok (.invokevirtual 79, 3) := by decide +kernel
theorem dX1_hasThing_9 : decode cX1_hasThing 9 = .ok (.if_icmp .ge 7, 3) := by decide +kernel
theorem dX1_hasThing_12 : decode cX1_hasThing 12 = .ok (.iconst 1, 1) := by decide +kernel
theorem dX1_hasThing_13 : decode cX1_hasThing 13 = .ok (.goto 4, 3) := by decide +kernel
theorem dX1_hasThing_16 : decode cX1_hasThing 16 = .ok (.iconst 0, 1) := by decide +kernel
theorem dX1_hasThing_17 : decode cX1_hasThing 17 = .ok (.ireturn, 1) := by decide +kernel
set_option maxRecDepth 20000 in
theorem ggX1_hasPost_X1_countPosts : GoodIn wsX1_hasPost wsX1_countPosts := goodIn_r _ [5, 6, 7, 8, 9, 10, 11, 12, 13, 14, 15, 16, 17, 18, 19, 20, 21, 22, 23, 24, 25] (by decide +kernel) (by decide +kernel)
set_option maxRecDepth 20000 in
theorem gX1_hasPost_X1_countPosts : GoodIn wsX1_hasPost (wsV RX1 83 RX1 yX1_countPosts wsX1_countPosts) := goodIn_app (goodIn_of _ (by decide +kernel)) ggX1_hasPost_X1_countPosts
theorem dX1_hasPost_0 : decode cX1_hasPost 0 = .ok (.iload_n 1, 1) := by decide +kernel
theorem dX1_hasPost_1 : decode cX1_hasPost 1 = .ok (.ifCond .lt 15, 3) := by decide +kernel
theorem dX1_hasPost_4 : decode cX1_hasPost 4 = .ok (.iload_n 1, 1) := by decide +kernel
theorem dX1_hasPost_5 : decode cX1_hasPost 5 = .ok (.aload_n 0, 1) := by decide +kernel
theorem dX1_hasPost_6 : decode cX1_hasPost 6 = .ok (.invokevirtual 83, 3) := by decide +kernel
theorem dX1_hasPost_9 : decode cX1_hasPost 9 = .ok (.if_icmp .ge 7, 3) := by decide +kernel
theorem dX1_hasPost_12 : decode cX1_hasPost 12 = .ok (.iconst 1, 1) := by decide +kernel
theorem dX1_hasPost_13 : decode cX1_hasPost 13 = .ok (.goto 4, 3) := by decide +kernel
theorem dX1_hasPost_16 : decode cX1_hasPost 16 = .ok (.iconst 0, 1) := by decide +kernel
theorem dX1_hasPost_17 : decode cX1_hasPost 17 = .ok (.ireturn, 1) := by decide +kernel
set_option maxRecDepth 20000 in
theorem ggX1_countThings_J6_bitCount_0f7a4 : GoodIn wsX1_countThings wsJ6_bitCount_0f7a4 := goodIn_r _ [5, 6, 7, 8] (by decide +kernel) (by decide +kernel)
set_option maxRecDepth 20000 in
theorem gX1_countThings_J6_bitCount_0f7a4 : GoodIn wsX1_countThings (va_wsS RX1 86 yJ6_bitCount_0f7a4 wsJ6_bitCount_0f7a4) := goodIn_app (goodIn_of _ (by decide +kernel)) ggX1_countThings_J6_bitCount_0f7a4
theorem dX1_countThings_0 : decode cX1_countThings 0 = .ok (.aload_n 0, 1) := by decide +kernel
theorem dX1_countThings_1 : decode cX1_countThings 1 = .ok (.getfield 40, 3) := by decide +kernel
theorem dX1_countThings_4 : decode cX1_countThings 4 = .ok (.invokestatic 86, 3) := by decide +kernel
theorem dX1_countThings_7 : decode cX1_countThings 7 = .ok (.ireturn, 1) := by decide +kernel
set_option maxRecDepth 20000 in
theorem ggX1_countPosts_J6_bitCount_0f7a4 : GoodIn wsX1_countPosts wsJ6_bitCount_0f7a4 := goodIn_r _ [5, 6, 7, 8] (by decide +kernel) (by decide +kernel)
set_option maxRecDepth 20000 in
theorem gX1_countPosts_J6_bitCount_0f7a4 : GoodIn wsX1_countPosts (va_wsS RX1 86 yJ6_bitCount_0f7a4 wsJ6_bitCount_0f7a4) := goodIn_app (goodIn_of _ (by decide +kernel)) ggX1_countPosts_J6_bitCount_0f7a4
theorem dX1_countPosts_0 : decode cX1_countPosts 0 = .ok (.aload_n 0, 1) := by decide +kernel
theorem dX1_countPosts_1 : decode cX1_countPosts 1 = .ok (.getfield 40, 3) := by decide +kernel
theorem dX1_countPosts_4 : decode cX1_countPosts 4 = .ok (.bipush 63, 2) := by decide +kernel
theorem dX1_countPosts_6 : decode cX1_countPosts 6 = .ok (.iand, 1) := by decide +kernel
theorem dX1_countPosts_7 : decode cX1_countPosts 7 = .ok (.invokestatic 86, 3) := by decide +kernel
theorem dX1_countPosts_10 : decode cX1_countPosts 10 = .ok (.ireturn, 1) := by decide +kernel
set_option maxRecDepth 20000 in
theorem ggX1_countRoads_J6_bitCount_0f7a4 : GoodIn wsX1_countRoads wsJ6_bitCount_0f7a4 := goodIn_r _ [5, 6, 7, 8] (by decide +kernel) (by decide +kernel)
set_option maxRecDepth 20000 in
theorem gX1_countRoads_J6_bitCount_0f7a4 : GoodIn wsX1_countRoads (va_wsS RX1 86 yJ6_bitCount_0f7a4 wsJ6_bitCount_0f7a4) := goodIn_app (goodIn_of _ (by decide +kernel)) ggX1_countRoads_J6_bitCount_0f7a4
theorem dX1_countRoads_0 : decode cX1_countRoads 0 = .ok (.aload_n 0, 1) := by decide +kernel
theorem dX1_countRoads_1 : decode cX1_countRoads 1 = .ok (.getfield 40, 3) := by decide +kernel
theorem dX1_countRoads_4 : decode cX1_countRoads 4 = .ok (.bipush (-64), 2) := by decide +kernel
theorem dX1_countRoads_6 : decode cX1_countRoads 6 = .ok (.iand, 1) := by decide +kernel
theorem dX1_countRoads_7 : decode cX1_countRoads 7 = .ok (.invokestatic 86, 3) := by decide +kernel
theorem dX1_countRoads_10 : decode cX1_countRoads 10 = .ok (.ireturn, 1) := by decide +kernel
set_option maxRecDepth 20000 in
theorem ggX1_countPairs_X1_countThings : GoodIn wsX1_countPairs wsX1_countThings := goodIn_r _ [6, 7, 8, 9, 10, 11, 12, 13, 14, 18, 19, 20, 21, 22, 23, 24, 25, 26, 27, 28, 29] (by decide +kernel) (by decide +kernel)
set_option maxRecDepth 20000 in
theorem gX1_countPairs_X1_countThings : GoodIn wsX1_countPairs (wsV RX1 79 RX1 yX1_countThings wsX1_countThings) := goodIn_app (goodIn_of _ (by decide +kernel)) ggX1_countPairs_X1_countThings
set_option maxRecDepth 20000 in
theorem ggX1_countPairs_X3_at : GoodIn wsX1_countPairs wsX3_at := goodIn_r _ [17] (by decide +kernel) (by decide +kernel)
set_option maxRecDepth 20000 in
theorem gX1_countPairs_X3_at_n60 : GoodIn wsX1_countPairs (wsX3_at) := ggX1_countPairs_X3_at
set_option maxRecDepth 20000 in
theorem ggX1_countPairs_J6_bitCount_0f7a4 : GoodIn wsX1_countPairs wsJ6_bitCount_0f7a4 := goodIn_r _ [11, 12, 13, 14] (by decide +kernel) (by decide +kernel)
set_option maxRecDepth 20000 in
theorem gX1_countPairs_J6_bitCount_0f7a4 : GoodIn wsX1_countPairs (va_wsS RX1 86 yJ6_bitCount_0f7a4 wsJ6_bitCount_0f7a4) := goodIn_app (goodIn_of _ (by decide +kernel)) ggX1_countPairs_J6_bitCount_0f7a4
theorem dX1_countPairs_0 : decode cX1_countPairs 0 = .ok (.iconst 0, 1) := by decide +kernel
theorem dX1_countPairs_1 : decode cX1_countPairs 1 = .ok (.istore_n 1, 1) := by decide +kernel
theorem dX1_countPairs_2 : decode cX1_countPairs 2 = .ok (.iconst 0, 1) := by decide +kernel
theorem dX1_countPairs_3 : decode cX1_countPairs 3 = .ok (.istore_n 2, 1) := by decide +kernel
theorem dX1_countPairs_4 : decode cX1_countPairs 4 = .ok (.iload_n 2, 1) := by decide +kernel
theorem dX1_countPairs_5 : decode cX1_countPairs 5 = .ok (.aload_n 0, 1) := by decide +kernel
theorem dX1_countPairs_6 : decode cX1_countPairs 6 = .ok (.invokevirtual 79, 3) := by decide +kernel
theorem dX1_countPairs_9 : decode cX1_countPairs 9 = .ok (.if_icmp .ge 25, 3) := by decide +kernel
theorem dX1_countPairs_12 : decode cX1_countPairs 12 = .ok (.iload_n 1, 1) := by decide +kernel
theorem dX1_countPairs_13 : decode cX1_countPairs 13 = .ok (.aload_n 0, 1) := by decide +kernel
theorem dX1_countPairs_14 : decode cX1_countPairs 14 = .ok (.getfield 9, 3) := by decide +kernel
theorem dX1_countPairs_17 : decode cX1_countPairs 17 = .ok (.iload_n 2, 1) := by decide +kernel
theorem dX1_countPairs_18 : decode cX1_countPairs 18 = .ok (.invokestatic 60, 3) := by decide +kernel
theorem dX1_countPairs_21 : decode cX1_countPairs 21 = .ok (.invokestatic 86, 3) := by decide +kernel
theorem dX1_countPairs_24 : decode cX1_countPairs 24 = .ok (.iconst 1, 1) := by decide +kernel
theorem dX1_countPairs_25 : decode cX1_countPairs 25 = .ok (.isub, 1) := by decide +kernel
theorem dX1_countPairs_26 : decode cX1_countPairs 26 = .ok (.iadd, 1) := by decide +kernel
theorem dX1_countPairs_27 : decode cX1_countPairs 27 = .ok (.istore_n 1, 1) := by decide +kernel
theorem dX1_countPairs_28 : decode cX1_countPairs 28 = .ok (.iinc 2 1, 3) := by decide +kernel
theorem dX1_countPairs_31 : decode cX1_countPairs 31 = .ok (.goto (-27), 3) := by decide +kernel
theorem dX1_countPairs_34 : decode cX1_countPairs 34 = .ok (.iload_n 1, 1) := by decide +kernel
theorem dX1_countPairs_35 : decode cX1_countPairs 35 = .ok (.ireturn, 1) := by decide +kernel
set_option maxRecDepth 20000 in
theorem ggX1_countBites_X0_countSquares : GoodIn wsX1_countBites wsX0_countSquares := goodIn_r _ [8, 9, 10, 11, 12, 7, 13, 14, 15, 16, 17, 37, 38, 39, 40, 41, 42, 43] (by decide +kernel) (by decide +kernel)
set_option maxRecDepth 20000 in
theorem gX1_countBites_X0_countSquares : GoodIn wsX1_countBites (wsV RX1 92 RX0 yX0_countSquares wsX0_countSquares) := goodIn_app (goodIn_of _ (by decide +kernel)) ggX1_countBites_X0_countSquares
set_option maxRecDepth 20000 in
theorem ggX1_countBites_J6_bitCount_0f7a4 : GoodIn wsX1_countBites wsJ6_bitCount_0f7a4 := goodIn_r _ [21, 22, 23, 24] (by decide +kernel) (by decide +kernel)
set_option maxRecDepth 20000 in
theorem gX1_countBites_J6_bitCount_0f7a4 : GoodIn wsX1_countBites (va_wsS RX1 86 yJ6_bitCount_0f7a4 wsJ6_bitCount_0f7a4) := goodIn_app (goodIn_of _ (by decide +kernel)) ggX1_countBites_J6_bitCount_0f7a4
theorem dX1_countBites_0 : decode cX1_countBites 0 = .ok (.aload_n 0, 1) := by decide +kernel
theorem dX1_countBites_1 : decode cX1_countBites 1 = .ok (.getfield 33, 3) := by decide +kernel
theorem dX1_countBites_4 : decode cX1_countBites 4 = .ok (.ifCond .ne 17, 3) := by decide +kernel
theorem dX1_countBites_7 : decode cX1_countBites 7 = .ok (.aload_n 0, 1) := by decide +kernel
theorem dX1_countBites_8 : decode cX1_countBites 8 = .ok (.getfield 25, 3) := by decide +kernel
theorem dX1_countBites_11 : decode cX1_countBites 11 = .ok (.aload_n 0, 1) := by decide +kernel
theorem dX1_countBites_12 : decode cX1_countBites 12 = .ok (.getfield 50, 3) := by decide +kernel
theorem dX1_countBites_15 : decode cX1_countBites 15 = .ok (.invokevirtual 92, 3) := by decide +kernel
theorem dX1_countBites_18 : decode cX1_countBites 18 = .ok (.goto 10, 3) := by decide +kernel
theorem dX1_countBites_21 : decode cX1_countBites 21 = .ok (.aload_n 0, 1) := by decide +kernel
theorem dX1_countBites_22 : decode cX1_countBites 22 = .ok (.getfield 50, 3) := by decide +kernel
theorem dX1_countBites_25 : decode cX1_countBites 25 = .ok (.invokestatic 86, 3) := by decide +kernel
theorem dX1_countBites_28 : decode cX1_countBites 28 = .ok (.ireturn, 1) := by decide +kernel
set_option maxRecDepth 20000 in
theorem ggX1_hasBite_X1_countBites : GoodIn wsX1_hasBite wsX1_countBites := goodIn_r _ [5, 6, 7, 8, 9, 10, 11, 12, 13, 14, 15, 16, 17, 18, 19, 20, 21, 22, 23, 24, 25, 26, 27, 28, 29, 30, 31, 32, 33, 34, 35, 36, 37, 38, 39, 40, 41, 42, 43, 44, 45, 46, 47, 48] (by decide +kernel) (by decide +kernel)
set_option maxRecDepth 20000 in
theorem gX1_hasBite_X1_countBites : GoodIn wsX1_hasBite (wsV RX1 97 RX1 yX1_countBites wsX1_countBites) := goodIn_app (goodIn_of _ (by decide +kernel)) ggX1_hasBite_X1_countBites
theorem dX1_hasBite_0 : decode cX1_hasBite 0 = .ok (.iload_n 1, 1) := by decide +kernel
theorem dX1_hasBite_1 : decode cX1_hasBite 1 = .ok (.ifCond .lt 15, 3) := by decide +kernel
theorem dX1_hasBite_4 : decode cX1_hasBite 4 = .ok (.iload_n 1, 1) := by decide +kernel
theorem dX1_hasBite_5 : decode cX1_hasBite 5 = .ok (.aload_n 0, 1) := by decide +kernel
theorem dX1_hasBite_6 : decode cX1_hasBite 6 = .ok (.invokevirtual 97, 3) := by decide +kernel
theorem dX1_hasBite_9 : decode cX1_hasBite 9 = .ok (.if_icmp .ge 7, 3) := by decide +kernel
theorem dX1_hasBite_12 : decode cX1_hasBite 12 = .ok (.iconst 1, 1) := by decide +kernel
theorem dX1_hasBite_13 : decode cX1_hasBite 13 = .ok (.goto 4, 3) := by decide +kernel
theorem dX1_hasBite_16 : decode cX1_hasBite 16 = .ok (.iconst 0, 1) := by decide +kernel
theorem dX1_hasBite_17 : decode cX1_hasBite 17 = .ok (.ireturn, 1) := by decide +kernel
set_option maxRecDepth 20000 in
theorem ggX1_placeOfBite_X0_rowOfBite : GoodIn wsX1_placeOfBite wsX0_rowOfBite := goodIn_r _ [8, 9, 10, 11, 12, 7, 13, 14, 15, 16, 17, 36, 37, 38, 39, 40, 41, 42] (by decide +kernel) (by decide +kernel)
set_option maxRecDepth 20000 in
theorem gX1_placeOfBite_X0_rowOfBite : GoodIn wsX1_placeOfBite (wsV RX1 100 RX0 yX0_rowOfBite wsX0_rowOfBite) := goodIn_app (goodIn_of _ (by decide +kernel)) ggX1_placeOfBite_X0_rowOfBite
set_option maxRecDepth 20000 in
theorem ggX1_placeOfBite_X1_partOfBite : GoodIn wsX1_placeOfBite wsX1_partOfBite := goodIn_r _ [22, 23, 3, 24, 25, 26, 27, 28, 29, 30, 31, 32, 33, 34, 35] (by decide +kernel) (by decide +kernel)
set_option maxRecDepth 20000 in
theorem gX1_placeOfBite_X1_partOfBite : GoodIn wsX1_placeOfBite (wsV RX1 104 RX1 yX1_partOfBite wsX1_partOfBite) := goodIn_app (goodIn_of _ (by decide +kernel)) ggX1_placeOfBite_X1_partOfBite
theorem dX1_placeOfBite_0 : decode cX1_placeOfBite 0 = .ok (.aload_n 0, 1) := by decide +kernel
theorem dX1_placeOfBite_1 : decode cX1_placeOfBite 1 = .ok (.getfield 33, 3) := by decide +kernel
theorem dX1_placeOfBite_4 : decode cX1_placeOfBite 4 = .ok (.ifCond .ne 16, 3) := by decide +kernel
theorem dX1_placeOfBite_7 : decode cX1_placeOfBite 7 = .ok (.aload_n 0, 1) := by decide +kernel
theorem dX1_placeOfBite_8 : decode cX1_placeOfBite 8 = .ok (.getfield 25, 3) := by decide +kernel
theorem dX1_placeOfBite_11 : decode cX1_placeOfBite 11 = .ok (.aload_n 0, 1) := by decide +kernel
theorem dX1_placeOfBite_12 : decode cX1_placeOfBite 12 = .ok (.getfield 50, 3) := by decide +kernel
theorem dX1_placeOfBite_15 : decode cX1_placeOfBite 15 = .ok (.iload_n 1, 1) := by decide +kernel
theorem dX1_placeOfBite_16 : decode cX1_placeOfBite 16 = .ok (.invokevirtual 100, 3) := by decide +kernel
theorem dX1_placeOfBite_19 : decode cX1_placeOfBite 19 = .ok (.ireturn, 1) := by decide +kernel
theorem dX1_placeOfBite_20 : decode cX1_placeOfBite 20 = .ok (.aload_n 0, 1) := by decide +kernel
theorem dX1_placeOfBite_21 : decode cX1_placeOfBite 21 = .ok (.iload_n 1, 1) := by decide +kernel
theorem dX1_placeOfBite_22 : decode cX1_placeOfBite 22 = .ok (.invokevirtual 104, 3) := by decide +kernel
theorem dX1_placeOfBite_25 : decode cX1_placeOfBite 25 = .ok (.istore_n 2, 1) := by decide +kernel
theorem dX1_placeOfBite_26 : decode cX1_placeOfBite 26 = .ok (.aload_n 0, 1) := by decide +kernel
theorem dX1_placeOfBite_27 : decode cX1_placeOfBite 27 = .ok (.getfield 33, 3) := by decide +kernel
theorem dX1_placeOfBite_30 : decode cX1_placeOfBite 30 = .ok (.iconst 2, 1) := by decide +kernel
theorem dX1_placeOfBite_31 : decode cX1_placeOfBite 31 = .ok (.if_icmp .ne 15, 3) := by decide +kernel
theorem dX1_placeOfBite_34 : decode cX1_placeOfBite 34 = .ok (.iload_n 2, 1) := by decide +kernel
theorem dX1_placeOfBite_35 : decode cX1_placeOfBite 35 = .ok (.bipush 6, 2) := by decide +kernel
theorem dX1_placeOfBite_37 : decode cX1_placeOfBite 37 = .ok (.if_icmp .lt 9, 3) := by decide +kernel
theorem dX1_placeOfBite_40 : decode cX1_placeOfBite 40 = .ok (.iload_n 2, 1) := by decide +kernel
theorem dX1_placeOfBite_41 : decode cX1_placeOfBite 41 = .ok (.iconst 4, 1) := by decide +kernel
theorem dX1_placeOfBite_42 : decode cX1_placeOfBite 42 = .ok (.iadd, 1) := by decide +kernel
theorem dX1_placeOfBite_43 : decode cX1_placeOfBite 43 = .ok (.goto 4, 3) := by decide +kernel
theorem dX1_placeOfBite_46 : decode cX1_placeOfBite 46 = .ok (.iload_n 2, 1) := by decide +kernel
theorem dX1_placeOfBite_47 : decode cX1_placeOfBite 47 = .ok (.ireturn, 1) := by decide +kernel
set_option maxRecDepth 20000 in
theorem ggX1_sizeOfBite_X0_columnOfBite : GoodIn wsX1_sizeOfBite wsX0_columnOfBite := goodIn_r _ [9, 10, 11, 12, 13, 8, 14, 15, 16, 17, 18, 43, 44, 45, 46, 47, 48, 49] (by decide +kernel) (by decide +kernel)
set_option maxRecDepth 20000 in
theorem gX1_sizeOfBite_X0_columnOfBite : GoodIn wsX1_sizeOfBite (wsV RX1 107 RX0 yX0_columnOfBite wsX0_columnOfBite) := goodIn_app (goodIn_of _ (by decide +kernel)) ggX1_sizeOfBite_X0_columnOfBite
set_option maxRecDepth 20000 in
theorem ggX1_sizeOfBite_X1_partOfBite : GoodIn wsX1_sizeOfBite wsX1_partOfBite := goodIn_r _ [23, 4, 3, 31, 32, 33, 34, 35, 36, 37, 38, 39, 40, 41, 42] (by decide +kernel) (by decide +kernel)
set_option maxRecDepth 20000 in
theorem gX1_sizeOfBite_X1_partOfBite : GoodIn wsX1_sizeOfBite (wsV RX1 104 RX1 yX1_partOfBite wsX1_partOfBite) := goodIn_app (goodIn_of _ (by decide +kernel)) ggX1_sizeOfBite_X1_partOfBite
set_option maxRecDepth 20000 in
theorem ggX1_sizeOfBite_X3_at : GoodIn wsX1_sizeOfBite wsX3_at := goodIn_r _ [18] (by decide +kernel) (by decide +kernel)
set_option maxRecDepth 20000 in
theorem gX1_sizeOfBite_X3_at_n60 : GoodIn wsX1_sizeOfBite (wsX3_at) := ggX1_sizeOfBite_X3_at
set_option maxRecDepth 20000 in
theorem ggX1_sizeOfBite_J6_bitCount_0f7a4 : GoodIn wsX1_sizeOfBite wsJ6_bitCount_0f7a4 := goodIn_r _ [27, 28, 29, 30] (by decide +kernel) (by decide +kernel)
set_option maxRecDepth 20000 in
theorem gX1_sizeOfBite_J6_bitCount_0f7a4 : GoodIn wsX1_sizeOfBite (va_wsS RX1 86 yJ6_bitCount_0f7a4 wsJ6_bitCount_0f7a4) := goodIn_app (goodIn_of _ (by decide +kernel)) ggX1_sizeOfBite_J6_bitCount_0f7a4
theorem dX1_sizeOfBite_0 : decode cX1_sizeOfBite 0 = .ok (.aload_n 0, 1) := by decide +kernel
theorem dX1_sizeOfBite_1 : decode cX1_sizeOfBite 1 = .ok (.getfield 33, 3) := by decide +kernel
theorem dX1_sizeOfBite_4 : decode cX1_sizeOfBite 4 = .ok (.ifCond .ne 16, 3) := by decide +kernel
theorem dX1_sizeOfBite_7 : decode cX1_sizeOfBite 7 = .ok (.aload_n 0, 1) := by decide +kernel
theorem dX1_sizeOfBite_8 : decode cX1_sizeOfBite 8 = .ok (.getfield 25, 3) := by decide +kernel
theorem dX1_sizeOfBite_11 : decode cX1_sizeOfBite 11 = .ok (.aload_n 0, 1) := by decide +kernel
theorem dX1_sizeOfBite_12 : decode cX1_sizeOfBite 12 = .ok (.getfield 50, 3) := by decide +kernel
theorem dX1_sizeOfBite_15 : decode cX1_sizeOfBite 15 = .ok (.iload_n 1, 1) := by decide +kernel
theorem dX1_sizeOfBite_16 : decode cX1_sizeOfBite 16 = .ok (.invokevirtual 107, 3) := by decide +kernel
theorem dX1_sizeOfBite_19 : decode cX1_sizeOfBite 19 = .ok (.ireturn, 1) := by decide +kernel
theorem dX1_sizeOfBite_20 : decode cX1_sizeOfBite 20 = .ok (.aload_n 0, 1) := by decide +kernel
theorem dX1_sizeOfBite_21 : decode cX1_sizeOfBite 21 = .ok (.getfield 50, 3) := by decide +kernel
theorem dX1_sizeOfBite_24 : decode cX1_sizeOfBite 24 = .ok (.aload_n 0, 1) := by decide +kernel
theorem dX1_sizeOfBite_25 : decode cX1_sizeOfBite 25 = .ok (.getfield 9, 3) := by decide +kernel
theorem dX1_sizeOfBite_28 : decode cX1_sizeOfBite 28 = .ok (.aload_n 0, 1) := by decide +kernel
theorem dX1_sizeOfBite_29 : decode cX1_sizeOfBite 29 = .ok (.iload_n 1, 1) := by decide +kernel
theorem dX1_sizeOfBite_30 : decode cX1_sizeOfBite 30 = .ok (.invokevirtual 104, 3) := by decide +kernel
theorem dX1_sizeOfBite_33 : decode cX1_sizeOfBite 33 = .ok (.invokestatic 60, 3) := by decide +kernel
theorem dX1_sizeOfBite_36 : decode cX1_sizeOfBite 36 = .ok (.iand, 1) := by decide +kernel
theorem dX1_sizeOfBite_37 : decode cX1_sizeOfBite 37 = .ok (.invokestatic 86, 3) := by decide +kernel
theorem dX1_sizeOfBite_40 : decode cX1_sizeOfBite 40 = .ok (.ireturn, 1) := by decide +kernel
set_option maxRecDepth 20000 in
theorem ggX1_isWinning_X1_stateAfter : GoodIn wsX1_isWinning wsX1_stateAfter := goodIn_r _ [6, 7, 8, 9, 10, 11, 12, 13, 14, 15, 16, 17, 18, 19, 20, 21, 22, 23, 24, 25, 26, 27, 28, 29, 30, 31, 32, 33, 34, 35, 36, 37, 38, 39, 40, 41, 42, 43, 5, 44, 115, 116, 117, 118, 119, 120, 121, 122, 123, 124, 125, 126, 127, 128, 129, 130, 131, 132, 133] (by decide +kernel) (by decide +kernel)
set_option maxRecDepth 20000 in
theorem gX1_isWinning_X1_stateAfter : GoodIn wsX1_isWinning (wsV RX1 110 RX1 yX1_stateAfter wsX1_stateAfter) := goodIn_app (goodIn_of _ (by decide +kernel)) ggX1_isWinning_X1_stateAfter
set_option maxRecDepth 20000 in
theorem ggX1_isWinning_X1_factsOf : GoodIn wsX1_isWinning wsX1_factsOf := goodIn_r _ [48, 7, 8, 49, 50, 51, 52, 53, 14, 54, 55, 56, 16, 57, 58, 25, 26, 27, 28, 29, 30, 31, 32, 59, 60, 61, 62, 63, 64, 65, 66, 67, 68, 69, 70, 71, 72, 73, 74, 75, 76, 77, 78, 79, 80, 81, 19, 82, 83, 18, 20, 84, 85, 86, 87, 88, 89, 90, 91, 92, 93, 94, 95, 96, 97, 98, 99, 100, 5, 101, 102, 103, 104, 105, 106, 10, 107, 108, 109, 110, 111, 112, 113, 114, 115, 116, 117, 118, 119, 120, 121, 122, 123, 124, 125, 126, 127, 128, 129, 130, 131, 132, 133, 134, 135, 136] (by decide +kernel) (by decide +kernel)
set_option maxRecDepth 20000 in
theorem gX1_isWinning_X1_factsOf : GoodIn wsX1_isWinning (wsV RX1 113 RX1 yX1_factsOf wsX1_factsOf) := goodIn_app (goodIn_of _ (by decide +kernel)) ggX1_isWinning_X1_factsOf
set_option maxRecDepth 20000 in
theorem ggX1_isWinning_X3_lengthIn : GoodIn wsX1_isWinning wsX3_lengthIn := goodIn_r _ [87] (by decide +kernel) (by decide +kernel)
set_option maxRecDepth 20000 in
theorem gX1_isWinning_X3_lengthIn_n116 : GoodIn wsX1_isWinning (wsX3_lengthIn) := ggX1_isWinning_X3_lengthIn
set_option maxRecDepth 20000 in
theorem ggX1_isWinning_X3_isWon : GoodIn wsX1_isWinning wsX3_isWon := goodIn_r _ [89] (by decide +kernel) (by decide +kernel)
set_option maxRecDepth 20000 in
theorem gX1_isWinning_X3_isWon_n119 : GoodIn wsX1_isWinning (wsX3_isWon) := ggX1_isWinning_X3_isWon
theorem dX1_isWinning_0 : decode cX1_isWinning 0 = .ok (.aload_n 0, 1) := by decide +kernel
theorem dX1_isWinning_1 : decode cX1_isWinning 1 = .ok (.aload_n 0, 1) := by decide +kernel
theorem dX1_isWinning_2 : decode cX1_isWinning 2 = .ok (.iload_n 1, 1) := by decide +kernel
theorem dX1_isWinning_3 : decode cX1_isWinning 3 = .ok (.invokevirtual 110, 3) := by decide +kernel
theorem dX1_isWinning_6 : decode cX1_isWinning 6 = .ok (.invokevirtual 113, 3) := by decide +kernel
theorem dX1_isWinning_9 : decode cX1_isWinning 9 = .ok (.aload_n 0, 1) := by decide +kernel
theorem dX1_isWinning_10 : decode cX1_isWinning 10 = .ok (.getfield 37, 3) := by decide +kernel
theorem dX1_isWinning_13 : decode cX1_isWinning 13 = .ok (.invokestatic 116, 3) := by decide +kernel
theorem dX1_isWinning_16 : decode cX1_isWinning 16 = .ok (.aload_n 0, 1) := by decide +kernel
theorem dX1_isWinning_17 : decode cX1_isWinning 17 = .ok (.getfield 37, 3) := by decide +kernel
theorem dX1_isWinning_20 : decode cX1_isWinning 20 = .ok (.invokestatic 119, 3) := by decide +kernel
theorem dX1_isWinning_23 : decode cX1_isWinning 23 = .ok (.ifCond .ne 7, 3) := by decide +kernel
theorem dX1_isWinning_26 : decode cX1_isWinning 26 = .ok (.iconst 1, 1) := by decide +kernel
theorem dX1_isWinning_27 : decode cX1_isWinning 27 = .ok (.goto 4, 3) := by decide +kernel
theorem dX1_isWinning_30 : decode cX1_isWinning 30 = .ok (.iconst 0, 1) := by decide +kernel
theorem dX1_isWinning_31 : decode cX1_isWinning 31 = .ok (.ireturn, 1) := by decide +kernel
set_option maxRecDepth 20000 in
theorem ggX1_findAnswer_X1_countBites : GoodIn wsX1_findAnswer wsX1_countBites := goodIn_r _ [6, 7, 8, 9, 10, 11, 12, 13, 14, 15, 16, 17, 18, 19, 20, 21, 22, 23, 24, 25, 26, 27, 28, 29, 30, 130, 131, 132, 133, 134, 135, 136, 137, 138, 139, 140, 141, 142, 143, 144, 145, 146, 147, 148] (by decide +kernel) (by decide +kernel)
set_option maxRecDepth 20000 in
theorem gX1_findAnswer_X1_countBites : GoodIn wsX1_findAnswer (wsV RX1 97 RX1 yX1_countBites wsX1_countBites) := goodIn_app (goodIn_of _ (by decide +kernel)) ggX1_findAnswer_X1_countBites
set_option maxRecDepth 20000 in
theorem ggX1_findAnswer_X1_stateAfter : GoodIn wsX1_findAnswer wsX1_stateAfter := goodIn_r _ [34, 7, 8, 9, 35, 36, 37, 38, 13, 39, 15, 40, 41, 42, 43, 44, 45, 46, 47, 16, 17, 18, 19, 20, 21, 22, 23, 48, 49, 50, 51, 52, 53, 54, 55, 56, 57, 58, 5, 59, 130, 131, 132, 133, 134, 135, 136, 137, 138, 139, 140, 141, 142, 143, 144, 145, 146, 147, 148] (by decide +kernel) (by decide +kernel)
set_option maxRecDepth 20000 in
theorem gX1_findAnswer_X1_stateAfter : GoodIn wsX1_findAnswer (wsV RX1 110 RX1 yX1_stateAfter wsX1_stateAfter) := goodIn_app (goodIn_of _ (by decide +kernel)) ggX1_findAnswer_X1_stateAfter
set_option maxRecDepth 20000 in
theorem ggX1_findAnswer_X1_factsOf : GoodIn wsX1_findAnswer wsX1_factsOf := goodIn_r _ [63, 7, 8, 64, 65, 66, 67, 68, 13, 69, 70, 71, 15, 72, 73, 16, 17, 18, 19, 20, 21, 22, 23, 74, 75, 76, 77, 78, 79, 80, 81, 82, 83, 84, 85, 86, 87, 88, 89, 90, 91, 92, 93, 94, 95, 96, 42, 97, 98, 41, 43, 99, 100, 101, 102, 103, 104, 105, 106, 107, 108, 109, 110, 111, 112, 113, 114, 115, 5, 116, 117, 118, 119, 120, 121, 35, 122, 123, 124, 125, 126, 127, 128, 129, 130, 131, 132, 133, 134, 135, 136, 137, 138, 139, 140, 141, 142, 143, 144, 145, 146, 147, 148, 149, 150, 151] (by decide +kernel) (by decide +kernel)
set_option maxRecDepth 20000 in
theorem gX1_findAnswer_X1_factsOf : GoodIn wsX1_findAnswer (wsV RX1 113 RX1 yX1_factsOf wsX1_factsOf) := goodIn_app (goodIn_of _ (by decide +kernel)) ggX1_findAnswer_X1_factsOf
set_option maxRecDepth 20000 in
theorem ggX1_findAnswer_X3_lengthIn : GoodIn wsX1_findAnswer wsX3_lengthIn := goodIn_r _ [102] (by decide +kernel) (by decide +kernel)
set_option maxRecDepth 20000 in
theorem gX1_findAnswer_X3_lengthIn_n116 : GoodIn wsX1_findAnswer (wsX3_lengthIn) := ggX1_findAnswer_X3_lengthIn
set_option maxRecDepth 20000 in
theorem ggX1_findAnswer_X3_isWon : GoodIn wsX1_findAnswer wsX3_isWon := goodIn_r _ [104] (by decide +kernel) (by decide +kernel)
set_option maxRecDepth 20000 in
theorem gX1_findAnswer_X3_isWon_n119 : GoodIn wsX1_findAnswer (wsX3_isWon) := ggX1_findAnswer_X3_isWon
theorem dX1_findAnswer_0 : decode cX1_findAnswer 0 = .ok (.iconst (-1), 1) := by decide +kernel
theorem dX1_findAnswer_1 : decode cX1_findAnswer 1 = .ok (.istore_n 1, 1) := by decide +kernel
theorem dX1_findAnswer_2 : decode cX1_findAnswer 2 = .ok (.iconst (-1), 1) := by decide +kernel
theorem dX1_findAnswer_3 : decode cX1_findAnswer 3 = .ok (.istore_n 2, 1) := by decide +kernel
theorem dX1_findAnswer_4 : decode cX1_findAnswer 4 = .ok (.aload_n 0, 1) := by decide +kernel
theorem dX1_findAnswer_5 : decode cX1_findAnswer 5 = .ok (.invokevirtual 97, 3) := by decide +kernel
theorem dX1_findAnswer_8 : decode cX1_findAnswer 8 = .ok (.istore_n 3, 1) := by decide +kernel
theorem dX1_findAnswer_9 : decode cX1_findAnswer 9 = .ok (.iconst 0, 1) := by decide +kernel
theorem dX1_findAnswer_10 : decode cX1_findAnswer 10 = .ok (.istore 4, 2) := by decide +kernel
theorem dX1_findAnswer_12 : decode cX1_findAnswer 12 = .ok (.iload 4, 2) := by decide +kernel
theorem dX1_findAnswer_14 : decode cX1_findAnswer 14 = .ok (.iload_n 3, 1) := by decide +kernel
theorem dX1_findAnswer_15 : decode cX1_findAnswer 15 = .ok (.if_icmp .ge 55, 3) := by decide +kernel
theorem dX1_findAnswer_18 : decode cX1_findAnswer 18 = .ok (.aload_n 0, 1) := by decide +kernel
theorem dX1_findAnswer_19 : decode cX1_findAnswer 19 = .ok (.aload_n 0, 1) := by decide +kernel
theorem dX1_findAnswer_20 : decode cX1_findAnswer 20 = .ok (.iload 4, 2) := by decide +kernel
theorem dX1_findAnswer_22 : decode cX1_findAnswer 22 = .ok (.invokevirtual 110, 3) := by decide +kernel
theorem dX1_findAnswer_25 : decode cX1_findAnswer 25 = .ok (.invokevirtual 113, 3) := by decide +kernel
theorem dX1_findAnswer_28 : decode cX1_findAnswer 28 = .ok (.aload_n 0, 1) := by decide +kernel
theorem dX1_findAnswer_29 : decode cX1_findAnswer 29 = .ok (.getfield 37, 3) := by decide +kernel
theorem dX1_findAnswer_32 : decode cX1_findAnswer 32 = .ok (.invokestatic 116, 3) := by decide +kernel
theorem dX1_findAnswer_35 : decode cX1_findAnswer 35 = .ok (.istore 5, 2) := by decide +kernel
theorem dX1_findAnswer_37 : decode cX1_findAnswer 37 = .ok (.iload 5, 2) := by decide +kernel
theorem dX1_findAnswer_39 : decode cX1_findAnswer 39 = .ok (.aload_n 0, 1) := by decide +kernel
theorem dX1_findAnswer_40 : decode cX1_findAnswer 40 = .ok (.getfield 37, 3) := by decide +kernel
theorem dX1_findAnswer_43 : decode cX1_findAnswer 43 = .ok (.invokestatic 119, 3) := by decide +kernel
theorem dX1_findAnswer_46 : decode cX1_findAnswer 46 = .ok (.ifCond .ne 6, 3) := by decide +kernel
theorem dX1_findAnswer_49 : decode cX1_findAnswer 49 = .ok (.iload 4, 2) := by decide +kernel
theorem dX1_findAnswer_51 : decode cX1_findAnswer 51 = .ok (.ireturn, 1) := by decide +kernel
theorem dX1_findAnswer_52 : decode cX1_findAnswer 52 = .ok (.iload 5, 2) := by decide +kernel
theorem dX1_findAnswer_54 : decode cX1_findAnswer 54 = .ok (.iload_n 2, 1) := by decide +kernel
theorem dX1_findAnswer_55 : decode cX1_findAnswer 55 = .ok (.if_icmp .le 9, 3) := by decide +kernel
theorem dX1_findAnswer_58 : decode cX1_findAnswer 58 = .ok (.iload 5, 2) := by decide +kernel
theorem dX1_findAnswer_60 : decode cX1_findAnswer 60 = .ok (.istore_n 2, 1) := by decide +kernel
theorem dX1_findAnswer_61 : decode cX1_findAnswer 61 = .ok (.iload 4, 2) := by decide +kernel
theorem dX1_findAnswer_63 : decode cX1_findAnswer 63 = .ok (.istore_n 1, 1) := by decide +kernel
theorem dX1_findAnswer_64 : decode cX1_findAnswer 64 = .ok (.iinc 4 1, 3) := by decide +kernel
theorem dX1_findAnswer_67 : decode cX1_findAnswer 67 = .ok (.goto (-55), 3) := by decide +kernel
theorem dX1_findAnswer_70 : decode cX1_findAnswer 70 = .ok (.iload_n 1, 1) := by decide +kernel
theorem dX1_findAnswer_71 : decode cX1_findAnswer 71 = .ok (.ireturn, 1) := by decide +kernel
set_option maxRecDepth 20000 in
theorem ggX1_findBiteTo_X1_countBites : GoodIn wsX1_findBiteTo wsX1_countBites := goodIn_r _ [5, 6, 7, 8, 9, 10, 11, 12, 13, 14, 15, 16, 17, 18, 19, 20, 21, 22, 23, 24, 25, 26, 27, 28, 29, 129, 130, 131, 132, 133, 134, 135, 136, 137, 138, 139, 140, 141, 142, 143, 144, 145, 146, 147] (by decide +kernel) (by decide +kernel)
set_option maxRecDepth 20000 in
theorem gX1_findBiteTo_X1_countBites : GoodIn wsX1_findBiteTo (wsV RX1 97 RX1 yX1_countBites wsX1_countBites) := goodIn_app (goodIn_of _ (by decide +kernel)) ggX1_findBiteTo_X1_countBites
set_option maxRecDepth 20000 in
theorem ggX1_findBiteTo_X1_stateAfter : GoodIn wsX1_findBiteTo wsX1_stateAfter := goodIn_r _ [33, 6, 7, 8, 34, 35, 36, 37, 12, 38, 14, 39, 40, 41, 42, 43, 44, 45, 46, 15, 16, 17, 18, 19, 20, 21, 22, 47, 48, 49, 50, 51, 52, 53, 54, 55, 56, 57, 4, 58, 129, 130, 131, 132, 133, 134, 135, 136, 137, 138, 139, 140, 141, 142, 143, 144, 145, 146, 147] (by decide +kernel) (by decide +kernel)
set_option maxRecDepth 20000 in
theorem gX1_findBiteTo_X1_stateAfter : GoodIn wsX1_findBiteTo (wsV RX1 110 RX1 yX1_stateAfter wsX1_stateAfter) := goodIn_app (goodIn_of _ (by decide +kernel)) ggX1_findBiteTo_X1_stateAfter
set_option maxRecDepth 20000 in
theorem ggX1_findBiteTo_X1_factsOf : GoodIn wsX1_findBiteTo wsX1_factsOf := goodIn_r _ [62, 6, 7, 63, 64, 65, 66, 67, 12, 68, 69, 70, 14, 71, 72, 15, 16, 17, 18, 19, 20, 21, 22, 73, 74, 75, 76, 77, 78, 79, 80, 81, 82, 83, 84, 85, 86, 87, 88, 89, 90, 91, 92, 93, 94, 95, 41, 96, 97, 40, 42, 98, 99, 100, 101, 102, 103, 104, 105, 106, 107, 108, 109, 110, 111, 112, 113, 114, 4, 115, 116, 117, 118, 119, 120, 34, 121, 122, 123, 124, 125, 126, 127, 128, 129, 130, 131, 132, 133, 134, 135, 136, 137, 138, 139, 140, 141, 142, 143, 144, 145, 146, 147, 148, 149, 150] (by decide +kernel) (by decide +kernel)
set_option maxRecDepth 20000 in
theorem gX1_findBiteTo_X1_factsOf : GoodIn wsX1_findBiteTo (wsV RX1 113 RX1 yX1_factsOf wsX1_factsOf) := goodIn_app (goodIn_of _ (by decide +kernel)) ggX1_findBiteTo_X1_factsOf
set_option maxRecDepth 20000 in
theorem ggX1_findBiteTo_X3_worthIn : GoodIn wsX1_findBiteTo wsX3_worthIn := goodIn_r _ [99] (by decide +kernel) (by decide +kernel)
set_option maxRecDepth 20000 in
theorem gX1_findBiteTo_X3_worthIn_n122 : GoodIn wsX1_findBiteTo (wsX3_worthIn) := ggX1_findBiteTo_X3_worthIn
theorem dX1_findBiteTo_0 : decode cX1_findBiteTo 0 = .ok (.aload_n 0, 1) := by decide +kernel
theorem dX1_findBiteTo_1 : decode cX1_findBiteTo 1 = .ok (.invokevirtual 97, 3) := by decide +kernel
theorem dX1_findBiteTo_4 : decode cX1_findBiteTo 4 = .ok (.istore_n 2, 1) := by decide +kernel
theorem dX1_findBiteTo_5 : decode cX1_findBiteTo 5 = .ok (.iconst 0, 1) := by decide +kernel
theorem dX1_findBiteTo_6 : decode cX1_findBiteTo 6 = .ok (.istore_n 3, 1) := by decide +kernel
theorem dX1_findBiteTo_7 : decode cX1_findBiteTo 7 = .ok (.iload_n 3, 1) := by decide +kernel
theorem dX1_findBiteTo_8 : decode cX1_findBiteTo 8 = .ok (.iload_n 2, 1) := by decide +kernel
theorem dX1_findBiteTo_9 : decode cX1_findBiteTo 9 = .ok (.if_icmp .ge 27, 3) := by decide +kernel
theorem dX1_findBiteTo_12 : decode cX1_findBiteTo 12 = .ok (.aload_n 0, 1) := by decide +kernel
theorem dX1_findBiteTo_13 : decode cX1_findBiteTo 13 = .ok (.aload_n 0, 1) := by decide +kernel
theorem dX1_findBiteTo_14 : decode cX1_findBiteTo 14 = .ok (.iload_n 3, 1) := by decide +kernel
theorem dX1_findBiteTo_15 : decode cX1_findBiteTo 15 = .ok (.invokevirtual 110, 3) := by decide +kernel
theorem dX1_findBiteTo_18 : decode cX1_findBiteTo 18 = .ok (.invokevirtual 113, 3) := by decide +kernel
theorem dX1_findBiteTo_21 : decode cX1_findBiteTo 21 = .ok (.invokestatic 122, 3) := by decide +kernel
theorem dX1_findBiteTo_24 : decode cX1_findBiteTo 24 = .ok (.iload_n 1, 1) := by decide +kernel
theorem dX1_findBiteTo_25 : decode cX1_findBiteTo 25 = .ok (.if_icmp .ne 5, 3) := by decide +kernel
theorem dX1_findBiteTo_28 : decode cX1_findBiteTo 28 = .ok (.iload_n 3, 1) := by decide +kernel
theorem dX1_findBiteTo_29 : decode cX1_findBiteTo 29 = .ok (.ireturn, 1) := by decide +kernel
theorem dX1_findBiteTo_30 : decode cX1_findBiteTo 30 = .ok (.iinc 3 1, 3) := by decide +kernel
theorem dX1_findBiteTo_33 : decode cX1_findBiteTo 33 = .ok (.goto (-26), 3) := by decide +kernel
theorem dX1_findBiteTo_36 : decode cX1_findBiteTo 36 = .ok (.iconst (-1), 1) := by decide +kernel
theorem dX1_findBiteTo_37 : decode cX1_findBiteTo 37 = .ok (.ireturn, 1) := by decide +kernel
set_option maxRecDepth 20000 in
theorem ggX1_doBite_X1_stateAfter : GoodIn wsX1_doBite wsX1_stateAfter := goodIn_r _ [9, 10, 11, 4, 12, 13, 14, 15, 16, 17, 18, 19, 20, 21, 22, 23, 24, 25, 26, 27, 28, 29, 30, 31, 32, 33, 34, 35, 36, 37, 38, 39, 40, 41, 42, 43, 44, 45, 8, 46, 47, 48, 49, 50, 51, 52, 53, 54, 55, 56, 57, 58, 59, 60, 61, 62, 63, 64, 65] (by decide +kernel) (by decide +kernel)
set_option maxRecDepth 20000 in
theorem gX1_doBite_X1_stateAfter : GoodIn wsX1_doBite (wsV RX1 110 RX1 yX1_stateAfter wsX1_stateAfter) := goodIn_app (goodIn_of _ (by decide +kernel)) ggX1_doBite_X1_stateAfter
theorem dX1_doBite_0 : decode cX1_doBite 0 = .ok (.aload_n 0, 1) := by decide +kernel
theorem dX1_doBite_1 : decode cX1_doBite 1 = .ok (.getfield 53, 3) := by decide +kernel
theorem dX1_doBite_4 : decode cX1_doBite 4 = .ok (.ifCond .lt 69, 3) := by decide +kernel
theorem dX1_doBite_7 : decode cX1_doBite 7 = .ok (.aload_n 0, 1) := by decide +kernel
theorem dX1_doBite_8 : decode cX1_doBite 8 = .ok (.getfield 53, 3) := by decide +kernel
theorem dX1_doBite_11 : decode cX1_doBite 11 = .ok (.aload_n 0, 1) := by decide +kernel
theorem dX1_doBite_12 : decode cX1_doBite 12 = .ok (.getfield 15, 3) := by decide +kernel
theorem dX1_doBite_15 : decode cX1_doBite 15 = .ok (.arraylength, 1) := by decide +kernel
theorem dX1_doBite_16 : decode cX1_doBite 16 = .ok (.if_icmp .ge 57, 3) := by decide +kernel
theorem dX1_doBite_19 : decode cX1_doBite 19 = .ok (.aload_n 0, 1) := by decide +kernel
theorem dX1_doBite_20 : decode cX1_doBite 20 = .ok (.getfield 53, 3) := by decide +kernel
theorem dX1_doBite_23 : decode cX1_doBite 23 = .ok (.aload_n 0, 1) := by decide +kernel
theorem dX1_doBite_24 : decode cX1_doBite 24 = .ok (.getfield 18, 3) := by decide +kernel
theorem dX1_doBite_27 : decode cX1_doBite 27 = .ok (.arraylength, 1) := by decide +kernel
theorem dX1_doBite_28 : decode cX1_doBite 28 = .ok (.if_icmp .ge 45, 3) := by decide +kernel
theorem dX1_doBite_31 : decode cX1_doBite 31 = .ok (.aload_n 0, 1) := by decide +kernel
theorem dX1_doBite_32 : decode cX1_doBite 32 = .ok (.getfield 15, 3) := by decide +kernel
theorem dX1_doBite_35 : decode cX1_doBite 35 = .ok (.aload_n 0, 1) := by decide +kernel
theorem dX1_doBite_36 : decode cX1_doBite 36 = .ok (.getfield 53, 3) := by decide +kernel
theorem dX1_doBite_39 : decode cX1_doBite 39 = .ok (.iload_n 1, 1) := by decide +kernel
theorem dX1_doBite_40 : decode cX1_doBite 40 = .ok (.iastore, 1) := by decide +kernel
theorem dX1_doBite_41 : decode cX1_doBite 41 = .ok (.aload_n 0, 1) := by decide +kernel
theorem dX1_doBite_42 : decode cX1_doBite 42 = .ok (.getfield 18, 3) := by decide +kernel
theorem dX1_doBite_45 : decode cX1_doBite 45 = .ok (.aload_n 0, 1) := by decide +kernel
theorem dX1_doBite_46 : decode cX1_doBite 46 = .ok (.getfield 53, 3) := by decide +kernel
theorem dX1_doBite_49 : decode cX1_doBite 49 = .ok (.aload_n 0, 1) := by decide +kernel
theorem dX1_doBite_50 : decode cX1_doBite 50 = .ok (.getfield 50, 3) := by decide +kernel
theorem dX1_doBite_53 : decode cX1_doBite 53 = .ok (.iastore, 1) := by decide +kernel
theorem dX1_doBite_54 : decode cX1_doBite 54 = .ok (.aload_n 0, 1) := by decide +kernel
theorem dX1_doBite_55 : decode cX1_doBite 55 = .ok (.dup, 1) := by decide +kernel
theorem dX1_doBite_56 : decode cX1_doBite 56 = .ok (.getfield 53, 3) := by decide +kernel
theorem dX1_doBite_59 : decode cX1_doBite 59 = .ok (.iconst 1, 1) := by decide +kernel
theorem dX1_doBite_60 : decode cX1_doBite 60 = .ok (.iadd, 1) := by decide +kernel
theorem dX1_doBite_61 : decode cX1_doBite 61 = .ok (.putfield 53, 3) := by decide +kernel
theorem dX1_doBite_64 : decode cX1_doBite 64 = .ok (.aload_n 0, 1) := by decide +kernel
theorem dX1_doBite_65 : decode cX1_doBite 65 = .ok (.aload_n 0, 1) := by decide +kernel
theorem dX1_doBite_66 : decode cX1_doBite 66 = .ok (.iload_n 1, 1) := by decide +kernel
theorem dX1_doBite_67 : decode cX1_doBite 67 = .ok (.invokevirtual 110, 3) := by decide +kernel
theorem dX1_doBite_70 : decode cX1_doBite 70 = .ok (.putfield 50, 3) := by decide +kernel
theorem dX1_doBite_73 : decode cX1_doBite 73 = .ok (.return_, 1) := by decide +kernel
set_option maxRecDepth 20000 in
theorem ggX1_undoBite_X3_at : GoodIn wsX1_undoBite wsX3_at := goodIn_r _ [6] (by decide +kernel) (by decide +kernel)
set_option maxRecDepth 20000 in
theorem gX1_undoBite_X3_at_n60 : GoodIn wsX1_undoBite (wsX3_at) := ggX1_undoBite_X3_at
theorem dX1_undoBite_0 : decode cX1_undoBite 0 = .ok (.aload_n 0, 1) := by decide +kernel
theorem dX1_undoBite_1 : decode cX1_undoBite 1 = .ok (.getfield 53, 3) := by decide +kernel
theorem dX1_undoBite_4 : decode cX1_undoBite 4 = .ok (.ifCond .le 28, 3) := by decide +kernel
theorem dX1_undoBite_7 : decode cX1_undoBite 7 = .ok (.aload_n 0, 1) := by decide +kernel
theorem dX1_undoBite_8 : decode cX1_undoBite 8 = .ok (.dup, 1) := by decide +kernel
theorem dX1_undoBite_9 : decode cX1_undoBite 9 = .ok (.getfield 53, 3) := by decide +kernel
theorem dX1_undoBite_12 : decode cX1_undoBite 12 = .ok (.iconst 1, 1) := by decide +kernel
theorem dX1_undoBite_13 : decode cX1_undoBite 13 = .ok (.isub, 1) := by decide +kernel
theorem dX1_undoBite_14 : decode cX1_undoBite 14 = .ok (.putfield 53, 3) := by decide +kernel
theorem dX1_undoBite_17 : decode cX1_undoBite 17 = .ok (.aload_n 0, 1) := by decide +kernel
theorem dX1_undoBite_18 : decode cX1_undoBite 18 = .ok (.aload_n 0, 1) := by decide +kernel
theorem dX1_undoBite_19 : decode cX1_undoBite 19 = .ok (.getfield 18, 3) := by decide +kernel
theorem dX1_undoBite_22 : decode cX1_undoBite 22 = .ok (.aload_n 0, 1) := by decide +kernel
theorem dX1_undoBite_23 : decode cX1_undoBite 23 = .ok (.getfield 53, 3) := by decide +kernel
theorem dX1_undoBite_26 : decode cX1_undoBite 26 = .ok (.invokestatic 60, 3) := by decide +kernel
theorem dX1_undoBite_29 : decode cX1_undoBite 29 = .ok (.putfield 50, 3) := by decide +kernel
theorem dX1_undoBite_32 : decode cX1_undoBite 32 = .ok (.return_, 1) := by decide +kernel
set_option maxRecDepth 20000 in
theorem ggX1_factsOf_X0_solve : GoodIn wsX1_factsOf wsX0_solve := goodIn_r _ [9, 10, 11, 12, 13, 14, 15, 16, 17, 8, 18, 19, 20, 21, 22, 23, 24, 25, 26, 27, 28, 29, 30, 31, 32, 33, 34, 35, 36, 37, 38, 39, 40, 41, 42, 43, 44, 45, 46, 47, 48, 49, 50, 51, 52, 53, 54, 55, 56, 57, 58, 59, 60, 61, 62, 63, 64, 96, 97, 98, 99, 100, 101, 102, 103, 104, 105] (by decide +kernel) (by decide +kernel)
set_option maxRecDepth 20000 in
theorem gX1_factsOf_X0_solve : GoodIn wsX1_factsOf (wsV RX1 125 RX0 yX0_solve wsX0_solve) := goodIn_app (goodIn_of _ (by decide +kernel)) ggX1_factsOf_X0_solve
set_option maxRecDepth 20000 in
theorem ggX1_factsOf_X3_at : GoodIn wsX1_factsOf wsX3_at := goodIn_r _ [22] (by decide +kernel) (by decide +kernel)
set_option maxRecDepth 20000 in
theorem gX1_factsOf_X3_at_n60 : GoodIn wsX1_factsOf (wsX3_at) := ggX1_factsOf_X3_at
set_option maxRecDepth 20000 in
theorem ggX1_factsOf_X1_solve : GoodIn wsX1_factsOf wsX1_solve := goodIn_r _ [69, 70, 4, 3, 71, 72, 73, 68, 74, 75, 76, 77, 78, 79, 80, 81, 33, 34, 35, 36, 37, 38, 39, 20, 21, 22, 82, 41, 42, 43, 44, 45, 46, 47, 48, 49, 50, 51, 52, 53, 54, 55, 56, 83, 58, 59, 60, 61, 62, 63, 64, 84, 85, 86, 87, 88, 89, 90, 91, 92, 93, 94, 95, 103, 104, 105] (by decide +kernel) (by decide +kernel)
set_option maxRecDepth 20000 in
theorem gX1_factsOf_X1_solve : GoodIn wsX1_factsOf (wsV RX1 129 RX1 yX1_solve wsX1_solve) := goodIn_app (goodIn_of _ (by decide +kernel)) ggX1_factsOf_X1_solve
theorem dX1_factsOf_0 : decode cX1_factsOf 0 = .ok (.aload_n 0, 1) := by decide +kernel
theorem dX1_factsOf_1 : decode cX1_factsOf 1 = .ok (.getfield 33, 3) := by decide +kernel
theorem dX1_factsOf_4 : decode cX1_factsOf 4 = .ok (.ifCond .ne 22, 3) := by decide +kernel
theorem dX1_factsOf_7 : decode cX1_factsOf 7 = .ok (.aload_n 0, 1) := by decide +kernel
theorem dX1_factsOf_8 : decode cX1_factsOf 8 = .ok (.getfield 25, 3) := by decide +kernel
theorem dX1_factsOf_11 : decode cX1_factsOf 11 = .ok (.invokevirtual 125, 3) := by decide +kernel
theorem dX1_factsOf_14 : decode cX1_factsOf 14 = .ok (.aload_n 0, 1) := by decide +kernel
theorem dX1_factsOf_15 : decode cX1_factsOf 15 = .ok (.getfield 25, 3) := by decide +kernel
theorem dX1_factsOf_18 : decode cX1_factsOf 18 = .ok (.getfield 128, 3) := by decide +kernel
theorem dX1_factsOf_21 : decode cX1_factsOf 21 = .ok (.iload_n 1, 1) := by decide +kernel
theorem dX1_factsOf_22 : decode cX1_factsOf 22 = .ok (.invokestatic 60, 3) := by decide +kernel
theorem dX1_factsOf_25 : decode cX1_factsOf 25 = .ok (.ireturn, 1) := by decide +kernel
theorem dX1_factsOf_26 : decode cX1_factsOf 26 = .ok (.aload_n 0, 1) := by decide +kernel
theorem dX1_factsOf_27 : decode cX1_factsOf 27 = .ok (.getfield 43, 3) := by decide +kernel
theorem dX1_factsOf_30 : decode cX1_factsOf 30 = .ok (.ifCond .ne 7, 3) := by decide +kernel
theorem dX1_factsOf_33 : decode cX1_factsOf 33 = .ok (.aload_n 0, 1) := by decide +kernel
theorem dX1_factsOf_34 : decode cX1_factsOf 34 = .ok (.invokevirtual 129, 3) := by decide +kernel
theorem dX1_factsOf_37 : decode cX1_factsOf 37 = .ok (.aload_n 0, 1) := by decide +kernel
theorem dX1_factsOf_38 : decode cX1_factsOf 38 = .ok (.getfield 22, 3) := by decide +kernel
theorem dX1_factsOf_41 : decode cX1_factsOf 41 = .ok (.iload_n 1, 1) := by decide +kernel
theorem dX1_factsOf_42 : decode cX1_factsOf 42 = .ok (.invokestatic 60, 3) := by decide +kernel
theorem dX1_factsOf_45 : decode cX1_factsOf 45 = .ok (.ireturn, 1) := by decide +kernel
set_option maxRecDepth 20000 in
theorem ggX1_stateAfter_X0_rankAfter : GoodIn wsX1_stateAfter wsX0_rankAfter := goodIn_r _ [9, 10, 11, 12, 13, 14, 15, 16, 17, 8, 18, 19, 20, 21, 22, 23, 24, 25, 26, 27, 28, 29, 30, 31, 32, 33, 34, 52, 53, 54, 55, 56, 57, 58] (by decide +kernel) (by decide +kernel)
set_option maxRecDepth 20000 in
theorem gX1_stateAfter_X0_rankAfter : GoodIn wsX1_stateAfter (wsV RX1 130 RX0 yX0_rankAfter wsX0_rankAfter) := goodIn_app (goodIn_of _ (by decide +kernel)) ggX1_stateAfter_X0_rankAfter
set_option maxRecDepth 20000 in
theorem ggX1_stateAfter_X1_partOfBite : GoodIn wsX1_stateAfter wsX1_partOfBite := goodIn_r _ [39, 4, 3, 40, 41, 42, 43, 44, 45, 46, 47, 48, 49, 50, 51] (by decide +kernel) (by decide +kernel)
set_option maxRecDepth 20000 in
theorem gX1_stateAfter_X1_partOfBite : GoodIn wsX1_stateAfter (wsV RX1 104 RX1 yX1_partOfBite wsX1_partOfBite) := goodIn_app (goodIn_of _ (by decide +kernel)) ggX1_stateAfter_X1_partOfBite
set_option maxRecDepth 20000 in
theorem ggX1_stateAfter_X3_at : GoodIn wsX1_stateAfter wsX3_at := goodIn_r _ [26] (by decide +kernel) (by decide +kernel)
set_option maxRecDepth 20000 in
theorem gX1_stateAfter_X3_at_n60 : GoodIn wsX1_stateAfter (wsX3_at) := ggX1_stateAfter_X3_at
theorem dX1_stateAfter_0 : decode cX1_stateAfter 0 = .ok (.aload_n 0, 1) := by decide +kernel
theorem dX1_stateAfter_1 : decode cX1_stateAfter 1 = .ok (.getfield 33, 3) := by decide +kernel
theorem dX1_stateAfter_4 : decode cX1_stateAfter 4 = .ok (.ifCond .ne 16, 3) := by decide +kernel
theorem dX1_stateAfter_7 : decode cX1_stateAfter 7 = .ok (.aload_n 0, 1) := by decide +kernel
theorem dX1_stateAfter_8 : decode cX1_stateAfter 8 = .ok (.getfield 25, 3) := by decide +kernel
theorem dX1_stateAfter_11 : decode cX1_stateAfter 11 = .ok (.aload_n 0, 1) := by decide +kernel
theorem dX1_stateAfter_12 : decode cX1_stateAfter 12 = .ok (.getfield 50, 3) := by decide +kernel
theorem dX1_stateAfter_15 : decode cX1_stateAfter 15 = .ok (.iload_n 1, 1) := by decide +kernel
theorem dX1_stateAfter_16 : decode cX1_stateAfter 16 = .ok (.invokevirtual 130, 3) := by decide +kernel
theorem dX1_stateAfter_19 : decode cX1_stateAfter 19 = .ok (.ireturn, 1) := by decide +kernel
theorem dX1_stateAfter_20 : decode cX1_stateAfter 20 = .ok (.aload_n 0, 1) := by decide +kernel
theorem dX1_stateAfter_21 : decode cX1_stateAfter 21 = .ok (.getfield 50, 3) := by decide +kernel
theorem dX1_stateAfter_24 : decode cX1_stateAfter 24 = .ok (.aload_n 0, 1) := by decide +kernel
theorem dX1_stateAfter_25 : decode cX1_stateAfter 25 = .ok (.getfield 9, 3) := by decide +kernel
theorem dX1_stateAfter_28 : decode cX1_stateAfter 28 = .ok (.aload_n 0, 1) := by decide +kernel
theorem dX1_stateAfter_29 : decode cX1_stateAfter 29 = .ok (.iload_n 1, 1) := by decide +kernel
theorem dX1_stateAfter_30 : decode cX1_stateAfter 30 = .ok (.invokevirtual 104, 3) := by decide +kernel
theorem dX1_stateAfter_33 : decode cX1_stateAfter 33 = .ok (.invokestatic 60, 3) := by decide +kernel
theorem dX1_stateAfter_36 : decode cX1_stateAfter 36 = .ok (.iconst (-1), 1) := by decide +kernel
theorem dX1_stateAfter_37 : decode cX1_stateAfter 37 = .ok (.ixor, 1) := by decide +kernel
theorem dX1_stateAfter_38 : decode cX1_stateAfter 38 = .ok (.iand, 1) := by decide +kernel
theorem dX1_stateAfter_39 : decode cX1_stateAfter 39 = .ok (.ireturn, 1) := by decide +kernel
theorem dX1_partOfBite_0 : decode cX1_partOfBite 0 = .ok (.iload_n 1, 1) := by decide +kernel
theorem dX1_partOfBite_1 : decode cX1_partOfBite 1 = .ok (.istore_n 2, 1) := by decide +kernel
theorem dX1_partOfBite_2 : decode cX1_partOfBite 2 = .ok (.iconst 0, 1) := by decide +kernel
theorem dX1_partOfBite_3 : decode cX1_partOfBite 3 = .ok (.istore_n 3, 1) := by decide +kernel
theorem dX1_partOfBite_4 : decode cX1_partOfBite 4 = .ok (.iload_n 3, 1) := by decide +kernel
theorem dX1_partOfBite_5 : decode cX1_partOfBite 5 = .ok (.aload_n 0, 1) := by decide +kernel
theorem dX1_partOfBite_6 : decode cX1_partOfBite 6 = .ok (.getfield 9, 3) := by decide +kernel
theorem dX1_partOfBite_9 : decode cX1_partOfBite 9 = .ok (.arraylength, 1) := by decide +kernel
theorem dX1_partOfBite_10 : decode cX1_partOfBite 10 = .ok (.if_icmp .ge 29, 3) := by decide +kernel
theorem dX1_partOfBite_13 : decode cX1_partOfBite 13 = .ok (.aload_n 0, 1) := by decide +kernel
theorem dX1_partOfBite_14 : decode cX1_partOfBite 14 = .ok (.getfield 50, 3) := by decide +kernel
theorem dX1_partOfBite_17 : decode cX1_partOfBite 17 = .ok (.iload_n 3, 1) := by decide +kernel
theorem dX1_partOfBite_18 : decode cX1_partOfBite 18 = .ok (.ishr, 1) := by decide +kernel
theorem dX1_partOfBite_19 : decode cX1_partOfBite 19 = .ok (.iconst 1, 1) := by decide +kernel
theorem dX1_partOfBite_20 : decode cX1_partOfBite 20 = .ok (.iand, 1) := by decide +kernel
theorem dX1_partOfBite_21 : decode cX1_partOfBite 21 = .ok (.ifCond .eq 12, 3) := by decide +kernel
theorem dX1_partOfBite_24 : decode cX1_partOfBite 24 = .ok (.iload_n 2, 1) := by decide +kernel
theorem dX1_partOfBite_25 : decode cX1_partOfBite 25 = .ok (.ifCond .ne 5, 3) := by decide +kernel
theorem dX1_partOfBite_28 : decode cX1_partOfBite 28 = .ok (.iload_n 3, 1) := by decide +kernel
theorem dX1_partOfBite_29 : decode cX1_partOfBite 29 = .ok (.ireturn, 1) := by decide +kernel
theorem dX1_partOfBite_30 : decode cX1_partOfBite 30 = .ok (.iinc 2 (-1), 3) := by decide +kernel
theorem dX1_partOfBite_33 : decode cX1_partOfBite 33 = .ok (.iinc 3 1, 3) := by decide +kernel
theorem dX1_partOfBite_36 : decode cX1_partOfBite 36 = .ok (.goto (-32), 3) := by decide +kernel
theorem dX1_partOfBite_39 : decode cX1_partOfBite 39 = .ok (.iconst (-1), 1) := by decide +kernel
theorem dX1_partOfBite_40 : decode cX1_partOfBite 40 = .ok (.ireturn, 1) := by decide +kernel
set_option maxRecDepth 20000 in
theorem ggX1_solve_X1_canBeLeft : GoodIn wsX1_solve wsX1_canBeLeft := goodIn_r _ [8, 1, 9, 51, 52, 53, 54, 55, 56, 57, 58, 59, 60, 61, 62] (by decide +kernel) (by decide +kernel)
set_option maxRecDepth 20000 in
theorem gX1_solve_X1_canBeLeft : GoodIn wsX1_solve (wsV RX1 133 RX1 yX1_canBeLeft wsX1_canBeLeft) := goodIn_app (goodIn_of _ (by decide +kernel)) ggX1_solve_X1_canBeLeft
set_option maxRecDepth 20000 in
theorem ggX1_solve_X1_factsOfSet : GoodIn wsX1_solve wsX1_factsOfSet := goodIn_r _ [13, 14, 9, 2, 15, 16, 17, 18, 19, 20, 21, 22, 23, 24, 25, 26, 27, 28, 29, 30, 31, 32, 33, 34, 35, 36, 37, 38, 39, 40, 41, 42, 43, 44, 45, 46, 47, 48, 49, 50, 51, 52, 53, 54, 55, 56, 57, 58, 59, 60, 61, 62, 63, 64, 65] (by decide +kernel) (by decide +kernel)
set_option maxRecDepth 20000 in
theorem gX1_solve_X1_factsOfSet : GoodIn wsX1_solve (wsV RX1 136 RX1 yX1_factsOfSet wsX1_factsOfSet) := goodIn_app (goodIn_of _ (by decide +kernel)) ggX1_solve_X1_factsOfSet
theorem dX1_solve_0 : decode cX1_solve 0 = .ok (.iconst 0, 1) := by decide +kernel
theorem dX1_solve_1 : decode cX1_solve 1 = .ok (.istore_n 1, 1) := by decide +kernel
theorem dX1_solve_2 : decode cX1_solve 2 = .ok (.iload_n 1, 1) := by decide +kernel
theorem dX1_solve_3 : decode cX1_solve 3 = .ok (.aload_n 0, 1) := by decide +kernel
theorem dX1_solve_4 : decode cX1_solve 4 = .ok (.getfield 40, 3) := by decide +kernel
theorem dX1_solve_7 : decode cX1_solve 7 = .ok (.if_icmp .gt 48, 3) := by decide +kernel
theorem dX1_solve_10 : decode cX1_solve 10 = .ok (.iload_n 1, 1) := by decide +kernel
theorem dX1_solve_11 : decode cX1_solve 11 = .ok (.aload_n 0, 1) := by decide +kernel
theorem dX1_solve_12 : decode cX1_solve 12 = .ok (.getfield 22, 3) := by decide +kernel
theorem dX1_solve_15 : decode cX1_solve 15 = .ok (.arraylength, 1) := by decide +kernel
theorem dX1_solve_16 : decode cX1_solve 16 = .ok (.if_icmp .ge 39, 3) := by decide +kernel
theorem dX1_solve_19 : decode cX1_solve 19 = .ok (.iload_n 1, 1) := by decide +kernel
theorem dX1_solve_20 : decode cX1_solve 20 = .ok (.aload_n 0, 1) := by decide +kernel
theorem dX1_solve_21 : decode cX1_solve 21 = .ok (.getfield 40, 3) := by decide +kernel
theorem dX1_solve_24 : decode cX1_solve 24 = .ok (.iconst (-1), 1) := by decide +kernel
theorem dX1_solve_25 : decode cX1_solve 25 = .ok (.ixor, 1) := by decide +kernel
theorem dX1_solve_26 : decode cX1_solve 26 = .ok (.iand, 1) := by decide +kernel
theorem dX1_solve_27 : decode cX1_solve 27 = .ok (.ifCond .ne 22, 3) := by decide +kernel
theorem dX1_solve_30 : decode cX1_solve 30 = .ok (.aload_n 0, 1) := by decide +kernel
theorem dX1_solve_31 : decode cX1_solve 31 = .ok (.iload_n 1, 1) := by decide +kernel
theorem dX1_solve_32 : decode cX1_solve 32 = .ok (.invokevirtual 133, 3) := by decide +kernel
theorem dX1_solve_35 : decode cX1_solve 35 = .ok (.ifCond .eq 14, 3) := by decide +kernel
theorem dX1_solve_38 : decode cX1_solve 38 = .ok (.aload_n 0, 1) := by decide +kernel
theorem dX1_solve_39 : decode cX1_solve 39 = .ok (.getfield 22, 3) := by decide +kernel
theorem dX1_solve_42 : decode cX1_solve 42 = .ok (.iload_n 1, 1) := by decide +kernel
theorem dX1_solve_43 : decode cX1_solve 43 = .ok (.aload_n 0, 1) := by decide +kernel
theorem dX1_solve_44 : decode cX1_solve 44 = .ok (.iload_n 1, 1) := by decide +kernel
theorem dX1_solve_45 : decode cX1_solve 45 = .ok (.invokevirtual 136, 3) := by decide +kernel
theorem dX1_solve_48 : decode cX1_solve 48 = .ok (.iastore, 1) := by decide +kernel
theorem dX1_solve_49 : decode cX1_solve 49 = .ok (.iinc 1 1, 3) := by decide +kernel
theorem dX1_solve_52 : decode cX1_solve 52 = .ok (.goto (-50), 3) := by decide +kernel
theorem dX1_solve_55 : decode cX1_solve 55 = .ok (.aload_n 0, 1) := by decide +kernel
theorem dX1_solve_56 : decode cX1_solve 56 = .ok (.iconst 1, 1) := by decide +kernel
theorem dX1_solve_57 : decode cX1_solve 57 = .ok (.putfield 43, 3) := by decide +kernel
theorem dX1_solve_60 : decode cX1_solve 60 = .ok (.return_, 1) := by decide +kernel
theorem dX1_canBeLeft_0 : decode cX1_canBeLeft 0 = .ok (.aload_n 0, 1) := by decide +kernel
theorem dX1_canBeLeft_1 : decode cX1_canBeLeft 1 = .ok (.getfield 40, 3) := by decide +kernel
theorem dX1_canBeLeft_4 : decode cX1_canBeLeft 4 = .ok (.iload_n 1, 1) := by decide +kernel
theorem dX1_canBeLeft_5 : decode cX1_canBeLeft 5 = .ok (.iconst (-1), 1) := by decide +kernel
theorem dX1_canBeLeft_6 : decode cX1_canBeLeft 6 = .ok (.ixor, 1) := by decide +kernel
theorem dX1_canBeLeft_7 : decode cX1_canBeLeft 7 = .ok (.iand, 1) := by decide +kernel
theorem dX1_canBeLeft_8 : decode cX1_canBeLeft 8 = .ok (.istore_n 2, 1) := by decide +kernel
theorem dX1_canBeLeft_9 : decode cX1_canBeLeft 9 = .ok (.iconst 0, 1) := by decide +kernel
theorem dX1_canBeLeft_10 : decode cX1_canBeLeft 10 = .ok (.istore_n 3, 1) := by decide +kernel
theorem dX1_canBeLeft_11 : decode cX1_canBeLeft 11 = .ok (.iload_n 3, 1) := by decide +kernel
theorem dX1_canBeLeft_12 : decode cX1_canBeLeft 12 = .ok (.aload_n 0, 1) := by decide +kernel
theorem dX1_canBeLeft_13 : decode cX1_canBeLeft 13 = .ok (.getfield 9, 3) := by decide +kernel
theorem dX1_canBeLeft_16 : decode cX1_canBeLeft 16 = .ok (.arraylength, 1) := by decide +kernel
theorem dX1_canBeLeft_17 : decode cX1_canBeLeft 17 = .ok (.if_icmp .ge 30, 3) := by decide +kernel
theorem dX1_canBeLeft_20 : decode cX1_canBeLeft 20 = .ok (.iload_n 2, 1) := by decide +kernel
theorem dX1_canBeLeft_21 : decode cX1_canBeLeft 21 = .ok (.iload_n 3, 1) := by decide +kernel
theorem dX1_canBeLeft_22 : decode cX1_canBeLeft 22 = .ok (.ishr, 1) := by decide +kernel
theorem dX1_canBeLeft_23 : decode cX1_canBeLeft 23 = .ok (.iconst 1, 1) := by decide +kernel
theorem dX1_canBeLeft_24 : decode cX1_canBeLeft 24 = .ok (.iand, 1) := by decide +kernel
theorem dX1_canBeLeft_25 : decode cX1_canBeLeft 25 = .ok (.ifCond .eq 16, 3) := by decide +kernel
theorem dX1_canBeLeft_28 : decode cX1_canBeLeft 28 = .ok (.aload_n 0, 1) := by decide +kernel
theorem dX1_canBeLeft_29 : decode cX1_canBeLeft 29 = .ok (.getfield 9, 3) := by decide +kernel
theorem dX1_canBeLeft_32 : decode cX1_canBeLeft 32 = .ok (.iload_n 3, 1) := by decide +kernel
theorem dX1_canBeLeft_33 : decode cX1_canBeLeft 33 = .ok (.iaload, 1) := by decide +kernel
theorem dX1_canBeLeft_34 : decode cX1_canBeLeft 34 = .ok (.iload_n 1, 1) := by decide +kernel
theorem dX1_canBeLeft_35 : decode cX1_canBeLeft 35 = .ok (.iand, 1) := by decide +kernel
theorem dX1_canBeLeft_36 : decode cX1_canBeLeft 36 = .ok (.ifCond .eq 5, 3) := by decide +kernel
theorem dX1_canBeLeft_39 : decode cX1_canBeLeft 39 = .ok (.iconst 0, 1) := by decide +kernel
theorem dX1_canBeLeft_40 : decode cX1_canBeLeft 40 = .ok (.ireturn, 1) := by decide +kernel
theorem dX1_canBeLeft_41 : decode cX1_canBeLeft 41 = .ok (.iinc 3 1, 3) := by decide +kernel
theorem dX1_canBeLeft_44 : decode cX1_canBeLeft 44 = .ok (.goto (-33), 3) := by decide +kernel
theorem dX1_canBeLeft_47 : decode cX1_canBeLeft 47 = .ok (.iconst 1, 1) := by decide +kernel
theorem dX1_canBeLeft_48 : decode cX1_canBeLeft 48 = .ok (.ireturn, 1) := by decide +kernel
set_option maxRecDepth 20000 in
theorem ggX1_factsOfSet_X2_begin : GoodIn wsX1_factsOfSet wsX2_begin := goodIn_r _ [8, 9, 10, 11, 52, 53, 54] (by decide +kernel) (by decide +kernel)
set_option maxRecDepth 20000 in
theorem gX1_factsOfSet_X2_begin : GoodIn wsX1_factsOfSet (wsV RX1 139 RX2 yX2_begin wsX2_begin) := goodIn_app (goodIn_of _ (by decide +kernel)) ggX1_factsOfSet_X2_begin
set_option maxRecDepth 20000 in
theorem ggX1_factsOfSet_X3_at : GoodIn wsX1_factsOfSet wsX3_at := goodIn_r _ [14] (by decide +kernel) (by decide +kernel)
set_option maxRecDepth 20000 in
theorem gX1_factsOfSet_X3_at_n60 : GoodIn wsX1_factsOfSet (wsX3_at) := ggX1_factsOfSet_X3_at
set_option maxRecDepth 20000 in
theorem ggX1_factsOfSet_X2_take : GoodIn wsX1_factsOfSet wsX2_take := goodIn_r _ [18, 9, 11, 19, 20, 21, 22, 10, 23, 24, 25, 26, 13, 27, 28, 29, 30, 31, 52, 53, 54] (by decide +kernel) (by decide +kernel)
set_option maxRecDepth 20000 in
theorem gX1_factsOfSet_X2_take : GoodIn wsX1_factsOfSet (wsV RX1 144 RX2 yX2_take wsX2_take) := goodIn_app (goodIn_of _ (by decide +kernel)) ggX1_factsOfSet_X2_take
set_option maxRecDepth 20000 in
theorem ggX1_factsOfSet_X2_facts : GoodIn wsX1_factsOfSet wsX2_facts := goodIn_r _ [35, 10, 11, 36, 37, 38, 7, 39, 9, 52, 53, 54] (by decide +kernel) (by decide +kernel)
set_option maxRecDepth 20000 in
theorem gX1_factsOfSet_X2_facts : GoodIn wsX1_factsOfSet (wsV RX1 147 RX2 yX2_facts wsX2_facts) := goodIn_app (goodIn_of _ (by decide +kernel)) ggX1_factsOfSet_X2_facts
theorem dX1_factsOfSet_0 : decode cX1_factsOfSet 0 = .ok (.aload_n 0, 1) := by decide +kernel
theorem dX1_factsOfSet_1 : decode cX1_factsOfSet 1 = .ok (.getfield 29, 3) := by decide +kernel
theorem dX1_factsOfSet_4 : decode cX1_factsOfSet 4 = .ok (.invokevirtual 139, 3) := by decide +kernel
theorem dX1_factsOfSet_7 : decode cX1_factsOfSet 7 = .ok (.iconst 0, 1) := by decide +kernel
theorem dX1_factsOfSet_8 : decode cX1_factsOfSet 8 = .ok (.istore_n 2, 1) := by decide +kernel
theorem dX1_factsOfSet_9 : decode cX1_factsOfSet 9 = .ok (.iload_n 2, 1) := by decide +kernel
theorem dX1_factsOfSet_10 : decode cX1_factsOfSet 10 = .ok (.aload_n 0, 1) := by decide +kernel
theorem dX1_factsOfSet_11 : decode cX1_factsOfSet 11 = .ok (.getfield 9, 3) := by decide +kernel
theorem dX1_factsOfSet_14 : decode cX1_factsOfSet 14 = .ok (.arraylength, 1) := by decide +kernel
theorem dX1_factsOfSet_15 : decode cX1_factsOfSet 15 = .ok (.if_icmp .ge 41, 3) := by decide +kernel
theorem dX1_factsOfSet_18 : decode cX1_factsOfSet 18 = .ok (.iload_n 1, 1) := by decide +kernel
theorem dX1_factsOfSet_19 : decode cX1_factsOfSet 19 = .ok (.iload_n 2, 1) := by decide +kernel
theorem dX1_factsOfSet_20 : decode cX1_factsOfSet 20 = .ok (.ishr, 1) := by decide +kernel
theorem dX1_factsOfSet_21 : decode cX1_factsOfSet 21 = .ok (.iconst 1, 1) := by decide +kernel
theorem dX1_factsOfSet_22 : decode cX1_factsOfSet 22 = .ok (.iand, 1) := by decide +kernel
theorem dX1_factsOfSet_23 : decode cX1_factsOfSet 23 = .ok (.ifCond .eq 27, 3) := by decide +kernel
theorem dX1_factsOfSet_26 : decode cX1_factsOfSet 26 = .ok (.aload_n 0, 1) := by decide +kernel
theorem dX1_factsOfSet_27 : decode cX1_factsOfSet 27 = .ok (.getfield 29, 3) := by decide +kernel
theorem dX1_factsOfSet_30 : decode cX1_factsOfSet 30 = .ok (.aload_n 0, 1) := by decide +kernel
theorem dX1_factsOfSet_31 : decode cX1_factsOfSet 31 = .ok (.getfield 22, 3) := by decide +kernel
theorem dX1_factsOfSet_34 : decode cX1_factsOfSet 34 = .ok (.iload_n 1, 1) := by decide +kernel
theorem dX1_factsOfSet_35 : decode cX1_factsOfSet 35 = .ok (.aload_n 0, 1) := by decide +kernel
theorem dX1_factsOfSet_36 : decode cX1_factsOfSet 36 = .ok (.getfield 9, 3) := by decide +kernel
theorem dX1_factsOfSet_39 : decode cX1_factsOfSet 39 = .ok (.iload_n 2, 1) := by decide +kernel
theorem dX1_factsOfSet_40 : decode cX1_factsOfSet 40 = .ok (.iaload, 1) := by decide +kernel
theorem dX1_factsOfSet_41 : decode cX1_factsOfSet 41 = .ok (.iconst (-1), 1) := by decide +kernel
theorem dX1_factsOfSet_42 : decode cX1_factsOfSet 42 = .ok (.ixor, 1) := by decide +kernel
theorem dX1_factsOfSet_43 : decode cX1_factsOfSet 43 = .ok (.iand, 1) := by decide +kernel
theorem dX1_factsOfSet_44 : decode cX1_factsOfSet 44 = .ok (.invokestatic 60, 3) := by decide +kernel
theorem dX1_factsOfSet_47 : decode cX1_factsOfSet 47 = .ok (.invokevirtual 144, 3) := by decide +kernel
theorem dX1_factsOfSet_50 : decode cX1_factsOfSet 50 = .ok (.iinc 2 1, 3) := by decide +kernel
theorem dX1_factsOfSet_53 : decode cX1_factsOfSet 53 = .ok (.goto (-44), 3) := by decide +kernel
theorem dX1_factsOfSet_56 : decode cX1_factsOfSet 56 = .ok (.aload_n 0, 1) := by decide +kernel
theorem dX1_factsOfSet_57 : decode cX1_factsOfSet 57 = .ok (.getfield 29, 3) := by decide +kernel
theorem dX1_factsOfSet_60 : decode cX1_factsOfSet 60 = .ok (.invokevirtual 147, 3) := by decide +kernel
theorem dX1_factsOfSet_63 : decode cX1_factsOfSet 63 = .ok (.ireturn, 1) := by decide +kernel
theorem dX2_init_0 : decode cX2_init 0 = .ok (.aload_n 0, 1) := by decide +kernel
theorem dX2_init_1 : decode cX2_init 1 = .ok (.invokespecial 1, 3) := by decide +kernel
theorem dX2_init_4 : decode cX2_init 4 = .ok (.aload_n 0, 1) := by decide +kernel
theorem dX2_init_5 : decode cX2_init 5 = .ok (.iconst 2, 1) := by decide +kernel
theorem dX2_init_6 : decode cX2_init 6 = .ok (.newarray .int, 2) := by decide +kernel
theorem dX2_init_8 : decode cX2_init 8 = .ok (.putfield 7, 3) := by decide +kernel
theorem dX2_init_11 : decode cX2_init 11 = .ok (.aload_n 0, 1) := by decide +kernel
theorem dX2_init_12 : decode cX2_init 12 = .ok (.iconst 2, 1) := by decide +kernel
theorem dX2_init_13 : decode cX2_init 13 = .ok (.newarray .int, 2) := by decide +kernel
theorem dX2_init_15 : decode cX2_init 15 = .ok (.putfield 13, 3) := by decide +kernel
theorem dX2_init_18 : decode cX2_init 18 = .ok (.return_, 1) := by decide +kernel
theorem dX2_begin_0 : decode cX2_begin 0 = .ok (.aload_n 0, 1) := by decide +kernel
theorem dX2_begin_1 : decode cX2_begin 1 = .ok (.lconst 0, 1) := by decide +kernel
theorem dX2_begin_2 : decode cX2_begin 2 = .ok (.putfield 16, 3) := by decide +kernel
theorem dX2_begin_5 : decode cX2_begin 5 = .ok (.iconst 0, 1) := by decide +kernel
theorem dX2_begin_6 : decode cX2_begin 6 = .ok (.istore_n 1, 1) := by decide +kernel
theorem dX2_begin_7 : decode cX2_begin 7 = .ok (.iload_n 1, 1) := by decide +kernel
theorem dX2_begin_8 : decode cX2_begin 8 = .ok (.iconst 2, 1) := by decide +kernel
theorem dX2_begin_9 : decode cX2_begin 9 = .ok (.if_icmp .ge 25, 3) := by decide +kernel
theorem dX2_begin_12 : decode cX2_begin 12 = .ok (.aload_n 0, 1) := by decide +kernel
theorem dX2_begin_13 : decode cX2_begin 13 = .ok (.getfield 7, 3) := by decide +kernel
theorem dX2_begin_16 : decode cX2_begin 16 = .ok (.iload_n 1, 1) := by decide +kernel
theorem dX2_begin_17 : decode cX2_begin 17 = .ok (.sipush 255, 3) := by decide +kernel
theorem dX2_begin_20 : decode cX2_begin 20 = .ok (.iastore, 1) := by decide +kernel
theorem dX2_begin_21 : decode cX2_begin 21 = .ok (.aload_n 0, 1) := by decide +kernel
theorem dX2_begin_22 : decode cX2_begin 22 = .ok (.getfield 13, 3) := by decide +kernel
theorem dX2_begin_25 : decode cX2_begin 25 = .ok (.iload_n 1, 1) := by decide +kernel
theorem dX2_begin_26 : decode cX2_begin 26 = .ok (.iconst (-1), 1) := by decide +kernel
theorem dX2_begin_27 : decode cX2_begin 27 = .ok (.iastore, 1) := by decide +kernel
theorem dX2_begin_28 : decode cX2_begin 28 = .ok (.iinc 1 1, 3) := by decide +kernel
theorem dX2_begin_31 : decode cX2_begin 31 = .ok (.goto (-24), 3) := by decide +kernel
theorem dX2_begin_34 : decode cX2_begin 34 = .ok (.return_, 1) := by decide +kernel
set_option maxRecDepth 20000 in
theorem ggX2_take_X3_worthIn : GoodIn wsX2_take wsX3_worthIn := goodIn_r _ [13] (by decide +kernel) (by decide +kernel)
set_option maxRecDepth 20000 in
theorem gX2_take_X3_worthIn_n20 : GoodIn wsX2_take (wsX3_worthIn) := ggX2_take_X3_worthIn
set_option maxRecDepth 20000 in
theorem ggX2_take_X3_lengthIn : GoodIn wsX2_take wsX3_lengthIn := goodIn_r _ [15] (by decide +kernel) (by decide +kernel)
set_option maxRecDepth 20000 in
theorem gX2_take_X3_lengthIn_n26 : GoodIn wsX2_take (wsX3_lengthIn) := ggX2_take_X3_lengthIn
set_option maxRecDepth 20000 in
theorem ggX2_take_X3_isWon : GoodIn wsX2_take wsX3_isWon := goodIn_r _ [17] (by decide +kernel) (by decide +kernel)
set_option maxRecDepth 20000 in
theorem gX2_take_X3_isWon_n35 : GoodIn wsX2_take (wsX3_isWon) := ggX2_take_X3_isWon
theorem dX2_take_0 : decode cX2_take 0 = .ok (.aload_n 0, 1) := by decide +kernel
theorem dX2_take_1 : decode cX2_take 1 = .ok (.dup, 1) := by decide +kernel
theorem dX2_take_2 : decode cX2_take 2 = .ok (.getfield 16, 3) := by decide +kernel
theorem dX2_take_5 : decode cX2_take 5 = .ok (.lconst 1, 1) := by decide +kernel
theorem dX2_take_6 : decode cX2_take 6 = .ok (.iload_n 1, 1) := by decide +kernel
theorem dX2_take_7 : decode cX2_take 7 = .ok (.invokestatic 20, 3) := by decide +kernel
theorem dX2_take_10 : decode cX2_take 10 = .ok (.lshl, 1) := by decide +kernel
theorem dX2_take_11 : decode cX2_take 11 = .ok (.lor, 1) := by decide +kernel
theorem dX2_take_12 : decode cX2_take 12 = .ok (.putfield 16, 3) := by decide +kernel
theorem dX2_take_15 : decode cX2_take 15 = .ok (.iconst 0, 1) := by decide +kernel
theorem dX2_take_16 : decode cX2_take 16 = .ok (.istore_n 2, 1) := by decide +kernel
theorem dX2_take_17 : decode cX2_take 17 = .ok (.iload_n 2, 1) := by decide +kernel
theorem dX2_take_18 : decode cX2_take 18 = .ok (.iconst 2, 1) := by decide +kernel
theorem dX2_take_19 : decode cX2_take 19 = .ok (.if_icmp .ge 55, 3) := by decide +kernel
theorem dX2_take_22 : decode cX2_take 22 = .ok (.iload_n 1, 1) := by decide +kernel
theorem dX2_take_23 : decode cX2_take 23 = .ok (.iload_n 2, 1) := by decide +kernel
theorem dX2_take_24 : decode cX2_take 24 = .ok (.invokestatic 26, 3) := by decide +kernel
theorem dX2_take_27 : decode cX2_take 27 = .ok (.istore_n 3, 1) := by decide +kernel
theorem dX2_take_28 : decode cX2_take 28 = .ok (.aload_n 0, 1) := by decide +kernel
theorem dX2_take_29 : decode cX2_take 29 = .ok (.getfield 13, 3) := by decide +kernel
theorem dX2_take_32 : decode cX2_take 32 = .ok (.iload_n 2, 1) := by decide +kernel
theorem dX2_take_33 : decode cX2_take 33 = .ok (.aload_n 0, 1) := by decide +kernel
theorem dX2_take_34 : decode cX2_take 34 = .ok (.getfield 13, 3) := by decide +kernel
theorem dX2_take_37 : decode cX2_take 37 = .ok (.iload_n 2, 1) := by decide +kernel
theorem dX2_take_38 : decode cX2_take 38 = .ok (.iaload, 1) := by decide +kernel
theorem dX2_take_39 : decode cX2_take 39 = .ok (.iload_n 3, 1) := by decide +kernel
theorem dX2_take_40 : decode cX2_take 40 = .ok (.invokestatic 30, 3) := by decide +kernel
theorem dX2_take_43 : decode cX2_take 43 = .ok (.iastore, 1) := by decide +kernel
theorem dX2_take_44 : decode cX2_take 44 = .ok (.iload_n 3, 1) := by decide +kernel
theorem dX2_take_45 : decode cX2_take 45 = .ok (.iload_n 2, 1) := by decide +kernel
theorem dX2_take_46 : decode cX2_take 46 = .ok (.invokestatic 35, 3) := by decide +kernel
theorem dX2_take_49 : decode cX2_take 49 = .ok (.ifCond .ne 19, 3) := by decide +kernel
theorem dX2_take_52 : decode cX2_take 52 = .ok (.aload_n 0, 1) := by decide +kernel
theorem dX2_take_53 : decode cX2_take 53 = .ok (.getfield 7, 3) := by decide +kernel
theorem dX2_take_56 : decode cX2_take 56 = .ok (.iload_n 2, 1) := by decide +kernel
theorem dX2_take_57 : decode cX2_take 57 = .ok (.aload_n 0, 1) := by decide +kernel
theorem dX2_take_58 : decode cX2_take 58 = .ok (.getfield 7, 3) := by decide +kernel
theorem dX2_take_61 : decode cX2_take 61 = .ok (.iload_n 2, 1) := by decide +kernel
theorem dX2_take_62 : decode cX2_take 62 = .ok (.iaload, 1) := by decide +kernel
theorem dX2_take_63 : decode cX2_take 63 = .ok (.iload_n 3, 1) := by decide +kernel
theorem dX2_take_64 : decode cX2_take 64 = .ok (.invokestatic 39, 3) := by decide +kernel
theorem dX2_take_67 : decode cX2_take 67 = .ok (.iastore, 1) := by decide +kernel
theorem dX2_take_68 : decode cX2_take 68 = .ok (.iinc 2 1, 3) := by decide +kernel
theorem dX2_take_71 : decode cX2_take 71 = .ok (.goto (-54), 3) := by decide +kernel
theorem dX2_take_74 : decode cX2_take 74 = .ok (.return_, 1) := by decide +kernel
set_option maxRecDepth 20000 in
theorem ggX2_facts_X2_leastMissing : GoodIn wsX2_facts wsX2_leastMissing := goodIn_r _ [7, 8, 9, 10, 11] (by decide +kernel) (by decide +kernel)
set_option maxRecDepth 20000 in
theorem gX2_facts_X2_leastMissing : GoodIn wsX2_facts (wsV RX2 42 RX2 yX2_leastMissing wsX2_leastMissing) := goodIn_app (goodIn_of _ (by decide +kernel)) ggX2_facts_X2_leastMissing
theorem dX2_facts_0 : decode cX2_facts 0 = .ok (.aload_n 0, 1) := by decide +kernel
theorem dX2_facts_1 : decode cX2_facts 1 = .ok (.invokevirtual 42, 3) := by decide +kernel
theorem dX2_facts_4 : decode cX2_facts 4 = .ok (.bipush 16, 2) := by decide +kernel
theorem dX2_facts_6 : decode cX2_facts 6 = .ok (.ishl, 1) := by decide +kernel
theorem dX2_facts_7 : decode cX2_facts 7 = .ok (.istore_n 1, 1) := by decide +kernel
theorem dX2_facts_8 : decode cX2_facts 8 = .ok (.iconst 0, 1) := by decide +kernel
theorem dX2_facts_9 : decode cX2_facts 9 = .ok (.istore_n 2, 1) := by decide +kernel
theorem dX2_facts_10 : decode cX2_facts 10 = .ok (.iload_n 2, 1) := by decide +kernel
theorem dX2_facts_11 : decode cX2_facts 11 = .ok (.iconst 2, 1) := by decide +kernel
theorem dX2_facts_12 : decode cX2_facts 12 = .ok (.if_icmp .ge 48, 3) := by decide +kernel
theorem dX2_facts_15 : decode cX2_facts 15 = .ok (.aload_n 0, 1) := by decide +kernel
theorem dX2_facts_16 : decode cX2_facts 16 = .ok (.getfield 7, 3) := by decide +kernel
theorem dX2_facts_19 : decode cX2_facts 19 = .ok (.iload_n 2, 1) := by decide +kernel
theorem dX2_facts_20 : decode cX2_facts 20 = .ok (.iaload, 1) := by decide +kernel
theorem dX2_facts_21 : decode cX2_facts 21 = .ok (.sipush 255, 3) := by decide +kernel
theorem dX2_facts_24 : decode cX2_facts 24 = .ok (.if_icmp .ge 12, 3) := by decide +kernel
theorem dX2_facts_27 : decode cX2_facts 27 = .ok (.aload_n 0, 1) := by decide +kernel
theorem dX2_facts_28 : decode cX2_facts 28 = .ok (.getfield 7, 3) := by decide +kernel
theorem dX2_facts_31 : decode cX2_facts 31 = .ok (.iload_n 2, 1) := by decide +kernel
theorem dX2_facts_32 : decode cX2_facts 32 = .ok (.iaload, 1) := by decide +kernel
theorem dX2_facts_33 : decode cX2_facts 33 = .ok (.goto 9, 3) := by decide +kernel
theorem dX2_facts_36 : decode cX2_facts 36 = .ok (.aload_n 0, 1) := by decide +kernel
theorem dX2_facts_37 : decode cX2_facts 37 = .ok (.getfield 13, 3) := by decide +kernel
theorem dX2_facts_40 : decode cX2_facts 40 = .ok (.iload_n 2, 1) := by decide +kernel
theorem dX2_facts_41 : decode cX2_facts 41 = .ok (.iaload, 1) := by decide +kernel
theorem dX2_facts_42 : decode cX2_facts 42 = .ok (.istore_n 3, 1) := by decide +kernel
theorem dX2_facts_43 : decode cX2_facts 43 = .ok (.iload_n 1, 1) := by decide +kernel
theorem dX2_facts_44 : decode cX2_facts 44 = .ok (.iload_n 3, 1) := by decide +kernel
theorem dX2_facts_45 : decode cX2_facts 45 = .ok (.iconst 1, 1) := by decide +kernel
theorem dX2_facts_46 : decode cX2_facts 46 = .ok (.iadd, 1) := by decide +kernel
theorem dX2_facts_47 : decode cX2_facts 47 = .ok (.bipush 8, 2) := by decide +kernel
theorem dX2_facts_49 : decode cX2_facts 49 = .ok (.iload_n 2, 1) := by decide +kernel
theorem dX2_facts_50 : decode cX2_facts 50 = .ok (.imul, 1) := by decide +kernel
theorem dX2_facts_51 : decode cX2_facts 51 = .ok (.ishl, 1) := by decide +kernel
theorem dX2_facts_52 : decode cX2_facts 52 = .ok (.ior, 1) := by decide +kernel
theorem dX2_facts_53 : decode cX2_facts 53 = .ok (.istore_n 1, 1) := by decide +kernel
theorem dX2_facts_54 : decode cX2_facts 54 = .ok (.iinc 2 1, 3) := by decide +kernel
theorem dX2_facts_57 : decode cX2_facts 57 = .ok (.goto (-47), 3) := by decide +kernel
theorem dX2_facts_60 : decode cX2_facts 60 = .ok (.iload_n 1, 1) := by decide +kernel
theorem dX2_facts_61 : decode cX2_facts 61 = .ok (.ireturn, 1) := by decide +kernel
theorem dX2_leastMissing_0 : decode cX2_leastMissing 0 = .ok (.iconst 0, 1) := by decide +kernel
theorem dX2_leastMissing_1 : decode cX2_leastMissing 1 = .ok (.istore_n 1, 1) := by decide +kernel
theorem dX2_leastMissing_2 : decode cX2_leastMissing 2 = .ok (.iload_n 1, 1) := by decide +kernel
theorem dX2_leastMissing_3 : decode cX2_leastMissing 3 = .ok (.bipush 63, 2) := by decide +kernel
theorem dX2_leastMissing_5 : decode cX2_leastMissing 5 = .ok (.if_icmp .ge 22, 3) := by decide +kernel
theorem dX2_leastMissing_8 : decode cX2_leastMissing 8 = .ok (.aload_n 0, 1) := by decide +kernel
theorem dX2_leastMissing_9 : decode cX2_leastMissing 9 = .ok (.getfield 16, 3) := by decide +kernel
theorem dX2_leastMissing_12 : decode cX2_leastMissing 12 = .ok (.iload_n 1, 1) := by decide +kernel
theorem dX2_leastMissing_13 : decode cX2_leastMissing 13 = .ok (.lshr, 1) := by decide +kernel
theorem dX2_leastMissing_14 : decode cX2_leastMissing 14 = .ok (.lconst 1, 1) := by decide +kernel
theorem dX2_leastMissing_15 : decode cX2_leastMissing 15 = .ok (.land, 1) := by decide +kernel
theorem dX2_leastMissing_16 : decode cX2_leastMissing 16 = .ok (.lconst 0, 1) := by decide +kernel
theorem dX2_leastMissing_17 : decode cX2_leastMissing 17 = .ok (.lcmp, 1) := by decide +kernel
theorem dX2_leastMissing_18 : decode cX2_leastMissing 18 = .ok (.ifCond .eq 9, 3) := by decide +kernel
theorem dX2_leastMissing_21 : decode cX2_leastMissing 21 = .ok (.iinc 1 1, 3) := by decide +kernel
theorem dX2_leastMissing_24 : decode cX2_leastMissing 24 = .ok (.goto (-22), 3) := by decide +kernel
theorem dX2_leastMissing_27 : decode cX2_leastMissing 27 = .ok (.iload_n 1, 1) := by decide +kernel
theorem dX2_leastMissing_28 : decode cX2_leastMissing 28 = .ok (.ireturn, 1) := by decide +kernel
