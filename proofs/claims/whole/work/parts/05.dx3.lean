set_option maxRecDepth 20000 in
theorem ggX3_init_X2_init : GoodIn wsX3_init wsX2_init := goodIn_r _ [18, 19, 2, 3, 6, 20, 21, 47, 48, 49] (by decide +kernel) (by decide +kernel)
set_option maxRecDepth 20000 in
theorem gX3_init_X2_init_n21 : GoodIn wsX3_init (wsX2_init) := ggX3_init_X2_init
set_option maxRecDepth 20000 in
theorem ggX3_init_X0_init : GoodIn wsX3_init wsX0_init := goodIn_r _ [24, 25, 2, 3, 6, 26, 27, 28, 29, 30, 31, 50, 51, 52, 53, 54, 55, 56] (by decide +kernel) (by decide +kernel)
set_option maxRecDepth 20000 in
theorem gX3_init_X0_init : GoodIn wsX3_init (wsX0_init) := ggX3_init_X0_init
set_option maxRecDepth 20000 in
theorem ggX3_init_X1_init : GoodIn wsX3_init wsX1_init := goodIn_r _ [34, 35, 2, 3, 6, 36, 37, 38, 39, 40, 41, 42, 57, 58, 59, 60, 61, 62, 63, 64, 65, 66, 67, 68] (by decide +kernel) (by decide +kernel)
set_option maxRecDepth 20000 in
theorem gX3_init_X1_init : GoodIn wsX3_init (wsX1_init) := ggX3_init_X1_init
theorem dX3_init_0 : decode cX3_init 0 = .ok (.aload_n 0, 1) := by decide +kernel
theorem dX3_init_1 : decode cX3_init 1 = .ok (.invokespecial 3, 3) := by decide +kernel
theorem dX3_init_4 : decode cX3_init 4 = .ok (.aload_n 0, 1) := by decide +kernel
theorem dX3_init_5 : decode cX3_init 5 = .ok (.bipush 6, 2) := by decide +kernel
theorem dX3_init_7 : decode cX3_init 7 = .ok (.anewarray 9, 3) := by decide +kernel
theorem dX3_init_10 : decode cX3_init 10 = .ok (.putfield 11, 3) := by decide +kernel
theorem dX3_init_13 : decode cX3_init 13 = .ok (.aload_n 0, 1) := by decide +kernel
theorem dX3_init_14 : decode cX3_init 14 = .ok (.bipush 12, 2) := by decide +kernel
theorem dX3_init_16 : decode cX3_init 16 = .ok (.newarray .int, 2) := by decide +kernel
theorem dX3_init_18 : decode cX3_init 18 = .ok (.putfield 15, 3) := by decide +kernel
theorem dX3_init_21 : decode cX3_init 21 = .ok (.new 19, 3) := by decide +kernel
theorem dX3_init_24 : decode cX3_init 24 = .ok (.dup, 1) := by decide +kernel
theorem dX3_init_25 : decode cX3_init 25 = .ok (.invokespecial 21, 3) := by decide +kernel
theorem dX3_init_28 : decode cX3_init 28 = .ok (.astore_n 1, 1) := by decide +kernel
theorem dX3_init_29 : decode cX3_init 29 = .ok (.aload_n 0, 1) := by decide +kernel
theorem dX3_init_30 : decode cX3_init 30 = .ok (.new 22, 3) := by decide +kernel
theorem dX3_init_33 : decode cX3_init 33 = .ok (.dup, 1) := by decide +kernel
theorem dX3_init_34 : decode cX3_init 34 = .ok (.aload_n 1, 1) := by decide +kernel
theorem dX3_init_35 : decode cX3_init 35 = .ok (.invokespecial 24, 3) := by decide +kernel
theorem dX3_init_38 : decode cX3_init 38 = .ok (.putfield 27, 3) := by decide +kernel
theorem dX3_init_41 : decode cX3_init 41 = .ok (.iconst 0, 1) := by decide +kernel
theorem dX3_init_42 : decode cX3_init 42 = .ok (.istore_n 2, 1) := by decide +kernel
theorem dX3_init_43 : decode cX3_init 43 = .ok (.iload_n 2, 1) := by decide +kernel
theorem dX3_init_44 : decode cX3_init 44 = .ok (.aload_n 0, 1) := by decide +kernel
theorem dX3_init_45 : decode cX3_init 45 = .ok (.getfield 11, 3) := by decide +kernel
theorem dX3_init_48 : decode cX3_init 48 = .ok (.arraylength, 1) := by decide +kernel
theorem dX3_init_49 : decode cX3_init 49 = .ok (.if_icmp .ge 27, 3) := by decide +kernel
theorem dX3_init_52 : decode cX3_init 52 = .ok (.aload_n 0, 1) := by decide +kernel
theorem dX3_init_53 : decode cX3_init 53 = .ok (.getfield 11, 3) := by decide +kernel
theorem dX3_init_56 : decode cX3_init 56 = .ok (.iload_n 2, 1) := by decide +kernel
theorem dX3_init_57 : decode cX3_init 57 = .ok (.new 9, 3) := by decide +kernel
theorem dX3_init_60 : decode cX3_init 60 = .ok (.dup, 1) := by decide +kernel
theorem dX3_init_61 : decode cX3_init 61 = .ok (.aload_n 0, 1) := by decide +kernel
theorem dX3_init_62 : decode cX3_init 62 = .ok (.getfield 27, 3) := by decide +kernel
theorem dX3_init_65 : decode cX3_init 65 = .ok (.aload_n 1, 1) := by decide +kernel
theorem dX3_init_66 : decode cX3_init 66 = .ok (.invokespecial 31, 3) := by decide +kernel
theorem dX3_init_69 : decode cX3_init 69 = .ok (.aastore, 1) := by decide +kernel
theorem dX3_init_70 : decode cX3_init 70 = .ok (.iinc 2 1, 3) := by decide +kernel
theorem dX3_init_73 : decode cX3_init 73 = .ok (.goto (-30), 3) := by decide +kernel
theorem dX3_init_76 : decode cX3_init 76 = .ok (.return_, 1) := by decide +kernel
set_option maxRecDepth 20000 in
theorem ggX3_rows_X3_isWithin : GoodIn wsX3_rows wsX3_isWithin := goodIn_r _ [6] (by decide +kernel) (by decide +kernel)
set_option maxRecDepth 20000 in
theorem gX3_rows_X3_isWithin : GoodIn wsX3_rows (va_wsS RX3 34 yX3_isWithin wsX3_isWithin) := goodIn_app (goodIn_of _ (by decide +kernel)) ggX3_rows_X3_isWithin
set_option maxRecDepth 20000 in
theorem ggX3_rows_X3_nextGame : GoodIn wsX3_rows wsX3_nextGame := goodIn_r _ [10, 2, 11, 44, 45, 46, 47] (by decide +kernel) (by decide +kernel)
set_option maxRecDepth 20000 in
theorem gX3_rows_X3_nextGame : GoodIn wsX3_rows (wsV RX3 38 RX3 yX3_nextGame wsX3_nextGame) := goodIn_app (goodIn_of _ (by decide +kernel)) ggX3_rows_X3_nextGame
set_option maxRecDepth 20000 in
theorem ggX3_rows_X1_begin : GoodIn wsX3_rows wsX1_begin := goodIn_r _ [16, 17, 18, 19, 20, 21, 22, 23, 15, 24, 25, 26, 48, 49, 50, 51, 52, 53, 54, 55, 56, 57, 58, 59] (by decide +kernel) (by decide +kernel)
set_option maxRecDepth 20000 in
theorem gX3_rows_X1_begin : GoodIn wsX3_rows (wsV RX3 42 RX1 yX1_begin wsX1_begin) := goodIn_app (goodIn_of _ (by decide +kernel)) ggX3_rows_X1_begin
set_option maxRecDepth 20000 in
theorem ggX3_rows_X0_rankOfBlock : GoodIn wsX3_rows wsX0_rankOfBlock := goodIn_r _ [31, 32, 33, 34, 35, 30, 36, 37, 38, 5, 39, 60, 61, 62, 63, 64, 65, 66] (by decide +kernel) (by decide +kernel)
set_option maxRecDepth 20000 in
theorem gX3_rows_X0_rankOfBlock : GoodIn wsX3_rows (wsV RX3 46 RX0 yX0_rankOfBlock wsX0_rankOfBlock) := goodIn_app (goodIn_of _ (by decide +kernel)) ggX3_rows_X0_rankOfBlock
set_option maxRecDepth 20000 in
theorem ggX3_rows_X1_putBoard : GoodIn wsX3_rows wsX1_putBoard := goodIn_r _ [43, 25, 26, 48, 49, 50, 51, 52, 53, 54, 55, 56, 57, 58, 59] (by decide +kernel) (by decide +kernel)
set_option maxRecDepth 20000 in
theorem gX3_rows_X1_putBoard : GoodIn wsX3_rows (wsV RX3 50 RX1 yX1_putBoard wsX1_putBoard) := goodIn_app (goodIn_of _ (by decide +kernel)) ggX3_rows_X1_putBoard
theorem dX3_rows_0 : decode cX3_rows 0 = .ok (.iload_n 1, 1) := by decide +kernel
theorem dX3_rows_1 : decode cX3_rows 1 = .ok (.iconst 1, 1) := by decide +kernel
theorem dX3_rows_2 : decode cX3_rows 2 = .ok (.bipush 7, 2) := by decide +kernel
theorem dX3_rows_4 : decode cX3_rows 4 = .ok (.invokestatic 34, 3) := by decide +kernel
theorem dX3_rows_7 : decode cX3_rows 7 = .ok (.ifCond .eq 22, 3) := by decide +kernel
theorem dX3_rows_10 : decode cX3_rows 10 = .ok (.iload_n 2, 1) := by decide +kernel
theorem dX3_rows_11 : decode cX3_rows 11 = .ok (.iconst 1, 1) := by decide +kernel
theorem dX3_rows_12 : decode cX3_rows 12 = .ok (.bipush 7, 2) := by decide +kernel
theorem dX3_rows_14 : decode cX3_rows 14 = .ok (.invokestatic 34, 3) := by decide +kernel
theorem dX3_rows_17 : decode cX3_rows 17 = .ok (.ifCond .eq 12, 3) := by decide +kernel
theorem dX3_rows_20 : decode cX3_rows 20 = .ok (.iload_n 3, 1) := by decide +kernel
theorem dX3_rows_21 : decode cX3_rows 21 = .ok (.iconst 0, 1) := by decide +kernel
theorem dX3_rows_22 : decode cX3_rows 22 = .ok (.iconst 1, 1) := by decide +kernel
theorem dX3_rows_23 : decode cX3_rows 23 = .ok (.invokestatic 34, 3) := by decide +kernel
theorem dX3_rows_26 : decode cX3_rows 26 = .ok (.ifCond .ne 7, 3) := by decide +kernel
theorem dX3_rows_29 : decode cX3_rows 29 = .ok (.sipush (-1002), 3) := by decide +kernel
theorem dX3_rows_32 : decode cX3_rows 32 = .ok (.ireturn, 1) := by decide +kernel
theorem dX3_rows_33 : decode cX3_rows 33 = .ok (.aload_n 0, 1) := by decide +kernel
theorem dX3_rows_34 : decode cX3_rows 34 = .ok (.invokevirtual 38, 3) := by decide +kernel
theorem dX3_rows_37 : decode cX3_rows 37 = .ok (.astore 4, 2) := by decide +kernel
theorem dX3_rows_39 : decode cX3_rows 39 = .ok (.aload 4, 2) := by decide +kernel
theorem dX3_rows_41 : decode cX3_rows 41 = .ok (.ifnonnull 7, 3) := by decide +kernel
theorem dX3_rows_44 : decode cX3_rows 44 = .ok (.sipush (-1004), 3) := by decide +kernel
theorem dX3_rows_47 : decode cX3_rows 47 = .ok (.ireturn, 1) := by decide +kernel
theorem dX3_rows_48 : decode cX3_rows 48 = .ok (.aload 4, 2) := by decide +kernel
theorem dX3_rows_50 : decode cX3_rows 50 = .ok (.iconst 0, 1) := by decide +kernel
theorem dX3_rows_51 : decode cX3_rows 51 = .ok (.iload_n 3, 1) := by decide +kernel
theorem dX3_rows_52 : decode cX3_rows 52 = .ok (.invokevirtual 42, 3) := by decide +kernel
theorem dX3_rows_55 : decode cX3_rows 55 = .ok (.aload 4, 2) := by decide +kernel
theorem dX3_rows_57 : decode cX3_rows 57 = .ok (.aload_n 0, 1) := by decide +kernel
theorem dX3_rows_58 : decode cX3_rows 58 = .ok (.getfield 27, 3) := by decide +kernel
theorem dX3_rows_61 : decode cX3_rows 61 = .ok (.iload_n 1, 1) := by decide +kernel
theorem dX3_rows_62 : decode cX3_rows 62 = .ok (.iload_n 2, 1) := by decide +kernel
theorem dX3_rows_63 : decode cX3_rows 63 = .ok (.invokevirtual 46, 3) := by decide +kernel
theorem dX3_rows_66 : decode cX3_rows 66 = .ok (.invokevirtual 50, 3) := by decide +kernel
theorem dX3_rows_69 : decode cX3_rows 69 = .ok (.aload_n 0, 1) := by decide +kernel
theorem dX3_rows_70 : decode cX3_rows 70 = .ok (.dup, 1) := by decide +kernel
theorem dX3_rows_71 : decode cX3_rows 71 = .ok (.getfield 54, 3) := by decide +kernel
theorem dX3_rows_74 : decode cX3_rows 74 = .ok (.dup_x1, 1) := by decide +kernel
theorem dX3_rows_75 : decode cX3_rows 75 = .ok (.iconst 1, 1) := by decide +kernel
theorem dX3_rows_76 : decode cX3_rows 76 = .ok (.iadd, 1) := by decide +kernel
theorem dX3_rows_77 : decode cX3_rows 77 = .ok (.putfield 54, 3) := by decide +kernel
theorem dX3_rows_80 : decode cX3_rows 80 = .ok (.ireturn, 1) := by decide +kernel
set_option maxRecDepth 20000 in
theorem ggX3_order_X3_beginEmpty : GoodIn wsX3_order wsX3_beginEmpty := goodIn_r _ [5, 6, 7, 8, 4, 9, 10, 11, 12, 13, 14, 15, 16, 17, 18, 19, 20, 21, 22, 23, 24, 25, 26, 27, 28, 29, 30, 31, 32, 33, 34, 35, 36, 37, 38, 39, 40, 41, 42, 43, 44, 45] (by decide +kernel) (by decide +kernel)
set_option maxRecDepth 20000 in
theorem gX3_order_X3_beginEmpty : GoodIn wsX3_order (wsV RX3 58 RX3 yX3_beginEmpty wsX3_beginEmpty) := goodIn_app (goodIn_of _ (by decide +kernel)) ggX3_order_X3_beginEmpty
theorem dX3_order_0 : decode cX3_order 0 = .ok (.aload_n 0, 1) := by decide +kernel
theorem dX3_order_1 : decode cX3_order 1 = .ok (.iconst 1, 1) := by decide +kernel
theorem dX3_order_2 : decode cX3_order 2 = .ok (.iload_n 1, 1) := by decide +kernel
theorem dX3_order_3 : decode cX3_order 3 = .ok (.invokevirtual 58, 3) := by decide +kernel
theorem dX3_order_6 : decode cX3_order 6 = .ok (.ireturn, 1) := by decide +kernel
set_option maxRecDepth 20000 in
theorem ggX3_divisors_X3_isWithin : GoodIn wsX3_divisors wsX3_isWithin := goodIn_r _ [6] (by decide +kernel) (by decide +kernel)
set_option maxRecDepth 20000 in
theorem gX3_divisors_X3_isWithin : GoodIn wsX3_divisors (va_wsS RX3 34 yX3_isWithin wsX3_isWithin) := goodIn_app (goodIn_of _ (by decide +kernel)) ggX3_divisors_X3_isWithin
set_option maxRecDepth 20000 in
theorem ggX3_divisors_X3_listDivisors : GoodIn wsX3_divisors wsX3_listDivisors := goodIn_r _ [10, 1, 69, 70, 71, 72] (by decide +kernel) (by decide +kernel)
set_option maxRecDepth 20000 in
theorem gX3_divisors_X3_listDivisors : GoodIn wsX3_divisors (wsV RX3 61 RX3 yX3_listDivisors wsX3_listDivisors) := goodIn_app (goodIn_of _ (by decide +kernel)) ggX3_divisors_X3_listDivisors
set_option maxRecDepth 20000 in
theorem ggX3_divisors_X3_nextGame : GoodIn wsX3_divisors wsX3_nextGame := goodIn_r _ [14, 2, 15, 69, 70, 71, 72] (by decide +kernel) (by decide +kernel)
set_option maxRecDepth 20000 in
theorem gX3_divisors_X3_nextGame : GoodIn wsX3_divisors (wsV RX3 38 RX3 yX3_nextGame wsX3_nextGame) := goodIn_app (goodIn_of _ (by decide +kernel)) ggX3_divisors_X3_nextGame
set_option maxRecDepth 20000 in
theorem ggX3_divisors_X1_begin : GoodIn wsX3_divisors wsX1_begin := goodIn_r _ [20, 21, 22, 23, 24, 25, 26, 27, 19, 28, 29, 30, 73, 74, 75, 76, 77, 78, 79, 80, 81, 82, 83, 84] (by decide +kernel) (by decide +kernel)
set_option maxRecDepth 20000 in
theorem gX3_divisors_X1_begin : GoodIn wsX3_divisors (wsV RX3 42 RX1 yX1_begin wsX1_begin) := goodIn_app (goodIn_of _ (by decide +kernel)) ggX3_divisors_X1_begin
set_option maxRecDepth 20000 in
theorem ggX3_divisors_X1_putMultiples : GoodIn wsX3_divisors wsX1_putMultiples := goodIn_r _ [34, 35, 36, 37, 19, 38, 39, 23, 24, 25, 26, 27, 28, 29, 30, 40, 5, 41, 42, 43, 44, 45, 46, 47, 48, 49, 50, 51, 52, 53, 54, 55, 56, 57, 58, 59, 60, 61, 62, 63, 64, 65, 66, 67, 68, 73, 74, 75, 76, 77, 78, 79, 80, 81, 82, 83, 84] (by decide +kernel) (by decide +kernel)
set_option maxRecDepth 20000 in
theorem gX3_divisors_X1_putMultiples : GoodIn wsX3_divisors (wsV RX3 65 RX1 yX1_putMultiples wsX1_putMultiples) := goodIn_app (goodIn_of _ (by decide +kernel)) ggX3_divisors_X1_putMultiples
theorem dX3_divisors_0 : decode cX3_divisors 0 = .ok (.iload_n 1, 1) := by decide +kernel
theorem dX3_divisors_1 : decode cX3_divisors 1 = .ok (.iconst 1, 1) := by decide +kernel
theorem dX3_divisors_2 : decode cX3_divisors 2 = .ok (.sipush 10000, 3) := by decide +kernel
theorem dX3_divisors_5 : decode cX3_divisors 5 = .ok (.invokestatic 34, 3) := by decide +kernel
theorem dX3_divisors_8 : decode cX3_divisors 8 = .ok (.ifCond .eq 12, 3) := by decide +kernel
theorem dX3_divisors_11 : decode cX3_divisors 11 = .ok (.iload_n 2, 1) := by decide +kernel
theorem dX3_divisors_12 : decode cX3_divisors 12 = .ok (.iconst 0, 1) := by decide +kernel
theorem dX3_divisors_13 : decode cX3_divisors 13 = .ok (.iconst 1, 1) := by decide +kernel
theorem dX3_divisors_14 : decode cX3_divisors 14 = .ok (.invokestatic 34, 3) := by decide +kernel
theorem dX3_divisors_17 : decode cX3_divisors 17 = .ok (.ifCond .ne 7, 3) := by decide +kernel
theorem dX3_divisors_20 : decode cX3_divisors 20 = .ok (.sipush (-1002), 3) := by decide +kernel
theorem dX3_divisors_23 : decode cX3_divisors 23 = .ok (.ireturn, 1) := by decide +kernel
theorem dX3_divisors_24 : decode cX3_divisors 24 = .ok (.aload_n 0, 1) := by decide +kernel
theorem dX3_divisors_25 : decode cX3_divisors 25 = .ok (.iload_n 1, 1) := by decide +kernel
theorem dX3_divisors_26 : decode cX3_divisors 26 = .ok (.invokevirtual 61, 3) := by decide +kernel
theorem dX3_divisors_29 : decode cX3_divisors 29 = .ok (.istore_n 3, 1) := by decide +kernel
theorem dX3_divisors_30 : decode cX3_divisors 30 = .ok (.iload_n 3, 1) := by decide +kernel
theorem dX3_divisors_31 : decode cX3_divisors 31 = .ok (.bipush 12, 2) := by decide +kernel
theorem dX3_divisors_33 : decode cX3_divisors 33 = .ok (.if_icmp .le 7, 3) := by decide +kernel
theorem dX3_divisors_36 : decode cX3_divisors 36 = .ok (.sipush (-1002), 3) := by decide +kernel
theorem dX3_divisors_39 : decode cX3_divisors 39 = .ok (.ireturn, 1) := by decide +kernel
theorem dX3_divisors_40 : decode cX3_divisors 40 = .ok (.aload_n 0, 1) := by decide +kernel
theorem dX3_divisors_41 : decode cX3_divisors 41 = .ok (.invokevirtual 38, 3) := by decide +kernel
theorem dX3_divisors_44 : decode cX3_divisors 44 = .ok (.astore 4, 2) := by decide +kernel
theorem dX3_divisors_46 : decode cX3_divisors 46 = .ok (.aload 4, 2) := by decide +kernel
theorem dX3_divisors_48 : decode cX3_divisors 48 = .ok (.ifnonnull 7, 3) := by decide +kernel
theorem dX3_divisors_51 : decode cX3_divisors 51 = .ok (.sipush (-1004), 3) := by decide +kernel
theorem dX3_divisors_54 : decode cX3_divisors 54 = .ok (.ireturn, 1) := by decide +kernel
theorem dX3_divisors_55 : decode cX3_divisors 55 = .ok (.aload 4, 2) := by decide +kernel
theorem dX3_divisors_57 : decode cX3_divisors 57 = .ok (.iconst 1, 1) := by decide +kernel
theorem dX3_divisors_58 : decode cX3_divisors 58 = .ok (.iload_n 2, 1) := by decide +kernel
theorem dX3_divisors_59 : decode cX3_divisors 59 = .ok (.invokevirtual 42, 3) := by decide +kernel
theorem dX3_divisors_62 : decode cX3_divisors 62 = .ok (.aload 4, 2) := by decide +kernel
theorem dX3_divisors_64 : decode cX3_divisors 64 = .ok (.aload_n 0, 1) := by decide +kernel
theorem dX3_divisors_65 : decode cX3_divisors 65 = .ok (.getfield 15, 3) := by decide +kernel
theorem dX3_divisors_68 : decode cX3_divisors 68 = .ok (.iload_n 3, 1) := by decide +kernel
theorem dX3_divisors_69 : decode cX3_divisors 69 = .ok (.invokevirtual 65, 3) := by decide +kernel
theorem dX3_divisors_72 : decode cX3_divisors 72 = .ok (.aload_n 0, 1) := by decide +kernel
theorem dX3_divisors_73 : decode cX3_divisors 73 = .ok (.dup, 1) := by decide +kernel
theorem dX3_divisors_74 : decode cX3_divisors 74 = .ok (.getfield 54, 3) := by decide +kernel
theorem dX3_divisors_77 : decode cX3_divisors 77 = .ok (.dup_x1, 1) := by decide +kernel
theorem dX3_divisors_78 : decode cX3_divisors 78 = .ok (.iconst 1, 1) := by decide +kernel
theorem dX3_divisors_79 : decode cX3_divisors 79 = .ok (.iadd, 1) := by decide +kernel
theorem dX3_divisors_80 : decode cX3_divisors 80 = .ok (.putfield 54, 3) := by decide +kernel
theorem dX3_divisors_83 : decode cX3_divisors 83 = .ok (.ireturn, 1) := by decide +kernel
set_option maxRecDepth 20000 in
theorem ggX3_net_X3_beginEmpty : GoodIn wsX3_net wsX3_beginEmpty := goodIn_r _ [5, 6, 7, 8, 4, 9, 10, 11, 12, 13, 14, 15, 16, 17, 18, 19, 20, 21, 22, 23, 24, 25, 26, 27, 28, 29, 30, 31, 32, 33, 34, 35, 36, 37, 38, 39, 40, 41, 42, 43, 44, 45] (by decide +kernel) (by decide +kernel)
set_option maxRecDepth 20000 in
theorem gX3_net_X3_beginEmpty : GoodIn wsX3_net (wsV RX3 58 RX3 yX3_beginEmpty wsX3_beginEmpty) := goodIn_app (goodIn_of _ (by decide +kernel)) ggX3_net_X3_beginEmpty
theorem dX3_net_0 : decode cX3_net 0 = .ok (.aload_n 0, 1) := by decide +kernel
theorem dX3_net_1 : decode cX3_net 1 = .ok (.iconst 2, 1) := by decide +kernel
theorem dX3_net_2 : decode cX3_net 2 = .ok (.iload_n 1, 1) := by decide +kernel
theorem dX3_net_3 : decode cX3_net 3 = .ok (.invokevirtual 58, 3) := by decide +kernel
theorem dX3_net_6 : decode cX3_net 6 = .ok (.ireturn, 1) := by decide +kernel
theorem dX3_clear_0 : decode cX3_clear 0 = .ok (.aload_n 0, 1) := by decide +kernel
theorem dX3_clear_1 : decode cX3_clear 1 = .ok (.getfield 54, 3) := by decide +kernel
theorem dX3_clear_4 : decode cX3_clear 4 = .ok (.istore_n 1, 1) := by decide +kernel
theorem dX3_clear_5 : decode cX3_clear 5 = .ok (.aload_n 0, 1) := by decide +kernel
theorem dX3_clear_6 : decode cX3_clear 6 = .ok (.iconst 0, 1) := by decide +kernel
theorem dX3_clear_7 : decode cX3_clear 7 = .ok (.putfield 54, 3) := by decide +kernel
theorem dX3_clear_10 : decode cX3_clear 10 = .ok (.iload_n 1, 1) := by decide +kernel
theorem dX3_clear_11 : decode cX3_clear 11 = .ok (.ireturn, 1) := by decide +kernel
set_option maxRecDepth 20000 in
theorem ggX3_row_X3_gameOf : GoodIn wsX3_row wsX3_gameOf := goodIn_r _ [6, 7, 8, 9, 5, 10, 11, 12, 69, 70, 71, 72, 73, 74, 75, 76, 77, 78, 79, 80, 65, 66, 67, 68] (by decide +kernel) (by decide +kernel)
set_option maxRecDepth 20000 in
theorem gX3_row_X3_gameOf : GoodIn wsX3_row (wsV RX3 69 RX3 yX3_gameOf wsX3_gameOf) := goodIn_app (goodIn_of _ (by decide +kernel)) ggX3_row_X3_gameOf
set_option maxRecDepth 20000 in
theorem ggX3_row_X3_isWithin : GoodIn wsX3_row wsX3_isWithin := goodIn_r _ [15] (by decide +kernel) (by decide +kernel)
set_option maxRecDepth 20000 in
theorem gX3_row_X3_isWithin : GoodIn wsX3_row (va_wsS RX3 34 yX3_isWithin wsX3_isWithin) := goodIn_app (goodIn_of _ (by decide +kernel)) ggX3_row_X3_isWithin
set_option maxRecDepth 20000 in
theorem ggX3_row_X0_rowOf : GoodIn wsX3_row wsX0_rowOf := goodIn_r _ [20, 21, 22, 23, 24, 19, 25, 26, 27, 5, 28, 81, 82, 83, 84, 85, 86, 87] (by decide +kernel) (by decide +kernel)
set_option maxRecDepth 20000 in
theorem gX3_row_X0_rowOf : GoodIn wsX3_row (wsV RX3 76 RX0 yX0_rowOf wsX0_rowOf) := goodIn_app (goodIn_of _ (by decide +kernel)) ggX3_row_X0_rowOf
set_option maxRecDepth 20000 in
theorem ggX3_row_X0_rankWithRow : GoodIn wsX3_row wsX0_rankWithRow := goodIn_r _ [32, 21, 33, 34, 35, 36, 22, 23, 24, 19, 25, 26, 27, 5, 28, 37, 38, 39, 40, 81, 82, 83, 84, 85, 86, 87] (by decide +kernel) (by decide +kernel)
set_option maxRecDepth 20000 in
theorem gX3_row_X0_rankWithRow : GoodIn wsX3_row (wsV RX3 79 RX0 yX0_rankWithRow wsX0_rankWithRow) := goodIn_app (goodIn_of _ (by decide +kernel)) ggX3_row_X0_rankWithRow
set_option maxRecDepth 20000 in
theorem ggX3_row_X1_putBoard : GoodIn wsX3_row wsX1_putBoard := goodIn_r _ [45, 46, 47, 69, 70, 71, 72, 73, 74, 75, 76, 77, 78, 79, 80] (by decide +kernel) (by decide +kernel)
set_option maxRecDepth 20000 in
theorem gX3_row_X1_putBoard : GoodIn wsX3_row (wsV RX3 50 RX1 yX1_putBoard wsX1_putBoard) := goodIn_app (goodIn_of _ (by decide +kernel)) ggX3_row_X1_putBoard
set_option maxRecDepth 20000 in
theorem ggX3_row_X1_countBites : GoodIn wsX3_row wsX1_countBites := goodIn_r _ [51, 52, 53, 46, 54, 55, 56, 19, 57, 21, 22, 23, 24, 25, 26, 27, 5, 28, 58, 59, 60, 61, 62, 63, 64, 69, 70, 71, 72, 73, 74, 75, 76, 77, 78, 79, 80, 81, 82, 83, 84, 85, 86, 87] (by decide +kernel) (by decide +kernel)
set_option maxRecDepth 20000 in
theorem gX3_row_X1_countBites : GoodIn wsX3_row (wsV RX3 83 RX1 yX1_countBites wsX1_countBites) := goodIn_app (goodIn_of _ (by decide +kernel)) ggX3_row_X1_countBites
theorem dX3_row_0 : decode cX3_row 0 = .ok (.aload_n 0, 1) := by decide +kernel
theorem dX3_row_1 : decode cX3_row 1 = .ok (.iload_n 1, 1) := by decide +kernel
theorem dX3_row_2 : decode cX3_row 2 = .ok (.iconst 0, 1) := by decide +kernel
theorem dX3_row_3 : decode cX3_row 3 = .ok (.invokevirtual 69, 3) := by decide +kernel
theorem dX3_row_6 : decode cX3_row 6 = .ok (.astore 4, 2) := by decide +kernel
theorem dX3_row_8 : decode cX3_row 8 = .ok (.aload 4, 2) := by decide +kernel
theorem dX3_row_10 : decode cX3_row 10 = .ok (.ifnonnull 7, 3) := by decide +kernel
theorem dX3_row_13 : decode cX3_row 13 = .ok (.sipush (-1001), 3) := by decide +kernel
theorem dX3_row_16 : decode cX3_row 16 = .ok (.ireturn, 1) := by decide +kernel
theorem dX3_row_17 : decode cX3_row 17 = .ok (.iload_n 2, 1) := by decide +kernel
theorem dX3_row_18 : decode cX3_row 18 = .ok (.iconst 0, 1) := by decide +kernel
theorem dX3_row_19 : decode cX3_row 19 = .ok (.bipush 6, 2) := by decide +kernel
theorem dX3_row_21 : decode cX3_row 21 = .ok (.invokestatic 34, 3) := by decide +kernel
theorem dX3_row_24 : decode cX3_row 24 = .ok (.ifCond .eq 13, 3) := by decide +kernel
theorem dX3_row_27 : decode cX3_row 27 = .ok (.iload_n 3, 1) := by decide +kernel
theorem dX3_row_28 : decode cX3_row 28 = .ok (.iconst 0, 1) := by decide +kernel
theorem dX3_row_29 : decode cX3_row 29 = .ok (.bipush 7, 2) := by decide +kernel
theorem dX3_row_31 : decode cX3_row 31 = .ok (.invokestatic 34, 3) := by decide +kernel
theorem dX3_row_34 : decode cX3_row 34 = .ok (.ifCond .ne 7, 3) := by decide +kernel
theorem dX3_row_37 : decode cX3_row 37 = .ok (.sipush (-1002), 3) := by decide +kernel
theorem dX3_row_40 : decode cX3_row 40 = .ok (.ireturn, 1) := by decide +kernel
theorem dX3_row_41 : decode cX3_row 41 = .ok (.iload_n 2, 1) := by decide +kernel
theorem dX3_row_42 : decode cX3_row 42 = .ok (.ifCond .le 26, 3) := by decide +kernel
theorem dX3_row_45 : decode cX3_row 45 = .ok (.iload_n 3, 1) := by decide +kernel
theorem dX3_row_46 : decode cX3_row 46 = .ok (.aload_n 0, 1) := by decide +kernel
theorem dX3_row_47 : decode cX3_row 47 = .ok (.getfield 27, 3) := by decide +kernel
theorem dX3_row_50 : decode cX3_row 50 = .ok (.aload 4, 2) := by decide +kernel
theorem dX3_row_52 : decode cX3_row 52 = .ok (.getfield 73, 3) := by decide +kernel
theorem dX3_row_55 : decode cX3_row 55 = .ok (.iload_n 2, 1) := by decide +kernel
theorem dX3_row_56 : decode cX3_row 56 = .ok (.iconst 1, 1) := by decide +kernel
theorem dX3_row_57 : decode cX3_row 57 = .ok (.isub, 1) := by decide +kernel
theorem dX3_row_58 : decode cX3_row 58 = .ok (.invokevirtual 76, 3) := by decide +kernel
theorem dX3_row_61 : decode cX3_row 61 = .ok (.if_icmp .le 7, 3) := by decide +kernel
theorem dX3_row_64 : decode cX3_row 64 = .ok (.sipush (-1003), 3) := by decide +kernel
theorem dX3_row_67 : decode cX3_row 67 = .ok (.ireturn, 1) := by decide +kernel
theorem dX3_row_68 : decode cX3_row 68 = .ok (.aload 4, 2) := by decide +kernel
theorem dX3_row_70 : decode cX3_row 70 = .ok (.aload_n 0, 1) := by decide +kernel
theorem dX3_row_71 : decode cX3_row 71 = .ok (.getfield 27, 3) := by decide +kernel
theorem dX3_row_74 : decode cX3_row 74 = .ok (.aload 4, 2) := by decide +kernel
theorem dX3_row_76 : decode cX3_row 76 = .ok (.getfield 73, 3) := by decide +kernel
theorem dX3_row_79 : decode cX3_row 79 = .ok (.iload_n 2, 1) := by decide +kernel
theorem dX3_row_80 : decode cX3_row 80 = .ok (.iload_n 3, 1) := by decide +kernel
theorem dX3_row_81 : decode cX3_row 81 = .ok (.invokevirtual 79, 3) := by decide +kernel
theorem dX3_row_84 : decode cX3_row 84 = .ok (.invokevirtual 50, 3) := by decide +kernel
theorem dX3_row_87 : decode cX3_row 87 = .ok (.aload 4, 2) := by decide +kernel
theorem dX3_row_89 : decode cX3_row 89 = .ok (.invokevirtual 83, 3) := by decide +kernel
theorem dX3_row_92 : decode cX3_row 92 = .ok (.ireturn, 1) := by decide +kernel
set_option maxRecDepth 20000 in
theorem ggX3_thing_X3_gameOf : GoodIn wsX3_thing wsX3_gameOf := goodIn_r _ [5, 6, 7, 8, 4, 9, 10, 11, 37, 38, 39, 40, 41, 42, 43, 44, 45, 46, 47, 48, 49, 50, 51, 52] (by decide +kernel) (by decide +kernel)
set_option maxRecDepth 20000 in
theorem gX3_thing_X3_gameOf : GoodIn wsX3_thing (wsV RX3 69 RX3 yX3_gameOf wsX3_gameOf) := goodIn_app (goodIn_of _ (by decide +kernel)) ggX3_thing_X3_gameOf
set_option maxRecDepth 20000 in
theorem ggX3_thing_X1_countThings : GoodIn wsX3_thing wsX1_countThings := goodIn_r _ [16, 17, 18, 19, 20, 21, 22, 23, 24, 37, 38, 39, 40, 41, 42, 43, 44, 45, 46, 47, 48] (by decide +kernel) (by decide +kernel)
set_option maxRecDepth 20000 in
theorem gX3_thing_X1_countThings : GoodIn wsX3_thing (wsV RX3 87 RX1 yX1_countThings wsX1_countThings) := goodIn_app (goodIn_of _ (by decide +kernel)) ggX3_thing_X1_countThings
set_option maxRecDepth 20000 in
theorem ggX3_thing_X1_addPart : GoodIn wsX3_thing wsX1_addPart := goodIn_r _ [28, 29, 17, 30, 31, 32, 33, 15, 34, 35, 36, 37, 38, 39, 40, 41, 42, 43, 44, 45, 46, 47, 48] (by decide +kernel) (by decide +kernel)
set_option maxRecDepth 20000 in
theorem gX3_thing_X1_addPart : GoodIn wsX3_thing (wsV RX3 90 RX1 yX1_addPart wsX1_addPart) := goodIn_app (goodIn_of _ (by decide +kernel)) ggX3_thing_X1_addPart
theorem dX3_thing_0 : decode cX3_thing 0 = .ok (.aload_n 0, 1) := by decide +kernel
theorem dX3_thing_1 : decode cX3_thing 1 = .ok (.iload_n 1, 1) := by decide +kernel
theorem dX3_thing_2 : decode cX3_thing 2 = .ok (.iconst 1, 1) := by decide +kernel
theorem dX3_thing_3 : decode cX3_thing 3 = .ok (.invokevirtual 69, 3) := by decide +kernel
theorem dX3_thing_6 : decode cX3_thing 6 = .ok (.astore_n 2, 1) := by decide +kernel
theorem dX3_thing_7 : decode cX3_thing 7 = .ok (.aload_n 2, 1) := by decide +kernel
theorem dX3_thing_8 : decode cX3_thing 8 = .ok (.ifnonnull 7, 3) := by decide +kernel
theorem dX3_thing_11 : decode cX3_thing 11 = .ok (.sipush (-1001), 3) := by decide +kernel
theorem dX3_thing_14 : decode cX3_thing 14 = .ok (.ireturn, 1) := by decide +kernel
theorem dX3_thing_15 : decode cX3_thing 15 = .ok (.aload_n 2, 1) := by decide +kernel
theorem dX3_thing_16 : decode cX3_thing 16 = .ok (.invokevirtual 87, 3) := by decide +kernel
theorem dX3_thing_19 : decode cX3_thing 19 = .ok (.istore_n 3, 1) := by decide +kernel
theorem dX3_thing_20 : decode cX3_thing 20 = .ok (.iload_n 3, 1) := by decide +kernel
theorem dX3_thing_21 : decode cX3_thing 21 = .ok (.bipush 12, 2) := by decide +kernel
theorem dX3_thing_23 : decode cX3_thing 23 = .ok (.if_icmp .lt 7, 3) := by decide +kernel
theorem dX3_thing_26 : decode cX3_thing 26 = .ok (.sipush (-1004), 3) := by decide +kernel
theorem dX3_thing_29 : decode cX3_thing 29 = .ok (.ireturn, 1) := by decide +kernel
theorem dX3_thing_30 : decode cX3_thing 30 = .ok (.aload_n 2, 1) := by decide +kernel
theorem dX3_thing_31 : decode cX3_thing 31 = .ok (.iload_n 3, 1) := by decide +kernel
theorem dX3_thing_32 : decode cX3_thing 32 = .ok (.invokevirtual 90, 3) := by decide +kernel
theorem dX3_thing_35 : decode cX3_thing 35 = .ok (.iload_n 3, 1) := by decide +kernel
theorem dX3_thing_36 : decode cX3_thing 36 = .ok (.ireturn, 1) := by decide +kernel
set_option maxRecDepth 20000 in
theorem ggX3_below_X3_gameOf : GoodIn wsX3_below wsX3_gameOf := goodIn_r _ [5, 6, 7, 8, 4, 9, 10, 11, 57, 58, 59, 60, 61, 62, 63, 64, 65, 66, 67, 68, 69, 70, 71, 72] (by decide +kernel) (by decide +kernel)
set_option maxRecDepth 20000 in
theorem gX3_below_X3_gameOf : GoodIn wsX3_below (wsV RX3 69 RX3 yX3_gameOf wsX3_gameOf) := goodIn_app (goodIn_of _ (by decide +kernel)) ggX3_below_X3_gameOf
set_option maxRecDepth 20000 in
theorem ggX3_below_X1_hasThing : GoodIn wsX3_below wsX1_hasThing := goodIn_r _ [16, 17, 18, 19, 15, 20, 21, 22, 23, 24, 25, 26, 27, 28, 57, 58, 59, 60, 61, 62, 63, 64, 65, 66, 67, 68] (by decide +kernel) (by decide +kernel)
set_option maxRecDepth 20000 in
theorem gX3_below_X1_hasThing : GoodIn wsX3_below (wsV RX3 93 RX1 yX1_hasThing wsX1_hasThing) := goodIn_app (goodIn_of _ (by decide +kernel)) ggX3_below_X1_hasThing
set_option maxRecDepth 20000 in
theorem ggX3_below_X1_takesAlong : GoodIn wsX3_below wsX1_takesAlong := goodIn_r _ [32, 33, 34, 4, 35, 57, 58, 59, 60, 61, 62, 63, 64, 65, 66, 67, 68] (by decide +kernel) (by decide +kernel)
set_option maxRecDepth 20000 in
theorem gX3_below_X1_takesAlong : GoodIn wsX3_below (wsV RX3 97 RX1 yX1_takesAlong wsX1_takesAlong) := goodIn_app (goodIn_of _ (by decide +kernel)) ggX3_below_X1_takesAlong
set_option maxRecDepth 20000 in
theorem ggX3_below_X1_putBelow : GoodIn wsX3_below wsX1_putBelow := goodIn_r _ [39, 33, 40, 34, 4, 35, 41, 30, 31, 15, 32, 42, 13, 14, 16, 17, 18, 19, 20, 21, 22, 23, 24, 25, 26, 27, 28, 43, 44, 45, 46, 47, 48, 49, 50, 51, 52, 57, 58, 59, 60, 61, 62, 63, 64, 65, 66, 67, 68] (by decide +kernel) (by decide +kernel)
set_option maxRecDepth 20000 in
theorem gX3_below_X1_putBelow : GoodIn wsX3_below (wsV RX3 101 RX1 yX1_putBelow wsX1_putBelow) := goodIn_app (goodIn_of _ (by decide +kernel)) ggX3_below_X1_putBelow
set_option maxRecDepth 20000 in
theorem ggX3_below_X1_countPairs : GoodIn wsX3_below wsX1_countPairs := goodIn_r _ [56, 33, 17, 18, 19, 15, 20, 21, 22, 23, 24, 25, 26, 27, 28, 34, 4, 35, 57, 58, 59, 60, 61, 62, 63, 64, 65, 66, 67, 68] (by decide +kernel) (by decide +kernel)
set_option maxRecDepth 20000 in
theorem gX3_below_X1_countPairs : GoodIn wsX3_below (wsV RX3 104 RX1 yX1_countPairs wsX1_countPairs) := goodIn_app (goodIn_of _ (by decide +kernel)) ggX3_below_X1_countPairs
theorem dX3_below_0 : decode cX3_below 0 = .ok (.aload_n 0, 1) := by decide +kernel
theorem dX3_below_1 : decode cX3_below 1 = .ok (.iload_n 1, 1) := by decide +kernel
theorem dX3_below_2 : decode cX3_below 2 = .ok (.iconst 1, 1) := by decide +kernel
theorem dX3_below_3 : decode cX3_below 3 = .ok (.invokevirtual 69, 3) := by decide +kernel
theorem dX3_below_6 : decode cX3_below 6 = .ok (.astore 4, 2) := by decide +kernel
theorem dX3_below_8 : decode cX3_below 8 = .ok (.aload 4, 2) := by decide +kernel
theorem dX3_below_10 : decode cX3_below 10 = .ok (.ifnull 21, 3) := by decide +kernel
theorem dX3_below_13 : decode cX3_below 13 = .ok (.aload 4, 2) := by decide +kernel
theorem dX3_below_15 : decode cX3_below 15 = .ok (.iload_n 2, 1) := by decide +kernel
theorem dX3_below_16 : decode cX3_below 16 = .ok (.invokevirtual 93, 3) := by decide +kernel
theorem dX3_below_19 : decode cX3_below 19 = .ok (.ifCond .eq 12, 3) := by decide +kernel
theorem dX3_below_22 : decode cX3_below 22 = .ok (.aload 4, 2) := by decide +kernel
theorem dX3_below_24 : decode cX3_below 24 = .ok (.iload_n 3, 1) := by decide +kernel
theorem dX3_below_25 : decode cX3_below 25 = .ok (.invokevirtual 93, 3) := by decide +kernel
theorem dX3_below_28 : decode cX3_below 28 = .ok (.ifCond .ne 7, 3) := by decide +kernel
theorem dX3_below_31 : decode cX3_below 31 = .ok (.sipush (-1001), 3) := by decide +kernel
theorem dX3_below_34 : decode cX3_below 34 = .ok (.ireturn, 1) := by decide +kernel
theorem dX3_below_35 : decode cX3_below 35 = .ok (.iload_n 2, 1) := by decide +kernel
theorem dX3_below_36 : decode cX3_below 36 = .ok (.iload_n 3, 1) := by decide +kernel
theorem dX3_below_37 : decode cX3_below 37 = .ok (.if_icmp .eq 13, 3) := by decide +kernel
theorem dX3_below_40 : decode cX3_below 40 = .ok (.aload 4, 2) := by decide +kernel
theorem dX3_below_42 : decode cX3_below 42 = .ok (.iload_n 3, 1) := by decide +kernel
theorem dX3_below_43 : decode cX3_below 43 = .ok (.iload_n 2, 1) := by decide +kernel
theorem dX3_below_44 : decode cX3_below 44 = .ok (.invokevirtual 97, 3) := by decide +kernel
theorem dX3_below_47 : decode cX3_below 47 = .ok (.ifCond .eq 7, 3) := by decide +kernel
theorem dX3_below_50 : decode cX3_below 50 = .ok (.sipush (-1003), 3) := by decide +kernel
theorem dX3_below_53 : decode cX3_below 53 = .ok (.ireturn, 1) := by decide +kernel
theorem dX3_below_54 : decode cX3_below 54 = .ok (.aload 4, 2) := by decide +kernel
theorem dX3_below_56 : decode cX3_below 56 = .ok (.iload_n 2, 1) := by decide +kernel
theorem dX3_below_57 : decode cX3_below 57 = .ok (.iload_n 3, 1) := by decide +kernel
theorem dX3_below_58 : decode cX3_below 58 = .ok (.invokevirtual 101, 3) := by decide +kernel
theorem dX3_below_61 : decode cX3_below 61 = .ok (.aload 4, 2) := by decide +kernel
theorem dX3_below_63 : decode cX3_below 63 = .ok (.invokevirtual 104, 3) := by decide +kernel
theorem dX3_below_66 : decode cX3_below 66 = .ok (.ireturn, 1) := by decide +kernel
set_option maxRecDepth 20000 in
theorem ggX3_post_X3_gameOf : GoodIn wsX3_post wsX3_gameOf := goodIn_r _ [5, 6, 7, 8, 4, 9, 10, 11, 37, 38, 39, 40, 41, 42, 43, 44, 45, 46, 47, 48, 49, 50, 51, 52] (by decide +kernel) (by decide +kernel)
set_option maxRecDepth 20000 in
theorem gX3_post_X3_gameOf : GoodIn wsX3_post (wsV RX3 69 RX3 yX3_gameOf wsX3_gameOf) := goodIn_app (goodIn_of _ (by decide +kernel)) ggX3_post_X3_gameOf
set_option maxRecDepth 20000 in
theorem ggX3_post_X1_countPosts : GoodIn wsX3_post wsX1_countPosts := goodIn_r _ [16, 17, 18, 19, 20, 21, 22, 23, 24, 37, 38, 39, 40, 41, 42, 43, 44, 45, 46, 47, 48] (by decide +kernel) (by decide +kernel)
set_option maxRecDepth 20000 in
theorem gX3_post_X1_countPosts : GoodIn wsX3_post (wsV RX3 107 RX1 yX1_countPosts wsX1_countPosts) := goodIn_app (goodIn_of _ (by decide +kernel)) ggX3_post_X1_countPosts
set_option maxRecDepth 20000 in
theorem ggX3_post_X1_addPart : GoodIn wsX3_post wsX1_addPart := goodIn_r _ [28, 29, 17, 30, 31, 32, 33, 15, 34, 35, 36, 37, 38, 39, 40, 41, 42, 43, 44, 45, 46, 47, 48] (by decide +kernel) (by decide +kernel)
set_option maxRecDepth 20000 in
theorem gX3_post_X1_addPart : GoodIn wsX3_post (wsV RX3 90 RX1 yX1_addPart wsX1_addPart) := goodIn_app (goodIn_of _ (by decide +kernel)) ggX3_post_X1_addPart
theorem dX3_post_0 : decode cX3_post 0 = .ok (.aload_n 0, 1) := by decide +kernel
theorem dX3_post_1 : decode cX3_post 1 = .ok (.iload_n 1, 1) := by decide +kernel
theorem dX3_post_2 : decode cX3_post 2 = .ok (.iconst 2, 1) := by decide +kernel
theorem dX3_post_3 : decode cX3_post 3 = .ok (.invokevirtual 69, 3) := by decide +kernel
theorem dX3_post_6 : decode cX3_post 6 = .ok (.astore_n 2, 1) := by decide +kernel
theorem dX3_post_7 : decode cX3_post 7 = .ok (.aload_n 2, 1) := by decide +kernel
theorem dX3_post_8 : decode cX3_post 8 = .ok (.ifnonnull 7, 3) := by decide +kernel
theorem dX3_post_11 : decode cX3_post 11 = .ok (.sipush (-1001), 3) := by decide +kernel
theorem dX3_post_14 : decode cX3_post 14 = .ok (.ireturn, 1) := by decide +kernel
theorem dX3_post_15 : decode cX3_post 15 = .ok (.aload_n 2, 1) := by decide +kernel
theorem dX3_post_16 : decode cX3_post 16 = .ok (.invokevirtual 107, 3) := by decide +kernel
theorem dX3_post_19 : decode cX3_post 19 = .ok (.istore_n 3, 1) := by decide +kernel
theorem dX3_post_20 : decode cX3_post 20 = .ok (.iload_n 3, 1) := by decide +kernel
theorem dX3_post_21 : decode cX3_post 21 = .ok (.bipush 6, 2) := by decide +kernel
theorem dX3_post_23 : decode cX3_post 23 = .ok (.if_icmp .lt 7, 3) := by decide +kernel
theorem dX3_post_26 : decode cX3_post 26 = .ok (.sipush (-1004), 3) := by decide +kernel
theorem dX3_post_29 : decode cX3_post 29 = .ok (.ireturn, 1) := by decide +kernel
theorem dX3_post_30 : decode cX3_post 30 = .ok (.aload_n 2, 1) := by decide +kernel
theorem dX3_post_31 : decode cX3_post 31 = .ok (.iload_n 3, 1) := by decide +kernel
theorem dX3_post_32 : decode cX3_post 32 = .ok (.invokevirtual 90, 3) := by decide +kernel
theorem dX3_post_35 : decode cX3_post 35 = .ok (.iload_n 3, 1) := by decide +kernel
theorem dX3_post_36 : decode cX3_post 36 = .ok (.ireturn, 1) := by decide +kernel
set_option maxRecDepth 20000 in
theorem ggX3_road_X3_gameOf : GoodIn wsX3_road wsX3_gameOf := goodIn_r _ [5, 6, 7, 8, 4, 9, 10, 11, 53, 54, 55, 56, 57, 58, 59, 60, 61, 62, 63, 64, 65, 66, 67, 68] (by decide +kernel) (by decide +kernel)
set_option maxRecDepth 20000 in
theorem gX3_road_X3_gameOf : GoodIn wsX3_road (wsV RX3 69 RX3 yX3_gameOf wsX3_gameOf) := goodIn_app (goodIn_of _ (by decide +kernel)) ggX3_road_X3_gameOf
set_option maxRecDepth 20000 in
theorem ggX3_road_X1_hasPost : GoodIn wsX3_road wsX1_hasPost := goodIn_r _ [16, 17, 18, 19, 15, 20, 21, 22, 23, 24, 25, 26, 27, 28, 53, 54, 55, 56, 57, 58, 59, 60, 61, 62, 63, 64] (by decide +kernel) (by decide +kernel)
set_option maxRecDepth 20000 in
theorem gX3_road_X1_hasPost : GoodIn wsX3_road (wsV RX3 110 RX1 yX1_hasPost wsX1_hasPost) := goodIn_app (goodIn_of _ (by decide +kernel)) ggX3_road_X1_hasPost
set_option maxRecDepth 20000 in
theorem ggX3_road_X1_countRoads : GoodIn wsX3_road wsX1_countRoads := goodIn_r _ [32, 21, 22, 23, 24, 25, 26, 27, 28, 53, 54, 55, 56, 57, 58, 59, 60, 61, 62, 63, 64] (by decide +kernel) (by decide +kernel)
set_option maxRecDepth 20000 in
theorem gX3_road_X1_countRoads : GoodIn wsX3_road (wsV RX3 113 RX1 yX1_countRoads wsX1_countRoads) := goodIn_app (goodIn_of _ (by decide +kernel)) ggX3_road_X1_countRoads
set_option maxRecDepth 20000 in
theorem ggX3_road_X1_addRoad : GoodIn wsX3_road wsX1_addRoad := goodIn_r _ [36, 37, 38, 39, 15, 40, 41, 21, 42, 43, 44, 45, 46, 47, 48, 49, 50, 51, 52, 53, 54, 55, 56, 57, 58, 59, 60, 61, 62, 63, 64] (by decide +kernel) (by decide +kernel)
set_option maxRecDepth 20000 in
theorem gX3_road_X1_addRoad : GoodIn wsX3_road (wsV RX3 116 RX1 yX1_addRoad wsX1_addRoad) := goodIn_app (goodIn_of _ (by decide +kernel)) ggX3_road_X1_addRoad
theorem dX3_road_0 : decode cX3_road 0 = .ok (.aload_n 0, 1) := by decide +kernel
theorem dX3_road_1 : decode cX3_road 1 = .ok (.iload_n 1, 1) := by decide +kernel
theorem dX3_road_2 : decode cX3_road 2 = .ok (.iconst 2, 1) := by decide +kernel
theorem dX3_road_3 : decode cX3_road 3 = .ok (.invokevirtual 69, 3) := by decide +kernel
theorem dX3_road_6 : decode cX3_road 6 = .ok (.astore 4, 2) := by decide +kernel
theorem dX3_road_8 : decode cX3_road 8 = .ok (.aload 4, 2) := by decide +kernel
theorem dX3_road_10 : decode cX3_road 10 = .ok (.ifnull 21, 3) := by decide +kernel
theorem dX3_road_13 : decode cX3_road 13 = .ok (.aload 4, 2) := by decide +kernel
theorem dX3_road_15 : decode cX3_road 15 = .ok (.iload_n 2, 1) := by decide +kernel
theorem dX3_road_16 : decode cX3_road 16 = .ok (.invokevirtual 110, 3) := by decide +kernel
theorem dX3_road_19 : decode cX3_road 19 = .ok (.ifCond .eq 12, 3) := by decide +kernel
theorem dX3_road_22 : decode cX3_road 22 = .ok (.aload 4, 2) := by decide +kernel
theorem dX3_road_24 : decode cX3_road 24 = .ok (.iload_n 3, 1) := by decide +kernel
theorem dX3_road_25 : decode cX3_road 25 = .ok (.invokevirtual 110, 3) := by decide +kernel
theorem dX3_road_28 : decode cX3_road 28 = .ok (.ifCond .ne 7, 3) := by decide +kernel
theorem dX3_road_31 : decode cX3_road 31 = .ok (.sipush (-1001), 3) := by decide +kernel
theorem dX3_road_34 : decode cX3_road 34 = .ok (.ireturn, 1) := by decide +kernel
theorem dX3_road_35 : decode cX3_road 35 = .ok (.iload_n 2, 1) := by decide +kernel
theorem dX3_road_36 : decode cX3_road 36 = .ok (.iload_n 3, 1) := by decide +kernel
theorem dX3_road_37 : decode cX3_road 37 = .ok (.if_icmp .ne 7, 3) := by decide +kernel
theorem dX3_road_40 : decode cX3_road 40 = .ok (.sipush (-1003), 3) := by decide +kernel
theorem dX3_road_43 : decode cX3_road 43 = .ok (.ireturn, 1) := by decide +kernel
theorem dX3_road_44 : decode cX3_road 44 = .ok (.aload 4, 2) := by decide +kernel
theorem dX3_road_46 : decode cX3_road 46 = .ok (.invokevirtual 113, 3) := by decide +kernel
theorem dX3_road_49 : decode cX3_road 49 = .ok (.istore 5, 2) := by decide +kernel
theorem dX3_road_51 : decode cX3_road 51 = .ok (.iload 5, 2) := by decide +kernel
theorem dX3_road_53 : decode cX3_road 53 = .ok (.bipush 9, 2) := by decide +kernel
theorem dX3_road_55 : decode cX3_road 55 = .ok (.if_icmp .lt 7, 3) := by decide +kernel
theorem dX3_road_58 : decode cX3_road 58 = .ok (.sipush (-1004), 3) := by decide +kernel
theorem dX3_road_61 : decode cX3_road 61 = .ok (.ireturn, 1) := by decide +kernel
theorem dX3_road_62 : decode cX3_road 62 = .ok (.aload 4, 2) := by decide +kernel
theorem dX3_road_64 : decode cX3_road 64 = .ok (.bipush 6, 2) := by decide +kernel
theorem dX3_road_66 : decode cX3_road 66 = .ok (.iload 5, 2) := by decide +kernel
theorem dX3_road_68 : decode cX3_road 68 = .ok (.iadd, 1) := by decide +kernel
theorem dX3_road_69 : decode cX3_road 69 = .ok (.iload_n 2, 1) := by decide +kernel
theorem dX3_road_70 : decode cX3_road 70 = .ok (.iload_n 3, 1) := by decide +kernel
theorem dX3_road_71 : decode cX3_road 71 = .ok (.invokevirtual 116, 3) := by decide +kernel
theorem dX3_road_74 : decode cX3_road 74 = .ok (.iload 5, 2) := by decide +kernel
theorem dX3_road_76 : decode cX3_road 76 = .ok (.ireturn, 1) := by decide +kernel
set_option maxRecDepth 20000 in
theorem ggX3_rule_X3_gameAt : GoodIn wsX3_rule wsX3_gameAt := goodIn_r _ [5, 6, 7, 23, 24, 25, 26] (by decide +kernel) (by decide +kernel)
set_option maxRecDepth 20000 in
theorem gX3_rule_X3_gameAt : GoodIn wsX3_rule (wsV RX3 120 RX3 yX3_gameAt wsX3_gameAt) := goodIn_app (goodIn_of _ (by decide +kernel)) ggX3_rule_X3_gameAt
set_option maxRecDepth 20000 in
theorem ggX3_rule_X3_isWithin : GoodIn wsX3_rule wsX3_isWithin := goodIn_r _ [10] (by decide +kernel) (by decide +kernel)
set_option maxRecDepth 20000 in
theorem gX3_rule_X3_isWithin : GoodIn wsX3_rule (va_wsS RX3 34 yX3_isWithin wsX3_isWithin) := goodIn_app (goodIn_of _ (by decide +kernel)) ggX3_rule_X3_isWithin
theorem dX3_rule_0 : decode cX3_rule 0 = .ok (.aload_n 0, 1) := by decide +kernel
theorem dX3_rule_1 : decode cX3_rule 1 = .ok (.iload_n 1, 1) := by decide +kernel
theorem dX3_rule_2 : decode cX3_rule 2 = .ok (.invokevirtual 120, 3) := by decide +kernel
theorem dX3_rule_5 : decode cX3_rule 5 = .ok (.astore_n 3, 1) := by decide +kernel
theorem dX3_rule_6 : decode cX3_rule 6 = .ok (.aload_n 3, 1) := by decide +kernel
theorem dX3_rule_7 : decode cX3_rule 7 = .ok (.ifnonnull 7, 3) := by decide +kernel
theorem dX3_rule_10 : decode cX3_rule 10 = .ok (.sipush (-1001), 3) := by decide +kernel
theorem dX3_rule_13 : decode cX3_rule 13 = .ok (.ireturn, 1) := by decide +kernel
theorem dX3_rule_14 : decode cX3_rule 14 = .ok (.iload_n 2, 1) := by decide +kernel
theorem dX3_rule_15 : decode cX3_rule 15 = .ok (.iconst 0, 1) := by decide +kernel
theorem dX3_rule_16 : decode cX3_rule 16 = .ok (.iconst 1, 1) := by decide +kernel
theorem dX3_rule_17 : decode cX3_rule 17 = .ok (.invokestatic 34, 3) := by decide +kernel
theorem dX3_rule_20 : decode cX3_rule 20 = .ok (.ifCond .ne 7, 3) := by decide +kernel
theorem dX3_rule_23 : decode cX3_rule 23 = .ok (.sipush (-1002), 3) := by decide +kernel
theorem dX3_rule_26 : decode cX3_rule 26 = .ok (.ireturn, 1) := by decide +kernel
theorem dX3_rule_27 : decode cX3_rule 27 = .ok (.aload_n 3, 1) := by decide +kernel
theorem dX3_rule_28 : decode cX3_rule 28 = .ok (.getfield 124, 3) := by decide +kernel
theorem dX3_rule_31 : decode cX3_rule 31 = .ok (.istore 4, 2) := by decide +kernel
theorem dX3_rule_33 : decode cX3_rule 33 = .ok (.aload_n 3, 1) := by decide +kernel
theorem dX3_rule_34 : decode cX3_rule 34 = .ok (.iload_n 2, 1) := by decide +kernel
theorem dX3_rule_35 : decode cX3_rule 35 = .ok (.putfield 124, 3) := by decide +kernel
theorem dX3_rule_38 : decode cX3_rule 38 = .ok (.iload 4, 2) := by decide +kernel
theorem dX3_rule_40 : decode cX3_rule 40 = .ok (.ireturn, 1) := by decide +kernel
set_option maxRecDepth 20000 in
theorem ggX3_told_X3_gameAt : GoodIn wsX3_told wsX3_gameAt := goodIn_r _ [5, 6, 7, 48, 49, 50, 51] (by decide +kernel) (by decide +kernel)
set_option maxRecDepth 20000 in
theorem gX3_told_X3_gameAt : GoodIn wsX3_told (wsV RX3 120 RX3 yX3_gameAt wsX3_gameAt) := goodIn_app (goodIn_of _ (by decide +kernel)) ggX3_told_X3_gameAt
set_option maxRecDepth 20000 in
theorem ggX3_told_X1_countBites : GoodIn wsX3_told wsX1_countBites := goodIn_r _ [12, 13, 14, 15, 16, 17, 18, 19, 20, 21, 22, 23, 24, 25, 26, 27, 4, 28, 29, 30, 31, 32, 33, 34, 35, 36, 37, 38, 39, 40, 41, 42, 43, 44, 45, 46, 47, 52, 53, 54, 55, 56, 57, 58] (by decide +kernel) (by decide +kernel)
set_option maxRecDepth 20000 in
theorem gX3_told_X1_countBites : GoodIn wsX3_told (wsV RX3 83 RX1 yX1_countBites wsX1_countBites) := goodIn_app (goodIn_of _ (by decide +kernel)) ggX3_told_X1_countBites
theorem dX3_told_0 : decode cX3_told 0 = .ok (.aload_n 0, 1) := by decide +kernel
theorem dX3_told_1 : decode cX3_told 1 = .ok (.iload_n 1, 1) := by decide +kernel
theorem dX3_told_2 : decode cX3_told 2 = .ok (.invokevirtual 120, 3) := by decide +kernel
theorem dX3_told_5 : decode cX3_told 5 = .ok (.astore_n 3, 1) := by decide +kernel
theorem dX3_told_6 : decode cX3_told 6 = .ok (.aload_n 3, 1) := by decide +kernel
theorem dX3_told_7 : decode cX3_told 7 = .ok (.ifnonnull 7, 3) := by decide +kernel
theorem dX3_told_10 : decode cX3_told 10 = .ok (.sipush (-1001), 3) := by decide +kernel
theorem dX3_told_13 : decode cX3_told 13 = .ok (.ireturn, 1) := by decide +kernel
theorem dX3_told_14 : decode cX3_told 14 = .ok (.iload_n 2, 1) := by decide +kernel
theorem dX3_told_15 : decode cX3_told 15 = .ok (.tableswitch 62 0 5 #[37, 42, 47, 47, 52, 57], 37) := by decide +kernel
theorem dX3_told_52 : decode cX3_told 52 = .ok (.aload_n 3, 1) := by decide +kernel
theorem dX3_told_53 : decode cX3_told 53 = .ok (.getfield 127, 3) := by decide +kernel
theorem dX3_told_56 : decode cX3_told 56 = .ok (.ireturn, 1) := by decide +kernel
theorem dX3_told_57 : decode cX3_told 57 = .ok (.aload_n 3, 1) := by decide +kernel
theorem dX3_told_58 : decode cX3_told 58 = .ok (.getfield 124, 3) := by decide +kernel
theorem dX3_told_61 : decode cX3_told 61 = .ok (.ireturn, 1) := by decide +kernel
theorem dX3_told_62 : decode cX3_told 62 = .ok (.aload_n 3, 1) := by decide +kernel
theorem dX3_told_63 : decode cX3_told 63 = .ok (.invokevirtual 83, 3) := by decide +kernel
theorem dX3_told_66 : decode cX3_told 66 = .ok (.ireturn, 1) := by decide +kernel
theorem dX3_told_67 : decode cX3_told 67 = .ok (.aload_n 3, 1) := by decide +kernel
theorem dX3_told_68 : decode cX3_told 68 = .ok (.getfield 130, 3) := by decide +kernel
theorem dX3_told_71 : decode cX3_told 71 = .ok (.ireturn, 1) := by decide +kernel
theorem dX3_told_72 : decode cX3_told 72 = .ok (.aload_n 3, 1) := by decide +kernel
theorem dX3_told_73 : decode cX3_told 73 = .ok (.getfield 73, 3) := by decide +kernel
theorem dX3_told_76 : decode cX3_told 76 = .ok (.ireturn, 1) := by decide +kernel
theorem dX3_told_77 : decode cX3_told 77 = .ok (.sipush (-1002), 3) := by decide +kernel
theorem dX3_told_80 : decode cX3_told 80 = .ok (.ireturn, 1) := by decide +kernel
set_option maxRecDepth 20000 in
theorem ggX3_isBelow_X3_gameOf : GoodIn wsX3_isBelow wsX3_gameOf := goodIn_r _ [5, 6, 7, 8, 4, 9, 10, 11, 36, 37, 38, 39, 40, 41, 42, 43, 44, 45, 46, 47, 48, 49, 50, 51] (by decide +kernel) (by decide +kernel)
set_option maxRecDepth 20000 in
theorem gX3_isBelow_X3_gameOf : GoodIn wsX3_isBelow (wsV RX3 69 RX3 yX3_gameOf wsX3_gameOf) := goodIn_app (goodIn_of _ (by decide +kernel)) ggX3_isBelow_X3_gameOf
set_option maxRecDepth 20000 in
theorem ggX3_isBelow_X1_hasThing : GoodIn wsX3_isBelow wsX1_hasThing := goodIn_r _ [16, 17, 18, 19, 15, 20, 21, 22, 23, 24, 25, 26, 27, 28, 36, 37, 38, 39, 40, 41, 42, 43, 44, 45, 46, 47] (by decide +kernel) (by decide +kernel)
set_option maxRecDepth 20000 in
theorem gX3_isBelow_X1_hasThing : GoodIn wsX3_isBelow (wsV RX3 93 RX1 yX1_hasThing wsX1_hasThing) := goodIn_app (goodIn_of _ (by decide +kernel)) ggX3_isBelow_X1_hasThing
set_option maxRecDepth 20000 in
theorem ggX3_isBelow_X1_takesAlong : GoodIn wsX3_isBelow wsX1_takesAlong := goodIn_r _ [32, 33, 34, 4, 35, 36, 37, 38, 39, 40, 41, 42, 43, 44, 45, 46, 47] (by decide +kernel) (by decide +kernel)
set_option maxRecDepth 20000 in
theorem gX3_isBelow_X1_takesAlong : GoodIn wsX3_isBelow (wsV RX3 97 RX1 yX1_takesAlong wsX1_takesAlong) := goodIn_app (goodIn_of _ (by decide +kernel)) ggX3_isBelow_X1_takesAlong
theorem dX3_isBelow_0 : decode cX3_isBelow 0 = .ok (.aload_n 0, 1) := by decide +kernel
theorem dX3_isBelow_1 : decode cX3_isBelow 1 = .ok (.iload_n 1, 1) := by decide +kernel
theorem dX3_isBelow_2 : decode cX3_isBelow 2 = .ok (.iconst 1, 1) := by decide +kernel
theorem dX3_isBelow_3 : decode cX3_isBelow 3 = .ok (.invokevirtual 69, 3) := by decide +kernel
theorem dX3_isBelow_6 : decode cX3_isBelow 6 = .ok (.astore 4, 2) := by decide +kernel
theorem dX3_isBelow_8 : decode cX3_isBelow 8 = .ok (.aload 4, 2) := by decide +kernel
theorem dX3_isBelow_10 : decode cX3_isBelow 10 = .ok (.ifnull 21, 3) := by decide +kernel
theorem dX3_isBelow_13 : decode cX3_isBelow 13 = .ok (.aload 4, 2) := by decide +kernel
theorem dX3_isBelow_15 : decode cX3_isBelow 15 = .ok (.iload_n 2, 1) := by decide +kernel
theorem dX3_isBelow_16 : decode cX3_isBelow 16 = .ok (.invokevirtual 93, 3) := by decide +kernel
theorem dX3_isBelow_19 : decode cX3_isBelow 19 = .ok (.ifCond .eq 12, 3) := by decide +kernel
theorem dX3_isBelow_22 : decode cX3_isBelow 22 = .ok (.aload 4, 2) := by decide +kernel
theorem dX3_isBelow_24 : decode cX3_isBelow 24 = .ok (.iload_n 3, 1) := by decide +kernel
theorem dX3_isBelow_25 : decode cX3_isBelow 25 = .ok (.invokevirtual 93, 3) := by decide +kernel
theorem dX3_isBelow_28 : decode cX3_isBelow 28 = .ok (.ifCond .ne 7, 3) := by decide +kernel
theorem dX3_isBelow_31 : decode cX3_isBelow 31 = .ok (.sipush (-1001), 3) := by decide +kernel
theorem dX3_isBelow_34 : decode cX3_isBelow 34 = .ok (.ireturn, 1) := by decide +kernel
theorem dX3_isBelow_35 : decode cX3_isBelow 35 = .ok (.iload_n 2, 1) := by decide +kernel
theorem dX3_isBelow_36 : decode cX3_isBelow 36 = .ok (.iload_n 3, 1) := by decide +kernel
theorem dX3_isBelow_37 : decode cX3_isBelow 37 = .ok (.if_icmp .eq 17, 3) := by decide +kernel
theorem dX3_isBelow_40 : decode cX3_isBelow 40 = .ok (.aload 4, 2) := by decide +kernel
theorem dX3_isBelow_42 : decode cX3_isBelow 42 = .ok (.iload_n 2, 1) := by decide +kernel
theorem dX3_isBelow_43 : decode cX3_isBelow 43 = .ok (.iload_n 3, 1) := by decide +kernel
theorem dX3_isBelow_44 : decode cX3_isBelow 44 = .ok (.invokevirtual 97, 3) := by decide +kernel
theorem dX3_isBelow_47 : decode cX3_isBelow 47 = .ok (.ifCond .eq 7, 3) := by decide +kernel
theorem dX3_isBelow_50 : decode cX3_isBelow 50 = .ok (.iconst 1, 1) := by decide +kernel
theorem dX3_isBelow_51 : decode cX3_isBelow 51 = .ok (.goto 4, 3) := by decide +kernel
theorem dX3_isBelow_54 : decode cX3_isBelow 54 = .ok (.iconst 0, 1) := by decide +kernel
theorem dX3_isBelow_55 : decode cX3_isBelow 55 = .ok (.ireturn, 1) := by decide +kernel
set_option maxRecDepth 20000 in
theorem ggX3_bite_X3_gameAt : GoodIn wsX3_bite wsX3_gameAt := goodIn_r _ [5, 6, 7, 157, 158, 159, 160] (by decide +kernel) (by decide +kernel)
set_option maxRecDepth 20000 in
theorem gX3_bite_X3_gameAt : GoodIn wsX3_bite (wsV RX3 120 RX3 yX3_gameAt wsX3_gameAt) := goodIn_app (goodIn_of _ (by decide +kernel)) ggX3_bite_X3_gameAt
set_option maxRecDepth 20000 in
theorem ggX3_bite_X3_isWithin : GoodIn wsX3_bite wsX3_isWithin := goodIn_r _ [10] (by decide +kernel) (by decide +kernel)
set_option maxRecDepth 20000 in
theorem gX3_bite_X3_isWithin : GoodIn wsX3_bite (va_wsS RX3 34 yX3_isWithin wsX3_isWithin) := goodIn_app (goodIn_of _ (by decide +kernel)) ggX3_bite_X3_isWithin
set_option maxRecDepth 20000 in
theorem ggX3_bite_X1_hasBite : GoodIn wsX3_bite wsX1_hasBite := goodIn_r _ [15, 16, 17, 18, 14, 19, 20, 21, 22, 23, 24, 25, 26, 27, 28, 29, 30, 31, 32, 33, 34, 4, 35, 36, 37, 38, 39, 40, 41, 42, 161, 162, 163, 164, 165, 166, 167, 168, 169, 170, 171, 172, 173, 174, 175, 176, 177, 178, 179] (by decide +kernel) (by decide +kernel)
set_option maxRecDepth 20000 in
theorem gX3_bite_X1_hasBite : GoodIn wsX3_bite (wsV RX3 133 RX1 yX1_hasBite wsX1_hasBite) := goodIn_app (goodIn_of _ (by decide +kernel)) ggX3_bite_X1_hasBite
set_option maxRecDepth 20000 in
theorem ggX3_bite_X1_isWinning : GoodIn wsX3_bite wsX1_isWinning := goodIn_r _ [46, 47, 48, 49, 50, 14, 51, 20, 21, 22, 52, 53, 54, 55, 26, 56, 28, 57, 58, 59, 60, 61, 62, 63, 64, 29, 30, 31, 32, 33, 34, 4, 35, 65, 66, 67, 68, 69, 70, 71, 72, 73, 74, 75, 76, 77, 78, 79, 80, 81, 82, 83, 84, 85, 86, 87, 88, 89, 90, 91, 92, 93, 94, 95, 96, 97, 98, 99, 100, 101, 102, 103, 104, 105, 106, 107, 108, 109, 110, 111, 112, 113, 114, 115, 116, 117, 118, 119, 120, 121, 122, 123, 124, 125, 126, 127, 128, 129, 130, 131, 132, 133, 134, 135, 136, 137, 138, 139, 140, 141, 142, 143, 144, 145, 146, 161, 162, 163, 164, 165, 166, 167, 168, 169, 170, 171, 172, 173, 174, 175, 176, 177, 178, 179, 180, 181, 182] (by decide +kernel) (by decide +kernel)
set_option maxRecDepth 20000 in
theorem gX3_bite_X1_isWinning : GoodIn wsX3_bite (wsV RX3 136 RX1 yX1_isWinning wsX1_isWinning) := goodIn_app (goodIn_of _ (by decide +kernel)) ggX3_bite_X1_isWinning
set_option maxRecDepth 20000 in
theorem ggX3_bite_X1_placeOfBite : GoodIn wsX3_bite wsX1_placeOfBite := goodIn_r _ [150, 20, 21, 22, 151, 62, 63, 26, 64, 28, 29, 30, 31, 32, 33, 34, 4, 35, 73, 74, 75, 14, 76, 52, 161, 162, 163, 164, 165, 166, 167, 168, 169, 170, 171, 172, 173, 174, 175, 176, 177, 178, 179] (by decide +kernel) (by decide +kernel)
set_option maxRecDepth 20000 in
theorem gX3_bite_X1_placeOfBite : GoodIn wsX3_bite (wsV RX3 139 RX1 yX1_placeOfBite wsX1_placeOfBite) := goodIn_app (goodIn_of _ (by decide +kernel)) ggX3_bite_X1_placeOfBite
set_option maxRecDepth 20000 in
theorem ggX3_bite_X1_sizeOfBite : GoodIn wsX3_bite wsX1_sizeOfBite := goodIn_r _ [155, 20, 21, 22, 52, 156, 66, 67, 26, 68, 28, 29, 30, 31, 32, 33, 34, 4, 35, 73, 74, 75, 14, 76, 36, 37, 38, 39, 40, 41, 42, 161, 162, 163, 164, 165, 166, 167, 168, 169, 170, 171, 172, 173, 174, 175, 176, 177, 178, 179] (by decide +kernel) (by decide +kernel)
set_option maxRecDepth 20000 in
theorem gX3_bite_X1_sizeOfBite : GoodIn wsX3_bite (wsV RX3 142 RX1 yX1_sizeOfBite wsX1_sizeOfBite) := goodIn_app (goodIn_of _ (by decide +kernel)) ggX3_bite_X1_sizeOfBite
theorem dX3_bite_0 : decode cX3_bite 0 = .ok (.aload_n 0, 1) := by decide +kernel
theorem dX3_bite_1 : decode cX3_bite 1 = .ok (.iload_n 1, 1) := by decide +kernel
theorem dX3_bite_2 : decode cX3_bite 2 = .ok (.invokevirtual 120, 3) := by decide +kernel
theorem dX3_bite_5 : decode cX3_bite 5 = .ok (.astore 4, 2) := by decide +kernel
theorem dX3_bite_7 : decode cX3_bite 7 = .ok (.aload 4, 2) := by decide +kernel
theorem dX3_bite_9 : decode cX3_bite 9 = .ok (.ifnonnull 7, 3) := by decide +kernel
theorem dX3_bite_12 : decode cX3_bite 12 = .ok (.sipush (-1001), 3) := by decide +kernel
theorem dX3_bite_15 : decode cX3_bite 15 = .ok (.ireturn, 1) := by decide +kernel
theorem dX3_bite_16 : decode cX3_bite 16 = .ok (.iload_n 3, 1) := by decide +kernel
theorem dX3_bite_17 : decode cX3_bite 17 = .ok (.iconst 0, 1) := by decide +kernel
theorem dX3_bite_18 : decode cX3_bite 18 = .ok (.iconst 2, 1) := by decide +kernel
theorem dX3_bite_19 : decode cX3_bite 19 = .ok (.invokestatic 34, 3) := by decide +kernel
theorem dX3_bite_22 : decode cX3_bite 22 = .ok (.ifCond .ne 7, 3) := by decide +kernel
theorem dX3_bite_25 : decode cX3_bite 25 = .ok (.sipush (-1002), 3) := by decide +kernel
theorem dX3_bite_28 : decode cX3_bite 28 = .ok (.ireturn, 1) := by decide +kernel
theorem dX3_bite_29 : decode cX3_bite 29 = .ok (.aload 4, 2) := by decide +kernel
theorem dX3_bite_31 : decode cX3_bite 31 = .ok (.iload_n 2, 1) := by decide +kernel
theorem dX3_bite_32 : decode cX3_bite 32 = .ok (.invokevirtual 133, 3) := by decide +kernel
theorem dX3_bite_35 : decode cX3_bite 35 = .ok (.ifCond .ne 5, 3) := by decide +kernel
theorem dX3_bite_38 : decode cX3_bite 38 = .ok (.iconst (-1), 1) := by decide +kernel
theorem dX3_bite_39 : decode cX3_bite 39 = .ok (.ireturn, 1) := by decide +kernel
theorem dX3_bite_40 : decode cX3_bite 40 = .ok (.iload_n 3, 1) := by decide +kernel
theorem dX3_bite_41 : decode cX3_bite 41 = .ok (.iconst 2, 1) := by decide +kernel
theorem dX3_bite_42 : decode cX3_bite 42 = .ok (.if_icmp .ne 18, 3) := by decide +kernel
theorem dX3_bite_45 : decode cX3_bite 45 = .ok (.aload 4, 2) := by decide +kernel
theorem dX3_bite_47 : decode cX3_bite 47 = .ok (.iload_n 2, 1) := by decide +kernel
theorem dX3_bite_48 : decode cX3_bite 48 = .ok (.invokevirtual 136, 3) := by decide +kernel
theorem dX3_bite_51 : decode cX3_bite 51 = .ok (.ifCond .eq 7, 3) := by decide +kernel
theorem dX3_bite_54 : decode cX3_bite 54 = .ok (.iconst 1, 1) := by decide +kernel
theorem dX3_bite_55 : decode cX3_bite 55 = .ok (.goto 4, 3) := by decide +kernel
theorem dX3_bite_58 : decode cX3_bite 58 = .ok (.iconst 0, 1) := by decide +kernel
theorem dX3_bite_59 : decode cX3_bite 59 = .ok (.ireturn, 1) := by decide +kernel
theorem dX3_bite_60 : decode cX3_bite 60 = .ok (.iload_n 3, 1) := by decide +kernel
theorem dX3_bite_61 : decode cX3_bite 61 = .ok (.ifCond .ne 12, 3) := by decide +kernel
theorem dX3_bite_64 : decode cX3_bite 64 = .ok (.aload 4, 2) := by decide +kernel
theorem dX3_bite_66 : decode cX3_bite 66 = .ok (.iload_n 2, 1) := by decide +kernel
theorem dX3_bite_67 : decode cX3_bite 67 = .ok (.invokevirtual 139, 3) := by decide +kernel
theorem dX3_bite_70 : decode cX3_bite 70 = .ok (.goto 9, 3) := by decide +kernel
theorem dX3_bite_73 : decode cX3_bite 73 = .ok (.aload 4, 2) := by decide +kernel
theorem dX3_bite_75 : decode cX3_bite 75 = .ok (.iload_n 2, 1) := by decide +kernel
theorem dX3_bite_76 : decode cX3_bite 76 = .ok (.invokevirtual 142, 3) := by decide +kernel
theorem dX3_bite_79 : decode cX3_bite 79 = .ok (.ireturn, 1) := by decide +kernel
set_option maxRecDepth 20000 in
theorem ggX3_won_X3_gameAt : GoodIn wsX3_won wsX3_gameAt := goodIn_r _ [5, 6, 7, 108, 109, 110, 111] (by decide +kernel) (by decide +kernel)
set_option maxRecDepth 20000 in
theorem gX3_won_X3_gameAt : GoodIn wsX3_won (wsV RX3 120 RX3 yX3_gameAt wsX3_gameAt) := goodIn_app (goodIn_of _ (by decide +kernel)) ggX3_won_X3_gameAt
set_option maxRecDepth 20000 in
theorem ggX3_won_X1_factsOf : GoodIn wsX3_won wsX1_factsOf := goodIn_r _ [12, 13, 14, 15, 16, 17, 18, 19, 20, 21, 22, 23, 24, 25, 26, 27, 28, 29, 30, 31, 32, 4, 33, 34, 35, 36, 37, 38, 39, 40, 41, 42, 43, 44, 45, 46, 47, 48, 49, 50, 51, 52, 53, 54, 55, 56, 57, 58, 59, 60, 61, 62, 63, 64, 65, 66, 67, 68, 69, 70, 71, 72, 73, 74, 75, 76, 77, 78, 11, 79, 80, 81, 82, 83, 84, 85, 86, 87, 88, 89, 90, 91, 92, 93, 96, 97, 98, 99, 100, 101, 102, 103, 104, 105, 106, 107, 112, 113, 114, 115, 116, 117, 118, 119, 120, 121] (by decide +kernel) (by decide +kernel)
set_option maxRecDepth 20000 in
theorem gX3_won_X1_factsOf : GoodIn wsX3_won (wsV RX3 145 RX1 yX1_factsOf wsX1_factsOf) := goodIn_app (goodIn_of _ (by decide +kernel)) ggX3_won_X1_factsOf
set_option maxRecDepth 20000 in
theorem ggX3_won_X3_lengthIn : GoodIn wsX3_won wsX3_lengthIn := goodIn_r _ [65] (by decide +kernel) (by decide +kernel)
set_option maxRecDepth 20000 in
theorem gX3_won_X3_lengthIn : GoodIn wsX3_won (va_wsS RX3 148 yX3_lengthIn wsX3_lengthIn) := goodIn_app (goodIn_of _ (by decide +kernel)) ggX3_won_X3_lengthIn
set_option maxRecDepth 20000 in
theorem ggX3_won_X3_isWon : GoodIn wsX3_won wsX3_isWon := goodIn_r _ [67] (by decide +kernel) (by decide +kernel)
set_option maxRecDepth 20000 in
theorem gX3_won_X3_isWon : GoodIn wsX3_won (va_wsS RX3 151 yX3_isWon wsX3_isWon) := goodIn_app (goodIn_of _ (by decide +kernel)) ggX3_won_X3_isWon
theorem dX3_won_0 : decode cX3_won 0 = .ok (.aload_n 0, 1) := by decide +kernel
theorem dX3_won_1 : decode cX3_won 1 = .ok (.iload_n 1, 1) := by decide +kernel
theorem dX3_won_2 : decode cX3_won 2 = .ok (.invokevirtual 120, 3) := by decide +kernel
theorem dX3_won_5 : decode cX3_won 5 = .ok (.astore_n 2, 1) := by decide +kernel
theorem dX3_won_6 : decode cX3_won 6 = .ok (.aload_n 2, 1) := by decide +kernel
theorem dX3_won_7 : decode cX3_won 7 = .ok (.ifnonnull 7, 3) := by decide +kernel
theorem dX3_won_10 : decode cX3_won 10 = .ok (.sipush (-1001), 3) := by decide +kernel
theorem dX3_won_13 : decode cX3_won 13 = .ok (.ireturn, 1) := by decide +kernel
theorem dX3_won_14 : decode cX3_won 14 = .ok (.aload_n 2, 1) := by decide +kernel
theorem dX3_won_15 : decode cX3_won 15 = .ok (.aload_n 2, 1) := by decide +kernel
theorem dX3_won_16 : decode cX3_won 16 = .ok (.getfield 73, 3) := by decide +kernel
theorem dX3_won_19 : decode cX3_won 19 = .ok (.invokevirtual 145, 3) := by decide +kernel
theorem dX3_won_22 : decode cX3_won 22 = .ok (.aload_n 2, 1) := by decide +kernel
theorem dX3_won_23 : decode cX3_won 23 = .ok (.getfield 124, 3) := by decide +kernel
theorem dX3_won_26 : decode cX3_won 26 = .ok (.invokestatic 148, 3) := by decide +kernel
theorem dX3_won_29 : decode cX3_won 29 = .ok (.aload_n 2, 1) := by decide +kernel
theorem dX3_won_30 : decode cX3_won 30 = .ok (.getfield 124, 3) := by decide +kernel
theorem dX3_won_33 : decode cX3_won 33 = .ok (.invokestatic 151, 3) := by decide +kernel
theorem dX3_won_36 : decode cX3_won 36 = .ok (.ifCond .eq 7, 3) := by decide +kernel
theorem dX3_won_39 : decode cX3_won 39 = .ok (.iconst 1, 1) := by decide +kernel
theorem dX3_won_40 : decode cX3_won 40 = .ok (.goto 4, 3) := by decide +kernel
theorem dX3_won_43 : decode cX3_won 43 = .ok (.iconst 0, 1) := by decide +kernel
theorem dX3_won_44 : decode cX3_won 44 = .ok (.ireturn, 1) := by decide +kernel
set_option maxRecDepth 20000 in
theorem ggX3_worth_X3_gameAt : GoodIn wsX3_worth wsX3_gameAt := goodIn_r _ [5, 6, 7, 107, 108, 109, 110] (by decide +kernel) (by decide +kernel)
set_option maxRecDepth 20000 in
theorem gX3_worth_X3_gameAt : GoodIn wsX3_worth (wsV RX3 120 RX3 yX3_gameAt wsX3_gameAt) := goodIn_app (goodIn_of _ (by decide +kernel)) ggX3_worth_X3_gameAt
set_option maxRecDepth 20000 in
theorem ggX3_worth_X1_factsOf : GoodIn wsX3_worth wsX1_factsOf := goodIn_r _ [12, 13, 14, 15, 16, 17, 18, 19, 20, 21, 22, 23, 24, 25, 26, 27, 28, 29, 30, 31, 32, 4, 33, 34, 35, 36, 37, 38, 39, 40, 41, 42, 43, 44, 45, 46, 47, 48, 49, 50, 51, 52, 53, 54, 55, 56, 57, 58, 59, 60, 61, 62, 63, 64, 65, 66, 67, 68, 69, 70, 71, 72, 73, 74, 75, 76, 77, 78, 11, 79, 80, 81, 82, 83, 84, 85, 86, 87, 88, 89, 90, 91, 92, 93, 95, 96, 97, 98, 99, 100, 101, 102, 103, 104, 105, 106, 111, 112, 113, 114, 115, 116, 117, 118, 119, 120] (by decide +kernel) (by decide +kernel)
set_option maxRecDepth 20000 in
theorem gX3_worth_X1_factsOf : GoodIn wsX3_worth (wsV RX3 145 RX1 yX1_factsOf wsX1_factsOf) := goodIn_app (goodIn_of _ (by decide +kernel)) ggX3_worth_X1_factsOf
set_option maxRecDepth 20000 in
theorem ggX3_worth_X3_worthIn : GoodIn wsX3_worth wsX3_worthIn := goodIn_r _ [63] (by decide +kernel) (by decide +kernel)
set_option maxRecDepth 20000 in
theorem gX3_worth_X3_worthIn : GoodIn wsX3_worth (va_wsS RX3 154 yX3_worthIn wsX3_worthIn) := goodIn_app (goodIn_of _ (by decide +kernel)) ggX3_worth_X3_worthIn
theorem dX3_worth_0 : decode cX3_worth 0 = .ok (.aload_n 0, 1) := by decide +kernel
theorem dX3_worth_1 : decode cX3_worth 1 = .ok (.iload_n 1, 1) := by decide +kernel
theorem dX3_worth_2 : decode cX3_worth 2 = .ok (.invokevirtual 120, 3) := by decide +kernel
theorem dX3_worth_5 : decode cX3_worth 5 = .ok (.astore_n 2, 1) := by decide +kernel
theorem dX3_worth_6 : decode cX3_worth 6 = .ok (.aload_n 2, 1) := by decide +kernel
theorem dX3_worth_7 : decode cX3_worth 7 = .ok (.ifnonnull 7, 3) := by decide +kernel
theorem dX3_worth_10 : decode cX3_worth 10 = .ok (.sipush (-1001), 3) := by decide +kernel
theorem dX3_worth_13 : decode cX3_worth 13 = .ok (.ireturn, 1) := by decide +kernel
theorem dX3_worth_14 : decode cX3_worth 14 = .ok (.aload_n 2, 1) := by decide +kernel
theorem dX3_worth_15 : decode cX3_worth 15 = .ok (.aload_n 2, 1) := by decide +kernel
theorem dX3_worth_16 : decode cX3_worth 16 = .ok (.getfield 73, 3) := by decide +kernel
theorem dX3_worth_19 : decode cX3_worth 19 = .ok (.invokevirtual 145, 3) := by decide +kernel
theorem dX3_worth_22 : decode cX3_worth 22 = .ok (.invokestatic 154, 3) := by decide +kernel
theorem dX3_worth_25 : decode cX3_worth 25 = .ok (.ireturn, 1) := by decide +kernel
set_option maxRecDepth 20000 in
theorem ggX3_length_X3_gameAt : GoodIn wsX3_length wsX3_gameAt := goodIn_r _ [5, 6, 7, 107, 108, 109, 110] (by decide +kernel) (by decide +kernel)
set_option maxRecDepth 20000 in
theorem gX3_length_X3_gameAt : GoodIn wsX3_length (wsV RX3 120 RX3 yX3_gameAt wsX3_gameAt) := goodIn_app (goodIn_of _ (by decide +kernel)) ggX3_length_X3_gameAt
set_option maxRecDepth 20000 in
theorem ggX3_length_X1_factsOf : GoodIn wsX3_length wsX1_factsOf := goodIn_r _ [12, 13, 14, 15, 16, 17, 18, 19, 20, 21, 22, 23, 24, 25, 26, 27, 28, 29, 30, 31, 32, 4, 33, 34, 35, 36, 37, 38, 39, 40, 41, 42, 43, 44, 45, 46, 47, 48, 49, 50, 51, 52, 53, 54, 55, 56, 57, 58, 59, 60, 61, 62, 63, 64, 65, 66, 67, 68, 69, 70, 71, 72, 73, 74, 75, 76, 77, 78, 11, 79, 80, 81, 82, 83, 84, 85, 86, 87, 88, 89, 90, 91, 92, 93, 95, 96, 97, 98, 99, 100, 101, 102, 103, 104, 105, 106, 111, 112, 113, 114, 115, 116, 117, 118, 119, 120] (by decide +kernel) (by decide +kernel)
set_option maxRecDepth 20000 in
theorem gX3_length_X1_factsOf : GoodIn wsX3_length (wsV RX3 145 RX1 yX1_factsOf wsX1_factsOf) := goodIn_app (goodIn_of _ (by decide +kernel)) ggX3_length_X1_factsOf
set_option maxRecDepth 20000 in
theorem ggX3_length_X3_lengthIn : GoodIn wsX3_length wsX3_lengthIn := goodIn_r _ [65] (by decide +kernel) (by decide +kernel)
set_option maxRecDepth 20000 in
theorem gX3_length_X3_lengthIn : GoodIn wsX3_length (va_wsS RX3 148 yX3_lengthIn wsX3_lengthIn) := goodIn_app (goodIn_of _ (by decide +kernel)) ggX3_length_X3_lengthIn
theorem dX3_length_0 : decode cX3_length 0 = .ok (.aload_n 0, 1) := by decide +kernel
theorem dX3_length_1 : decode cX3_length 1 = .ok (.iload_n 1, 1) := by decide +kernel
theorem dX3_length_2 : decode cX3_length 2 = .ok (.invokevirtual 120, 3) := by decide +kernel
theorem dX3_length_5 : decode cX3_length 5 = .ok (.astore_n 2, 1) := by decide +kernel
theorem dX3_length_6 : decode cX3_length 6 = .ok (.aload_n 2, 1) := by decide +kernel
theorem dX3_length_7 : decode cX3_length 7 = .ok (.ifnonnull 7, 3) := by decide +kernel
theorem dX3_length_10 : decode cX3_length 10 = .ok (.sipush (-1001), 3) := by decide +kernel
theorem dX3_length_13 : decode cX3_length 13 = .ok (.ireturn, 1) := by decide +kernel
theorem dX3_length_14 : decode cX3_length 14 = .ok (.aload_n 2, 1) := by decide +kernel
theorem dX3_length_15 : decode cX3_length 15 = .ok (.aload_n 2, 1) := by decide +kernel
theorem dX3_length_16 : decode cX3_length 16 = .ok (.getfield 73, 3) := by decide +kernel
theorem dX3_length_19 : decode cX3_length 19 = .ok (.invokevirtual 145, 3) := by decide +kernel
theorem dX3_length_22 : decode cX3_length 22 = .ok (.aload_n 2, 1) := by decide +kernel
theorem dX3_length_23 : decode cX3_length 23 = .ok (.getfield 124, 3) := by decide +kernel
theorem dX3_length_26 : decode cX3_length 26 = .ok (.invokestatic 148, 3) := by decide +kernel
theorem dX3_length_29 : decode cX3_length 29 = .ok (.ireturn, 1) := by decide +kernel
set_option maxRecDepth 20000 in
theorem ggX3_winning_X3_gameAt : GoodIn wsX3_winning wsX3_gameAt := goodIn_r _ [5, 6, 7, 140, 141, 142, 143] (by decide +kernel) (by decide +kernel)
set_option maxRecDepth 20000 in
theorem gX3_winning_X3_gameAt : GoodIn wsX3_winning (wsV RX3 120 RX3 yX3_gameAt wsX3_gameAt) := goodIn_app (goodIn_of _ (by decide +kernel)) ggX3_winning_X3_gameAt
set_option maxRecDepth 20000 in
theorem ggX3_winning_X1_countBites : GoodIn wsX3_winning wsX1_countBites := goodIn_r _ [12, 13, 14, 15, 16, 17, 18, 19, 20, 21, 22, 23, 24, 25, 26, 27, 4, 28, 29, 30, 31, 32, 33, 34, 35, 144, 145, 146, 147, 148, 149, 150, 151, 152, 153, 154, 155, 156, 157, 158, 159, 160, 161, 162] (by decide +kernel) (by decide +kernel)
set_option maxRecDepth 20000 in
theorem gX3_winning_X1_countBites : GoodIn wsX3_winning (wsV RX3 83 RX1 yX1_countBites wsX1_countBites) := goodIn_app (goodIn_of _ (by decide +kernel)) ggX3_winning_X1_countBites
set_option maxRecDepth 20000 in
theorem ggX3_winning_X1_isWinning : GoodIn wsX3_winning wsX1_isWinning := goodIn_r _ [39, 40, 41, 42, 43, 11, 44, 13, 14, 15, 45, 46, 47, 48, 19, 49, 21, 50, 51, 52, 53, 54, 55, 56, 57, 22, 23, 24, 25, 26, 27, 4, 28, 58, 59, 60, 61, 62, 63, 64, 65, 66, 67, 68, 69, 70, 71, 72, 73, 74, 75, 76, 77, 78, 79, 80, 81, 82, 83, 84, 85, 86, 87, 88, 89, 90, 91, 92, 93, 94, 95, 96, 97, 98, 99, 100, 101, 102, 103, 104, 105, 106, 107, 108, 109, 110, 111, 112, 113, 114, 115, 116, 117, 118, 119, 120, 121, 122, 123, 124, 125, 126, 127, 128, 129, 130, 131, 132, 133, 134, 135, 136, 137, 138, 139, 144, 145, 146, 147, 148, 149, 150, 151, 152, 153, 154, 155, 156, 157, 158, 159, 160, 161, 162, 163, 164, 165] (by decide +kernel) (by decide +kernel)
set_option maxRecDepth 20000 in
theorem gX3_winning_X1_isWinning : GoodIn wsX3_winning (wsV RX3 136 RX1 yX1_isWinning wsX1_isWinning) := goodIn_app (goodIn_of _ (by decide +kernel)) ggX3_winning_X1_isWinning
theorem dX3_winning_0 : decode cX3_winning 0 = .ok (.aload_n 0, 1) := by decide +kernel
theorem dX3_winning_1 : decode cX3_winning 1 = .ok (.iload_n 1, 1) := by decide +kernel
theorem dX3_winning_2 : decode cX3_winning 2 = .ok (.invokevirtual 120, 3) := by decide +kernel
theorem dX3_winning_5 : decode cX3_winning 5 = .ok (.astore_n 2, 1) := by decide +kernel
theorem dX3_winning_6 : decode cX3_winning 6 = .ok (.aload_n 2, 1) := by decide +kernel
theorem dX3_winning_7 : decode cX3_winning 7 = .ok (.ifnonnull 7, 3) := by decide +kernel
theorem dX3_winning_10 : decode cX3_winning 10 = .ok (.sipush (-1001), 3) := by decide +kernel
theorem dX3_winning_13 : decode cX3_winning 13 = .ok (.ireturn, 1) := by decide +kernel
theorem dX3_winning_14 : decode cX3_winning 14 = .ok (.iconst 0, 1) := by decide +kernel
theorem dX3_winning_15 : decode cX3_winning 15 = .ok (.istore_n 3, 1) := by decide +kernel
theorem dX3_winning_16 : decode cX3_winning 16 = .ok (.aload_n 2, 1) := by decide +kernel
theorem dX3_winning_17 : decode cX3_winning 17 = .ok (.invokevirtual 83, 3) := by decide +kernel
theorem dX3_winning_20 : decode cX3_winning 20 = .ok (.istore 4, 2) := by decide +kernel
theorem dX3_winning_22 : decode cX3_winning 22 = .ok (.iconst 0, 1) := by decide +kernel
theorem dX3_winning_23 : decode cX3_winning 23 = .ok (.istore 5, 2) := by decide +kernel
theorem dX3_winning_25 : decode cX3_winning 25 = .ok (.iload 5, 2) := by decide +kernel
theorem dX3_winning_27 : decode cX3_winning 27 = .ok (.iload 4, 2) := by decide +kernel
theorem dX3_winning_29 : decode cX3_winning 29 = .ok (.if_icmp .ge 21, 3) := by decide +kernel
theorem dX3_winning_32 : decode cX3_winning 32 = .ok (.aload_n 2, 1) := by decide +kernel
theorem dX3_winning_33 : decode cX3_winning 33 = .ok (.iload 5, 2) := by decide +kernel
theorem dX3_winning_35 : decode cX3_winning 35 = .ok (.invokevirtual 136, 3) := by decide +kernel
theorem dX3_winning_38 : decode cX3_winning 38 = .ok (.ifCond .eq 6, 3) := by decide +kernel
theorem dX3_winning_41 : decode cX3_winning 41 = .ok (.iinc 3 1, 3) := by decide +kernel
theorem dX3_winning_44 : decode cX3_winning 44 = .ok (.iinc 5 1, 3) := by decide +kernel
theorem dX3_winning_47 : decode cX3_winning 47 = .ok (.goto (-22), 3) := by decide +kernel
theorem dX3_winning_50 : decode cX3_winning 50 = .ok (.iload_n 3, 1) := by decide +kernel
theorem dX3_winning_51 : decode cX3_winning 51 = .ok (.ireturn, 1) := by decide +kernel
set_option maxRecDepth 20000 in
theorem ggX3_boards_X3_isWithin : GoodIn wsX3_boards wsX3_isWithin := goodIn_r _ [5] (by decide +kernel) (by decide +kernel)
set_option maxRecDepth 20000 in
theorem gX3_boards_X3_isWithin : GoodIn wsX3_boards (va_wsS RX3 34 yX3_isWithin wsX3_isWithin) := goodIn_app (goodIn_of _ (by decide +kernel)) ggX3_boards_X3_isWithin
set_option maxRecDepth 20000 in
theorem ggX3_boards_X0_greatestWorth : GoodIn wsX3_boards wsX0_greatestWorth := goodIn_r _ [10, 11, 12, 13, 14, 15, 16, 17, 18, 9, 19, 20, 21, 22, 23, 24, 25, 26, 27, 28, 29, 4, 30, 31, 32, 33, 34, 35, 36, 37, 38, 39, 40, 41, 42, 43, 44, 45, 46, 47, 48, 49, 50, 51, 52, 53, 54, 55, 56, 57, 58, 59, 60, 61, 62, 63, 64, 65, 66, 67, 68, 69, 70, 71, 72, 73, 82, 83, 84, 85, 86, 87, 88, 89, 90, 91] (by decide +kernel) (by decide +kernel)
set_option maxRecDepth 20000 in
theorem gX3_boards_X0_greatestWorth : GoodIn wsX3_boards (wsV RX3 157 RX0 yX0_greatestWorth wsX0_greatestWorth) := goodIn_app (goodIn_of _ (by decide +kernel)) ggX3_boards_X0_greatestWorth
set_option maxRecDepth 20000 in
theorem ggX3_boards_X0_countWithin : GoodIn wsX3_boards wsX0_countWithin := goodIn_r _ [77, 11, 16, 17, 18, 9, 19, 20, 21, 22, 23, 24, 25, 26, 27, 28, 29, 4, 30, 31, 32, 33, 34, 35, 36, 37, 38, 39, 40, 41, 42, 43, 44, 45, 46, 47, 48, 49, 50, 51, 52, 13, 14, 15, 53, 54, 55, 56, 57, 58, 59, 60, 61, 62, 63, 64, 65, 66, 67, 68, 69, 70, 71, 72, 73, 82, 83, 84, 85, 86, 87, 88, 89, 90, 91] (by decide +kernel) (by decide +kernel)
set_option maxRecDepth 20000 in
theorem gX3_boards_X0_countWithin : GoodIn wsX3_boards (wsV RX3 160 RX0 yX0_countWithin wsX0_countWithin) := goodIn_app (goodIn_of _ (by decide +kernel)) ggX3_boards_X0_countWithin
theorem dX3_boards_0 : decode cX3_boards 0 = .ok (.iload_n 1, 1) := by decide +kernel
theorem dX3_boards_1 : decode cX3_boards 1 = .ok (.iconst 0, 1) := by decide +kernel
theorem dX3_boards_2 : decode cX3_boards 2 = .ok (.bipush 7, 2) := by decide +kernel
theorem dX3_boards_4 : decode cX3_boards 4 = .ok (.invokestatic 34, 3) := by decide +kernel
theorem dX3_boards_7 : decode cX3_boards 7 = .ok (.ifCond .eq 22, 3) := by decide +kernel
theorem dX3_boards_10 : decode cX3_boards 10 = .ok (.iload_n 2, 1) := by decide +kernel
theorem dX3_boards_11 : decode cX3_boards 11 = .ok (.iconst 0, 1) := by decide +kernel
theorem dX3_boards_12 : decode cX3_boards 12 = .ok (.bipush 7, 2) := by decide +kernel
theorem dX3_boards_14 : decode cX3_boards 14 = .ok (.invokestatic 34, 3) := by decide +kernel
theorem dX3_boards_17 : decode cX3_boards 17 = .ok (.ifCond .eq 12, 3) := by decide +kernel
theorem dX3_boards_20 : decode cX3_boards 20 = .ok (.iload_n 3, 1) := by decide +kernel
theorem dX3_boards_21 : decode cX3_boards 21 = .ok (.iconst 0, 1) := by decide +kernel
theorem dX3_boards_22 : decode cX3_boards 22 = .ok (.iconst 2, 1) := by decide +kernel
theorem dX3_boards_23 : decode cX3_boards 23 = .ok (.invokestatic 34, 3) := by decide +kernel
theorem dX3_boards_26 : decode cX3_boards 26 = .ok (.ifCond .ne 7, 3) := by decide +kernel
theorem dX3_boards_29 : decode cX3_boards 29 = .ok (.sipush (-1002), 3) := by decide +kernel
theorem dX3_boards_32 : decode cX3_boards 32 = .ok (.ireturn, 1) := by decide +kernel
theorem dX3_boards_33 : decode cX3_boards 33 = .ok (.iload_n 3, 1) := by decide +kernel
theorem dX3_boards_34 : decode cX3_boards 34 = .ok (.iconst 2, 1) := by decide +kernel
theorem dX3_boards_35 : decode cX3_boards 35 = .ok (.if_icmp .ne 15, 3) := by decide +kernel
theorem dX3_boards_38 : decode cX3_boards 38 = .ok (.aload_n 0, 1) := by decide +kernel
theorem dX3_boards_39 : decode cX3_boards 39 = .ok (.getfield 27, 3) := by decide +kernel
theorem dX3_boards_42 : decode cX3_boards 42 = .ok (.iload_n 1, 1) := by decide +kernel
theorem dX3_boards_43 : decode cX3_boards 43 = .ok (.iload_n 2, 1) := by decide +kernel
theorem dX3_boards_44 : decode cX3_boards 44 = .ok (.invokevirtual 157, 3) := by decide +kernel
theorem dX3_boards_47 : decode cX3_boards 47 = .ok (.goto 22, 3) := by decide +kernel
theorem dX3_boards_50 : decode cX3_boards 50 = .ok (.aload_n 0, 1) := by decide +kernel
theorem dX3_boards_51 : decode cX3_boards 51 = .ok (.getfield 27, 3) := by decide +kernel
theorem dX3_boards_54 : decode cX3_boards 54 = .ok (.iload_n 1, 1) := by decide +kernel
theorem dX3_boards_55 : decode cX3_boards 55 = .ok (.iload_n 2, 1) := by decide +kernel
theorem dX3_boards_56 : decode cX3_boards 56 = .ok (.iload_n 3, 1) := by decide +kernel
theorem dX3_boards_57 : decode cX3_boards 57 = .ok (.iconst 1, 1) := by decide +kernel
theorem dX3_boards_58 : decode cX3_boards 58 = .ok (.if_icmp .ne 7, 3) := by decide +kernel
theorem dX3_boards_61 : decode cX3_boards 61 = .ok (.iconst 1, 1) := by decide +kernel
theorem dX3_boards_62 : decode cX3_boards 62 = .ok (.goto 4, 3) := by decide +kernel
theorem dX3_boards_65 : decode cX3_boards 65 = .ok (.iconst 0, 1) := by decide +kernel
theorem dX3_boards_66 : decode cX3_boards 66 = .ok (.invokevirtual 160, 3) := by decide +kernel
theorem dX3_boards_69 : decode cX3_boards 69 = .ok (.ireturn, 1) := by decide +kernel
set_option maxRecDepth 20000 in
theorem ggX3_ranked_X3_isWithin : GoodIn wsX3_ranked wsX3_isWithin := goodIn_r _ [5] (by decide +kernel) (by decide +kernel)
set_option maxRecDepth 20000 in
theorem gX3_ranked_X3_isWithin : GoodIn wsX3_ranked (va_wsS RX3 34 yX3_isWithin wsX3_isWithin) := goodIn_app (goodIn_of _ (by decide +kernel)) ggX3_ranked_X3_isWithin
set_option maxRecDepth 20000 in
theorem ggX3_ranked_X0_rowOf : GoodIn wsX3_ranked wsX0_rowOf := goodIn_r _ [10, 11, 12, 13, 14, 9, 15, 16, 17, 4, 18, 23, 24, 25, 26, 27, 28, 29] (by decide +kernel) (by decide +kernel)
set_option maxRecDepth 20000 in
theorem gX3_ranked_X0_rowOf : GoodIn wsX3_ranked (wsV RX3 76 RX0 yX0_rowOf wsX0_rowOf) := goodIn_app (goodIn_of _ (by decide +kernel)) ggX3_ranked_X0_rowOf
theorem dX3_ranked_0 : decode cX3_ranked 0 = .ok (.iload_n 1, 1) := by decide +kernel
theorem dX3_ranked_1 : decode cX3_ranked 1 = .ok (.iconst 0, 1) := by decide +kernel
theorem dX3_ranked_2 : decode cX3_ranked 2 = .ok (.sipush 3431, 3) := by decide +kernel
theorem dX3_ranked_5 : decode cX3_ranked 5 = .ok (.invokestatic 34, 3) := by decide +kernel
theorem dX3_ranked_8 : decode cX3_ranked 8 = .ok (.ifCond .eq 13, 3) := by decide +kernel
theorem dX3_ranked_11 : decode cX3_ranked 11 = .ok (.iload_n 2, 1) := by decide +kernel
theorem dX3_ranked_12 : decode cX3_ranked 12 = .ok (.iconst 0, 1) := by decide +kernel
theorem dX3_ranked_13 : decode cX3_ranked 13 = .ok (.bipush 6, 2) := by decide +kernel
theorem dX3_ranked_15 : decode cX3_ranked 15 = .ok (.invokestatic 34, 3) := by decide +kernel
theorem dX3_ranked_18 : decode cX3_ranked 18 = .ok (.ifCond .ne 7, 3) := by decide +kernel
theorem dX3_ranked_21 : decode cX3_ranked 21 = .ok (.sipush (-1002), 3) := by decide +kernel
theorem dX3_ranked_24 : decode cX3_ranked 24 = .ok (.ireturn, 1) := by decide +kernel
theorem dX3_ranked_25 : decode cX3_ranked 25 = .ok (.aload_n 0, 1) := by decide +kernel
theorem dX3_ranked_26 : decode cX3_ranked 26 = .ok (.getfield 27, 3) := by decide +kernel
theorem dX3_ranked_29 : decode cX3_ranked 29 = .ok (.iload_n 1, 1) := by decide +kernel
theorem dX3_ranked_30 : decode cX3_ranked 30 = .ok (.iload_n 2, 1) := by decide +kernel
theorem dX3_ranked_31 : decode cX3_ranked 31 = .ok (.invokevirtual 76, 3) := by decide +kernel
theorem dX3_ranked_34 : decode cX3_ranked 34 = .ok (.ireturn, 1) := by decide +kernel
set_option maxRecDepth 20000 in
theorem ggX3_play_X3_gameAt : GoodIn wsX3_play wsX3_gameAt := goodIn_r _ [5, 6, 7, 88, 89, 90, 91] (by decide +kernel) (by decide +kernel)
set_option maxRecDepth 20000 in
theorem gX3_play_X3_gameAt : GoodIn wsX3_play (wsV RX3 120 RX3 yX3_gameAt wsX3_gameAt) := goodIn_app (goodIn_of _ (by decide +kernel)) ggX3_play_X3_gameAt
set_option maxRecDepth 20000 in
theorem ggX3_play_X1_hasBite : GoodIn wsX3_play wsX1_hasBite := goodIn_r _ [12, 13, 14, 15, 11, 16, 17, 18, 19, 20, 21, 22, 23, 24, 25, 26, 27, 28, 29, 30, 31, 4, 32, 33, 34, 35, 36, 37, 38, 39, 76, 77, 78, 79, 80, 81, 82, 83, 84, 85, 86, 87, 92, 93, 94, 95, 96, 97, 98] (by decide +kernel) (by decide +kernel)
set_option maxRecDepth 20000 in
theorem gX3_play_X1_hasBite : GoodIn wsX3_play (wsV RX3 133 RX1 yX1_hasBite wsX1_hasBite) := goodIn_app (goodIn_of _ (by decide +kernel)) ggX3_play_X1_hasBite
set_option maxRecDepth 20000 in
theorem ggX3_play_X1_doBite : GoodIn wsX3_play wsX1_doBite := goodIn_r _ [43, 44, 45, 46, 19, 47, 48, 49, 11, 50, 17, 18, 51, 52, 53, 54, 23, 55, 25, 56, 57, 58, 59, 60, 61, 62, 63, 26, 27, 28, 29, 30, 31, 4, 32, 64, 65, 66, 67, 68, 69, 70, 71, 72, 73, 74, 75, 76, 77, 78, 79, 80, 81, 82, 83, 84, 85, 86, 87, 92, 93, 94, 95, 96, 97, 98] (by decide +kernel) (by decide +kernel)
set_option maxRecDepth 20000 in
theorem gX3_play_X1_doBite : GoodIn wsX3_play (wsV RX3 164 RX1 yX1_doBite wsX1_doBite) := goodIn_app (goodIn_of _ (by decide +kernel)) ggX3_play_X1_doBite
theorem dX3_play_0 : decode cX3_play 0 = .ok (.aload_n 0, 1) := by decide +kernel
theorem dX3_play_1 : decode cX3_play 1 = .ok (.iload_n 1, 1) := by decide +kernel
theorem dX3_play_2 : decode cX3_play 2 = .ok (.invokevirtual 120, 3) := by decide +kernel
theorem dX3_play_5 : decode cX3_play 5 = .ok (.astore_n 3, 1) := by decide +kernel
theorem dX3_play_6 : decode cX3_play 6 = .ok (.aload_n 3, 1) := by decide +kernel
theorem dX3_play_7 : decode cX3_play 7 = .ok (.ifnonnull 7, 3) := by decide +kernel
theorem dX3_play_10 : decode cX3_play 10 = .ok (.sipush (-1001), 3) := by decide +kernel
theorem dX3_play_13 : decode cX3_play 13 = .ok (.ireturn, 1) := by decide +kernel
theorem dX3_play_14 : decode cX3_play 14 = .ok (.aload_n 3, 1) := by decide +kernel
theorem dX3_play_15 : decode cX3_play 15 = .ok (.iload_n 2, 1) := by decide +kernel
theorem dX3_play_16 : decode cX3_play 16 = .ok (.invokevirtual 133, 3) := by decide +kernel
theorem dX3_play_19 : decode cX3_play 19 = .ok (.ifCond .ne 7, 3) := by decide +kernel
theorem dX3_play_22 : decode cX3_play 22 = .ok (.sipush (-1003), 3) := by decide +kernel
theorem dX3_play_25 : decode cX3_play 25 = .ok (.ireturn, 1) := by decide +kernel
theorem dX3_play_26 : decode cX3_play 26 = .ok (.aload_n 3, 1) := by decide +kernel
theorem dX3_play_27 : decode cX3_play 27 = .ok (.getfield 130, 3) := by decide +kernel
theorem dX3_play_30 : decode cX3_play 30 = .ok (.bipush 100, 2) := by decide +kernel
theorem dX3_play_32 : decode cX3_play 32 = .ok (.if_icmp .lt 7, 3) := by decide +kernel
theorem dX3_play_35 : decode cX3_play 35 = .ok (.sipush (-1004), 3) := by decide +kernel
theorem dX3_play_38 : decode cX3_play 38 = .ok (.ireturn, 1) := by decide +kernel
theorem dX3_play_39 : decode cX3_play 39 = .ok (.aload_n 3, 1) := by decide +kernel
theorem dX3_play_40 : decode cX3_play 40 = .ok (.iload_n 2, 1) := by decide +kernel
theorem dX3_play_41 : decode cX3_play 41 = .ok (.invokevirtual 164, 3) := by decide +kernel
theorem dX3_play_44 : decode cX3_play 44 = .ok (.aload_n 3, 1) := by decide +kernel
theorem dX3_play_45 : decode cX3_play 45 = .ok (.getfield 73, 3) := by decide +kernel
theorem dX3_play_48 : decode cX3_play 48 = .ok (.ireturn, 1) := by decide +kernel
set_option maxRecDepth 20000 in
theorem ggX3_answer_X3_gameAt : GoodIn wsX3_answer wsX3_gameAt := goodIn_r _ [5, 6, 7, 163, 164, 165, 166] (by decide +kernel) (by decide +kernel)
set_option maxRecDepth 20000 in
theorem gX3_answer_X3_gameAt : GoodIn wsX3_answer (wsV RX3 120 RX3 yX3_gameAt wsX3_gameAt) := goodIn_app (goodIn_of _ (by decide +kernel)) ggX3_answer_X3_gameAt
set_option maxRecDepth 20000 in
theorem ggX3_answer_X1_hasBite : GoodIn wsX3_answer wsX1_hasBite := goodIn_r _ [12, 13, 14, 15, 11, 16, 17, 18, 19, 20, 21, 22, 23, 24, 25, 26, 27, 28, 29, 30, 31, 4, 32, 33, 34, 35, 36, 37, 38, 39, 151, 152, 153, 154, 155, 156, 157, 158, 159, 160, 161, 162, 167, 168, 169, 170, 171, 172, 173] (by decide +kernel) (by decide +kernel)
set_option maxRecDepth 20000 in
theorem gX3_answer_X1_hasBite : GoodIn wsX3_answer (wsV RX3 133 RX1 yX1_hasBite wsX1_hasBite) := goodIn_app (goodIn_of _ (by decide +kernel)) ggX3_answer_X1_hasBite
set_option maxRecDepth 20000 in
theorem ggX3_answer_X1_findAnswer : GoodIn wsX3_answer wsX1_findAnswer := goodIn_r _ [43, 44, 13, 14, 15, 11, 16, 17, 18, 19, 20, 21, 22, 23, 24, 25, 26, 27, 28, 29, 30, 31, 4, 32, 33, 34, 35, 36, 37, 38, 39, 45, 46, 47, 48, 49, 50, 51, 52, 53, 54, 55, 56, 57, 58, 59, 60, 61, 62, 63, 64, 65, 66, 67, 68, 69, 70, 71, 72, 73, 74, 75, 76, 77, 78, 79, 80, 81, 82, 83, 84, 85, 86, 87, 88, 89, 90, 91, 92, 93, 94, 95, 96, 97, 98, 99, 100, 101, 102, 103, 104, 105, 106, 107, 108, 109, 110, 111, 112, 113, 114, 115, 116, 117, 118, 119, 120, 121, 122, 123, 124, 125, 126, 127, 128, 129, 130, 131, 132, 133, 134, 135, 136, 137, 138, 139, 140, 141, 142, 143, 151, 152, 153, 154, 155, 156, 157, 158, 159, 160, 161, 162, 167, 168, 169, 170, 171, 172, 173, 174, 175, 176] (by decide +kernel) (by decide +kernel)
set_option maxRecDepth 20000 in
theorem gX3_answer_X1_findAnswer : GoodIn wsX3_answer (wsV RX3 167 RX1 yX1_findAnswer wsX1_findAnswer) := goodIn_app (goodIn_of _ (by decide +kernel)) ggX3_answer_X1_findAnswer
set_option maxRecDepth 20000 in
theorem ggX3_answer_X1_doBite : GoodIn wsX3_answer wsX1_doBite := goodIn_r _ [147, 148, 149, 150, 19, 45, 46, 47, 11, 48, 17, 18, 49, 50, 51, 52, 23, 53, 25, 54, 55, 56, 57, 58, 59, 60, 61, 26, 27, 28, 29, 30, 31, 4, 32, 62, 63, 64, 65, 66, 67, 68, 69, 70, 71, 72, 73, 151, 152, 153, 154, 155, 156, 157, 158, 159, 160, 161, 162, 167, 168, 169, 170, 171, 172, 173] (by decide +kernel) (by decide +kernel)
set_option maxRecDepth 20000 in
theorem gX3_answer_X1_doBite : GoodIn wsX3_answer (wsV RX3 164 RX1 yX1_doBite wsX1_doBite) := goodIn_app (goodIn_of _ (by decide +kernel)) ggX3_answer_X1_doBite
theorem dX3_answer_0 : decode cX3_answer 0 = .ok (.aload_n 0, 1) := by decide +kernel
theorem dX3_answer_1 : decode cX3_answer 1 = .ok (.iload_n 1, 1) := by decide +kernel
theorem dX3_answer_2 : decode cX3_answer 2 = .ok (.invokevirtual 120, 3) := by decide +kernel
theorem dX3_answer_5 : decode cX3_answer 5 = .ok (.astore_n 2, 1) := by decide +kernel
theorem dX3_answer_6 : decode cX3_answer 6 = .ok (.aload_n 2, 1) := by decide +kernel
theorem dX3_answer_7 : decode cX3_answer 7 = .ok (.ifnonnull 7, 3) := by decide +kernel
theorem dX3_answer_10 : decode cX3_answer 10 = .ok (.sipush (-1001), 3) := by decide +kernel
theorem dX3_answer_13 : decode cX3_answer 13 = .ok (.ireturn, 1) := by decide +kernel
theorem dX3_answer_14 : decode cX3_answer 14 = .ok (.aload_n 2, 1) := by decide +kernel
theorem dX3_answer_15 : decode cX3_answer 15 = .ok (.iconst 0, 1) := by decide +kernel
theorem dX3_answer_16 : decode cX3_answer 16 = .ok (.invokevirtual 133, 3) := by decide +kernel
theorem dX3_answer_19 : decode cX3_answer 19 = .ok (.ifCond .ne 7, 3) := by decide +kernel
theorem dX3_answer_22 : decode cX3_answer 22 = .ok (.sipush (-1003), 3) := by decide +kernel
theorem dX3_answer_25 : decode cX3_answer 25 = .ok (.ireturn, 1) := by decide +kernel
theorem dX3_answer_26 : decode cX3_answer 26 = .ok (.aload_n 2, 1) := by decide +kernel
theorem dX3_answer_27 : decode cX3_answer 27 = .ok (.getfield 130, 3) := by decide +kernel
theorem dX3_answer_30 : decode cX3_answer 30 = .ok (.bipush 100, 2) := by decide +kernel
theorem dX3_answer_32 : decode cX3_answer 32 = .ok (.if_icmp .lt 7, 3) := by decide +kernel
theorem dX3_answer_35 : decode cX3_answer 35 = .ok (.sipush (-1004), 3) := by decide +kernel
theorem dX3_answer_38 : decode cX3_answer 38 = .ok (.ireturn, 1) := by decide +kernel
theorem dX3_answer_39 : decode cX3_answer 39 = .ok (.aload_n 2, 1) := by decide +kernel
theorem dX3_answer_40 : decode cX3_answer 40 = .ok (.invokevirtual 167, 3) := by decide +kernel
theorem dX3_answer_43 : decode cX3_answer 43 = .ok (.istore_n 3, 1) := by decide +kernel
theorem dX3_answer_44 : decode cX3_answer 44 = .ok (.aload_n 2, 1) := by decide +kernel
theorem dX3_answer_45 : decode cX3_answer 45 = .ok (.iload_n 3, 1) := by decide +kernel
theorem dX3_answer_46 : decode cX3_answer 46 = .ok (.invokevirtual 164, 3) := by decide +kernel
theorem dX3_answer_49 : decode cX3_answer 49 = .ok (.iload_n 3, 1) := by decide +kernel
theorem dX3_answer_50 : decode cX3_answer 50 = .ok (.ireturn, 1) := by decide +kernel
set_option maxRecDepth 20000 in
theorem ggX3_back_X3_gameAt : GoodIn wsX3_back wsX3_gameAt := goodIn_r _ [5, 6, 7, 30, 31, 32, 33] (by decide +kernel) (by decide +kernel)
set_option maxRecDepth 20000 in
theorem gX3_back_X3_gameAt : GoodIn wsX3_back (wsV RX3 120 RX3 yX3_gameAt wsX3_gameAt) := goodIn_app (goodIn_of _ (by decide +kernel)) ggX3_back_X3_gameAt
set_option maxRecDepth 20000 in
theorem ggX3_back_X1_undoBite : GoodIn wsX3_back wsX1_undoBite := goodIn_r _ [12, 13, 14, 15, 16, 4, 17, 18, 19, 20, 21, 22, 23, 24, 25, 26, 27, 28, 29] (by decide +kernel) (by decide +kernel)
set_option maxRecDepth 20000 in
theorem gX3_back_X1_undoBite : GoodIn wsX3_back (wsV RX3 170 RX1 yX1_undoBite wsX1_undoBite) := goodIn_app (goodIn_of _ (by decide +kernel)) ggX3_back_X1_undoBite
theorem dX3_back_0 : decode cX3_back 0 = .ok (.aload_n 0, 1) := by decide +kernel
theorem dX3_back_1 : decode cX3_back 1 = .ok (.iload_n 1, 1) := by decide +kernel
theorem dX3_back_2 : decode cX3_back 2 = .ok (.invokevirtual 120, 3) := by decide +kernel
theorem dX3_back_5 : decode cX3_back 5 = .ok (.astore_n 2, 1) := by decide +kernel
theorem dX3_back_6 : decode cX3_back 6 = .ok (.aload_n 2, 1) := by decide +kernel
theorem dX3_back_7 : decode cX3_back 7 = .ok (.ifnonnull 7, 3) := by decide +kernel
theorem dX3_back_10 : decode cX3_back 10 = .ok (.sipush (-1001), 3) := by decide +kernel
theorem dX3_back_13 : decode cX3_back 13 = .ok (.ireturn, 1) := by decide +kernel
theorem dX3_back_14 : decode cX3_back 14 = .ok (.aload_n 2, 1) := by decide +kernel
theorem dX3_back_15 : decode cX3_back 15 = .ok (.getfield 130, 3) := by decide +kernel
theorem dX3_back_18 : decode cX3_back 18 = .ok (.ifCond .ne 7, 3) := by decide +kernel
theorem dX3_back_21 : decode cX3_back 21 = .ok (.sipush (-1003), 3) := by decide +kernel
theorem dX3_back_24 : decode cX3_back 24 = .ok (.ireturn, 1) := by decide +kernel
theorem dX3_back_25 : decode cX3_back 25 = .ok (.aload_n 2, 1) := by decide +kernel
theorem dX3_back_26 : decode cX3_back 26 = .ok (.invokevirtual 170, 3) := by decide +kernel
theorem dX3_back_29 : decode cX3_back 29 = .ok (.aload_n 2, 1) := by decide +kernel
theorem dX3_back_30 : decode cX3_back 30 = .ok (.getfield 130, 3) := by decide +kernel
theorem dX3_back_33 : decode cX3_back 33 = .ok (.ireturn, 1) := by decide +kernel
set_option maxRecDepth 20000 in
theorem ggX3_noted_X3_gameAt : GoodIn wsX3_noted wsX3_gameAt := goodIn_r _ [5, 6, 7, 26, 27, 28, 29] (by decide +kernel) (by decide +kernel)
set_option maxRecDepth 20000 in
theorem gX3_noted_X3_gameAt : GoodIn wsX3_noted (wsV RX3 120 RX3 yX3_gameAt wsX3_gameAt) := goodIn_app (goodIn_of _ (by decide +kernel)) ggX3_noted_X3_gameAt
set_option maxRecDepth 20000 in
theorem ggX3_noted_X3_isWithin : GoodIn wsX3_noted wsX3_isWithin := goodIn_r _ [10] (by decide +kernel) (by decide +kernel)
set_option maxRecDepth 20000 in
theorem gX3_noted_X3_isWithin : GoodIn wsX3_noted (va_wsS RX3 34 yX3_isWithin wsX3_isWithin) := goodIn_app (goodIn_of _ (by decide +kernel)) ggX3_noted_X3_isWithin
set_option maxRecDepth 20000 in
theorem ggX3_noted_X3_at : GoodIn wsX3_noted wsX3_at := goodIn_r _ [13] (by decide +kernel) (by decide +kernel)
set_option maxRecDepth 20000 in
theorem gX3_noted_X3_at : GoodIn wsX3_noted (va_wsS RX3 176 yX3_at wsX3_at) := goodIn_app (goodIn_of _ (by decide +kernel)) ggX3_noted_X3_at
theorem dX3_noted_0 : decode cX3_noted 0 = .ok (.aload_n 0, 1) := by decide +kernel
theorem dX3_noted_1 : decode cX3_noted 1 = .ok (.iload_n 1, 1) := by decide +kernel
theorem dX3_noted_2 : decode cX3_noted 2 = .ok (.invokevirtual 120, 3) := by decide +kernel
theorem dX3_noted_5 : decode cX3_noted 5 = .ok (.astore_n 3, 1) := by decide +kernel
theorem dX3_noted_6 : decode cX3_noted 6 = .ok (.aload_n 3, 1) := by decide +kernel
theorem dX3_noted_7 : decode cX3_noted 7 = .ok (.ifnonnull 7, 3) := by decide +kernel
theorem dX3_noted_10 : decode cX3_noted 10 = .ok (.sipush (-1001), 3) := by decide +kernel
theorem dX3_noted_13 : decode cX3_noted 13 = .ok (.ireturn, 1) := by decide +kernel
theorem dX3_noted_14 : decode cX3_noted 14 = .ok (.iload_n 2, 1) := by decide +kernel
theorem dX3_noted_15 : decode cX3_noted 15 = .ok (.iconst 0, 1) := by decide +kernel
theorem dX3_noted_16 : decode cX3_noted 16 = .ok (.aload_n 3, 1) := by decide +kernel
theorem dX3_noted_17 : decode cX3_noted 17 = .ok (.getfield 130, 3) := by decide +kernel
theorem dX3_noted_20 : decode cX3_noted 20 = .ok (.iconst 1, 1) := by decide +kernel
theorem dX3_noted_21 : decode cX3_noted 21 = .ok (.isub, 1) := by decide +kernel
theorem dX3_noted_22 : decode cX3_noted 22 = .ok (.invokestatic 34, 3) := by decide +kernel
theorem dX3_noted_25 : decode cX3_noted 25 = .ok (.ifCond .eq 14, 3) := by decide +kernel
theorem dX3_noted_28 : decode cX3_noted 28 = .ok (.aload_n 3, 1) := by decide +kernel
theorem dX3_noted_29 : decode cX3_noted 29 = .ok (.getfield 173, 3) := by decide +kernel
theorem dX3_noted_32 : decode cX3_noted 32 = .ok (.iload_n 2, 1) := by decide +kernel
theorem dX3_noted_33 : decode cX3_noted 33 = .ok (.invokestatic 176, 3) := by decide +kernel
theorem dX3_noted_36 : decode cX3_noted 36 = .ok (.goto 4, 3) := by decide +kernel
theorem dX3_noted_39 : decode cX3_noted 39 = .ok (.iconst (-1), 1) := by decide +kernel
theorem dX3_noted_40 : decode cX3_noted 40 = .ok (.ireturn, 1) := by decide +kernel
set_option maxRecDepth 20000 in
theorem ggX3_sum_X3_isSum : GoodIn wsX3_sum wsX3_isSum := goodIn_r _ [5, 6, 7, 8, 4, 9, 102, 103, 104, 105] (by decide +kernel) (by decide +kernel)
set_option maxRecDepth 20000 in
theorem gX3_sum_X3_isSum : GoodIn wsX3_sum (wsV RX3 180 RX3 yX3_isSum wsX3_isSum) := goodIn_app (goodIn_of _ (by decide +kernel)) ggX3_sum_X3_isSum
set_option maxRecDepth 20000 in
theorem ggX3_sum_X3_worthOfSum : GoodIn wsX3_sum wsX3_worthOfSum := goodIn_r _ [13, 6, 14, 15, 16, 17, 18, 19, 20, 21, 22, 23, 24, 25, 26, 27, 28, 29, 30, 31, 32, 33, 34, 35, 36, 37, 38, 39, 4, 40, 41, 42, 43, 44, 45, 46, 47, 48, 49, 50, 51, 52, 53, 54, 55, 56, 57, 58, 59, 60, 61, 62, 63, 64, 65, 66, 67, 68, 69, 70, 71, 72, 73, 74, 75, 76, 77, 78, 79, 80, 81, 82, 83, 84, 85, 86, 87, 88, 89, 90, 91, 92, 93, 94, 95, 96, 97, 98, 99, 100, 101, 102, 103, 104, 105, 106, 107, 108, 109, 110, 111, 112, 113, 114, 115, 116, 117, 118, 119, 120, 121, 122, 123, 124, 125, 126, 127] (by decide +kernel) (by decide +kernel)
set_option maxRecDepth 20000 in
theorem gX3_sum_X3_worthOfSum : GoodIn wsX3_sum (wsV RX3 183 RX3 yX3_worthOfSum wsX3_worthOfSum) := goodIn_app (goodIn_of _ (by decide +kernel)) ggX3_sum_X3_worthOfSum
theorem dX3_sum_0 : decode cX3_sum 0 = .ok (.aload_n 0, 1) := by decide +kernel
theorem dX3_sum_1 : decode cX3_sum 1 = .ok (.iload_n 1, 1) := by decide +kernel
theorem dX3_sum_2 : decode cX3_sum 2 = .ok (.invokevirtual 180, 3) := by decide +kernel
theorem dX3_sum_5 : decode cX3_sum 5 = .ok (.ifCond .eq 11, 3) := by decide +kernel
theorem dX3_sum_8 : decode cX3_sum 8 = .ok (.aload_n 0, 1) := by decide +kernel
theorem dX3_sum_9 : decode cX3_sum 9 = .ok (.iload_n 1, 1) := by decide +kernel
theorem dX3_sum_10 : decode cX3_sum 10 = .ok (.invokevirtual 183, 3) := by decide +kernel
theorem dX3_sum_13 : decode cX3_sum 13 = .ok (.goto 6, 3) := by decide +kernel
theorem dX3_sum_16 : decode cX3_sum 16 = .ok (.sipush (-1002), 3) := by decide +kernel
theorem dX3_sum_19 : decode cX3_sum 19 = .ok (.ireturn, 1) := by decide +kernel
set_option maxRecDepth 20000 in
theorem ggX3_inSum_X3_isSum : GoodIn wsX3_inSum wsX3_isSum := goodIn_r _ [7, 1, 8, 9, 6, 10, 148, 149, 150, 151] (by decide +kernel) (by decide +kernel)
set_option maxRecDepth 20000 in
theorem gX3_inSum_X3_isSum : GoodIn wsX3_inSum (wsV RX3 180 RX3 yX3_isSum wsX3_isSum) := goodIn_app (goodIn_of _ (by decide +kernel)) ggX3_inSum_X3_isSum
set_option maxRecDepth 20000 in
theorem ggX3_inSum_X3_isWithin : GoodIn wsX3_inSum wsX3_isWithin := goodIn_r _ [10] (by decide +kernel) (by decide +kernel)
set_option maxRecDepth 20000 in
theorem gX3_inSum_X3_isWithin : GoodIn wsX3_inSum (va_wsS RX3 34 yX3_isWithin wsX3_isWithin) := goodIn_app (goodIn_of _ (by decide +kernel)) ggX3_inSum_X3_isWithin
set_option maxRecDepth 20000 in
theorem ggX3_inSum_X3_worthOfSum : GoodIn wsX3_inSum wsX3_worthOfSum := goodIn_r _ [14, 1, 2, 15, 16, 17, 18, 19, 20, 21, 22, 23, 24, 25, 26, 27, 28, 29, 30, 31, 32, 33, 34, 35, 36, 37, 38, 39, 6, 40, 41, 42, 43, 44, 45, 46, 47, 48, 49, 50, 51, 52, 53, 54, 55, 56, 57, 58, 59, 60, 61, 62, 63, 64, 65, 66, 67, 68, 69, 70, 71, 72, 73, 74, 75, 76, 77, 78, 79, 80, 81, 82, 83, 84, 85, 86, 87, 88, 89, 90, 91, 92, 93, 94, 95, 96, 97, 98, 99, 100, 101, 148, 149, 150, 151, 152, 153, 154, 155, 156, 157, 158, 159, 160, 161, 162, 163, 164, 165, 166, 167, 168, 169, 170, 171, 172, 173] (by decide +kernel) (by decide +kernel)
set_option maxRecDepth 20000 in
theorem gX3_inSum_X3_worthOfSum : GoodIn wsX3_inSum (wsV RX3 183 RX3 yX3_worthOfSum wsX3_worthOfSum) := goodIn_app (goodIn_of _ (by decide +kernel)) ggX3_inSum_X3_worthOfSum
set_option maxRecDepth 20000 in
theorem ggX3_inSum_X1_factsOf : GoodIn wsX3_inSum wsX1_factsOf := goodIn_r _ [19, 20, 21, 22, 23, 24, 25, 26, 27, 28, 29, 30, 31, 32, 33, 34, 35, 36, 37, 38, 39, 6, 40, 41, 42, 43, 44, 45, 46, 47, 48, 49, 50, 51, 52, 53, 54, 55, 56, 57, 58, 59, 60, 61, 62, 63, 64, 65, 66, 67, 68, 69, 70, 71, 72, 73, 74, 75, 76, 77, 78, 79, 80, 81, 82, 83, 84, 85, 18, 86, 87, 88, 89, 90, 91, 92, 93, 94, 95, 96, 97, 98, 99, 100, 152, 153, 154, 155, 156, 157, 158, 159, 160, 161, 162, 163, 164, 165, 166, 167, 168, 169, 170, 171, 172, 173] (by decide +kernel) (by decide +kernel)
set_option maxRecDepth 20000 in
theorem gX3_inSum_X1_factsOf : GoodIn wsX3_inSum (wsV RX3 145 RX1 yX1_factsOf wsX1_factsOf) := goodIn_app (goodIn_of _ (by decide +kernel)) ggX3_inSum_X1_factsOf
set_option maxRecDepth 20000 in
theorem ggX3_inSum_X3_worthIn : GoodIn wsX3_inSum wsX3_worthIn := goodIn_r _ [70] (by decide +kernel) (by decide +kernel)
set_option maxRecDepth 20000 in
theorem gX3_inSum_X3_worthIn : GoodIn wsX3_inSum (va_wsS RX3 154 yX3_worthIn wsX3_worthIn) := goodIn_app (goodIn_of _ (by decide +kernel)) ggX3_inSum_X3_worthIn
set_option maxRecDepth 20000 in
theorem ggX3_inSum_X1_findBiteTo : GoodIn wsX3_inSum wsX1_findBiteTo := goodIn_r _ [105, 106, 107, 108, 18, 109, 20, 21, 110, 111, 112, 113, 27, 114, 31, 34, 35, 36, 37, 38, 39, 6, 40, 115, 116, 117, 118, 119, 120, 121, 122, 123, 124, 125, 92, 126, 127, 128, 129, 130, 67, 64, 68, 131, 132, 133, 134, 135, 136, 137, 138, 139, 140, 141, 142, 143, 144, 145, 146, 147, 16, 17, 19, 22, 23, 24, 25, 26, 28, 29, 30, 32, 33, 41, 42, 43, 44, 45, 46, 47, 48, 49, 50, 51, 52, 53, 54, 55, 56, 57, 58, 59, 60, 61, 62, 63, 65, 66, 69, 70, 71, 72, 73, 74, 75, 76, 77, 78, 79, 80, 81, 82, 83, 84, 85, 86, 87, 88, 89, 90, 91, 93, 94, 95, 96, 97, 98, 99, 100, 152, 153, 154, 155, 156, 157, 158, 159, 160, 161, 162, 163, 164, 165, 166, 167, 168, 169, 170, 171, 172, 173] (by decide +kernel) (by decide +kernel)
set_option maxRecDepth 20000 in
theorem gX3_inSum_X1_findBiteTo : GoodIn wsX3_inSum (wsV RX3 186 RX1 yX1_findBiteTo wsX1_findBiteTo) := goodIn_app (goodIn_of _ (by decide +kernel)) ggX3_inSum_X1_findBiteTo
theorem dX3_inSum_0 : decode cX3_inSum 0 = .ok (.aload_n 0, 1) := by decide +kernel
theorem dX3_inSum_1 : decode cX3_inSum 1 = .ok (.iload_n 1, 1) := by decide +kernel
theorem dX3_inSum_2 : decode cX3_inSum 2 = .ok (.invokevirtual 180, 3) := by decide +kernel
theorem dX3_inSum_5 : decode cX3_inSum 5 = .ok (.ifCond .eq 12, 3) := by decide +kernel
theorem dX3_inSum_8 : decode cX3_inSum 8 = .ok (.iload_n 2, 1) := by decide +kernel
theorem dX3_inSum_9 : decode cX3_inSum 9 = .ok (.iconst 0, 1) := by decide +kernel
theorem dX3_inSum_10 : decode cX3_inSum 10 = .ok (.iconst 1, 1) := by decide +kernel
theorem dX3_inSum_11 : decode cX3_inSum 11 = .ok (.invokestatic 34, 3) := by decide +kernel
theorem dX3_inSum_14 : decode cX3_inSum 14 = .ok (.ifCond .ne 7, 3) := by decide +kernel
theorem dX3_inSum_17 : decode cX3_inSum 17 = .ok (.sipush (-1002), 3) := by decide +kernel
theorem dX3_inSum_20 : decode cX3_inSum 20 = .ok (.ireturn, 1) := by decide +kernel
theorem dX3_inSum_21 : decode cX3_inSum 21 = .ok (.aload_n 0, 1) := by decide +kernel
theorem dX3_inSum_22 : decode cX3_inSum 22 = .ok (.iload_n 1, 1) := by decide +kernel
theorem dX3_inSum_23 : decode cX3_inSum 23 = .ok (.invokevirtual 183, 3) := by decide +kernel
theorem dX3_inSum_26 : decode cX3_inSum 26 = .ok (.istore_n 3, 1) := by decide +kernel
theorem dX3_inSum_27 : decode cX3_inSum 27 = .ok (.iconst 0, 1) := by decide +kernel
theorem dX3_inSum_28 : decode cX3_inSum 28 = .ok (.istore 4, 2) := by decide +kernel
theorem dX3_inSum_30 : decode cX3_inSum 30 = .ok (.iload 4, 2) := by decide +kernel
theorem dX3_inSum_32 : decode cX3_inSum 32 = .ok (.aload_n 0, 1) := by decide +kernel
theorem dX3_inSum_33 : decode cX3_inSum 33 = .ok (.getfield 54, 3) := by decide +kernel
theorem dX3_inSum_36 : decode cX3_inSum 36 = .ok (.if_icmp .ge 85, 3) := by decide +kernel
theorem dX3_inSum_39 : decode cX3_inSum 39 = .ok (.iload 4, 2) := by decide +kernel
theorem dX3_inSum_41 : decode cX3_inSum 41 = .ok (.aload_n 0, 1) := by decide +kernel
theorem dX3_inSum_42 : decode cX3_inSum 42 = .ok (.getfield 11, 3) := by decide +kernel
theorem dX3_inSum_45 : decode cX3_inSum 45 = .ok (.arraylength, 1) := by decide +kernel
theorem dX3_inSum_46 : decode cX3_inSum 46 = .ok (.if_icmp .ge 75, 3) := by decide +kernel
theorem dX3_inSum_49 : decode cX3_inSum 49 = .ok (.aload_n 0, 1) := by decide +kernel
theorem dX3_inSum_50 : decode cX3_inSum 50 = .ok (.getfield 11, 3) := by decide +kernel
theorem dX3_inSum_53 : decode cX3_inSum 53 = .ok (.iload 4, 2) := by decide +kernel
theorem dX3_inSum_55 : decode cX3_inSum 55 = .ok (.aaload, 1) := by decide +kernel
theorem dX3_inSum_56 : decode cX3_inSum 56 = .ok (.astore 5, 2) := by decide +kernel
theorem dX3_inSum_58 : decode cX3_inSum 58 = .ok (.aload 5, 2) := by decide +kernel
theorem dX3_inSum_60 : decode cX3_inSum 60 = .ok (.ifnull 55, 3) := by decide +kernel
theorem dX3_inSum_63 : decode cX3_inSum 63 = .ok (.iload_n 1, 1) := by decide +kernel
theorem dX3_inSum_64 : decode cX3_inSum 64 = .ok (.iload 4, 2) := by decide +kernel
theorem dX3_inSum_66 : decode cX3_inSum 66 = .ok (.ishr, 1) := by decide +kernel
theorem dX3_inSum_67 : decode cX3_inSum 67 = .ok (.iconst 1, 1) := by decide +kernel
theorem dX3_inSum_68 : decode cX3_inSum 68 = .ok (.iand, 1) := by decide +kernel
theorem dX3_inSum_69 : decode cX3_inSum 69 = .ok (.ifCond .ne 6, 3) := by decide +kernel
theorem dX3_inSum_72 : decode cX3_inSum 72 = .ok (.goto 43, 3) := by decide +kernel
theorem dX3_inSum_75 : decode cX3_inSum 75 = .ok (.aload 5, 2) := by decide +kernel
theorem dX3_inSum_77 : decode cX3_inSum 77 = .ok (.iload_n 3, 1) := by decide +kernel
theorem dX3_inSum_78 : decode cX3_inSum 78 = .ok (.aload 5, 2) := by decide +kernel
theorem dX3_inSum_80 : decode cX3_inSum 80 = .ok (.aload 5, 2) := by decide +kernel
theorem dX3_inSum_82 : decode cX3_inSum 82 = .ok (.getfield 73, 3) := by decide +kernel
theorem dX3_inSum_85 : decode cX3_inSum 85 = .ok (.invokevirtual 145, 3) := by decide +kernel
theorem dX3_inSum_88 : decode cX3_inSum 88 = .ok (.invokestatic 154, 3) := by decide +kernel
theorem dX3_inSum_91 : decode cX3_inSum 91 = .ok (.ixor, 1) := by decide +kernel
theorem dX3_inSum_92 : decode cX3_inSum 92 = .ok (.invokevirtual 186, 3) := by decide +kernel
theorem dX3_inSum_95 : decode cX3_inSum 95 = .ok (.istore 6, 2) := by decide +kernel
theorem dX3_inSum_97 : decode cX3_inSum 97 = .ok (.iload 6, 2) := by decide +kernel
theorem dX3_inSum_99 : decode cX3_inSum 99 = .ok (.iconst (-1), 1) := by decide +kernel
theorem dX3_inSum_100 : decode cX3_inSum 100 = .ok (.if_icmp .eq 15, 3) := by decide +kernel
theorem dX3_inSum_103 : decode cX3_inSum 103 = .ok (.iload_n 2, 1) := by decide +kernel
theorem dX3_inSum_104 : decode cX3_inSum 104 = .ok (.ifCond .ne 8, 3) := by decide +kernel
theorem dX3_inSum_107 : decode cX3_inSum 107 = .ok (.iload 4, 2) := by decide +kernel
theorem dX3_inSum_109 : decode cX3_inSum 109 = .ok (.goto 5, 3) := by decide +kernel
theorem dX3_inSum_112 : decode cX3_inSum 112 = .ok (.iload 6, 2) := by decide +kernel
theorem dX3_inSum_114 : decode cX3_inSum 114 = .ok (.ireturn, 1) := by decide +kernel
theorem dX3_inSum_115 : decode cX3_inSum 115 = .ok (.iinc 4 1, 3) := by decide +kernel
theorem dX3_inSum_118 : decode cX3_inSum 118 = .ok (.goto (-88), 3) := by decide +kernel
theorem dX3_inSum_121 : decode cX3_inSum 121 = .ok (.iconst (-1), 1) := by decide +kernel
theorem dX3_inSum_122 : decode cX3_inSum 122 = .ok (.ireturn, 1) := by decide +kernel
theorem dX3_nextGame_0 : decode cX3_nextGame 0 = .ok (.aload_n 0, 1) := by decide +kernel
theorem dX3_nextGame_1 : decode cX3_nextGame 1 = .ok (.getfield 54, 3) := by decide +kernel
theorem dX3_nextGame_4 : decode cX3_nextGame 4 = .ok (.ifCond .lt 27, 3) := by decide +kernel
theorem dX3_nextGame_7 : decode cX3_nextGame 7 = .ok (.aload_n 0, 1) := by decide +kernel
theorem dX3_nextGame_8 : decode cX3_nextGame 8 = .ok (.getfield 54, 3) := by decide +kernel
theorem dX3_nextGame_11 : decode cX3_nextGame 11 = .ok (.aload_n 0, 1) := by decide +kernel
theorem dX3_nextGame_12 : decode cX3_nextGame 12 = .ok (.getfield 11, 3) := by decide +kernel
theorem dX3_nextGame_15 : decode cX3_nextGame 15 = .ok (.arraylength, 1) := by decide +kernel
theorem dX3_nextGame_16 : decode cX3_nextGame 16 = .ok (.if_icmp .ge 15, 3) := by decide +kernel
theorem dX3_nextGame_19 : decode cX3_nextGame 19 = .ok (.aload_n 0, 1) := by decide +kernel
theorem dX3_nextGame_20 : decode cX3_nextGame 20 = .ok (.getfield 11, 3) := by decide +kernel
theorem dX3_nextGame_23 : decode cX3_nextGame 23 = .ok (.aload_n 0, 1) := by decide +kernel
theorem dX3_nextGame_24 : decode cX3_nextGame 24 = .ok (.getfield 54, 3) := by decide +kernel
theorem dX3_nextGame_27 : decode cX3_nextGame 27 = .ok (.aaload, 1) := by decide +kernel
theorem dX3_nextGame_28 : decode cX3_nextGame 28 = .ok (.goto 4, 3) := by decide +kernel
theorem dX3_nextGame_31 : decode cX3_nextGame 31 = .ok (.aconst_null, 1) := by decide +kernel
theorem dX3_nextGame_32 : decode cX3_nextGame 32 = .ok (.areturn, 1) := by decide +kernel
set_option maxRecDepth 20000 in
theorem ggX3_beginEmpty_X3_isWithin : GoodIn wsX3_beginEmpty wsX3_isWithin := goodIn_r _ [5] (by decide +kernel) (by decide +kernel)
set_option maxRecDepth 20000 in
theorem gX3_beginEmpty_X3_isWithin : GoodIn wsX3_beginEmpty (va_wsS RX3 34 yX3_isWithin wsX3_isWithin) := goodIn_app (goodIn_of _ (by decide +kernel)) ggX3_beginEmpty_X3_isWithin
set_option maxRecDepth 20000 in
theorem ggX3_beginEmpty_X3_nextGame : GoodIn wsX3_beginEmpty wsX3_nextGame := goodIn_r _ [9, 1, 10, 26, 27, 28, 29] (by decide +kernel) (by decide +kernel)
set_option maxRecDepth 20000 in
theorem gX3_beginEmpty_X3_nextGame : GoodIn wsX3_beginEmpty (wsV RX3 38 RX3 yX3_nextGame wsX3_nextGame) := goodIn_app (goodIn_of _ (by decide +kernel)) ggX3_beginEmpty_X3_nextGame
set_option maxRecDepth 20000 in
theorem ggX3_beginEmpty_X1_begin : GoodIn wsX3_beginEmpty wsX1_begin := goodIn_r _ [15, 16, 17, 18, 19, 20, 21, 22, 14, 23, 24, 25, 30, 31, 32, 33, 34, 35, 36, 37, 38, 39, 40, 41] (by decide +kernel) (by decide +kernel)
set_option maxRecDepth 20000 in
theorem gX3_beginEmpty_X1_begin : GoodIn wsX3_beginEmpty (wsV RX3 42 RX1 yX1_begin wsX1_begin) := goodIn_app (goodIn_of _ (by decide +kernel)) ggX3_beginEmpty_X1_begin
theorem dX3_beginEmpty_0 : decode cX3_beginEmpty 0 = .ok (.iload_n 2, 1) := by decide +kernel
theorem dX3_beginEmpty_1 : decode cX3_beginEmpty 1 = .ok (.iconst 0, 1) := by decide +kernel
theorem dX3_beginEmpty_2 : decode cX3_beginEmpty 2 = .ok (.iconst 1, 1) := by decide +kernel
theorem dX3_beginEmpty_3 : decode cX3_beginEmpty 3 = .ok (.invokestatic 34, 3) := by decide +kernel
theorem dX3_beginEmpty_6 : decode cX3_beginEmpty 6 = .ok (.ifCond .ne 7, 3) := by decide +kernel
theorem dX3_beginEmpty_9 : decode cX3_beginEmpty 9 = .ok (.sipush (-1002), 3) := by decide +kernel
theorem dX3_beginEmpty_12 : decode cX3_beginEmpty 12 = .ok (.ireturn, 1) := by decide +kernel
theorem dX3_beginEmpty_13 : decode cX3_beginEmpty 13 = .ok (.aload_n 0, 1) := by decide +kernel
theorem dX3_beginEmpty_14 : decode cX3_beginEmpty 14 = .ok (.invokevirtual 38, 3) := by decide +kernel
theorem dX3_beginEmpty_17 : decode cX3_beginEmpty 17 = .ok (.astore_n 3, 1) := by decide +kernel
theorem dX3_beginEmpty_18 : decode cX3_beginEmpty 18 = .ok (.aload_n 3, 1) := by decide +kernel
theorem dX3_beginEmpty_19 : decode cX3_beginEmpty 19 = .ok (.ifnonnull 7, 3) := by decide +kernel
theorem dX3_beginEmpty_22 : decode cX3_beginEmpty 22 = .ok (.sipush (-1004), 3) := by decide +kernel
theorem dX3_beginEmpty_25 : decode cX3_beginEmpty 25 = .ok (.ireturn, 1) := by decide +kernel
theorem dX3_beginEmpty_26 : decode cX3_beginEmpty 26 = .ok (.aload_n 3, 1) := by decide +kernel
theorem dX3_beginEmpty_27 : decode cX3_beginEmpty 27 = .ok (.iload_n 1, 1) := by decide +kernel
theorem dX3_beginEmpty_28 : decode cX3_beginEmpty 28 = .ok (.iload_n 2, 1) := by decide +kernel
theorem dX3_beginEmpty_29 : decode cX3_beginEmpty 29 = .ok (.invokevirtual 42, 3) := by decide +kernel
theorem dX3_beginEmpty_32 : decode cX3_beginEmpty 32 = .ok (.aload_n 0, 1) := by decide +kernel
theorem dX3_beginEmpty_33 : decode cX3_beginEmpty 33 = .ok (.dup, 1) := by decide +kernel
theorem dX3_beginEmpty_34 : decode cX3_beginEmpty 34 = .ok (.getfield 54, 3) := by decide +kernel
theorem dX3_beginEmpty_37 : decode cX3_beginEmpty 37 = .ok (.dup_x1, 1) := by decide +kernel
theorem dX3_beginEmpty_38 : decode cX3_beginEmpty 38 = .ok (.iconst 1, 1) := by decide +kernel
theorem dX3_beginEmpty_39 : decode cX3_beginEmpty 39 = .ok (.iadd, 1) := by decide +kernel
theorem dX3_beginEmpty_40 : decode cX3_beginEmpty 40 = .ok (.putfield 54, 3) := by decide +kernel
theorem dX3_beginEmpty_43 : decode cX3_beginEmpty 43 = .ok (.ireturn, 1) := by decide +kernel
theorem dX3_gameAt_0 : decode cX3_gameAt 0 = .ok (.iload_n 1, 1) := by decide +kernel
theorem dX3_gameAt_1 : decode cX3_gameAt 1 = .ok (.ifCond .lt 29, 3) := by decide +kernel
theorem dX3_gameAt_4 : decode cX3_gameAt 4 = .ok (.iload_n 1, 1) := by decide +kernel
theorem dX3_gameAt_5 : decode cX3_gameAt 5 = .ok (.aload_n 0, 1) := by decide +kernel
theorem dX3_gameAt_6 : decode cX3_gameAt 6 = .ok (.getfield 54, 3) := by decide +kernel
theorem dX3_gameAt_9 : decode cX3_gameAt 9 = .ok (.if_icmp .ge 21, 3) := by decide +kernel
theorem dX3_gameAt_12 : decode cX3_gameAt 12 = .ok (.iload_n 1, 1) := by decide +kernel
theorem dX3_gameAt_13 : decode cX3_gameAt 13 = .ok (.aload_n 0, 1) := by decide +kernel
theorem dX3_gameAt_14 : decode cX3_gameAt 14 = .ok (.getfield 11, 3) := by decide +kernel
theorem dX3_gameAt_17 : decode cX3_gameAt 17 = .ok (.arraylength, 1) := by decide +kernel
theorem dX3_gameAt_18 : decode cX3_gameAt 18 = .ok (.if_icmp .ge 12, 3) := by decide +kernel
theorem dX3_gameAt_21 : decode cX3_gameAt 21 = .ok (.aload_n 0, 1) := by decide +kernel
theorem dX3_gameAt_22 : decode cX3_gameAt 22 = .ok (.getfield 11, 3) := by decide +kernel
theorem dX3_gameAt_25 : decode cX3_gameAt 25 = .ok (.iload_n 1, 1) := by decide +kernel
theorem dX3_gameAt_26 : decode cX3_gameAt 26 = .ok (.aaload, 1) := by decide +kernel
theorem dX3_gameAt_27 : decode cX3_gameAt 27 = .ok (.goto 4, 3) := by decide +kernel
theorem dX3_gameAt_30 : decode cX3_gameAt 30 = .ok (.aconst_null, 1) := by decide +kernel
theorem dX3_gameAt_31 : decode cX3_gameAt 31 = .ok (.areturn, 1) := by decide +kernel
set_option maxRecDepth 20000 in
theorem ggX3_gameOf_X3_gameAt : GoodIn wsX3_gameOf wsX3_gameAt := goodIn_r _ [5, 6, 7, 20, 21, 22, 23] (by decide +kernel) (by decide +kernel)
set_option maxRecDepth 20000 in
theorem gX3_gameOf_X3_gameAt : GoodIn wsX3_gameOf (wsV RX3 120 RX3 yX3_gameAt wsX3_gameAt) := goodIn_app (goodIn_of _ (by decide +kernel)) ggX3_gameOf_X3_gameAt
theorem dX3_gameOf_0 : decode cX3_gameOf 0 = .ok (.aload_n 0, 1) := by decide +kernel
theorem dX3_gameOf_1 : decode cX3_gameOf 1 = .ok (.iload_n 1, 1) := by decide +kernel
theorem dX3_gameOf_2 : decode cX3_gameOf 2 = .ok (.invokevirtual 120, 3) := by decide +kernel
theorem dX3_gameOf_5 : decode cX3_gameOf 5 = .ok (.astore_n 3, 1) := by decide +kernel
theorem dX3_gameOf_6 : decode cX3_gameOf 6 = .ok (.aload_n 3, 1) := by decide +kernel
theorem dX3_gameOf_7 : decode cX3_gameOf 7 = .ok (.ifnull 15, 3) := by decide +kernel
theorem dX3_gameOf_10 : decode cX3_gameOf 10 = .ok (.aload_n 3, 1) := by decide +kernel
theorem dX3_gameOf_11 : decode cX3_gameOf 11 = .ok (.getfield 127, 3) := by decide +kernel
theorem dX3_gameOf_14 : decode cX3_gameOf 14 = .ok (.iload_n 2, 1) := by decide +kernel
theorem dX3_gameOf_15 : decode cX3_gameOf 15 = .ok (.if_icmp .ne 7, 3) := by decide +kernel
theorem dX3_gameOf_18 : decode cX3_gameOf 18 = .ok (.aload_n 3, 1) := by decide +kernel
theorem dX3_gameOf_19 : decode cX3_gameOf 19 = .ok (.goto 4, 3) := by decide +kernel
theorem dX3_gameOf_22 : decode cX3_gameOf 22 = .ok (.aconst_null, 1) := by decide +kernel
theorem dX3_gameOf_23 : decode cX3_gameOf 23 = .ok (.areturn, 1) := by decide +kernel
theorem dX3_listDivisors_0 : decode cX3_listDivisors 0 = .ok (.iconst 0, 1) := by decide +kernel
theorem dX3_listDivisors_1 : decode cX3_listDivisors 1 = .ok (.istore_n 2, 1) := by decide +kernel
theorem dX3_listDivisors_2 : decode cX3_listDivisors 2 = .ok (.iconst 1, 1) := by decide +kernel
theorem dX3_listDivisors_3 : decode cX3_listDivisors 3 = .ok (.istore_n 3, 1) := by decide +kernel
theorem dX3_listDivisors_4 : decode cX3_listDivisors 4 = .ok (.iload_n 3, 1) := by decide +kernel
theorem dX3_listDivisors_5 : decode cX3_listDivisors 5 = .ok (.iload_n 1, 1) := by decide +kernel
theorem dX3_listDivisors_6 : decode cX3_listDivisors 6 = .ok (.if_icmp .gt 41, 3) := by decide +kernel
theorem dX3_listDivisors_9 : decode cX3_listDivisors 9 = .ok (.iload_n 3, 1) := by decide +kernel
theorem dX3_listDivisors_10 : decode cX3_listDivisors 10 = .ok (.sipush 10000, 3) := by decide +kernel
theorem dX3_listDivisors_13 : decode cX3_listDivisors 13 = .ok (.if_icmp .gt 34, 3) := by decide +kernel
theorem dX3_listDivisors_16 : decode cX3_listDivisors 16 = .ok (.iload_n 1, 1) := by decide +kernel
theorem dX3_listDivisors_17 : decode cX3_listDivisors 17 = .ok (.iload_n 3, 1) := by decide +kernel
theorem dX3_listDivisors_18 : decode cX3_listDivisors 18 = .ok (.irem, 1) := by decide +kernel
theorem dX3_listDivisors_19 : decode cX3_listDivisors 19 = .ok (.ifCond .ne 22, 3) := by decide +kernel
theorem dX3_listDivisors_22 : decode cX3_listDivisors 22 = .ok (.iload_n 2, 1) := by decide +kernel
theorem dX3_listDivisors_23 : decode cX3_listDivisors 23 = .ok (.aload_n 0, 1) := by decide +kernel
theorem dX3_listDivisors_24 : decode cX3_listDivisors 24 = .ok (.getfield 15, 3) := by decide +kernel
theorem dX3_listDivisors_27 : decode cX3_listDivisors 27 = .ok (.arraylength, 1) := by decide +kernel
theorem dX3_listDivisors_28 : decode cX3_listDivisors 28 = .ok (.if_icmp .ge 10, 3) := by decide +kernel
theorem dX3_listDivisors_31 : decode cX3_listDivisors 31 = .ok (.aload_n 0, 1) := by decide +kernel
theorem dX3_listDivisors_32 : decode cX3_listDivisors 32 = .ok (.getfield 15, 3) := by decide +kernel
theorem dX3_listDivisors_35 : decode cX3_listDivisors 35 = .ok (.iload_n 2, 1) := by decide +kernel
theorem dX3_listDivisors_36 : decode cX3_listDivisors 36 = .ok (.iload_n 3, 1) := by decide +kernel
theorem dX3_listDivisors_37 : decode cX3_listDivisors 37 = .ok (.iastore, 1) := by decide +kernel
theorem dX3_listDivisors_38 : decode cX3_listDivisors 38 = .ok (.iinc 2 1, 3) := by decide +kernel
theorem dX3_listDivisors_41 : decode cX3_listDivisors 41 = .ok (.iinc 3 1, 3) := by decide +kernel
theorem dX3_listDivisors_44 : decode cX3_listDivisors 44 = .ok (.goto (-40), 3) := by decide +kernel
theorem dX3_listDivisors_47 : decode cX3_listDivisors 47 = .ok (.iload_n 2, 1) := by decide +kernel
theorem dX3_listDivisors_48 : decode cX3_listDivisors 48 = .ok (.ireturn, 1) := by decide +kernel
set_option maxRecDepth 20000 in
theorem ggX3_isSum_X3_isWithin : GoodIn wsX3_isSum wsX3_isWithin := goodIn_r _ [5] (by decide +kernel) (by decide +kernel)
set_option maxRecDepth 20000 in
theorem gX3_isSum_X3_isWithin : GoodIn wsX3_isSum (va_wsS RX3 34 yX3_isWithin wsX3_isWithin) := goodIn_app (goodIn_of _ (by decide +kernel)) ggX3_isSum_X3_isWithin
theorem dX3_isSum_0 : decode cX3_isSum 0 = .ok (.iload_n 1, 1) := by decide +kernel
theorem dX3_isSum_1 : decode cX3_isSum 1 = .ok (.iconst 1, 1) := by decide +kernel
theorem dX3_isSum_2 : decode cX3_isSum 2 = .ok (.iconst 1, 1) := by decide +kernel
theorem dX3_isSum_3 : decode cX3_isSum 3 = .ok (.aload_n 0, 1) := by decide +kernel
theorem dX3_isSum_4 : decode cX3_isSum 4 = .ok (.getfield 54, 3) := by decide +kernel
theorem dX3_isSum_7 : decode cX3_isSum 7 = .ok (.ishl, 1) := by decide +kernel
theorem dX3_isSum_8 : decode cX3_isSum 8 = .ok (.iconst 1, 1) := by decide +kernel
theorem dX3_isSum_9 : decode cX3_isSum 9 = .ok (.isub, 1) := by decide +kernel
theorem dX3_isSum_10 : decode cX3_isSum 10 = .ok (.invokestatic 34, 3) := by decide +kernel
theorem dX3_isSum_13 : decode cX3_isSum 13 = .ok (.ireturn, 1) := by decide +kernel
set_option maxRecDepth 20000 in
theorem ggX3_worthOfSum_X1_factsOf : GoodIn wsX3_worthOfSum wsX1_factsOf := goodIn_r _ [7, 8, 9, 10, 11, 12, 13, 14, 15, 16, 17, 18, 19, 20, 21, 22, 23, 24, 25, 26, 27, 28, 29, 30, 31, 32, 33, 34, 35, 36, 37, 38, 39, 40, 41, 42, 43, 44, 45, 46, 47, 48, 49, 50, 51, 52, 53, 54, 55, 56, 57, 58, 59, 60, 61, 62, 63, 64, 65, 66, 67, 68, 69, 70, 71, 72, 73, 74, 6, 75, 76, 77, 78, 79, 80, 81, 82, 83, 84, 85, 86, 87, 88, 89, 95, 96, 97, 98, 99, 100, 101, 102, 103, 104, 105, 106, 107, 108, 109, 110, 111, 112, 113, 114, 115, 116] (by decide +kernel) (by decide +kernel)
set_option maxRecDepth 20000 in
theorem gX3_worthOfSum_X1_factsOf : GoodIn wsX3_worthOfSum (wsV RX3 145 RX1 yX1_factsOf wsX1_factsOf) := goodIn_app (goodIn_of _ (by decide +kernel)) ggX3_worthOfSum_X1_factsOf
set_option maxRecDepth 20000 in
theorem ggX3_worthOfSum_X3_worthIn : GoodIn wsX3_worthOfSum wsX3_worthIn := goodIn_r _ [59] (by decide +kernel) (by decide +kernel)
set_option maxRecDepth 20000 in
theorem gX3_worthOfSum_X3_worthIn : GoodIn wsX3_worthOfSum (va_wsS RX3 154 yX3_worthIn wsX3_worthIn) := goodIn_app (goodIn_of _ (by decide +kernel)) ggX3_worthOfSum_X3_worthIn
theorem dX3_worthOfSum_0 : decode cX3_worthOfSum 0 = .ok (.iconst 0, 1) := by decide +kernel
theorem dX3_worthOfSum_1 : decode cX3_worthOfSum 1 = .ok (.istore_n 2, 1) := by decide +kernel
theorem dX3_worthOfSum_2 : decode cX3_worthOfSum 2 = .ok (.iconst 0, 1) := by decide +kernel
theorem dX3_worthOfSum_3 : decode cX3_worthOfSum 3 = .ok (.istore_n 3, 1) := by decide +kernel
theorem dX3_worthOfSum_4 : decode cX3_worthOfSum 4 = .ok (.iload_n 3, 1) := by decide +kernel
theorem dX3_worthOfSum_5 : decode cX3_worthOfSum 5 = .ok (.aload_n 0, 1) := by decide +kernel
theorem dX3_worthOfSum_6 : decode cX3_worthOfSum 6 = .ok (.getfield 54, 3) := by decide +kernel
theorem dX3_worthOfSum_9 : decode cX3_worthOfSum 9 = .ok (.if_icmp .ge 55, 3) := by decide +kernel
theorem dX3_worthOfSum_12 : decode cX3_worthOfSum 12 = .ok (.iload_n 3, 1) := by decide +kernel
theorem dX3_worthOfSum_13 : decode cX3_worthOfSum 13 = .ok (.aload_n 0, 1) := by decide +kernel
theorem dX3_worthOfSum_14 : decode cX3_worthOfSum 14 = .ok (.getfield 11, 3) := by decide +kernel
theorem dX3_worthOfSum_17 : decode cX3_worthOfSum 17 = .ok (.arraylength, 1) := by decide +kernel
theorem dX3_worthOfSum_18 : decode cX3_worthOfSum 18 = .ok (.if_icmp .ge 46, 3) := by decide +kernel
theorem dX3_worthOfSum_21 : decode cX3_worthOfSum 21 = .ok (.aload_n 0, 1) := by decide +kernel
theorem dX3_worthOfSum_22 : decode cX3_worthOfSum 22 = .ok (.getfield 11, 3) := by decide +kernel
theorem dX3_worthOfSum_25 : decode cX3_worthOfSum 25 = .ok (.iload_n 3, 1) := by decide +kernel
theorem dX3_worthOfSum_26 : decode cX3_worthOfSum 26 = .ok (.aaload, 1) := by decide +kernel
theorem dX3_worthOfSum_27 : decode cX3_worthOfSum 27 = .ok (.astore 4, 2) := by decide +kernel
theorem dX3_worthOfSum_29 : decode cX3_worthOfSum 29 = .ok (.aload 4, 2) := by decide +kernel
theorem dX3_worthOfSum_31 : decode cX3_worthOfSum 31 = .ok (.ifnull 27, 3) := by decide +kernel
theorem dX3_worthOfSum_34 : decode cX3_worthOfSum 34 = .ok (.iload_n 1, 1) := by decide +kernel
theorem dX3_worthOfSum_35 : decode cX3_worthOfSum 35 = .ok (.iload_n 3, 1) := by decide +kernel
theorem dX3_worthOfSum_36 : decode cX3_worthOfSum 36 = .ok (.ishr, 1) := by decide +kernel
theorem dX3_worthOfSum_37 : decode cX3_worthOfSum 37 = .ok (.iconst 1, 1) := by decide +kernel
theorem dX3_worthOfSum_38 : decode cX3_worthOfSum 38 = .ok (.iand, 1) := by decide +kernel
theorem dX3_worthOfSum_39 : decode cX3_worthOfSum 39 = .ok (.ifCond .eq 19, 3) := by decide +kernel
theorem dX3_worthOfSum_42 : decode cX3_worthOfSum 42 = .ok (.iload_n 2, 1) := by decide +kernel
theorem dX3_worthOfSum_43 : decode cX3_worthOfSum 43 = .ok (.aload 4, 2) := by decide +kernel
theorem dX3_worthOfSum_45 : decode cX3_worthOfSum 45 = .ok (.aload 4, 2) := by decide +kernel
theorem dX3_worthOfSum_47 : decode cX3_worthOfSum 47 = .ok (.getfield 73, 3) := by decide +kernel
theorem dX3_worthOfSum_50 : decode cX3_worthOfSum 50 = .ok (.invokevirtual 145, 3) := by decide +kernel
theorem dX3_worthOfSum_53 : decode cX3_worthOfSum 53 = .ok (.invokestatic 154, 3) := by decide +kernel
theorem dX3_worthOfSum_56 : decode cX3_worthOfSum 56 = .ok (.ixor, 1) := by decide +kernel
theorem dX3_worthOfSum_57 : decode cX3_worthOfSum 57 = .ok (.istore_n 2, 1) := by decide +kernel
theorem dX3_worthOfSum_58 : decode cX3_worthOfSum 58 = .ok (.iinc 3 1, 3) := by decide +kernel
theorem dX3_worthOfSum_61 : decode cX3_worthOfSum 61 = .ok (.goto (-57), 3) := by decide +kernel
theorem dX3_worthOfSum_64 : decode cX3_worthOfSum 64 = .ok (.iload_n 2, 1) := by decide +kernel
theorem dX3_worthOfSum_65 : decode cX3_worthOfSum 65 = .ok (.ireturn, 1) := by decide +kernel
theorem dX3_isWithin_0 : decode cX3_isWithin 0 = .ok (.iload_n 0, 1) := by decide +kernel
theorem dX3_isWithin_1 : decode cX3_isWithin 1 = .ok (.iload_n 1, 1) := by decide +kernel
theorem dX3_isWithin_2 : decode cX3_isWithin 2 = .ok (.if_icmp .lt 12, 3) := by decide +kernel
theorem dX3_isWithin_5 : decode cX3_isWithin 5 = .ok (.iload_n 0, 1) := by decide +kernel
theorem dX3_isWithin_6 : decode cX3_isWithin 6 = .ok (.iload_n 2, 1) := by decide +kernel
theorem dX3_isWithin_7 : decode cX3_isWithin 7 = .ok (.if_icmp .gt 7, 3) := by decide +kernel
theorem dX3_isWithin_10 : decode cX3_isWithin 10 = .ok (.iconst 1, 1) := by decide +kernel
theorem dX3_isWithin_11 : decode cX3_isWithin 11 = .ok (.goto 4, 3) := by decide +kernel
theorem dX3_isWithin_14 : decode cX3_isWithin 14 = .ok (.iconst 0, 1) := by decide +kernel
theorem dX3_isWithin_15 : decode cX3_isWithin 15 = .ok (.ireturn, 1) := by decide +kernel
theorem dX3_at_0 : decode cX3_at 0 = .ok (.aload_n 0, 1) := by decide +kernel
theorem dX3_at_1 : decode cX3_at 1 = .ok (.ifnull 19, 3) := by decide +kernel
theorem dX3_at_4 : decode cX3_at 4 = .ok (.iload_n 1, 1) := by decide +kernel
theorem dX3_at_5 : decode cX3_at 5 = .ok (.ifCond .lt 15, 3) := by decide +kernel
theorem dX3_at_8 : decode cX3_at 8 = .ok (.iload_n 1, 1) := by decide +kernel
theorem dX3_at_9 : decode cX3_at 9 = .ok (.aload_n 0, 1) := by decide +kernel
theorem dX3_at_10 : decode cX3_at 10 = .ok (.arraylength, 1) := by decide +kernel
theorem dX3_at_11 : decode cX3_at 11 = .ok (.if_icmp .ge 9, 3) := by decide +kernel
theorem dX3_at_14 : decode cX3_at 14 = .ok (.aload_n 0, 1) := by decide +kernel
theorem dX3_at_15 : decode cX3_at 15 = .ok (.iload_n 1, 1) := by decide +kernel
theorem dX3_at_16 : decode cX3_at 16 = .ok (.iaload, 1) := by decide +kernel
theorem dX3_at_17 : decode cX3_at 17 = .ok (.goto 4, 3) := by decide +kernel
theorem dX3_at_20 : decode cX3_at 20 = .ok (.iconst 0, 1) := by decide +kernel
theorem dX3_at_21 : decode cX3_at 21 = .ok (.ireturn, 1) := by decide +kernel
theorem dX3_lengthIn_0 : decode cX3_lengthIn 0 = .ok (.iload_n 1, 1) := by decide +kernel
theorem dX3_lengthIn_1 : decode cX3_lengthIn 1 = .ok (.ifCond .ne 11, 3) := by decide +kernel
theorem dX3_lengthIn_4 : decode cX3_lengthIn 4 = .ok (.iload_n 0, 1) := by decide +kernel
theorem dX3_lengthIn_5 : decode cX3_lengthIn 5 = .ok (.sipush 255, 3) := by decide +kernel
theorem dX3_lengthIn_8 : decode cX3_lengthIn 8 = .ok (.iand, 1) := by decide +kernel
theorem dX3_lengthIn_9 : decode cX3_lengthIn 9 = .ok (.goto 11, 3) := by decide +kernel
theorem dX3_lengthIn_12 : decode cX3_lengthIn 12 = .ok (.iload_n 0, 1) := by decide +kernel
theorem dX3_lengthIn_13 : decode cX3_lengthIn 13 = .ok (.bipush 8, 2) := by decide +kernel
theorem dX3_lengthIn_15 : decode cX3_lengthIn 15 = .ok (.ishr, 1) := by decide +kernel
theorem dX3_lengthIn_16 : decode cX3_lengthIn 16 = .ok (.sipush 255, 3) := by decide +kernel
theorem dX3_lengthIn_19 : decode cX3_lengthIn 19 = .ok (.iand, 1) := by decide +kernel
theorem dX3_lengthIn_20 : decode cX3_lengthIn 20 = .ok (.ireturn, 1) := by decide +kernel
theorem dX3_worthIn_0 : decode cX3_worthIn 0 = .ok (.iload_n 0, 1) := by decide +kernel
theorem dX3_worthIn_1 : decode cX3_worthIn 1 = .ok (.bipush 16, 2) := by decide +kernel
theorem dX3_worthIn_3 : decode cX3_worthIn 3 = .ok (.ishr, 1) := by decide +kernel
theorem dX3_worthIn_4 : decode cX3_worthIn 4 = .ok (.sipush 255, 3) := by decide +kernel
theorem dX3_worthIn_7 : decode cX3_worthIn 7 = .ok (.iand, 1) := by decide +kernel
theorem dX3_worthIn_8 : decode cX3_worthIn 8 = .ok (.ireturn, 1) := by decide +kernel
theorem dX3_isWon_0 : decode cX3_isWon 0 = .ok (.iload_n 0, 1) := by decide +kernel
theorem dX3_isWon_1 : decode cX3_isWon 1 = .ok (.iconst 1, 1) := by decide +kernel
theorem dX3_isWon_2 : decode cX3_isWon 2 = .ok (.iand, 1) := by decide +kernel
theorem dX3_isWon_3 : decode cX3_isWon 3 = .ok (.iload_n 1, 1) := by decide +kernel
theorem dX3_isWon_4 : decode cX3_isWon 4 = .ok (.if_icmp .ne 7, 3) := by decide +kernel
theorem dX3_isWon_7 : decode cX3_isWon 7 = .ok (.iconst 1, 1) := by decide +kernel
theorem dX3_isWon_8 : decode cX3_isWon 8 = .ok (.goto 4, 3) := by decide +kernel
theorem dX3_isWon_11 : decode cX3_isWon 11 = .ok (.iconst 0, 1) := by decide +kernel
theorem dX3_isWon_12 : decode cX3_isWon 12 = .ok (.ireturn, 1) := by decide +kernel
