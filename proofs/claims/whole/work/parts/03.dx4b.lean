set_option maxRecDepth 20000 in
theorem ggX4_below_X4_isThing : GoodIn wsX4_below wsX4_isThing := goodIn_r _ [7, 2, 8, 9, 10, 6, 11, 12, 13, 14, 15, 16, 17, 18, 19, 20, 44, 45, 46, 47, 48, 49, 50, 51, 52, 53, 54, 55, 56, 57, 58, 59, 60, 61, 62, 63, 64] (by decide +kernel) (by decide +kernel)
set_option maxRecDepth 20000 in
theorem gX4_below_X4_isThing : GoodIn wsX4_below (wsV RX4 143 RX4 yX4_isThing wsX4_isThing) := goodIn_app (goodIn_of _ (by decide +kernel)) ggX4_below_X4_isThing
set_option maxRecDepth 20000 in
theorem ggX4_below_X4_lies : GoodIn wsX4_below wsX4_lies := goodIn_r _ [24, 1, 25, 26, 6, 27, 44, 45, 46, 47, 48, 49, 50, 51, 52, 53, 54, 55, 56, 57, 58, 59, 60, 61, 62, 63, 64] (by decide +kernel) (by decide +kernel)
set_option maxRecDepth 20000 in
theorem gX4_below_X4_lies : GoodIn wsX4_below (wsV RX4 146 RX4 yX4_lies wsX4_lies) := goodIn_app (goodIn_of _ (by decide +kernel)) ggX4_below_X4_lies
set_option maxRecDepth 20000 in
theorem ggX4_below_X4_placeOf : GoodIn wsX4_below wsX4_placeOf := goodIn_r _ [27] (by decide +kernel) (by decide +kernel)
set_option maxRecDepth 20000 in
theorem gX4_below_X4_placeOf : GoodIn wsX4_below (va_wsS RX4 91 yX4_placeOf wsX4_placeOf) := goodIn_app (goodIn_of _ (by decide +kernel)) ggX4_below_X4_placeOf
set_option maxRecDepth 20000 in
theorem ggX4_below_X4_bits : GoodIn wsX4_below wsX4_bits := goodIn_r _ [30] (by decide +kernel) (by decide +kernel)
set_option maxRecDepth 20000 in
theorem gX4_below_X4_bits : GoodIn wsX4_below (va_wsS RX4 150 yX4_bits wsX4_bits) := goodIn_app (goodIn_of _ (by decide +kernel)) ggX4_below_X4_bits
set_option maxRecDepth 20000 in
theorem ggX4_below_X4_again : GoodIn wsX4_below wsX4_again := goodIn_r _ [34, 35, 36, 37, 38, 39, 40, 6, 41, 12, 2, 42, 43, 44, 45, 46, 47, 48, 49, 50, 51, 52, 53, 54, 55, 56, 57, 58, 59, 60, 61, 62, 63, 64] (by decide +kernel) (by decide +kernel)
set_option maxRecDepth 20000 in
theorem gX4_below_X4_again : GoodIn wsX4_below (wsV RX4 140 RX4 yX4_again wsX4_again) := goodIn_app (goodIn_of _ (by decide +kernel)) ggX4_below_X4_again
theorem dX4_below_0 : decode cX4_below 0 = .ok (.aload_n 0, 1) := by decide +kernel
theorem dX4_below_1 : decode cX4_below 1 = .ok (.iload_n 1, 1) := by decide +kernel
theorem dX4_below_2 : decode cX4_below 2 = .ok (.iload_n 2, 1) := by decide +kernel
theorem dX4_below_3 : decode cX4_below 3 = .ok (.invokevirtual 143, 3) := by decide +kernel
theorem dX4_below_6 : decode cX4_below 6 = .ok (.ifCond .eq 12, 3) := by decide +kernel
theorem dX4_below_9 : decode cX4_below 9 = .ok (.aload_n 0, 1) := by decide +kernel
theorem dX4_below_10 : decode cX4_below 10 = .ok (.iload_n 1, 1) := by decide +kernel
theorem dX4_below_11 : decode cX4_below 11 = .ok (.iload_n 3, 1) := by decide +kernel
theorem dX4_below_12 : decode cX4_below 12 = .ok (.invokevirtual 143, 3) := by decide +kernel
theorem dX4_below_15 : decode cX4_below 15 = .ok (.ifCond .ne 7, 3) := by decide +kernel
theorem dX4_below_18 : decode cX4_below 18 = .ok (.sipush (-1001), 3) := by decide +kernel
theorem dX4_below_21 : decode cX4_below 21 = .ok (.ireturn, 1) := by decide +kernel
theorem dX4_below_22 : decode cX4_below 22 = .ok (.iload_n 2, 1) := by decide +kernel
theorem dX4_below_23 : decode cX4_below 23 = .ok (.iload_n 3, 1) := by decide +kernel
theorem dX4_below_24 : decode cX4_below 24 = .ok (.if_icmp .eq 13, 3) := by decide +kernel
theorem dX4_below_27 : decode cX4_below 27 = .ok (.aload_n 0, 1) := by decide +kernel
theorem dX4_below_28 : decode cX4_below 28 = .ok (.iload_n 1, 1) := by decide +kernel
theorem dX4_below_29 : decode cX4_below 29 = .ok (.iload_n 3, 1) := by decide +kernel
theorem dX4_below_30 : decode cX4_below 30 = .ok (.iload_n 2, 1) := by decide +kernel
theorem dX4_below_31 : decode cX4_below 31 = .ok (.invokevirtual 146, 3) := by decide +kernel
theorem dX4_below_34 : decode cX4_below 34 = .ok (.ifCond .eq 7, 3) := by decide +kernel
theorem dX4_below_37 : decode cX4_below 37 = .ok (.sipush (-1003), 3) := by decide +kernel
theorem dX4_below_40 : decode cX4_below 40 = .ok (.ireturn, 1) := by decide +kernel
theorem dX4_below_41 : decode cX4_below 41 = .ok (.iconst 1, 1) := by decide +kernel
theorem dX4_below_42 : decode cX4_below 42 = .ok (.iload_n 3, 1) := by decide +kernel
theorem dX4_below_43 : decode cX4_below 43 = .ok (.ishl, 1) := by decide +kernel
theorem dX4_below_44 : decode cX4_below 44 = .ok (.aload_n 0, 1) := by decide +kernel
theorem dX4_below_45 : decode cX4_below 45 = .ok (.getfield 22, 3) := by decide +kernel
theorem dX4_below_48 : decode cX4_below 48 = .ok (.iload_n 1, 1) := by decide +kernel
theorem dX4_below_49 : decode cX4_below 49 = .ok (.iload_n 3, 1) := by decide +kernel
theorem dX4_below_50 : decode cX4_below 50 = .ok (.invokestatic 91, 3) := by decide +kernel
theorem dX4_below_53 : decode cX4_below 53 = .ok (.iaload, 1) := by decide +kernel
theorem dX4_below_54 : decode cX4_below 54 = .ok (.ior, 1) := by decide +kernel
theorem dX4_below_55 : decode cX4_below 55 = .ok (.istore 4, 2) := by decide +kernel
theorem dX4_below_57 : decode cX4_below 57 = .ok (.iconst 0, 1) := by decide +kernel
theorem dX4_below_58 : decode cX4_below 58 = .ok (.istore 5, 2) := by decide +kernel
theorem dX4_below_60 : decode cX4_below 60 = .ok (.iconst 0, 1) := by decide +kernel
theorem dX4_below_61 : decode cX4_below 61 = .ok (.istore 6, 2) := by decide +kernel
theorem dX4_below_63 : decode cX4_below 63 = .ok (.iload 6, 2) := by decide +kernel
theorem dX4_below_65 : decode cX4_below 65 = .ok (.aload_n 0, 1) := by decide +kernel
theorem dX4_below_66 : decode cX4_below 66 = .ok (.getfield 19, 3) := by decide +kernel
theorem dX4_below_69 : decode cX4_below 69 = .ok (.iload_n 1, 1) := by decide +kernel
theorem dX4_below_70 : decode cX4_below 70 = .ok (.iaload, 1) := by decide +kernel
theorem dX4_below_71 : decode cX4_below 71 = .ok (.if_icmp .ge 61, 3) := by decide +kernel
theorem dX4_below_74 : decode cX4_below 74 = .ok (.iload 6, 2) := by decide +kernel
theorem dX4_below_76 : decode cX4_below 76 = .ok (.iload_n 2, 1) := by decide +kernel
theorem dX4_below_77 : decode cX4_below 77 = .ok (.if_icmp .eq 14, 3) := by decide +kernel
theorem dX4_below_80 : decode cX4_below 80 = .ok (.aload_n 0, 1) := by decide +kernel
theorem dX4_below_81 : decode cX4_below 81 = .ok (.iload_n 1, 1) := by decide +kernel
theorem dX4_below_82 : decode cX4_below 82 = .ok (.iload 6, 2) := by decide +kernel
theorem dX4_below_84 : decode cX4_below 84 = .ok (.iload_n 2, 1) := by decide +kernel
theorem dX4_below_85 : decode cX4_below 85 = .ok (.invokevirtual 146, 3) := by decide +kernel
theorem dX4_below_88 : decode cX4_below 88 = .ok (.ifCond .eq 19, 3) := by decide +kernel
theorem dX4_below_91 : decode cX4_below 91 = .ok (.aload_n 0, 1) := by decide +kernel
theorem dX4_below_92 : decode cX4_below 92 = .ok (.getfield 22, 3) := by decide +kernel
theorem dX4_below_95 : decode cX4_below 95 = .ok (.iload_n 1, 1) := by decide +kernel
theorem dX4_below_96 : decode cX4_below 96 = .ok (.iload 6, 2) := by decide +kernel
theorem dX4_below_98 : decode cX4_below 98 = .ok (.invokestatic 91, 3) := by decide +kernel
theorem dX4_below_101 : decode cX4_below 101 = .ok (.dup2, 1) := by decide +kernel
theorem dX4_below_102 : decode cX4_below 102 = .ok (.iaload, 1) := by decide +kernel
theorem dX4_below_103 : decode cX4_below 103 = .ok (.iload 4, 2) := by decide +kernel
theorem dX4_below_105 : decode cX4_below 105 = .ok (.ior, 1) := by decide +kernel
theorem dX4_below_106 : decode cX4_below 106 = .ok (.iastore, 1) := by decide +kernel
theorem dX4_below_107 : decode cX4_below 107 = .ok (.iload 5, 2) := by decide +kernel
theorem dX4_below_109 : decode cX4_below 109 = .ok (.aload_n 0, 1) := by decide +kernel
theorem dX4_below_110 : decode cX4_below 110 = .ok (.getfield 22, 3) := by decide +kernel
theorem dX4_below_113 : decode cX4_below 113 = .ok (.iload_n 1, 1) := by decide +kernel
theorem dX4_below_114 : decode cX4_below 114 = .ok (.iload 6, 2) := by decide +kernel
theorem dX4_below_116 : decode cX4_below 116 = .ok (.invokestatic 91, 3) := by decide +kernel
theorem dX4_below_119 : decode cX4_below 119 = .ok (.iaload, 1) := by decide +kernel
theorem dX4_below_120 : decode cX4_below 120 = .ok (.invokestatic 150, 3) := by decide +kernel
theorem dX4_below_123 : decode cX4_below 123 = .ok (.iadd, 1) := by decide +kernel
theorem dX4_below_124 : decode cX4_below 124 = .ok (.istore 5, 2) := by decide +kernel
theorem dX4_below_126 : decode cX4_below 126 = .ok (.iinc 6 1, 3) := by decide +kernel
theorem dX4_below_129 : decode cX4_below 129 = .ok (.goto (-66), 3) := by decide +kernel
theorem dX4_below_132 : decode cX4_below 132 = .ok (.aload_n 0, 1) := by decide +kernel
theorem dX4_below_133 : decode cX4_below 133 = .ok (.iload_n 1, 1) := by decide +kernel
theorem dX4_below_134 : decode cX4_below 134 = .ok (.invokevirtual 140, 3) := by decide +kernel
theorem dX4_below_137 : decode cX4_below 137 = .ok (.iload 5, 2) := by decide +kernel
theorem dX4_below_139 : decode cX4_below 139 = .ok (.ireturn, 1) := by decide +kernel
set_option maxRecDepth 20000 in
theorem ggX4_post_X4_isOf : GoodIn wsX4_post wsX4_isOf := goodIn_r _ [6, 7, 8, 9, 10, 5, 11, 12, 13, 14, 15, 29, 30, 31, 32, 33, 34, 35, 36, 37, 38, 39, 40, 41, 42, 43, 44, 45, 46, 47, 48, 49] (by decide +kernel) (by decide +kernel)
set_option maxRecDepth 20000 in
theorem gX4_post_X4_isOf : GoodIn wsX4_post (wsV RX4 131 RX4 yX4_isOf wsX4_isOf) := goodIn_app (goodIn_of _ (by decide +kernel)) ggX4_post_X4_isOf
set_option maxRecDepth 20000 in
theorem ggX4_post_X4_again : GoodIn wsX4_post wsX4_again := goodIn_r _ [19, 20, 21, 22, 23, 24, 25, 5, 26, 7, 27, 1, 28, 29, 30, 31, 32, 33, 34, 35, 36, 37, 38, 39, 40, 41, 42, 43, 44, 45, 46, 47, 48, 49] (by decide +kernel) (by decide +kernel)
set_option maxRecDepth 20000 in
theorem gX4_post_X4_again : GoodIn wsX4_post (wsV RX4 140 RX4 yX4_again wsX4_again) := goodIn_app (goodIn_of _ (by decide +kernel)) ggX4_post_X4_again
theorem dX4_post_0 : decode cX4_post 0 = .ok (.aload_n 0, 1) := by decide +kernel
theorem dX4_post_1 : decode cX4_post 1 = .ok (.iload_n 1, 1) := by decide +kernel
theorem dX4_post_2 : decode cX4_post 2 = .ok (.iconst 2, 1) := by decide +kernel
theorem dX4_post_3 : decode cX4_post 3 = .ok (.invokevirtual 131, 3) := by decide +kernel
theorem dX4_post_6 : decode cX4_post 6 = .ok (.ifCond .ne 7, 3) := by decide +kernel
theorem dX4_post_9 : decode cX4_post 9 = .ok (.sipush (-1001), 3) := by decide +kernel
theorem dX4_post_12 : decode cX4_post 12 = .ok (.ireturn, 1) := by decide +kernel
theorem dX4_post_13 : decode cX4_post 13 = .ok (.aload_n 0, 1) := by decide +kernel
theorem dX4_post_14 : decode cX4_post 14 = .ok (.getfield 25, 3) := by decide +kernel
theorem dX4_post_17 : decode cX4_post 17 = .ok (.iload_n 1, 1) := by decide +kernel
theorem dX4_post_18 : decode cX4_post 18 = .ok (.iaload, 1) := by decide +kernel
theorem dX4_post_19 : decode cX4_post 19 = .ok (.bipush 6, 2) := by decide +kernel
theorem dX4_post_21 : decode cX4_post 21 = .ok (.if_icmp .ne 7, 3) := by decide +kernel
theorem dX4_post_24 : decode cX4_post 24 = .ok (.sipush (-1004), 3) := by decide +kernel
theorem dX4_post_27 : decode cX4_post 27 = .ok (.ireturn, 1) := by decide +kernel
theorem dX4_post_28 : decode cX4_post 28 = .ok (.aload_n 0, 1) := by decide +kernel
theorem dX4_post_29 : decode cX4_post 29 = .ok (.getfield 25, 3) := by decide +kernel
theorem dX4_post_32 : decode cX4_post 32 = .ok (.iload_n 1, 1) := by decide +kernel
theorem dX4_post_33 : decode cX4_post 33 = .ok (.dup2, 1) := by decide +kernel
theorem dX4_post_34 : decode cX4_post 34 = .ok (.iaload, 1) := by decide +kernel
theorem dX4_post_35 : decode cX4_post 35 = .ok (.iconst 1, 1) := by decide +kernel
theorem dX4_post_36 : decode cX4_post 36 = .ok (.iadd, 1) := by decide +kernel
theorem dX4_post_37 : decode cX4_post 37 = .ok (.iastore, 1) := by decide +kernel
theorem dX4_post_38 : decode cX4_post 38 = .ok (.aload_n 0, 1) := by decide +kernel
theorem dX4_post_39 : decode cX4_post 39 = .ok (.iload_n 1, 1) := by decide +kernel
theorem dX4_post_40 : decode cX4_post 40 = .ok (.invokevirtual 140, 3) := by decide +kernel
theorem dX4_post_43 : decode cX4_post 43 = .ok (.aload_n 0, 1) := by decide +kernel
theorem dX4_post_44 : decode cX4_post 44 = .ok (.getfield 25, 3) := by decide +kernel
theorem dX4_post_47 : decode cX4_post 47 = .ok (.iload_n 1, 1) := by decide +kernel
theorem dX4_post_48 : decode cX4_post 48 = .ok (.iaload, 1) := by decide +kernel
theorem dX4_post_49 : decode cX4_post 49 = .ok (.iconst 1, 1) := by decide +kernel
theorem dX4_post_50 : decode cX4_post 50 = .ok (.isub, 1) := by decide +kernel
theorem dX4_post_51 : decode cX4_post 51 = .ok (.ireturn, 1) := by decide +kernel
set_option maxRecDepth 20000 in
theorem ggX4_road_X4_isOf : GoodIn wsX4_road wsX4_isOf := goodIn_r _ [8, 9, 10, 11, 12, 7, 13, 14, 15, 16, 17, 30, 31, 32, 33, 34, 35, 36, 37, 38, 39, 40, 41, 42, 43, 44, 45, 46, 47, 48, 49, 50] (by decide +kernel) (by decide +kernel)
set_option maxRecDepth 20000 in
theorem gX4_road_X4_isOf : GoodIn wsX4_road (wsV RX4 131 RX4 yX4_isOf wsX4_isOf) := goodIn_app (goodIn_of _ (by decide +kernel)) ggX4_road_X4_isOf
set_option maxRecDepth 20000 in
theorem ggX4_road_X4_in : GoodIn wsX4_road wsX4_in := goodIn_r _ [17] (by decide +kernel) (by decide +kernel)
set_option maxRecDepth 20000 in
theorem gX4_road_X4_in : GoodIn wsX4_road (va_wsS RX4 111 yX4_in wsX4_in) := goodIn_app (goodIn_of _ (by decide +kernel)) ggX4_road_X4_in
set_option maxRecDepth 20000 in
theorem ggX4_road_X4_again : GoodIn wsX4_road wsX4_again := goodIn_r _ [21, 22, 23, 24, 25, 26, 27, 7, 28, 9, 29, 1, 2, 30, 31, 32, 33, 34, 35, 36, 37, 38, 39, 40, 41, 42, 43, 44, 45, 46, 47, 48, 49, 50] (by decide +kernel) (by decide +kernel)
set_option maxRecDepth 20000 in
theorem gX4_road_X4_again : GoodIn wsX4_road (wsV RX4 140 RX4 yX4_again wsX4_again) := goodIn_app (goodIn_of _ (by decide +kernel)) ggX4_road_X4_again
theorem dX4_road_0 : decode cX4_road 0 = .ok (.aload_n 0, 1) := by decide +kernel
theorem dX4_road_1 : decode cX4_road 1 = .ok (.iload_n 1, 1) := by decide +kernel
theorem dX4_road_2 : decode cX4_road 2 = .ok (.iconst 2, 1) := by decide +kernel
theorem dX4_road_3 : decode cX4_road 3 = .ok (.invokevirtual 131, 3) := by decide +kernel
theorem dX4_road_6 : decode cX4_road 6 = .ok (.ifCond .eq 39, 3) := by decide +kernel
theorem dX4_road_9 : decode cX4_road 9 = .ok (.iload_n 2, 1) := by decide +kernel
theorem dX4_road_10 : decode cX4_road 10 = .ok (.i2l, 1) := by decide +kernel
theorem dX4_road_11 : decode cX4_road 11 = .ok (.lconst 0, 1) := by decide +kernel
theorem dX4_road_12 : decode cX4_road 12 = .ok (.aload_n 0, 1) := by decide +kernel
theorem dX4_road_13 : decode cX4_road 13 = .ok (.getfield 25, 3) := by decide +kernel
theorem dX4_road_16 : decode cX4_road 16 = .ok (.iload_n 1, 1) := by decide +kernel
theorem dX4_road_17 : decode cX4_road 17 = .ok (.iaload, 1) := by decide +kernel
theorem dX4_road_18 : decode cX4_road 18 = .ok (.iconst 1, 1) := by decide +kernel
theorem dX4_road_19 : decode cX4_road 19 = .ok (.isub, 1) := by decide +kernel
theorem dX4_road_20 : decode cX4_road 20 = .ok (.i2l, 1) := by decide +kernel
theorem dX4_road_21 : decode cX4_road 21 = .ok (.invokestatic 111, 3) := by decide +kernel
theorem dX4_road_24 : decode cX4_road 24 = .ok (.ifCond .eq 21, 3) := by decide +kernel
theorem dX4_road_27 : decode cX4_road 27 = .ok (.iload_n 3, 1) := by decide +kernel
theorem dX4_road_28 : decode cX4_road 28 = .ok (.i2l, 1) := by decide +kernel
theorem dX4_road_29 : decode cX4_road 29 = .ok (.lconst 0, 1) := by decide +kernel
theorem dX4_road_30 : decode cX4_road 30 = .ok (.aload_n 0, 1) := by decide +kernel
theorem dX4_road_31 : decode cX4_road 31 = .ok (.getfield 25, 3) := by decide +kernel
theorem dX4_road_34 : decode cX4_road 34 = .ok (.iload_n 1, 1) := by decide +kernel
theorem dX4_road_35 : decode cX4_road 35 = .ok (.iaload, 1) := by decide +kernel
theorem dX4_road_36 : decode cX4_road 36 = .ok (.iconst 1, 1) := by decide +kernel
theorem dX4_road_37 : decode cX4_road 37 = .ok (.isub, 1) := by decide +kernel
theorem dX4_road_38 : decode cX4_road 38 = .ok (.i2l, 1) := by decide +kernel
theorem dX4_road_39 : decode cX4_road 39 = .ok (.invokestatic 111, 3) := by decide +kernel
theorem dX4_road_42 : decode cX4_road 42 = .ok (.ifCond .ne 7, 3) := by decide +kernel
theorem dX4_road_45 : decode cX4_road 45 = .ok (.sipush (-1001), 3) := by decide +kernel
theorem dX4_road_48 : decode cX4_road 48 = .ok (.ireturn, 1) := by decide +kernel
theorem dX4_road_49 : decode cX4_road 49 = .ok (.iload_n 2, 1) := by decide +kernel
theorem dX4_road_50 : decode cX4_road 50 = .ok (.iload_n 3, 1) := by decide +kernel
theorem dX4_road_51 : decode cX4_road 51 = .ok (.if_icmp .ne 7, 3) := by decide +kernel
theorem dX4_road_54 : decode cX4_road 54 = .ok (.sipush (-1003), 3) := by decide +kernel
theorem dX4_road_57 : decode cX4_road 57 = .ok (.ireturn, 1) := by decide +kernel
theorem dX4_road_58 : decode cX4_road 58 = .ok (.aload_n 0, 1) := by decide +kernel
theorem dX4_road_59 : decode cX4_road 59 = .ok (.getfield 28, 3) := by decide +kernel
theorem dX4_road_62 : decode cX4_road 62 = .ok (.iload_n 1, 1) := by decide +kernel
theorem dX4_road_63 : decode cX4_road 63 = .ok (.iaload, 1) := by decide +kernel
theorem dX4_road_64 : decode cX4_road 64 = .ok (.bipush 9, 2) := by decide +kernel
theorem dX4_road_66 : decode cX4_road 66 = .ok (.if_icmp .ne 7, 3) := by decide +kernel
theorem dX4_road_69 : decode cX4_road 69 = .ok (.sipush (-1004), 3) := by decide +kernel
theorem dX4_road_72 : decode cX4_road 72 = .ok (.ireturn, 1) := by decide +kernel
theorem dX4_road_73 : decode cX4_road 73 = .ok (.aload_n 0, 1) := by decide +kernel
theorem dX4_road_74 : decode cX4_road 74 = .ok (.getfield 31, 3) := by decide +kernel
theorem dX4_road_77 : decode cX4_road 77 = .ok (.bipush 18, 2) := by decide +kernel
theorem dX4_road_79 : decode cX4_road 79 = .ok (.iload_n 1, 1) := by decide +kernel
theorem dX4_road_80 : decode cX4_road 80 = .ok (.imul, 1) := by decide +kernel
theorem dX4_road_81 : decode cX4_road 81 = .ok (.iconst 2, 1) := by decide +kernel
theorem dX4_road_82 : decode cX4_road 82 = .ok (.aload_n 0, 1) := by decide +kernel
theorem dX4_road_83 : decode cX4_road 83 = .ok (.getfield 28, 3) := by decide +kernel
theorem dX4_road_86 : decode cX4_road 86 = .ok (.iload_n 1, 1) := by decide +kernel
theorem dX4_road_87 : decode cX4_road 87 = .ok (.iaload, 1) := by decide +kernel
theorem dX4_road_88 : decode cX4_road 88 = .ok (.imul, 1) := by decide +kernel
theorem dX4_road_89 : decode cX4_road 89 = .ok (.iadd, 1) := by decide +kernel
theorem dX4_road_90 : decode cX4_road 90 = .ok (.iload_n 2, 1) := by decide +kernel
theorem dX4_road_91 : decode cX4_road 91 = .ok (.iastore, 1) := by decide +kernel
theorem dX4_road_92 : decode cX4_road 92 = .ok (.aload_n 0, 1) := by decide +kernel
theorem dX4_road_93 : decode cX4_road 93 = .ok (.getfield 31, 3) := by decide +kernel
theorem dX4_road_96 : decode cX4_road 96 = .ok (.bipush 18, 2) := by decide +kernel
theorem dX4_road_98 : decode cX4_road 98 = .ok (.iload_n 1, 1) := by decide +kernel
theorem dX4_road_99 : decode cX4_road 99 = .ok (.imul, 1) := by decide +kernel
theorem dX4_road_100 : decode cX4_road 100 = .ok (.iconst 2, 1) := by decide +kernel
theorem dX4_road_101 : decode cX4_road 101 = .ok (.aload_n 0, 1) := by decide +kernel
theorem dX4_road_102 : decode cX4_road 102 = .ok (.getfield 28, 3) := by decide +kernel
theorem dX4_road_105 : decode cX4_road 105 = .ok (.iload_n 1, 1) := by decide +kernel
theorem dX4_road_106 : decode cX4_road 106 = .ok (.iaload, 1) := by decide +kernel
theorem dX4_road_107 : decode cX4_road 107 = .ok (.imul, 1) := by decide +kernel
theorem dX4_road_108 : decode cX4_road 108 = .ok (.iadd, 1) := by decide +kernel
theorem dX4_road_109 : decode cX4_road 109 = .ok (.iconst 1, 1) := by decide +kernel
theorem dX4_road_110 : decode cX4_road 110 = .ok (.iadd, 1) := by decide +kernel
theorem dX4_road_111 : decode cX4_road 111 = .ok (.iload_n 3, 1) := by decide +kernel
theorem dX4_road_112 : decode cX4_road 112 = .ok (.iastore, 1) := by decide +kernel
theorem dX4_road_113 : decode cX4_road 113 = .ok (.aload_n 0, 1) := by decide +kernel
theorem dX4_road_114 : decode cX4_road 114 = .ok (.getfield 28, 3) := by decide +kernel
theorem dX4_road_117 : decode cX4_road 117 = .ok (.iload_n 1, 1) := by decide +kernel
theorem dX4_road_118 : decode cX4_road 118 = .ok (.dup2, 1) := by decide +kernel
theorem dX4_road_119 : decode cX4_road 119 = .ok (.iaload, 1) := by decide +kernel
theorem dX4_road_120 : decode cX4_road 120 = .ok (.iconst 1, 1) := by decide +kernel
theorem dX4_road_121 : decode cX4_road 121 = .ok (.iadd, 1) := by decide +kernel
theorem dX4_road_122 : decode cX4_road 122 = .ok (.iastore, 1) := by decide +kernel
theorem dX4_road_123 : decode cX4_road 123 = .ok (.aload_n 0, 1) := by decide +kernel
theorem dX4_road_124 : decode cX4_road 124 = .ok (.iload_n 1, 1) := by decide +kernel
theorem dX4_road_125 : decode cX4_road 125 = .ok (.invokevirtual 140, 3) := by decide +kernel
theorem dX4_road_128 : decode cX4_road 128 = .ok (.aload_n 0, 1) := by decide +kernel
theorem dX4_road_129 : decode cX4_road 129 = .ok (.getfield 28, 3) := by decide +kernel
theorem dX4_road_132 : decode cX4_road 132 = .ok (.iload_n 1, 1) := by decide +kernel
theorem dX4_road_133 : decode cX4_road 133 = .ok (.iaload, 1) := by decide +kernel
theorem dX4_road_134 : decode cX4_road 134 = .ok (.iconst 1, 1) := by decide +kernel
theorem dX4_road_135 : decode cX4_road 135 = .ok (.isub, 1) := by decide +kernel
theorem dX4_road_136 : decode cX4_road 136 = .ok (.ireturn, 1) := by decide +kernel
set_option maxRecDepth 20000 in
theorem ggX4_rule_X4_isGame : GoodIn wsX4_rule wsX4_isGame := goodIn_r _ [7, 8, 9, 10, 6, 11, 15, 16, 17, 18, 19, 20, 21, 22, 23, 24, 25, 26, 27, 28, 29, 30, 31, 32, 33, 34, 35] (by decide +kernel) (by decide +kernel)
set_option maxRecDepth 20000 in
theorem gX4_rule_X4_isGame : GoodIn wsX4_rule (wsV RX4 128 RX4 yX4_isGame wsX4_isGame) := goodIn_app (goodIn_of _ (by decide +kernel)) ggX4_rule_X4_isGame
set_option maxRecDepth 20000 in
theorem ggX4_rule_X4_isRule : GoodIn wsX4_rule wsX4_isRule := goodIn_r _ [14, 9, 10, 6, 11] (by decide +kernel) (by decide +kernel)
set_option maxRecDepth 20000 in
theorem gX4_rule_X4_isRule : GoodIn wsX4_rule (va_wsS RX4 117 yX4_isRule wsX4_isRule) := goodIn_app (goodIn_of _ (by decide +kernel)) ggX4_rule_X4_isRule
theorem dX4_rule_0 : decode cX4_rule 0 = .ok (.aload_n 0, 1) := by decide +kernel
theorem dX4_rule_1 : decode cX4_rule 1 = .ok (.iload_n 1, 1) := by decide +kernel
theorem dX4_rule_2 : decode cX4_rule 2 = .ok (.invokevirtual 128, 3) := by decide +kernel
theorem dX4_rule_5 : decode cX4_rule 5 = .ok (.ifCond .ne 7, 3) := by decide +kernel
theorem dX4_rule_8 : decode cX4_rule 8 = .ok (.sipush (-1001), 3) := by decide +kernel
theorem dX4_rule_11 : decode cX4_rule 11 = .ok (.ireturn, 1) := by decide +kernel
theorem dX4_rule_12 : decode cX4_rule 12 = .ok (.iload_n 2, 1) := by decide +kernel
theorem dX4_rule_13 : decode cX4_rule 13 = .ok (.invokestatic 117, 3) := by decide +kernel
theorem dX4_rule_16 : decode cX4_rule 16 = .ok (.ifCond .ne 7, 3) := by decide +kernel
theorem dX4_rule_19 : decode cX4_rule 19 = .ok (.sipush (-1002), 3) := by decide +kernel
theorem dX4_rule_22 : decode cX4_rule 22 = .ok (.ireturn, 1) := by decide +kernel
theorem dX4_rule_23 : decode cX4_rule 23 = .ok (.aload_n 0, 1) := by decide +kernel
theorem dX4_rule_24 : decode cX4_rule 24 = .ok (.getfield 13, 3) := by decide +kernel
theorem dX4_rule_27 : decode cX4_rule 27 = .ok (.iload_n 1, 1) := by decide +kernel
theorem dX4_rule_28 : decode cX4_rule 28 = .ok (.iaload, 1) := by decide +kernel
theorem dX4_rule_29 : decode cX4_rule 29 = .ok (.istore_n 3, 1) := by decide +kernel
theorem dX4_rule_30 : decode cX4_rule 30 = .ok (.aload_n 0, 1) := by decide +kernel
theorem dX4_rule_31 : decode cX4_rule 31 = .ok (.getfield 13, 3) := by decide +kernel
theorem dX4_rule_34 : decode cX4_rule 34 = .ok (.iload_n 1, 1) := by decide +kernel
theorem dX4_rule_35 : decode cX4_rule 35 = .ok (.iload_n 2, 1) := by decide +kernel
theorem dX4_rule_36 : decode cX4_rule 36 = .ok (.iastore, 1) := by decide +kernel
theorem dX4_rule_37 : decode cX4_rule 37 = .ok (.aload_n 0, 1) := by decide +kernel
theorem dX4_rule_38 : decode cX4_rule 38 = .ok (.aload_n 0, 1) := by decide +kernel
theorem dX4_rule_39 : decode cX4_rule 39 = .ok (.getfield 43, 3) := by decide +kernel
theorem dX4_rule_42 : decode cX4_rule 42 = .ok (.iload_n 1, 1) := by decide +kernel
theorem dX4_rule_43 : decode cX4_rule 43 = .ok (.if_icmp .ne 7, 3) := by decide +kernel
theorem dX4_rule_46 : decode cX4_rule 46 = .ok (.iconst (-1), 1) := by decide +kernel
theorem dX4_rule_47 : decode cX4_rule 47 = .ok (.goto 7, 3) := by decide +kernel
theorem dX4_rule_50 : decode cX4_rule 50 = .ok (.aload_n 0, 1) := by decide +kernel
theorem dX4_rule_51 : decode cX4_rule 51 = .ok (.getfield 43, 3) := by decide +kernel
theorem dX4_rule_54 : decode cX4_rule 54 = .ok (.putfield 43, 3) := by decide +kernel
theorem dX4_rule_57 : decode cX4_rule 57 = .ok (.iload_n 3, 1) := by decide +kernel
theorem dX4_rule_58 : decode cX4_rule 58 = .ok (.ireturn, 1) := by decide +kernel
set_option maxRecDepth 20000 in
theorem ggX4_bitesOf_X4_findNext : GoodIn wsX4_bitesOf wsX4_findNext := goodIn_r _ [7, 2, 8, 9, 10, 11, 12, 13, 14, 15, 6, 16, 17, 18, 19, 20, 21, 22, 23, 24, 25, 26, 27, 28, 29, 30, 31, 32, 33, 34, 35, 36, 37, 38, 39, 40, 41, 42, 43, 44, 45, 46, 47, 48, 49, 50, 51, 52, 53, 54, 55, 56, 57, 58, 59, 60, 61, 62, 63] (by decide +kernel) (by decide +kernel)
set_option maxRecDepth 20000 in
theorem gX4_bitesOf_X4_findNext : GoodIn wsX4_bitesOf (wsV RX4 97 RX4 yX4_findNext wsX4_findNext) := goodIn_app (goodIn_of _ (by decide +kernel)) ggX4_bitesOf_X4_findNext
theorem dX4_bitesOf_0 : decode cX4_bitesOf 0 = .ok (.aload_n 0, 1) := by decide +kernel
theorem dX4_bitesOf_1 : decode cX4_bitesOf 1 = .ok (.iload_n 1, 1) := by decide +kernel
theorem dX4_bitesOf_2 : decode cX4_bitesOf 2 = .ok (.aload_n 0, 1) := by decide +kernel
theorem dX4_bitesOf_3 : decode cX4_bitesOf 3 = .ok (.getfield 16, 3) := by decide +kernel
theorem dX4_bitesOf_6 : decode cX4_bitesOf 6 = .ok (.iload_n 1, 1) := by decide +kernel
theorem dX4_bitesOf_7 : decode cX4_bitesOf 7 = .ok (.iaload, 1) := by decide +kernel
theorem dX4_bitesOf_8 : decode cX4_bitesOf 8 = .ok (.invokevirtual 97, 3) := by decide +kernel
theorem dX4_bitesOf_11 : decode cX4_bitesOf 11 = .ok (.aload_n 0, 1) := by decide +kernel
theorem dX4_bitesOf_12 : decode cX4_bitesOf 12 = .ok (.getfield 74, 3) := by decide +kernel
theorem dX4_bitesOf_15 : decode cX4_bitesOf 15 = .ok (.ireturn, 1) := by decide +kernel
set_option maxRecDepth 20000 in
theorem ggX4_told_X4_isGame : GoodIn wsX4_told wsX4_isGame := goodIn_r _ [9, 10, 11, 12, 8, 13, 57, 58, 59, 60, 61, 62, 63, 64, 65, 66, 67, 68, 69, 70, 71, 72, 73, 74, 75, 76, 77] (by decide +kernel) (by decide +kernel)
set_option maxRecDepth 20000 in
theorem gX4_told_X4_isGame : GoodIn wsX4_told (wsV RX4 128 RX4 yX4_isGame wsX4_isGame) := goodIn_app (goodIn_of _ (by decide +kernel)) ggX4_told_X4_isGame
set_option maxRecDepth 20000 in
theorem ggX4_told_X4_bitesOf : GoodIn wsX4_told wsX4_bitesOf := goodIn_r _ [17, 4, 18, 19, 20, 21, 8, 22, 1, 23, 24, 25, 26, 27, 28, 29, 30, 31, 32, 33, 34, 35, 36, 37, 38, 39, 40, 41, 42, 43, 44, 45, 46, 47, 48, 49, 50, 51, 52, 53, 54, 55, 56, 57, 58, 59, 60, 61, 62, 63, 64, 65, 66, 67, 68, 69, 70, 71, 72, 73, 74, 75, 76, 77] (by decide +kernel) (by decide +kernel)
set_option maxRecDepth 20000 in
theorem gX4_told_X4_bitesOf : GoodIn wsX4_told (wsV RX4 137 RX4 yX4_bitesOf wsX4_bitesOf) := goodIn_app (goodIn_of _ (by decide +kernel)) ggX4_told_X4_bitesOf
theorem dX4_told_0 : decode cX4_told 0 = .ok (.aload_n 0, 1) := by decide +kernel
theorem dX4_told_1 : decode cX4_told 1 = .ok (.iload_n 1, 1) := by decide +kernel
theorem dX4_told_2 : decode cX4_told 2 = .ok (.invokevirtual 128, 3) := by decide +kernel
theorem dX4_told_5 : decode cX4_told 5 = .ok (.ifCond .ne 7, 3) := by decide +kernel
theorem dX4_told_8 : decode cX4_told 8 = .ok (.sipush (-1001), 3) := by decide +kernel
theorem dX4_told_11 : decode cX4_told 11 = .ok (.ireturn, 1) := by decide +kernel
theorem dX4_told_12 : decode cX4_told 12 = .ok (.iload_n 2, 1) := by decide +kernel
theorem dX4_told_13 : decode cX4_told 13 = .ok (.tableswitch 73 0 5 #[39, 46, 53, 53, 59, 66], 39) := by decide +kernel
theorem dX4_told_52 : decode cX4_told 52 = .ok (.aload_n 0, 1) := by decide +kernel
theorem dX4_told_53 : decode cX4_told 53 = .ok (.getfield 7, 3) := by decide +kernel
theorem dX4_told_56 : decode cX4_told 56 = .ok (.iload_n 1, 1) := by decide +kernel
theorem dX4_told_57 : decode cX4_told 57 = .ok (.iaload, 1) := by decide +kernel
theorem dX4_told_58 : decode cX4_told 58 = .ok (.ireturn, 1) := by decide +kernel
theorem dX4_told_59 : decode cX4_told 59 = .ok (.aload_n 0, 1) := by decide +kernel
theorem dX4_told_60 : decode cX4_told 60 = .ok (.getfield 13, 3) := by decide +kernel
theorem dX4_told_63 : decode cX4_told 63 = .ok (.iload_n 1, 1) := by decide +kernel
theorem dX4_told_64 : decode cX4_told 64 = .ok (.iaload, 1) := by decide +kernel
theorem dX4_told_65 : decode cX4_told 65 = .ok (.ireturn, 1) := by decide +kernel
theorem dX4_told_66 : decode cX4_told 66 = .ok (.aload_n 0, 1) := by decide +kernel
theorem dX4_told_67 : decode cX4_told 67 = .ok (.iload_n 1, 1) := by decide +kernel
theorem dX4_told_68 : decode cX4_told 68 = .ok (.invokevirtual 137, 3) := by decide +kernel
theorem dX4_told_71 : decode cX4_told 71 = .ok (.ireturn, 1) := by decide +kernel
theorem dX4_told_72 : decode cX4_told 72 = .ok (.aload_n 0, 1) := by decide +kernel
theorem dX4_told_73 : decode cX4_told 73 = .ok (.getfield 34, 3) := by decide +kernel
theorem dX4_told_76 : decode cX4_told 76 = .ok (.iload_n 1, 1) := by decide +kernel
theorem dX4_told_77 : decode cX4_told 77 = .ok (.iaload, 1) := by decide +kernel
theorem dX4_told_78 : decode cX4_told 78 = .ok (.ireturn, 1) := by decide +kernel
theorem dX4_told_79 : decode cX4_told 79 = .ok (.aload_n 0, 1) := by decide +kernel
theorem dX4_told_80 : decode cX4_told 80 = .ok (.getfield 16, 3) := by decide +kernel
theorem dX4_told_83 : decode cX4_told 83 = .ok (.iload_n 1, 1) := by decide +kernel
theorem dX4_told_84 : decode cX4_told 84 = .ok (.iaload, 1) := by decide +kernel
theorem dX4_told_85 : decode cX4_told 85 = .ok (.ireturn, 1) := by decide +kernel
theorem dX4_told_86 : decode cX4_told 86 = .ok (.sipush (-1002), 3) := by decide +kernel
theorem dX4_told_89 : decode cX4_told 89 = .ok (.ireturn, 1) := by decide +kernel
set_option maxRecDepth 20000 in
theorem ggX4_isBelow_X4_isThing : GoodIn wsX4_isBelow wsX4_isThing := goodIn_r _ [5, 6, 7, 8, 9, 4, 10, 11, 12, 13, 14, 15, 16, 17, 18, 19, 28, 29, 30, 31, 32, 33, 34, 35, 36, 37, 38, 39, 40, 41, 42, 43, 44, 45, 46, 47, 48] (by decide +kernel) (by decide +kernel)
set_option maxRecDepth 20000 in
theorem gX4_isBelow_X4_isThing : GoodIn wsX4_isBelow (wsV RX4 143 RX4 yX4_isThing wsX4_isThing) := goodIn_app (goodIn_of _ (by decide +kernel)) ggX4_isBelow_X4_isThing
set_option maxRecDepth 20000 in
theorem ggX4_isBelow_X4_lies : GoodIn wsX4_isBelow wsX4_lies := goodIn_r _ [23, 24, 25, 26, 4, 27, 28, 29, 30, 31, 32, 33, 34, 35, 36, 37, 38, 39, 40, 41, 42, 43, 44, 45, 46, 47, 48] (by decide +kernel) (by decide +kernel)
set_option maxRecDepth 20000 in
theorem gX4_isBelow_X4_lies : GoodIn wsX4_isBelow (wsV RX4 146 RX4 yX4_lies wsX4_lies) := goodIn_app (goodIn_of _ (by decide +kernel)) ggX4_isBelow_X4_lies
theorem dX4_isBelow_0 : decode cX4_isBelow 0 = .ok (.aload_n 0, 1) := by decide +kernel
theorem dX4_isBelow_1 : decode cX4_isBelow 1 = .ok (.iload_n 1, 1) := by decide +kernel
theorem dX4_isBelow_2 : decode cX4_isBelow 2 = .ok (.iload_n 2, 1) := by decide +kernel
theorem dX4_isBelow_3 : decode cX4_isBelow 3 = .ok (.invokevirtual 143, 3) := by decide +kernel
theorem dX4_isBelow_6 : decode cX4_isBelow 6 = .ok (.ifCond .eq 12, 3) := by decide +kernel
theorem dX4_isBelow_9 : decode cX4_isBelow 9 = .ok (.aload_n 0, 1) := by decide +kernel
theorem dX4_isBelow_10 : decode cX4_isBelow 10 = .ok (.iload_n 1, 1) := by decide +kernel
theorem dX4_isBelow_11 : decode cX4_isBelow 11 = .ok (.iload_n 3, 1) := by decide +kernel
theorem dX4_isBelow_12 : decode cX4_isBelow 12 = .ok (.invokevirtual 143, 3) := by decide +kernel
theorem dX4_isBelow_15 : decode cX4_isBelow 15 = .ok (.ifCond .ne 9, 3) := by decide +kernel
theorem dX4_isBelow_18 : decode cX4_isBelow 18 = .ok (.sipush (-1001), 3) := by decide +kernel
theorem dX4_isBelow_21 : decode cX4_isBelow 21 = .ok (.goto 18, 3) := by decide +kernel
theorem dX4_isBelow_24 : decode cX4_isBelow 24 = .ok (.aload_n 0, 1) := by decide +kernel
theorem dX4_isBelow_25 : decode cX4_isBelow 25 = .ok (.iload_n 1, 1) := by decide +kernel
theorem dX4_isBelow_26 : decode cX4_isBelow 26 = .ok (.iload_n 2, 1) := by decide +kernel
theorem dX4_isBelow_27 : decode cX4_isBelow 27 = .ok (.iload_n 3, 1) := by decide +kernel
theorem dX4_isBelow_28 : decode cX4_isBelow 28 = .ok (.invokevirtual 146, 3) := by decide +kernel
theorem dX4_isBelow_31 : decode cX4_isBelow 31 = .ok (.ifCond .eq 7, 3) := by decide +kernel
theorem dX4_isBelow_34 : decode cX4_isBelow 34 = .ok (.iconst 1, 1) := by decide +kernel
theorem dX4_isBelow_35 : decode cX4_isBelow 35 = .ok (.goto 4, 3) := by decide +kernel
theorem dX4_isBelow_38 : decode cX4_isBelow 38 = .ok (.iconst 0, 1) := by decide +kernel
theorem dX4_isBelow_39 : decode cX4_isBelow 39 = .ok (.ireturn, 1) := by decide +kernel
set_option maxRecDepth 20000 in
theorem ggX4_biteAt_X4_unrank : GoodIn wsX4_biteAt wsX4_unrank := goodIn_r _ [9, 3, 10, 11, 8, 12, 16, 17, 18, 19, 20, 21, 22, 23, 24, 25, 26, 27, 28, 29, 30, 31, 32, 33, 34, 35, 36] (by decide +kernel) (by decide +kernel)
set_option maxRecDepth 20000 in
theorem gX4_biteAt_X4_unrank : GoodIn wsX4_biteAt (wsV RX4 77 RX4 yX4_unrank wsX4_unrank) := goodIn_app (goodIn_of _ (by decide +kernel)) ggX4_biteAt_X4_unrank
set_option maxRecDepth 20000 in
theorem ggX4_biteAt_X4_bits : GoodIn wsX4_biteAt wsX4_bits := goodIn_r _ [15] (by decide +kernel) (by decide +kernel)
set_option maxRecDepth 20000 in
theorem gX4_biteAt_X4_bits : GoodIn wsX4_biteAt (va_wsS RX4 150 yX4_bits wsX4_bits) := goodIn_app (goodIn_of _ (by decide +kernel)) ggX4_biteAt_X4_bits
theorem dX4_biteAt_0 : decode cX4_biteAt 0 = .ok (.iload_n 2, 1) := by decide +kernel
theorem dX4_biteAt_1 : decode cX4_biteAt 1 = .ok (.istore 4, 2) := by decide +kernel
theorem dX4_biteAt_3 : decode cX4_biteAt 3 = .ok (.aload_n 0, 1) := by decide +kernel
theorem dX4_biteAt_4 : decode cX4_biteAt 4 = .ok (.getfield 7, 3) := by decide +kernel
theorem dX4_biteAt_7 : decode cX4_biteAt 7 = .ok (.iload_n 1, 1) := by decide +kernel
theorem dX4_biteAt_8 : decode cX4_biteAt 8 = .ok (.iaload, 1) := by decide +kernel
theorem dX4_biteAt_9 : decode cX4_biteAt 9 = .ok (.ifCond .ne 58, 3) := by decide +kernel
theorem dX4_biteAt_12 : decode cX4_biteAt 12 = .ok (.aload_n 0, 1) := by decide +kernel
theorem dX4_biteAt_13 : decode cX4_biteAt 13 = .ok (.aload_n 0, 1) := by decide +kernel
theorem dX4_biteAt_14 : decode cX4_biteAt 14 = .ok (.getfield 16, 3) := by decide +kernel
theorem dX4_biteAt_17 : decode cX4_biteAt 17 = .ok (.iload_n 1, 1) := by decide +kernel
theorem dX4_biteAt_18 : decode cX4_biteAt 18 = .ok (.iaload, 1) := by decide +kernel
theorem dX4_biteAt_19 : decode cX4_biteAt 19 = .ok (.invokevirtual 77, 3) := by decide +kernel
theorem dX4_biteAt_22 : decode cX4_biteAt 22 = .ok (.iconst 0, 1) := by decide +kernel
theorem dX4_biteAt_23 : decode cX4_biteAt 23 = .ok (.istore 5, 2) := by decide +kernel
theorem dX4_biteAt_25 : decode cX4_biteAt 25 = .ok (.iload 4, 2) := by decide +kernel
theorem dX4_biteAt_27 : decode cX4_biteAt 27 = .ok (.aload_n 0, 1) := by decide +kernel
theorem dX4_biteAt_28 : decode cX4_biteAt 28 = .ok (.getfield 58, 3) := by decide +kernel
theorem dX4_biteAt_31 : decode cX4_biteAt 31 = .ok (.iload 5, 2) := by decide +kernel
theorem dX4_biteAt_33 : decode cX4_biteAt 33 = .ok (.iaload, 1) := by decide +kernel
theorem dX4_biteAt_34 : decode cX4_biteAt 34 = .ok (.if_icmp .lt 21, 3) := by decide +kernel
theorem dX4_biteAt_37 : decode cX4_biteAt 37 = .ok (.iload 4, 2) := by decide +kernel
theorem dX4_biteAt_39 : decode cX4_biteAt 39 = .ok (.aload_n 0, 1) := by decide +kernel
theorem dX4_biteAt_40 : decode cX4_biteAt 40 = .ok (.getfield 58, 3) := by decide +kernel
theorem dX4_biteAt_43 : decode cX4_biteAt 43 = .ok (.iload 5, 2) := by decide +kernel
theorem dX4_biteAt_45 : decode cX4_biteAt 45 = .ok (.iaload, 1) := by decide +kernel
theorem dX4_biteAt_46 : decode cX4_biteAt 46 = .ok (.isub, 1) := by decide +kernel
theorem dX4_biteAt_47 : decode cX4_biteAt 47 = .ok (.istore 4, 2) := by decide +kernel
theorem dX4_biteAt_49 : decode cX4_biteAt 49 = .ok (.iinc 5 1, 3) := by decide +kernel
theorem dX4_biteAt_52 : decode cX4_biteAt 52 = .ok (.goto (-27), 3) := by decide +kernel
theorem dX4_biteAt_55 : decode cX4_biteAt 55 = .ok (.iload_n 3, 1) := by decide +kernel
theorem dX4_biteAt_56 : decode cX4_biteAt 56 = .ok (.ifCond .ne 8, 3) := by decide +kernel
theorem dX4_biteAt_59 : decode cX4_biteAt 59 = .ok (.iload 5, 2) := by decide +kernel
theorem dX4_biteAt_61 : decode cX4_biteAt 61 = .ok (.goto 5, 3) := by decide +kernel
theorem dX4_biteAt_64 : decode cX4_biteAt 64 = .ok (.iload 4, 2) := by decide +kernel
theorem dX4_biteAt_66 : decode cX4_biteAt 66 = .ok (.ireturn, 1) := by decide +kernel
theorem dX4_biteAt_67 : decode cX4_biteAt 67 = .ok (.iconst 0, 1) := by decide +kernel
theorem dX4_biteAt_68 : decode cX4_biteAt 68 = .ok (.istore 5, 2) := by decide +kernel
theorem dX4_biteAt_70 : decode cX4_biteAt 70 = .ok (.aload_n 0, 1) := by decide +kernel
theorem dX4_biteAt_71 : decode cX4_biteAt 71 = .ok (.getfield 16, 3) := by decide +kernel
theorem dX4_biteAt_74 : decode cX4_biteAt 74 = .ok (.iload_n 1, 1) := by decide +kernel
theorem dX4_biteAt_75 : decode cX4_biteAt 75 = .ok (.iaload, 1) := by decide +kernel
theorem dX4_biteAt_76 : decode cX4_biteAt 76 = .ok (.iconst 1, 1) := by decide +kernel
theorem dX4_biteAt_77 : decode cX4_biteAt 77 = .ok (.iand, 1) := by decide +kernel
theorem dX4_biteAt_78 : decode cX4_biteAt 78 = .ok (.istore 6, 2) := by decide +kernel
theorem dX4_biteAt_80 : decode cX4_biteAt 80 = .ok (.iload 6, 2) := by decide +kernel
theorem dX4_biteAt_82 : decode cX4_biteAt 82 = .ok (.iload 4, 2) := by decide +kernel
theorem dX4_biteAt_84 : decode cX4_biteAt 84 = .ok (.if_icmp .gt 25, 3) := by decide +kernel
theorem dX4_biteAt_87 : decode cX4_biteAt 87 = .ok (.iinc 5 1, 3) := by decide +kernel
theorem dX4_biteAt_90 : decode cX4_biteAt 90 = .ok (.iload 6, 2) := by decide +kernel
theorem dX4_biteAt_92 : decode cX4_biteAt 92 = .ok (.aload_n 0, 1) := by decide +kernel
theorem dX4_biteAt_93 : decode cX4_biteAt 93 = .ok (.getfield 16, 3) := by decide +kernel
theorem dX4_biteAt_96 : decode cX4_biteAt 96 = .ok (.iload_n 1, 1) := by decide +kernel
theorem dX4_biteAt_97 : decode cX4_biteAt 97 = .ok (.iaload, 1) := by decide +kernel
theorem dX4_biteAt_98 : decode cX4_biteAt 98 = .ok (.iload 5, 2) := by decide +kernel
theorem dX4_biteAt_100 : decode cX4_biteAt 100 = .ok (.ishr, 1) := by decide +kernel
theorem dX4_biteAt_101 : decode cX4_biteAt 101 = .ok (.iconst 1, 1) := by decide +kernel
theorem dX4_biteAt_102 : decode cX4_biteAt 102 = .ok (.iand, 1) := by decide +kernel
theorem dX4_biteAt_103 : decode cX4_biteAt 103 = .ok (.iadd, 1) := by decide +kernel
theorem dX4_biteAt_104 : decode cX4_biteAt 104 = .ok (.istore 6, 2) := by decide +kernel
theorem dX4_biteAt_106 : decode cX4_biteAt 106 = .ok (.goto (-26), 3) := by decide +kernel
theorem dX4_biteAt_109 : decode cX4_biteAt 109 = .ok (.iload_n 3, 1) := by decide +kernel
theorem dX4_biteAt_110 : decode cX4_biteAt 110 = .ok (.iconst 1, 1) := by decide +kernel
theorem dX4_biteAt_111 : decode cX4_biteAt 111 = .ok (.if_icmp .ne 24, 3) := by decide +kernel
theorem dX4_biteAt_114 : decode cX4_biteAt 114 = .ok (.aload_n 0, 1) := by decide +kernel
theorem dX4_biteAt_115 : decode cX4_biteAt 115 = .ok (.getfield 16, 3) := by decide +kernel
theorem dX4_biteAt_118 : decode cX4_biteAt 118 = .ok (.iload_n 1, 1) := by decide +kernel
theorem dX4_biteAt_119 : decode cX4_biteAt 119 = .ok (.iaload, 1) := by decide +kernel
theorem dX4_biteAt_120 : decode cX4_biteAt 120 = .ok (.aload_n 0, 1) := by decide +kernel
theorem dX4_biteAt_121 : decode cX4_biteAt 121 = .ok (.getfield 61, 3) := by decide +kernel
theorem dX4_biteAt_124 : decode cX4_biteAt 124 = .ok (.iload_n 2, 1) := by decide +kernel
theorem dX4_biteAt_125 : decode cX4_biteAt 125 = .ok (.iaload, 1) := by decide +kernel
theorem dX4_biteAt_126 : decode cX4_biteAt 126 = .ok (.iconst (-1), 1) := by decide +kernel
theorem dX4_biteAt_127 : decode cX4_biteAt 127 = .ok (.ixor, 1) := by decide +kernel
theorem dX4_biteAt_128 : decode cX4_biteAt 128 = .ok (.iand, 1) := by decide +kernel
theorem dX4_biteAt_129 : decode cX4_biteAt 129 = .ok (.invokestatic 150, 3) := by decide +kernel
theorem dX4_biteAt_132 : decode cX4_biteAt 132 = .ok (.goto 29, 3) := by decide +kernel
theorem dX4_biteAt_135 : decode cX4_biteAt 135 = .ok (.aload_n 0, 1) := by decide +kernel
theorem dX4_biteAt_136 : decode cX4_biteAt 136 = .ok (.getfield 7, 3) := by decide +kernel
theorem dX4_biteAt_139 : decode cX4_biteAt 139 = .ok (.iload_n 1, 1) := by decide +kernel
theorem dX4_biteAt_140 : decode cX4_biteAt 140 = .ok (.iaload, 1) := by decide +kernel
theorem dX4_biteAt_141 : decode cX4_biteAt 141 = .ok (.iconst 1, 1) := by decide +kernel
theorem dX4_biteAt_142 : decode cX4_biteAt 142 = .ok (.if_icmp .eq 10, 3) := by decide +kernel
theorem dX4_biteAt_145 : decode cX4_biteAt 145 = .ok (.iload 5, 2) := by decide +kernel
theorem dX4_biteAt_147 : decode cX4_biteAt 147 = .ok (.bipush 6, 2) := by decide +kernel
theorem dX4_biteAt_149 : decode cX4_biteAt 149 = .ok (.if_icmp .ge 8, 3) := by decide +kernel
theorem dX4_biteAt_152 : decode cX4_biteAt 152 = .ok (.iload 5, 2) := by decide +kernel
theorem dX4_biteAt_154 : decode cX4_biteAt 154 = .ok (.goto 7, 3) := by decide +kernel
theorem dX4_biteAt_157 : decode cX4_biteAt 157 = .ok (.iload 5, 2) := by decide +kernel
theorem dX4_biteAt_159 : decode cX4_biteAt 159 = .ok (.iconst 4, 1) := by decide +kernel
theorem dX4_biteAt_160 : decode cX4_biteAt 160 = .ok (.iadd, 1) := by decide +kernel
theorem dX4_biteAt_161 : decode cX4_biteAt 161 = .ok (.ireturn, 1) := by decide +kernel
set_option maxRecDepth 20000 in
theorem ggX4_bite_X4_isGame : GoodIn wsX4_bite wsX4_isGame := goodIn_r _ [8, 9, 10, 11, 7, 12, 81, 82, 83, 84, 85, 86, 87, 88, 89, 90, 91, 92, 93, 94, 95, 96, 97, 98, 99, 100, 101] (by decide +kernel) (by decide +kernel)
set_option maxRecDepth 20000 in
theorem gX4_bite_X4_isGame : GoodIn wsX4_bite (wsV RX4 128 RX4 yX4_isGame wsX4_isGame) := goodIn_app (goodIn_of _ (by decide +kernel)) ggX4_bite_X4_isGame
set_option maxRecDepth 20000 in
theorem ggX4_bite_X4_in : GoodIn wsX4_bite wsX4_in := goodIn_r _ [12] (by decide +kernel) (by decide +kernel)
set_option maxRecDepth 20000 in
theorem gX4_bite_X4_in : GoodIn wsX4_bite (va_wsS RX4 111 yX4_in wsX4_in) := goodIn_app (goodIn_of _ (by decide +kernel)) ggX4_bite_X4_in
set_option maxRecDepth 20000 in
theorem ggX4_bite_X4_solve : GoodIn wsX4_bite wsX4_solve := goodIn_r _ [16, 17, 18, 19, 20, 7, 21, 22, 23, 24, 25, 26, 27, 28, 29, 30, 31, 32, 3, 33, 2, 34, 35, 36, 37, 38, 39, 40, 41, 42, 43, 44, 45, 46, 47, 48, 49, 50, 51, 52, 53, 54, 55, 56, 57, 58, 59, 60, 61, 62, 63, 64, 65, 66, 67, 68, 81, 82, 83, 84, 85, 86, 87, 88, 89, 90, 91, 92, 93, 94, 95, 96, 97, 98, 99, 100, 101] (by decide +kernel) (by decide +kernel)
set_option maxRecDepth 20000 in
theorem gX4_bite_X4_solve : GoodIn wsX4_bite (wsV RX4 155 RX4 yX4_solve wsX4_solve) := goodIn_app (goodIn_of _ (by decide +kernel)) ggX4_bite_X4_solve
set_option maxRecDepth 20000 in
theorem ggX4_bite_X4_bitesOf : GoodIn wsX4_bite wsX4_bitesOf := goodIn_r _ [72, 73, 31, 35, 36, 37, 7, 38, 22, 23, 39, 24, 25, 40, 41, 42, 43, 44, 45, 46, 47, 48, 49, 50, 51, 52, 53, 54, 55, 56, 57, 58, 59, 60, 3, 61, 62, 63, 64, 65, 66, 67, 68, 81, 82, 83, 84, 85, 86, 87, 88, 89, 90, 91, 92, 93, 94, 95, 96, 97, 98, 99, 100, 101] (by decide +kernel) (by decide +kernel)
set_option maxRecDepth 20000 in
theorem gX4_bite_X4_bitesOf : GoodIn wsX4_bite (wsV RX4 137 RX4 yX4_bitesOf wsX4_bitesOf) := goodIn_app (goodIn_of _ (by decide +kernel)) ggX4_bite_X4_bitesOf
set_option maxRecDepth 20000 in
theorem ggX4_bite_X4_biteAt : GoodIn wsX4_bite wsX4_biteAt := goodIn_r _ [77, 22, 73, 45, 3, 46, 47, 48, 7, 49, 50, 51, 52, 78, 79, 80, 81, 82, 83, 84, 85, 86, 87, 88, 89, 90, 91, 92, 93, 94, 95, 96, 97, 98, 99, 100, 101] (by decide +kernel) (by decide +kernel)
set_option maxRecDepth 20000 in
theorem gX4_bite_X4_biteAt : GoodIn wsX4_bite (wsV RX4 158 RX4 yX4_biteAt wsX4_biteAt) := goodIn_app (goodIn_of _ (by decide +kernel)) ggX4_bite_X4_biteAt
theorem dX4_bite_0 : decode cX4_bite 0 = .ok (.aload_n 0, 1) := by decide +kernel
theorem dX4_bite_1 : decode cX4_bite 1 = .ok (.iload_n 1, 1) := by decide +kernel
theorem dX4_bite_2 : decode cX4_bite 2 = .ok (.invokevirtual 128, 3) := by decide +kernel
theorem dX4_bite_5 : decode cX4_bite 5 = .ok (.ifCond .ne 7, 3) := by decide +kernel
theorem dX4_bite_8 : decode cX4_bite 8 = .ok (.sipush (-1001), 3) := by decide +kernel
theorem dX4_bite_11 : decode cX4_bite 11 = .ok (.ireturn, 1) := by decide +kernel
theorem dX4_bite_12 : decode cX4_bite 12 = .ok (.iload_n 3, 1) := by decide +kernel
theorem dX4_bite_13 : decode cX4_bite 13 = .ok (.i2l, 1) := by decide +kernel
theorem dX4_bite_14 : decode cX4_bite 14 = .ok (.lconst 0, 1) := by decide +kernel
theorem dX4_bite_15 : decode cX4_bite 15 = .ok (.ldc2_w 153, 3) := by decide +kernel
theorem dX4_bite_18 : decode cX4_bite 18 = .ok (.invokestatic 111, 3) := by decide +kernel
theorem dX4_bite_21 : decode cX4_bite 21 = .ok (.ifCond .ne 7, 3) := by decide +kernel
theorem dX4_bite_24 : decode cX4_bite 24 = .ok (.sipush (-1002), 3) := by decide +kernel
theorem dX4_bite_27 : decode cX4_bite 27 = .ok (.ireturn, 1) := by decide +kernel
theorem dX4_bite_28 : decode cX4_bite 28 = .ok (.aload_n 0, 1) := by decide +kernel
theorem dX4_bite_29 : decode cX4_bite 29 = .ok (.iload_n 1, 1) := by decide +kernel
theorem dX4_bite_30 : decode cX4_bite 30 = .ok (.invokevirtual 155, 3) := by decide +kernel
theorem dX4_bite_33 : decode cX4_bite 33 = .ok (.iload_n 2, 1) := by decide +kernel
theorem dX4_bite_34 : decode cX4_bite 34 = .ok (.i2l, 1) := by decide +kernel
theorem dX4_bite_35 : decode cX4_bite 35 = .ok (.lconst 0, 1) := by decide +kernel
theorem dX4_bite_36 : decode cX4_bite 36 = .ok (.aload_n 0, 1) := by decide +kernel
theorem dX4_bite_37 : decode cX4_bite 37 = .ok (.iload_n 1, 1) := by decide +kernel
theorem dX4_bite_38 : decode cX4_bite 38 = .ok (.invokevirtual 137, 3) := by decide +kernel
theorem dX4_bite_41 : decode cX4_bite 41 = .ok (.iconst 1, 1) := by decide +kernel
theorem dX4_bite_42 : decode cX4_bite 42 = .ok (.isub, 1) := by decide +kernel
theorem dX4_bite_43 : decode cX4_bite 43 = .ok (.i2l, 1) := by decide +kernel
theorem dX4_bite_44 : decode cX4_bite 44 = .ok (.invokestatic 111, 3) := by decide +kernel
theorem dX4_bite_47 : decode cX4_bite 47 = .ok (.ifCond .ne 5, 3) := by decide +kernel
theorem dX4_bite_50 : decode cX4_bite 50 = .ok (.iconst (-1), 1) := by decide +kernel
theorem dX4_bite_51 : decode cX4_bite 51 = .ok (.ireturn, 1) := by decide +kernel
theorem dX4_bite_52 : decode cX4_bite 52 = .ok (.iload_n 3, 1) := by decide +kernel
theorem dX4_bite_53 : decode cX4_bite 53 = .ok (.iconst 2, 1) := by decide +kernel
theorem dX4_bite_54 : decode cX4_bite 54 = .ok (.if_icmp .ne 25, 3) := by decide +kernel
theorem dX4_bite_57 : decode cX4_bite 57 = .ok (.aload_n 0, 1) := by decide +kernel
theorem dX4_bite_58 : decode cX4_bite 58 = .ok (.getfield 48, 3) := by decide +kernel
theorem dX4_bite_61 : decode cX4_bite 61 = .ok (.aload_n 0, 1) := by decide +kernel
theorem dX4_bite_62 : decode cX4_bite 62 = .ok (.getfield 61, 3) := by decide +kernel
theorem dX4_bite_65 : decode cX4_bite 65 = .ok (.iload_n 2, 1) := by decide +kernel
theorem dX4_bite_66 : decode cX4_bite 66 = .ok (.iaload, 1) := by decide +kernel
theorem dX4_bite_67 : decode cX4_bite 67 = .ok (.baload, 1) := by decide +kernel
theorem dX4_bite_68 : decode cX4_bite 68 = .ok (.ifCond .eq 7, 3) := by decide +kernel
theorem dX4_bite_71 : decode cX4_bite 71 = .ok (.iconst 0, 1) := by decide +kernel
theorem dX4_bite_72 : decode cX4_bite 72 = .ok (.goto 14, 3) := by decide +kernel
theorem dX4_bite_75 : decode cX4_bite 75 = .ok (.iconst 1, 1) := by decide +kernel
theorem dX4_bite_76 : decode cX4_bite 76 = .ok (.goto 10, 3) := by decide +kernel
theorem dX4_bite_79 : decode cX4_bite 79 = .ok (.aload_n 0, 1) := by decide +kernel
theorem dX4_bite_80 : decode cX4_bite 80 = .ok (.iload_n 1, 1) := by decide +kernel
theorem dX4_bite_81 : decode cX4_bite 81 = .ok (.iload_n 2, 1) := by decide +kernel
theorem dX4_bite_82 : decode cX4_bite 82 = .ok (.iload_n 3, 1) := by decide +kernel
theorem dX4_bite_83 : decode cX4_bite 83 = .ok (.invokevirtual 158, 3) := by decide +kernel
theorem dX4_bite_86 : decode cX4_bite 86 = .ok (.ireturn, 1) := by decide +kernel
set_option maxRecDepth 20000 in
theorem ggX4_won_X4_isGame : GoodIn wsX4_won wsX4_isGame := goodIn_r _ [7, 8, 9, 10, 6, 11, 69, 70, 71, 72, 73, 74, 75, 76, 77, 78, 79, 80, 81, 82, 83, 84, 85, 86, 87, 88, 89] (by decide +kernel) (by decide +kernel)
set_option maxRecDepth 20000 in
theorem gX4_won_X4_isGame : GoodIn wsX4_won (wsV RX4 128 RX4 yX4_isGame wsX4_isGame) := goodIn_app (goodIn_of _ (by decide +kernel)) ggX4_won_X4_isGame
set_option maxRecDepth 20000 in
theorem ggX4_won_X4_solve : GoodIn wsX4_won wsX4_solve := goodIn_r _ [15, 16, 17, 18, 19, 6, 20, 21, 22, 23, 24, 25, 26, 27, 28, 29, 30, 31, 32, 33, 1, 34, 35, 36, 37, 38, 39, 40, 41, 42, 43, 44, 45, 46, 47, 48, 49, 50, 51, 52, 53, 54, 55, 56, 57, 58, 59, 60, 61, 62, 63, 64, 65, 66, 67, 68, 69, 70, 71, 72, 73, 74, 75, 76, 77, 78, 79, 80, 81, 82, 83, 84, 85, 86, 87, 88, 89] (by decide +kernel) (by decide +kernel)
set_option maxRecDepth 20000 in
theorem gX4_won_X4_solve : GoodIn wsX4_won (wsV RX4 155 RX4 yX4_solve wsX4_solve) := goodIn_app (goodIn_of _ (by decide +kernel)) ggX4_won_X4_solve
theorem dX4_won_0 : decode cX4_won 0 = .ok (.aload_n 0, 1) := by decide +kernel
theorem dX4_won_1 : decode cX4_won 1 = .ok (.iload_n 1, 1) := by decide +kernel
theorem dX4_won_2 : decode cX4_won 2 = .ok (.invokevirtual 128, 3) := by decide +kernel
theorem dX4_won_5 : decode cX4_won 5 = .ok (.ifCond .ne 7, 3) := by decide +kernel
theorem dX4_won_8 : decode cX4_won 8 = .ok (.sipush (-1001), 3) := by decide +kernel
theorem dX4_won_11 : decode cX4_won 11 = .ok (.ireturn, 1) := by decide +kernel
theorem dX4_won_12 : decode cX4_won 12 = .ok (.aload_n 0, 1) := by decide +kernel
theorem dX4_won_13 : decode cX4_won 13 = .ok (.iload_n 1, 1) := by decide +kernel
theorem dX4_won_14 : decode cX4_won 14 = .ok (.invokevirtual 155, 3) := by decide +kernel
theorem dX4_won_17 : decode cX4_won 17 = .ok (.aload_n 0, 1) := by decide +kernel
theorem dX4_won_18 : decode cX4_won 18 = .ok (.getfield 48, 3) := by decide +kernel
theorem dX4_won_21 : decode cX4_won 21 = .ok (.aload_n 0, 1) := by decide +kernel
theorem dX4_won_22 : decode cX4_won 22 = .ok (.getfield 16, 3) := by decide +kernel
theorem dX4_won_25 : decode cX4_won 25 = .ok (.iload_n 1, 1) := by decide +kernel
theorem dX4_won_26 : decode cX4_won 26 = .ok (.iaload, 1) := by decide +kernel
theorem dX4_won_27 : decode cX4_won 27 = .ok (.baload, 1) := by decide +kernel
theorem dX4_won_28 : decode cX4_won 28 = .ok (.ifCond .eq 7, 3) := by decide +kernel
theorem dX4_won_31 : decode cX4_won 31 = .ok (.iconst 1, 1) := by decide +kernel
theorem dX4_won_32 : decode cX4_won 32 = .ok (.goto 4, 3) := by decide +kernel
theorem dX4_won_35 : decode cX4_won 35 = .ok (.iconst 0, 1) := by decide +kernel
theorem dX4_won_36 : decode cX4_won 36 = .ok (.ireturn, 1) := by decide +kernel
set_option maxRecDepth 20000 in
theorem ggX4_worthOf_X4_solve : GoodIn wsX4_worthOf wsX4_solve := goodIn_r _ [7, 8, 9, 10, 11, 6, 12, 13, 14, 15, 16, 17, 18, 19, 20, 21, 22, 23, 24, 1, 25, 26, 27, 28, 29, 30, 31, 32, 33, 34, 35, 36, 37, 38, 39, 40, 41, 42, 43, 44, 45, 46, 47, 48, 49, 50, 51, 52, 53, 54, 55, 56, 57, 58, 59, 60, 61, 62, 63, 64, 65, 66, 67, 68, 69, 70, 71, 72, 73, 74, 75, 76, 77, 78, 79, 80, 81] (by decide +kernel) (by decide +kernel)
set_option maxRecDepth 20000 in
theorem gX4_worthOf_X4_solve : GoodIn wsX4_worthOf (wsV RX4 155 RX4 yX4_solve wsX4_solve) := goodIn_app (goodIn_of _ (by decide +kernel)) ggX4_worthOf_X4_solve
theorem dX4_worthOf_0 : decode cX4_worthOf 0 = .ok (.aload_n 0, 1) := by decide +kernel
theorem dX4_worthOf_1 : decode cX4_worthOf 1 = .ok (.iload_n 1, 1) := by decide +kernel
theorem dX4_worthOf_2 : decode cX4_worthOf 2 = .ok (.invokevirtual 155, 3) := by decide +kernel
theorem dX4_worthOf_5 : decode cX4_worthOf 5 = .ok (.aload_n 0, 1) := by decide +kernel
theorem dX4_worthOf_6 : decode cX4_worthOf 6 = .ok (.getfield 55, 3) := by decide +kernel
theorem dX4_worthOf_9 : decode cX4_worthOf 9 = .ok (.aload_n 0, 1) := by decide +kernel
theorem dX4_worthOf_10 : decode cX4_worthOf 10 = .ok (.getfield 16, 3) := by decide +kernel
theorem dX4_worthOf_13 : decode cX4_worthOf 13 = .ok (.iload_n 1, 1) := by decide +kernel
theorem dX4_worthOf_14 : decode cX4_worthOf 14 = .ok (.iaload, 1) := by decide +kernel
theorem dX4_worthOf_15 : decode cX4_worthOf 15 = .ok (.iaload, 1) := by decide +kernel
theorem dX4_worthOf_16 : decode cX4_worthOf 16 = .ok (.ireturn, 1) := by decide +kernel
set_option maxRecDepth 20000 in
theorem ggX4_worth_X4_isGame : GoodIn wsX4_worth wsX4_isGame := goodIn_r _ [5, 6, 7, 8, 4, 9, 73, 74, 75, 76, 77, 78, 79, 80, 81, 82, 83, 84, 85, 86, 87, 88, 89, 90, 91, 92, 93] (by decide +kernel) (by decide +kernel)
set_option maxRecDepth 20000 in
theorem gX4_worth_X4_isGame : GoodIn wsX4_worth (wsV RX4 128 RX4 yX4_isGame wsX4_isGame) := goodIn_app (goodIn_of _ (by decide +kernel)) ggX4_worth_X4_isGame
set_option maxRecDepth 20000 in
theorem ggX4_worth_X4_worthOf : GoodIn wsX4_worth wsX4_worthOf := goodIn_r _ [13, 14, 15, 16, 17, 18, 4, 19, 20, 21, 22, 23, 24, 25, 26, 27, 28, 29, 30, 31, 32, 33, 34, 35, 36, 37, 38, 39, 40, 41, 42, 43, 44, 45, 46, 47, 48, 49, 50, 51, 52, 53, 54, 55, 56, 57, 58, 59, 60, 61, 62, 63, 64, 65, 66, 67, 68, 69, 70, 71, 72, 73, 74, 75, 76, 77, 78, 79, 80, 81, 82, 83, 84, 85, 86, 87, 88, 89, 90, 91, 92, 93] (by decide +kernel) (by decide +kernel)
set_option maxRecDepth 20000 in
theorem gX4_worth_X4_worthOf : GoodIn wsX4_worth (wsV RX4 162 RX4 yX4_worthOf wsX4_worthOf) := goodIn_app (goodIn_of _ (by decide +kernel)) ggX4_worth_X4_worthOf
theorem dX4_worth_0 : decode cX4_worth 0 = .ok (.aload_n 0, 1) := by decide +kernel
theorem dX4_worth_1 : decode cX4_worth 1 = .ok (.iload_n 1, 1) := by decide +kernel
theorem dX4_worth_2 : decode cX4_worth 2 = .ok (.invokevirtual 128, 3) := by decide +kernel
theorem dX4_worth_5 : decode cX4_worth 5 = .ok (.ifCond .eq 11, 3) := by decide +kernel
theorem dX4_worth_8 : decode cX4_worth 8 = .ok (.aload_n 0, 1) := by decide +kernel
theorem dX4_worth_9 : decode cX4_worth 9 = .ok (.iload_n 1, 1) := by decide +kernel
theorem dX4_worth_10 : decode cX4_worth 10 = .ok (.invokevirtual 162, 3) := by decide +kernel
theorem dX4_worth_13 : decode cX4_worth 13 = .ok (.goto 6, 3) := by decide +kernel
theorem dX4_worth_16 : decode cX4_worth 16 = .ok (.sipush (-1001), 3) := by decide +kernel
theorem dX4_worth_19 : decode cX4_worth 19 = .ok (.ireturn, 1) := by decide +kernel
set_option maxRecDepth 20000 in
theorem ggX4_length_X4_isGame : GoodIn wsX4_length wsX4_isGame := goodIn_r _ [7, 8, 9, 10, 6, 11, 69, 70, 71, 72, 73, 74, 75, 76, 77, 78, 79, 80, 81, 82, 83, 84, 85, 86, 87, 88, 89] (by decide +kernel) (by decide +kernel)
set_option maxRecDepth 20000 in
theorem gX4_length_X4_isGame : GoodIn wsX4_length (wsV RX4 128 RX4 yX4_isGame wsX4_isGame) := goodIn_app (goodIn_of _ (by decide +kernel)) ggX4_length_X4_isGame
set_option maxRecDepth 20000 in
theorem ggX4_length_X4_solve : GoodIn wsX4_length wsX4_solve := goodIn_r _ [15, 16, 17, 18, 19, 6, 20, 21, 22, 23, 24, 25, 26, 27, 28, 29, 30, 31, 32, 33, 34, 1, 35, 36, 37, 38, 39, 40, 41, 42, 43, 44, 45, 46, 47, 48, 49, 50, 51, 52, 53, 54, 55, 56, 57, 58, 59, 60, 61, 62, 63, 64, 65, 66, 67, 68, 69, 70, 71, 72, 73, 74, 75, 76, 77, 78, 79, 80, 81, 82, 83, 84, 85, 86, 87, 88, 89] (by decide +kernel) (by decide +kernel)
set_option maxRecDepth 20000 in
theorem gX4_length_X4_solve : GoodIn wsX4_length (wsV RX4 155 RX4 yX4_solve wsX4_solve) := goodIn_app (goodIn_of _ (by decide +kernel)) ggX4_length_X4_solve
theorem dX4_length_0 : decode cX4_length 0 = .ok (.aload_n 0, 1) := by decide +kernel
theorem dX4_length_1 : decode cX4_length 1 = .ok (.iload_n 1, 1) := by decide +kernel
theorem dX4_length_2 : decode cX4_length 2 = .ok (.invokevirtual 128, 3) := by decide +kernel
theorem dX4_length_5 : decode cX4_length 5 = .ok (.ifCond .ne 7, 3) := by decide +kernel
theorem dX4_length_8 : decode cX4_length 8 = .ok (.sipush (-1001), 3) := by decide +kernel
theorem dX4_length_11 : decode cX4_length 11 = .ok (.ireturn, 1) := by decide +kernel
theorem dX4_length_12 : decode cX4_length 12 = .ok (.aload_n 0, 1) := by decide +kernel
theorem dX4_length_13 : decode cX4_length 13 = .ok (.iload_n 1, 1) := by decide +kernel
theorem dX4_length_14 : decode cX4_length 14 = .ok (.invokevirtual 155, 3) := by decide +kernel
theorem dX4_length_17 : decode cX4_length 17 = .ok (.aload_n 0, 1) := by decide +kernel
theorem dX4_length_18 : decode cX4_length 18 = .ok (.getfield 52, 3) := by decide +kernel
theorem dX4_length_21 : decode cX4_length 21 = .ok (.aload_n 0, 1) := by decide +kernel
theorem dX4_length_22 : decode cX4_length 22 = .ok (.getfield 16, 3) := by decide +kernel
theorem dX4_length_25 : decode cX4_length 25 = .ok (.iload_n 1, 1) := by decide +kernel
theorem dX4_length_26 : decode cX4_length 26 = .ok (.iaload, 1) := by decide +kernel
theorem dX4_length_27 : decode cX4_length 27 = .ok (.iaload, 1) := by decide +kernel
theorem dX4_length_28 : decode cX4_length 28 = .ok (.ireturn, 1) := by decide +kernel
set_option maxRecDepth 20000 in
theorem ggX4_winning_X4_isGame : GoodIn wsX4_winning wsX4_isGame := goodIn_r _ [7, 8, 9, 10, 6, 11, 73, 74, 75, 76, 77, 78, 79, 80, 81, 82, 83, 84, 85, 86, 87, 88, 89, 90, 91, 92, 93] (by decide +kernel) (by decide +kernel)
set_option maxRecDepth 20000 in
theorem gX4_winning_X4_isGame : GoodIn wsX4_winning (wsV RX4 128 RX4 yX4_isGame wsX4_isGame) := goodIn_app (goodIn_of _ (by decide +kernel)) ggX4_winning_X4_isGame
set_option maxRecDepth 20000 in
theorem ggX4_winning_X4_solve : GoodIn wsX4_winning wsX4_solve := goodIn_r _ [15, 16, 17, 18, 19, 6, 20, 21, 22, 23, 24, 25, 26, 27, 28, 29, 30, 31, 2, 32, 1, 33, 34, 35, 36, 37, 38, 39, 40, 41, 42, 43, 44, 45, 46, 47, 48, 49, 50, 51, 52, 53, 54, 55, 56, 57, 58, 59, 60, 61, 62, 63, 64, 65, 66, 67, 73, 74, 75, 76, 77, 78, 79, 80, 81, 82, 83, 84, 85, 86, 87, 88, 89, 90, 91, 92, 93] (by decide +kernel) (by decide +kernel)
set_option maxRecDepth 20000 in
theorem gX4_winning_X4_solve : GoodIn wsX4_winning (wsV RX4 155 RX4 yX4_solve wsX4_solve) := goodIn_app (goodIn_of _ (by decide +kernel)) ggX4_winning_X4_solve
set_option maxRecDepth 20000 in
theorem ggX4_winning_X4_bitesOf : GoodIn wsX4_winning wsX4_bitesOf := goodIn_r _ [71, 72, 30, 34, 35, 36, 6, 37, 21, 22, 38, 23, 24, 39, 40, 41, 42, 43, 44, 45, 46, 47, 48, 49, 50, 51, 52, 53, 54, 55, 56, 57, 58, 59, 2, 60, 61, 62, 63, 64, 65, 66, 67, 73, 74, 75, 76, 77, 78, 79, 80, 81, 82, 83, 84, 85, 86, 87, 88, 89, 90, 91, 92, 93] (by decide +kernel) (by decide +kernel)
set_option maxRecDepth 20000 in
theorem gX4_winning_X4_bitesOf : GoodIn wsX4_winning (wsV RX4 137 RX4 yX4_bitesOf wsX4_bitesOf) := goodIn_app (goodIn_of _ (by decide +kernel)) ggX4_winning_X4_bitesOf
theorem dX4_winning_0 : decode cX4_winning 0 = .ok (.aload_n 0, 1) := by decide +kernel
theorem dX4_winning_1 : decode cX4_winning 1 = .ok (.iload_n 1, 1) := by decide +kernel
theorem dX4_winning_2 : decode cX4_winning 2 = .ok (.invokevirtual 128, 3) := by decide +kernel
theorem dX4_winning_5 : decode cX4_winning 5 = .ok (.ifCond .ne 7, 3) := by decide +kernel
theorem dX4_winning_8 : decode cX4_winning 8 = .ok (.sipush (-1001), 3) := by decide +kernel
theorem dX4_winning_11 : decode cX4_winning 11 = .ok (.ireturn, 1) := by decide +kernel
theorem dX4_winning_12 : decode cX4_winning 12 = .ok (.aload_n 0, 1) := by decide +kernel
theorem dX4_winning_13 : decode cX4_winning 13 = .ok (.iload_n 1, 1) := by decide +kernel
theorem dX4_winning_14 : decode cX4_winning 14 = .ok (.invokevirtual 155, 3) := by decide +kernel
theorem dX4_winning_17 : decode cX4_winning 17 = .ok (.iconst 0, 1) := by decide +kernel
theorem dX4_winning_18 : decode cX4_winning 18 = .ok (.istore_n 2, 1) := by decide +kernel
theorem dX4_winning_19 : decode cX4_winning 19 = .ok (.aload_n 0, 1) := by decide +kernel
theorem dX4_winning_20 : decode cX4_winning 20 = .ok (.iload_n 1, 1) := by decide +kernel
theorem dX4_winning_21 : decode cX4_winning 21 = .ok (.invokevirtual 137, 3) := by decide +kernel
theorem dX4_winning_24 : decode cX4_winning 24 = .ok (.iconst 1, 1) := by decide +kernel
theorem dX4_winning_25 : decode cX4_winning 25 = .ok (.isub, 1) := by decide +kernel
theorem dX4_winning_26 : decode cX4_winning 26 = .ok (.istore_n 3, 1) := by decide +kernel
theorem dX4_winning_27 : decode cX4_winning 27 = .ok (.iload_n 3, 1) := by decide +kernel
theorem dX4_winning_28 : decode cX4_winning 28 = .ok (.ifCond .lt 31, 3) := by decide +kernel
theorem dX4_winning_31 : decode cX4_winning 31 = .ok (.iload_n 2, 1) := by decide +kernel
theorem dX4_winning_32 : decode cX4_winning 32 = .ok (.aload_n 0, 1) := by decide +kernel
theorem dX4_winning_33 : decode cX4_winning 33 = .ok (.getfield 48, 3) := by decide +kernel
theorem dX4_winning_36 : decode cX4_winning 36 = .ok (.aload_n 0, 1) := by decide +kernel
theorem dX4_winning_37 : decode cX4_winning 37 = .ok (.getfield 61, 3) := by decide +kernel
theorem dX4_winning_40 : decode cX4_winning 40 = .ok (.iload_n 3, 1) := by decide +kernel
theorem dX4_winning_41 : decode cX4_winning 41 = .ok (.iaload, 1) := by decide +kernel
theorem dX4_winning_42 : decode cX4_winning 42 = .ok (.baload, 1) := by decide +kernel
theorem dX4_winning_43 : decode cX4_winning 43 = .ok (.ifCond .eq 7, 3) := by decide +kernel
theorem dX4_winning_46 : decode cX4_winning 46 = .ok (.iconst 0, 1) := by decide +kernel
theorem dX4_winning_47 : decode cX4_winning 47 = .ok (.goto 4, 3) := by decide +kernel
theorem dX4_winning_50 : decode cX4_winning 50 = .ok (.iconst 1, 1) := by decide +kernel
theorem dX4_winning_51 : decode cX4_winning 51 = .ok (.iadd, 1) := by decide +kernel
theorem dX4_winning_52 : decode cX4_winning 52 = .ok (.istore_n 2, 1) := by decide +kernel
theorem dX4_winning_53 : decode cX4_winning 53 = .ok (.iinc 3 (-1), 3) := by decide +kernel
theorem dX4_winning_56 : decode cX4_winning 56 = .ok (.goto (-29), 3) := by decide +kernel
theorem dX4_winning_59 : decode cX4_winning 59 = .ok (.iload_n 2, 1) := by decide +kernel
theorem dX4_winning_60 : decode cX4_winning 60 = .ok (.ireturn, 1) := by decide +kernel
set_option maxRecDepth 20000 in
theorem ggX4_boards_X4_in : GoodIn wsX4_boards wsX4_in := goodIn_r _ [12] (by decide +kernel) (by decide +kernel)
set_option maxRecDepth 20000 in
theorem gX4_boards_X4_in : GoodIn wsX4_boards (va_wsS RX4 111 yX4_in wsX4_in) := goodIn_app (goodIn_of _ (by decide +kernel)) ggX4_boards_X4_in
set_option maxRecDepth 20000 in
theorem ggX4_boards_X4_solve : GoodIn wsX4_boards wsX4_solve := goodIn_r _ [16, 5, 17, 18, 19, 11, 20, 3, 21, 22, 23, 24, 25, 26, 27, 28, 29, 4, 30, 8, 7, 31, 32, 33, 34, 35, 36, 37, 38, 39, 40, 41, 6, 42, 43, 44, 45, 46, 47, 48, 49, 50, 51, 52, 53, 54, 55, 56, 57, 58, 59, 60, 61, 62, 63, 64, 65, 66, 67, 68, 69, 70, 71, 72, 73, 74, 75, 76, 77, 78, 79, 80, 81, 82, 83, 84, 85] (by decide +kernel) (by decide +kernel)
set_option maxRecDepth 20000 in
theorem gX4_boards_X4_solve : GoodIn wsX4_boards (wsV RX4 155 RX4 yX4_solve wsX4_solve) := goodIn_app (goodIn_of _ (by decide +kernel)) ggX4_boards_X4_solve
set_option maxRecDepth 20000 in
theorem ggX4_boards_X4_unrank : GoodIn wsX4_boards wsX4_unrank := goodIn_r _ [45, 6, 46, 47, 11, 48, 65, 66, 67, 68, 69, 70, 71, 72, 73, 74, 75, 76, 77, 78, 79, 80, 81, 82, 83, 84, 85] (by decide +kernel) (by decide +kernel)
set_option maxRecDepth 20000 in
theorem gX4_boards_X4_unrank : GoodIn wsX4_boards (wsV RX4 77 RX4 yX4_unrank wsX4_unrank) := goodIn_app (goodIn_of _ (by decide +kernel)) ggX4_boards_X4_unrank
theorem dX4_boards_0 : decode cX4_boards 0 = .ok (.iload_n 1, 1) := by decide +kernel
theorem dX4_boards_1 : decode cX4_boards 1 = .ok (.i2l, 1) := by decide +kernel
theorem dX4_boards_2 : decode cX4_boards 2 = .ok (.lconst 0, 1) := by decide +kernel
theorem dX4_boards_3 : decode cX4_boards 3 = .ok (.ldc2_w 115, 3) := by decide +kernel
theorem dX4_boards_6 : decode cX4_boards 6 = .ok (.invokestatic 111, 3) := by decide +kernel
theorem dX4_boards_9 : decode cX4_boards 9 = .ok (.ifCond .eq 27, 3) := by decide +kernel
theorem dX4_boards_12 : decode cX4_boards 12 = .ok (.iload_n 2, 1) := by decide +kernel
theorem dX4_boards_13 : decode cX4_boards 13 = .ok (.i2l, 1) := by decide +kernel
theorem dX4_boards_14 : decode cX4_boards 14 = .ok (.lconst 0, 1) := by decide +kernel
theorem dX4_boards_15 : decode cX4_boards 15 = .ok (.ldc2_w 115, 3) := by decide +kernel
theorem dX4_boards_18 : decode cX4_boards 18 = .ok (.invokestatic 111, 3) := by decide +kernel
theorem dX4_boards_21 : decode cX4_boards 21 = .ok (.ifCond .eq 15, 3) := by decide +kernel
theorem dX4_boards_24 : decode cX4_boards 24 = .ok (.iload_n 3, 1) := by decide +kernel
theorem dX4_boards_25 : decode cX4_boards 25 = .ok (.i2l, 1) := by decide +kernel
theorem dX4_boards_26 : decode cX4_boards 26 = .ok (.lconst 0, 1) := by decide +kernel
theorem dX4_boards_27 : decode cX4_boards 27 = .ok (.ldc2_w 153, 3) := by decide +kernel
theorem dX4_boards_30 : decode cX4_boards 30 = .ok (.invokestatic 111, 3) := by decide +kernel
theorem dX4_boards_33 : decode cX4_boards 33 = .ok (.ifCond .ne 7, 3) := by decide +kernel
theorem dX4_boards_36 : decode cX4_boards 36 = .ok (.sipush (-1002), 3) := by decide +kernel
theorem dX4_boards_39 : decode cX4_boards 39 = .ok (.ireturn, 1) := by decide +kernel
theorem dX4_boards_40 : decode cX4_boards 40 = .ok (.aload_n 0, 1) := by decide +kernel
theorem dX4_boards_41 : decode cX4_boards 41 = .ok (.getfield 7, 3) := by decide +kernel
theorem dX4_boards_44 : decode cX4_boards 44 = .ok (.iconst 5, 1) := by decide +kernel
theorem dX4_boards_45 : decode cX4_boards 45 = .ok (.iaload, 1) := by decide +kernel
theorem dX4_boards_46 : decode cX4_boards 46 = .ok (.istore 4, 2) := by decide +kernel
theorem dX4_boards_48 : decode cX4_boards 48 = .ok (.aload_n 0, 1) := by decide +kernel
theorem dX4_boards_49 : decode cX4_boards 49 = .ok (.getfield 13, 3) := by decide +kernel
theorem dX4_boards_52 : decode cX4_boards 52 = .ok (.iconst 5, 1) := by decide +kernel
theorem dX4_boards_53 : decode cX4_boards 53 = .ok (.iaload, 1) := by decide +kernel
theorem dX4_boards_54 : decode cX4_boards 54 = .ok (.istore 5, 2) := by decide +kernel
theorem dX4_boards_56 : decode cX4_boards 56 = .ok (.aload_n 0, 1) := by decide +kernel
theorem dX4_boards_57 : decode cX4_boards 57 = .ok (.getfield 7, 3) := by decide +kernel
theorem dX4_boards_60 : decode cX4_boards 60 = .ok (.iconst 5, 1) := by decide +kernel
theorem dX4_boards_61 : decode cX4_boards 61 = .ok (.iconst 0, 1) := by decide +kernel
theorem dX4_boards_62 : decode cX4_boards 62 = .ok (.iastore, 1) := by decide +kernel
theorem dX4_boards_63 : decode cX4_boards 63 = .ok (.aload_n 0, 1) := by decide +kernel
theorem dX4_boards_64 : decode cX4_boards 64 = .ok (.getfield 13, 3) := by decide +kernel
theorem dX4_boards_67 : decode cX4_boards 67 = .ok (.iconst 5, 1) := by decide +kernel
theorem dX4_boards_68 : decode cX4_boards 68 = .ok (.iconst 0, 1) := by decide +kernel
theorem dX4_boards_69 : decode cX4_boards 69 = .ok (.iastore, 1) := by decide +kernel
theorem dX4_boards_70 : decode cX4_boards 70 = .ok (.aload_n 0, 1) := by decide +kernel
theorem dX4_boards_71 : decode cX4_boards 71 = .ok (.iconst (-1), 1) := by decide +kernel
theorem dX4_boards_72 : decode cX4_boards 72 = .ok (.putfield 43, 3) := by decide +kernel
theorem dX4_boards_75 : decode cX4_boards 75 = .ok (.aload_n 0, 1) := by decide +kernel
theorem dX4_boards_76 : decode cX4_boards 76 = .ok (.iconst 5, 1) := by decide +kernel
theorem dX4_boards_77 : decode cX4_boards 77 = .ok (.invokevirtual 155, 3) := by decide +kernel
theorem dX4_boards_80 : decode cX4_boards 80 = .ok (.aload_n 0, 1) := by decide +kernel
theorem dX4_boards_81 : decode cX4_boards 81 = .ok (.getfield 7, 3) := by decide +kernel
theorem dX4_boards_84 : decode cX4_boards 84 = .ok (.iconst 5, 1) := by decide +kernel
theorem dX4_boards_85 : decode cX4_boards 85 = .ok (.iload 4, 2) := by decide +kernel
theorem dX4_boards_87 : decode cX4_boards 87 = .ok (.iastore, 1) := by decide +kernel
theorem dX4_boards_88 : decode cX4_boards 88 = .ok (.aload_n 0, 1) := by decide +kernel
theorem dX4_boards_89 : decode cX4_boards 89 = .ok (.getfield 13, 3) := by decide +kernel
theorem dX4_boards_92 : decode cX4_boards 92 = .ok (.iconst 5, 1) := by decide +kernel
theorem dX4_boards_93 : decode cX4_boards 93 = .ok (.iload 5, 2) := by decide +kernel
theorem dX4_boards_95 : decode cX4_boards 95 = .ok (.iastore, 1) := by decide +kernel
theorem dX4_boards_96 : decode cX4_boards 96 = .ok (.aload_n 0, 1) := by decide +kernel
theorem dX4_boards_97 : decode cX4_boards 97 = .ok (.iconst (-1), 1) := by decide +kernel
theorem dX4_boards_98 : decode cX4_boards 98 = .ok (.putfield 43, 3) := by decide +kernel
theorem dX4_boards_101 : decode cX4_boards 101 = .ok (.iconst 0, 1) := by decide +kernel
theorem dX4_boards_102 : decode cX4_boards 102 = .ok (.istore 6, 2) := by decide +kernel
theorem dX4_boards_104 : decode cX4_boards 104 = .ok (.iconst 0, 1) := by decide +kernel
theorem dX4_boards_105 : decode cX4_boards 105 = .ok (.istore 7, 2) := by decide +kernel
theorem dX4_boards_107 : decode cX4_boards 107 = .ok (.iconst 0, 1) := by decide +kernel
theorem dX4_boards_108 : decode cX4_boards 108 = .ok (.istore 8, 2) := by decide +kernel
theorem dX4_boards_110 : decode cX4_boards 110 = .ok (.iconst 0, 1) := by decide +kernel
theorem dX4_boards_111 : decode cX4_boards 111 = .ok (.istore 9, 2) := by decide +kernel
theorem dX4_boards_113 : decode cX4_boards 113 = .ok (.iload 9, 2) := by decide +kernel
theorem dX4_boards_115 : decode cX4_boards 115 = .ok (.sipush 3432, 3) := by decide +kernel
theorem dX4_boards_118 : decode cX4_boards 118 = .ok (.if_icmp .ge 89, 3) := by decide +kernel
theorem dX4_boards_121 : decode cX4_boards 121 = .ok (.aload_n 0, 1) := by decide +kernel
theorem dX4_boards_122 : decode cX4_boards 122 = .ok (.iload 9, 2) := by decide +kernel
theorem dX4_boards_124 : decode cX4_boards 124 = .ok (.invokevirtual 77, 3) := by decide +kernel
theorem dX4_boards_127 : decode cX4_boards 127 = .ok (.aload_n 0, 1) := by decide +kernel
theorem dX4_boards_128 : decode cX4_boards 128 = .ok (.getfield 58, 3) := by decide +kernel
theorem dX4_boards_131 : decode cX4_boards 131 = .ok (.iconst 0, 1) := by decide +kernel
theorem dX4_boards_132 : decode cX4_boards 132 = .ok (.iaload, 1) := by decide +kernel
theorem dX4_boards_133 : decode cX4_boards 133 = .ok (.iload_n 2, 1) := by decide +kernel
theorem dX4_boards_134 : decode cX4_boards 134 = .ok (.if_icmp .gt 67, 3) := by decide +kernel
theorem dX4_boards_137 : decode cX4_boards 137 = .ok (.iload_n 1, 1) := by decide +kernel
theorem dX4_boards_138 : decode cX4_boards 138 = .ok (.bipush 7, 2) := by decide +kernel
theorem dX4_boards_140 : decode cX4_boards 140 = .ok (.if_icmp .eq 12, 3) := by decide +kernel
theorem dX4_boards_143 : decode cX4_boards 143 = .ok (.aload_n 0, 1) := by decide +kernel
theorem dX4_boards_144 : decode cX4_boards 144 = .ok (.getfield 58, 3) := by decide +kernel
theorem dX4_boards_147 : decode cX4_boards 147 = .ok (.iload_n 1, 1) := by decide +kernel
theorem dX4_boards_148 : decode cX4_boards 148 = .ok (.iaload, 1) := by decide +kernel
theorem dX4_boards_149 : decode cX4_boards 149 = .ok (.ifCond .ne 52, 3) := by decide +kernel
theorem dX4_boards_152 : decode cX4_boards 152 = .ok (.iinc 6 1, 3) := by decide +kernel
theorem dX4_boards_155 : decode cX4_boards 155 = .ok (.iload 7, 2) := by decide +kernel
theorem dX4_boards_157 : decode cX4_boards 157 = .ok (.aload_n 0, 1) := by decide +kernel
theorem dX4_boards_158 : decode cX4_boards 158 = .ok (.getfield 48, 3) := by decide +kernel
theorem dX4_boards_161 : decode cX4_boards 161 = .ok (.iload 9, 2) := by decide +kernel
theorem dX4_boards_163 : decode cX4_boards 163 = .ok (.baload, 1) := by decide +kernel
theorem dX4_boards_164 : decode cX4_boards 164 = .ok (.ifCond .eq 7, 3) := by decide +kernel
theorem dX4_boards_167 : decode cX4_boards 167 = .ok (.iconst 0, 1) := by decide +kernel
theorem dX4_boards_168 : decode cX4_boards 168 = .ok (.goto 4, 3) := by decide +kernel
theorem dX4_boards_171 : decode cX4_boards 171 = .ok (.iconst 1, 1) := by decide +kernel
theorem dX4_boards_172 : decode cX4_boards 172 = .ok (.iadd, 1) := by decide +kernel
theorem dX4_boards_173 : decode cX4_boards 173 = .ok (.istore 7, 2) := by decide +kernel
theorem dX4_boards_175 : decode cX4_boards 175 = .ok (.aload_n 0, 1) := by decide +kernel
theorem dX4_boards_176 : decode cX4_boards 176 = .ok (.getfield 55, 3) := by decide +kernel
theorem dX4_boards_179 : decode cX4_boards 179 = .ok (.iload 9, 2) := by decide +kernel
theorem dX4_boards_181 : decode cX4_boards 181 = .ok (.iaload, 1) := by decide +kernel
theorem dX4_boards_182 : decode cX4_boards 182 = .ok (.iload 8, 2) := by decide +kernel
theorem dX4_boards_184 : decode cX4_boards 184 = .ok (.if_icmp .le 13, 3) := by decide +kernel
theorem dX4_boards_187 : decode cX4_boards 187 = .ok (.aload_n 0, 1) := by decide +kernel
theorem dX4_boards_188 : decode cX4_boards 188 = .ok (.getfield 55, 3) := by decide +kernel
theorem dX4_boards_191 : decode cX4_boards 191 = .ok (.iload 9, 2) := by decide +kernel
theorem dX4_boards_193 : decode cX4_boards 193 = .ok (.iaload, 1) := by decide +kernel
theorem dX4_boards_194 : decode cX4_boards 194 = .ok (.goto 5, 3) := by decide +kernel
theorem dX4_boards_197 : decode cX4_boards 197 = .ok (.iload 8, 2) := by decide +kernel
theorem dX4_boards_199 : decode cX4_boards 199 = .ok (.istore 8, 2) := by decide +kernel
theorem dX4_boards_201 : decode cX4_boards 201 = .ok (.iinc 9 1, 3) := by decide +kernel
theorem dX4_boards_204 : decode cX4_boards 204 = .ok (.goto (-91), 3) := by decide +kernel
theorem dX4_boards_207 : decode cX4_boards 207 = .ok (.iload_n 3, 1) := by decide +kernel
theorem dX4_boards_208 : decode cX4_boards 208 = .ok (.ifCond .ne 8, 3) := by decide +kernel
theorem dX4_boards_211 : decode cX4_boards 211 = .ok (.iload 6, 2) := by decide +kernel
theorem dX4_boards_213 : decode cX4_boards 213 = .ok (.goto 15, 3) := by decide +kernel
theorem dX4_boards_216 : decode cX4_boards 216 = .ok (.iload_n 3, 1) := by decide +kernel
theorem dX4_boards_217 : decode cX4_boards 217 = .ok (.iconst 1, 1) := by decide +kernel
theorem dX4_boards_218 : decode cX4_boards 218 = .ok (.if_icmp .ne 8, 3) := by decide +kernel
theorem dX4_boards_221 : decode cX4_boards 221 = .ok (.iload 7, 2) := by decide +kernel
theorem dX4_boards_223 : decode cX4_boards 223 = .ok (.goto 5, 3) := by decide +kernel
theorem dX4_boards_226 : decode cX4_boards 226 = .ok (.iload 8, 2) := by decide +kernel
theorem dX4_boards_228 : decode cX4_boards 228 = .ok (.ireturn, 1) := by decide +kernel
set_option maxRecDepth 20000 in
theorem ggX4_ranked_X4_in : GoodIn wsX4_ranked wsX4_in := goodIn_r _ [7] (by decide +kernel) (by decide +kernel)
set_option maxRecDepth 20000 in
theorem gX4_ranked_X4_in : GoodIn wsX4_ranked (va_wsS RX4 111 yX4_in wsX4_in) := goodIn_app (goodIn_of _ (by decide +kernel)) ggX4_ranked_X4_in
set_option maxRecDepth 20000 in
theorem ggX4_ranked_X4_unrank : GoodIn wsX4_ranked wsX4_unrank := goodIn_r _ [11, 3, 12, 13, 6, 14, 15, 16, 17, 18, 19, 20, 21, 22, 23, 24, 25, 26, 27, 28, 29, 30, 31, 32, 33, 34, 35] (by decide +kernel) (by decide +kernel)
set_option maxRecDepth 20000 in
theorem gX4_ranked_X4_unrank : GoodIn wsX4_ranked (wsV RX4 77 RX4 yX4_unrank wsX4_unrank) := goodIn_app (goodIn_of _ (by decide +kernel)) ggX4_ranked_X4_unrank
theorem dX4_ranked_0 : decode cX4_ranked 0 = .ok (.iload_n 1, 1) := by decide +kernel
theorem dX4_ranked_1 : decode cX4_ranked 1 = .ok (.i2l, 1) := by decide +kernel
theorem dX4_ranked_2 : decode cX4_ranked 2 = .ok (.lconst 0, 1) := by decide +kernel
theorem dX4_ranked_3 : decode cX4_ranked 3 = .ok (.ldc2_w 165, 3) := by decide +kernel
theorem dX4_ranked_6 : decode cX4_ranked 6 = .ok (.invokestatic 111, 3) := by decide +kernel
theorem dX4_ranked_9 : decode cX4_ranked 9 = .ok (.ifCond .eq 15, 3) := by decide +kernel
theorem dX4_ranked_12 : decode cX4_ranked 12 = .ok (.iload_n 2, 1) := by decide +kernel
theorem dX4_ranked_13 : decode cX4_ranked 13 = .ok (.i2l, 1) := by decide +kernel
theorem dX4_ranked_14 : decode cX4_ranked 14 = .ok (.lconst 0, 1) := by decide +kernel
theorem dX4_ranked_15 : decode cX4_ranked 15 = .ok (.ldc2_w 135, 3) := by decide +kernel
theorem dX4_ranked_18 : decode cX4_ranked 18 = .ok (.invokestatic 111, 3) := by decide +kernel
theorem dX4_ranked_21 : decode cX4_ranked 21 = .ok (.ifCond .ne 7, 3) := by decide +kernel
theorem dX4_ranked_24 : decode cX4_ranked 24 = .ok (.sipush (-1002), 3) := by decide +kernel
theorem dX4_ranked_27 : decode cX4_ranked 27 = .ok (.ireturn, 1) := by decide +kernel
theorem dX4_ranked_28 : decode cX4_ranked 28 = .ok (.aload_n 0, 1) := by decide +kernel
theorem dX4_ranked_29 : decode cX4_ranked 29 = .ok (.iload_n 1, 1) := by decide +kernel
theorem dX4_ranked_30 : decode cX4_ranked 30 = .ok (.invokevirtual 77, 3) := by decide +kernel
theorem dX4_ranked_33 : decode cX4_ranked 33 = .ok (.aload_n 0, 1) := by decide +kernel
theorem dX4_ranked_34 : decode cX4_ranked 34 = .ok (.getfield 58, 3) := by decide +kernel
theorem dX4_ranked_37 : decode cX4_ranked 37 = .ok (.iload_n 2, 1) := by decide +kernel
theorem dX4_ranked_38 : decode cX4_ranked 38 = .ok (.iaload, 1) := by decide +kernel
theorem dX4_ranked_39 : decode cX4_ranked 39 = .ok (.ireturn, 1) := by decide +kernel
theorem dX4_done_0 : decode cX4_done 0 = .ok (.bipush 100, 2) := by decide +kernel
theorem dX4_done_2 : decode cX4_done 2 = .ok (.iload_n 1, 1) := by decide +kernel
theorem dX4_done_3 : decode cX4_done 3 = .ok (.imul, 1) := by decide +kernel
theorem dX4_done_4 : decode cX4_done 4 = .ok (.aload_n 0, 1) := by decide +kernel
theorem dX4_done_5 : decode cX4_done 5 = .ok (.getfield 34, 3) := by decide +kernel
theorem dX4_done_8 : decode cX4_done 8 = .ok (.iload_n 1, 1) := by decide +kernel
theorem dX4_done_9 : decode cX4_done 9 = .ok (.iaload, 1) := by decide +kernel
theorem dX4_done_10 : decode cX4_done 10 = .ok (.iadd, 1) := by decide +kernel
theorem dX4_done_11 : decode cX4_done 11 = .ok (.istore_n 3, 1) := by decide +kernel
theorem dX4_done_12 : decode cX4_done 12 = .ok (.aload_n 0, 1) := by decide +kernel
theorem dX4_done_13 : decode cX4_done 13 = .ok (.getfield 40, 3) := by decide +kernel
theorem dX4_done_16 : decode cX4_done 16 = .ok (.iload_n 3, 1) := by decide +kernel
theorem dX4_done_17 : decode cX4_done 17 = .ok (.aload_n 0, 1) := by decide +kernel
theorem dX4_done_18 : decode cX4_done 18 = .ok (.getfield 16, 3) := by decide +kernel
theorem dX4_done_21 : decode cX4_done 21 = .ok (.iload_n 1, 1) := by decide +kernel
theorem dX4_done_22 : decode cX4_done 22 = .ok (.iaload, 1) := by decide +kernel
theorem dX4_done_23 : decode cX4_done 23 = .ok (.iastore, 1) := by decide +kernel
theorem dX4_done_24 : decode cX4_done 24 = .ok (.aload_n 0, 1) := by decide +kernel
theorem dX4_done_25 : decode cX4_done 25 = .ok (.getfield 37, 3) := by decide +kernel
theorem dX4_done_28 : decode cX4_done 28 = .ok (.iload_n 3, 1) := by decide +kernel
theorem dX4_done_29 : decode cX4_done 29 = .ok (.iload_n 2, 1) := by decide +kernel
theorem dX4_done_30 : decode cX4_done 30 = .ok (.iastore, 1) := by decide +kernel
theorem dX4_done_31 : decode cX4_done 31 = .ok (.aload_n 0, 1) := by decide +kernel
theorem dX4_done_32 : decode cX4_done 32 = .ok (.getfield 34, 3) := by decide +kernel
theorem dX4_done_35 : decode cX4_done 35 = .ok (.iload_n 1, 1) := by decide +kernel
theorem dX4_done_36 : decode cX4_done 36 = .ok (.dup2, 1) := by decide +kernel
theorem dX4_done_37 : decode cX4_done 37 = .ok (.iaload, 1) := by decide +kernel
theorem dX4_done_38 : decode cX4_done 38 = .ok (.iconst 1, 1) := by decide +kernel
theorem dX4_done_39 : decode cX4_done 39 = .ok (.iadd, 1) := by decide +kernel
theorem dX4_done_40 : decode cX4_done 40 = .ok (.iastore, 1) := by decide +kernel
theorem dX4_done_41 : decode cX4_done 41 = .ok (.aload_n 0, 1) := by decide +kernel
theorem dX4_done_42 : decode cX4_done 42 = .ok (.getfield 16, 3) := by decide +kernel
theorem dX4_done_45 : decode cX4_done 45 = .ok (.iload_n 1, 1) := by decide +kernel
theorem dX4_done_46 : decode cX4_done 46 = .ok (.aload_n 0, 1) := by decide +kernel
theorem dX4_done_47 : decode cX4_done 47 = .ok (.getfield 61, 3) := by decide +kernel
theorem dX4_done_50 : decode cX4_done 50 = .ok (.iload_n 2, 1) := by decide +kernel
theorem dX4_done_51 : decode cX4_done 51 = .ok (.iaload, 1) := by decide +kernel
theorem dX4_done_52 : decode cX4_done 52 = .ok (.iastore, 1) := by decide +kernel
theorem dX4_done_53 : decode cX4_done 53 = .ok (.aload_n 0, 1) := by decide +kernel
theorem dX4_done_54 : decode cX4_done 54 = .ok (.getfield 16, 3) := by decide +kernel
theorem dX4_done_57 : decode cX4_done 57 = .ok (.iload_n 1, 1) := by decide +kernel
theorem dX4_done_58 : decode cX4_done 58 = .ok (.iaload, 1) := by decide +kernel
theorem dX4_done_59 : decode cX4_done 59 = .ok (.ireturn, 1) := by decide +kernel
set_option maxRecDepth 20000 in
theorem ggX4_play_X4_isGame : GoodIn wsX4_play wsX4_isGame := goodIn_r _ [6, 7, 8, 9, 5, 10, 62, 63, 64, 65, 66, 67, 68, 69, 70, 71, 72, 73, 74, 75, 76, 77, 78, 79, 80, 81, 82] (by decide +kernel) (by decide +kernel)
set_option maxRecDepth 20000 in
theorem gX4_play_X4_isGame : GoodIn wsX4_play (wsV RX4 128 RX4 yX4_isGame wsX4_isGame) := goodIn_app (goodIn_of _ (by decide +kernel)) ggX4_play_X4_isGame
set_option maxRecDepth 20000 in
theorem ggX4_play_X4_bitesOf : GoodIn wsX4_play wsX4_bitesOf := goodIn_r _ [14, 15, 16, 17, 18, 19, 5, 20, 21, 22, 23, 24, 25, 26, 27, 28, 29, 30, 31, 32, 33, 34, 35, 36, 37, 38, 39, 40, 41, 42, 43, 44, 45, 46, 47, 48, 49, 50, 51, 52, 53, 54, 55, 62, 63, 64, 65, 66, 67, 68, 69, 70, 71, 72, 73, 74, 75, 76, 77, 78, 79, 80, 81, 82] (by decide +kernel) (by decide +kernel)
set_option maxRecDepth 20000 in
theorem gX4_play_X4_bitesOf : GoodIn wsX4_play (wsV RX4 137 RX4 yX4_bitesOf wsX4_bitesOf) := goodIn_app (goodIn_of _ (by decide +kernel)) ggX4_play_X4_bitesOf
set_option maxRecDepth 20000 in
theorem ggX4_play_X4_in : GoodIn wsX4_play wsX4_in := goodIn_r _ [10] (by decide +kernel) (by decide +kernel)
set_option maxRecDepth 20000 in
theorem gX4_play_X4_in : GoodIn wsX4_play (va_wsS RX4 111 yX4_in wsX4_in) := goodIn_app (goodIn_of _ (by decide +kernel)) ggX4_play_X4_in
set_option maxRecDepth 20000 in
theorem ggX4_play_X4_done : GoodIn wsX4_play wsX4_done := goodIn_r _ [59, 1, 60, 15, 61, 47, 62, 63, 64, 65, 66, 67, 68, 69, 70, 71, 72, 73, 74, 75, 76, 77, 78, 79, 80, 81, 82] (by decide +kernel) (by decide +kernel)
set_option maxRecDepth 20000 in
theorem gX4_play_X4_done : GoodIn wsX4_play (wsV RX4 167 RX4 yX4_done wsX4_done) := goodIn_app (goodIn_of _ (by decide +kernel)) ggX4_play_X4_done
theorem dX4_play_0 : decode cX4_play 0 = .ok (.aload_n 0, 1) := by decide +kernel
theorem dX4_play_1 : decode cX4_play 1 = .ok (.iload_n 1, 1) := by decide +kernel
theorem dX4_play_2 : decode cX4_play 2 = .ok (.invokevirtual 128, 3) := by decide +kernel
theorem dX4_play_5 : decode cX4_play 5 = .ok (.ifCond .ne 7, 3) := by decide +kernel
theorem dX4_play_8 : decode cX4_play 8 = .ok (.sipush (-1001), 3) := by decide +kernel
theorem dX4_play_11 : decode cX4_play 11 = .ok (.ireturn, 1) := by decide +kernel
theorem dX4_play_12 : decode cX4_play 12 = .ok (.iload_n 2, 1) := by decide +kernel
theorem dX4_play_13 : decode cX4_play 13 = .ok (.i2l, 1) := by decide +kernel
theorem dX4_play_14 : decode cX4_play 14 = .ok (.lconst 0, 1) := by decide +kernel
theorem dX4_play_15 : decode cX4_play 15 = .ok (.aload_n 0, 1) := by decide +kernel
theorem dX4_play_16 : decode cX4_play 16 = .ok (.iload_n 1, 1) := by decide +kernel
theorem dX4_play_17 : decode cX4_play 17 = .ok (.invokevirtual 137, 3) := by decide +kernel
theorem dX4_play_20 : decode cX4_play 20 = .ok (.iconst 1, 1) := by decide +kernel
theorem dX4_play_21 : decode cX4_play 21 = .ok (.isub, 1) := by decide +kernel
theorem dX4_play_22 : decode cX4_play 22 = .ok (.i2l, 1) := by decide +kernel
theorem dX4_play_23 : decode cX4_play 23 = .ok (.invokestatic 111, 3) := by decide +kernel
theorem dX4_play_26 : decode cX4_play 26 = .ok (.ifCond .ne 7, 3) := by decide +kernel
theorem dX4_play_29 : decode cX4_play 29 = .ok (.sipush (-1003), 3) := by decide +kernel
theorem dX4_play_32 : decode cX4_play 32 = .ok (.ireturn, 1) := by decide +kernel
theorem dX4_play_33 : decode cX4_play 33 = .ok (.aload_n 0, 1) := by decide +kernel
theorem dX4_play_34 : decode cX4_play 34 = .ok (.getfield 34, 3) := by decide +kernel
theorem dX4_play_37 : decode cX4_play 37 = .ok (.iload_n 1, 1) := by decide +kernel
theorem dX4_play_38 : decode cX4_play 38 = .ok (.iaload, 1) := by decide +kernel
theorem dX4_play_39 : decode cX4_play 39 = .ok (.bipush 100, 2) := by decide +kernel
theorem dX4_play_41 : decode cX4_play 41 = .ok (.if_icmp .ne 9, 3) := by decide +kernel
theorem dX4_play_44 : decode cX4_play 44 = .ok (.sipush (-1004), 3) := by decide +kernel
theorem dX4_play_47 : decode cX4_play 47 = .ok (.goto 9, 3) := by decide +kernel
theorem dX4_play_50 : decode cX4_play 50 = .ok (.aload_n 0, 1) := by decide +kernel
theorem dX4_play_51 : decode cX4_play 51 = .ok (.iload_n 1, 1) := by decide +kernel
theorem dX4_play_52 : decode cX4_play 52 = .ok (.iload_n 2, 1) := by decide +kernel
theorem dX4_play_53 : decode cX4_play 53 = .ok (.invokevirtual 167, 3) := by decide +kernel
theorem dX4_play_56 : decode cX4_play 56 = .ok (.ireturn, 1) := by decide +kernel
set_option maxRecDepth 20000 in
theorem ggX4_answer_X4_isGame : GoodIn wsX4_answer wsX4_isGame := goodIn_r _ [9, 10, 11, 12, 8, 13, 84, 85, 86, 87, 88, 89, 90, 91, 92, 93, 94, 95, 96, 97, 98, 99, 100, 101, 102, 103, 104] (by decide +kernel) (by decide +kernel)
set_option maxRecDepth 20000 in
theorem gX4_answer_X4_isGame : GoodIn wsX4_answer (wsV RX4 128 RX4 yX4_isGame wsX4_isGame) := goodIn_app (goodIn_of _ (by decide +kernel)) ggX4_answer_X4_isGame
set_option maxRecDepth 20000 in
theorem ggX4_answer_X4_solve : GoodIn wsX4_answer wsX4_solve := goodIn_r _ [17, 18, 19, 20, 21, 8, 22, 23, 24, 25, 26, 27, 28, 29, 30, 31, 32, 33, 3, 34, 2, 4, 35, 36, 37, 38, 39, 40, 41, 42, 43, 44, 45, 46, 47, 48, 49, 50, 51, 52, 53, 54, 55, 56, 57, 58, 59, 60, 61, 62, 63, 64, 65, 66, 67, 68, 84, 85, 86, 87, 88, 89, 90, 91, 92, 93, 94, 95, 96, 97, 98, 99, 100, 101, 102, 103, 104] (by decide +kernel) (by decide +kernel)
set_option maxRecDepth 20000 in
theorem gX4_answer_X4_solve : GoodIn wsX4_answer (wsV RX4 155 RX4 yX4_solve wsX4_solve) := goodIn_app (goodIn_of _ (by decide +kernel)) ggX4_answer_X4_solve
set_option maxRecDepth 20000 in
theorem ggX4_answer_X4_bitesOf : GoodIn wsX4_answer wsX4_bitesOf := goodIn_r _ [72, 73, 32, 35, 36, 37, 8, 38, 23, 24, 39, 25, 26, 40, 41, 42, 43, 44, 45, 46, 47, 48, 49, 50, 51, 52, 53, 54, 55, 56, 57, 58, 59, 60, 3, 61, 62, 63, 64, 65, 66, 67, 68, 84, 85, 86, 87, 88, 89, 90, 91, 92, 93, 94, 95, 96, 97, 98, 99, 100, 101, 102, 103, 104] (by decide +kernel) (by decide +kernel)
set_option maxRecDepth 20000 in
theorem gX4_answer_X4_bitesOf : GoodIn wsX4_answer (wsV RX4 137 RX4 yX4_bitesOf wsX4_bitesOf) := goodIn_app (goodIn_of _ (by decide +kernel)) ggX4_answer_X4_bitesOf
set_option maxRecDepth 20000 in
theorem ggX4_answer_X4_firstOf : GoodIn wsX4_answer wsX4_firstOf := goodIn_r _ [77, 4, 3, 84, 85, 86, 87, 88, 89, 90, 91, 92, 93, 94, 95, 96, 97, 98, 99, 100, 101, 102, 103, 104] (by decide +kernel) (by decide +kernel)
set_option maxRecDepth 20000 in
theorem gX4_answer_X4_firstOf : GoodIn wsX4_answer (wsV RX4 170 RX4 yX4_firstOf wsX4_firstOf) := goodIn_app (goodIn_of _ (by decide +kernel)) ggX4_answer_X4_firstOf
set_option maxRecDepth 20000 in
theorem ggX4_answer_X4_done : GoodIn wsX4_answer wsX4_done := goodIn_r _ [81, 1, 82, 73, 83, 3, 84, 85, 86, 87, 88, 89, 90, 91, 92, 93, 94, 95, 96, 97, 98, 99, 100, 101, 102, 103, 104] (by decide +kernel) (by decide +kernel)
set_option maxRecDepth 20000 in
theorem gX4_answer_X4_done : GoodIn wsX4_answer (wsV RX4 167 RX4 yX4_done wsX4_done) := goodIn_app (goodIn_of _ (by decide +kernel)) ggX4_answer_X4_done
theorem dX4_answer_0 : decode cX4_answer 0 = .ok (.aload_n 0, 1) := by decide +kernel
theorem dX4_answer_1 : decode cX4_answer 1 = .ok (.iload_n 1, 1) := by decide +kernel
theorem dX4_answer_2 : decode cX4_answer 2 = .ok (.invokevirtual 128, 3) := by decide +kernel
theorem dX4_answer_5 : decode cX4_answer 5 = .ok (.ifCond .ne 7, 3) := by decide +kernel
theorem dX4_answer_8 : decode cX4_answer 8 = .ok (.sipush (-1001), 3) := by decide +kernel
theorem dX4_answer_11 : decode cX4_answer 11 = .ok (.ireturn, 1) := by decide +kernel
theorem dX4_answer_12 : decode cX4_answer 12 = .ok (.aload_n 0, 1) := by decide +kernel
theorem dX4_answer_13 : decode cX4_answer 13 = .ok (.iload_n 1, 1) := by decide +kernel
theorem dX4_answer_14 : decode cX4_answer 14 = .ok (.invokevirtual 155, 3) := by decide +kernel
theorem dX4_answer_17 : decode cX4_answer 17 = .ok (.aload_n 0, 1) := by decide +kernel
theorem dX4_answer_18 : decode cX4_answer 18 = .ok (.iload_n 1, 1) := by decide +kernel
theorem dX4_answer_19 : decode cX4_answer 19 = .ok (.invokevirtual 137, 3) := by decide +kernel
theorem dX4_answer_22 : decode cX4_answer 22 = .ok (.istore_n 2, 1) := by decide +kernel
theorem dX4_answer_23 : decode cX4_answer 23 = .ok (.iload_n 2, 1) := by decide +kernel
theorem dX4_answer_24 : decode cX4_answer 24 = .ok (.ifCond .ne 7, 3) := by decide +kernel
theorem dX4_answer_27 : decode cX4_answer 27 = .ok (.sipush (-1003), 3) := by decide +kernel
theorem dX4_answer_30 : decode cX4_answer 30 = .ok (.ireturn, 1) := by decide +kernel
theorem dX4_answer_31 : decode cX4_answer 31 = .ok (.aload_n 0, 1) := by decide +kernel
theorem dX4_answer_32 : decode cX4_answer 32 = .ok (.getfield 34, 3) := by decide +kernel
theorem dX4_answer_35 : decode cX4_answer 35 = .ok (.iload_n 1, 1) := by decide +kernel
theorem dX4_answer_36 : decode cX4_answer 36 = .ok (.iaload, 1) := by decide +kernel
theorem dX4_answer_37 : decode cX4_answer 37 = .ok (.bipush 100, 2) := by decide +kernel
theorem dX4_answer_39 : decode cX4_answer 39 = .ok (.if_icmp .ne 7, 3) := by decide +kernel
theorem dX4_answer_42 : decode cX4_answer 42 = .ok (.sipush (-1004), 3) := by decide +kernel
theorem dX4_answer_45 : decode cX4_answer 45 = .ok (.ireturn, 1) := by decide +kernel
theorem dX4_answer_46 : decode cX4_answer 46 = .ok (.iconst (-1), 1) := by decide +kernel
theorem dX4_answer_47 : decode cX4_answer 47 = .ok (.istore_n 3, 1) := by decide +kernel
theorem dX4_answer_48 : decode cX4_answer 48 = .ok (.iconst 0, 1) := by decide +kernel
theorem dX4_answer_49 : decode cX4_answer 49 = .ok (.istore 4, 2) := by decide +kernel
theorem dX4_answer_51 : decode cX4_answer 51 = .ok (.iload_n 2, 1) := by decide +kernel
theorem dX4_answer_52 : decode cX4_answer 52 = .ok (.iconst 1, 1) := by decide +kernel
theorem dX4_answer_53 : decode cX4_answer 53 = .ok (.isub, 1) := by decide +kernel
theorem dX4_answer_54 : decode cX4_answer 54 = .ok (.istore 5, 2) := by decide +kernel
theorem dX4_answer_56 : decode cX4_answer 56 = .ok (.iload 5, 2) := by decide +kernel
theorem dX4_answer_58 : decode cX4_answer 58 = .ok (.ifCond .lt 67, 3) := by decide +kernel
theorem dX4_answer_61 : decode cX4_answer 61 = .ok (.aload_n 0, 1) := by decide +kernel
theorem dX4_answer_62 : decode cX4_answer 62 = .ok (.getfield 48, 3) := by decide +kernel
theorem dX4_answer_65 : decode cX4_answer 65 = .ok (.aload_n 0, 1) := by decide +kernel
theorem dX4_answer_66 : decode cX4_answer 66 = .ok (.getfield 61, 3) := by decide +kernel
theorem dX4_answer_69 : decode cX4_answer 69 = .ok (.iload 5, 2) := by decide +kernel
theorem dX4_answer_71 : decode cX4_answer 71 = .ok (.iaload, 1) := by decide +kernel
theorem dX4_answer_72 : decode cX4_answer 72 = .ok (.baload, 1) := by decide +kernel
theorem dX4_answer_73 : decode cX4_answer 73 = .ok (.ifCond .eq 7, 3) := by decide +kernel
theorem dX4_answer_76 : decode cX4_answer 76 = .ok (.iload_n 3, 1) := by decide +kernel
theorem dX4_answer_77 : decode cX4_answer 77 = .ok (.goto 5, 3) := by decide +kernel
theorem dX4_answer_80 : decode cX4_answer 80 = .ok (.iload 5, 2) := by decide +kernel
theorem dX4_answer_82 : decode cX4_answer 82 = .ok (.istore_n 3, 1) := by decide +kernel
theorem dX4_answer_83 : decode cX4_answer 83 = .ok (.aload_n 0, 1) := by decide +kernel
theorem dX4_answer_84 : decode cX4_answer 84 = .ok (.getfield 52, 3) := by decide +kernel
theorem dX4_answer_87 : decode cX4_answer 87 = .ok (.aload_n 0, 1) := by decide +kernel
theorem dX4_answer_88 : decode cX4_answer 88 = .ok (.getfield 61, 3) := by decide +kernel
theorem dX4_answer_91 : decode cX4_answer 91 = .ok (.iload 5, 2) := by decide +kernel
theorem dX4_answer_93 : decode cX4_answer 93 = .ok (.iaload, 1) := by decide +kernel
theorem dX4_answer_94 : decode cX4_answer 94 = .ok (.iaload, 1) := by decide +kernel
theorem dX4_answer_95 : decode cX4_answer 95 = .ok (.aload_n 0, 1) := by decide +kernel
theorem dX4_answer_96 : decode cX4_answer 96 = .ok (.getfield 52, 3) := by decide +kernel
theorem dX4_answer_99 : decode cX4_answer 99 = .ok (.aload_n 0, 1) := by decide +kernel
theorem dX4_answer_100 : decode cX4_answer 100 = .ok (.getfield 61, 3) := by decide +kernel
theorem dX4_answer_103 : decode cX4_answer 103 = .ok (.iload 4, 2) := by decide +kernel
theorem dX4_answer_105 : decode cX4_answer 105 = .ok (.iaload, 1) := by decide +kernel
theorem dX4_answer_106 : decode cX4_answer 106 = .ok (.iaload, 1) := by decide +kernel
theorem dX4_answer_107 : decode cX4_answer 107 = .ok (.if_icmp .lt 8, 3) := by decide +kernel
theorem dX4_answer_110 : decode cX4_answer 110 = .ok (.iload 5, 2) := by decide +kernel
theorem dX4_answer_112 : decode cX4_answer 112 = .ok (.goto 5, 3) := by decide +kernel
theorem dX4_answer_115 : decode cX4_answer 115 = .ok (.iload 4, 2) := by decide +kernel
theorem dX4_answer_117 : decode cX4_answer 117 = .ok (.istore 4, 2) := by decide +kernel
theorem dX4_answer_119 : decode cX4_answer 119 = .ok (.iinc 5 (-1), 3) := by decide +kernel
theorem dX4_answer_122 : decode cX4_answer 122 = .ok (.goto (-66), 3) := by decide +kernel
theorem dX4_answer_125 : decode cX4_answer 125 = .ok (.iload_n 3, 1) := by decide +kernel
theorem dX4_answer_126 : decode cX4_answer 126 = .ok (.ifCond .lt 7, 3) := by decide +kernel
theorem dX4_answer_129 : decode cX4_answer 129 = .ok (.iload_n 3, 1) := by decide +kernel
theorem dX4_answer_130 : decode cX4_answer 130 = .ok (.goto 19, 3) := by decide +kernel
theorem dX4_answer_133 : decode cX4_answer 133 = .ok (.aload_n 0, 1) := by decide +kernel
theorem dX4_answer_134 : decode cX4_answer 134 = .ok (.aload_n 0, 1) := by decide +kernel
theorem dX4_answer_135 : decode cX4_answer 135 = .ok (.getfield 52, 3) := by decide +kernel
theorem dX4_answer_138 : decode cX4_answer 138 = .ok (.aload_n 0, 1) := by decide +kernel
theorem dX4_answer_139 : decode cX4_answer 139 = .ok (.getfield 61, 3) := by decide +kernel
theorem dX4_answer_142 : decode cX4_answer 142 = .ok (.iload 4, 2) := by decide +kernel
theorem dX4_answer_144 : decode cX4_answer 144 = .ok (.iaload, 1) := by decide +kernel
theorem dX4_answer_145 : decode cX4_answer 145 = .ok (.iaload, 1) := by decide +kernel
theorem dX4_answer_146 : decode cX4_answer 146 = .ok (.invokevirtual 170, 3) := by decide +kernel
theorem dX4_answer_149 : decode cX4_answer 149 = .ok (.istore 5, 2) := by decide +kernel
theorem dX4_answer_151 : decode cX4_answer 151 = .ok (.aload_n 0, 1) := by decide +kernel
theorem dX4_answer_152 : decode cX4_answer 152 = .ok (.iload_n 1, 1) := by decide +kernel
theorem dX4_answer_153 : decode cX4_answer 153 = .ok (.iload 5, 2) := by decide +kernel
theorem dX4_answer_155 : decode cX4_answer 155 = .ok (.invokevirtual 167, 3) := by decide +kernel
theorem dX4_answer_158 : decode cX4_answer 158 = .ok (.istore 6, 2) := by decide +kernel
theorem dX4_answer_160 : decode cX4_answer 160 = .ok (.iload 5, 2) := by decide +kernel
theorem dX4_answer_162 : decode cX4_answer 162 = .ok (.ireturn, 1) := by decide +kernel
theorem dX4_firstOf_0 : decode cX4_firstOf 0 = .ok (.iconst 0, 1) := by decide +kernel
theorem dX4_firstOf_1 : decode cX4_firstOf 1 = .ok (.istore_n 2, 1) := by decide +kernel
theorem dX4_firstOf_2 : decode cX4_firstOf 2 = .ok (.aload_n 0, 1) := by decide +kernel
theorem dX4_firstOf_3 : decode cX4_firstOf 3 = .ok (.getfield 52, 3) := by decide +kernel
theorem dX4_firstOf_6 : decode cX4_firstOf 6 = .ok (.aload_n 0, 1) := by decide +kernel
theorem dX4_firstOf_7 : decode cX4_firstOf 7 = .ok (.getfield 61, 3) := by decide +kernel
theorem dX4_firstOf_10 : decode cX4_firstOf 10 = .ok (.iload_n 2, 1) := by decide +kernel
theorem dX4_firstOf_11 : decode cX4_firstOf 11 = .ok (.iaload, 1) := by decide +kernel
theorem dX4_firstOf_12 : decode cX4_firstOf 12 = .ok (.iaload, 1) := by decide +kernel
theorem dX4_firstOf_13 : decode cX4_firstOf 13 = .ok (.iload_n 1, 1) := by decide +kernel
theorem dX4_firstOf_14 : decode cX4_firstOf 14 = .ok (.if_icmp .eq 9, 3) := by decide +kernel
theorem dX4_firstOf_17 : decode cX4_firstOf 17 = .ok (.iinc 2 1, 3) := by decide +kernel
theorem dX4_firstOf_20 : decode cX4_firstOf 20 = .ok (.goto (-18), 3) := by decide +kernel
theorem dX4_firstOf_23 : decode cX4_firstOf 23 = .ok (.iload_n 2, 1) := by decide +kernel
theorem dX4_firstOf_24 : decode cX4_firstOf 24 = .ok (.ireturn, 1) := by decide +kernel
set_option maxRecDepth 20000 in
theorem ggX4_back_X4_isGame : GoodIn wsX4_back wsX4_isGame := goodIn_r _ [8, 9, 10, 11, 7, 12, 13, 14, 15, 16, 17, 18, 19, 20, 21, 22, 23, 24, 25, 26, 27, 28, 29, 30, 31, 32, 33] (by decide +kernel) (by decide +kernel)
set_option maxRecDepth 20000 in
theorem gX4_back_X4_isGame : GoodIn wsX4_back (wsV RX4 128 RX4 yX4_isGame wsX4_isGame) := goodIn_app (goodIn_of _ (by decide +kernel)) ggX4_back_X4_isGame
theorem dX4_back_0 : decode cX4_back 0 = .ok (.aload_n 0, 1) := by decide +kernel
theorem dX4_back_1 : decode cX4_back 1 = .ok (.iload_n 1, 1) := by decide +kernel
theorem dX4_back_2 : decode cX4_back 2 = .ok (.invokevirtual 128, 3) := by decide +kernel
theorem dX4_back_5 : decode cX4_back 5 = .ok (.ifCond .ne 7, 3) := by decide +kernel
theorem dX4_back_8 : decode cX4_back 8 = .ok (.sipush (-1001), 3) := by decide +kernel
theorem dX4_back_11 : decode cX4_back 11 = .ok (.ireturn, 1) := by decide +kernel
theorem dX4_back_12 : decode cX4_back 12 = .ok (.aload_n 0, 1) := by decide +kernel
theorem dX4_back_13 : decode cX4_back 13 = .ok (.getfield 34, 3) := by decide +kernel
theorem dX4_back_16 : decode cX4_back 16 = .ok (.iload_n 1, 1) := by decide +kernel
theorem dX4_back_17 : decode cX4_back 17 = .ok (.iaload, 1) := by decide +kernel
theorem dX4_back_18 : decode cX4_back 18 = .ok (.ifCond .ne 7, 3) := by decide +kernel
theorem dX4_back_21 : decode cX4_back 21 = .ok (.sipush (-1003), 3) := by decide +kernel
theorem dX4_back_24 : decode cX4_back 24 = .ok (.ireturn, 1) := by decide +kernel
theorem dX4_back_25 : decode cX4_back 25 = .ok (.aload_n 0, 1) := by decide +kernel
theorem dX4_back_26 : decode cX4_back 26 = .ok (.getfield 34, 3) := by decide +kernel
theorem dX4_back_29 : decode cX4_back 29 = .ok (.iload_n 1, 1) := by decide +kernel
theorem dX4_back_30 : decode cX4_back 30 = .ok (.dup2, 1) := by decide +kernel
theorem dX4_back_31 : decode cX4_back 31 = .ok (.iaload, 1) := by decide +kernel
theorem dX4_back_32 : decode cX4_back 32 = .ok (.iconst 1, 1) := by decide +kernel
theorem dX4_back_33 : decode cX4_back 33 = .ok (.isub, 1) := by decide +kernel
theorem dX4_back_34 : decode cX4_back 34 = .ok (.iastore, 1) := by decide +kernel
theorem dX4_back_35 : decode cX4_back 35 = .ok (.aload_n 0, 1) := by decide +kernel
theorem dX4_back_36 : decode cX4_back 36 = .ok (.getfield 16, 3) := by decide +kernel
theorem dX4_back_39 : decode cX4_back 39 = .ok (.iload_n 1, 1) := by decide +kernel
theorem dX4_back_40 : decode cX4_back 40 = .ok (.aload_n 0, 1) := by decide +kernel
theorem dX4_back_41 : decode cX4_back 41 = .ok (.getfield 40, 3) := by decide +kernel
theorem dX4_back_44 : decode cX4_back 44 = .ok (.bipush 100, 2) := by decide +kernel
theorem dX4_back_46 : decode cX4_back 46 = .ok (.iload_n 1, 1) := by decide +kernel
theorem dX4_back_47 : decode cX4_back 47 = .ok (.imul, 1) := by decide +kernel
theorem dX4_back_48 : decode cX4_back 48 = .ok (.aload_n 0, 1) := by decide +kernel
theorem dX4_back_49 : decode cX4_back 49 = .ok (.getfield 34, 3) := by decide +kernel
theorem dX4_back_52 : decode cX4_back 52 = .ok (.iload_n 1, 1) := by decide +kernel
theorem dX4_back_53 : decode cX4_back 53 = .ok (.iaload, 1) := by decide +kernel
theorem dX4_back_54 : decode cX4_back 54 = .ok (.iadd, 1) := by decide +kernel
theorem dX4_back_55 : decode cX4_back 55 = .ok (.iaload, 1) := by decide +kernel
theorem dX4_back_56 : decode cX4_back 56 = .ok (.iastore, 1) := by decide +kernel
theorem dX4_back_57 : decode cX4_back 57 = .ok (.aload_n 0, 1) := by decide +kernel
theorem dX4_back_58 : decode cX4_back 58 = .ok (.getfield 34, 3) := by decide +kernel
theorem dX4_back_61 : decode cX4_back 61 = .ok (.iload_n 1, 1) := by decide +kernel
theorem dX4_back_62 : decode cX4_back 62 = .ok (.iaload, 1) := by decide +kernel
theorem dX4_back_63 : decode cX4_back 63 = .ok (.ireturn, 1) := by decide +kernel
set_option maxRecDepth 20000 in
theorem ggX4_noted_X4_isGame : GoodIn wsX4_noted wsX4_isGame := goodIn_r _ [7, 8, 9, 10, 6, 11, 12, 13, 14, 15, 16, 17, 18, 19, 20, 21, 22, 23, 24, 25, 26, 27, 28, 29, 30, 31, 32] (by decide +kernel) (by decide +kernel)
set_option maxRecDepth 20000 in
theorem gX4_noted_X4_isGame : GoodIn wsX4_noted (wsV RX4 128 RX4 yX4_isGame wsX4_isGame) := goodIn_app (goodIn_of _ (by decide +kernel)) ggX4_noted_X4_isGame
set_option maxRecDepth 20000 in
theorem ggX4_noted_X4_in : GoodIn wsX4_noted wsX4_in := goodIn_r _ [11] (by decide +kernel) (by decide +kernel)
set_option maxRecDepth 20000 in
theorem gX4_noted_X4_in : GoodIn wsX4_noted (va_wsS RX4 111 yX4_in wsX4_in) := goodIn_app (goodIn_of _ (by decide +kernel)) ggX4_noted_X4_in
theorem dX4_noted_0 : decode cX4_noted 0 = .ok (.aload_n 0, 1) := by decide +kernel
theorem dX4_noted_1 : decode cX4_noted 1 = .ok (.iload_n 1, 1) := by decide +kernel
theorem dX4_noted_2 : decode cX4_noted 2 = .ok (.invokevirtual 128, 3) := by decide +kernel
theorem dX4_noted_5 : decode cX4_noted 5 = .ok (.ifCond .ne 9, 3) := by decide +kernel
theorem dX4_noted_8 : decode cX4_noted 8 = .ok (.sipush (-1001), 3) := by decide +kernel
theorem dX4_noted_11 : decode cX4_noted 11 = .ok (.goto 36, 3) := by decide +kernel
theorem dX4_noted_14 : decode cX4_noted 14 = .ok (.iload_n 2, 1) := by decide +kernel
theorem dX4_noted_15 : decode cX4_noted 15 = .ok (.i2l, 1) := by decide +kernel
theorem dX4_noted_16 : decode cX4_noted 16 = .ok (.lconst 0, 1) := by decide +kernel
theorem dX4_noted_17 : decode cX4_noted 17 = .ok (.aload_n 0, 1) := by decide +kernel
theorem dX4_noted_18 : decode cX4_noted 18 = .ok (.getfield 34, 3) := by decide +kernel
theorem dX4_noted_21 : decode cX4_noted 21 = .ok (.iload_n 1, 1) := by decide +kernel
theorem dX4_noted_22 : decode cX4_noted 22 = .ok (.iaload, 1) := by decide +kernel
theorem dX4_noted_23 : decode cX4_noted 23 = .ok (.iconst 1, 1) := by decide +kernel
theorem dX4_noted_24 : decode cX4_noted 24 = .ok (.isub, 1) := by decide +kernel
theorem dX4_noted_25 : decode cX4_noted 25 = .ok (.i2l, 1) := by decide +kernel
theorem dX4_noted_26 : decode cX4_noted 26 = .ok (.invokestatic 111, 3) := by decide +kernel
theorem dX4_noted_29 : decode cX4_noted 29 = .ok (.ifCond .eq 17, 3) := by decide +kernel
theorem dX4_noted_32 : decode cX4_noted 32 = .ok (.aload_n 0, 1) := by decide +kernel
theorem dX4_noted_33 : decode cX4_noted 33 = .ok (.getfield 37, 3) := by decide +kernel
theorem dX4_noted_36 : decode cX4_noted 36 = .ok (.bipush 100, 2) := by decide +kernel
theorem dX4_noted_38 : decode cX4_noted 38 = .ok (.iload_n 1, 1) := by decide +kernel
theorem dX4_noted_39 : decode cX4_noted 39 = .ok (.imul, 1) := by decide +kernel
theorem dX4_noted_40 : decode cX4_noted 40 = .ok (.iload_n 2, 1) := by decide +kernel
theorem dX4_noted_41 : decode cX4_noted 41 = .ok (.iadd, 1) := by decide +kernel
theorem dX4_noted_42 : decode cX4_noted 42 = .ok (.iaload, 1) := by decide +kernel
theorem dX4_noted_43 : decode cX4_noted 43 = .ok (.goto 4, 3) := by decide +kernel
theorem dX4_noted_46 : decode cX4_noted 46 = .ok (.iconst (-1), 1) := by decide +kernel
theorem dX4_noted_47 : decode cX4_noted 47 = .ok (.ireturn, 1) := by decide +kernel
set_option maxRecDepth 20000 in
theorem ggX4_isSet_X4_in : GoodIn wsX4_isSet wsX4_in := goodIn_r _ [5] (by decide +kernel) (by decide +kernel)
set_option maxRecDepth 20000 in
theorem gX4_isSet_X4_in : GoodIn wsX4_isSet (va_wsS RX4 111 yX4_in wsX4_in) := goodIn_app (goodIn_of _ (by decide +kernel)) ggX4_isSet_X4_in
theorem dX4_isSet_0 : decode cX4_isSet 0 = .ok (.iload_n 1, 1) := by decide +kernel
theorem dX4_isSet_1 : decode cX4_isSet 1 = .ok (.i2l, 1) := by decide +kernel
theorem dX4_isSet_2 : decode cX4_isSet 2 = .ok (.lconst 1, 1) := by decide +kernel
theorem dX4_isSet_3 : decode cX4_isSet 3 = .ok (.iconst 1, 1) := by decide +kernel
theorem dX4_isSet_4 : decode cX4_isSet 4 = .ok (.aload_n 0, 1) := by decide +kernel
theorem dX4_isSet_5 : decode cX4_isSet 5 = .ok (.getfield 108, 3) := by decide +kernel
theorem dX4_isSet_8 : decode cX4_isSet 8 = .ok (.ishl, 1) := by decide +kernel
theorem dX4_isSet_9 : decode cX4_isSet 9 = .ok (.iconst 1, 1) := by decide +kernel
theorem dX4_isSet_10 : decode cX4_isSet 10 = .ok (.isub, 1) := by decide +kernel
theorem dX4_isSet_11 : decode cX4_isSet 11 = .ok (.i2l, 1) := by decide +kernel
theorem dX4_isSet_12 : decode cX4_isSet 12 = .ok (.invokestatic 111, 3) := by decide +kernel
theorem dX4_isSet_15 : decode cX4_isSet 15 = .ok (.ireturn, 1) := by decide +kernel
set_option maxRecDepth 20000 in
theorem ggX4_sumOf_X4_worthOf : GoodIn wsX4_sumOf wsX4_worthOf := goodIn_r _ [6, 7, 8, 9, 10, 11, 5, 12, 13, 14, 15, 16, 17, 18, 19, 20, 21, 22, 23, 24, 25, 26, 27, 28, 29, 30, 31, 32, 33, 34, 35, 36, 37, 38, 39, 40, 41, 42, 43, 44, 45, 46, 47, 48, 49, 50, 51, 52, 53, 54, 55, 56, 57, 58, 59, 60, 61, 62, 63, 64, 65, 66, 67, 68, 69, 70, 71, 72, 73, 74, 75, 76, 77, 78, 79, 80, 81, 82, 83, 84, 85, 86] (by decide +kernel) (by decide +kernel)
set_option maxRecDepth 20000 in
theorem gX4_sumOf_X4_worthOf : GoodIn wsX4_sumOf (wsV RX4 162 RX4 yX4_worthOf wsX4_worthOf) := goodIn_app (goodIn_of _ (by decide +kernel)) ggX4_sumOf_X4_worthOf
theorem dX4_sumOf_0 : decode cX4_sumOf 0 = .ok (.iconst 0, 1) := by decide +kernel
theorem dX4_sumOf_1 : decode cX4_sumOf 1 = .ok (.istore_n 2, 1) := by decide +kernel
theorem dX4_sumOf_2 : decode cX4_sumOf 2 = .ok (.iconst 0, 1) := by decide +kernel
theorem dX4_sumOf_3 : decode cX4_sumOf 3 = .ok (.istore_n 3, 1) := by decide +kernel
theorem dX4_sumOf_4 : decode cX4_sumOf 4 = .ok (.iload_n 3, 1) := by decide +kernel
theorem dX4_sumOf_5 : decode cX4_sumOf 5 = .ok (.aload_n 0, 1) := by decide +kernel
theorem dX4_sumOf_6 : decode cX4_sumOf 6 = .ok (.getfield 108, 3) := by decide +kernel
theorem dX4_sumOf_9 : decode cX4_sumOf 9 = .ok (.if_icmp .ge 30, 3) := by decide +kernel
theorem dX4_sumOf_12 : decode cX4_sumOf 12 = .ok (.iload_n 2, 1) := by decide +kernel
theorem dX4_sumOf_13 : decode cX4_sumOf 13 = .ok (.iload_n 1, 1) := by decide +kernel
theorem dX4_sumOf_14 : decode cX4_sumOf 14 = .ok (.iload_n 3, 1) := by decide +kernel
theorem dX4_sumOf_15 : decode cX4_sumOf 15 = .ok (.ishr, 1) := by decide +kernel
theorem dX4_sumOf_16 : decode cX4_sumOf 16 = .ok (.iconst 1, 1) := by decide +kernel
theorem dX4_sumOf_17 : decode cX4_sumOf 17 = .ok (.iand, 1) := by decide +kernel
theorem dX4_sumOf_18 : decode cX4_sumOf 18 = .ok (.iconst 1, 1) := by decide +kernel
theorem dX4_sumOf_19 : decode cX4_sumOf 19 = .ok (.if_icmp .ne 11, 3) := by decide +kernel
theorem dX4_sumOf_22 : decode cX4_sumOf 22 = .ok (.aload_n 0, 1) := by decide +kernel
theorem dX4_sumOf_23 : decode cX4_sumOf 23 = .ok (.iload_n 3, 1) := by decide +kernel
theorem dX4_sumOf_24 : decode cX4_sumOf 24 = .ok (.invokevirtual 162, 3) := by decide +kernel
theorem dX4_sumOf_27 : decode cX4_sumOf 27 = .ok (.goto 4, 3) := by decide +kernel
theorem dX4_sumOf_30 : decode cX4_sumOf 30 = .ok (.iconst 0, 1) := by decide +kernel
theorem dX4_sumOf_31 : decode cX4_sumOf 31 = .ok (.ixor, 1) := by decide +kernel
theorem dX4_sumOf_32 : decode cX4_sumOf 32 = .ok (.istore_n 2, 1) := by decide +kernel
theorem dX4_sumOf_33 : decode cX4_sumOf 33 = .ok (.iinc 3 1, 3) := by decide +kernel
theorem dX4_sumOf_36 : decode cX4_sumOf 36 = .ok (.goto (-32), 3) := by decide +kernel
theorem dX4_sumOf_39 : decode cX4_sumOf 39 = .ok (.iload_n 2, 1) := by decide +kernel
theorem dX4_sumOf_40 : decode cX4_sumOf 40 = .ok (.ireturn, 1) := by decide +kernel
set_option maxRecDepth 20000 in
theorem ggX4_sum_X4_isSet : GoodIn wsX4_sum wsX4_isSet := goodIn_r _ [5, 6, 7, 8, 4, 9, 77, 78, 79, 80, 81, 82, 83, 84, 85, 86, 87, 88, 89, 90, 91, 92, 93, 94, 95, 96, 97] (by decide +kernel) (by decide +kernel)
set_option maxRecDepth 20000 in
theorem gX4_sum_X4_isSet : GoodIn wsX4_sum (wsV RX4 173 RX4 yX4_isSet wsX4_isSet) := goodIn_app (goodIn_of _ (by decide +kernel)) ggX4_sum_X4_isSet
set_option maxRecDepth 20000 in
theorem ggX4_sum_X4_sumOf : GoodIn wsX4_sum wsX4_sumOf := goodIn_r _ [13, 6, 14, 15, 16, 4, 17, 18, 19, 20, 21, 22, 23, 24, 25, 26, 27, 28, 29, 30, 31, 32, 33, 34, 35, 36, 37, 38, 39, 40, 41, 42, 43, 44, 45, 46, 47, 48, 49, 50, 51, 52, 53, 54, 55, 56, 57, 58, 59, 60, 61, 62, 63, 64, 65, 66, 67, 68, 69, 70, 71, 72, 73, 74, 75, 76, 77, 78, 79, 80, 81, 82, 83, 84, 85, 86, 87, 88, 89, 90, 91, 92, 93, 94, 95, 96, 97] (by decide +kernel) (by decide +kernel)
set_option maxRecDepth 20000 in
theorem gX4_sum_X4_sumOf : GoodIn wsX4_sum (wsV RX4 176 RX4 yX4_sumOf wsX4_sumOf) := goodIn_app (goodIn_of _ (by decide +kernel)) ggX4_sum_X4_sumOf
theorem dX4_sum_0 : decode cX4_sum 0 = .ok (.aload_n 0, 1) := by decide +kernel
theorem dX4_sum_1 : decode cX4_sum 1 = .ok (.iload_n 1, 1) := by decide +kernel
theorem dX4_sum_2 : decode cX4_sum 2 = .ok (.invokevirtual 173, 3) := by decide +kernel
theorem dX4_sum_5 : decode cX4_sum 5 = .ok (.ifCond .eq 11, 3) := by decide +kernel
theorem dX4_sum_8 : decode cX4_sum 8 = .ok (.aload_n 0, 1) := by decide +kernel
theorem dX4_sum_9 : decode cX4_sum 9 = .ok (.iload_n 1, 1) := by decide +kernel
theorem dX4_sum_10 : decode cX4_sum 10 = .ok (.invokevirtual 176, 3) := by decide +kernel
theorem dX4_sum_13 : decode cX4_sum 13 = .ok (.goto 6, 3) := by decide +kernel
theorem dX4_sum_16 : decode cX4_sum 16 = .ok (.sipush (-1002), 3) := by decide +kernel
theorem dX4_sum_19 : decode cX4_sum 19 = .ok (.ireturn, 1) := by decide +kernel
set_option maxRecDepth 20000 in
theorem ggX4_inSum_X4_isSet : GoodIn wsX4_inSum wsX4_isSet := goodIn_r _ [8, 1, 9, 10, 7, 11, 81, 82, 83, 84, 85, 86, 87, 88, 89, 90, 91, 92, 93, 94, 95, 96, 97, 98, 99, 100, 101] (by decide +kernel) (by decide +kernel)
set_option maxRecDepth 20000 in
theorem gX4_inSum_X4_isSet : GoodIn wsX4_inSum (wsV RX4 173 RX4 yX4_isSet wsX4_isSet) := goodIn_app (goodIn_of _ (by decide +kernel)) ggX4_inSum_X4_isSet
set_option maxRecDepth 20000 in
theorem ggX4_inSum_X4_in : GoodIn wsX4_inSum wsX4_in := goodIn_r _ [11] (by decide +kernel) (by decide +kernel)
set_option maxRecDepth 20000 in
theorem gX4_inSum_X4_in : GoodIn wsX4_inSum (va_wsS RX4 111 yX4_in wsX4_in) := goodIn_app (goodIn_of _ (by decide +kernel)) ggX4_inSum_X4_in
set_option maxRecDepth 20000 in
theorem ggX4_inSum_X4_sumOf : GoodIn wsX4_inSum wsX4_sumOf := goodIn_r _ [15, 1, 16, 17, 18, 7, 19, 2, 20, 21, 22, 23, 24, 25, 26, 27, 28, 29, 30, 31, 32, 33, 34, 35, 36, 37, 38, 39, 40, 3, 41, 42, 43, 44, 45, 46, 47, 48, 49, 50, 51, 52, 53, 54, 55, 56, 57, 58, 59, 60, 61, 62, 63, 64, 65, 66, 67, 68, 69, 70, 71, 72, 73, 74, 75, 76, 81, 82, 83, 84, 85, 86, 87, 88, 89, 90, 91, 92, 93, 94, 95, 96, 97, 98, 99, 100, 101] (by decide +kernel) (by decide +kernel)
set_option maxRecDepth 20000 in
theorem gX4_inSum_X4_sumOf : GoodIn wsX4_inSum (wsV RX4 176 RX4 yX4_sumOf wsX4_sumOf) := goodIn_app (goodIn_of _ (by decide +kernel)) ggX4_inSum_X4_sumOf
set_option maxRecDepth 20000 in
theorem ggX4_inSum_X4_worthOf : GoodIn wsX4_inSum wsX4_worthOf := goodIn_r _ [19, 2, 20, 21, 22, 23, 7, 24, 25, 26, 27, 28, 29, 30, 31, 32, 33, 34, 35, 36, 37, 38, 39, 40, 3, 41, 42, 43, 44, 45, 46, 47, 48, 49, 50, 51, 52, 53, 54, 55, 56, 57, 58, 59, 60, 61, 62, 63, 64, 65, 66, 67, 68, 69, 70, 71, 72, 73, 74, 75, 76, 81, 82, 83, 84, 85, 86, 87, 88, 89, 90, 91, 92, 93, 94, 95, 96, 97, 98, 99, 100, 101] (by decide +kernel) (by decide +kernel)
set_option maxRecDepth 20000 in
theorem gX4_inSum_X4_worthOf : GoodIn wsX4_inSum (wsV RX4 162 RX4 yX4_worthOf wsX4_worthOf) := goodIn_app (goodIn_of _ (by decide +kernel)) ggX4_inSum_X4_worthOf
set_option maxRecDepth 20000 in
theorem ggX4_inSum_X4_bitesOf : GoodIn wsX4_inSum wsX4_bitesOf := goodIn_r _ [80, 20, 39, 43, 44, 45, 7, 46, 30, 31, 47, 32, 33, 48, 49, 50, 51, 52, 53, 54, 55, 56, 57, 58, 59, 60, 61, 62, 63, 64, 65, 66, 67, 68, 3, 69, 70, 71, 72, 73, 74, 75, 76, 81, 82, 83, 84, 85, 86, 87, 88, 89, 90, 91, 92, 93, 94, 95, 96, 97, 98, 99, 100, 101] (by decide +kernel) (by decide +kernel)
set_option maxRecDepth 20000 in
theorem gX4_inSum_X4_bitesOf : GoodIn wsX4_inSum (wsV RX4 137 RX4 yX4_bitesOf wsX4_bitesOf) := goodIn_app (goodIn_of _ (by decide +kernel)) ggX4_inSum_X4_bitesOf
theorem dX4_inSum_0 : decode cX4_inSum 0 = .ok (.aload_n 0, 1) := by decide +kernel
theorem dX4_inSum_1 : decode cX4_inSum 1 = .ok (.iload_n 1, 1) := by decide +kernel
theorem dX4_inSum_2 : decode cX4_inSum 2 = .ok (.invokevirtual 173, 3) := by decide +kernel
theorem dX4_inSum_5 : decode cX4_inSum 5 = .ok (.ifCond .eq 13, 3) := by decide +kernel
theorem dX4_inSum_8 : decode cX4_inSum 8 = .ok (.iload_n 2, 1) := by decide +kernel
theorem dX4_inSum_9 : decode cX4_inSum 9 = .ok (.i2l, 1) := by decide +kernel
theorem dX4_inSum_10 : decode cX4_inSum 10 = .ok (.lconst 0, 1) := by decide +kernel
theorem dX4_inSum_11 : decode cX4_inSum 11 = .ok (.lconst 1, 1) := by decide +kernel
theorem dX4_inSum_12 : decode cX4_inSum 12 = .ok (.invokestatic 111, 3) := by decide +kernel
theorem dX4_inSum_15 : decode cX4_inSum 15 = .ok (.ifCond .ne 7, 3) := by decide +kernel
theorem dX4_inSum_18 : decode cX4_inSum 18 = .ok (.sipush (-1002), 3) := by decide +kernel
theorem dX4_inSum_21 : decode cX4_inSum 21 = .ok (.ireturn, 1) := by decide +kernel
theorem dX4_inSum_22 : decode cX4_inSum 22 = .ok (.aload_n 0, 1) := by decide +kernel
theorem dX4_inSum_23 : decode cX4_inSum 23 = .ok (.iload_n 1, 1) := by decide +kernel
theorem dX4_inSum_24 : decode cX4_inSum 24 = .ok (.invokevirtual 176, 3) := by decide +kernel
theorem dX4_inSum_27 : decode cX4_inSum 27 = .ok (.istore_n 3, 1) := by decide +kernel
theorem dX4_inSum_28 : decode cX4_inSum 28 = .ok (.iconst 0, 1) := by decide +kernel
theorem dX4_inSum_29 : decode cX4_inSum 29 = .ok (.istore 4, 2) := by decide +kernel
theorem dX4_inSum_31 : decode cX4_inSum 31 = .ok (.iload 4, 2) := by decide +kernel
theorem dX4_inSum_33 : decode cX4_inSum 33 = .ok (.aload_n 0, 1) := by decide +kernel
theorem dX4_inSum_34 : decode cX4_inSum 34 = .ok (.getfield 108, 3) := by decide +kernel
theorem dX4_inSum_37 : decode cX4_inSum 37 = .ok (.if_icmp .ge 82, 3) := by decide +kernel
theorem dX4_inSum_40 : decode cX4_inSum 40 = .ok (.iload_n 1, 1) := by decide +kernel
theorem dX4_inSum_41 : decode cX4_inSum 41 = .ok (.iload 4, 2) := by decide +kernel
theorem dX4_inSum_43 : decode cX4_inSum 43 = .ok (.ishr, 1) := by decide +kernel
theorem dX4_inSum_44 : decode cX4_inSum 44 = .ok (.iconst 1, 1) := by decide +kernel
theorem dX4_inSum_45 : decode cX4_inSum 45 = .ok (.iand, 1) := by decide +kernel
theorem dX4_inSum_46 : decode cX4_inSum 46 = .ok (.iconst 1, 1) := by decide +kernel
theorem dX4_inSum_47 : decode cX4_inSum 47 = .ok (.if_icmp .ne 66, 3) := by decide +kernel
theorem dX4_inSum_50 : decode cX4_inSum 50 = .ok (.iload_n 3, 1) := by decide +kernel
theorem dX4_inSum_51 : decode cX4_inSum 51 = .ok (.aload_n 0, 1) := by decide +kernel
theorem dX4_inSum_52 : decode cX4_inSum 52 = .ok (.iload 4, 2) := by decide +kernel
theorem dX4_inSum_54 : decode cX4_inSum 54 = .ok (.invokevirtual 162, 3) := by decide +kernel
theorem dX4_inSum_57 : decode cX4_inSum 57 = .ok (.ixor, 1) := by decide +kernel
theorem dX4_inSum_58 : decode cX4_inSum 58 = .ok (.istore 5, 2) := by decide +kernel
theorem dX4_inSum_60 : decode cX4_inSum 60 = .ok (.aload_n 0, 1) := by decide +kernel
theorem dX4_inSum_61 : decode cX4_inSum 61 = .ok (.iload 4, 2) := by decide +kernel
theorem dX4_inSum_63 : decode cX4_inSum 63 = .ok (.invokevirtual 137, 3) := by decide +kernel
theorem dX4_inSum_66 : decode cX4_inSum 66 = .ok (.istore 6, 2) := by decide +kernel
theorem dX4_inSum_68 : decode cX4_inSum 68 = .ok (.iconst 0, 1) := by decide +kernel
theorem dX4_inSum_69 : decode cX4_inSum 69 = .ok (.istore 7, 2) := by decide +kernel
theorem dX4_inSum_71 : decode cX4_inSum 71 = .ok (.iload 7, 2) := by decide +kernel
theorem dX4_inSum_73 : decode cX4_inSum 73 = .ok (.iload 6, 2) := by decide +kernel
theorem dX4_inSum_75 : decode cX4_inSum 75 = .ok (.if_icmp .ge 38, 3) := by decide +kernel
theorem dX4_inSum_78 : decode cX4_inSum 78 = .ok (.aload_n 0, 1) := by decide +kernel
theorem dX4_inSum_79 : decode cX4_inSum 79 = .ok (.getfield 55, 3) := by decide +kernel
theorem dX4_inSum_82 : decode cX4_inSum 82 = .ok (.aload_n 0, 1) := by decide +kernel
theorem dX4_inSum_83 : decode cX4_inSum 83 = .ok (.getfield 61, 3) := by decide +kernel
theorem dX4_inSum_86 : decode cX4_inSum 86 = .ok (.iload 7, 2) := by decide +kernel
theorem dX4_inSum_88 : decode cX4_inSum 88 = .ok (.iaload, 1) := by decide +kernel
theorem dX4_inSum_89 : decode cX4_inSum 89 = .ok (.iaload, 1) := by decide +kernel
theorem dX4_inSum_90 : decode cX4_inSum 90 = .ok (.iload 5, 2) := by decide +kernel
theorem dX4_inSum_92 : decode cX4_inSum 92 = .ok (.if_icmp .ne 15, 3) := by decide +kernel
theorem dX4_inSum_95 : decode cX4_inSum 95 = .ok (.iload_n 2, 1) := by decide +kernel
theorem dX4_inSum_96 : decode cX4_inSum 96 = .ok (.ifCond .ne 8, 3) := by decide +kernel
theorem dX4_inSum_99 : decode cX4_inSum 99 = .ok (.iload 4, 2) := by decide +kernel
theorem dX4_inSum_101 : decode cX4_inSum 101 = .ok (.goto 5, 3) := by decide +kernel
theorem dX4_inSum_104 : decode cX4_inSum 104 = .ok (.iload 7, 2) := by decide +kernel
theorem dX4_inSum_106 : decode cX4_inSum 106 = .ok (.ireturn, 1) := by decide +kernel
theorem dX4_inSum_107 : decode cX4_inSum 107 = .ok (.iinc 7 1, 3) := by decide +kernel
theorem dX4_inSum_110 : decode cX4_inSum 110 = .ok (.goto (-39), 3) := by decide +kernel
theorem dX4_inSum_113 : decode cX4_inSum 113 = .ok (.iinc 4 1, 3) := by decide +kernel
theorem dX4_inSum_116 : decode cX4_inSum 116 = .ok (.goto (-85), 3) := by decide +kernel
theorem dX4_inSum_119 : decode cX4_inSum 119 = .ok (.iconst (-1), 1) := by decide +kernel
theorem dX4_inSum_120 : decode cX4_inSum 120 = .ok (.ireturn, 1) := by decide +kernel
