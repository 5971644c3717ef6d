set_option maxRecDepth 20000 in
theorem gX5_costsOf_X5_asksOf : GoodIn wsX5_costsOf (wsV RX5 182 RX5 yX5_asksOf wsX5_asksOf) := goodIn_app (goodIn_of _ (by decide +kernel)) ggX5_costsOf_X5_asksOf
theorem dX5_costsOf_0 : decode cX5_costsOf 0 = .ok (.aload_n 0, 1) := by decide +kernel
theorem dX5_costsOf_1 : decode cX5_costsOf 1 = .ok (.iconst 2, 1) := by decide +kernel
theorem dX5_costsOf_2 : decode cX5_costsOf 2 = .ok (.iload_n 1, 1) := by decide +kernel
theorem dX5_costsOf_3 : decode cX5_costsOf 3 = .ok (.iload_n 2, 1) := by decide +kernel
theorem dX5_costsOf_4 : decode cX5_costsOf 4 = .ok (.invokevirtual 182, 3) := by decide +kernel
theorem dX5_costsOf_7 : decode cX5_costsOf 7 = .ok (.istore_n 3, 1) := by decide +kernel
theorem dX5_costsOf_8 : decode cX5_costsOf 8 = .ok (.aload_n 0, 1) := by decide +kernel
theorem dX5_costsOf_9 : decode cX5_costsOf 9 = .ok (.getfield 7, 3) := by decide +kernel
theorem dX5_costsOf_12 : decode cX5_costsOf 12 = .ok (.iload_n 1, 1) := by decide +kernel
theorem dX5_costsOf_13 : decode cX5_costsOf 13 = .ok (.iaload, 1) := by decide +kernel
theorem dX5_costsOf_14 : decode cX5_costsOf 14 = .ok (.tableswitch 47 2 5 #[30, 47, 34, 45], 30) := by decide +kernel
theorem dX5_costsOf_44 : decode cX5_costsOf 44 = .ok (.iconst 2, 1) := by decide +kernel
theorem dX5_costsOf_45 : decode cX5_costsOf 45 = .ok (.iload_n 3, 1) := by decide +kernel
theorem dX5_costsOf_46 : decode cX5_costsOf 46 = .ok (.imul, 1) := by decide +kernel
theorem dX5_costsOf_47 : decode cX5_costsOf 47 = .ok (.ireturn, 1) := by decide +kernel
theorem dX5_costsOf_48 : decode cX5_costsOf 48 = .ok (.iconst 2, 1) := by decide +kernel
theorem dX5_costsOf_49 : decode cX5_costsOf 49 = .ok (.iload_n 3, 1) := by decide +kernel
theorem dX5_costsOf_50 : decode cX5_costsOf 50 = .ok (.imul, 1) := by decide +kernel
theorem dX5_costsOf_51 : decode cX5_costsOf 51 = .ok (.aload_n 0, 1) := by decide +kernel
theorem dX5_costsOf_52 : decode cX5_costsOf 52 = .ok (.getfield 13, 3) := by decide +kernel
theorem dX5_costsOf_55 : decode cX5_costsOf 55 = .ok (.iload_n 1, 1) := by decide +kernel
theorem dX5_costsOf_56 : decode cX5_costsOf 56 = .ok (.iaload, 1) := by decide +kernel
theorem dX5_costsOf_57 : decode cX5_costsOf 57 = .ok (.isub, 1) := by decide +kernel
theorem dX5_costsOf_58 : decode cX5_costsOf 58 = .ok (.ireturn, 1) := by decide +kernel
theorem dX5_costsOf_59 : decode cX5_costsOf 59 = .ok (.iconst 0, 1) := by decide +kernel
theorem dX5_costsOf_60 : decode cX5_costsOf 60 = .ok (.ireturn, 1) := by decide +kernel
theorem dX5_costsOf_61 : decode cX5_costsOf 61 = .ok (.iload_n 3, 1) := by decide +kernel
theorem dX5_costsOf_62 : decode cX5_costsOf 62 = .ok (.ireturn, 1) := by decide +kernel
set_option maxRecDepth 20000 in
theorem ggX5_theCoin_X5_takesOf : GoodIn wsX5_theCoin wsX5_takesOf := goodIn_r _ [6, 7, 8, 9, 10, 11, 12, 5, 13, 14, 15, 1, 16, 17, 18, 19, 20, 21, 22, 23, 24, 25, 26, 27, 28, 29, 30, 31, 32, 33, 34, 35, 36, 37, 38, 39, 40, 41, 42, 43, 44, 45, 46, 47, 48, 49, 50, 51, 52, 53, 54, 55, 56, 57, 58, 59, 60, 61, 62, 63, 64, 65, 66, 67, 68, 69, 70, 71] rfl (by decide +kernel)
set_option maxRecDepth 20000 in
theorem gX5_theCoin_X5_takesOf : GoodIn wsX5_theCoin (wsV RX5 185 RX5 yX5_takesOf wsX5_takesOf) := goodIn_app (goodIn_of _ (by decide +kernel)) ggX5_theCoin_X5_takesOf
theorem dX5_theCoin_0 : decode cX5_theCoin 0 = .ok (.aload_n 0, 1) := by decide +kernel
theorem dX5_theCoin_1 : decode cX5_theCoin 1 = .ok (.iload_n 1, 1) := by decide +kernel
theorem dX5_theCoin_2 : decode cX5_theCoin 2 = .ok (.invokevirtual 185, 3) := by decide +kernel
theorem dX5_theCoin_5 : decode cX5_theCoin 5 = .ok (.istore_n 2, 1) := by decide +kernel
theorem dX5_theCoin_6 : decode cX5_theCoin 6 = .ok (.iconst (-1), 1) := by decide +kernel
theorem dX5_theCoin_7 : decode cX5_theCoin 7 = .ok (.istore_n 3, 1) := by decide +kernel
theorem dX5_theCoin_8 : decode cX5_theCoin 8 = .ok (.iconst 0, 1) := by decide +kernel
theorem dX5_theCoin_9 : decode cX5_theCoin 9 = .ok (.istore 4, 2) := by decide +kernel
theorem dX5_theCoin_11 : decode cX5_theCoin 11 = .ok (.iconst (-1), 1) := by decide +kernel
theorem dX5_theCoin_12 : decode cX5_theCoin 12 = .ok (.istore 5, 2) := by decide +kernel
theorem dX5_theCoin_14 : decode cX5_theCoin 14 = .ok (.iconst 0, 1) := by decide +kernel
theorem dX5_theCoin_15 : decode cX5_theCoin 15 = .ok (.istore 6, 2) := by decide +kernel
theorem dX5_theCoin_17 : decode cX5_theCoin 17 = .ok (.iconst 0, 1) := by decide +kernel
theorem dX5_theCoin_18 : decode cX5_theCoin 18 = .ok (.istore 7, 2) := by decide +kernel
theorem dX5_theCoin_20 : decode cX5_theCoin 20 = .ok (.iload 7, 2) := by decide +kernel
theorem dX5_theCoin_22 : decode cX5_theCoin 22 = .ok (.bipush 6, 2) := by decide +kernel
theorem dX5_theCoin_24 : decode cX5_theCoin 24 = .ok (.if_icmp .ge 133, 3) := by decide +kernel
theorem dX5_theCoin_27 : decode cX5_theCoin 27 = .ok (.aload_n 0, 1) := by decide +kernel
theorem dX5_theCoin_28 : decode cX5_theCoin 28 = .ok (.getfield 19, 3) := by decide +kernel
theorem dX5_theCoin_31 : decode cX5_theCoin 31 = .ok (.iconst 2, 1) := by decide +kernel
theorem dX5_theCoin_32 : decode cX5_theCoin 32 = .ok (.iload 7, 2) := by decide +kernel
theorem dX5_theCoin_34 : decode cX5_theCoin 34 = .ok (.imul, 1) := by decide +kernel
theorem dX5_theCoin_35 : decode cX5_theCoin 35 = .ok (.iconst 1, 1) := by decide +kernel
theorem dX5_theCoin_36 : decode cX5_theCoin 36 = .ok (.iadd, 1) := by decide +kernel
theorem dX5_theCoin_37 : decode cX5_theCoin 37 = .ok (.iaload, 1) := by decide +kernel
theorem dX5_theCoin_38 : decode cX5_theCoin 38 = .ok (.ifCond .le 113, 3) := by decide +kernel
theorem dX5_theCoin_41 : decode cX5_theCoin 41 = .ok (.aload_n 0, 1) := by decide +kernel
theorem dX5_theCoin_42 : decode cX5_theCoin 42 = .ok (.getfield 19, 3) := by decide +kernel
theorem dX5_theCoin_45 : decode cX5_theCoin 45 = .ok (.iconst 2, 1) := by decide +kernel
theorem dX5_theCoin_46 : decode cX5_theCoin 46 = .ok (.iload 7, 2) := by decide +kernel
theorem dX5_theCoin_48 : decode cX5_theCoin 48 = .ok (.imul, 1) := by decide +kernel
theorem dX5_theCoin_49 : decode cX5_theCoin 49 = .ok (.iaload, 1) := by decide +kernel
theorem dX5_theCoin_50 : decode cX5_theCoin 50 = .ok (.istore 8, 2) := by decide +kernel
theorem dX5_theCoin_52 : decode cX5_theCoin 52 = .ok (.iload 8, 2) := by decide +kernel
theorem dX5_theCoin_54 : decode cX5_theCoin 54 = .ok (.iload_n 2, 1) := by decide +kernel
theorem dX5_theCoin_55 : decode cX5_theCoin 55 = .ok (.if_icmp .gt 19, 3) := by decide +kernel
theorem dX5_theCoin_58 : decode cX5_theCoin 58 = .ok (.iload_n 3, 1) := by decide +kernel
theorem dX5_theCoin_59 : decode cX5_theCoin 59 = .ok (.iconst (-1), 1) := by decide +kernel
theorem dX5_theCoin_60 : decode cX5_theCoin 60 = .ok (.if_icmp .eq 10, 3) := by decide +kernel
theorem dX5_theCoin_63 : decode cX5_theCoin 63 = .ok (.iload 8, 2) := by decide +kernel
theorem dX5_theCoin_65 : decode cX5_theCoin 65 = .ok (.iload 4, 2) := by decide +kernel
theorem dX5_theCoin_67 : decode cX5_theCoin 67 = .ok (.if_icmp .le 7, 3) := by decide +kernel
theorem dX5_theCoin_70 : decode cX5_theCoin 70 = .ok (.iconst 1, 1) := by decide +kernel
theorem dX5_theCoin_71 : decode cX5_theCoin 71 = .ok (.goto 4, 3) := by decide +kernel
theorem dX5_theCoin_74 : decode cX5_theCoin 74 = .ok (.iconst 0, 1) := by decide +kernel
theorem dX5_theCoin_75 : decode cX5_theCoin 75 = .ok (.istore 9, 2) := by decide +kernel
theorem dX5_theCoin_77 : decode cX5_theCoin 77 = .ok (.iload 9, 2) := by decide +kernel
theorem dX5_theCoin_79 : decode cX5_theCoin 79 = .ok (.ifCond .eq 8, 3) := by decide +kernel
theorem dX5_theCoin_82 : decode cX5_theCoin 82 = .ok (.iload 7, 2) := by decide +kernel
theorem dX5_theCoin_84 : decode cX5_theCoin 84 = .ok (.goto 4, 3) := by decide +kernel
theorem dX5_theCoin_87 : decode cX5_theCoin 87 = .ok (.iload_n 3, 1) := by decide +kernel
theorem dX5_theCoin_88 : decode cX5_theCoin 88 = .ok (.istore_n 3, 1) := by decide +kernel
theorem dX5_theCoin_89 : decode cX5_theCoin 89 = .ok (.iload 9, 2) := by decide +kernel
theorem dX5_theCoin_91 : decode cX5_theCoin 91 = .ok (.ifCond .eq 8, 3) := by decide +kernel
theorem dX5_theCoin_94 : decode cX5_theCoin 94 = .ok (.iload 8, 2) := by decide +kernel
theorem dX5_theCoin_96 : decode cX5_theCoin 96 = .ok (.goto 5, 3) := by decide +kernel
theorem dX5_theCoin_99 : decode cX5_theCoin 99 = .ok (.iload 4, 2) := by decide +kernel
theorem dX5_theCoin_101 : decode cX5_theCoin 101 = .ok (.istore 4, 2) := by decide +kernel
theorem dX5_theCoin_103 : decode cX5_theCoin 103 = .ok (.iload 5, 2) := by decide +kernel
theorem dX5_theCoin_105 : decode cX5_theCoin 105 = .ok (.iconst (-1), 1) := by decide +kernel
theorem dX5_theCoin_106 : decode cX5_theCoin 106 = .ok (.if_icmp .eq 10, 3) := by decide +kernel
theorem dX5_theCoin_109 : decode cX5_theCoin 109 = .ok (.iload 8, 2) := by decide +kernel
theorem dX5_theCoin_111 : decode cX5_theCoin 111 = .ok (.iload 6, 2) := by decide +kernel
theorem dX5_theCoin_113 : decode cX5_theCoin 113 = .ok (.if_icmp .ge 7, 3) := by decide +kernel
theorem dX5_theCoin_116 : decode cX5_theCoin 116 = .ok (.iconst 1, 1) := by decide +kernel
theorem dX5_theCoin_117 : decode cX5_theCoin 117 = .ok (.goto 4, 3) := by decide +kernel
theorem dX5_theCoin_120 : decode cX5_theCoin 120 = .ok (.iconst 0, 1) := by decide +kernel
theorem dX5_theCoin_121 : decode cX5_theCoin 121 = .ok (.istore 10, 2) := by decide +kernel
theorem dX5_theCoin_123 : decode cX5_theCoin 123 = .ok (.iload 10, 2) := by decide +kernel
theorem dX5_theCoin_125 : decode cX5_theCoin 125 = .ok (.ifCond .eq 8, 3) := by decide +kernel
theorem dX5_theCoin_128 : decode cX5_theCoin 128 = .ok (.iload 7, 2) := by decide +kernel
theorem dX5_theCoin_130 : decode cX5_theCoin 130 = .ok (.goto 5, 3) := by decide +kernel
theorem dX5_theCoin_133 : decode cX5_theCoin 133 = .ok (.iload 5, 2) := by decide +kernel
theorem dX5_theCoin_135 : decode cX5_theCoin 135 = .ok (.istore 5, 2) := by decide +kernel
theorem dX5_theCoin_137 : decode cX5_theCoin 137 = .ok (.iload 10, 2) := by decide +kernel
theorem dX5_theCoin_139 : decode cX5_theCoin 139 = .ok (.ifCond .eq 8, 3) := by decide +kernel
theorem dX5_theCoin_142 : decode cX5_theCoin 142 = .ok (.iload 8, 2) := by decide +kernel
theorem dX5_theCoin_144 : decode cX5_theCoin 144 = .ok (.goto 5, 3) := by decide +kernel
theorem dX5_theCoin_147 : decode cX5_theCoin 147 = .ok (.iload 6, 2) := by decide +kernel
theorem dX5_theCoin_149 : decode cX5_theCoin 149 = .ok (.istore 6, 2) := by decide +kernel
theorem dX5_theCoin_151 : decode cX5_theCoin 151 = .ok (.iinc 7 1, 3) := by decide +kernel
theorem dX5_theCoin_154 : decode cX5_theCoin 154 = .ok (.goto (-134), 3) := by decide +kernel
theorem dX5_theCoin_157 : decode cX5_theCoin 157 = .ok (.iload_n 3, 1) := by decide +kernel
theorem dX5_theCoin_158 : decode cX5_theCoin 158 = .ok (.iconst (-1), 1) := by decide +kernel
theorem dX5_theCoin_159 : decode cX5_theCoin 159 = .ok (.if_icmp .ne 8, 3) := by decide +kernel
theorem dX5_theCoin_162 : decode cX5_theCoin 162 = .ok (.iload 5, 2) := by decide +kernel
theorem dX5_theCoin_164 : decode cX5_theCoin 164 = .ok (.goto 4, 3) := by decide +kernel
theorem dX5_theCoin_167 : decode cX5_theCoin 167 = .ok (.iload_n 3, 1) := by decide +kernel
theorem dX5_theCoin_168 : decode cX5_theCoin 168 = .ok (.ireturn, 1) := by decide +kernel
set_option maxRecDepth 20000 in
theorem ggX5_told_X5_isOne : GoodIn wsX5_told wsX5_isOne := goodIn_r _ [8, 9, 10, 11, 7, 12, 47, 48, 49, 50, 51, 52, 53, 54, 55, 56, 57, 58, 59, 60, 61, 62, 63, 64, 65, 66, 67, 68, 69, 70, 71, 72, 73, 74, 75, 76, 77, 78, 79, 80, 81, 82, 83] rfl (by decide +kernel)
set_option maxRecDepth 20000 in
theorem gX5_told_X5_isOne : GoodIn wsX5_told (wsV RX5 179 RX5 yX5_isOne wsX5_isOne) := goodIn_app (goodIn_of _ (by decide +kernel)) ggX5_told_X5_isOne
set_option maxRecDepth 20000 in
theorem ggX5_told_X5_takesOf : GoodIn wsX5_told wsX5_takesOf := goodIn_r _ [16, 2, 3, 17, 18, 19, 20, 7, 21, 22, 1, 23, 24, 25, 26, 27, 28, 29, 30, 31, 32, 33, 34, 35, 36, 37, 38, 39, 40, 41, 42, 47, 48, 49, 50, 51, 52, 53, 54, 55, 56, 57, 58, 59, 60, 61, 62, 63, 64, 65, 66, 67, 68, 69, 70, 71, 72, 73, 74, 75, 76, 77, 78, 79, 80, 81, 82, 83] rfl (by decide +kernel)
set_option maxRecDepth 20000 in
theorem gX5_told_X5_takesOf : GoodIn wsX5_told (wsV RX5 185 RX5 yX5_takesOf wsX5_takesOf) := goodIn_app (goodIn_of _ (by decide +kernel)) ggX5_told_X5_takesOf
set_option maxRecDepth 20000 in
theorem ggX5_told_X5_theCoin : GoodIn wsX5_told wsX5_theCoin := goodIn_r _ [46, 23, 13, 14, 15, 7, 16, 2, 3, 17, 18, 19, 20, 21, 22, 1, 24, 25, 26, 27, 28, 29, 30, 31, 32, 33, 34, 35, 36, 37, 38, 39, 40, 41, 42, 47, 48, 49, 50, 51, 52, 53, 54, 55, 56, 57, 58, 59, 60, 61, 62, 63, 64, 65, 66, 67, 68, 69, 70, 71, 72, 73, 74, 75, 76, 77, 78, 79, 80, 81, 82, 83] rfl (by decide +kernel)
set_option maxRecDepth 20000 in
theorem gX5_told_X5_theCoin : GoodIn wsX5_told (wsV RX5 188 RX5 yX5_theCoin wsX5_theCoin) := goodIn_app (goodIn_of _ (by decide +kernel)) ggX5_told_X5_theCoin
theorem dX5_told_0 : decode cX5_told 0 = .ok (.aload_n 0, 1) := by decide +kernel
theorem dX5_told_1 : decode cX5_told 1 = .ok (.iload_n 1, 1) := by decide +kernel
theorem dX5_told_2 : decode cX5_told 2 = .ok (.invokevirtual 179, 3) := by decide +kernel
theorem dX5_told_5 : decode cX5_told 5 = .ok (.ifCond .ne 6, 3) := by decide +kernel
theorem dX5_told_8 : decode cX5_told 8 = .ok (.bipush (-5), 2) := by decide +kernel
theorem dX5_told_10 : decode cX5_told 10 = .ok (.ireturn, 1) := by decide +kernel
theorem dX5_told_11 : decode cX5_told 11 = .ok (.iload_n 2, 1) := by decide +kernel
theorem dX5_told_12 : decode cX5_told 12 = .ok (.tableswitch 81 0 6 #[44, 44, 44, 55, 62, 69, 75], 44) := by decide +kernel
theorem dX5_told_56 : decode cX5_told 56 = .ok (.aload_n 0, 1) := by decide +kernel
theorem dX5_told_57 : decode cX5_told 57 = .ok (.getfield 16, 3) := by decide +kernel
theorem dX5_told_60 : decode cX5_told 60 = .ok (.iconst 3, 1) := by decide +kernel
theorem dX5_told_61 : decode cX5_told 61 = .ok (.iload_n 1, 1) := by decide +kernel
theorem dX5_told_62 : decode cX5_told 62 = .ok (.imul, 1) := by decide +kernel
theorem dX5_told_63 : decode cX5_told 63 = .ok (.iload_n 2, 1) := by decide +kernel
theorem dX5_told_64 : decode cX5_told 64 = .ok (.iadd, 1) := by decide +kernel
theorem dX5_told_65 : decode cX5_told 65 = .ok (.iaload, 1) := by decide +kernel
theorem dX5_told_66 : decode cX5_told 66 = .ok (.ireturn, 1) := by decide +kernel
theorem dX5_told_67 : decode cX5_told 67 = .ok (.aload_n 0, 1) := by decide +kernel
theorem dX5_told_68 : decode cX5_told 68 = .ok (.getfield 7, 3) := by decide +kernel
theorem dX5_told_71 : decode cX5_told 71 = .ok (.iload_n 1, 1) := by decide +kernel
theorem dX5_told_72 : decode cX5_told 72 = .ok (.iaload, 1) := by decide +kernel
theorem dX5_told_73 : decode cX5_told 73 = .ok (.ireturn, 1) := by decide +kernel
theorem dX5_told_74 : decode cX5_told 74 = .ok (.aload_n 0, 1) := by decide +kernel
theorem dX5_told_75 : decode cX5_told 75 = .ok (.getfield 13, 3) := by decide +kernel
theorem dX5_told_78 : decode cX5_told 78 = .ok (.iload_n 1, 1) := by decide +kernel
theorem dX5_told_79 : decode cX5_told 79 = .ok (.iaload, 1) := by decide +kernel
theorem dX5_told_80 : decode cX5_told 80 = .ok (.ireturn, 1) := by decide +kernel
theorem dX5_told_81 : decode cX5_told 81 = .ok (.aload_n 0, 1) := by decide +kernel
theorem dX5_told_82 : decode cX5_told 82 = .ok (.iload_n 1, 1) := by decide +kernel
theorem dX5_told_83 : decode cX5_told 83 = .ok (.invokevirtual 185, 3) := by decide +kernel
theorem dX5_told_86 : decode cX5_told 86 = .ok (.ireturn, 1) := by decide +kernel
theorem dX5_told_87 : decode cX5_told 87 = .ok (.aload_n 0, 1) := by decide +kernel
theorem dX5_told_88 : decode cX5_told 88 = .ok (.iload_n 1, 1) := by decide +kernel
theorem dX5_told_89 : decode cX5_told 89 = .ok (.invokevirtual 188, 3) := by decide +kernel
theorem dX5_told_92 : decode cX5_told 92 = .ok (.ireturn, 1) := by decide +kernel
theorem dX5_told_93 : decode cX5_told 93 = .ok (.bipush (-7), 2) := by decide +kernel
theorem dX5_told_95 : decode cX5_told 95 = .ok (.ireturn, 1) := by decide +kernel
set_option maxRecDepth 20000 in
theorem ggX5_coin_X5_isOne : GoodIn wsX5_coin wsX5_isOne := goodIn_r _ [5, 6, 7, 8, 4, 9, 50, 51, 52, 53, 54, 55, 56, 57, 58, 59, 60, 61, 62, 63, 64, 65, 66, 67, 68, 69, 70, 71, 72, 73, 74, 75, 76, 77, 78, 79, 80, 81, 82, 83, 84, 85, 86] rfl (by decide +kernel)
set_option maxRecDepth 20000 in
theorem gX5_coin_X5_isOne : GoodIn wsX5_coin (wsV RX5 179 RX5 yX5_isOne wsX5_isOne) := goodIn_app (goodIn_of _ (by decide +kernel)) ggX5_coin_X5_isOne
set_option maxRecDepth 20000 in
theorem ggX5_coin_X5_isCoin : GoodIn wsX5_coin wsX5_isCoin := goodIn_r _ [12, 7, 8, 4, 9] rfl (by decide +kernel)
set_option maxRecDepth 20000 in
theorem gX5_coin_X5_isCoin : GoodIn wsX5_coin (va_wsS RX5 103 yX5_isCoin wsX5_isCoin) := goodIn_app (goodIn_of _ (by decide +kernel)) ggX5_coin_X5_isCoin
set_option maxRecDepth 20000 in
theorem ggX5_coin_X5_soundsOf : GoodIn wsX5_coin wsX5_soundsOf := goodIn_r _ [16, 17, 18, 19, 20, 21, 4, 22, 23, 24, 25, 26, 27, 28, 29, 30, 31, 32, 33, 34, 35, 36, 37, 38, 39, 40, 41, 42, 43, 44, 45, 50, 51, 52, 53, 54, 55, 56, 57, 58, 59, 60, 61, 62, 63, 64, 65, 66, 67, 68, 69, 70, 71, 72, 73, 74, 75, 76, 77, 78, 79, 80, 81, 82, 83, 84, 85, 86] rfl (by decide +kernel)
set_option maxRecDepth 20000 in
theorem gX5_coin_X5_soundsOf : GoodIn wsX5_coin (wsV RX5 191 RX5 yX5_soundsOf wsX5_soundsOf) := goodIn_app (goodIn_of _ (by decide +kernel)) ggX5_coin_X5_soundsOf
set_option maxRecDepth 20000 in
theorem ggX5_coin_X5_costsOf : GoodIn wsX5_coin wsX5_costsOf := goodIn_r _ [49, 17, 18, 19, 20, 21, 4, 22, 23, 24, 25, 26, 27, 28, 29, 30, 31, 32, 33, 34, 35, 36, 37, 38, 39, 40, 41, 42, 43, 44, 45, 50, 51, 52, 53, 54, 55, 56, 57, 58, 59, 60, 61, 62, 63, 64, 65, 66, 67, 68, 69, 70, 71, 72, 73, 74, 75, 76, 77, 78, 79, 80, 81, 82, 83, 84, 85, 86] rfl (by decide +kernel)
set_option maxRecDepth 20000 in
theorem gX5_coin_X5_costsOf : GoodIn wsX5_coin (wsV RX5 194 RX5 yX5_costsOf wsX5_costsOf) := goodIn_app (goodIn_of _ (by decide +kernel)) ggX5_coin_X5_costsOf
theorem dX5_coin_0 : decode cX5_coin 0 = .ok (.aload_n 0, 1) := by decide +kernel
theorem dX5_coin_1 : decode cX5_coin 1 = .ok (.iload_n 1, 1) := by decide +kernel
theorem dX5_coin_2 : decode cX5_coin 2 = .ok (.invokevirtual 179, 3) := by decide +kernel
theorem dX5_coin_5 : decode cX5_coin 5 = .ok (.ifCond .ne 6, 3) := by decide +kernel
theorem dX5_coin_8 : decode cX5_coin 8 = .ok (.bipush (-5), 2) := by decide +kernel
theorem dX5_coin_10 : decode cX5_coin 10 = .ok (.ireturn, 1) := by decide +kernel
theorem dX5_coin_11 : decode cX5_coin 11 = .ok (.iload_n 2, 1) := by decide +kernel
theorem dX5_coin_12 : decode cX5_coin 12 = .ok (.invokestatic 103, 3) := by decide +kernel
theorem dX5_coin_15 : decode cX5_coin 15 = .ok (.ifCond .ne 6, 3) := by decide +kernel
theorem dX5_coin_18 : decode cX5_coin 18 = .ok (.bipush (-6), 2) := by decide +kernel
theorem dX5_coin_20 : decode cX5_coin 20 = .ok (.ireturn, 1) := by decide +kernel
theorem dX5_coin_21 : decode cX5_coin 21 = .ok (.iload_n 3, 1) := by decide +kernel
theorem dX5_coin_22 : decode cX5_coin 22 = .ok (.ifCond .ne 12, 3) := by decide +kernel
theorem dX5_coin_25 : decode cX5_coin 25 = .ok (.aload_n 0, 1) := by decide +kernel
theorem dX5_coin_26 : decode cX5_coin 26 = .ok (.iload_n 1, 1) := by decide +kernel
theorem dX5_coin_27 : decode cX5_coin 27 = .ok (.iload_n 2, 1) := by decide +kernel
theorem dX5_coin_28 : decode cX5_coin 28 = .ok (.invokevirtual 191, 3) := by decide +kernel
theorem dX5_coin_31 : decode cX5_coin 31 = .ok (.goto 23, 3) := by decide +kernel
theorem dX5_coin_34 : decode cX5_coin 34 = .ok (.iload_n 3, 1) := by decide +kernel
theorem dX5_coin_35 : decode cX5_coin 35 = .ok (.iconst 1, 1) := by decide +kernel
theorem dX5_coin_36 : decode cX5_coin 36 = .ok (.if_icmp .ne 16, 3) := by decide +kernel
theorem dX5_coin_39 : decode cX5_coin 39 = .ok (.sipush 1000, 3) := by decide +kernel
theorem dX5_coin_42 : decode cX5_coin 42 = .ok (.aload_n 0, 1) := by decide +kernel
theorem dX5_coin_43 : decode cX5_coin 43 = .ok (.iload_n 1, 1) := by decide +kernel
theorem dX5_coin_44 : decode cX5_coin 44 = .ok (.iload_n 2, 1) := by decide +kernel
theorem dX5_coin_45 : decode cX5_coin 45 = .ok (.invokevirtual 194, 3) := by decide +kernel
theorem dX5_coin_48 : decode cX5_coin 48 = .ok (.iadd, 1) := by decide +kernel
theorem dX5_coin_49 : decode cX5_coin 49 = .ok (.goto 5, 3) := by decide +kernel
theorem dX5_coin_52 : decode cX5_coin 52 = .ok (.bipush (-7), 2) := by decide +kernel
theorem dX5_coin_54 : decode cX5_coin 54 = .ok (.ireturn, 1) := by decide +kernel
set_option maxRecDepth 20000 in
theorem ggX5_takesOne_X5_theCoin : GoodIn wsX5_takesOne wsX5_theCoin := goodIn_r _ [8, 1, 9, 10, 11, 7, 12, 13, 14, 3, 15, 16, 17, 18, 19, 2, 20, 21, 22, 23, 24, 25, 26, 27, 28, 29, 30, 31, 32, 33, 34, 35, 36, 37, 38, 47, 48, 49, 50, 51, 52, 53, 54, 55, 56, 57, 58, 59, 60, 61, 62, 63, 64, 65, 66, 67, 68, 69, 70, 71, 72, 73, 74, 75, 76, 77, 78, 79, 80, 81, 82, 83] rfl (by decide +kernel)
set_option maxRecDepth 20000 in
theorem gX5_takesOne_X5_theCoin : GoodIn wsX5_takesOne (wsV RX5 188 RX5 yX5_theCoin wsX5_theCoin) := goodIn_app (goodIn_of _ (by decide +kernel)) ggX5_takesOne_X5_theCoin
set_option maxRecDepth 20000 in
theorem ggX5_takesOne_X5_soundsOf : GoodIn wsX5_takesOne wsX5_soundsOf := goodIn_r _ [42, 13, 14, 15, 16, 17, 7, 18, 19, 2, 1, 3, 20, 21, 22, 23, 24, 25, 26, 27, 28, 29, 30, 31, 32, 33, 34, 35, 36, 37, 38, 47, 48, 49, 50, 51, 52, 53, 54, 55, 56, 57, 58, 59, 60, 61, 62, 63, 64, 65, 66, 67, 68, 69, 70, 71, 72, 73, 74, 75, 76, 77, 78, 79, 80, 81, 82, 83] rfl (by decide +kernel)
set_option maxRecDepth 20000 in
theorem gX5_takesOne_X5_soundsOf : GoodIn wsX5_takesOne (wsV RX5 191 RX5 yX5_soundsOf wsX5_soundsOf) := goodIn_app (goodIn_of _ (by decide +kernel)) ggX5_takesOne_X5_soundsOf
set_option maxRecDepth 20000 in
theorem ggX5_takesOne_X5_costsOf : GoodIn wsX5_takesOne wsX5_costsOf := goodIn_r _ [46, 13, 14, 15, 16, 17, 7, 18, 19, 2, 1, 3, 20, 21, 22, 23, 24, 25, 26, 27, 28, 29, 30, 31, 32, 33, 34, 35, 36, 37, 38, 47, 48, 49, 50, 51, 52, 53, 54, 55, 56, 57, 58, 59, 60, 61, 62, 63, 64, 65, 66, 67, 68, 69, 70, 71, 72, 73, 74, 75, 76, 77, 78, 79, 80, 81, 82, 83] rfl (by decide +kernel)
set_option maxRecDepth 20000 in
theorem gX5_takesOne_X5_costsOf : GoodIn wsX5_takesOne (wsV RX5 194 RX5 yX5_costsOf wsX5_costsOf) := goodIn_app (goodIn_of _ (by decide +kernel)) ggX5_takesOne_X5_costsOf
set_option maxRecDepth 20000 in
theorem ggX5_takesOne_X5_within : GoodIn wsX5_takesOne wsX5_within := goodIn_r _ [26] rfl (by decide +kernel)
set_option maxRecDepth 20000 in
theorem gX5_takesOne_X5_within : GoodIn wsX5_takesOne (va_wsS RX5 173 yX5_within wsX5_within) := goodIn_app (goodIn_of _ (by decide +kernel)) ggX5_takesOne_X5_within
theorem dX5_takesOne_0 : decode cX5_takesOne 0 = .ok (.aload_n 0, 1) := by decide +kernel
theorem dX5_takesOne_1 : decode cX5_takesOne 1 = .ok (.iload_n 1, 1) := by decide +kernel
theorem dX5_takesOne_2 : decode cX5_takesOne 2 = .ok (.invokevirtual 188, 3) := by decide +kernel
theorem dX5_takesOne_5 : decode cX5_takesOne 5 = .ok (.istore_n 2, 1) := by decide +kernel
theorem dX5_takesOne_6 : decode cX5_takesOne 6 = .ok (.iload_n 2, 1) := by decide +kernel
theorem dX5_takesOne_7 : decode cX5_takesOne 7 = .ok (.iconst (-1), 1) := by decide +kernel
theorem dX5_takesOne_8 : decode cX5_takesOne 8 = .ok (.if_icmp .eq 131, 3) := by decide +kernel
theorem dX5_takesOne_11 : decode cX5_takesOne 11 = .ok (.aload_n 0, 1) := by decide +kernel
theorem dX5_takesOne_12 : decode cX5_takesOne 12 = .ok (.iload_n 1, 1) := by decide +kernel
theorem dX5_takesOne_13 : decode cX5_takesOne 13 = .ok (.iload_n 2, 1) := by decide +kernel
theorem dX5_takesOne_14 : decode cX5_takesOne 14 = .ok (.invokevirtual 191, 3) := by decide +kernel
theorem dX5_takesOne_17 : decode cX5_takesOne 17 = .ok (.istore_n 3, 1) := by decide +kernel
theorem dX5_takesOne_18 : decode cX5_takesOne 18 = .ok (.aload_n 0, 1) := by decide +kernel
theorem dX5_takesOne_19 : decode cX5_takesOne 19 = .ok (.iload_n 1, 1) := by decide +kernel
theorem dX5_takesOne_20 : decode cX5_takesOne 20 = .ok (.iload_n 2, 1) := by decide +kernel
theorem dX5_takesOne_21 : decode cX5_takesOne 21 = .ok (.invokevirtual 194, 3) := by decide +kernel
theorem dX5_takesOne_24 : decode cX5_takesOne 24 = .ok (.istore 4, 2) := by decide +kernel
theorem dX5_takesOne_26 : decode cX5_takesOne 26 = .ok (.aload_n 0, 1) := by decide +kernel
theorem dX5_takesOne_27 : decode cX5_takesOne 27 = .ok (.getfield 19, 3) := by decide +kernel
theorem dX5_takesOne_30 : decode cX5_takesOne 30 = .ok (.iconst 2, 1) := by decide +kernel
theorem dX5_takesOne_31 : decode cX5_takesOne 31 = .ok (.iload_n 2, 1) := by decide +kernel
theorem dX5_takesOne_32 : decode cX5_takesOne 32 = .ok (.imul, 1) := by decide +kernel
theorem dX5_takesOne_33 : decode cX5_takesOne 33 = .ok (.iconst 1, 1) := by decide +kernel
theorem dX5_takesOne_34 : decode cX5_takesOne 34 = .ok (.iadd, 1) := by decide +kernel
theorem dX5_takesOne_35 : decode cX5_takesOne 35 = .ok (.dup2, 1) := by decide +kernel
theorem dX5_takesOne_36 : decode cX5_takesOne 36 = .ok (.iaload, 1) := by decide +kernel
theorem dX5_takesOne_37 : decode cX5_takesOne 37 = .ok (.iconst 1, 1) := by decide +kernel
theorem dX5_takesOne_38 : decode cX5_takesOne 38 = .ok (.isub, 1) := by decide +kernel
theorem dX5_takesOne_39 : decode cX5_takesOne 39 = .ok (.iastore, 1) := by decide +kernel
theorem dX5_takesOne_40 : decode cX5_takesOne 40 = .ok (.aload_n 0, 1) := by decide +kernel
theorem dX5_takesOne_41 : decode cX5_takesOne 41 = .ok (.getfield 16, 3) := by decide +kernel
theorem dX5_takesOne_44 : decode cX5_takesOne 44 = .ok (.iconst 3, 1) := by decide +kernel
theorem dX5_takesOne_45 : decode cX5_takesOne 45 = .ok (.iload_n 1, 1) := by decide +kernel
theorem dX5_takesOne_46 : decode cX5_takesOne 46 = .ok (.imul, 1) := by decide +kernel
theorem dX5_takesOne_47 : decode cX5_takesOne 47 = .ok (.iconst 1, 1) := by decide +kernel
theorem dX5_takesOne_48 : decode cX5_takesOne 48 = .ok (.iadd, 1) := by decide +kernel
theorem dX5_takesOne_49 : decode cX5_takesOne 49 = .ok (.aload_n 0, 1) := by decide +kernel
theorem dX5_takesOne_50 : decode cX5_takesOne 50 = .ok (.getfield 16, 3) := by decide +kernel
theorem dX5_takesOne_53 : decode cX5_takesOne 53 = .ok (.iconst 3, 1) := by decide +kernel
theorem dX5_takesOne_54 : decode cX5_takesOne 54 = .ok (.iload_n 1, 1) := by decide +kernel
theorem dX5_takesOne_55 : decode cX5_takesOne 55 = .ok (.imul, 1) := by decide +kernel
theorem dX5_takesOne_56 : decode cX5_takesOne 56 = .ok (.iconst 1, 1) := by decide +kernel
theorem dX5_takesOne_57 : decode cX5_takesOne 57 = .ok (.iadd, 1) := by decide +kernel
theorem dX5_takesOne_58 : decode cX5_takesOne 58 = .ok (.iaload, 1) := by decide +kernel
theorem dX5_takesOne_59 : decode cX5_takesOne 59 = .ok (.aload_n 0, 1) := by decide +kernel
theorem dX5_takesOne_60 : decode cX5_takesOne 60 = .ok (.getfield 19, 3) := by decide +kernel
theorem dX5_takesOne_63 : decode cX5_takesOne 63 = .ok (.iconst 2, 1) := by decide +kernel
theorem dX5_takesOne_64 : decode cX5_takesOne 64 = .ok (.iload_n 2, 1) := by decide +kernel
theorem dX5_takesOne_65 : decode cX5_takesOne 65 = .ok (.imul, 1) := by decide +kernel
theorem dX5_takesOne_66 : decode cX5_takesOne 66 = .ok (.iaload, 1) := by decide +kernel
theorem dX5_takesOne_67 : decode cX5_takesOne 67 = .ok (.iadd, 1) := by decide +kernel
theorem dX5_takesOne_68 : decode cX5_takesOne 68 = .ok (.iconst 0, 1) := by decide +kernel
theorem dX5_takesOne_69 : decode cX5_takesOne 69 = .ok (.sipush 9999, 3) := by decide +kernel
theorem dX5_takesOne_72 : decode cX5_takesOne 72 = .ok (.invokestatic 173, 3) := by decide +kernel
theorem dX5_takesOne_75 : decode cX5_takesOne 75 = .ok (.iastore, 1) := by decide +kernel
theorem dX5_takesOne_76 : decode cX5_takesOne 76 = .ok (.aload_n 0, 1) := by decide +kernel
theorem dX5_takesOne_77 : decode cX5_takesOne 77 = .ok (.getfield 16, 3) := by decide +kernel
theorem dX5_takesOne_80 : decode cX5_takesOne 80 = .ok (.iconst 3, 1) := by decide +kernel
theorem dX5_takesOne_81 : decode cX5_takesOne 81 = .ok (.iload_n 1, 1) := by decide +kernel
theorem dX5_takesOne_82 : decode cX5_takesOne 82 = .ok (.imul, 1) := by decide +kernel
theorem dX5_takesOne_83 : decode cX5_takesOne 83 = .ok (.iconst 2, 1) := by decide +kernel
theorem dX5_takesOne_84 : decode cX5_takesOne 84 = .ok (.iadd, 1) := by decide +kernel
theorem dX5_takesOne_85 : decode cX5_takesOne 85 = .ok (.iload_n 3, 1) := by decide +kernel
theorem dX5_takesOne_86 : decode cX5_takesOne 86 = .ok (.aload_n 0, 1) := by decide +kernel
theorem dX5_takesOne_87 : decode cX5_takesOne 87 = .ok (.getfield 16, 3) := by decide +kernel
theorem dX5_takesOne_90 : decode cX5_takesOne 90 = .ok (.iconst 3, 1) := by decide +kernel
theorem dX5_takesOne_91 : decode cX5_takesOne 91 = .ok (.iload_n 1, 1) := by decide +kernel
theorem dX5_takesOne_92 : decode cX5_takesOne 92 = .ok (.imul, 1) := by decide +kernel
theorem dX5_takesOne_93 : decode cX5_takesOne 93 = .ok (.iconst 2, 1) := by decide +kernel
theorem dX5_takesOne_94 : decode cX5_takesOne 94 = .ok (.iadd, 1) := by decide +kernel
theorem dX5_takesOne_95 : decode cX5_takesOne 95 = .ok (.iaload, 1) := by decide +kernel
theorem dX5_takesOne_96 : decode cX5_takesOne 96 = .ok (.if_icmp .le 7, 3) := by decide +kernel
theorem dX5_takesOne_99 : decode cX5_takesOne 99 = .ok (.iload_n 3, 1) := by decide +kernel
theorem dX5_takesOne_100 : decode cX5_takesOne 100 = .ok (.goto 13, 3) := by decide +kernel
theorem dX5_takesOne_103 : decode cX5_takesOne 103 = .ok (.aload_n 0, 1) := by decide +kernel
theorem dX5_takesOne_104 : decode cX5_takesOne 104 = .ok (.getfield 16, 3) := by decide +kernel
theorem dX5_takesOne_107 : decode cX5_takesOne 107 = .ok (.iconst 3, 1) := by decide +kernel
theorem dX5_takesOne_108 : decode cX5_takesOne 108 = .ok (.iload_n 1, 1) := by decide +kernel
theorem dX5_takesOne_109 : decode cX5_takesOne 109 = .ok (.imul, 1) := by decide +kernel
theorem dX5_takesOne_110 : decode cX5_takesOne 110 = .ok (.iconst 2, 1) := by decide +kernel
theorem dX5_takesOne_111 : decode cX5_takesOne 111 = .ok (.iadd, 1) := by decide +kernel
theorem dX5_takesOne_112 : decode cX5_takesOne 112 = .ok (.iaload, 1) := by decide +kernel
theorem dX5_takesOne_113 : decode cX5_takesOne 113 = .ok (.iastore, 1) := by decide +kernel
theorem dX5_takesOne_114 : decode cX5_takesOne 114 = .ok (.aload_n 0, 1) := by decide +kernel
theorem dX5_takesOne_115 : decode cX5_takesOne 115 = .ok (.getfield 16, 3) := by decide +kernel
theorem dX5_takesOne_118 : decode cX5_takesOne 118 = .ok (.iconst 3, 1) := by decide +kernel
theorem dX5_takesOne_119 : decode cX5_takesOne 119 = .ok (.iload_n 1, 1) := by decide +kernel
theorem dX5_takesOne_120 : decode cX5_takesOne 120 = .ok (.imul, 1) := by decide +kernel
theorem dX5_takesOne_121 : decode cX5_takesOne 121 = .ok (.aload_n 0, 1) := by decide +kernel
theorem dX5_takesOne_122 : decode cX5_takesOne 122 = .ok (.getfield 16, 3) := by decide +kernel
theorem dX5_takesOne_125 : decode cX5_takesOne 125 = .ok (.iconst 3, 1) := by decide +kernel
theorem dX5_takesOne_126 : decode cX5_takesOne 126 = .ok (.iload_n 1, 1) := by decide +kernel
theorem dX5_takesOne_127 : decode cX5_takesOne 127 = .ok (.imul, 1) := by decide +kernel
theorem dX5_takesOne_128 : decode cX5_takesOne 128 = .ok (.iaload, 1) := by decide +kernel
theorem dX5_takesOne_129 : decode cX5_takesOne 129 = .ok (.iload 4, 2) := by decide +kernel
theorem dX5_takesOne_131 : decode cX5_takesOne 131 = .ok (.isub, 1) := by decide +kernel
theorem dX5_takesOne_132 : decode cX5_takesOne 132 = .ok (.iconst 0, 1) := by decide +kernel
theorem dX5_takesOne_133 : decode cX5_takesOne 133 = .ok (.bipush 99, 2) := by decide +kernel
theorem dX5_takesOne_135 : decode cX5_takesOne 135 = .ok (.invokestatic 173, 3) := by decide +kernel
theorem dX5_takesOne_138 : decode cX5_takesOne 138 = .ok (.iastore, 1) := by decide +kernel
theorem dX5_takesOne_139 : decode cX5_takesOne 139 = .ok (.aload_n 0, 1) := by decide +kernel
theorem dX5_takesOne_140 : decode cX5_takesOne 140 = .ok (.aload_n 0, 1) := by decide +kernel
theorem dX5_takesOne_141 : decode cX5_takesOne 141 = .ok (.getfield 91, 3) := by decide +kernel
theorem dX5_takesOne_144 : decode cX5_takesOne 144 = .ok (.iconst 1, 1) := by decide +kernel
theorem dX5_takesOne_145 : decode cX5_takesOne 145 = .ok (.iadd, 1) := by decide +kernel
theorem dX5_takesOne_146 : decode cX5_takesOne 146 = .ok (.iconst 0, 1) := by decide +kernel
theorem dX5_takesOne_147 : decode cX5_takesOne 147 = .ok (.sipush 999, 3) := by decide +kernel
theorem dX5_takesOne_150 : decode cX5_takesOne 150 = .ok (.invokestatic 173, 3) := by decide +kernel
theorem dX5_takesOne_153 : decode cX5_takesOne 153 = .ok (.putfield 91, 3) := by decide +kernel
theorem dX5_takesOne_156 : decode cX5_takesOne 156 = .ok (.iload_n 2, 1) := by decide +kernel
theorem dX5_takesOne_157 : decode cX5_takesOne 157 = .ok (.ireturn, 1) := by decide +kernel
set_option maxRecDepth 20000 in
theorem ggX5_turnOf_X5_takesOne : GoodIn wsX5_turnOf wsX5_takesOne := goodIn_r _ [7, 8, 9, 10, 11, 12, 13, 6, 14, 15, 16, 17, 18, 19, 20, 21, 22, 23, 24, 25, 26, 27, 28, 29, 30, 31, 32, 33, 34, 35, 36, 37, 38, 39, 40, 41, 42, 43, 44, 45, 46, 47, 48, 49, 50, 51, 52, 53, 54, 55, 56, 57, 58, 59, 60, 61, 62, 63, 64, 65, 66, 67, 68, 69, 70, 71, 72, 73, 74, 75, 76, 77, 78, 79, 80, 81, 82, 83, 84, 85, 86, 87, 88, 89] rfl (by decide +kernel)
set_option maxRecDepth 20000 in
theorem gX5_turnOf_X5_takesOne : GoodIn wsX5_turnOf (wsV RX5 197 RX5 yX5_takesOne wsX5_takesOne) := goodIn_app (goodIn_of _ (by decide +kernel)) ggX5_turnOf_X5_takesOne
theorem dX5_turnOf_0 : decode cX5_turnOf 0 = .ok (.aload_n 0, 1) := by decide +kernel
theorem dX5_turnOf_1 : decode cX5_turnOf 1 = .ok (.aload_n 0, 1) := by decide +kernel
theorem dX5_turnOf_2 : decode cX5_turnOf 2 = .ok (.getfield 100, 3) := by decide +kernel
theorem dX5_turnOf_5 : decode cX5_turnOf 5 = .ok (.invokevirtual 197, 3) := by decide +kernel
theorem dX5_turnOf_8 : decode cX5_turnOf 8 = .ok (.istore_n 1, 1) := by decide +kernel
theorem dX5_turnOf_9 : decode cX5_turnOf 9 = .ok (.aload_n 0, 1) := by decide +kernel
theorem dX5_turnOf_10 : decode cX5_turnOf 10 = .ok (.aload_n 0, 1) := by decide +kernel
theorem dX5_turnOf_11 : decode cX5_turnOf 11 = .ok (.getfield 100, 3) := by decide +kernel
theorem dX5_turnOf_14 : decode cX5_turnOf 14 = .ok (.iconst 1, 1) := by decide +kernel
theorem dX5_turnOf_15 : decode cX5_turnOf 15 = .ok (.iadd, 1) := by decide +kernel
theorem dX5_turnOf_16 : decode cX5_turnOf 16 = .ok (.aload_n 0, 1) := by decide +kernel
theorem dX5_turnOf_17 : decode cX5_turnOf 17 = .ok (.getfield 81, 3) := by decide +kernel
theorem dX5_turnOf_20 : decode cX5_turnOf 20 = .ok (.if_icmp .ne 7, 3) := by decide +kernel
theorem dX5_turnOf_23 : decode cX5_turnOf 23 = .ok (.iconst 0, 1) := by decide +kernel
theorem dX5_turnOf_24 : decode cX5_turnOf 24 = .ok (.goto 9, 3) := by decide +kernel
theorem dX5_turnOf_27 : decode cX5_turnOf 27 = .ok (.aload_n 0, 1) := by decide +kernel
theorem dX5_turnOf_28 : decode cX5_turnOf 28 = .ok (.getfield 100, 3) := by decide +kernel
theorem dX5_turnOf_31 : decode cX5_turnOf 31 = .ok (.iconst 1, 1) := by decide +kernel
theorem dX5_turnOf_32 : decode cX5_turnOf 32 = .ok (.iadd, 1) := by decide +kernel
theorem dX5_turnOf_33 : decode cX5_turnOf 33 = .ok (.putfield 100, 3) := by decide +kernel
theorem dX5_turnOf_36 : decode cX5_turnOf 36 = .ok (.iload_n 1, 1) := by decide +kernel
theorem dX5_turnOf_37 : decode cX5_turnOf 37 = .ok (.ireturn, 1) := by decide +kernel
set_option maxRecDepth 20000 in
theorem ggX5_isOver_X5_coinsAll : GoodIn wsX5_isOver wsX5_coinsAll := goodIn_r _ [6, 7, 8, 9, 10, 11, 12, 13, 14, 15, 16, 17, 18, 19, 20, 21, 22, 23, 24, 25, 26, 27, 28, 29, 30, 31, 32, 33, 34, 35, 36, 37, 38, 39, 40, 41, 42, 43, 44] rfl (by decide +kernel)
set_option maxRecDepth 20000 in
theorem gX5_isOver_X5_coinsAll : GoodIn wsX5_isOver (wsV RX5 88 RX5 yX5_coinsAll wsX5_coinsAll) := goodIn_app (goodIn_of _ (by decide +kernel)) ggX5_isOver_X5_coinsAll
theorem dX5_isOver_0 : decode cX5_isOver 0 = .ok (.aload_n 0, 1) := by decide +kernel
theorem dX5_isOver_1 : decode cX5_isOver 1 = .ok (.getfield 81, 3) := by decide +kernel
theorem dX5_isOver_4 : decode cX5_isOver 4 = .ok (.ifCond .eq 10, 3) := by decide +kernel
theorem dX5_isOver_7 : decode cX5_isOver 7 = .ok (.aload_n 0, 1) := by decide +kernel
theorem dX5_isOver_8 : decode cX5_isOver 8 = .ok (.invokevirtual 88, 3) := by decide +kernel
theorem dX5_isOver_11 : decode cX5_isOver 11 = .ok (.ifCond .ne 7, 3) := by decide +kernel
theorem dX5_isOver_14 : decode cX5_isOver 14 = .ok (.iconst 1, 1) := by decide +kernel
theorem dX5_isOver_15 : decode cX5_isOver 15 = .ok (.goto 4, 3) := by decide +kernel
theorem dX5_isOver_18 : decode cX5_isOver 18 = .ok (.iconst 0, 1) := by decide +kernel
theorem dX5_isOver_19 : decode cX5_isOver 19 = .ok (.ireturn, 1) := by decide +kernel
set_option maxRecDepth 20000 in
theorem ggX5_pass_X5_isOver : GoodIn wsX5_pass wsX5_isOver := goodIn_r _ [5, 6, 7, 8, 9, 4, 10, 11, 61, 62, 63, 64, 65, 66, 67, 68, 69, 70, 71, 72, 73, 74, 75, 76, 77, 78, 79, 80, 81, 82, 83, 84, 85, 86, 87, 88, 89, 90, 91, 92, 93, 94, 95, 96, 97] rfl (by decide +kernel)
set_option maxRecDepth 20000 in
theorem gX5_pass_X5_isOver : GoodIn wsX5_pass (wsV RX5 200 RX5 yX5_isOver wsX5_isOver) := goodIn_app (goodIn_of _ (by decide +kernel)) ggX5_pass_X5_isOver
set_option maxRecDepth 20000 in
theorem ggX5_pass_X5_turnOf : GoodIn wsX5_pass wsX5_turnOf := goodIn_r _ [15, 16, 6, 17, 18, 19, 4, 20, 11, 21, 22, 23, 24, 25, 26, 27, 28, 29, 30, 31, 32, 33, 34, 35, 36, 37, 7, 8, 9, 10, 38, 39, 40, 41, 42, 43, 44, 45, 46, 47, 48, 49, 50, 51, 52, 53, 54, 55, 56, 57, 58, 59, 60, 61, 62, 63, 64, 65, 66, 67, 68, 69, 70, 71, 72, 73, 74, 75, 76, 77, 78, 79, 80, 81, 82, 83, 84, 85, 86, 87, 88, 89, 90, 91, 92, 93, 94, 95, 96, 97] rfl (by decide +kernel)
set_option maxRecDepth 20000 in
theorem gX5_pass_X5_turnOf : GoodIn wsX5_pass (wsV RX5 203 RX5 yX5_turnOf wsX5_turnOf) := goodIn_app (goodIn_of _ (by decide +kernel)) ggX5_pass_X5_turnOf
theorem dX5_pass_0 : decode cX5_pass 0 = .ok (.aload_n 0, 1) := by decide +kernel
theorem dX5_pass_1 : decode cX5_pass 1 = .ok (.invokevirtual 200, 3) := by decide +kernel
theorem dX5_pass_4 : decode cX5_pass 4 = .ok (.ifCond .eq 8, 3) := by decide +kernel
theorem dX5_pass_7 : decode cX5_pass 7 = .ok (.bipush (-3), 2) := by decide +kernel
theorem dX5_pass_9 : decode cX5_pass 9 = .ok (.goto 7, 3) := by decide +kernel
theorem dX5_pass_12 : decode cX5_pass 12 = .ok (.aload_n 0, 1) := by decide +kernel
theorem dX5_pass_13 : decode cX5_pass 13 = .ok (.invokevirtual 203, 3) := by decide +kernel
theorem dX5_pass_16 : decode cX5_pass 16 = .ok (.ireturn, 1) := by decide +kernel
set_option maxRecDepth 20000 in
theorem ggX5_hand_X5_isOne : GoodIn wsX5_hand wsX5_isOne := goodIn_r _ [6, 7, 8, 9, 5, 10, 11, 12, 13, 14, 15, 16, 17, 18, 19, 20, 21, 22, 23, 24, 25, 26, 27, 28, 29, 30, 31, 32, 33, 34, 35, 36, 37, 38, 39, 40, 41, 42, 43, 44, 45, 46, 47] rfl (by decide +kernel)
set_option maxRecDepth 20000 in
theorem gX5_hand_X5_isOne : GoodIn wsX5_hand (wsV RX5 179 RX5 yX5_isOne wsX5_isOne) := goodIn_app (goodIn_of _ (by decide +kernel)) ggX5_hand_X5_isOne
theorem dX5_hand_0 : decode cX5_hand 0 = .ok (.aload_n 0, 1) := by decide +kernel
theorem dX5_hand_1 : decode cX5_hand 1 = .ok (.iload_n 1, 1) := by decide +kernel
theorem dX5_hand_2 : decode cX5_hand 2 = .ok (.invokevirtual 179, 3) := by decide +kernel
theorem dX5_hand_5 : decode cX5_hand 5 = .ok (.ifCond .ne 6, 3) := by decide +kernel
theorem dX5_hand_8 : decode cX5_hand 8 = .ok (.bipush (-5), 2) := by decide +kernel
theorem dX5_hand_10 : decode cX5_hand 10 = .ok (.ireturn, 1) := by decide +kernel
theorem dX5_hand_11 : decode cX5_hand 11 = .ok (.aload_n 0, 1) := by decide +kernel
theorem dX5_hand_12 : decode cX5_hand 12 = .ok (.getfield 100, 3) := by decide +kernel
theorem dX5_hand_15 : decode cX5_hand 15 = .ok (.istore_n 2, 1) := by decide +kernel
theorem dX5_hand_16 : decode cX5_hand 16 = .ok (.aload_n 0, 1) := by decide +kernel
theorem dX5_hand_17 : decode cX5_hand 17 = .ok (.iload_n 1, 1) := by decide +kernel
theorem dX5_hand_18 : decode cX5_hand 18 = .ok (.putfield 100, 3) := by decide +kernel
theorem dX5_hand_21 : decode cX5_hand 21 = .ok (.iload_n 2, 1) := by decide +kernel
theorem dX5_hand_22 : decode cX5_hand 22 = .ok (.ireturn, 1) := by decide +kernel
theorem dX5_keeps_0 : decode cX5_keeps 0 = .ok (.iconst 0, 1) := by decide +kernel
theorem dX5_keeps_1 : decode cX5_keeps 1 = .ok (.istore_n 1, 1) := by decide +kernel
theorem dX5_keeps_2 : decode cX5_keeps 2 = .ok (.iload_n 1, 1) := by decide +kernel
theorem dX5_keeps_3 : decode cX5_keeps 3 = .ok (.bipush 18, 2) := by decide +kernel
theorem dX5_keeps_5 : decode cX5_keeps 5 = .ok (.if_icmp .ge 21, 3) := by decide +kernel
theorem dX5_keeps_8 : decode cX5_keeps 8 = .ok (.aload_n 0, 1) := by decide +kernel
theorem dX5_keeps_9 : decode cX5_keeps 9 = .ok (.getfield 61, 3) := by decide +kernel
theorem dX5_keeps_12 : decode cX5_keeps 12 = .ok (.iload_n 1, 1) := by decide +kernel
theorem dX5_keeps_13 : decode cX5_keeps 13 = .ok (.aload_n 0, 1) := by decide +kernel
theorem dX5_keeps_14 : decode cX5_keeps 14 = .ok (.getfield 16, 3) := by decide +kernel
theorem dX5_keeps_17 : decode cX5_keeps 17 = .ok (.iload_n 1, 1) := by decide +kernel
theorem dX5_keeps_18 : decode cX5_keeps 18 = .ok (.iaload, 1) := by decide +kernel
theorem dX5_keeps_19 : decode cX5_keeps 19 = .ok (.iastore, 1) := by decide +kernel
theorem dX5_keeps_20 : decode cX5_keeps 20 = .ok (.iinc 1 1, 3) := by decide +kernel
theorem dX5_keeps_23 : decode cX5_keeps 23 = .ok (.goto (-21), 3) := by decide +kernel
theorem dX5_keeps_26 : decode cX5_keeps 26 = .ok (.iconst 0, 1) := by decide +kernel
theorem dX5_keeps_27 : decode cX5_keeps 27 = .ok (.istore_n 1, 1) := by decide +kernel
theorem dX5_keeps_28 : decode cX5_keeps 28 = .ok (.iload_n 1, 1) := by decide +kernel
theorem dX5_keeps_29 : decode cX5_keeps 29 = .ok (.bipush 12, 2) := by decide +kernel
theorem dX5_keeps_31 : decode cX5_keeps 31 = .ok (.if_icmp .ge 24, 3) := by decide +kernel
theorem dX5_keeps_34 : decode cX5_keeps 34 = .ok (.aload_n 0, 1) := by decide +kernel
theorem dX5_keeps_35 : decode cX5_keeps 35 = .ok (.getfield 61, 3) := by decide +kernel
theorem dX5_keeps_38 : decode cX5_keeps 38 = .ok (.bipush 18, 2) := by decide +kernel
theorem dX5_keeps_40 : decode cX5_keeps 40 = .ok (.iload_n 1, 1) := by decide +kernel
theorem dX5_keeps_41 : decode cX5_keeps 41 = .ok (.iadd, 1) := by decide +kernel
theorem dX5_keeps_42 : decode cX5_keeps 42 = .ok (.aload_n 0, 1) := by decide +kernel
theorem dX5_keeps_43 : decode cX5_keeps 43 = .ok (.getfield 19, 3) := by decide +kernel
theorem dX5_keeps_46 : decode cX5_keeps 46 = .ok (.iload_n 1, 1) := by decide +kernel
theorem dX5_keeps_47 : decode cX5_keeps 47 = .ok (.iaload, 1) := by decide +kernel
theorem dX5_keeps_48 : decode cX5_keeps 48 = .ok (.iastore, 1) := by decide +kernel
theorem dX5_keeps_49 : decode cX5_keeps 49 = .ok (.iinc 1 1, 3) := by decide +kernel
theorem dX5_keeps_52 : decode cX5_keeps 52 = .ok (.goto (-24), 3) := by decide +kernel
theorem dX5_keeps_55 : decode cX5_keeps 55 = .ok (.aload_n 0, 1) := by decide +kernel
theorem dX5_keeps_56 : decode cX5_keeps 56 = .ok (.getfield 61, 3) := by decide +kernel
theorem dX5_keeps_59 : decode cX5_keeps 59 = .ok (.bipush 30, 2) := by decide +kernel
theorem dX5_keeps_61 : decode cX5_keeps 61 = .ok (.aload_n 0, 1) := by decide +kernel
theorem dX5_keeps_62 : decode cX5_keeps 62 = .ok (.getfield 100, 3) := by decide +kernel
theorem dX5_keeps_65 : decode cX5_keeps 65 = .ok (.iastore, 1) := by decide +kernel
theorem dX5_keeps_66 : decode cX5_keeps 66 = .ok (.aload_n 0, 1) := by decide +kernel
theorem dX5_keeps_67 : decode cX5_keeps 67 = .ok (.getfield 61, 3) := by decide +kernel
theorem dX5_keeps_70 : decode cX5_keeps 70 = .ok (.bipush 31, 2) := by decide +kernel
theorem dX5_keeps_72 : decode cX5_keeps 72 = .ok (.aload_n 0, 1) := by decide +kernel
theorem dX5_keeps_73 : decode cX5_keeps 73 = .ok (.getfield 91, 3) := by decide +kernel
theorem dX5_keeps_76 : decode cX5_keeps 76 = .ok (.iastore, 1) := by decide +kernel
theorem dX5_keeps_77 : decode cX5_keeps 77 = .ok (.return_, 1) := by decide +kernel
theorem dX5_lays_0 : decode cX5_lays 0 = .ok (.iconst 0, 1) := by decide +kernel
theorem dX5_lays_1 : decode cX5_lays 1 = .ok (.istore_n 1, 1) := by decide +kernel
theorem dX5_lays_2 : decode cX5_lays 2 = .ok (.iload_n 1, 1) := by decide +kernel
theorem dX5_lays_3 : decode cX5_lays 3 = .ok (.bipush 18, 2) := by decide +kernel
theorem dX5_lays_5 : decode cX5_lays 5 = .ok (.if_icmp .ge 21, 3) := by decide +kernel
theorem dX5_lays_8 : decode cX5_lays 8 = .ok (.aload_n 0, 1) := by decide +kernel
theorem dX5_lays_9 : decode cX5_lays 9 = .ok (.getfield 16, 3) := by decide +kernel
theorem dX5_lays_12 : decode cX5_lays 12 = .ok (.iload_n 1, 1) := by decide +kernel
theorem dX5_lays_13 : decode cX5_lays 13 = .ok (.aload_n 0, 1) := by decide +kernel
theorem dX5_lays_14 : decode cX5_lays 14 = .ok (.getfield 61, 3) := by decide +kernel
theorem dX5_lays_17 : decode cX5_lays 17 = .ok (.iload_n 1, 1) := by decide +kernel
theorem dX5_lays_18 : decode cX5_lays 18 = .ok (.iaload, 1) := by decide +kernel
theorem dX5_lays_19 : decode cX5_lays 19 = .ok (.iastore, 1) := by decide +kernel
theorem dX5_lays_20 : decode cX5_lays 20 = .ok (.iinc 1 1, 3) := by decide +kernel
theorem dX5_lays_23 : decode cX5_lays 23 = .ok (.goto (-21), 3) := by decide +kernel
theorem dX5_lays_26 : decode cX5_lays 26 = .ok (.iconst 0, 1) := by decide +kernel
theorem dX5_lays_27 : decode cX5_lays 27 = .ok (.istore_n 1, 1) := by decide +kernel
theorem dX5_lays_28 : decode cX5_lays 28 = .ok (.iload_n 1, 1) := by decide +kernel
theorem dX5_lays_29 : decode cX5_lays 29 = .ok (.bipush 12, 2) := by decide +kernel
theorem dX5_lays_31 : decode cX5_lays 31 = .ok (.if_icmp .ge 24, 3) := by decide +kernel
theorem dX5_lays_34 : decode cX5_lays 34 = .ok (.aload_n 0, 1) := by decide +kernel
theorem dX5_lays_35 : decode cX5_lays 35 = .ok (.getfield 19, 3) := by decide +kernel
theorem dX5_lays_38 : decode cX5_lays 38 = .ok (.iload_n 1, 1) := by decide +kernel
theorem dX5_lays_39 : decode cX5_lays 39 = .ok (.aload_n 0, 1) := by decide +kernel
theorem dX5_lays_40 : decode cX5_lays 40 = .ok (.getfield 61, 3) := by decide +kernel
theorem dX5_lays_43 : decode cX5_lays 43 = .ok (.bipush 18, 2) := by decide +kernel
theorem dX5_lays_45 : decode cX5_lays 45 = .ok (.iload_n 1, 1) := by decide +kernel
theorem dX5_lays_46 : decode cX5_lays 46 = .ok (.iadd, 1) := by decide +kernel
theorem dX5_lays_47 : decode cX5_lays 47 = .ok (.iaload, 1) := by decide +kernel
theorem dX5_lays_48 : decode cX5_lays 48 = .ok (.iastore, 1) := by decide +kernel
theorem dX5_lays_49 : decode cX5_lays 49 = .ok (.iinc 1 1, 3) := by decide +kernel
theorem dX5_lays_52 : decode cX5_lays 52 = .ok (.goto (-24), 3) := by decide +kernel
theorem dX5_lays_55 : decode cX5_lays 55 = .ok (.aload_n 0, 1) := by decide +kernel
theorem dX5_lays_56 : decode cX5_lays 56 = .ok (.aload_n 0, 1) := by decide +kernel
theorem dX5_lays_57 : decode cX5_lays 57 = .ok (.getfield 61, 3) := by decide +kernel
theorem dX5_lays_60 : decode cX5_lays 60 = .ok (.bipush 30, 2) := by decide +kernel
theorem dX5_lays_62 : decode cX5_lays 62 = .ok (.iaload, 1) := by decide +kernel
theorem dX5_lays_63 : decode cX5_lays 63 = .ok (.putfield 100, 3) := by decide +kernel
theorem dX5_lays_66 : decode cX5_lays 66 = .ok (.aload_n 0, 1) := by decide +kernel
theorem dX5_lays_67 : decode cX5_lays 67 = .ok (.aload_n 0, 1) := by decide +kernel
theorem dX5_lays_68 : decode cX5_lays 68 = .ok (.getfield 61, 3) := by decide +kernel
theorem dX5_lays_71 : decode cX5_lays 71 = .ok (.bipush 31, 2) := by decide +kernel
theorem dX5_lays_73 : decode cX5_lays 73 = .ok (.iaload, 1) := by decide +kernel
theorem dX5_lays_74 : decode cX5_lays 74 = .ok (.putfield 91, 3) := by decide +kernel
theorem dX5_lays_77 : decode cX5_lays 77 = .ok (.return_, 1) := by decide +kernel
set_option maxRecDepth 20000 in
theorem ggX5_goes_X5_isOver : GoodIn wsX5_goes wsX5_isOver := goodIn_r _ [6, 7, 8, 9, 10, 5, 11, 12, 61, 62, 63, 64, 65, 66, 67, 68, 69, 70, 71, 72, 73, 74, 75, 76, 77, 78, 79, 80, 81, 82, 83, 84, 85, 86, 87, 88, 89, 90, 91, 92, 93, 94, 95, 96, 97] rfl (by decide +kernel)
set_option maxRecDepth 20000 in
theorem gX5_goes_X5_isOver : GoodIn wsX5_goes (wsV RX5 200 RX5 yX5_isOver wsX5_isOver) := goodIn_app (goodIn_of _ (by decide +kernel)) ggX5_goes_X5_isOver
set_option maxRecDepth 20000 in
theorem ggX5_goes_X5_turnOf : GoodIn wsX5_goes wsX5_turnOf := goodIn_r _ [16, 1, 7, 17, 18, 19, 5, 20, 12, 21, 22, 23, 24, 25, 26, 27, 28, 29, 30, 31, 32, 33, 34, 35, 36, 37, 8, 9, 10, 11, 38, 39, 40, 41, 42, 43, 44, 45, 46, 47, 48, 49, 50, 51, 52, 53, 54, 55, 56, 57, 58, 59, 60, 61, 62, 63, 64, 65, 66, 67, 68, 69, 70, 71, 72, 73, 74, 75, 76, 77, 78, 79, 80, 81, 82, 83, 84, 85, 86, 87, 88, 89, 90, 91, 92, 93, 94, 95, 96, 97] rfl (by decide +kernel)
set_option maxRecDepth 20000 in
theorem gX5_goes_X5_turnOf : GoodIn wsX5_goes (wsV RX5 203 RX5 yX5_turnOf wsX5_turnOf) := goodIn_app (goodIn_of _ (by decide +kernel)) ggX5_goes_X5_turnOf
theorem dX5_goes_0 : decode cX5_goes 0 = .ok (.iconst (-1), 1) := by decide +kernel
theorem dX5_goes_1 : decode cX5_goes 1 = .ok (.istore_n 2, 1) := by decide +kernel
theorem dX5_goes_2 : decode cX5_goes 2 = .ok (.iconst 0, 1) := by decide +kernel
theorem dX5_goes_3 : decode cX5_goes 3 = .ok (.istore_n 3, 1) := by decide +kernel
theorem dX5_goes_4 : decode cX5_goes 4 = .ok (.iload_n 3, 1) := by decide +kernel
theorem dX5_goes_5 : decode cX5_goes 5 = .ok (.iload_n 1, 1) := by decide +kernel
theorem dX5_goes_6 : decode cX5_goes 6 = .ok (.if_icmp .ge 26, 3) := by decide +kernel
theorem dX5_goes_9 : decode cX5_goes 9 = .ok (.aload_n 0, 1) := by decide +kernel
theorem dX5_goes_10 : decode cX5_goes 10 = .ok (.invokevirtual 200, 3) := by decide +kernel
theorem dX5_goes_13 : decode cX5_goes 13 = .ok (.ifCond .ne 19, 3) := by decide +kernel
theorem dX5_goes_16 : decode cX5_goes 16 = .ok (.aload_n 0, 1) := by decide +kernel
theorem dX5_goes_17 : decode cX5_goes 17 = .ok (.getfield 100, 3) := by decide +kernel
theorem dX5_goes_20 : decode cX5_goes 20 = .ok (.istore_n 2, 1) := by decide +kernel
theorem dX5_goes_21 : decode cX5_goes 21 = .ok (.aload_n 0, 1) := by decide +kernel
theorem dX5_goes_22 : decode cX5_goes 22 = .ok (.invokevirtual 203, 3) := by decide +kernel
theorem dX5_goes_25 : decode cX5_goes 25 = .ok (.pop, 1) := by decide +kernel
theorem dX5_goes_26 : decode cX5_goes 26 = .ok (.iinc 3 1, 3) := by decide +kernel
theorem dX5_goes_29 : decode cX5_goes 29 = .ok (.goto (-25), 3) := by decide +kernel
theorem dX5_goes_32 : decode cX5_goes 32 = .ok (.iload_n 2, 1) := by decide +kernel
theorem dX5_goes_33 : decode cX5_goes 33 = .ok (.ireturn, 1) := by decide +kernel
set_option maxRecDepth 20000 in
theorem ggX5_run_X5_in : GoodIn wsX5_run wsX5_in := goodIn_r _ [6] rfl (by decide +kernel)
set_option maxRecDepth 20000 in
theorem gX5_run_X5_in : GoodIn wsX5_run (va_wsS RX5 84 yX5_in wsX5_in) := goodIn_app (goodIn_of _ (by decide +kernel)) ggX5_run_X5_in
set_option maxRecDepth 20000 in
theorem ggX5_run_X5_isOne : GoodIn wsX5_run wsX5_isOne := goodIn_r _ [10, 11, 3, 4, 5, 6, 85, 86, 87, 88, 89, 90, 91, 92, 93, 94, 95, 96, 97, 98, 99, 100, 101, 102, 103, 104, 105, 106, 107, 108, 109, 110, 111, 112, 113, 114, 115, 116, 117, 118, 119, 120, 121] rfl (by decide +kernel)
set_option maxRecDepth 20000 in
theorem gX5_run_X5_isOne : GoodIn wsX5_run (wsV RX5 179 RX5 yX5_isOne wsX5_isOne) := goodIn_app (goodIn_of _ (by decide +kernel)) ggX5_run_X5_isOne
set_option maxRecDepth 20000 in
theorem ggX5_run_X5_keeps : GoodIn wsX5_run wsX5_keeps := goodIn_r _ [15, 16, 2, 17, 1, 18, 85, 86, 87, 88, 89, 90, 91, 92, 93, 94, 95, 96, 97, 98, 99, 100, 101, 102, 103, 104, 105, 106, 107, 108, 109, 110, 111, 112, 113, 114, 115, 116, 117, 118, 119, 120, 121] rfl (by decide +kernel)
set_option maxRecDepth 20000 in
theorem gX5_run_X5_keeps : GoodIn wsX5_run (wsV RX5 206 RX5 yX5_keeps wsX5_keeps) := goodIn_app (goodIn_of _ (by decide +kernel)) ggX5_run_X5_keeps
set_option maxRecDepth 20000 in
theorem ggX5_run_X5_goes : GoodIn wsX5_run wsX5_goes := goodIn_r _ [22, 1, 23, 24, 25, 5, 26, 11, 27, 28, 29, 30, 17, 31, 32, 33, 34, 35, 36, 37, 38, 2, 18, 39, 40, 41, 42, 43, 44, 45, 46, 47, 48, 49, 50, 51, 52, 53, 54, 55, 56, 57, 58, 59, 60, 61, 62, 63, 64, 65, 66, 67, 68, 69, 70, 71, 72, 73, 74, 75, 76, 85, 86, 87, 88, 89, 90, 91, 92, 93, 94, 95, 96, 97, 98, 99, 100, 101, 102, 103, 104, 105, 106, 107, 108, 109, 110, 111, 112, 113, 114, 115, 116, 117, 118, 119, 120, 121] rfl (by decide +kernel)
set_option maxRecDepth 20000 in
theorem gX5_run_X5_goes : GoodIn wsX5_run (wsV RX5 209 RX5 yX5_goes wsX5_goes) := goodIn_app (goodIn_of _ (by decide +kernel)) ggX5_run_X5_goes
set_option maxRecDepth 20000 in
theorem ggX5_run_X5_coinsAll : GoodIn wsX5_run wsX5_coinsAll := goodIn_r _ [30, 17, 85, 86, 87, 88, 89, 90, 91, 92, 93, 94, 95, 96, 97, 98, 99, 100, 101, 102, 103, 104, 105, 106, 107, 108, 109, 110, 111, 112, 113, 114, 115, 116, 117, 118, 119, 120, 121] rfl (by decide +kernel)
set_option maxRecDepth 20000 in
theorem gX5_run_X5_coinsAll : GoodIn wsX5_run (wsV RX5 88 RX5 yX5_coinsAll wsX5_coinsAll) := goodIn_app (goodIn_of _ (by decide +kernel)) ggX5_run_X5_coinsAll
set_option maxRecDepth 20000 in
theorem ggX5_run_X5_worthAll : GoodIn wsX5_run wsX5_worthAll := goodIn_r _ [80, 17, 85, 86, 87, 88, 89, 90, 91, 92, 93, 94, 95, 96, 97, 98, 99, 100, 101, 102, 103, 104, 105, 106, 107, 108, 109, 110, 111, 112, 113, 114, 115, 116, 117, 118, 119, 120, 121] rfl (by decide +kernel)
set_option maxRecDepth 20000 in
theorem gX5_run_X5_worthAll : GoodIn wsX5_run (wsV RX5 107 RX5 yX5_worthAll wsX5_worthAll) := goodIn_app (goodIn_of _ (by decide +kernel)) ggX5_run_X5_worthAll
set_option maxRecDepth 20000 in
theorem ggX5_run_X5_lays : GoodIn wsX5_run wsX5_lays := goodIn_r _ [84, 2, 16, 17, 1, 18, 85, 86, 87, 88, 89, 90, 91, 92, 93, 94, 95, 96, 97, 98, 99, 100, 101, 102, 103, 104, 105, 106, 107, 108, 109, 110, 111, 112, 113, 114, 115, 116, 117, 118, 119, 120, 121] rfl (by decide +kernel)
set_option maxRecDepth 20000 in
theorem gX5_run_X5_lays : GoodIn wsX5_run (wsV RX5 212 RX5 yX5_lays wsX5_lays) := goodIn_app (goodIn_of _ (by decide +kernel)) ggX5_run_X5_lays
theorem dX5_run_0 : decode cX5_run 0 = .ok (.iload_n 2, 1) := by decide +kernel
theorem dX5_run_1 : decode cX5_run 1 = .ok (.bipush 10, 2) := by decide +kernel
theorem dX5_run_3 : decode cX5_run 3 = .ok (.irem, 1) := by decide +kernel
theorem dX5_run_4 : decode cX5_run 4 = .ok (.istore_n 3, 1) := by decide +kernel
theorem dX5_run_5 : decode cX5_run 5 = .ok (.iload_n 1, 1) := by decide +kernel
theorem dX5_run_6 : decode cX5_run 6 = .ok (.iconst 0, 1) := by decide +kernel
theorem dX5_run_7 : decode cX5_run 7 = .ok (.bipush 120, 2) := by decide +kernel
theorem dX5_run_9 : decode cX5_run 9 = .ok (.invokestatic 84, 3) := by decide +kernel
theorem dX5_run_12 : decode cX5_run 12 = .ok (.ifCond .eq 31, 3) := by decide +kernel
theorem dX5_run_15 : decode cX5_run 15 = .ok (.iload_n 2, 1) := by decide +kernel
theorem dX5_run_16 : decode cX5_run 16 = .ok (.iconst 0, 1) := by decide +kernel
theorem dX5_run_17 : decode cX5_run 17 = .ok (.iconst 2, 1) := by decide +kernel
theorem dX5_run_18 : decode cX5_run 18 = .ok (.invokestatic 84, 3) := by decide +kernel
theorem dX5_run_21 : decode cX5_run 21 = .ok (.ifCond .ne 25, 3) := by decide +kernel
theorem dX5_run_24 : decode cX5_run 24 = .ok (.iload_n 2, 1) := by decide +kernel
theorem dX5_run_25 : decode cX5_run 25 = .ok (.bipush 10, 2) := by decide +kernel
theorem dX5_run_27 : decode cX5_run 27 = .ok (.bipush 39, 2) := by decide +kernel
theorem dX5_run_29 : decode cX5_run 29 = .ok (.invokestatic 84, 3) := by decide +kernel
theorem dX5_run_32 : decode cX5_run 32 = .ok (.ifCond .eq 11, 3) := by decide +kernel
theorem dX5_run_35 : decode cX5_run 35 = .ok (.aload_n 0, 1) := by decide +kernel
theorem dX5_run_36 : decode cX5_run 36 = .ok (.iload_n 3, 1) := by decide +kernel
theorem dX5_run_37 : decode cX5_run 37 = .ok (.invokevirtual 179, 3) := by decide +kernel
theorem dX5_run_40 : decode cX5_run 40 = .ok (.ifCond .ne 6, 3) := by decide +kernel
theorem dX5_run_43 : decode cX5_run 43 = .ok (.bipush (-2), 2) := by decide +kernel
theorem dX5_run_45 : decode cX5_run 45 = .ok (.ireturn, 1) := by decide +kernel
theorem dX5_run_46 : decode cX5_run 46 = .ok (.aload_n 0, 1) := by decide +kernel
theorem dX5_run_47 : decode cX5_run 47 = .ok (.invokevirtual 206, 3) := by decide +kernel
theorem dX5_run_50 : decode cX5_run 50 = .ok (.aload_n 0, 1) := by decide +kernel
theorem dX5_run_51 : decode cX5_run 51 = .ok (.iload_n 1, 1) := by decide +kernel
theorem dX5_run_52 : decode cX5_run 52 = .ok (.invokevirtual 209, 3) := by decide +kernel
theorem dX5_run_55 : decode cX5_run 55 = .ok (.pop, 1) := by decide +kernel
theorem dX5_run_56 : decode cX5_run 56 = .ok (.iconst 0, 1) := by decide +kernel
theorem dX5_run_57 : decode cX5_run 57 = .ok (.istore 4, 2) := by decide +kernel
theorem dX5_run_59 : decode cX5_run 59 = .ok (.iload_n 2, 1) := by decide +kernel
theorem dX5_run_60 : decode cX5_run 60 = .ok (.tableswitch 55 0 2 #[28, 37, 46], 28) := by decide +kernel
theorem dX5_run_88 : decode cX5_run 88 = .ok (.aload_n 0, 1) := by decide +kernel
theorem dX5_run_89 : decode cX5_run 89 = .ok (.invokevirtual 88, 3) := by decide +kernel
theorem dX5_run_92 : decode cX5_run 92 = .ok (.istore 4, 2) := by decide +kernel
theorem dX5_run_94 : decode cX5_run 94 = .ok (.goto 53, 3) := by decide +kernel
theorem dX5_run_97 : decode cX5_run 97 = .ok (.aload_n 0, 1) := by decide +kernel
theorem dX5_run_98 : decode cX5_run 98 = .ok (.invokevirtual 107, 3) := by decide +kernel
theorem dX5_run_101 : decode cX5_run 101 = .ok (.istore 4, 2) := by decide +kernel
theorem dX5_run_103 : decode cX5_run 103 = .ok (.goto 44, 3) := by decide +kernel
theorem dX5_run_106 : decode cX5_run 106 = .ok (.aload_n 0, 1) := by decide +kernel
theorem dX5_run_107 : decode cX5_run 107 = .ok (.getfield 100, 3) := by decide +kernel
theorem dX5_run_110 : decode cX5_run 110 = .ok (.istore 4, 2) := by decide +kernel
theorem dX5_run_112 : decode cX5_run 112 = .ok (.goto 35, 3) := by decide +kernel
theorem dX5_run_115 : decode cX5_run 115 = .ok (.aload_n 0, 1) := by decide +kernel
theorem dX5_run_116 : decode cX5_run 116 = .ok (.getfield 16, 3) := by decide +kernel
theorem dX5_run_119 : decode cX5_run 119 = .ok (.iconst 3, 1) := by decide +kernel
theorem dX5_run_120 : decode cX5_run 120 = .ok (.iload_n 3, 1) := by decide +kernel
theorem dX5_run_121 : decode cX5_run 121 = .ok (.imul, 1) := by decide +kernel
theorem dX5_run_122 : decode cX5_run 122 = .ok (.iload_n 2, 1) := by decide +kernel
theorem dX5_run_123 : decode cX5_run 123 = .ok (.bipush 20, 2) := by decide +kernel
theorem dX5_run_125 : decode cX5_run 125 = .ok (.if_icmp .ge 7, 3) := by decide +kernel
theorem dX5_run_128 : decode cX5_run 128 = .ok (.iconst 1, 1) := by decide +kernel
theorem dX5_run_129 : decode cX5_run 129 = .ok (.goto 14, 3) := by decide +kernel
theorem dX5_run_132 : decode cX5_run 132 = .ok (.iload_n 2, 1) := by decide +kernel
theorem dX5_run_133 : decode cX5_run 133 = .ok (.bipush 30, 2) := by decide +kernel
theorem dX5_run_135 : decode cX5_run 135 = .ok (.if_icmp .ge 7, 3) := by decide +kernel
theorem dX5_run_138 : decode cX5_run 138 = .ok (.iconst 0, 1) := by decide +kernel
theorem dX5_run_139 : decode cX5_run 139 = .ok (.goto 4, 3) := by decide +kernel
theorem dX5_run_142 : decode cX5_run 142 = .ok (.iconst 2, 1) := by decide +kernel
theorem dX5_run_143 : decode cX5_run 143 = .ok (.iadd, 1) := by decide +kernel
theorem dX5_run_144 : decode cX5_run 144 = .ok (.iaload, 1) := by decide +kernel
theorem dX5_run_145 : decode cX5_run 145 = .ok (.istore 4, 2) := by decide +kernel
theorem dX5_run_147 : decode cX5_run 147 = .ok (.aload_n 0, 1) := by decide +kernel
theorem dX5_run_148 : decode cX5_run 148 = .ok (.invokevirtual 212, 3) := by decide +kernel
theorem dX5_run_151 : decode cX5_run 151 = .ok (.iload 4, 2) := by decide +kernel
theorem dX5_run_153 : decode cX5_run 153 = .ok (.ireturn, 1) := by decide +kernel
theorem dX5_mostBy_0 : decode cX5_mostBy 0 = .ok (.iconst (-1), 1) := by decide +kernel
theorem dX5_mostBy_1 : decode cX5_mostBy 1 = .ok (.istore_n 2, 1) := by decide +kernel
theorem dX5_mostBy_2 : decode cX5_mostBy 2 = .ok (.iconst 0, 1) := by decide +kernel
theorem dX5_mostBy_3 : decode cX5_mostBy 3 = .ok (.istore_n 3, 1) := by decide +kernel
theorem dX5_mostBy_4 : decode cX5_mostBy 4 = .ok (.iconst 0, 1) := by decide +kernel
theorem dX5_mostBy_5 : decode cX5_mostBy 5 = .ok (.istore 4, 2) := by decide +kernel
theorem dX5_mostBy_7 : decode cX5_mostBy 7 = .ok (.iload 4, 2) := by decide +kernel
theorem dX5_mostBy_9 : decode cX5_mostBy 9 = .ok (.aload_n 0, 1) := by decide +kernel
theorem dX5_mostBy_10 : decode cX5_mostBy 10 = .ok (.getfield 81, 3) := by decide +kernel
theorem dX5_mostBy_13 : decode cX5_mostBy 13 = .ok (.if_icmp .ge 69, 3) := by decide +kernel
theorem dX5_mostBy_16 : decode cX5_mostBy 16 = .ok (.iload_n 2, 1) := by decide +kernel
theorem dX5_mostBy_17 : decode cX5_mostBy 17 = .ok (.iconst (-1), 1) := by decide +kernel
theorem dX5_mostBy_18 : decode cX5_mostBy 18 = .ok (.if_icmp .eq 18, 3) := by decide +kernel
theorem dX5_mostBy_21 : decode cX5_mostBy 21 = .ok (.aload_n 0, 1) := by decide +kernel
theorem dX5_mostBy_22 : decode cX5_mostBy 22 = .ok (.getfield 16, 3) := by decide +kernel
theorem dX5_mostBy_25 : decode cX5_mostBy 25 = .ok (.iconst 3, 1) := by decide +kernel
theorem dX5_mostBy_26 : decode cX5_mostBy 26 = .ok (.iload 4, 2) := by decide +kernel
theorem dX5_mostBy_28 : decode cX5_mostBy 28 = .ok (.imul, 1) := by decide +kernel
theorem dX5_mostBy_29 : decode cX5_mostBy 29 = .ok (.iload_n 1, 1) := by decide +kernel
theorem dX5_mostBy_30 : decode cX5_mostBy 30 = .ok (.iadd, 1) := by decide +kernel
theorem dX5_mostBy_31 : decode cX5_mostBy 31 = .ok (.iaload, 1) := by decide +kernel
theorem dX5_mostBy_32 : decode cX5_mostBy 32 = .ok (.iload_n 3, 1) := by decide +kernel
theorem dX5_mostBy_33 : decode cX5_mostBy 33 = .ok (.if_icmp .le 7, 3) := by decide +kernel
theorem dX5_mostBy_36 : decode cX5_mostBy 36 = .ok (.iconst 1, 1) := by decide +kernel
theorem dX5_mostBy_37 : decode cX5_mostBy 37 = .ok (.goto 4, 3) := by decide +kernel
theorem dX5_mostBy_40 : decode cX5_mostBy 40 = .ok (.iconst 0, 1) := by decide +kernel
theorem dX5_mostBy_41 : decode cX5_mostBy 41 = .ok (.istore 5, 2) := by decide +kernel
theorem dX5_mostBy_43 : decode cX5_mostBy 43 = .ok (.iload 5, 2) := by decide +kernel
theorem dX5_mostBy_45 : decode cX5_mostBy 45 = .ok (.ifCond .eq 8, 3) := by decide +kernel
theorem dX5_mostBy_48 : decode cX5_mostBy 48 = .ok (.iload 4, 2) := by decide +kernel
theorem dX5_mostBy_50 : decode cX5_mostBy 50 = .ok (.goto 4, 3) := by decide +kernel
theorem dX5_mostBy_53 : decode cX5_mostBy 53 = .ok (.iload_n 2, 1) := by decide +kernel
theorem dX5_mostBy_54 : decode cX5_mostBy 54 = .ok (.istore_n 2, 1) := by decide +kernel
theorem dX5_mostBy_55 : decode cX5_mostBy 55 = .ok (.iload 5, 2) := by decide +kernel
theorem dX5_mostBy_57 : decode cX5_mostBy 57 = .ok (.ifCond .eq 17, 3) := by decide +kernel
theorem dX5_mostBy_60 : decode cX5_mostBy 60 = .ok (.aload_n 0, 1) := by decide +kernel
theorem dX5_mostBy_61 : decode cX5_mostBy 61 = .ok (.getfield 16, 3) := by decide +kernel
theorem dX5_mostBy_64 : decode cX5_mostBy 64 = .ok (.iconst 3, 1) := by decide +kernel
theorem dX5_mostBy_65 : decode cX5_mostBy 65 = .ok (.iload 4, 2) := by decide +kernel
theorem dX5_mostBy_67 : decode cX5_mostBy 67 = .ok (.imul, 1) := by decide +kernel
theorem dX5_mostBy_68 : decode cX5_mostBy 68 = .ok (.iload_n 1, 1) := by decide +kernel
theorem dX5_mostBy_69 : decode cX5_mostBy 69 = .ok (.iadd, 1) := by decide +kernel
theorem dX5_mostBy_70 : decode cX5_mostBy 70 = .ok (.iaload, 1) := by decide +kernel
theorem dX5_mostBy_71 : decode cX5_mostBy 71 = .ok (.goto 4, 3) := by decide +kernel
theorem dX5_mostBy_74 : decode cX5_mostBy 74 = .ok (.iload_n 3, 1) := by decide +kernel
theorem dX5_mostBy_75 : decode cX5_mostBy 75 = .ok (.istore_n 3, 1) := by decide +kernel
theorem dX5_mostBy_76 : decode cX5_mostBy 76 = .ok (.iinc 4 1, 3) := by decide +kernel
theorem dX5_mostBy_79 : decode cX5_mostBy 79 = .ok (.goto (-72), 3) := by decide +kernel
theorem dX5_mostBy_82 : decode cX5_mostBy 82 = .ok (.iload_n 2, 1) := by decide +kernel
theorem dX5_mostBy_83 : decode cX5_mostBy 83 = .ok (.ireturn, 1) := by decide +kernel
set_option maxRecDepth 20000 in
theorem ggX5_end_X5_in : GoodIn wsX5_end wsX5_in := goodIn_r _ [4] rfl (by decide +kernel)
set_option maxRecDepth 20000 in
theorem gX5_end_X5_in : GoodIn wsX5_end (va_wsS RX5 84 yX5_in wsX5_in) := goodIn_app (goodIn_of _ (by decide +kernel)) ggX5_end_X5_in
set_option maxRecDepth 20000 in
theorem ggX5_end_X5_keeps : GoodIn wsX5_end wsX5_keeps := goodIn_r _ [8, 9, 10, 11, 12, 13, 81, 82, 83, 84, 85, 86, 87, 88, 89, 90, 91, 92, 93, 94, 95, 96, 97, 98, 99, 100, 101, 102, 103, 104, 105, 106, 107, 108, 109, 110, 111, 112, 113, 114, 115, 116, 117] rfl (by decide +kernel)
set_option maxRecDepth 20000 in
theorem gX5_end_X5_keeps : GoodIn wsX5_end (wsV RX5 206 RX5 yX5_keeps wsX5_keeps) := goodIn_app (goodIn_of _ (by decide +kernel)) ggX5_end_X5_keeps
set_option maxRecDepth 20000 in
theorem ggX5_end_X5_goes : GoodIn wsX5_end wsX5_goes := goodIn_r _ [17, 12, 18, 19, 20, 3, 21, 22, 23, 24, 25, 26, 11, 27, 28, 29, 30, 31, 32, 33, 34, 10, 13, 35, 36, 37, 38, 39, 40, 41, 42, 43, 44, 45, 46, 47, 48, 49, 50, 51, 52, 53, 54, 55, 56, 57, 58, 59, 60, 61, 62, 63, 64, 65, 66, 67, 68, 69, 70, 71, 72, 81, 82, 83, 84, 85, 86, 87, 88, 89, 90, 91, 92, 93, 94, 95, 96, 97, 98, 99, 100, 101, 102, 103, 104, 105, 106, 107, 108, 109, 110, 111, 112, 113, 114, 115, 116, 117] rfl (by decide +kernel)
set_option maxRecDepth 20000 in
theorem gX5_end_X5_goes : GoodIn wsX5_end (wsV RX5 209 RX5 yX5_goes wsX5_goes) := goodIn_app (goodIn_of _ (by decide +kernel)) ggX5_end_X5_goes
set_option maxRecDepth 20000 in
theorem ggX5_end_X5_mostBy : GoodIn wsX5_end wsX5_mostBy := goodIn_r _ [76, 22, 10, 81, 82, 83, 84, 85, 86, 87, 88, 89, 90, 91, 92, 93, 94, 95, 96, 97, 98, 99, 100, 101, 102, 103, 104, 105, 106, 107, 108, 109, 110, 111, 112, 113, 114, 115, 116, 117] rfl (by decide +kernel)
set_option maxRecDepth 20000 in
theorem gX5_end_X5_mostBy : GoodIn wsX5_end (wsV RX5 215 RX5 yX5_mostBy wsX5_mostBy) := goodIn_app (goodIn_of _ (by decide +kernel)) ggX5_end_X5_mostBy
set_option maxRecDepth 20000 in
theorem ggX5_end_X5_lays : GoodIn wsX5_end wsX5_lays := goodIn_r _ [80, 10, 9, 11, 12, 13, 81, 82, 83, 84, 85, 86, 87, 88, 89, 90, 91, 92, 93, 94, 95, 96, 97, 98, 99, 100, 101, 102, 103, 104, 105, 106, 107, 108, 109, 110, 111, 112, 113, 114, 115, 116, 117] rfl (by decide +kernel)
set_option maxRecDepth 20000 in
theorem gX5_end_X5_lays : GoodIn wsX5_end (wsV RX5 212 RX5 yX5_lays wsX5_lays) := goodIn_app (goodIn_of _ (by decide +kernel)) ggX5_end_X5_lays
theorem dX5_end_0 : decode cX5_end 0 = .ok (.iload_n 1, 1) := by decide +kernel
theorem dX5_end_1 : decode cX5_end 1 = .ok (.iconst 0, 1) := by decide +kernel
theorem dX5_end_2 : decode cX5_end 2 = .ok (.iconst 2, 1) := by decide +kernel
theorem dX5_end_3 : decode cX5_end 3 = .ok (.invokestatic 84, 3) := by decide +kernel
theorem dX5_end_6 : decode cX5_end 6 = .ok (.ifCond .ne 6, 3) := by decide +kernel
theorem dX5_end_9 : decode cX5_end 9 = .ok (.bipush (-2), 2) := by decide +kernel
theorem dX5_end_11 : decode cX5_end 11 = .ok (.ireturn, 1) := by decide +kernel
theorem dX5_end_12 : decode cX5_end 12 = .ok (.aload_n 0, 1) := by decide +kernel
theorem dX5_end_13 : decode cX5_end 13 = .ok (.invokevirtual 206, 3) := by decide +kernel
theorem dX5_end_16 : decode cX5_end 16 = .ok (.aload_n 0, 1) := by decide +kernel
theorem dX5_end_17 : decode cX5_end 17 = .ok (.bipush 120, 2) := by decide +kernel
theorem dX5_end_19 : decode cX5_end 19 = .ok (.invokevirtual 209, 3) := by decide +kernel
theorem dX5_end_22 : decode cX5_end 22 = .ok (.istore_n 2, 1) := by decide +kernel
theorem dX5_end_23 : decode cX5_end 23 = .ok (.iload_n 1, 1) := by decide +kernel
theorem dX5_end_24 : decode cX5_end 24 = .ok (.ifCond .ne 7, 3) := by decide +kernel
theorem dX5_end_27 : decode cX5_end 27 = .ok (.iload_n 2, 1) := by decide +kernel
theorem dX5_end_28 : decode cX5_end 28 = .ok (.goto 8, 3) := by decide +kernel
theorem dX5_end_31 : decode cX5_end 31 = .ok (.aload_n 0, 1) := by decide +kernel
theorem dX5_end_32 : decode cX5_end 32 = .ok (.iload_n 1, 1) := by decide +kernel
theorem dX5_end_33 : decode cX5_end 33 = .ok (.invokevirtual 215, 3) := by decide +kernel
theorem dX5_end_36 : decode cX5_end 36 = .ok (.istore_n 3, 1) := by decide +kernel
theorem dX5_end_37 : decode cX5_end 37 = .ok (.aload_n 0, 1) := by decide +kernel
theorem dX5_end_38 : decode cX5_end 38 = .ok (.invokevirtual 212, 3) := by decide +kernel
theorem dX5_end_41 : decode cX5_end 41 = .ok (.iload_n 3, 1) := by decide +kernel
theorem dX5_end_42 : decode cX5_end 42 = .ok (.ireturn, 1) := by decide +kernel
set_option maxRecDepth 20000 in
theorem ggX5_first_X5_isOne : GoodIn wsX5_first wsX5_isOne := goodIn_r _ [8, 1, 9, 10, 7, 11, 81, 82, 83, 84, 85, 86, 87, 88, 89, 90, 91, 92, 93, 94, 95, 96, 97, 98, 99, 100, 101, 102, 103, 104, 105, 106, 107, 108, 109, 110, 111, 112, 113, 114, 115, 116, 117] rfl (by decide +kernel)
set_option maxRecDepth 20000 in
theorem gX5_first_X5_isOne : GoodIn wsX5_first (wsV RX5 179 RX5 yX5_isOne wsX5_isOne) := goodIn_app (goodIn_of _ (by decide +kernel)) ggX5_first_X5_isOne
set_option maxRecDepth 20000 in
theorem ggX5_first_X5_in : GoodIn wsX5_first wsX5_in := goodIn_r _ [11] rfl (by decide +kernel)
set_option maxRecDepth 20000 in
theorem gX5_first_X5_in : GoodIn wsX5_first (va_wsS RX5 84 yX5_in wsX5_in) := goodIn_app (goodIn_of _ (by decide +kernel)) ggX5_first_X5_in
set_option maxRecDepth 20000 in
theorem ggX5_first_X5_keeps : GoodIn wsX5_first wsX5_keeps := goodIn_r _ [15, 16, 3, 17, 2, 18, 81, 82, 83, 84, 85, 86, 87, 88, 89, 90, 91, 92, 93, 94, 95, 96, 97, 98, 99, 100, 101, 102, 103, 104, 105, 106, 107, 108, 109, 110, 111, 112, 113, 114, 115, 116, 117] rfl (by decide +kernel)
set_option maxRecDepth 20000 in
theorem gX5_first_X5_keeps : GoodIn wsX5_first (wsV RX5 206 RX5 yX5_keeps wsX5_keeps) := goodIn_app (goodIn_of _ (by decide +kernel)) ggX5_first_X5_keeps
set_option maxRecDepth 20000 in
theorem ggX5_first_X5_goes : GoodIn wsX5_first wsX5_goes := goodIn_r _ [22, 2, 23, 24, 25, 7, 26, 1, 27, 28, 29, 30, 17, 31, 32, 33, 34, 35, 36, 37, 38, 3, 18, 39, 40, 41, 42, 43, 44, 45, 46, 47, 48, 49, 50, 51, 52, 53, 54, 55, 56, 57, 58, 59, 60, 61, 62, 63, 64, 65, 66, 67, 68, 69, 70, 71, 72, 73, 74, 75, 76, 81, 82, 83, 84, 85, 86, 87, 88, 89, 90, 91, 92, 93, 94, 95, 96, 97, 98, 99, 100, 101, 102, 103, 104, 105, 106, 107, 108, 109, 110, 111, 112, 113, 114, 115, 116, 117] rfl (by decide +kernel)
set_option maxRecDepth 20000 in
theorem gX5_first_X5_goes : GoodIn wsX5_first (wsV RX5 209 RX5 yX5_goes wsX5_goes) := goodIn_app (goodIn_of _ (by decide +kernel)) ggX5_first_X5_goes
set_option maxRecDepth 20000 in
theorem ggX5_first_X5_lays : GoodIn wsX5_first wsX5_lays := goodIn_r _ [80, 3, 16, 17, 2, 18, 81, 82, 83, 84, 85, 86, 87, 88, 89, 90, 91, 92, 93, 94, 95, 96, 97, 98, 99, 100, 101, 102, 103, 104, 105, 106, 107, 108, 109, 110, 111, 112, 113, 114, 115, 116, 117] rfl (by decide +kernel)
set_option maxRecDepth 20000 in
theorem gX5_first_X5_lays : GoodIn wsX5_first (wsV RX5 212 RX5 yX5_lays wsX5_lays) := goodIn_app (goodIn_of _ (by decide +kernel)) ggX5_first_X5_lays
theorem dX5_first_0 : decode cX5_first 0 = .ok (.aload_n 0, 1) := by decide +kernel
theorem dX5_first_1 : decode cX5_first 1 = .ok (.iload_n 1, 1) := by decide +kernel
theorem dX5_first_2 : decode cX5_first 2 = .ok (.invokevirtual 179, 3) := by decide +kernel
theorem dX5_first_5 : decode cX5_first 5 = .ok (.ifCond .ne 6, 3) := by decide +kernel
theorem dX5_first_8 : decode cX5_first 8 = .ok (.bipush (-5), 2) := by decide +kernel
theorem dX5_first_10 : decode cX5_first 10 = .ok (.ireturn, 1) := by decide +kernel
theorem dX5_first_11 : decode cX5_first 11 = .ok (.iload_n 2, 1) := by decide +kernel
theorem dX5_first_12 : decode cX5_first 12 = .ok (.iconst 0, 1) := by decide +kernel
theorem dX5_first_13 : decode cX5_first 13 = .ok (.iconst 1, 1) := by decide +kernel
theorem dX5_first_14 : decode cX5_first 14 = .ok (.invokestatic 84, 3) := by decide +kernel
theorem dX5_first_17 : decode cX5_first 17 = .ok (.ifCond .ne 6, 3) := by decide +kernel
theorem dX5_first_20 : decode cX5_first 20 = .ok (.bipush (-7), 2) := by decide +kernel
theorem dX5_first_22 : decode cX5_first 22 = .ok (.ireturn, 1) := by decide +kernel
theorem dX5_first_23 : decode cX5_first 23 = .ok (.iconst (-1), 1) := by decide +kernel
theorem dX5_first_24 : decode cX5_first 24 = .ok (.istore_n 3, 1) := by decide +kernel
theorem dX5_first_25 : decode cX5_first 25 = .ok (.iconst 0, 1) := by decide +kernel
theorem dX5_first_26 : decode cX5_first 26 = .ok (.istore 4, 2) := by decide +kernel
theorem dX5_first_28 : decode cX5_first 28 = .ok (.aload_n 0, 1) := by decide +kernel
theorem dX5_first_29 : decode cX5_first 29 = .ok (.invokevirtual 206, 3) := by decide +kernel
theorem dX5_first_32 : decode cX5_first 32 = .ok (.iconst 0, 1) := by decide +kernel
theorem dX5_first_33 : decode cX5_first 33 = .ok (.istore 5, 2) := by decide +kernel
theorem dX5_first_35 : decode cX5_first 35 = .ok (.iload 5, 2) := by decide +kernel
theorem dX5_first_37 : decode cX5_first 37 = .ok (.aload_n 0, 1) := by decide +kernel
theorem dX5_first_38 : decode cX5_first 38 = .ok (.getfield 81, 3) := by decide +kernel
theorem dX5_first_41 : decode cX5_first 41 = .ok (.if_icmp .ge 83, 3) := by decide +kernel
theorem dX5_first_44 : decode cX5_first 44 = .ok (.aload_n 0, 1) := by decide +kernel
theorem dX5_first_45 : decode cX5_first 45 = .ok (.iload 5, 2) := by decide +kernel
theorem dX5_first_47 : decode cX5_first 47 = .ok (.putfield 100, 3) := by decide +kernel
theorem dX5_first_50 : decode cX5_first 50 = .ok (.aload_n 0, 1) := by decide +kernel
theorem dX5_first_51 : decode cX5_first 51 = .ok (.bipush 120, 2) := by decide +kernel
theorem dX5_first_53 : decode cX5_first 53 = .ok (.invokevirtual 209, 3) := by decide +kernel
theorem dX5_first_56 : decode cX5_first 56 = .ok (.pop, 1) := by decide +kernel
theorem dX5_first_57 : decode cX5_first 57 = .ok (.aload_n 0, 1) := by decide +kernel
theorem dX5_first_58 : decode cX5_first 58 = .ok (.getfield 16, 3) := by decide +kernel
theorem dX5_first_61 : decode cX5_first 61 = .ok (.iconst 3, 1) := by decide +kernel
theorem dX5_first_62 : decode cX5_first 62 = .ok (.iload_n 1, 1) := by decide +kernel
theorem dX5_first_63 : decode cX5_first 63 = .ok (.imul, 1) := by decide +kernel
theorem dX5_first_64 : decode cX5_first 64 = .ok (.iconst 1, 1) := by decide +kernel
theorem dX5_first_65 : decode cX5_first 65 = .ok (.iadd, 1) := by decide +kernel
theorem dX5_first_66 : decode cX5_first 66 = .ok (.iaload, 1) := by decide +kernel
theorem dX5_first_67 : decode cX5_first 67 = .ok (.istore 6, 2) := by decide +kernel
theorem dX5_first_69 : decode cX5_first 69 = .ok (.aload_n 0, 1) := by decide +kernel
theorem dX5_first_70 : decode cX5_first 70 = .ok (.invokevirtual 212, 3) := by decide +kernel
theorem dX5_first_73 : decode cX5_first 73 = .ok (.iload_n 3, 1) := by decide +kernel
theorem dX5_first_74 : decode cX5_first 74 = .ok (.iconst (-1), 1) := by decide +kernel
theorem dX5_first_75 : decode cX5_first 75 = .ok (.if_icmp .eq 10, 3) := by decide +kernel
theorem dX5_first_78 : decode cX5_first 78 = .ok (.iload 6, 2) := by decide +kernel
theorem dX5_first_80 : decode cX5_first 80 = .ok (.iload 4, 2) := by decide +kernel
theorem dX5_first_82 : decode cX5_first 82 = .ok (.if_icmp .le 7, 3) := by decide +kernel
theorem dX5_first_85 : decode cX5_first 85 = .ok (.iconst 1, 1) := by decide +kernel
theorem dX5_first_86 : decode cX5_first 86 = .ok (.goto 4, 3) := by decide +kernel
theorem dX5_first_89 : decode cX5_first 89 = .ok (.iconst 0, 1) := by decide +kernel
theorem dX5_first_90 : decode cX5_first 90 = .ok (.istore 7, 2) := by decide +kernel
theorem dX5_first_92 : decode cX5_first 92 = .ok (.iload 7, 2) := by decide +kernel
theorem dX5_first_94 : decode cX5_first 94 = .ok (.ifCond .eq 8, 3) := by decide +kernel
theorem dX5_first_97 : decode cX5_first 97 = .ok (.iload 5, 2) := by decide +kernel
theorem dX5_first_99 : decode cX5_first 99 = .ok (.goto 4, 3) := by decide +kernel
theorem dX5_first_102 : decode cX5_first 102 = .ok (.iload_n 3, 1) := by decide +kernel
theorem dX5_first_103 : decode cX5_first 103 = .ok (.istore_n 3, 1) := by decide +kernel
theorem dX5_first_104 : decode cX5_first 104 = .ok (.iload 7, 2) := by decide +kernel
theorem dX5_first_106 : decode cX5_first 106 = .ok (.ifCond .eq 8, 3) := by decide +kernel
theorem dX5_first_109 : decode cX5_first 109 = .ok (.iload 6, 2) := by decide +kernel
theorem dX5_first_111 : decode cX5_first 111 = .ok (.goto 5, 3) := by decide +kernel
theorem dX5_first_114 : decode cX5_first 114 = .ok (.iload 4, 2) := by decide +kernel
theorem dX5_first_116 : decode cX5_first 116 = .ok (.istore 4, 2) := by decide +kernel
theorem dX5_first_118 : decode cX5_first 118 = .ok (.iinc 5 1, 3) := by decide +kernel
theorem dX5_first_121 : decode cX5_first 121 = .ok (.goto (-86), 3) := by decide +kernel
theorem dX5_first_124 : decode cX5_first 124 = .ok (.iload_n 2, 1) := by decide +kernel
theorem dX5_first_125 : decode cX5_first 125 = .ok (.ifCond .ne 7, 3) := by decide +kernel
theorem dX5_first_128 : decode cX5_first 128 = .ok (.iload_n 3, 1) := by decide +kernel
theorem dX5_first_129 : decode cX5_first 129 = .ok (.goto 5, 3) := by decide +kernel
theorem dX5_first_132 : decode cX5_first 132 = .ok (.iload 4, 2) := by decide +kernel
theorem dX5_first_134 : decode cX5_first 134 = .ok (.ireturn, 1) := by decide +kernel
set_option maxRecDepth 20000 in
theorem ggX5_vicar_X5_isOne : GoodIn wsX5_vicar wsX5_isOne := goodIn_r _ [7, 8, 9, 10, 6, 11, 81, 82, 83, 84, 85, 86, 87, 88, 89, 90, 91, 92, 93, 94, 95, 96, 97, 98, 99, 100, 101, 102, 103, 104, 105, 106, 107, 108, 109, 110, 111, 112, 113, 114, 115, 116, 117] rfl (by decide +kernel)
set_option maxRecDepth 20000 in
theorem gX5_vicar_X5_isOne : GoodIn wsX5_vicar (wsV RX5 179 RX5 yX5_isOne wsX5_isOne) := goodIn_app (goodIn_of _ (by decide +kernel)) ggX5_vicar_X5_isOne
set_option maxRecDepth 20000 in
theorem ggX5_vicar_X5_in : GoodIn wsX5_vicar wsX5_in := goodIn_r _ [11] rfl (by decide +kernel)
set_option maxRecDepth 20000 in
theorem gX5_vicar_X5_in : GoodIn wsX5_vicar (va_wsS RX5 84 yX5_in wsX5_in) := goodIn_app (goodIn_of _ (by decide +kernel)) ggX5_vicar_X5_in
set_option maxRecDepth 20000 in
theorem ggX5_vicar_X5_keeps : GoodIn wsX5_vicar wsX5_keeps := goodIn_r _ [15, 16, 17, 1, 2, 18, 81, 82, 83, 84, 85, 86, 87, 88, 89, 90, 91, 92, 93, 94, 95, 96, 97, 98, 99, 100, 101, 102, 103, 104, 105, 106, 107, 108, 109, 110, 111, 112, 113, 114, 115, 116, 117] rfl (by decide +kernel)
set_option maxRecDepth 20000 in
theorem gX5_vicar_X5_keeps : GoodIn wsX5_vicar (wsV RX5 206 RX5 yX5_keeps wsX5_keeps) := goodIn_app (goodIn_of _ (by decide +kernel)) ggX5_vicar_X5_keeps
set_option maxRecDepth 20000 in
theorem ggX5_vicar_X5_goes : GoodIn wsX5_vicar wsX5_goes := goodIn_r _ [22, 2, 23, 24, 25, 6, 26, 8, 27, 28, 29, 30, 1, 31, 32, 33, 34, 35, 36, 37, 38, 17, 18, 39, 40, 41, 42, 43, 44, 45, 46, 47, 48, 49, 50, 51, 52, 53, 54, 55, 56, 57, 58, 59, 60, 61, 62, 63, 64, 65, 66, 67, 68, 69, 70, 71, 72, 73, 74, 75, 76, 81, 82, 83, 84, 85, 86, 87, 88, 89, 90, 91, 92, 93, 94, 95, 96, 97, 98, 99, 100, 101, 102, 103, 104, 105, 106, 107, 108, 109, 110, 111, 112, 113, 114, 115, 116, 117] rfl (by decide +kernel)
set_option maxRecDepth 20000 in
theorem gX5_vicar_X5_goes : GoodIn wsX5_vicar (wsV RX5 209 RX5 yX5_goes wsX5_goes) := goodIn_app (goodIn_of _ (by decide +kernel)) ggX5_vicar_X5_goes
set_option maxRecDepth 20000 in
theorem ggX5_vicar_X5_lays : GoodIn wsX5_vicar wsX5_lays := goodIn_r _ [80, 17, 16, 1, 2, 18, 81, 82, 83, 84, 85, 86, 87, 88, 89, 90, 91, 92, 93, 94, 95, 96, 97, 98, 99, 100, 101, 102, 103, 104, 105, 106, 107, 108, 109, 110, 111, 112, 113, 114, 115, 116, 117] rfl (by decide +kernel)
set_option maxRecDepth 20000 in
theorem gX5_vicar_X5_lays : GoodIn wsX5_vicar (wsV RX5 212 RX5 yX5_lays wsX5_lays) := goodIn_app (goodIn_of _ (by decide +kernel)) ggX5_vicar_X5_lays
theorem dX5_vicar_0 : decode cX5_vicar 0 = .ok (.aload_n 0, 1) := by decide +kernel
theorem dX5_vicar_1 : decode cX5_vicar 1 = .ok (.iload_n 1, 1) := by decide +kernel
theorem dX5_vicar_2 : decode cX5_vicar 2 = .ok (.invokevirtual 179, 3) := by decide +kernel
theorem dX5_vicar_5 : decode cX5_vicar 5 = .ok (.ifCond .ne 6, 3) := by decide +kernel
theorem dX5_vicar_8 : decode cX5_vicar 8 = .ok (.bipush (-5), 2) := by decide +kernel
theorem dX5_vicar_10 : decode cX5_vicar 10 = .ok (.ireturn, 1) := by decide +kernel
theorem dX5_vicar_11 : decode cX5_vicar 11 = .ok (.iload_n 2, 1) := by decide +kernel
theorem dX5_vicar_12 : decode cX5_vicar 12 = .ok (.iconst 0, 1) := by decide +kernel
theorem dX5_vicar_13 : decode cX5_vicar 13 = .ok (.iconst 1, 1) := by decide +kernel
theorem dX5_vicar_14 : decode cX5_vicar 14 = .ok (.invokestatic 84, 3) := by decide +kernel
theorem dX5_vicar_17 : decode cX5_vicar 17 = .ok (.ifCond .ne 6, 3) := by decide +kernel
theorem dX5_vicar_20 : decode cX5_vicar 20 = .ok (.bipush (-7), 2) := by decide +kernel
theorem dX5_vicar_22 : decode cX5_vicar 22 = .ok (.ireturn, 1) := by decide +kernel
theorem dX5_vicar_23 : decode cX5_vicar 23 = .ok (.iconst (-1), 1) := by decide +kernel
theorem dX5_vicar_24 : decode cX5_vicar 24 = .ok (.istore_n 3, 1) := by decide +kernel
theorem dX5_vicar_25 : decode cX5_vicar 25 = .ok (.iconst (-1), 1) := by decide +kernel
theorem dX5_vicar_26 : decode cX5_vicar 26 = .ok (.istore 4, 2) := by decide +kernel
theorem dX5_vicar_28 : decode cX5_vicar 28 = .ok (.aload_n 0, 1) := by decide +kernel
theorem dX5_vicar_29 : decode cX5_vicar 29 = .ok (.invokevirtual 206, 3) := by decide +kernel
theorem dX5_vicar_32 : decode cX5_vicar 32 = .ok (.iconst 0, 1) := by decide +kernel
theorem dX5_vicar_33 : decode cX5_vicar 33 = .ok (.istore 5, 2) := by decide +kernel
theorem dX5_vicar_35 : decode cX5_vicar 35 = .ok (.iload 5, 2) := by decide +kernel
theorem dX5_vicar_37 : decode cX5_vicar 37 = .ok (.bipush 6, 2) := by decide +kernel
theorem dX5_vicar_39 : decode cX5_vicar 39 = .ok (.if_icmp .ge 86, 3) := by decide +kernel
theorem dX5_vicar_42 : decode cX5_vicar 42 = .ok (.iload_n 3, 1) := by decide +kernel
theorem dX5_vicar_43 : decode cX5_vicar 43 = .ok (.iconst (-1), 1) := by decide +kernel
theorem dX5_vicar_44 : decode cX5_vicar 44 = .ok (.if_icmp .ne 81, 3) := by decide +kernel
theorem dX5_vicar_47 : decode cX5_vicar 47 = .ok (.aload_n 0, 1) := by decide +kernel
theorem dX5_vicar_48 : decode cX5_vicar 48 = .ok (.getfield 19, 3) := by decide +kernel
theorem dX5_vicar_51 : decode cX5_vicar 51 = .ok (.iconst 2, 1) := by decide +kernel
theorem dX5_vicar_52 : decode cX5_vicar 52 = .ok (.iload 5, 2) := by decide +kernel
theorem dX5_vicar_54 : decode cX5_vicar 54 = .ok (.imul, 1) := by decide +kernel
theorem dX5_vicar_55 : decode cX5_vicar 55 = .ok (.iconst 1, 1) := by decide +kernel
theorem dX5_vicar_56 : decode cX5_vicar 56 = .ok (.iadd, 1) := by decide +kernel
theorem dX5_vicar_57 : decode cX5_vicar 57 = .ok (.iaload, 1) := by decide +kernel
theorem dX5_vicar_58 : decode cX5_vicar 58 = .ok (.bipush 20, 2) := by decide +kernel
theorem dX5_vicar_60 : decode cX5_vicar 60 = .ok (.if_icmp .ge 59, 3) := by decide +kernel
theorem dX5_vicar_63 : decode cX5_vicar 63 = .ok (.aload_n 0, 1) := by decide +kernel
theorem dX5_vicar_64 : decode cX5_vicar 64 = .ok (.getfield 19, 3) := by decide +kernel
theorem dX5_vicar_67 : decode cX5_vicar 67 = .ok (.iconst 2, 1) := by decide +kernel
theorem dX5_vicar_68 : decode cX5_vicar 68 = .ok (.iload 5, 2) := by decide +kernel
theorem dX5_vicar_70 : decode cX5_vicar 70 = .ok (.imul, 1) := by decide +kernel
theorem dX5_vicar_71 : decode cX5_vicar 71 = .ok (.iconst 1, 1) := by decide +kernel
theorem dX5_vicar_72 : decode cX5_vicar 72 = .ok (.iadd, 1) := by decide +kernel
theorem dX5_vicar_73 : decode cX5_vicar 73 = .ok (.dup2, 1) := by decide +kernel
theorem dX5_vicar_74 : decode cX5_vicar 74 = .ok (.iaload, 1) := by decide +kernel
theorem dX5_vicar_75 : decode cX5_vicar 75 = .ok (.iconst 1, 1) := by decide +kernel
theorem dX5_vicar_76 : decode cX5_vicar 76 = .ok (.iadd, 1) := by decide +kernel
theorem dX5_vicar_77 : decode cX5_vicar 77 = .ok (.iastore, 1) := by decide +kernel
theorem dX5_vicar_78 : decode cX5_vicar 78 = .ok (.aload_n 0, 1) := by decide +kernel
theorem dX5_vicar_79 : decode cX5_vicar 79 = .ok (.bipush 121, 2) := by decide +kernel
theorem dX5_vicar_81 : decode cX5_vicar 81 = .ok (.invokevirtual 209, 3) := by decide +kernel
theorem dX5_vicar_84 : decode cX5_vicar 84 = .ok (.istore 6, 2) := by decide +kernel
theorem dX5_vicar_86 : decode cX5_vicar 86 = .ok (.iload 6, 2) := by decide +kernel
theorem dX5_vicar_88 : decode cX5_vicar 88 = .ok (.iload_n 1, 1) := by decide +kernel
theorem dX5_vicar_89 : decode cX5_vicar 89 = .ok (.if_icmp .ne 8, 3) := by decide +kernel
theorem dX5_vicar_92 : decode cX5_vicar 92 = .ok (.iload 5, 2) := by decide +kernel
theorem dX5_vicar_94 : decode cX5_vicar 94 = .ok (.goto 4, 3) := by decide +kernel
theorem dX5_vicar_97 : decode cX5_vicar 97 = .ok (.iconst (-1), 1) := by decide +kernel
theorem dX5_vicar_98 : decode cX5_vicar 98 = .ok (.istore_n 3, 1) := by decide +kernel
theorem dX5_vicar_99 : decode cX5_vicar 99 = .ok (.iload 6, 2) := by decide +kernel
theorem dX5_vicar_101 : decode cX5_vicar 101 = .ok (.iload_n 1, 1) := by decide +kernel
theorem dX5_vicar_102 : decode cX5_vicar 102 = .ok (.if_icmp .ne 10, 3) := by decide +kernel
theorem dX5_vicar_105 : decode cX5_vicar 105 = .ok (.aload_n 0, 1) := by decide +kernel
theorem dX5_vicar_106 : decode cX5_vicar 106 = .ok (.getfield 100, 3) := by decide +kernel
theorem dX5_vicar_109 : decode cX5_vicar 109 = .ok (.goto 4, 3) := by decide +kernel
theorem dX5_vicar_112 : decode cX5_vicar 112 = .ok (.iconst (-1), 1) := by decide +kernel
theorem dX5_vicar_113 : decode cX5_vicar 113 = .ok (.istore 4, 2) := by decide +kernel
theorem dX5_vicar_115 : decode cX5_vicar 115 = .ok (.aload_n 0, 1) := by decide +kernel
theorem dX5_vicar_116 : decode cX5_vicar 116 = .ok (.invokevirtual 212, 3) := by decide +kernel
theorem dX5_vicar_119 : decode cX5_vicar 119 = .ok (.iinc 5 1, 3) := by decide +kernel
theorem dX5_vicar_122 : decode cX5_vicar 122 = .ok (.goto (-87), 3) := by decide +kernel
theorem dX5_vicar_125 : decode cX5_vicar 125 = .ok (.iload_n 2, 1) := by decide +kernel
theorem dX5_vicar_126 : decode cX5_vicar 126 = .ok (.ifCond .ne 7, 3) := by decide +kernel
theorem dX5_vicar_129 : decode cX5_vicar 129 = .ok (.iload_n 3, 1) := by decide +kernel
theorem dX5_vicar_130 : decode cX5_vicar 130 = .ok (.goto 5, 3) := by decide +kernel
theorem dX5_vicar_133 : decode cX5_vicar 133 = .ok (.iload 4, 2) := by decide +kernel
theorem dX5_vicar_135 : decode cX5_vicar 135 = .ok (.ireturn, 1) := by decide +kernel
theorem dX5_isOrder_0 : decode cX5_isOrder 0 = .ok (.iload_n 1, 1) := by decide +kernel
theorem dX5_isOrder_1 : decode cX5_isOrder 1 = .ok (.istore_n 2, 1) := by decide +kernel
theorem dX5_isOrder_2 : decode cX5_isOrder 2 = .ok (.iconst 0, 1) := by decide +kernel
theorem dX5_isOrder_3 : decode cX5_isOrder 3 = .ok (.istore_n 3, 1) := by decide +kernel
theorem dX5_isOrder_4 : decode cX5_isOrder 4 = .ok (.aload_n 0, 1) := by decide +kernel
theorem dX5_isOrder_5 : decode cX5_isOrder 5 = .ok (.getfield 81, 3) := by decide +kernel
theorem dX5_isOrder_8 : decode cX5_isOrder 8 = .ok (.iconst 1, 1) := by decide +kernel
theorem dX5_isOrder_9 : decode cX5_isOrder 9 = .ok (.isub, 1) := by decide +kernel
theorem dX5_isOrder_10 : decode cX5_isOrder 10 = .ok (.istore 4, 2) := by decide +kernel
theorem dX5_isOrder_12 : decode cX5_isOrder 12 = .ok (.iload 4, 2) := by decide +kernel
theorem dX5_isOrder_14 : decode cX5_isOrder 14 = .ok (.ifCond .lt 29, 3) := by decide +kernel
theorem dX5_isOrder_17 : decode cX5_isOrder 17 = .ok (.aload_n 0, 1) := by decide +kernel
theorem dX5_isOrder_18 : decode cX5_isOrder 18 = .ok (.getfield 64, 3) := by decide +kernel
theorem dX5_isOrder_21 : decode cX5_isOrder 21 = .ok (.iload 4, 2) := by decide +kernel
theorem dX5_isOrder_23 : decode cX5_isOrder 23 = .ok (.iload_n 2, 1) := by decide +kernel
theorem dX5_isOrder_24 : decode cX5_isOrder 24 = .ok (.aload_n 0, 1) := by decide +kernel
theorem dX5_isOrder_25 : decode cX5_isOrder 25 = .ok (.getfield 81, 3) := by decide +kernel
theorem dX5_isOrder_28 : decode cX5_isOrder 28 = .ok (.irem, 1) := by decide +kernel
theorem dX5_isOrder_29 : decode cX5_isOrder 29 = .ok (.iastore, 1) := by decide +kernel
theorem dX5_isOrder_30 : decode cX5_isOrder 30 = .ok (.iload_n 2, 1) := by decide +kernel
theorem dX5_isOrder_31 : decode cX5_isOrder 31 = .ok (.aload_n 0, 1) := by decide +kernel
theorem dX5_isOrder_32 : decode cX5_isOrder 32 = .ok (.getfield 81, 3) := by decide +kernel
theorem dX5_isOrder_35 : decode cX5_isOrder 35 = .ok (.idiv, 1) := by decide +kernel
theorem dX5_isOrder_36 : decode cX5_isOrder 36 = .ok (.istore_n 2, 1) := by decide +kernel
theorem dX5_isOrder_37 : decode cX5_isOrder 37 = .ok (.iinc 4 (-1), 3) := by decide +kernel
theorem dX5_isOrder_40 : decode cX5_isOrder 40 = .ok (.goto (-28), 3) := by decide +kernel
theorem dX5_isOrder_43 : decode cX5_isOrder 43 = .ok (.aload_n 0, 1) := by decide +kernel
theorem dX5_isOrder_44 : decode cX5_isOrder 44 = .ok (.iconst 0, 1) := by decide +kernel
theorem dX5_isOrder_45 : decode cX5_isOrder 45 = .ok (.putfield 218, 3) := by decide +kernel
theorem dX5_isOrder_48 : decode cX5_isOrder 48 = .ok (.iconst 0, 1) := by decide +kernel
theorem dX5_isOrder_49 : decode cX5_isOrder 49 = .ok (.istore 4, 2) := by decide +kernel
theorem dX5_isOrder_51 : decode cX5_isOrder 51 = .ok (.iload 4, 2) := by decide +kernel
theorem dX5_isOrder_53 : decode cX5_isOrder 53 = .ok (.aload_n 0, 1) := by decide +kernel
theorem dX5_isOrder_54 : decode cX5_isOrder 54 = .ok (.getfield 81, 3) := by decide +kernel
theorem dX5_isOrder_57 : decode cX5_isOrder 57 = .ok (.if_icmp .ge 59, 3) := by decide +kernel
theorem dX5_isOrder_60 : decode cX5_isOrder 60 = .ok (.iload_n 3, 1) := by decide +kernel
theorem dX5_isOrder_61 : decode cX5_isOrder 61 = .ok (.aload_n 0, 1) := by decide +kernel
theorem dX5_isOrder_62 : decode cX5_isOrder 62 = .ok (.getfield 64, 3) := by decide +kernel
theorem dX5_isOrder_65 : decode cX5_isOrder 65 = .ok (.iload 4, 2) := by decide +kernel
theorem dX5_isOrder_67 : decode cX5_isOrder 67 = .ok (.iaload, 1) := by decide +kernel
theorem dX5_isOrder_68 : decode cX5_isOrder 68 = .ok (.ishr, 1) := by decide +kernel
theorem dX5_isOrder_69 : decode cX5_isOrder 69 = .ok (.iconst 1, 1) := by decide +kernel
theorem dX5_isOrder_70 : decode cX5_isOrder 70 = .ok (.iand, 1) := by decide +kernel
theorem dX5_isOrder_71 : decode cX5_isOrder 71 = .ok (.iconst 1, 1) := by decide +kernel
theorem dX5_isOrder_72 : decode cX5_isOrder 72 = .ok (.if_icmp .ne 5, 3) := by decide +kernel
theorem dX5_isOrder_75 : decode cX5_isOrder 75 = .ok (.iconst 0, 1) := by decide +kernel
theorem dX5_isOrder_76 : decode cX5_isOrder 76 = .ok (.ireturn, 1) := by decide +kernel
theorem dX5_isOrder_77 : decode cX5_isOrder 77 = .ok (.iload_n 3, 1) := by decide +kernel
theorem dX5_isOrder_78 : decode cX5_isOrder 78 = .ok (.iconst 1, 1) := by decide +kernel
theorem dX5_isOrder_79 : decode cX5_isOrder 79 = .ok (.aload_n 0, 1) := by decide +kernel
theorem dX5_isOrder_80 : decode cX5_isOrder 80 = .ok (.getfield 64, 3) := by decide +kernel
theorem dX5_isOrder_83 : decode cX5_isOrder 83 = .ok (.iload 4, 2) := by decide +kernel
theorem dX5_isOrder_85 : decode cX5_isOrder 85 = .ok (.iaload, 1) := by decide +kernel
theorem dX5_isOrder_86 : decode cX5_isOrder 86 = .ok (.ishl, 1) := by decide +kernel
theorem dX5_isOrder_87 : decode cX5_isOrder 87 = .ok (.ior, 1) := by decide +kernel
theorem dX5_isOrder_88 : decode cX5_isOrder 88 = .ok (.istore_n 3, 1) := by decide +kernel
theorem dX5_isOrder_89 : decode cX5_isOrder 89 = .ok (.aload_n 0, 1) := by decide +kernel
theorem dX5_isOrder_90 : decode cX5_isOrder 90 = .ok (.bipush 10, 2) := by decide +kernel
theorem dX5_isOrder_92 : decode cX5_isOrder 92 = .ok (.aload_n 0, 1) := by decide +kernel
theorem dX5_isOrder_93 : decode cX5_isOrder 93 = .ok (.getfield 218, 3) := by decide +kernel
theorem dX5_isOrder_96 : decode cX5_isOrder 96 = .ok (.imul, 1) := by decide +kernel
theorem dX5_isOrder_97 : decode cX5_isOrder 97 = .ok (.aload_n 0, 1) := by decide +kernel
theorem dX5_isOrder_98 : decode cX5_isOrder 98 = .ok (.getfield 64, 3) := by decide +kernel
theorem dX5_isOrder_101 : decode cX5_isOrder 101 = .ok (.iload 4, 2) := by decide +kernel
theorem dX5_isOrder_103 : decode cX5_isOrder 103 = .ok (.iaload, 1) := by decide +kernel
theorem dX5_isOrder_104 : decode cX5_isOrder 104 = .ok (.iadd, 1) := by decide +kernel
theorem dX5_isOrder_105 : decode cX5_isOrder 105 = .ok (.iconst 1, 1) := by decide +kernel
theorem dX5_isOrder_106 : decode cX5_isOrder 106 = .ok (.iadd, 1) := by decide +kernel
theorem dX5_isOrder_107 : decode cX5_isOrder 107 = .ok (.putfield 218, 3) := by decide +kernel
theorem dX5_isOrder_110 : decode cX5_isOrder 110 = .ok (.iinc 4 1, 3) := by decide +kernel
theorem dX5_isOrder_113 : decode cX5_isOrder 113 = .ok (.goto (-62), 3) := by decide +kernel
theorem dX5_isOrder_116 : decode cX5_isOrder 116 = .ok (.iconst 1, 1) := by decide +kernel
theorem dX5_isOrder_117 : decode cX5_isOrder 117 = .ok (.ireturn, 1) := by decide +kernel
set_option maxRecDepth 20000 in
theorem ggX5_differBy_X5_coinsAll : GoodIn wsX5_differBy wsX5_coinsAll := goodIn_r _ [8, 9, 53, 54, 55, 56, 57, 58, 59, 60, 61, 62, 63, 64, 65, 66, 67, 68, 69, 70, 71, 72, 73, 74, 75, 76, 77, 78, 79, 80, 81, 82, 83, 84, 85, 86, 87, 88, 89] rfl (by decide +kernel)
set_option maxRecDepth 20000 in
theorem gX5_differBy_X5_coinsAll : GoodIn wsX5_differBy (wsV RX5 88 RX5 yX5_coinsAll wsX5_coinsAll) := goodIn_app (goodIn_of _ (by decide +kernel)) ggX5_differBy_X5_coinsAll
set_option maxRecDepth 20000 in
theorem ggX5_differBy_X5_takesOne : GoodIn wsX5_differBy wsX5_takesOne := goodIn_r _ [13, 9, 3, 14, 15, 16, 17, 7, 18, 19, 20, 21, 22, 23, 24, 25, 26, 27, 28, 29, 4, 5, 6, 8, 30, 31, 32, 33, 34, 35, 36, 37, 38, 39, 40, 41, 42, 43, 44, 45, 46, 47, 48, 49, 50, 51, 52, 53, 54, 55, 56, 57, 58, 59, 60, 61, 62, 63, 64, 65, 66, 67, 68, 69, 70, 71, 72, 73, 74, 75, 76, 77, 78, 79, 80, 81, 82, 83, 84, 85, 86, 87, 88, 89] rfl (by decide +kernel)
set_option maxRecDepth 20000 in
theorem gX5_differBy_X5_takesOne : GoodIn wsX5_differBy (wsV RX5 197 RX5 yX5_takesOne wsX5_takesOne) := goodIn_app (goodIn_of _ (by decide +kernel)) ggX5_differBy_X5_takesOne
theorem dX5_differBy_0 : decode cX5_differBy 0 = .ok (.iconst 0, 1) := by decide +kernel
theorem dX5_differBy_1 : decode cX5_differBy 1 = .ok (.istore_n 1, 1) := by decide +kernel
theorem dX5_differBy_2 : decode cX5_differBy 2 = .ok (.aload_n 0, 1) := by decide +kernel
theorem dX5_differBy_3 : decode cX5_differBy 3 = .ok (.invokevirtual 88, 3) := by decide +kernel
theorem dX5_differBy_6 : decode cX5_differBy 6 = .ok (.ifCond .le 35, 3) := by decide +kernel
theorem dX5_differBy_9 : decode cX5_differBy 9 = .ok (.aload_n 0, 1) := by decide +kernel
theorem dX5_differBy_10 : decode cX5_differBy 10 = .ok (.aload_n 0, 1) := by decide +kernel
theorem dX5_differBy_11 : decode cX5_differBy 11 = .ok (.getfield 64, 3) := by decide +kernel
theorem dX5_differBy_14 : decode cX5_differBy 14 = .ok (.iload_n 1, 1) := by decide +kernel
theorem dX5_differBy_15 : decode cX5_differBy 15 = .ok (.iaload, 1) := by decide +kernel
theorem dX5_differBy_16 : decode cX5_differBy 16 = .ok (.invokevirtual 197, 3) := by decide +kernel
theorem dX5_differBy_19 : decode cX5_differBy 19 = .ok (.pop, 1) := by decide +kernel
theorem dX5_differBy_20 : decode cX5_differBy 20 = .ok (.iload_n 1, 1) := by decide +kernel
theorem dX5_differBy_21 : decode cX5_differBy 21 = .ok (.iconst 1, 1) := by decide +kernel
theorem dX5_differBy_22 : decode cX5_differBy 22 = .ok (.iadd, 1) := by decide +kernel
theorem dX5_differBy_23 : decode cX5_differBy 23 = .ok (.aload_n 0, 1) := by decide +kernel
theorem dX5_differBy_24 : decode cX5_differBy 24 = .ok (.getfield 81, 3) := by decide +kernel
theorem dX5_differBy_27 : decode cX5_differBy 27 = .ok (.if_icmp .ne 7, 3) := by decide +kernel
theorem dX5_differBy_30 : decode cX5_differBy 30 = .ok (.iconst 0, 1) := by decide +kernel
theorem dX5_differBy_31 : decode cX5_differBy 31 = .ok (.goto 6, 3) := by decide +kernel
theorem dX5_differBy_34 : decode cX5_differBy 34 = .ok (.iload_n 1, 1) := by decide +kernel
theorem dX5_differBy_35 : decode cX5_differBy 35 = .ok (.iconst 1, 1) := by decide +kernel
theorem dX5_differBy_36 : decode cX5_differBy 36 = .ok (.iadd, 1) := by decide +kernel
theorem dX5_differBy_37 : decode cX5_differBy 37 = .ok (.istore_n 1, 1) := by decide +kernel
theorem dX5_differBy_38 : decode cX5_differBy 38 = .ok (.goto (-36), 3) := by decide +kernel
theorem dX5_differBy_41 : decode cX5_differBy 41 = .ok (.aload_n 0, 1) := by decide +kernel
theorem dX5_differBy_42 : decode cX5_differBy 42 = .ok (.getfield 16, 3) := by decide +kernel
theorem dX5_differBy_45 : decode cX5_differBy 45 = .ok (.iconst 1, 1) := by decide +kernel
theorem dX5_differBy_46 : decode cX5_differBy 46 = .ok (.iaload, 1) := by decide +kernel
theorem dX5_differBy_47 : decode cX5_differBy 47 = .ok (.istore_n 2, 1) := by decide +kernel
theorem dX5_differBy_48 : decode cX5_differBy 48 = .ok (.aload_n 0, 1) := by decide +kernel
theorem dX5_differBy_49 : decode cX5_differBy 49 = .ok (.getfield 16, 3) := by decide +kernel
theorem dX5_differBy_52 : decode cX5_differBy 52 = .ok (.iconst 1, 1) := by decide +kernel
theorem dX5_differBy_53 : decode cX5_differBy 53 = .ok (.iaload, 1) := by decide +kernel
theorem dX5_differBy_54 : decode cX5_differBy 54 = .ok (.istore_n 3, 1) := by decide +kernel
theorem dX5_differBy_55 : decode cX5_differBy 55 = .ok (.iconst 1, 1) := by decide +kernel
theorem dX5_differBy_56 : decode cX5_differBy 56 = .ok (.istore 4, 2) := by decide +kernel
theorem dX5_differBy_58 : decode cX5_differBy 58 = .ok (.iload 4, 2) := by decide +kernel
theorem dX5_differBy_60 : decode cX5_differBy 60 = .ok (.aload_n 0, 1) := by decide +kernel
theorem dX5_differBy_61 : decode cX5_differBy 61 = .ok (.getfield 81, 3) := by decide +kernel
theorem dX5_differBy_64 : decode cX5_differBy 64 = .ok (.if_icmp .ge 71, 3) := by decide +kernel
theorem dX5_differBy_67 : decode cX5_differBy 67 = .ok (.aload_n 0, 1) := by decide +kernel
theorem dX5_differBy_68 : decode cX5_differBy 68 = .ok (.getfield 16, 3) := by decide +kernel
theorem dX5_differBy_71 : decode cX5_differBy 71 = .ok (.iconst 3, 1) := by decide +kernel
theorem dX5_differBy_72 : decode cX5_differBy 72 = .ok (.iload 4, 2) := by decide +kernel
theorem dX5_differBy_74 : decode cX5_differBy 74 = .ok (.imul, 1) := by decide +kernel
theorem dX5_differBy_75 : decode cX5_differBy 75 = .ok (.iconst 1, 1) := by decide +kernel
theorem dX5_differBy_76 : decode cX5_differBy 76 = .ok (.iadd, 1) := by decide +kernel
theorem dX5_differBy_77 : decode cX5_differBy 77 = .ok (.iaload, 1) := by decide +kernel
theorem dX5_differBy_78 : decode cX5_differBy 78 = .ok (.iload_n 2, 1) := by decide +kernel
theorem dX5_differBy_79 : decode cX5_differBy 79 = .ok (.if_icmp .le 17, 3) := by decide +kernel
theorem dX5_differBy_82 : decode cX5_differBy 82 = .ok (.aload_n 0, 1) := by decide +kernel
theorem dX5_differBy_83 : decode cX5_differBy 83 = .ok (.getfield 16, 3) := by decide +kernel
theorem dX5_differBy_86 : decode cX5_differBy 86 = .ok (.iconst 3, 1) := by decide +kernel
theorem dX5_differBy_87 : decode cX5_differBy 87 = .ok (.iload 4, 2) := by decide +kernel
theorem dX5_differBy_89 : decode cX5_differBy 89 = .ok (.imul, 1) := by decide +kernel
theorem dX5_differBy_90 : decode cX5_differBy 90 = .ok (.iconst 1, 1) := by decide +kernel
theorem dX5_differBy_91 : decode cX5_differBy 91 = .ok (.iadd, 1) := by decide +kernel
theorem dX5_differBy_92 : decode cX5_differBy 92 = .ok (.iaload, 1) := by decide +kernel
theorem dX5_differBy_93 : decode cX5_differBy 93 = .ok (.goto 4, 3) := by decide +kernel
theorem dX5_differBy_96 : decode cX5_differBy 96 = .ok (.iload_n 2, 1) := by decide +kernel
theorem dX5_differBy_97 : decode cX5_differBy 97 = .ok (.istore_n 2, 1) := by decide +kernel
theorem dX5_differBy_98 : decode cX5_differBy 98 = .ok (.aload_n 0, 1) := by decide +kernel
theorem dX5_differBy_99 : decode cX5_differBy 99 = .ok (.getfield 16, 3) := by decide +kernel
theorem dX5_differBy_102 : decode cX5_differBy 102 = .ok (.iconst 3, 1) := by decide +kernel
theorem dX5_differBy_103 : decode cX5_differBy 103 = .ok (.iload 4, 2) := by decide +kernel
theorem dX5_differBy_105 : decode cX5_differBy 105 = .ok (.imul, 1) := by decide +kernel
theorem dX5_differBy_106 : decode cX5_differBy 106 = .ok (.iconst 1, 1) := by decide +kernel
theorem dX5_differBy_107 : decode cX5_differBy 107 = .ok (.iadd, 1) := by decide +kernel
theorem dX5_differBy_108 : decode cX5_differBy 108 = .ok (.iaload, 1) := by decide +kernel
theorem dX5_differBy_109 : decode cX5_differBy 109 = .ok (.iload_n 3, 1) := by decide +kernel
theorem dX5_differBy_110 : decode cX5_differBy 110 = .ok (.if_icmp .ge 17, 3) := by decide +kernel
theorem dX5_differBy_113 : decode cX5_differBy 113 = .ok (.aload_n 0, 1) := by decide +kernel
theorem dX5_differBy_114 : decode cX5_differBy 114 = .ok (.getfield 16, 3) := by decide +kernel
theorem dX5_differBy_117 : decode cX5_differBy 117 = .ok (.iconst 3, 1) := by decide +kernel
theorem dX5_differBy_118 : decode cX5_differBy 118 = .ok (.iload 4, 2) := by decide +kernel
theorem dX5_differBy_120 : decode cX5_differBy 120 = .ok (.imul, 1) := by decide +kernel
theorem dX5_differBy_121 : decode cX5_differBy 121 = .ok (.iconst 1, 1) := by decide +kernel
theorem dX5_differBy_122 : decode cX5_differBy 122 = .ok (.iadd, 1) := by decide +kernel
theorem dX5_differBy_123 : decode cX5_differBy 123 = .ok (.iaload, 1) := by decide +kernel
theorem dX5_differBy_124 : decode cX5_differBy 124 = .ok (.goto 4, 3) := by decide +kernel
theorem dX5_differBy_127 : decode cX5_differBy 127 = .ok (.iload_n 3, 1) := by decide +kernel
theorem dX5_differBy_128 : decode cX5_differBy 128 = .ok (.istore_n 3, 1) := by decide +kernel
theorem dX5_differBy_129 : decode cX5_differBy 129 = .ok (.iinc 4 1, 3) := by decide +kernel
theorem dX5_differBy_132 : decode cX5_differBy 132 = .ok (.goto (-74), 3) := by decide +kernel
theorem dX5_differBy_135 : decode cX5_differBy 135 = .ok (.iload_n 2, 1) := by decide +kernel
theorem dX5_differBy_136 : decode cX5_differBy 136 = .ok (.iload_n 3, 1) := by decide +kernel
theorem dX5_differBy_137 : decode cX5_differBy 137 = .ok (.isub, 1) := by decide +kernel
theorem dX5_differBy_138 : decode cX5_differBy 138 = .ok (.ireturn, 1) := by decide +kernel
set_option maxRecDepth 20000 in
theorem ggX5_seating_X5_in : GoodIn wsX5_seating wsX5_in := goodIn_r _ [6] rfl (by decide +kernel)
set_option maxRecDepth 20000 in
theorem gX5_seating_X5_in : GoodIn wsX5_seating (va_wsS RX5 84 yX5_in wsX5_in) := goodIn_app (goodIn_of _ (by decide +kernel)) ggX5_seating_X5_in
set_option maxRecDepth 20000 in
theorem ggX5_seating_X5_keeps : GoodIn wsX5_seating wsX5_keeps := goodIn_r _ [10, 11, 12, 13, 14, 15, 75, 76, 77, 78, 79, 80, 81, 82, 83, 84, 85, 86, 87, 88, 89, 90, 91, 92, 93, 94, 95, 96, 97, 98, 99, 100, 101, 102, 103, 104, 105, 106, 107, 108, 109, 110, 111] rfl (by decide +kernel)
set_option maxRecDepth 20000 in
theorem gX5_seating_X5_keeps : GoodIn wsX5_seating (wsV RX5 206 RX5 yX5_keeps wsX5_keeps) := goodIn_app (goodIn_of _ (by decide +kernel)) ggX5_seating_X5_keeps
set_option maxRecDepth 20000 in
theorem ggX5_seating_X5_isOrder : GoodIn wsX5_seating wsX5_isOrder := goodIn_r _ [19, 1, 20, 2, 75, 76, 77, 78, 79, 80, 81, 82, 83, 84, 85, 86, 87, 88, 89, 90, 91, 92, 93, 94, 95, 96, 97, 98, 99, 100, 101, 102, 103, 104, 105, 106, 107, 108, 109, 110, 111] rfl (by decide +kernel)
set_option maxRecDepth 20000 in
theorem gX5_seating_X5_isOrder : GoodIn wsX5_seating (wsV RX5 221 RX5 yX5_isOrder wsX5_isOrder) := goodIn_app (goodIn_of _ (by decide +kernel)) ggX5_seating_X5_isOrder
set_option maxRecDepth 20000 in
theorem ggX5_seating_X5_differBy : GoodIn wsX5_seating wsX5_differBy := goodIn_r _ [24, 20, 1, 12, 25, 26, 27, 5, 28, 13, 29, 30, 31, 32, 15, 33, 34, 35, 36, 37, 38, 39, 40, 41, 42, 43, 44, 45, 46, 47, 48, 49, 50, 51, 52, 53, 54, 55, 56, 57, 58, 59, 60, 61, 62, 63, 64, 65, 66, 67, 68, 69, 70, 75, 76, 77, 78, 79, 80, 81, 82, 83, 84, 85, 86, 87, 88, 89, 90, 91, 92, 93, 94, 95, 96, 97, 98, 99, 100, 101, 102, 103, 104, 105, 106, 107, 108, 109, 110, 111] rfl (by decide +kernel)
set_option maxRecDepth 20000 in
theorem gX5_seating_X5_differBy : GoodIn wsX5_seating (wsV RX5 224 RX5 yX5_differBy wsX5_differBy) := goodIn_app (goodIn_of _ (by decide +kernel)) ggX5_seating_X5_differBy
set_option maxRecDepth 20000 in
theorem ggX5_seating_X5_lays : GoodIn wsX5_seating wsX5_lays := goodIn_r _ [74, 12, 11, 13, 14, 15, 75, 76, 77, 78, 79, 80, 81, 82, 83, 84, 85, 86, 87, 88, 89, 90, 91, 92, 93, 94, 95, 96, 97, 98, 99, 100, 101, 102, 103, 104, 105, 106, 107, 108, 109, 110, 111] rfl (by decide +kernel)
set_option maxRecDepth 20000 in
theorem gX5_seating_X5_lays : GoodIn wsX5_seating (wsV RX5 212 RX5 yX5_lays wsX5_lays) := goodIn_app (goodIn_of _ (by decide +kernel)) ggX5_seating_X5_lays
theorem dX5_seating_0 : decode cX5_seating 0 = .ok (.iload_n 1, 1) := by decide +kernel
theorem dX5_seating_1 : decode cX5_seating 1 = .ok (.iconst 0, 1) := by decide +kernel
theorem dX5_seating_2 : decode cX5_seating 2 = .ok (.iconst 1, 1) := by decide +kernel
theorem dX5_seating_3 : decode cX5_seating 3 = .ok (.invokestatic 84, 3) := by decide +kernel
theorem dX5_seating_6 : decode cX5_seating 6 = .ok (.ifCond .ne 6, 3) := by decide +kernel
theorem dX5_seating_9 : decode cX5_seating 9 = .ok (.bipush (-2), 2) := by decide +kernel
theorem dX5_seating_11 : decode cX5_seating 11 = .ok (.ireturn, 1) := by decide +kernel
theorem dX5_seating_12 : decode cX5_seating 12 = .ok (.aload_n 0, 1) := by decide +kernel
theorem dX5_seating_13 : decode cX5_seating 13 = .ok (.getfield 81, 3) := by decide +kernel
theorem dX5_seating_16 : decode cX5_seating 16 = .ok (.ifCond .ne 5, 3) := by decide +kernel
theorem dX5_seating_19 : decode cX5_seating 19 = .ok (.iconst 0, 1) := by decide +kernel
theorem dX5_seating_20 : decode cX5_seating 20 = .ok (.ireturn, 1) := by decide +kernel
theorem dX5_seating_21 : decode cX5_seating 21 = .ok (.iconst 1, 1) := by decide +kernel
theorem dX5_seating_22 : decode cX5_seating 22 = .ok (.istore_n 2, 1) := by decide +kernel
theorem dX5_seating_23 : decode cX5_seating 23 = .ok (.iconst 0, 1) := by decide +kernel
theorem dX5_seating_24 : decode cX5_seating 24 = .ok (.istore_n 3, 1) := by decide +kernel
theorem dX5_seating_25 : decode cX5_seating 25 = .ok (.iload_n 3, 1) := by decide +kernel
theorem dX5_seating_26 : decode cX5_seating 26 = .ok (.aload_n 0, 1) := by decide +kernel
theorem dX5_seating_27 : decode cX5_seating 27 = .ok (.getfield 81, 3) := by decide +kernel
theorem dX5_seating_30 : decode cX5_seating 30 = .ok (.if_icmp .ge 16, 3) := by decide +kernel
theorem dX5_seating_33 : decode cX5_seating 33 = .ok (.iload_n 2, 1) := by decide +kernel
theorem dX5_seating_34 : decode cX5_seating 34 = .ok (.aload_n 0, 1) := by decide +kernel
theorem dX5_seating_35 : decode cX5_seating 35 = .ok (.getfield 81, 3) := by decide +kernel
theorem dX5_seating_38 : decode cX5_seating 38 = .ok (.imul, 1) := by decide +kernel
theorem dX5_seating_39 : decode cX5_seating 39 = .ok (.istore_n 2, 1) := by decide +kernel
theorem dX5_seating_40 : decode cX5_seating 40 = .ok (.iinc 3 1, 3) := by decide +kernel
theorem dX5_seating_43 : decode cX5_seating 43 = .ok (.goto (-18), 3) := by decide +kernel
theorem dX5_seating_46 : decode cX5_seating 46 = .ok (.iconst (-1), 1) := by decide +kernel
theorem dX5_seating_47 : decode cX5_seating 47 = .ok (.istore_n 3, 1) := by decide +kernel
theorem dX5_seating_48 : decode cX5_seating 48 = .ok (.iconst 0, 1) := by decide +kernel
theorem dX5_seating_49 : decode cX5_seating 49 = .ok (.istore 4, 2) := by decide +kernel
theorem dX5_seating_51 : decode cX5_seating 51 = .ok (.aload_n 0, 1) := by decide +kernel
theorem dX5_seating_52 : decode cX5_seating 52 = .ok (.invokevirtual 206, 3) := by decide +kernel
theorem dX5_seating_55 : decode cX5_seating 55 = .ok (.iconst 0, 1) := by decide +kernel
theorem dX5_seating_56 : decode cX5_seating 56 = .ok (.istore 5, 2) := by decide +kernel
theorem dX5_seating_58 : decode cX5_seating 58 = .ok (.iload 5, 2) := by decide +kernel
theorem dX5_seating_60 : decode cX5_seating 60 = .ok (.iload_n 2, 1) := by decide +kernel
theorem dX5_seating_61 : decode cX5_seating 61 = .ok (.if_icmp .ge 75, 3) := by decide +kernel
theorem dX5_seating_64 : decode cX5_seating 64 = .ok (.aload_n 0, 1) := by decide +kernel
theorem dX5_seating_65 : decode cX5_seating 65 = .ok (.iload 5, 2) := by decide +kernel
theorem dX5_seating_67 : decode cX5_seating 67 = .ok (.invokevirtual 221, 3) := by decide +kernel
theorem dX5_seating_70 : decode cX5_seating 70 = .ok (.ifCond .eq 60, 3) := by decide +kernel
theorem dX5_seating_73 : decode cX5_seating 73 = .ok (.aload_n 0, 1) := by decide +kernel
theorem dX5_seating_74 : decode cX5_seating 74 = .ok (.invokevirtual 224, 3) := by decide +kernel
theorem dX5_seating_77 : decode cX5_seating 77 = .ok (.istore 6, 2) := by decide +kernel
theorem dX5_seating_79 : decode cX5_seating 79 = .ok (.aload_n 0, 1) := by decide +kernel
theorem dX5_seating_80 : decode cX5_seating 80 = .ok (.invokevirtual 212, 3) := by decide +kernel
theorem dX5_seating_83 : decode cX5_seating 83 = .ok (.iload_n 3, 1) := by decide +kernel
theorem dX5_seating_84 : decode cX5_seating 84 = .ok (.iconst (-1), 1) := by decide +kernel
theorem dX5_seating_85 : decode cX5_seating 85 = .ok (.if_icmp .eq 10, 3) := by decide +kernel
theorem dX5_seating_88 : decode cX5_seating 88 = .ok (.iload 6, 2) := by decide +kernel
theorem dX5_seating_90 : decode cX5_seating 90 = .ok (.iload 4, 2) := by decide +kernel
theorem dX5_seating_92 : decode cX5_seating 92 = .ok (.if_icmp .ge 7, 3) := by decide +kernel
theorem dX5_seating_95 : decode cX5_seating 95 = .ok (.iconst 1, 1) := by decide +kernel
theorem dX5_seating_96 : decode cX5_seating 96 = .ok (.goto 4, 3) := by decide +kernel
theorem dX5_seating_99 : decode cX5_seating 99 = .ok (.iconst 0, 1) := by decide +kernel
theorem dX5_seating_100 : decode cX5_seating 100 = .ok (.istore 7, 2) := by decide +kernel
theorem dX5_seating_102 : decode cX5_seating 102 = .ok (.iload 7, 2) := by decide +kernel
theorem dX5_seating_104 : decode cX5_seating 104 = .ok (.ifCond .eq 10, 3) := by decide +kernel
theorem dX5_seating_107 : decode cX5_seating 107 = .ok (.aload_n 0, 1) := by decide +kernel
theorem dX5_seating_108 : decode cX5_seating 108 = .ok (.getfield 218, 3) := by decide +kernel
theorem dX5_seating_111 : decode cX5_seating 111 = .ok (.goto 4, 3) := by decide +kernel
theorem dX5_seating_114 : decode cX5_seating 114 = .ok (.iload_n 3, 1) := by decide +kernel
theorem dX5_seating_115 : decode cX5_seating 115 = .ok (.istore_n 3, 1) := by decide +kernel
theorem dX5_seating_116 : decode cX5_seating 116 = .ok (.iload 7, 2) := by decide +kernel
theorem dX5_seating_118 : decode cX5_seating 118 = .ok (.ifCond .eq 8, 3) := by decide +kernel
theorem dX5_seating_121 : decode cX5_seating 121 = .ok (.iload 6, 2) := by decide +kernel
theorem dX5_seating_123 : decode cX5_seating 123 = .ok (.goto 5, 3) := by decide +kernel
theorem dX5_seating_126 : decode cX5_seating 126 = .ok (.iload 4, 2) := by decide +kernel
theorem dX5_seating_128 : decode cX5_seating 128 = .ok (.istore 4, 2) := by decide +kernel
theorem dX5_seating_130 : decode cX5_seating 130 = .ok (.iinc 5 1, 3) := by decide +kernel
theorem dX5_seating_133 : decode cX5_seating 133 = .ok (.goto (-75), 3) := by decide +kernel
theorem dX5_seating_136 : decode cX5_seating 136 = .ok (.iload_n 1, 1) := by decide +kernel
theorem dX5_seating_137 : decode cX5_seating 137 = .ok (.ifCond .ne 7, 3) := by decide +kernel
theorem dX5_seating_140 : decode cX5_seating 140 = .ok (.iload_n 3, 1) := by decide +kernel
theorem dX5_seating_141 : decode cX5_seating 141 = .ok (.goto 5, 3) := by decide +kernel
theorem dX5_seating_144 : decode cX5_seating 144 = .ok (.iload 4, 2) := by decide +kernel
theorem dX5_seating_146 : decode cX5_seating 146 = .ok (.ireturn, 1) := by decide +kernel
theorem dX5_addsSort_0 : decode cX5_addsSort 0 = .ok (.iconst 0, 1) := by decide +kernel
theorem dX5_addsSort_1 : decode cX5_addsSort 1 = .ok (.istore_n 2, 1) := by decide +kernel
theorem dX5_addsSort_2 : decode cX5_addsSort 2 = .ok (.iload_n 2, 1) := by decide +kernel
theorem dX5_addsSort_3 : decode cX5_addsSort 3 = .ok (.sipush 1000, 3) := by decide +kernel
theorem dX5_addsSort_6 : decode cX5_addsSort 6 = .ok (.if_icmp .ge 78, 3) := by decide +kernel
theorem dX5_addsSort_9 : decode cX5_addsSort 9 = .ok (.aload_n 0, 1) := by decide +kernel
theorem dX5_addsSort_10 : decode cX5_addsSort 10 = .ok (.getfield 70, 3) := by decide +kernel
theorem dX5_addsSort_13 : decode cX5_addsSort 13 = .ok (.iload_n 2, 1) := by decide +kernel
theorem dX5_addsSort_14 : decode cX5_addsSort 14 = .ok (.iconst 0, 1) := by decide +kernel
theorem dX5_addsSort_15 : decode cX5_addsSort 15 = .ok (.iastore, 1) := by decide +kernel
theorem dX5_addsSort_16 : decode cX5_addsSort 16 = .ok (.iconst 0, 1) := by decide +kernel
theorem dX5_addsSort_17 : decode cX5_addsSort 17 = .ok (.istore_n 3, 1) := by decide +kernel
theorem dX5_addsSort_18 : decode cX5_addsSort 18 = .ok (.iload_n 3, 1) := by decide +kernel
theorem dX5_addsSort_19 : decode cX5_addsSort 19 = .ok (.aload_n 0, 1) := by decide +kernel
theorem dX5_addsSort_20 : decode cX5_addsSort 20 = .ok (.getfield 19, 3) := by decide +kernel
theorem dX5_addsSort_23 : decode cX5_addsSort 23 = .ok (.iconst 2, 1) := by decide +kernel
theorem dX5_addsSort_24 : decode cX5_addsSort 24 = .ok (.iload_n 1, 1) := by decide +kernel
theorem dX5_addsSort_25 : decode cX5_addsSort 25 = .ok (.imul, 1) := by decide +kernel
theorem dX5_addsSort_26 : decode cX5_addsSort 26 = .ok (.iconst 1, 1) := by decide +kernel
theorem dX5_addsSort_27 : decode cX5_addsSort 27 = .ok (.iadd, 1) := by decide +kernel
theorem dX5_addsSort_28 : decode cX5_addsSort 28 = .ok (.iaload, 1) := by decide +kernel
theorem dX5_addsSort_29 : decode cX5_addsSort 29 = .ok (.if_icmp .gt 49, 3) := by decide +kernel
theorem dX5_addsSort_32 : decode cX5_addsSort 32 = .ok (.iload_n 3, 1) := by decide +kernel
theorem dX5_addsSort_33 : decode cX5_addsSort 33 = .ok (.aload_n 0, 1) := by decide +kernel
theorem dX5_addsSort_34 : decode cX5_addsSort 34 = .ok (.getfield 19, 3) := by decide +kernel
theorem dX5_addsSort_37 : decode cX5_addsSort 37 = .ok (.iconst 2, 1) := by decide +kernel
theorem dX5_addsSort_38 : decode cX5_addsSort 38 = .ok (.iload_n 1, 1) := by decide +kernel
theorem dX5_addsSort_39 : decode cX5_addsSort 39 = .ok (.imul, 1) := by decide +kernel
theorem dX5_addsSort_40 : decode cX5_addsSort 40 = .ok (.iaload, 1) := by decide +kernel
theorem dX5_addsSort_41 : decode cX5_addsSort 41 = .ok (.imul, 1) := by decide +kernel
theorem dX5_addsSort_42 : decode cX5_addsSort 42 = .ok (.iload_n 2, 1) := by decide +kernel
theorem dX5_addsSort_43 : decode cX5_addsSort 43 = .ok (.if_icmp .gt 35, 3) := by decide +kernel
theorem dX5_addsSort_46 : decode cX5_addsSort 46 = .ok (.aload_n 0, 1) := by decide +kernel
theorem dX5_addsSort_47 : decode cX5_addsSort 47 = .ok (.getfield 70, 3) := by decide +kernel
theorem dX5_addsSort_50 : decode cX5_addsSort 50 = .ok (.iload_n 2, 1) := by decide +kernel
theorem dX5_addsSort_51 : decode cX5_addsSort 51 = .ok (.dup2, 1) := by decide +kernel
theorem dX5_addsSort_52 : decode cX5_addsSort 52 = .ok (.iaload, 1) := by decide +kernel
theorem dX5_addsSort_53 : decode cX5_addsSort 53 = .ok (.aload_n 0, 1) := by decide +kernel
theorem dX5_addsSort_54 : decode cX5_addsSort 54 = .ok (.getfield 67, 3) := by decide +kernel
theorem dX5_addsSort_57 : decode cX5_addsSort 57 = .ok (.iload_n 2, 1) := by decide +kernel
theorem dX5_addsSort_58 : decode cX5_addsSort 58 = .ok (.iload_n 3, 1) := by decide +kernel
theorem dX5_addsSort_59 : decode cX5_addsSort 59 = .ok (.aload_n 0, 1) := by decide +kernel
theorem dX5_addsSort_60 : decode cX5_addsSort 60 = .ok (.getfield 19, 3) := by decide +kernel
theorem dX5_addsSort_63 : decode cX5_addsSort 63 = .ok (.iconst 2, 1) := by decide +kernel
theorem dX5_addsSort_64 : decode cX5_addsSort 64 = .ok (.iload_n 1, 1) := by decide +kernel
theorem dX5_addsSort_65 : decode cX5_addsSort 65 = .ok (.imul, 1) := by decide +kernel
theorem dX5_addsSort_66 : decode cX5_addsSort 66 = .ok (.iaload, 1) := by decide +kernel
theorem dX5_addsSort_67 : decode cX5_addsSort 67 = .ok (.imul, 1) := by decide +kernel
theorem dX5_addsSort_68 : decode cX5_addsSort 68 = .ok (.isub, 1) := by decide +kernel
theorem dX5_addsSort_69 : decode cX5_addsSort 69 = .ok (.iaload, 1) := by decide +kernel
theorem dX5_addsSort_70 : decode cX5_addsSort 70 = .ok (.iadd, 1) := by decide +kernel
theorem dX5_addsSort_71 : decode cX5_addsSort 71 = .ok (.iastore, 1) := by decide +kernel
theorem dX5_addsSort_72 : decode cX5_addsSort 72 = .ok (.iinc 3 1, 3) := by decide +kernel
theorem dX5_addsSort_75 : decode cX5_addsSort 75 = .ok (.goto (-57), 3) := by decide +kernel
theorem dX5_addsSort_78 : decode cX5_addsSort 78 = .ok (.iinc 2 1, 3) := by decide +kernel
theorem dX5_addsSort_81 : decode cX5_addsSort 81 = .ok (.goto (-79), 3) := by decide +kernel
theorem dX5_addsSort_84 : decode cX5_addsSort 84 = .ok (.iconst 0, 1) := by decide +kernel
theorem dX5_addsSort_85 : decode cX5_addsSort 85 = .ok (.istore_n 2, 1) := by decide +kernel
theorem dX5_addsSort_86 : decode cX5_addsSort 86 = .ok (.iload_n 2, 1) := by decide +kernel
theorem dX5_addsSort_87 : decode cX5_addsSort 87 = .ok (.sipush 1000, 3) := by decide +kernel
theorem dX5_addsSort_90 : decode cX5_addsSort 90 = .ok (.if_icmp .ge 21, 3) := by decide +kernel
theorem dX5_addsSort_93 : decode cX5_addsSort 93 = .ok (.aload_n 0, 1) := by decide +kernel
theorem dX5_addsSort_94 : decode cX5_addsSort 94 = .ok (.getfield 67, 3) := by decide +kernel
theorem dX5_addsSort_97 : decode cX5_addsSort 97 = .ok (.iload_n 2, 1) := by decide +kernel
theorem dX5_addsSort_98 : decode cX5_addsSort 98 = .ok (.aload_n 0, 1) := by decide +kernel
theorem dX5_addsSort_99 : decode cX5_addsSort 99 = .ok (.getfield 70, 3) := by decide +kernel
theorem dX5_addsSort_102 : decode cX5_addsSort 102 = .ok (.iload_n 2, 1) := by decide +kernel
theorem dX5_addsSort_103 : decode cX5_addsSort 103 = .ok (.iaload, 1) := by decide +kernel
theorem dX5_addsSort_104 : decode cX5_addsSort 104 = .ok (.iastore, 1) := by decide +kernel
theorem dX5_addsSort_105 : decode cX5_addsSort 105 = .ok (.iinc 2 1, 3) := by decide +kernel
theorem dX5_addsSort_108 : decode cX5_addsSort 108 = .ok (.goto (-22), 3) := by decide +kernel
theorem dX5_addsSort_111 : decode cX5_addsSort 111 = .ok (.return_, 1) := by decide +kernel
set_option maxRecDepth 20000 in
theorem ggX5_ways_X5_in : GoodIn wsX5_ways wsX5_in := goodIn_r _ [5] rfl (by decide +kernel)
set_option maxRecDepth 20000 in
theorem gX5_ways_X5_in : GoodIn wsX5_ways (va_wsS RX5 84 yX5_in wsX5_in) := goodIn_app (goodIn_of _ (by decide +kernel)) ggX5_ways_X5_in
set_option maxRecDepth 20000 in
theorem ggX5_ways_X5_addsSort : GoodIn wsX5_ways wsX5_addsSort := goodIn_r _ [9, 10, 11, 1, 12, 13, 14, 15, 16, 17, 18, 19, 20, 21, 22, 23, 24, 25, 26, 27, 28, 29, 30, 31, 32, 33, 34, 35, 36, 37, 38, 39, 40, 41, 42, 43, 44, 45, 46, 47, 48] rfl (by decide +kernel)
set_option maxRecDepth 20000 in
theorem gX5_ways_X5_addsSort : GoodIn wsX5_ways (wsV RX5 227 RX5 yX5_addsSort wsX5_addsSort) := goodIn_app (goodIn_of _ (by decide +kernel)) ggX5_ways_X5_addsSort
theorem dX5_ways_0 : decode cX5_ways 0 = .ok (.iload_n 1, 1) := by decide +kernel
theorem dX5_ways_1 : decode cX5_ways 1 = .ok (.iconst 0, 1) := by decide +kernel
theorem dX5_ways_2 : decode cX5_ways 2 = .ok (.sipush 999, 3) := by decide +kernel
theorem dX5_ways_5 : decode cX5_ways 5 = .ok (.invokestatic 84, 3) := by decide +kernel
theorem dX5_ways_8 : decode cX5_ways 8 = .ok (.ifCond .ne 6, 3) := by decide +kernel
theorem dX5_ways_11 : decode cX5_ways 11 = .ok (.bipush (-2), 2) := by decide +kernel
theorem dX5_ways_13 : decode cX5_ways 13 = .ok (.ireturn, 1) := by decide +kernel
theorem dX5_ways_14 : decode cX5_ways 14 = .ok (.iconst 0, 1) := by decide +kernel
theorem dX5_ways_15 : decode cX5_ways 15 = .ok (.istore_n 2, 1) := by decide +kernel
theorem dX5_ways_16 : decode cX5_ways 16 = .ok (.iload_n 2, 1) := by decide +kernel
theorem dX5_ways_17 : decode cX5_ways 17 = .ok (.sipush 1000, 3) := by decide +kernel
theorem dX5_ways_20 : decode cX5_ways 20 = .ok (.if_icmp .ge 24, 3) := by decide +kernel
theorem dX5_ways_23 : decode cX5_ways 23 = .ok (.aload_n 0, 1) := by decide +kernel
theorem dX5_ways_24 : decode cX5_ways 24 = .ok (.getfield 67, 3) := by decide +kernel
theorem dX5_ways_27 : decode cX5_ways 27 = .ok (.iload_n 2, 1) := by decide +kernel
theorem dX5_ways_28 : decode cX5_ways 28 = .ok (.iload_n 2, 1) := by decide +kernel
theorem dX5_ways_29 : decode cX5_ways 29 = .ok (.ifCond .ne 7, 3) := by decide +kernel
theorem dX5_ways_32 : decode cX5_ways 32 = .ok (.iconst 1, 1) := by decide +kernel
theorem dX5_ways_33 : decode cX5_ways 33 = .ok (.goto 4, 3) := by decide +kernel
theorem dX5_ways_36 : decode cX5_ways 36 = .ok (.iconst 0, 1) := by decide +kernel
theorem dX5_ways_37 : decode cX5_ways 37 = .ok (.iastore, 1) := by decide +kernel
theorem dX5_ways_38 : decode cX5_ways 38 = .ok (.iinc 2 1, 3) := by decide +kernel
theorem dX5_ways_41 : decode cX5_ways 41 = .ok (.goto (-25), 3) := by decide +kernel
theorem dX5_ways_44 : decode cX5_ways 44 = .ok (.iconst 0, 1) := by decide +kernel
theorem dX5_ways_45 : decode cX5_ways 45 = .ok (.istore_n 2, 1) := by decide +kernel
theorem dX5_ways_46 : decode cX5_ways 46 = .ok (.iload_n 2, 1) := by decide +kernel
theorem dX5_ways_47 : decode cX5_ways 47 = .ok (.bipush 6, 2) := by decide +kernel
theorem dX5_ways_49 : decode cX5_ways 49 = .ok (.if_icmp .ge 14, 3) := by decide +kernel
theorem dX5_ways_52 : decode cX5_ways 52 = .ok (.aload_n 0, 1) := by decide +kernel
theorem dX5_ways_53 : decode cX5_ways 53 = .ok (.iload_n 2, 1) := by decide +kernel
theorem dX5_ways_54 : decode cX5_ways 54 = .ok (.invokevirtual 227, 3) := by decide +kernel
theorem dX5_ways_57 : decode cX5_ways 57 = .ok (.iinc 2 1, 3) := by decide +kernel
theorem dX5_ways_60 : decode cX5_ways 60 = .ok (.goto (-14), 3) := by decide +kernel
theorem dX5_ways_63 : decode cX5_ways 63 = .ok (.aload_n 0, 1) := by decide +kernel
theorem dX5_ways_64 : decode cX5_ways 64 = .ok (.getfield 67, 3) := by decide +kernel
theorem dX5_ways_67 : decode cX5_ways 67 = .ok (.iload_n 1, 1) := by decide +kernel
theorem dX5_ways_68 : decode cX5_ways 68 = .ok (.iaload, 1) := by decide +kernel
theorem dX5_ways_69 : decode cX5_ways 69 = .ok (.ireturn, 1) := by decide +kernel
theorem dX5_lowest_0 : decode cX5_lowest 0 = .ok (.lload_n 0, 1) := by decide +kernel
theorem dX5_lowest_1 : decode cX5_lowest 1 = .ok (.lconst 0, 1) := by decide +kernel
theorem dX5_lowest_2 : decode cX5_lowest 2 = .ok (.lcmp, 1) := by decide +kernel
theorem dX5_lowest_3 : decode cX5_lowest 3 = .ok (.ifCond .ne 7, 3) := by decide +kernel
theorem dX5_lowest_6 : decode cX5_lowest 6 = .ok (.iload 4, 2) := by decide +kernel
theorem dX5_lowest_8 : decode cX5_lowest 8 = .ok (.i2l, 1) := by decide +kernel
theorem dX5_lowest_9 : decode cX5_lowest 9 = .ok (.lreturn, 1) := by decide +kernel
theorem dX5_lowest_10 : decode cX5_lowest 10 = .ok (.lload_n 0, 1) := by decide +kernel
theorem dX5_lowest_11 : decode cX5_lowest 11 = .ok (.lstore 5, 2) := by decide +kernel
theorem dX5_lowest_13 : decode cX5_lowest 13 = .ok (.lload_n 2, 1) := by decide +kernel
theorem dX5_lowest_14 : decode cX5_lowest 14 = .ok (.lstore 7, 2) := by decide +kernel
theorem dX5_lowest_16 : decode cX5_lowest 16 = .ok (.lload 7, 2) := by decide +kernel
theorem dX5_lowest_18 : decode cX5_lowest 18 = .ok (.lconst 0, 1) := by decide +kernel
theorem dX5_lowest_19 : decode cX5_lowest 19 = .ok (.lcmp, 1) := by decide +kernel
theorem dX5_lowest_20 : decode cX5_lowest 20 = .ok (.ifCond .eq 21, 3) := by decide +kernel
theorem dX5_lowest_23 : decode cX5_lowest 23 = .ok (.lload 5, 2) := by decide +kernel
theorem dX5_lowest_25 : decode cX5_lowest 25 = .ok (.lload 7, 2) := by decide +kernel
theorem dX5_lowest_27 : decode cX5_lowest 27 = .ok (.lrem, 1) := by decide +kernel
theorem dX5_lowest_28 : decode cX5_lowest 28 = .ok (.lstore 9, 2) := by decide +kernel
theorem dX5_lowest_30 : decode cX5_lowest 30 = .ok (.lload 7, 2) := by decide +kernel
theorem dX5_lowest_32 : decode cX5_lowest 32 = .ok (.lstore 5, 2) := by decide +kernel
theorem dX5_lowest_34 : decode cX5_lowest 34 = .ok (.lload 9, 2) := by decide +kernel
theorem dX5_lowest_36 : decode cX5_lowest 36 = .ok (.lstore 7, 2) := by decide +kernel
theorem dX5_lowest_38 : decode cX5_lowest 38 = .ok (.goto (-22), 3) := by decide +kernel
theorem dX5_lowest_41 : decode cX5_lowest 41 = .ok (.iload 4, 2) := by decide +kernel
theorem dX5_lowest_43 : decode cX5_lowest 43 = .ok (.ifCond .ne 7, 3) := by decide +kernel
theorem dX5_lowest_46 : decode cX5_lowest 46 = .ok (.lload_n 0, 1) := by decide +kernel
theorem dX5_lowest_47 : decode cX5_lowest 47 = .ok (.goto 4, 3) := by decide +kernel
theorem dX5_lowest_50 : decode cX5_lowest 50 = .ok (.lload_n 2, 1) := by decide +kernel
theorem dX5_lowest_51 : decode cX5_lowest 51 = .ok (.lload 5, 2) := by decide +kernel
theorem dX5_lowest_53 : decode cX5_lowest 53 = .ok (.ldiv, 1) := by decide +kernel
theorem dX5_lowest_54 : decode cX5_lowest 54 = .ok (.lreturn, 1) := by decide +kernel
set_option maxRecDepth 20000 in
theorem ggX5_share_X5_worthAll : GoodIn wsX5_share wsX5_worthAll := goodIn_r _ [8, 9, 20, 21, 22, 23, 24, 25, 26, 27, 28, 29, 30, 31, 32, 33, 34, 35, 36, 37, 38, 39, 40, 41, 42, 43, 44, 45, 46, 47, 48, 49, 50, 51, 52, 53, 54, 55, 56] rfl (by decide +kernel)
set_option maxRecDepth 20000 in
theorem gX5_share_X5_worthAll : GoodIn wsX5_share (wsV RX5 107 RX5 yX5_worthAll wsX5_worthAll) := goodIn_app (goodIn_of _ (by decide +kernel)) ggX5_share_X5_worthAll
set_option maxRecDepth 20000 in
theorem ggX5_share_X5_isOne : GoodIn wsX5_share wsX5_isOne := goodIn_r _ [13, 1, 14, 15, 7, 16, 20, 21, 22, 23, 24, 25, 26, 27, 28, 29, 30, 31, 32, 33, 34, 35, 36, 37, 38, 39, 40, 41, 42, 43, 44, 45, 46, 47, 48, 49, 50, 51, 52, 53, 54, 55, 56] rfl (by decide +kernel)
set_option maxRecDepth 20000 in
theorem gX5_share_X5_isOne : GoodIn wsX5_share (wsV RX5 179 RX5 yX5_isOne wsX5_isOne) := goodIn_app (goodIn_of _ (by decide +kernel)) ggX5_share_X5_isOne
set_option maxRecDepth 20000 in
theorem ggX5_share_X5_in : GoodIn wsX5_share wsX5_in := goodIn_r _ [16] rfl (by decide +kernel)
set_option maxRecDepth 20000 in
theorem gX5_share_X5_in : GoodIn wsX5_share (va_wsS RX5 84 yX5_in wsX5_in) := goodIn_app (goodIn_of _ (by decide +kernel)) ggX5_share_X5_in
set_option maxRecDepth 20000 in
theorem ggX5_share_X5_lowest : GoodIn wsX5_share wsX5_lowest := goodIn_r _ [19] rfl (by decide +kernel)
set_option maxRecDepth 20000 in
theorem gX5_share_X5_lowest : GoodIn wsX5_share (va_wsS RX5 230 yX5_lowest wsX5_lowest) := goodIn_app (goodIn_of _ (by decide +kernel)) ggX5_share_X5_lowest
theorem dX5_share_0 : decode cX5_share 0 = .ok (.aload_n 0, 1) := by decide +kernel
theorem dX5_share_1 : decode cX5_share 1 = .ok (.invokevirtual 107, 3) := by decide +kernel
theorem dX5_share_4 : decode cX5_share 4 = .ok (.istore_n 3, 1) := by decide +kernel
theorem dX5_share_5 : decode cX5_share 5 = .ok (.iconst 0, 1) := by decide +kernel
theorem dX5_share_6 : decode cX5_share 6 = .ok (.istore 4, 2) := by decide +kernel
theorem dX5_share_8 : decode cX5_share 8 = .ok (.iload 4, 2) := by decide +kernel
theorem dX5_share_10 : decode cX5_share 10 = .ok (.aload_n 0, 1) := by decide +kernel
theorem dX5_share_11 : decode cX5_share 11 = .ok (.getfield 81, 3) := by decide +kernel
theorem dX5_share_14 : decode cX5_share 14 = .ok (.if_icmp .ge 23, 3) := by decide +kernel
theorem dX5_share_17 : decode cX5_share 17 = .ok (.iload_n 3, 1) := by decide +kernel
theorem dX5_share_18 : decode cX5_share 18 = .ok (.aload_n 0, 1) := by decide +kernel
theorem dX5_share_19 : decode cX5_share 19 = .ok (.getfield 16, 3) := by decide +kernel
theorem dX5_share_22 : decode cX5_share 22 = .ok (.iconst 3, 1) := by decide +kernel
theorem dX5_share_23 : decode cX5_share 23 = .ok (.iload 4, 2) := by decide +kernel
theorem dX5_share_25 : decode cX5_share 25 = .ok (.imul, 1) := by decide +kernel
theorem dX5_share_26 : decode cX5_share 26 = .ok (.iconst 1, 1) := by decide +kernel
theorem dX5_share_27 : decode cX5_share 27 = .ok (.iadd, 1) := by decide +kernel
theorem dX5_share_28 : decode cX5_share 28 = .ok (.iaload, 1) := by decide +kernel
theorem dX5_share_29 : decode cX5_share 29 = .ok (.iadd, 1) := by decide +kernel
theorem dX5_share_30 : decode cX5_share 30 = .ok (.istore_n 3, 1) := by decide +kernel
theorem dX5_share_31 : decode cX5_share 31 = .ok (.iinc 4 1, 3) := by decide +kernel
theorem dX5_share_34 : decode cX5_share 34 = .ok (.goto (-26), 3) := by decide +kernel
theorem dX5_share_37 : decode cX5_share 37 = .ok (.aload_n 0, 1) := by decide +kernel
theorem dX5_share_38 : decode cX5_share 38 = .ok (.iload_n 1, 1) := by decide +kernel
theorem dX5_share_39 : decode cX5_share 39 = .ok (.invokevirtual 179, 3) := by decide +kernel
theorem dX5_share_42 : decode cX5_share 42 = .ok (.ifCond .eq 36, 3) := by decide +kernel
theorem dX5_share_45 : decode cX5_share 45 = .ok (.iload_n 2, 1) := by decide +kernel
theorem dX5_share_46 : decode cX5_share 46 = .ok (.iconst 0, 1) := by decide +kernel
theorem dX5_share_47 : decode cX5_share 47 = .ok (.iconst 1, 1) := by decide +kernel
theorem dX5_share_48 : decode cX5_share 48 = .ok (.invokestatic 84, 3) := by decide +kernel
theorem dX5_share_51 : decode cX5_share 51 = .ok (.ifCond .eq 27, 3) := by decide +kernel
theorem dX5_share_54 : decode cX5_share 54 = .ok (.iload_n 3, 1) := by decide +kernel
theorem dX5_share_55 : decode cX5_share 55 = .ok (.ifCond .le 23, 3) := by decide +kernel
theorem dX5_share_58 : decode cX5_share 58 = .ok (.aload_n 0, 1) := by decide +kernel
theorem dX5_share_59 : decode cX5_share 59 = .ok (.getfield 16, 3) := by decide +kernel
theorem dX5_share_62 : decode cX5_share 62 = .ok (.iconst 3, 1) := by decide +kernel
theorem dX5_share_63 : decode cX5_share 63 = .ok (.iload_n 1, 1) := by decide +kernel
theorem dX5_share_64 : decode cX5_share 64 = .ok (.imul, 1) := by decide +kernel
theorem dX5_share_65 : decode cX5_share 65 = .ok (.iconst 1, 1) := by decide +kernel
theorem dX5_share_66 : decode cX5_share 66 = .ok (.iadd, 1) := by decide +kernel
theorem dX5_share_67 : decode cX5_share 67 = .ok (.iaload, 1) := by decide +kernel
theorem dX5_share_68 : decode cX5_share 68 = .ok (.i2l, 1) := by decide +kernel
theorem dX5_share_69 : decode cX5_share 69 = .ok (.iload_n 3, 1) := by decide +kernel
theorem dX5_share_70 : decode cX5_share 70 = .ok (.i2l, 1) := by decide +kernel
theorem dX5_share_71 : decode cX5_share 71 = .ok (.iload_n 2, 1) := by decide +kernel
theorem dX5_share_72 : decode cX5_share 72 = .ok (.invokestatic 230, 3) := by decide +kernel
theorem dX5_share_75 : decode cX5_share 75 = .ok (.goto 6, 3) := by decide +kernel
theorem dX5_share_78 : decode cX5_share 78 = .ok (.ldc2_w 234, 3) := by decide +kernel
theorem dX5_share_81 : decode cX5_share 81 = .ok (.lreturn, 1) := by decide +kernel
set_option maxRecDepth 20000 in
theorem ggX5_sheetWrong_X5_in : GoodIn wsX5_sheetWrong wsX5_in := goodIn_r _ [6] rfl (by decide +kernel)
set_option maxRecDepth 20000 in
theorem gX5_sheetWrong_X5_in : GoodIn wsX5_sheetWrong (va_wsS RX5 84 yX5_in wsX5_in) := goodIn_app (goodIn_of _ (by decide +kernel)) ggX5_sheetWrong_X5_in
theorem dX5_sheetWrong_0 : decode cX5_sheetWrong 0 = .ok (.iload_n 1, 1) := by decide +kernel
theorem dX5_sheetWrong_1 : decode cX5_sheetWrong 1 = .ok (.iconst 0, 1) := by decide +kernel
theorem dX5_sheetWrong_2 : decode cX5_sheetWrong 2 = .ok (.iconst 3, 1) := by decide +kernel
theorem dX5_sheetWrong_3 : decode cX5_sheetWrong 3 = .ok (.invokestatic 84, 3) := by decide +kernel
theorem dX5_sheetWrong_6 : decode cX5_sheetWrong 6 = .ok (.ifCond .ne 6, 3) := by decide +kernel
theorem dX5_sheetWrong_9 : decode cX5_sheetWrong 9 = .ok (.bipush (-2), 2) := by decide +kernel
theorem dX5_sheetWrong_11 : decode cX5_sheetWrong 11 = .ok (.ireturn, 1) := by decide +kernel
theorem dX5_sheetWrong_12 : decode cX5_sheetWrong 12 = .ok (.aload_n 0, 1) := by decide +kernel
theorem dX5_sheetWrong_13 : decode cX5_sheetWrong 13 = .ok (.getfield 37, 3) := by decide +kernel
theorem dX5_sheetWrong_16 : decode cX5_sheetWrong 16 = .ok (.iload_n 1, 1) := by decide +kernel
theorem dX5_sheetWrong_17 : decode cX5_sheetWrong 17 = .ok (.iaload, 1) := by decide +kernel
theorem dX5_sheetWrong_18 : decode cX5_sheetWrong 18 = .ok (.iconst (-1), 1) := by decide +kernel
theorem dX5_sheetWrong_19 : decode cX5_sheetWrong 19 = .ok (.if_icmp .ne 6, 3) := by decide +kernel
theorem dX5_sheetWrong_22 : decode cX5_sheetWrong 22 = .ok (.bipush (-11), 2) := by decide +kernel
theorem dX5_sheetWrong_24 : decode cX5_sheetWrong 24 = .ok (.ireturn, 1) := by decide +kernel
theorem dX5_sheetWrong_25 : decode cX5_sheetWrong 25 = .ok (.aload_n 0, 1) := by decide +kernel
theorem dX5_sheetWrong_26 : decode cX5_sheetWrong 26 = .ok (.getfield 40, 3) := by decide +kernel
theorem dX5_sheetWrong_29 : decode cX5_sheetWrong 29 = .ok (.iload_n 1, 1) := by decide +kernel
theorem dX5_sheetWrong_30 : decode cX5_sheetWrong 30 = .ok (.iaload, 1) := by decide +kernel
theorem dX5_sheetWrong_31 : decode cX5_sheetWrong 31 = .ok (.bipush 30, 2) := by decide +kernel
theorem dX5_sheetWrong_33 : decode cX5_sheetWrong 33 = .ok (.if_icmp .le 8, 3) := by decide +kernel
theorem dX5_sheetWrong_36 : decode cX5_sheetWrong 36 = .ok (.bipush (-2), 2) := by decide +kernel
theorem dX5_sheetWrong_38 : decode cX5_sheetWrong 38 = .ok (.goto 4, 3) := by decide +kernel
theorem dX5_sheetWrong_41 : decode cX5_sheetWrong 41 = .ok (.iconst 0, 1) := by decide +kernel
theorem dX5_sheetWrong_42 : decode cX5_sheetWrong 42 = .ok (.ireturn, 1) := by decide +kernel
set_option maxRecDepth 20000 in
theorem ggX5_toldTurn_X5_isOver : GoodIn wsX5_toldTurn wsX5_isOver := goodIn_r _ [5, 6, 7, 8, 9, 4, 10, 11, 61, 62, 63, 64, 65, 66, 67, 68, 69, 70, 71, 72, 73, 74, 75, 76, 77, 78, 79, 80, 81, 82, 83, 84, 85, 86, 87, 88, 89, 90, 91, 92, 93, 94, 95, 96, 97] rfl (by decide +kernel)
set_option maxRecDepth 20000 in
theorem gX5_toldTurn_X5_isOver : GoodIn wsX5_toldTurn (wsV RX5 200 RX5 yX5_isOver wsX5_isOver) := goodIn_app (goodIn_of _ (by decide +kernel)) ggX5_toldTurn_X5_isOver
set_option maxRecDepth 20000 in
theorem ggX5_toldTurn_X5_turnOf : GoodIn wsX5_toldTurn wsX5_turnOf := goodIn_r _ [15, 16, 6, 17, 18, 19, 4, 20, 11, 21, 22, 23, 24, 25, 26, 27, 28, 29, 30, 31, 32, 33, 34, 35, 36, 37, 7, 8, 9, 10, 38, 39, 40, 41, 42, 43, 44, 45, 46, 47, 48, 49, 50, 51, 52, 53, 54, 55, 56, 57, 58, 59, 60, 61, 62, 63, 64, 65, 66, 67, 68, 69, 70, 71, 72, 73, 74, 75, 76, 77, 78, 79, 80, 81, 82, 83, 84, 85, 86, 87, 88, 89, 90, 91, 92, 93, 94, 95, 96, 97] rfl (by decide +kernel)
set_option maxRecDepth 20000 in
theorem gX5_toldTurn_X5_turnOf : GoodIn wsX5_toldTurn (wsV RX5 203 RX5 yX5_turnOf wsX5_turnOf) := goodIn_app (goodIn_of _ (by decide +kernel)) ggX5_toldTurn_X5_turnOf
theorem dX5_toldTurn_0 : decode cX5_toldTurn 0 = .ok (.aload_n 0, 1) := by decide +kernel
theorem dX5_toldTurn_1 : decode cX5_toldTurn 1 = .ok (.invokevirtual 200, 3) := by decide +kernel
theorem dX5_toldTurn_4 : decode cX5_toldTurn 4 = .ok (.ifCond .eq 7, 3) := by decide +kernel
theorem dX5_toldTurn_7 : decode cX5_toldTurn 7 = .ok (.iconst 0, 1) := by decide +kernel
theorem dX5_toldTurn_8 : decode cX5_toldTurn 8 = .ok (.goto 9, 3) := by decide +kernel
theorem dX5_toldTurn_11 : decode cX5_toldTurn 11 = .ok (.aload_n 0, 1) := by decide +kernel
theorem dX5_toldTurn_12 : decode cX5_toldTurn 12 = .ok (.invokevirtual 203, 3) := by decide +kernel
theorem dX5_toldTurn_15 : decode cX5_toldTurn 15 = .ok (.iconst 1, 1) := by decide +kernel
theorem dX5_toldTurn_16 : decode cX5_toldTurn 16 = .ok (.iadd, 1) := by decide +kernel
theorem dX5_toldTurn_17 : decode cX5_toldTurn 17 = .ok (.ireturn, 1) := by decide +kernel
set_option maxRecDepth 20000 in
theorem ggX5_unlike_X5_keeps : GoodIn wsX5_unlike wsX5_keeps := goodIn_r _ [7, 8, 9, 10, 11, 12, 76, 77, 78, 79, 80, 81, 82, 83, 84, 85, 86, 87, 88, 89, 90, 91, 92, 93, 94, 95, 96, 97, 98, 99, 100, 101, 102, 103, 104, 105, 106, 107, 108, 109, 110, 111, 112] rfl (by decide +kernel)
set_option maxRecDepth 20000 in
theorem gX5_unlike_X5_keeps : GoodIn wsX5_unlike (wsV RX5 206 RX5 yX5_keeps wsX5_keeps) := goodIn_app (goodIn_of _ (by decide +kernel)) ggX5_unlike_X5_keeps
set_option maxRecDepth 20000 in
theorem ggX5_unlike_X5_toldTurn : GoodIn wsX5_unlike wsX5_toldTurn := goodIn_r _ [16, 17, 18, 19, 6, 20, 21, 22, 23, 24, 25, 10, 26, 27, 28, 29, 11, 30, 31, 32, 33, 9, 12, 34, 35, 36, 37, 38, 39, 40, 41, 42, 43, 44, 45, 46, 47, 48, 49, 50, 51, 52, 53, 54, 55, 56, 57, 58, 59, 60, 61, 62, 63, 64, 65, 66, 67, 68, 69, 70, 71, 76, 77, 78, 79, 80, 81, 82, 83, 84, 85, 86, 87, 88, 89, 90, 91, 92, 93, 94, 95, 96, 97, 98, 99, 100, 101, 102, 103, 104, 105, 106, 107, 108, 109, 110, 111, 112] rfl (by decide +kernel)
set_option maxRecDepth 20000 in
theorem gX5_unlike_X5_toldTurn : GoodIn wsX5_unlike (wsV RX5 236 RX5 yX5_toldTurn wsX5_toldTurn) := goodIn_app (goodIn_of _ (by decide +kernel)) ggX5_unlike_X5_toldTurn
set_option maxRecDepth 20000 in
theorem ggX5_unlike_X5_lays : GoodIn wsX5_unlike wsX5_lays := goodIn_r _ [75, 9, 8, 10, 11, 12, 76, 77, 78, 79, 80, 81, 82, 83, 84, 85, 86, 87, 88, 89, 90, 91, 92, 93, 94, 95, 96, 97, 98, 99, 100, 101, 102, 103, 104, 105, 106, 107, 108, 109, 110, 111, 112] rfl (by decide +kernel)
set_option maxRecDepth 20000 in
theorem gX5_unlike_X5_lays : GoodIn wsX5_unlike (wsV RX5 212 RX5 yX5_lays wsX5_lays) := goodIn_app (goodIn_of _ (by decide +kernel)) ggX5_unlike_X5_lays
theorem dX5_unlike_0 : decode cX5_unlike 0 = .ok (.iconst (-1), 1) := by decide +kernel
theorem dX5_unlike_1 : decode cX5_unlike 1 = .ok (.istore_n 2, 1) := by decide +kernel
theorem dX5_unlike_2 : decode cX5_unlike 2 = .ok (.aload_n 0, 1) := by decide +kernel
theorem dX5_unlike_3 : decode cX5_unlike 3 = .ok (.invokevirtual 206, 3) := by decide +kernel
theorem dX5_unlike_6 : decode cX5_unlike 6 = .ok (.iconst 0, 1) := by decide +kernel
theorem dX5_unlike_7 : decode cX5_unlike 7 = .ok (.istore_n 3, 1) := by decide +kernel
theorem dX5_unlike_8 : decode cX5_unlike 8 = .ok (.iload_n 3, 1) := by decide +kernel
theorem dX5_unlike_9 : decode cX5_unlike 9 = .ok (.aload_n 0, 1) := by decide +kernel
theorem dX5_unlike_10 : decode cX5_unlike 10 = .ok (.getfield 40, 3) := by decide +kernel
theorem dX5_unlike_13 : decode cX5_unlike 13 = .ok (.iload_n 1, 1) := by decide +kernel
theorem dX5_unlike_14 : decode cX5_unlike 14 = .ok (.iaload, 1) := by decide +kernel
theorem dX5_unlike_15 : decode cX5_unlike 15 = .ok (.if_icmp .ge 38, 3) := by decide +kernel
theorem dX5_unlike_18 : decode cX5_unlike 18 = .ok (.iload_n 2, 1) := by decide +kernel
theorem dX5_unlike_19 : decode cX5_unlike 19 = .ok (.iconst (-1), 1) := by decide +kernel
theorem dX5_unlike_20 : decode cX5_unlike 20 = .ok (.if_icmp .ne 33, 3) := by decide +kernel
theorem dX5_unlike_23 : decode cX5_unlike 23 = .ok (.aload_n 0, 1) := by decide +kernel
theorem dX5_unlike_24 : decode cX5_unlike 24 = .ok (.getfield 43, 3) := by decide +kernel
theorem dX5_unlike_27 : decode cX5_unlike 27 = .ok (.bipush 40, 2) := by decide +kernel
theorem dX5_unlike_29 : decode cX5_unlike 29 = .ok (.iload_n 1, 1) := by decide +kernel
theorem dX5_unlike_30 : decode cX5_unlike 30 = .ok (.imul, 1) := by decide +kernel
theorem dX5_unlike_31 : decode cX5_unlike 31 = .ok (.iload_n 3, 1) := by decide +kernel
theorem dX5_unlike_32 : decode cX5_unlike 32 = .ok (.iadd, 1) := by decide +kernel
theorem dX5_unlike_33 : decode cX5_unlike 33 = .ok (.iaload, 1) := by decide +kernel
theorem dX5_unlike_34 : decode cX5_unlike 34 = .ok (.aload_n 0, 1) := by decide +kernel
theorem dX5_unlike_35 : decode cX5_unlike 35 = .ok (.invokevirtual 236, 3) := by decide +kernel
theorem dX5_unlike_38 : decode cX5_unlike 38 = .ok (.if_icmp .ne 7, 3) := by decide +kernel
theorem dX5_unlike_41 : decode cX5_unlike 41 = .ok (.iconst (-1), 1) := by decide +kernel
theorem dX5_unlike_42 : decode cX5_unlike 42 = .ok (.goto 4, 3) := by decide +kernel
theorem dX5_unlike_45 : decode cX5_unlike 45 = .ok (.iload_n 3, 1) := by decide +kernel
theorem dX5_unlike_46 : decode cX5_unlike 46 = .ok (.istore_n 2, 1) := by decide +kernel
theorem dX5_unlike_47 : decode cX5_unlike 47 = .ok (.iinc 3 1, 3) := by decide +kernel
theorem dX5_unlike_50 : decode cX5_unlike 50 = .ok (.goto (-42), 3) := by decide +kernel
theorem dX5_unlike_53 : decode cX5_unlike 53 = .ok (.aload_n 0, 1) := by decide +kernel
theorem dX5_unlike_54 : decode cX5_unlike 54 = .ok (.invokevirtual 212, 3) := by decide +kernel
theorem dX5_unlike_57 : decode cX5_unlike 57 = .ok (.iload_n 2, 1) := by decide +kernel
theorem dX5_unlike_58 : decode cX5_unlike 58 = .ok (.ireturn, 1) := by decide +kernel
set_option maxRecDepth 20000 in
theorem ggX5_judge_X5_sheetWrong : GoodIn wsX5_judge wsX5_sheetWrong := goodIn_r _ [5, 6, 7, 8, 9, 4, 10, 88, 89, 90, 91, 92, 93, 94, 95, 96, 97, 98, 99, 100, 101, 102, 103, 104, 105, 106, 107, 108, 109, 110, 111, 112, 113, 114, 115, 116, 117, 118, 119, 120, 121, 122, 123, 124] rfl (by decide +kernel)
set_option maxRecDepth 20000 in
theorem gX5_judge_X5_sheetWrong : GoodIn wsX5_judge (wsV RX5 239 RX5 yX5_sheetWrong wsX5_sheetWrong) := goodIn_app (goodIn_of _ (by decide +kernel)) ggX5_judge_X5_sheetWrong
set_option maxRecDepth 20000 in
theorem ggX5_judge_X5_unlike : GoodIn wsX5_judge wsX5_unlike := goodIn_r _ [14, 7, 15, 16, 17, 18, 4, 19, 20, 21, 22, 23, 24, 25, 26, 27, 28, 29, 30, 31, 32, 33, 34, 35, 36, 37, 38, 39, 40, 41, 42, 43, 44, 45, 46, 47, 48, 49, 50, 51, 52, 53, 54, 55, 56, 57, 58, 59, 60, 61, 62, 63, 64, 65, 66, 67, 68, 69, 70, 71, 72, 73, 74, 75, 76, 77, 78, 79, 80, 81, 82, 83, 84, 85, 86, 87, 88, 89, 90, 91, 92, 93, 94, 95, 96, 97, 98, 99, 100, 101, 102, 103, 104, 105, 106, 107, 108, 109, 110, 111, 112, 113, 114, 115, 116, 117, 118, 119, 120, 121, 122, 123, 124] rfl (by decide +kernel)
set_option maxRecDepth 20000 in
theorem gX5_judge_X5_unlike : GoodIn wsX5_judge (wsV RX5 242 RX5 yX5_unlike wsX5_unlike) := goodIn_app (goodIn_of _ (by decide +kernel)) ggX5_judge_X5_unlike
theorem dX5_judge_0 : decode cX5_judge 0 = .ok (.aload_n 0, 1) := by decide +kernel
theorem dX5_judge_1 : decode cX5_judge 1 = .ok (.iload_n 1, 1) := by decide +kernel
theorem dX5_judge_2 : decode cX5_judge 2 = .ok (.invokevirtual 239, 3) := by decide +kernel
theorem dX5_judge_5 : decode cX5_judge 5 = .ok (.istore_n 2, 1) := by decide +kernel
theorem dX5_judge_6 : decode cX5_judge 6 = .ok (.iload_n 2, 1) := by decide +kernel
theorem dX5_judge_7 : decode cX5_judge 7 = .ok (.ifCond .ne 11, 3) := by decide +kernel
theorem dX5_judge_10 : decode cX5_judge 10 = .ok (.aload_n 0, 1) := by decide +kernel
theorem dX5_judge_11 : decode cX5_judge 11 = .ok (.iload_n 1, 1) := by decide +kernel
theorem dX5_judge_12 : decode cX5_judge 12 = .ok (.invokevirtual 242, 3) := by decide +kernel
theorem dX5_judge_15 : decode cX5_judge 15 = .ok (.goto 4, 3) := by decide +kernel
theorem dX5_judge_18 : decode cX5_judge 18 = .ok (.iload_n 2, 1) := by decide +kernel
theorem dX5_judge_19 : decode cX5_judge 19 = .ok (.ireturn, 1) := by decide +kernel
set_option maxRecDepth 20000 in
theorem ggX5_kinds_X5_sheetWrong : GoodIn wsX5_kinds wsX5_sheetWrong := goodIn_r _ [7, 8, 9, 10, 11, 6, 12, 92, 93, 94, 95, 96, 97, 98, 99, 100, 101, 102, 103, 104, 105, 106, 107, 108, 109, 110, 111, 112, 113, 114, 115, 116, 117, 118, 119, 120, 121, 122, 123, 124, 125, 126, 127, 128] rfl (by decide +kernel)
set_option maxRecDepth 20000 in
theorem gX5_kinds_X5_sheetWrong : GoodIn wsX5_kinds (wsV RX5 239 RX5 yX5_sheetWrong wsX5_sheetWrong) := goodIn_app (goodIn_of _ (by decide +kernel)) ggX5_kinds_X5_sheetWrong
set_option maxRecDepth 20000 in
theorem ggX5_kinds_X5_isOne : GoodIn wsX5_kinds wsX5_isOne := goodIn_r _ [16, 17, 10, 11, 6, 12, 92, 93, 94, 95, 96, 97, 98, 99, 100, 101, 102, 103, 104, 105, 106, 107, 108, 109, 110, 111, 112, 113, 114, 115, 116, 117, 118, 119, 120, 121, 122, 123, 124, 125, 126, 127, 128] rfl (by decide +kernel)
set_option maxRecDepth 20000 in
theorem gX5_kinds_X5_isOne : GoodIn wsX5_kinds (wsV RX5 179 RX5 yX5_isOne wsX5_isOne) := goodIn_app (goodIn_of _ (by decide +kernel)) ggX5_kinds_X5_isOne
set_option maxRecDepth 20000 in
theorem ggX5_kinds_X5_in : GoodIn wsX5_kinds wsX5_in := goodIn_r _ [12] rfl (by decide +kernel)
set_option maxRecDepth 20000 in
theorem gX5_kinds_X5_in : GoodIn wsX5_kinds (va_wsS RX5 84 yX5_in wsX5_in) := goodIn_app (goodIn_of _ (by decide +kernel)) ggX5_kinds_X5_in
set_option maxRecDepth 20000 in
theorem ggX5_kinds_X5_unlike : GoodIn wsX5_kinds wsX5_unlike := goodIn_r _ [21, 9, 22, 23, 24, 25, 6, 26, 27, 28, 29, 30, 31, 32, 33, 34, 35, 36, 37, 38, 39, 17, 40, 41, 42, 43, 44, 45, 46, 47, 48, 49, 50, 51, 52, 53, 54, 55, 56, 57, 58, 59, 1, 2, 60, 61, 62, 63, 64, 65, 66, 67, 68, 69, 70, 71, 72, 73, 74, 75, 76, 77, 78, 79, 80, 81, 82, 83, 84, 85, 86, 87, 88, 89, 90, 91, 92, 93, 94, 95, 96, 97, 98, 99, 100, 101, 102, 103, 104, 105, 106, 107, 108, 109, 110, 111, 112, 113, 114, 115, 116, 117, 118, 119, 120, 121, 122, 123, 124, 125, 126, 127, 128] rfl (by decide +kernel)
set_option maxRecDepth 20000 in
theorem gX5_kinds_X5_unlike : GoodIn wsX5_kinds (wsV RX5 242 RX5 yX5_unlike wsX5_unlike) := goodIn_app (goodIn_of _ (by decide +kernel)) ggX5_kinds_X5_unlike
theorem dX5_kinds_0 : decode cX5_kinds 0 = .ok (.aload_n 0, 1) := by decide +kernel
theorem dX5_kinds_1 : decode cX5_kinds 1 = .ok (.iload_n 1, 1) := by decide +kernel
theorem dX5_kinds_2 : decode cX5_kinds 2 = .ok (.invokevirtual 239, 3) := by decide +kernel
theorem dX5_kinds_5 : decode cX5_kinds 5 = .ok (.istore 4, 2) := by decide +kernel
theorem dX5_kinds_7 : decode cX5_kinds 7 = .ok (.iload 4, 2) := by decide +kernel
theorem dX5_kinds_9 : decode cX5_kinds 9 = .ok (.ifCond .eq 6, 3) := by decide +kernel
theorem dX5_kinds_12 : decode cX5_kinds 12 = .ok (.iload 4, 2) := by decide +kernel
theorem dX5_kinds_14 : decode cX5_kinds 14 = .ok (.ireturn, 1) := by decide +kernel
theorem dX5_kinds_15 : decode cX5_kinds 15 = .ok (.aload_n 0, 1) := by decide +kernel
theorem dX5_kinds_16 : decode cX5_kinds 16 = .ok (.iload_n 2, 1) := by decide +kernel
theorem dX5_kinds_17 : decode cX5_kinds 17 = .ok (.invokevirtual 179, 3) := by decide +kernel
theorem dX5_kinds_20 : decode cX5_kinds 20 = .ok (.ifCond .ne 6, 3) := by decide +kernel
theorem dX5_kinds_23 : decode cX5_kinds 23 = .ok (.bipush (-5), 2) := by decide +kernel
theorem dX5_kinds_25 : decode cX5_kinds 25 = .ok (.ireturn, 1) := by decide +kernel
theorem dX5_kinds_26 : decode cX5_kinds 26 = .ok (.iload_n 3, 1) := by decide +kernel
theorem dX5_kinds_27 : decode cX5_kinds 27 = .ok (.iconst 0, 1) := by decide +kernel
theorem dX5_kinds_28 : decode cX5_kinds 28 = .ok (.iconst 1, 1) := by decide +kernel
theorem dX5_kinds_29 : decode cX5_kinds 29 = .ok (.invokestatic 84, 3) := by decide +kernel
theorem dX5_kinds_32 : decode cX5_kinds 32 = .ok (.ifCond .ne 6, 3) := by decide +kernel
theorem dX5_kinds_35 : decode cX5_kinds 35 = .ok (.bipush (-7), 2) := by decide +kernel
theorem dX5_kinds_37 : decode cX5_kinds 37 = .ok (.ireturn, 1) := by decide +kernel
theorem dX5_kinds_38 : decode cX5_kinds 38 = .ok (.aload_n 0, 1) := by decide +kernel
theorem dX5_kinds_39 : decode cX5_kinds 39 = .ok (.getfield 7, 3) := by decide +kernel
theorem dX5_kinds_42 : decode cX5_kinds 42 = .ok (.iload_n 2, 1) := by decide +kernel
theorem dX5_kinds_43 : decode cX5_kinds 43 = .ok (.iaload, 1) := by decide +kernel
theorem dX5_kinds_44 : decode cX5_kinds 44 = .ok (.istore 5, 2) := by decide +kernel
theorem dX5_kinds_46 : decode cX5_kinds 46 = .ok (.aload_n 0, 1) := by decide +kernel
theorem dX5_kinds_47 : decode cX5_kinds 47 = .ok (.getfield 13, 3) := by decide +kernel
theorem dX5_kinds_50 : decode cX5_kinds 50 = .ok (.iload_n 2, 1) := by decide +kernel
theorem dX5_kinds_51 : decode cX5_kinds 51 = .ok (.iaload, 1) := by decide +kernel
theorem dX5_kinds_52 : decode cX5_kinds 52 = .ok (.istore 6, 2) := by decide +kernel
theorem dX5_kinds_54 : decode cX5_kinds 54 = .ok (.iconst 0, 1) := by decide +kernel
theorem dX5_kinds_55 : decode cX5_kinds 55 = .ok (.istore 7, 2) := by decide +kernel
theorem dX5_kinds_57 : decode cX5_kinds 57 = .ok (.iconst 0, 1) := by decide +kernel
theorem dX5_kinds_58 : decode cX5_kinds 58 = .ok (.istore 8, 2) := by decide +kernel
theorem dX5_kinds_60 : decode cX5_kinds 60 = .ok (.iload 8, 2) := by decide +kernel
theorem dX5_kinds_62 : decode cX5_kinds 62 = .ok (.iload_n 3, 1) := by decide +kernel
theorem dX5_kinds_63 : decode cX5_kinds 63 = .ok (.ifCond .ne 8, 3) := by decide +kernel
theorem dX5_kinds_66 : decode cX5_kinds 66 = .ok (.bipush 6, 2) := by decide +kernel
theorem dX5_kinds_68 : decode cX5_kinds 68 = .ok (.goto 5, 3) := by decide +kernel
theorem dX5_kinds_71 : decode cX5_kinds 71 = .ok (.bipush 10, 2) := by decide +kernel
theorem dX5_kinds_73 : decode cX5_kinds 73 = .ok (.if_icmp .ge 66, 3) := by decide +kernel
theorem dX5_kinds_76 : decode cX5_kinds 76 = .ok (.aload_n 0, 1) := by decide +kernel
theorem dX5_kinds_77 : decode cX5_kinds 77 = .ok (.getfield 7, 3) := by decide +kernel
theorem dX5_kinds_80 : decode cX5_kinds 80 = .ok (.iload_n 2, 1) := by decide +kernel
theorem dX5_kinds_81 : decode cX5_kinds 81 = .ok (.iload_n 3, 1) := by decide +kernel
theorem dX5_kinds_82 : decode cX5_kinds 82 = .ok (.ifCond .ne 8, 3) := by decide +kernel
theorem dX5_kinds_85 : decode cX5_kinds 85 = .ok (.iload 8, 2) := by decide +kernel
theorem dX5_kinds_87 : decode cX5_kinds 87 = .ok (.goto 5, 3) := by decide +kernel
theorem dX5_kinds_90 : decode cX5_kinds 90 = .ok (.iload 5, 2) := by decide +kernel
theorem dX5_kinds_92 : decode cX5_kinds 92 = .ok (.iastore, 1) := by decide +kernel
theorem dX5_kinds_93 : decode cX5_kinds 93 = .ok (.aload_n 0, 1) := by decide +kernel
theorem dX5_kinds_94 : decode cX5_kinds 94 = .ok (.getfield 13, 3) := by decide +kernel
theorem dX5_kinds_97 : decode cX5_kinds 97 = .ok (.iload_n 2, 1) := by decide +kernel
theorem dX5_kinds_98 : decode cX5_kinds 98 = .ok (.iload_n 3, 1) := by decide +kernel
theorem dX5_kinds_99 : decode cX5_kinds 99 = .ok (.iconst 1, 1) := by decide +kernel
theorem dX5_kinds_100 : decode cX5_kinds 100 = .ok (.if_icmp .ne 8, 3) := by decide +kernel
theorem dX5_kinds_103 : decode cX5_kinds 103 = .ok (.iload 8, 2) := by decide +kernel
theorem dX5_kinds_105 : decode cX5_kinds 105 = .ok (.goto 5, 3) := by decide +kernel
theorem dX5_kinds_108 : decode cX5_kinds 108 = .ok (.iload 6, 2) := by decide +kernel
theorem dX5_kinds_110 : decode cX5_kinds 110 = .ok (.iastore, 1) := by decide +kernel
theorem dX5_kinds_111 : decode cX5_kinds 111 = .ok (.iload 7, 2) := by decide +kernel
theorem dX5_kinds_113 : decode cX5_kinds 113 = .ok (.aload_n 0, 1) := by decide +kernel
theorem dX5_kinds_114 : decode cX5_kinds 114 = .ok (.iload_n 1, 1) := by decide +kernel
theorem dX5_kinds_115 : decode cX5_kinds 115 = .ok (.invokevirtual 242, 3) := by decide +kernel
theorem dX5_kinds_118 : decode cX5_kinds 118 = .ok (.iconst (-1), 1) := by decide +kernel
theorem dX5_kinds_119 : decode cX5_kinds 119 = .ok (.if_icmp .ne 10, 3) := by decide +kernel
theorem dX5_kinds_122 : decode cX5_kinds 122 = .ok (.iconst 1, 1) := by decide +kernel
theorem dX5_kinds_123 : decode cX5_kinds 123 = .ok (.iload 8, 2) := by decide +kernel
theorem dX5_kinds_125 : decode cX5_kinds 125 = .ok (.ishl, 1) := by decide +kernel
theorem dX5_kinds_126 : decode cX5_kinds 126 = .ok (.goto 4, 3) := by decide +kernel
theorem dX5_kinds_129 : decode cX5_kinds 129 = .ok (.iconst 0, 1) := by decide +kernel
theorem dX5_kinds_130 : decode cX5_kinds 130 = .ok (.ior, 1) := by decide +kernel
theorem dX5_kinds_131 : decode cX5_kinds 131 = .ok (.istore 7, 2) := by decide +kernel
theorem dX5_kinds_133 : decode cX5_kinds 133 = .ok (.iinc 8 1, 3) := by decide +kernel
theorem dX5_kinds_136 : decode cX5_kinds 136 = .ok (.goto (-76), 3) := by decide +kernel
theorem dX5_kinds_139 : decode cX5_kinds 139 = .ok (.aload_n 0, 1) := by decide +kernel
theorem dX5_kinds_140 : decode cX5_kinds 140 = .ok (.getfield 7, 3) := by decide +kernel
theorem dX5_kinds_143 : decode cX5_kinds 143 = .ok (.iload_n 2, 1) := by decide +kernel
theorem dX5_kinds_144 : decode cX5_kinds 144 = .ok (.iload 5, 2) := by decide +kernel
theorem dX5_kinds_146 : decode cX5_kinds 146 = .ok (.iastore, 1) := by decide +kernel
theorem dX5_kinds_147 : decode cX5_kinds 147 = .ok (.aload_n 0, 1) := by decide +kernel
theorem dX5_kinds_148 : decode cX5_kinds 148 = .ok (.getfield 13, 3) := by decide +kernel
theorem dX5_kinds_151 : decode cX5_kinds 151 = .ok (.iload_n 2, 1) := by decide +kernel
theorem dX5_kinds_152 : decode cX5_kinds 152 = .ok (.iload 6, 2) := by decide +kernel
theorem dX5_kinds_154 : decode cX5_kinds 154 = .ok (.iastore, 1) := by decide +kernel
theorem dX5_kinds_155 : decode cX5_kinds 155 = .ok (.iload 7, 2) := by decide +kernel
theorem dX5_kinds_157 : decode cX5_kinds 157 = .ok (.ireturn, 1) := by decide +kernel
set_option maxRecDepth 20000 in
theorem ggX5_prides_X5_sheetWrong : GoodIn wsX5_prides wsX5_sheetWrong := goodIn_r _ [6, 7, 8, 9, 10, 5, 11, 92, 93, 94, 95, 96, 97, 98, 99, 100, 101, 102, 103, 104, 105, 106, 107, 108, 109, 110, 111, 112, 113, 114, 115, 116, 117, 118, 119, 120, 121, 122, 123, 124, 125, 126, 127, 128] rfl (by decide +kernel)
set_option maxRecDepth 20000 in
theorem gX5_prides_X5_sheetWrong : GoodIn wsX5_prides (wsV RX5 239 RX5 yX5_sheetWrong wsX5_sheetWrong) := goodIn_app (goodIn_of _ (by decide +kernel)) ggX5_prides_X5_sheetWrong
set_option maxRecDepth 20000 in
theorem ggX5_prides_X5_isOne : GoodIn wsX5_prides wsX5_isOne := goodIn_r _ [15, 16, 9, 10, 5, 11, 92, 93, 94, 95, 96, 97, 98, 99, 100, 101, 102, 103, 104, 105, 106, 107, 108, 109, 110, 111, 112, 113, 114, 115, 116, 117, 118, 119, 120, 121, 122, 123, 124, 125, 126, 127, 128] rfl (by decide +kernel)
set_option maxRecDepth 20000 in
theorem gX5_prides_X5_isOne : GoodIn wsX5_prides (wsV RX5 179 RX5 yX5_isOne wsX5_isOne) := goodIn_app (goodIn_of _ (by decide +kernel)) ggX5_prides_X5_isOne
set_option maxRecDepth 20000 in
theorem ggX5_prides_X5_in : GoodIn wsX5_prides wsX5_in := goodIn_r _ [11] rfl (by decide +kernel)
set_option maxRecDepth 20000 in
theorem gX5_prides_X5_in : GoodIn wsX5_prides (va_wsS RX5 84 yX5_in wsX5_in) := goodIn_app (goodIn_of _ (by decide +kernel)) ggX5_prides_X5_in
set_option maxRecDepth 20000 in
theorem ggX5_prides_X5_unlike : GoodIn wsX5_prides wsX5_unlike := goodIn_r _ [20, 8, 21, 22, 23, 24, 5, 25, 26, 1, 27, 28, 29, 30, 31, 32, 33, 34, 35, 36, 37, 16, 38, 39, 40, 41, 42, 43, 44, 45, 46, 47, 48, 49, 50, 51, 52, 53, 54, 55, 56, 57, 58, 59, 60, 61, 62, 63, 64, 65, 66, 67, 68, 69, 70, 71, 72, 73, 74, 75, 76, 77, 78, 79, 80, 81, 82, 83, 84, 85, 86, 87, 88, 89, 90, 91, 92, 93, 94, 95, 96, 97, 98, 99, 100, 101, 102, 103, 104, 105, 106, 107, 108, 109, 110, 111, 112, 113, 114, 115, 116, 117, 118, 119, 120, 121, 122, 123, 124, 125, 126, 127, 128] rfl (by decide +kernel)
set_option maxRecDepth 20000 in
theorem gX5_prides_X5_unlike : GoodIn wsX5_prides (wsV RX5 242 RX5 yX5_unlike wsX5_unlike) := goodIn_app (goodIn_of _ (by decide +kernel)) ggX5_prides_X5_unlike
theorem dX5_prides_0 : decode cX5_prides 0 = .ok (.aload_n 0, 1) := by decide +kernel
theorem dX5_prides_1 : decode cX5_prides 1 = .ok (.iload_n 1, 1) := by decide +kernel
theorem dX5_prides_2 : decode cX5_prides 2 = .ok (.invokevirtual 239, 3) := by decide +kernel
theorem dX5_prides_5 : decode cX5_prides 5 = .ok (.istore 4, 2) := by decide +kernel
theorem dX5_prides_7 : decode cX5_prides 7 = .ok (.iload 4, 2) := by decide +kernel
theorem dX5_prides_9 : decode cX5_prides 9 = .ok (.ifCond .eq 6, 3) := by decide +kernel
theorem dX5_prides_12 : decode cX5_prides 12 = .ok (.iload 4, 2) := by decide +kernel
theorem dX5_prides_14 : decode cX5_prides 14 = .ok (.ireturn, 1) := by decide +kernel
theorem dX5_prides_15 : decode cX5_prides 15 = .ok (.aload_n 0, 1) := by decide +kernel
theorem dX5_prides_16 : decode cX5_prides 16 = .ok (.iload_n 2, 1) := by decide +kernel
theorem dX5_prides_17 : decode cX5_prides 17 = .ok (.invokevirtual 179, 3) := by decide +kernel
theorem dX5_prides_20 : decode cX5_prides 20 = .ok (.ifCond .ne 6, 3) := by decide +kernel
theorem dX5_prides_23 : decode cX5_prides 23 = .ok (.bipush (-5), 2) := by decide +kernel
theorem dX5_prides_25 : decode cX5_prides 25 = .ok (.ireturn, 1) := by decide +kernel
theorem dX5_prides_26 : decode cX5_prides 26 = .ok (.iload_n 3, 1) := by decide +kernel
theorem dX5_prides_27 : decode cX5_prides 27 = .ok (.iconst 0, 1) := by decide +kernel
theorem dX5_prides_28 : decode cX5_prides 28 = .ok (.iconst 1, 1) := by decide +kernel
theorem dX5_prides_29 : decode cX5_prides 29 = .ok (.invokestatic 84, 3) := by decide +kernel
theorem dX5_prides_32 : decode cX5_prides 32 = .ok (.ifCond .ne 6, 3) := by decide +kernel
theorem dX5_prides_35 : decode cX5_prides 35 = .ok (.bipush (-7), 2) := by decide +kernel
theorem dX5_prides_37 : decode cX5_prides 37 = .ok (.ireturn, 1) := by decide +kernel
theorem dX5_prides_38 : decode cX5_prides 38 = .ok (.aload_n 0, 1) := by decide +kernel
theorem dX5_prides_39 : decode cX5_prides 39 = .ok (.getfield 16, 3) := by decide +kernel
theorem dX5_prides_42 : decode cX5_prides 42 = .ok (.iconst 3, 1) := by decide +kernel
theorem dX5_prides_43 : decode cX5_prides 43 = .ok (.iload_n 2, 1) := by decide +kernel
theorem dX5_prides_44 : decode cX5_prides 44 = .ok (.imul, 1) := by decide +kernel
theorem dX5_prides_45 : decode cX5_prides 45 = .ok (.iaload, 1) := by decide +kernel
theorem dX5_prides_46 : decode cX5_prides 46 = .ok (.istore 5, 2) := by decide +kernel
theorem dX5_prides_48 : decode cX5_prides 48 = .ok (.iconst 0, 1) := by decide +kernel
theorem dX5_prides_49 : decode cX5_prides 49 = .ok (.istore 6, 2) := by decide +kernel
theorem dX5_prides_51 : decode cX5_prides 51 = .ok (.iconst (-1), 1) := by decide +kernel
theorem dX5_prides_52 : decode cX5_prides 52 = .ok (.istore 7, 2) := by decide +kernel
theorem dX5_prides_54 : decode cX5_prides 54 = .ok (.iconst 0, 1) := by decide +kernel
theorem dX5_prides_55 : decode cX5_prides 55 = .ok (.istore 8, 2) := by decide +kernel
theorem dX5_prides_57 : decode cX5_prides 57 = .ok (.iload 8, 2) := by decide +kernel
theorem dX5_prides_59 : decode cX5_prides 59 = .ok (.bipush 99, 2) := by decide +kernel
theorem dX5_prides_61 : decode cX5_prides 61 = .ok (.if_icmp .gt 70, 3) := by decide +kernel
theorem dX5_prides_64 : decode cX5_prides 64 = .ok (.aload_n 0, 1) := by decide +kernel
theorem dX5_prides_65 : decode cX5_prides 65 = .ok (.getfield 16, 3) := by decide +kernel
theorem dX5_prides_68 : decode cX5_prides 68 = .ok (.iconst 3, 1) := by decide +kernel
theorem dX5_prides_69 : decode cX5_prides 69 = .ok (.iload_n 2, 1) := by decide +kernel
theorem dX5_prides_70 : decode cX5_prides 70 = .ok (.imul, 1) := by decide +kernel
theorem dX5_prides_71 : decode cX5_prides 71 = .ok (.iload 8, 2) := by decide +kernel
theorem dX5_prides_73 : decode cX5_prides 73 = .ok (.iastore, 1) := by decide +kernel
theorem dX5_prides_74 : decode cX5_prides 74 = .ok (.aload_n 0, 1) := by decide +kernel
theorem dX5_prides_75 : decode cX5_prides 75 = .ok (.iload_n 1, 1) := by decide +kernel
theorem dX5_prides_76 : decode cX5_prides 76 = .ok (.invokevirtual 242, 3) := by decide +kernel
theorem dX5_prides_79 : decode cX5_prides 79 = .ok (.iconst (-1), 1) := by decide +kernel
theorem dX5_prides_80 : decode cX5_prides 80 = .ok (.if_icmp .ne 7, 3) := by decide +kernel
theorem dX5_prides_83 : decode cX5_prides 83 = .ok (.iconst 1, 1) := by decide +kernel
theorem dX5_prides_84 : decode cX5_prides 84 = .ok (.goto 4, 3) := by decide +kernel
theorem dX5_prides_87 : decode cX5_prides 87 = .ok (.iconst 0, 1) := by decide +kernel
theorem dX5_prides_88 : decode cX5_prides 88 = .ok (.istore 9, 2) := by decide +kernel
theorem dX5_prides_90 : decode cX5_prides 90 = .ok (.iload 6, 2) := by decide +kernel
theorem dX5_prides_92 : decode cX5_prides 92 = .ok (.iload 9, 2) := by decide +kernel
theorem dX5_prides_94 : decode cX5_prides 94 = .ok (.ifCond .eq 7, 3) := by decide +kernel
theorem dX5_prides_97 : decode cX5_prides 97 = .ok (.iconst 1, 1) := by decide +kernel
theorem dX5_prides_98 : decode cX5_prides 98 = .ok (.goto 4, 3) := by decide +kernel
theorem dX5_prides_101 : decode cX5_prides 101 = .ok (.iconst 0, 1) := by decide +kernel
theorem dX5_prides_102 : decode cX5_prides 102 = .ok (.iadd, 1) := by decide +kernel
theorem dX5_prides_103 : decode cX5_prides 103 = .ok (.istore 6, 2) := by decide +kernel
theorem dX5_prides_105 : decode cX5_prides 105 = .ok (.iload 9, 2) := by decide +kernel
theorem dX5_prides_107 : decode cX5_prides 107 = .ok (.ifCond .eq 14, 3) := by decide +kernel
theorem dX5_prides_110 : decode cX5_prides 110 = .ok (.iload 7, 2) := by decide +kernel
theorem dX5_prides_112 : decode cX5_prides 112 = .ok (.iconst (-1), 1) := by decide +kernel
theorem dX5_prides_113 : decode cX5_prides 113 = .ok (.if_icmp .ne 8, 3) := by decide +kernel
theorem dX5_prides_116 : decode cX5_prides 116 = .ok (.iload 8, 2) := by decide +kernel
theorem dX5_prides_118 : decode cX5_prides 118 = .ok (.goto 5, 3) := by decide +kernel
theorem dX5_prides_121 : decode cX5_prides 121 = .ok (.iload 7, 2) := by decide +kernel
theorem dX5_prides_123 : decode cX5_prides 123 = .ok (.istore 7, 2) := by decide +kernel
theorem dX5_prides_125 : decode cX5_prides 125 = .ok (.iinc 8 1, 3) := by decide +kernel
theorem dX5_prides_128 : decode cX5_prides 128 = .ok (.goto (-71), 3) := by decide +kernel
theorem dX5_prides_131 : decode cX5_prides 131 = .ok (.aload_n 0, 1) := by decide +kernel
theorem dX5_prides_132 : decode cX5_prides 132 = .ok (.getfield 16, 3) := by decide +kernel
theorem dX5_prides_135 : decode cX5_prides 135 = .ok (.iconst 3, 1) := by decide +kernel
theorem dX5_prides_136 : decode cX5_prides 136 = .ok (.iload_n 2, 1) := by decide +kernel
theorem dX5_prides_137 : decode cX5_prides 137 = .ok (.imul, 1) := by decide +kernel
theorem dX5_prides_138 : decode cX5_prides 138 = .ok (.iload 5, 2) := by decide +kernel
theorem dX5_prides_140 : decode cX5_prides 140 = .ok (.iastore, 1) := by decide +kernel
theorem dX5_prides_141 : decode cX5_prides 141 = .ok (.iload_n 3, 1) := by decide +kernel
theorem dX5_prides_142 : decode cX5_prides 142 = .ok (.ifCond .ne 8, 3) := by decide +kernel
theorem dX5_prides_145 : decode cX5_prides 145 = .ok (.iload 6, 2) := by decide +kernel
theorem dX5_prides_147 : decode cX5_prides 147 = .ok (.goto 5, 3) := by decide +kernel
theorem dX5_prides_150 : decode cX5_prides 150 = .ok (.iload 7, 2) := by decide +kernel
theorem dX5_prides_152 : decode cX5_prides 152 = .ok (.ireturn, 1) := by decide +kernel
set_option maxRecDepth 20000 in
theorem ggX5_hats_X5_sheetWrong : GoodIn wsX5_hats wsX5_sheetWrong := goodIn_r _ [6, 7, 8, 9, 10, 5, 11, 91, 92, 93, 94, 95, 96, 97, 98, 99, 100, 101, 102, 103, 104, 105, 106, 107, 108, 109, 110, 111, 112, 113, 114, 115, 116, 117, 118, 119, 120, 121, 122, 123, 124, 125, 126, 127] rfl (by decide +kernel)
set_option maxRecDepth 20000 in
theorem gX5_hats_X5_sheetWrong : GoodIn wsX5_hats (wsV RX5 239 RX5 yX5_sheetWrong wsX5_sheetWrong) := goodIn_app (goodIn_of _ (by decide +kernel)) ggX5_hats_X5_sheetWrong
set_option maxRecDepth 20000 in
theorem ggX5_hats_X5_isCoin : GoodIn wsX5_hats wsX5_isCoin := goodIn_r _ [14, 9, 10, 5, 11] rfl (by decide +kernel)
set_option maxRecDepth 20000 in
theorem gX5_hats_X5_isCoin : GoodIn wsX5_hats (va_wsS RX5 103 yX5_isCoin wsX5_isCoin) := goodIn_app (goodIn_of _ (by decide +kernel)) ggX5_hats_X5_isCoin
set_option maxRecDepth 20000 in
theorem ggX5_hats_X5_in : GoodIn wsX5_hats wsX5_in := goodIn_r _ [11] rfl (by decide +kernel)
set_option maxRecDepth 20000 in
theorem gX5_hats_X5_in : GoodIn wsX5_hats (va_wsS RX5 84 yX5_in wsX5_in) := goodIn_app (goodIn_of _ (by decide +kernel)) ggX5_hats_X5_in
set_option maxRecDepth 20000 in
theorem ggX5_hats_X5_unlike : GoodIn wsX5_hats wsX5_unlike := goodIn_r _ [18, 8, 19, 20, 21, 22, 5, 23, 24, 25, 1, 26, 27, 28, 29, 30, 31, 32, 33, 34, 35, 36, 37, 38, 39, 40, 41, 42, 43, 44, 45, 46, 47, 48, 49, 50, 51, 52, 53, 54, 55, 56, 57, 58, 59, 60, 61, 62, 63, 64, 65, 66, 67, 68, 69, 70, 71, 72, 73, 74, 75, 76, 77, 78, 79, 80, 81, 82, 83, 84, 85, 86, 87, 88, 89, 90, 91, 92, 93, 94, 95, 96, 97, 98, 99, 100, 101, 102, 103, 104, 105, 106, 107, 108, 109, 110, 111, 112, 113, 114, 115, 116, 117, 118, 119, 120, 121, 122, 123, 124, 125, 126, 127] rfl (by decide +kernel)
set_option maxRecDepth 20000 in
theorem gX5_hats_X5_unlike : GoodIn wsX5_hats (wsV RX5 242 RX5 yX5_unlike wsX5_unlike) := goodIn_app (goodIn_of _ (by decide +kernel)) ggX5_hats_X5_unlike
theorem dX5_hats_0 : decode cX5_hats 0 = .ok (.aload_n 0, 1) := by decide +kernel
theorem dX5_hats_1 : decode cX5_hats 1 = .ok (.iload_n 1, 1) := by decide +kernel
theorem dX5_hats_2 : decode cX5_hats 2 = .ok (.invokevirtual 239, 3) := by decide +kernel
theorem dX5_hats_5 : decode cX5_hats 5 = .ok (.istore 4, 2) := by decide +kernel
theorem dX5_hats_7 : decode cX5_hats 7 = .ok (.iload 4, 2) := by decide +kernel
theorem dX5_hats_9 : decode cX5_hats 9 = .ok (.ifCond .eq 6, 3) := by decide +kernel
theorem dX5_hats_12 : decode cX5_hats 12 = .ok (.iload 4, 2) := by decide +kernel
theorem dX5_hats_14 : decode cX5_hats 14 = .ok (.ireturn, 1) := by decide +kernel
theorem dX5_hats_15 : decode cX5_hats 15 = .ok (.iload_n 2, 1) := by decide +kernel
theorem dX5_hats_16 : decode cX5_hats 16 = .ok (.invokestatic 103, 3) := by decide +kernel
theorem dX5_hats_19 : decode cX5_hats 19 = .ok (.ifCond .ne 6, 3) := by decide +kernel
theorem dX5_hats_22 : decode cX5_hats 22 = .ok (.bipush (-5), 2) := by decide +kernel
theorem dX5_hats_24 : decode cX5_hats 24 = .ok (.ireturn, 1) := by decide +kernel
theorem dX5_hats_25 : decode cX5_hats 25 = .ok (.iload_n 3, 1) := by decide +kernel
theorem dX5_hats_26 : decode cX5_hats 26 = .ok (.iconst 0, 1) := by decide +kernel
theorem dX5_hats_27 : decode cX5_hats 27 = .ok (.iconst 1, 1) := by decide +kernel
theorem dX5_hats_28 : decode cX5_hats 28 = .ok (.invokestatic 84, 3) := by decide +kernel
theorem dX5_hats_31 : decode cX5_hats 31 = .ok (.ifCond .ne 6, 3) := by decide +kernel
theorem dX5_hats_34 : decode cX5_hats 34 = .ok (.bipush (-7), 2) := by decide +kernel
theorem dX5_hats_36 : decode cX5_hats 36 = .ok (.ireturn, 1) := by decide +kernel
theorem dX5_hats_37 : decode cX5_hats 37 = .ok (.aload_n 0, 1) := by decide +kernel
theorem dX5_hats_38 : decode cX5_hats 38 = .ok (.getfield 19, 3) := by decide +kernel
theorem dX5_hats_41 : decode cX5_hats 41 = .ok (.iconst 2, 1) := by decide +kernel
theorem dX5_hats_42 : decode cX5_hats 42 = .ok (.iload_n 2, 1) := by decide +kernel
theorem dX5_hats_43 : decode cX5_hats 43 = .ok (.imul, 1) := by decide +kernel
theorem dX5_hats_44 : decode cX5_hats 44 = .ok (.iconst 1, 1) := by decide +kernel
theorem dX5_hats_45 : decode cX5_hats 45 = .ok (.iadd, 1) := by decide +kernel
theorem dX5_hats_46 : decode cX5_hats 46 = .ok (.iaload, 1) := by decide +kernel
theorem dX5_hats_47 : decode cX5_hats 47 = .ok (.istore 5, 2) := by decide +kernel
theorem dX5_hats_49 : decode cX5_hats 49 = .ok (.iconst 0, 1) := by decide +kernel
theorem dX5_hats_50 : decode cX5_hats 50 = .ok (.istore 6, 2) := by decide +kernel
theorem dX5_hats_52 : decode cX5_hats 52 = .ok (.iconst (-1), 1) := by decide +kernel
theorem dX5_hats_53 : decode cX5_hats 53 = .ok (.istore 7, 2) := by decide +kernel
theorem dX5_hats_55 : decode cX5_hats 55 = .ok (.iconst 0, 1) := by decide +kernel
theorem dX5_hats_56 : decode cX5_hats 56 = .ok (.istore 8, 2) := by decide +kernel
theorem dX5_hats_58 : decode cX5_hats 58 = .ok (.iload 8, 2) := by decide +kernel
theorem dX5_hats_60 : decode cX5_hats 60 = .ok (.bipush 20, 2) := by decide +kernel
theorem dX5_hats_62 : decode cX5_hats 62 = .ok (.if_icmp .gt 72, 3) := by decide +kernel
theorem dX5_hats_65 : decode cX5_hats 65 = .ok (.aload_n 0, 1) := by decide +kernel
theorem dX5_hats_66 : decode cX5_hats 66 = .ok (.getfield 19, 3) := by decide +kernel
theorem dX5_hats_69 : decode cX5_hats 69 = .ok (.iconst 2, 1) := by decide +kernel
theorem dX5_hats_70 : decode cX5_hats 70 = .ok (.iload_n 2, 1) := by decide +kernel
theorem dX5_hats_71 : decode cX5_hats 71 = .ok (.imul, 1) := by decide +kernel
theorem dX5_hats_72 : decode cX5_hats 72 = .ok (.iconst 1, 1) := by decide +kernel
theorem dX5_hats_73 : decode cX5_hats 73 = .ok (.iadd, 1) := by decide +kernel
theorem dX5_hats_74 : decode cX5_hats 74 = .ok (.iload 8, 2) := by decide +kernel
theorem dX5_hats_76 : decode cX5_hats 76 = .ok (.iastore, 1) := by decide +kernel
theorem dX5_hats_77 : decode cX5_hats 77 = .ok (.aload_n 0, 1) := by decide +kernel
theorem dX5_hats_78 : decode cX5_hats 78 = .ok (.iload_n 1, 1) := by decide +kernel
theorem dX5_hats_79 : decode cX5_hats 79 = .ok (.invokevirtual 242, 3) := by decide +kernel
theorem dX5_hats_82 : decode cX5_hats 82 = .ok (.iconst (-1), 1) := by decide +kernel
theorem dX5_hats_83 : decode cX5_hats 83 = .ok (.if_icmp .ne 7, 3) := by decide +kernel
theorem dX5_hats_86 : decode cX5_hats 86 = .ok (.iconst 1, 1) := by decide +kernel
theorem dX5_hats_87 : decode cX5_hats 87 = .ok (.goto 4, 3) := by decide +kernel
theorem dX5_hats_90 : decode cX5_hats 90 = .ok (.iconst 0, 1) := by decide +kernel
theorem dX5_hats_91 : decode cX5_hats 91 = .ok (.istore 9, 2) := by decide +kernel
theorem dX5_hats_93 : decode cX5_hats 93 = .ok (.iload 6, 2) := by decide +kernel
theorem dX5_hats_95 : decode cX5_hats 95 = .ok (.iload 9, 2) := by decide +kernel
theorem dX5_hats_97 : decode cX5_hats 97 = .ok (.ifCond .eq 7, 3) := by decide +kernel
theorem dX5_hats_100 : decode cX5_hats 100 = .ok (.iconst 1, 1) := by decide +kernel
theorem dX5_hats_101 : decode cX5_hats 101 = .ok (.goto 4, 3) := by decide +kernel
theorem dX5_hats_104 : decode cX5_hats 104 = .ok (.iconst 0, 1) := by decide +kernel
theorem dX5_hats_105 : decode cX5_hats 105 = .ok (.iadd, 1) := by decide +kernel
theorem dX5_hats_106 : decode cX5_hats 106 = .ok (.istore 6, 2) := by decide +kernel
theorem dX5_hats_108 : decode cX5_hats 108 = .ok (.iload 9, 2) := by decide +kernel
theorem dX5_hats_110 : decode cX5_hats 110 = .ok (.ifCond .eq 14, 3) := by decide +kernel
theorem dX5_hats_113 : decode cX5_hats 113 = .ok (.iload 7, 2) := by decide +kernel
theorem dX5_hats_115 : decode cX5_hats 115 = .ok (.iconst (-1), 1) := by decide +kernel
theorem dX5_hats_116 : decode cX5_hats 116 = .ok (.if_icmp .ne 8, 3) := by decide +kernel
theorem dX5_hats_119 : decode cX5_hats 119 = .ok (.iload 8, 2) := by decide +kernel
theorem dX5_hats_121 : decode cX5_hats 121 = .ok (.goto 5, 3) := by decide +kernel
theorem dX5_hats_124 : decode cX5_hats 124 = .ok (.iload 7, 2) := by decide +kernel
theorem dX5_hats_126 : decode cX5_hats 126 = .ok (.istore 7, 2) := by decide +kernel
theorem dX5_hats_128 : decode cX5_hats 128 = .ok (.iinc 8 1, 3) := by decide +kernel
theorem dX5_hats_131 : decode cX5_hats 131 = .ok (.goto (-73), 3) := by decide +kernel
theorem dX5_hats_134 : decode cX5_hats 134 = .ok (.aload_n 0, 1) := by decide +kernel
theorem dX5_hats_135 : decode cX5_hats 135 = .ok (.getfield 19, 3) := by decide +kernel
theorem dX5_hats_138 : decode cX5_hats 138 = .ok (.iconst 2, 1) := by decide +kernel
theorem dX5_hats_139 : decode cX5_hats 139 = .ok (.iload_n 2, 1) := by decide +kernel
theorem dX5_hats_140 : decode cX5_hats 140 = .ok (.imul, 1) := by decide +kernel
theorem dX5_hats_141 : decode cX5_hats 141 = .ok (.iconst 1, 1) := by decide +kernel
theorem dX5_hats_142 : decode cX5_hats 142 = .ok (.iadd, 1) := by decide +kernel
theorem dX5_hats_143 : decode cX5_hats 143 = .ok (.iload 5, 2) := by decide +kernel
theorem dX5_hats_145 : decode cX5_hats 145 = .ok (.iastore, 1) := by decide +kernel
theorem dX5_hats_146 : decode cX5_hats 146 = .ok (.iload_n 3, 1) := by decide +kernel
theorem dX5_hats_147 : decode cX5_hats 147 = .ok (.ifCond .ne 8, 3) := by decide +kernel
theorem dX5_hats_150 : decode cX5_hats 150 = .ok (.iload 6, 2) := by decide +kernel
theorem dX5_hats_152 : decode cX5_hats 152 = .ok (.goto 5, 3) := by decide +kernel
theorem dX5_hats_155 : decode cX5_hats 155 = .ok (.iload 7, 2) := by decide +kernel
theorem dX5_hats_157 : decode cX5_hats 157 = .ok (.ireturn, 1) := by decide +kernel
set_option maxRecDepth 20000 in
theorem ggX5_starts_X5_sheetWrong : GoodIn wsX5_starts wsX5_sheetWrong := goodIn_r _ [7, 8, 9, 10, 11, 6, 12, 88, 89, 90, 91, 92, 93, 94, 95, 96, 97, 98, 99, 100, 101, 102, 103, 104, 105, 106, 107, 108, 109, 110, 111, 112, 113, 114, 115, 116, 117, 118, 119, 120, 121, 122, 123, 124] rfl (by decide +kernel)
set_option maxRecDepth 20000 in
theorem gX5_starts_X5_sheetWrong : GoodIn wsX5_starts (wsV RX5 239 RX5 yX5_sheetWrong wsX5_sheetWrong) := goodIn_app (goodIn_of _ (by decide +kernel)) ggX5_starts_X5_sheetWrong
set_option maxRecDepth 20000 in
theorem ggX5_starts_X5_unlike : GoodIn wsX5_starts wsX5_unlike := goodIn_r _ [16, 9, 17, 18, 19, 20, 6, 21, 22, 23, 24, 1, 25, 26, 27, 28, 29, 30, 31, 32, 33, 2, 34, 35, 36, 37, 38, 39, 40, 41, 42, 43, 44, 45, 46, 47, 48, 49, 50, 51, 52, 53, 54, 55, 56, 57, 58, 59, 60, 61, 62, 63, 64, 65, 66, 67, 68, 69, 70, 71, 72, 73, 74, 75, 76, 77, 78, 79, 80, 81, 82, 83, 84, 85, 86, 87, 88, 89, 90, 91, 92, 93, 94, 95, 96, 97, 98, 99, 100, 101, 102, 103, 104, 105, 106, 107, 108, 109, 110, 111, 112, 113, 114, 115, 116, 117, 118, 119, 120, 121, 122, 123, 124] rfl (by decide +kernel)
set_option maxRecDepth 20000 in
theorem gX5_starts_X5_unlike : GoodIn wsX5_starts (wsV RX5 242 RX5 yX5_unlike wsX5_unlike) := goodIn_app (goodIn_of _ (by decide +kernel)) ggX5_starts_X5_unlike
theorem dX5_starts_0 : decode cX5_starts 0 = .ok (.aload_n 0, 1) := by decide +kernel
theorem dX5_starts_1 : decode cX5_starts 1 = .ok (.iload_n 1, 1) := by decide +kernel
theorem dX5_starts_2 : decode cX5_starts 2 = .ok (.invokevirtual 239, 3) := by decide +kernel
theorem dX5_starts_5 : decode cX5_starts 5 = .ok (.istore_n 2, 1) := by decide +kernel
theorem dX5_starts_6 : decode cX5_starts 6 = .ok (.iload_n 2, 1) := by decide +kernel
theorem dX5_starts_7 : decode cX5_starts 7 = .ok (.ifCond .eq 5, 3) := by decide +kernel
theorem dX5_starts_10 : decode cX5_starts 10 = .ok (.iload_n 2, 1) := by decide +kernel
theorem dX5_starts_11 : decode cX5_starts 11 = .ok (.ireturn, 1) := by decide +kernel
theorem dX5_starts_12 : decode cX5_starts 12 = .ok (.aload_n 0, 1) := by decide +kernel
theorem dX5_starts_13 : decode cX5_starts 13 = .ok (.getfield 100, 3) := by decide +kernel
theorem dX5_starts_16 : decode cX5_starts 16 = .ok (.istore_n 3, 1) := by decide +kernel
theorem dX5_starts_17 : decode cX5_starts 17 = .ok (.iconst 0, 1) := by decide +kernel
theorem dX5_starts_18 : decode cX5_starts 18 = .ok (.istore 4, 2) := by decide +kernel
theorem dX5_starts_20 : decode cX5_starts 20 = .ok (.iconst 0, 1) := by decide +kernel
theorem dX5_starts_21 : decode cX5_starts 21 = .ok (.istore 5, 2) := by decide +kernel
theorem dX5_starts_23 : decode cX5_starts 23 = .ok (.iload 5, 2) := by decide +kernel
theorem dX5_starts_25 : decode cX5_starts 25 = .ok (.aload_n 0, 1) := by decide +kernel
theorem dX5_starts_26 : decode cX5_starts 26 = .ok (.getfield 81, 3) := by decide +kernel
theorem dX5_starts_29 : decode cX5_starts 29 = .ok (.if_icmp .ge 37, 3) := by decide +kernel
theorem dX5_starts_32 : decode cX5_starts 32 = .ok (.aload_n 0, 1) := by decide +kernel
theorem dX5_starts_33 : decode cX5_starts 33 = .ok (.iload 5, 2) := by decide +kernel
theorem dX5_starts_35 : decode cX5_starts 35 = .ok (.putfield 100, 3) := by decide +kernel
theorem dX5_starts_38 : decode cX5_starts 38 = .ok (.iload 4, 2) := by decide +kernel
theorem dX5_starts_40 : decode cX5_starts 40 = .ok (.aload_n 0, 1) := by decide +kernel
theorem dX5_starts_41 : decode cX5_starts 41 = .ok (.iload_n 1, 1) := by decide +kernel
theorem dX5_starts_42 : decode cX5_starts 42 = .ok (.invokevirtual 242, 3) := by decide +kernel
theorem dX5_starts_45 : decode cX5_starts 45 = .ok (.iconst (-1), 1) := by decide +kernel
theorem dX5_starts_46 : decode cX5_starts 46 = .ok (.if_icmp .ne 10, 3) := by decide +kernel
theorem dX5_starts_49 : decode cX5_starts 49 = .ok (.iconst 1, 1) := by decide +kernel
theorem dX5_starts_50 : decode cX5_starts 50 = .ok (.iload 5, 2) := by decide +kernel
theorem dX5_starts_52 : decode cX5_starts 52 = .ok (.ishl, 1) := by decide +kernel
theorem dX5_starts_53 : decode cX5_starts 53 = .ok (.goto 4, 3) := by decide +kernel
theorem dX5_starts_56 : decode cX5_starts 56 = .ok (.iconst 0, 1) := by decide +kernel
theorem dX5_starts_57 : decode cX5_starts 57 = .ok (.ior, 1) := by decide +kernel
theorem dX5_starts_58 : decode cX5_starts 58 = .ok (.istore 4, 2) := by decide +kernel
theorem dX5_starts_60 : decode cX5_starts 60 = .ok (.iinc 5 1, 3) := by decide +kernel
theorem dX5_starts_63 : decode cX5_starts 63 = .ok (.goto (-40), 3) := by decide +kernel
theorem dX5_starts_66 : decode cX5_starts 66 = .ok (.aload_n 0, 1) := by decide +kernel
theorem dX5_starts_67 : decode cX5_starts 67 = .ok (.iload_n 3, 1) := by decide +kernel
theorem dX5_starts_68 : decode cX5_starts 68 = .ok (.putfield 100, 3) := by decide +kernel
theorem dX5_starts_71 : decode cX5_starts 71 = .ok (.iload 4, 2) := by decide +kernel
theorem dX5_starts_73 : decode cX5_starts 73 = .ok (.ireturn, 1) := by decide +kernel
set_option maxRecDepth 20000 in
theorem ggX5_laws_X5_sheetWrong : GoodIn wsX5_laws wsX5_sheetWrong := goodIn_r _ [7, 8, 9, 10, 11, 6, 12, 89, 90, 91, 92, 93, 94, 95, 96, 97, 98, 99, 100, 101, 102, 103, 104, 105, 106, 107, 108, 109, 110, 111, 112, 113, 114, 115, 116, 117, 118, 119, 120, 121, 122, 123, 124, 125] rfl (by decide +kernel)
set_option maxRecDepth 20000 in
theorem gX5_laws_X5_sheetWrong : GoodIn wsX5_laws (wsV RX5 239 RX5 yX5_sheetWrong wsX5_sheetWrong) := goodIn_app (goodIn_of _ (by decide +kernel)) ggX5_laws_X5_sheetWrong
set_option maxRecDepth 20000 in
theorem ggX5_laws_X5_unlike : GoodIn wsX5_laws wsX5_unlike := goodIn_r _ [16, 9, 17, 18, 19, 20, 6, 21, 22, 23, 24, 25, 26, 27, 28, 29, 30, 31, 32, 33, 34, 35, 36, 37, 38, 39, 40, 41, 42, 43, 44, 45, 46, 47, 48, 49, 50, 51, 52, 53, 54, 55, 56, 57, 58, 59, 60, 61, 62, 63, 64, 65, 66, 67, 68, 69, 70, 1, 71, 72, 73, 74, 75, 76, 77, 78, 79, 80, 81, 82, 83, 84, 85, 86, 87, 88, 89, 90, 91, 92, 93, 94, 95, 96, 97, 98, 99, 100, 101, 102, 103, 104, 105, 106, 107, 108, 109, 110, 111, 112, 113, 114, 115, 116, 117, 118, 119, 120, 121, 122, 123, 124, 125] rfl (by decide +kernel)
set_option maxRecDepth 20000 in
theorem gX5_laws_X5_unlike : GoodIn wsX5_laws (wsV RX5 242 RX5 yX5_unlike wsX5_unlike) := goodIn_app (goodIn_of _ (by decide +kernel)) ggX5_laws_X5_unlike
theorem dX5_laws_0 : decode cX5_laws 0 = .ok (.aload_n 0, 1) := by decide +kernel
theorem dX5_laws_1 : decode cX5_laws 1 = .ok (.iload_n 1, 1) := by decide +kernel
theorem dX5_laws_2 : decode cX5_laws 2 = .ok (.invokevirtual 239, 3) := by decide +kernel
theorem dX5_laws_5 : decode cX5_laws 5 = .ok (.istore_n 2, 1) := by decide +kernel
theorem dX5_laws_6 : decode cX5_laws 6 = .ok (.iload_n 2, 1) := by decide +kernel
theorem dX5_laws_7 : decode cX5_laws 7 = .ok (.ifCond .eq 5, 3) := by decide +kernel
theorem dX5_laws_10 : decode cX5_laws 10 = .ok (.iload_n 2, 1) := by decide +kernel
theorem dX5_laws_11 : decode cX5_laws 11 = .ok (.ireturn, 1) := by decide +kernel
theorem dX5_laws_12 : decode cX5_laws 12 = .ok (.aload_n 0, 1) := by decide +kernel
theorem dX5_laws_13 : decode cX5_laws 13 = .ok (.getfield 97, 3) := by decide +kernel
theorem dX5_laws_16 : decode cX5_laws 16 = .ok (.istore_n 3, 1) := by decide +kernel
theorem dX5_laws_17 : decode cX5_laws 17 = .ok (.iconst 0, 1) := by decide +kernel
theorem dX5_laws_18 : decode cX5_laws 18 = .ok (.istore 4, 2) := by decide +kernel
theorem dX5_laws_20 : decode cX5_laws 20 = .ok (.iconst 0, 1) := by decide +kernel
theorem dX5_laws_21 : decode cX5_laws 21 = .ok (.istore 5, 2) := by decide +kernel
theorem dX5_laws_23 : decode cX5_laws 23 = .ok (.iload 5, 2) := by decide +kernel
theorem dX5_laws_25 : decode cX5_laws 25 = .ok (.aload_n 0, 1) := by decide +kernel
theorem dX5_laws_26 : decode cX5_laws 26 = .ok (.getfield 94, 3) := by decide +kernel
theorem dX5_laws_29 : decode cX5_laws 29 = .ok (.if_icmp .ge 37, 3) := by decide +kernel
theorem dX5_laws_32 : decode cX5_laws 32 = .ok (.aload_n 0, 1) := by decide +kernel
theorem dX5_laws_33 : decode cX5_laws 33 = .ok (.iload 5, 2) := by decide +kernel
theorem dX5_laws_35 : decode cX5_laws 35 = .ok (.putfield 97, 3) := by decide +kernel
theorem dX5_laws_38 : decode cX5_laws 38 = .ok (.iload 4, 2) := by decide +kernel
theorem dX5_laws_40 : decode cX5_laws 40 = .ok (.aload_n 0, 1) := by decide +kernel
theorem dX5_laws_41 : decode cX5_laws 41 = .ok (.iload_n 1, 1) := by decide +kernel
theorem dX5_laws_42 : decode cX5_laws 42 = .ok (.invokevirtual 242, 3) := by decide +kernel
theorem dX5_laws_45 : decode cX5_laws 45 = .ok (.iconst (-1), 1) := by decide +kernel
theorem dX5_laws_46 : decode cX5_laws 46 = .ok (.if_icmp .ne 10, 3) := by decide +kernel
theorem dX5_laws_49 : decode cX5_laws 49 = .ok (.iconst 1, 1) := by decide +kernel
theorem dX5_laws_50 : decode cX5_laws 50 = .ok (.iload 5, 2) := by decide +kernel
theorem dX5_laws_52 : decode cX5_laws 52 = .ok (.ishl, 1) := by decide +kernel
theorem dX5_laws_53 : decode cX5_laws 53 = .ok (.goto 4, 3) := by decide +kernel
theorem dX5_laws_56 : decode cX5_laws 56 = .ok (.iconst 0, 1) := by decide +kernel
theorem dX5_laws_57 : decode cX5_laws 57 = .ok (.ior, 1) := by decide +kernel
theorem dX5_laws_58 : decode cX5_laws 58 = .ok (.istore 4, 2) := by decide +kernel
theorem dX5_laws_60 : decode cX5_laws 60 = .ok (.iinc 5 1, 3) := by decide +kernel
theorem dX5_laws_63 : decode cX5_laws 63 = .ok (.goto (-40), 3) := by decide +kernel
theorem dX5_laws_66 : decode cX5_laws 66 = .ok (.aload_n 0, 1) := by decide +kernel
theorem dX5_laws_67 : decode cX5_laws 67 = .ok (.iload_n 3, 1) := by decide +kernel
theorem dX5_laws_68 : decode cX5_laws 68 = .ok (.putfield 97, 3) := by decide +kernel
theorem dX5_laws_71 : decode cX5_laws 71 = .ok (.iload 4, 2) := by decide +kernel
theorem dX5_laws_73 : decode cX5_laws 73 = .ok (.ireturn, 1) := by decide +kernel
set_option maxRecDepth 20000 in
theorem ggX5_film_X5_in : GoodIn wsX5_film wsX5_in := goodIn_r _ [7] rfl (by decide +kernel)
set_option maxRecDepth 20000 in
theorem gX5_film_X5_in : GoodIn wsX5_film (va_wsS RX5 84 yX5_in wsX5_in) := goodIn_app (goodIn_of _ (by decide +kernel)) ggX5_film_X5_in
set_option maxRecDepth 20000 in
theorem ggX5_film_X5_keeps : GoodIn wsX5_film wsX5_keeps := goodIn_r _ [11, 12, 13, 14, 15, 16, 80, 81, 82, 83, 84, 85, 86, 87, 88, 89, 90, 91, 92, 93, 94, 95, 96, 97, 98, 99, 100, 101, 102, 103, 104, 105, 106, 107, 108, 109, 110, 111, 112, 113, 114, 115, 116] rfl (by decide +kernel)
set_option maxRecDepth 20000 in
theorem gX5_film_X5_keeps : GoodIn wsX5_film (wsV RX5 206 RX5 yX5_keeps wsX5_keeps) := goodIn_app (goodIn_of _ (by decide +kernel)) ggX5_film_X5_keeps
set_option maxRecDepth 20000 in
theorem ggX5_film_X5_toldTurn : GoodIn wsX5_film wsX5_toldTurn := goodIn_r _ [20, 21, 22, 23, 6, 24, 25, 26, 27, 28, 29, 14, 30, 31, 32, 33, 15, 34, 35, 36, 37, 13, 16, 38, 39, 40, 41, 42, 43, 44, 45, 46, 47, 48, 49, 50, 51, 52, 53, 54, 55, 56, 57, 58, 59, 60, 61, 62, 63, 64, 65, 66, 67, 68, 69, 70, 71, 72, 73, 74, 75, 80, 81, 82, 83, 84, 85, 86, 87, 88, 89, 90, 91, 92, 93, 94, 95, 96, 97, 98, 99, 100, 101, 102, 103, 104, 105, 106, 107, 108, 109, 110, 111, 112, 113, 114, 115, 116] rfl (by decide +kernel)
set_option maxRecDepth 20000 in
theorem gX5_film_X5_toldTurn : GoodIn wsX5_film (wsV RX5 236 RX5 yX5_toldTurn wsX5_toldTurn) := goodIn_app (goodIn_of _ (by decide +kernel)) ggX5_film_X5_toldTurn
set_option maxRecDepth 20000 in
theorem ggX5_film_X5_lays : GoodIn wsX5_film wsX5_lays := goodIn_r _ [79, 13, 12, 14, 15, 16, 80, 81, 82, 83, 84, 85, 86, 87, 88, 89, 90, 91, 92, 93, 94, 95, 96, 97, 98, 99, 100, 101, 102, 103, 104, 105, 106, 107, 108, 109, 110, 111, 112, 113, 114, 115, 116] rfl (by decide +kernel)
set_option maxRecDepth 20000 in
theorem gX5_film_X5_lays : GoodIn wsX5_film (wsV RX5 212 RX5 yX5_lays wsX5_lays) := goodIn_app (goodIn_of _ (by decide +kernel)) ggX5_film_X5_lays
theorem dX5_film_0 : decode cX5_film 0 = .ok (.iload_n 1, 1) := by decide +kernel
theorem dX5_film_1 : decode cX5_film 1 = .ok (.iconst 0, 1) := by decide +kernel
theorem dX5_film_2 : decode cX5_film 2 = .ok (.iconst 3, 1) := by decide +kernel
theorem dX5_film_3 : decode cX5_film 3 = .ok (.invokestatic 84, 3) := by decide +kernel
theorem dX5_film_6 : decode cX5_film 6 = .ok (.ifCond .ne 6, 3) := by decide +kernel
theorem dX5_film_9 : decode cX5_film 9 = .ok (.bipush (-2), 2) := by decide +kernel
theorem dX5_film_11 : decode cX5_film 11 = .ok (.ireturn, 1) := by decide +kernel
theorem dX5_film_12 : decode cX5_film 12 = .ok (.iload_n 2, 1) := by decide +kernel
theorem dX5_film_13 : decode cX5_film 13 = .ok (.iconst 0, 1) := by decide +kernel
theorem dX5_film_14 : decode cX5_film 14 = .ok (.bipush 30, 2) := by decide +kernel
theorem dX5_film_16 : decode cX5_film 16 = .ok (.invokestatic 84, 3) := by decide +kernel
theorem dX5_film_19 : decode cX5_film 19 = .ok (.ifCond .ne 6, 3) := by decide +kernel
theorem dX5_film_22 : decode cX5_film 22 = .ok (.bipush (-7), 2) := by decide +kernel
theorem dX5_film_24 : decode cX5_film 24 = .ok (.ireturn, 1) := by decide +kernel
theorem dX5_film_25 : decode cX5_film 25 = .ok (.aload_n 0, 1) := by decide +kernel
theorem dX5_film_26 : decode cX5_film 26 = .ok (.getfield 37, 3) := by decide +kernel
theorem dX5_film_29 : decode cX5_film 29 = .ok (.iload_n 1, 1) := by decide +kernel
theorem dX5_film_30 : decode cX5_film 30 = .ok (.iconst 0, 1) := by decide +kernel
theorem dX5_film_31 : decode cX5_film 31 = .ok (.iastore, 1) := by decide +kernel
theorem dX5_film_32 : decode cX5_film 32 = .ok (.aload_n 0, 1) := by decide +kernel
theorem dX5_film_33 : decode cX5_film 33 = .ok (.getfield 40, 3) := by decide +kernel
theorem dX5_film_36 : decode cX5_film 36 = .ok (.iload_n 1, 1) := by decide +kernel
theorem dX5_film_37 : decode cX5_film 37 = .ok (.iload_n 2, 1) := by decide +kernel
theorem dX5_film_38 : decode cX5_film 38 = .ok (.iastore, 1) := by decide +kernel
theorem dX5_film_39 : decode cX5_film 39 = .ok (.aload_n 0, 1) := by decide +kernel
theorem dX5_film_40 : decode cX5_film 40 = .ok (.invokevirtual 206, 3) := by decide +kernel
theorem dX5_film_43 : decode cX5_film 43 = .ok (.iconst 0, 1) := by decide +kernel
theorem dX5_film_44 : decode cX5_film 44 = .ok (.istore_n 3, 1) := by decide +kernel
theorem dX5_film_45 : decode cX5_film 45 = .ok (.iload_n 3, 1) := by decide +kernel
theorem dX5_film_46 : decode cX5_film 46 = .ok (.bipush 40, 2) := by decide +kernel
theorem dX5_film_48 : decode cX5_film 48 = .ok (.if_icmp .ge 33, 3) := by decide +kernel
theorem dX5_film_51 : decode cX5_film 51 = .ok (.aload_n 0, 1) := by decide +kernel
theorem dX5_film_52 : decode cX5_film 52 = .ok (.getfield 43, 3) := by decide +kernel
theorem dX5_film_55 : decode cX5_film 55 = .ok (.bipush 40, 2) := by decide +kernel
theorem dX5_film_57 : decode cX5_film 57 = .ok (.iload_n 1, 1) := by decide +kernel
theorem dX5_film_58 : decode cX5_film 58 = .ok (.imul, 1) := by decide +kernel
theorem dX5_film_59 : decode cX5_film 59 = .ok (.iload_n 3, 1) := by decide +kernel
theorem dX5_film_60 : decode cX5_film 60 = .ok (.iadd, 1) := by decide +kernel
theorem dX5_film_61 : decode cX5_film 61 = .ok (.iload_n 3, 1) := by decide +kernel
theorem dX5_film_62 : decode cX5_film 62 = .ok (.iload_n 2, 1) := by decide +kernel
theorem dX5_film_63 : decode cX5_film 63 = .ok (.if_icmp .ge 10, 3) := by decide +kernel
theorem dX5_film_66 : decode cX5_film 66 = .ok (.aload_n 0, 1) := by decide +kernel
theorem dX5_film_67 : decode cX5_film 67 = .ok (.invokevirtual 236, 3) := by decide +kernel
theorem dX5_film_70 : decode cX5_film 70 = .ok (.goto 4, 3) := by decide +kernel
theorem dX5_film_73 : decode cX5_film 73 = .ok (.iconst 0, 1) := by decide +kernel
theorem dX5_film_74 : decode cX5_film 74 = .ok (.iastore, 1) := by decide +kernel
theorem dX5_film_75 : decode cX5_film 75 = .ok (.iinc 3 1, 3) := by decide +kernel
theorem dX5_film_78 : decode cX5_film 78 = .ok (.goto (-33), 3) := by decide +kernel
theorem dX5_film_81 : decode cX5_film 81 = .ok (.aload_n 0, 1) := by decide +kernel
theorem dX5_film_82 : decode cX5_film 82 = .ok (.invokevirtual 212, 3) := by decide +kernel
theorem dX5_film_85 : decode cX5_film 85 = .ok (.iload_n 2, 1) := by decide +kernel
theorem dX5_film_86 : decode cX5_film 86 = .ok (.ireturn, 1) := by decide +kernel
set_option maxRecDepth 20000 in
theorem ggX5_lotHat_X5_keeps : GoodIn wsX5_lotHat wsX5_keeps := goodIn_r _ [11, 12, 6, 4, 13, 14, 82, 83, 84, 85, 86, 87, 88, 89, 90, 91, 92, 93, 94, 95, 96, 97, 98, 99, 100, 101, 102, 103, 104, 105, 106, 107, 108, 109, 110, 111, 112, 113, 114, 115, 116, 117, 118] rfl (by decide +kernel)
set_option maxRecDepth 20000 in
theorem gX5_lotHat_X5_keeps : GoodIn wsX5_lotHat (wsV RX5 206 RX5 yX5_keeps wsX5_keeps) := goodIn_app (goodIn_of _ (by decide +kernel)) ggX5_lotHat_X5_keeps
set_option maxRecDepth 20000 in
theorem ggX5_lotHat_X5_within : GoodIn wsX5_lotHat wsX5_within := goodIn_r _ [17] rfl (by decide +kernel)
set_option maxRecDepth 20000 in
theorem gX5_lotHat_X5_within : GoodIn wsX5_lotHat (va_wsS RX5 173 yX5_within wsX5_within) := goodIn_app (goodIn_of _ (by decide +kernel)) ggX5_lotHat_X5_within
set_option maxRecDepth 20000 in
theorem ggX5_lotHat_X5_goes : GoodIn wsX5_lotHat wsX5_goes := goodIn_r _ [21, 13, 22, 23, 24, 10, 25, 26, 27, 28, 29, 30, 4, 31, 32, 33, 34, 35, 36, 37, 38, 6, 14, 39, 40, 41, 42, 43, 44, 45, 46, 47, 48, 49, 50, 51, 52, 53, 15, 16, 17, 54, 55, 56, 57, 58, 59, 60, 61, 62, 63, 64, 65, 66, 67, 68, 69, 70, 71, 72, 73, 82, 83, 84, 85, 86, 87, 88, 89, 90, 91, 92, 93, 94, 95, 96, 97, 98, 99, 100, 101, 102, 103, 104, 105, 106, 107, 108, 109, 110, 111, 112, 113, 114, 115, 116, 117, 118] rfl (by decide +kernel)
set_option maxRecDepth 20000 in
theorem gX5_lotHat_X5_goes : GoodIn wsX5_lotHat (wsV RX5 209 RX5 yX5_goes wsX5_goes) := goodIn_app (goodIn_of _ (by decide +kernel)) ggX5_lotHat_X5_goes
set_option maxRecDepth 20000 in
theorem ggX5_lotHat_X5_mostBy : GoodIn wsX5_lotHat wsX5_mostBy := goodIn_r _ [77, 26, 6, 82, 83, 84, 85, 86, 87, 88, 89, 90, 91, 92, 93, 94, 95, 96, 97, 98, 99, 100, 101, 102, 103, 104, 105, 106, 107, 108, 109, 110, 111, 112, 113, 114, 115, 116, 117, 118] rfl (by decide +kernel)
set_option maxRecDepth 20000 in
theorem gX5_lotHat_X5_mostBy : GoodIn wsX5_lotHat (wsV RX5 215 RX5 yX5_mostBy wsX5_mostBy) := goodIn_app (goodIn_of _ (by decide +kernel)) ggX5_lotHat_X5_mostBy
set_option maxRecDepth 20000 in
theorem ggX5_lotHat_X5_lays : GoodIn wsX5_lotHat wsX5_lays := goodIn_r _ [81, 6, 12, 4, 13, 14, 82, 83, 84, 85, 86, 87, 88, 89, 90, 91, 92, 93, 94, 95, 96, 97, 98, 99, 100, 101, 102, 103, 104, 105, 106, 107, 108, 109, 110, 111, 112, 113, 114, 115, 116, 117, 118] rfl (by decide +kernel)
set_option maxRecDepth 20000 in
theorem gX5_lotHat_X5_lays : GoodIn wsX5_lotHat (wsV RX5 212 RX5 yX5_lays wsX5_lays) := goodIn_app (goodIn_of _ (by decide +kernel)) ggX5_lotHat_X5_lays
theorem dX5_lotHat_0 : decode cX5_lotHat 0 = .ok (.iload_n 1, 1) := by decide +kernel
theorem dX5_lotHat_1 : decode cX5_lotHat 1 = .ok (.i2l, 1) := by decide +kernel
theorem dX5_lotHat_2 : decode cX5_lotHat 2 = .ok (.lconst 1, 1) := by decide +kernel
theorem dX5_lotHat_3 : decode cX5_lotHat 3 = .ok (.ladd, 1) := by decide +kernel
theorem dX5_lotHat_4 : decode cX5_lotHat 4 = .ok (.lstore_n 3, 1) := by decide +kernel
theorem dX5_lotHat_5 : decode cX5_lotHat 5 = .ok (.aload_n 0, 1) := by decide +kernel
theorem dX5_lotHat_6 : decode cX5_lotHat 6 = .ok (.invokevirtual 206, 3) := by decide +kernel
theorem dX5_lotHat_9 : decode cX5_lotHat 9 = .ok (.iconst 0, 1) := by decide +kernel
theorem dX5_lotHat_10 : decode cX5_lotHat 10 = .ok (.istore 5, 2) := by decide +kernel
theorem dX5_lotHat_12 : decode cX5_lotHat 12 = .ok (.iload 5, 2) := by decide +kernel
theorem dX5_lotHat_14 : decode cX5_lotHat 14 = .ok (.iload_n 2, 1) := by decide +kernel
theorem dX5_lotHat_15 : decode cX5_lotHat 15 = .ok (.if_icmp .ge 57, 3) := by decide +kernel
theorem dX5_lotHat_18 : decode cX5_lotHat 18 = .ok (.lload_n 3, 1) := by decide +kernel
theorem dX5_lotHat_19 : decode cX5_lotHat 19 = .ok (.ldc2_w 245, 3) := by decide +kernel
theorem dX5_lotHat_22 : decode cX5_lotHat 22 = .ok (.lmul, 1) := by decide +kernel
theorem dX5_lotHat_23 : decode cX5_lotHat 23 = .ok (.ldc2_w 247, 3) := by decide +kernel
theorem dX5_lotHat_26 : decode cX5_lotHat 26 = .ok (.lrem, 1) := by decide +kernel
theorem dX5_lotHat_27 : decode cX5_lotHat 27 = .ok (.lstore_n 3, 1) := by decide +kernel
theorem dX5_lotHat_28 : decode cX5_lotHat 28 = .ok (.lload_n 3, 1) := by decide +kernel
theorem dX5_lotHat_29 : decode cX5_lotHat 29 = .ok (.ldc2_w 249, 3) := by decide +kernel
theorem dX5_lotHat_32 : decode cX5_lotHat 32 = .ok (.lrem, 1) := by decide +kernel
theorem dX5_lotHat_33 : decode cX5_lotHat 33 = .ok (.l2i, 1) := by decide +kernel
theorem dX5_lotHat_34 : decode cX5_lotHat 34 = .ok (.istore 6, 2) := by decide +kernel
theorem dX5_lotHat_36 : decode cX5_lotHat 36 = .ok (.aload_n 0, 1) := by decide +kernel
theorem dX5_lotHat_37 : decode cX5_lotHat 37 = .ok (.getfield 19, 3) := by decide +kernel
theorem dX5_lotHat_40 : decode cX5_lotHat 40 = .ok (.iconst 2, 1) := by decide +kernel
theorem dX5_lotHat_41 : decode cX5_lotHat 41 = .ok (.iload 6, 2) := by decide +kernel
theorem dX5_lotHat_43 : decode cX5_lotHat 43 = .ok (.imul, 1) := by decide +kernel
theorem dX5_lotHat_44 : decode cX5_lotHat 44 = .ok (.iconst 1, 1) := by decide +kernel
theorem dX5_lotHat_45 : decode cX5_lotHat 45 = .ok (.iadd, 1) := by decide +kernel
theorem dX5_lotHat_46 : decode cX5_lotHat 46 = .ok (.aload_n 0, 1) := by decide +kernel
theorem dX5_lotHat_47 : decode cX5_lotHat 47 = .ok (.getfield 19, 3) := by decide +kernel
theorem dX5_lotHat_50 : decode cX5_lotHat 50 = .ok (.iconst 2, 1) := by decide +kernel
theorem dX5_lotHat_51 : decode cX5_lotHat 51 = .ok (.iload 6, 2) := by decide +kernel
theorem dX5_lotHat_53 : decode cX5_lotHat 53 = .ok (.imul, 1) := by decide +kernel
theorem dX5_lotHat_54 : decode cX5_lotHat 54 = .ok (.iconst 1, 1) := by decide +kernel
theorem dX5_lotHat_55 : decode cX5_lotHat 55 = .ok (.iadd, 1) := by decide +kernel
theorem dX5_lotHat_56 : decode cX5_lotHat 56 = .ok (.iaload, 1) := by decide +kernel
theorem dX5_lotHat_57 : decode cX5_lotHat 57 = .ok (.iconst 1, 1) := by decide +kernel
theorem dX5_lotHat_58 : decode cX5_lotHat 58 = .ok (.iadd, 1) := by decide +kernel
theorem dX5_lotHat_59 : decode cX5_lotHat 59 = .ok (.iconst 0, 1) := by decide +kernel
theorem dX5_lotHat_60 : decode cX5_lotHat 60 = .ok (.bipush 20, 2) := by decide +kernel
theorem dX5_lotHat_62 : decode cX5_lotHat 62 = .ok (.invokestatic 173, 3) := by decide +kernel
theorem dX5_lotHat_65 : decode cX5_lotHat 65 = .ok (.iastore, 1) := by decide +kernel
theorem dX5_lotHat_66 : decode cX5_lotHat 66 = .ok (.iinc 5 1, 3) := by decide +kernel
theorem dX5_lotHat_69 : decode cX5_lotHat 69 = .ok (.goto (-57), 3) := by decide +kernel
theorem dX5_lotHat_72 : decode cX5_lotHat 72 = .ok (.aload_n 0, 1) := by decide +kernel
theorem dX5_lotHat_73 : decode cX5_lotHat 73 = .ok (.aload_n 0, 1) := by decide +kernel
theorem dX5_lotHat_74 : decode cX5_lotHat 74 = .ok (.bipush 120, 2) := by decide +kernel
theorem dX5_lotHat_76 : decode cX5_lotHat 76 = .ok (.invokevirtual 209, 3) := by decide +kernel
theorem dX5_lotHat_79 : decode cX5_lotHat 79 = .ok (.putfield 251, 3) := by decide +kernel
theorem dX5_lotHat_82 : decode cX5_lotHat 82 = .ok (.aload_n 0, 1) := by decide +kernel
theorem dX5_lotHat_83 : decode cX5_lotHat 83 = .ok (.iconst 1, 1) := by decide +kernel
theorem dX5_lotHat_84 : decode cX5_lotHat 84 = .ok (.invokevirtual 215, 3) := by decide +kernel
theorem dX5_lotHat_87 : decode cX5_lotHat 87 = .ok (.istore 5, 2) := by decide +kernel
theorem dX5_lotHat_89 : decode cX5_lotHat 89 = .ok (.iconst 0, 1) := by decide +kernel
theorem dX5_lotHat_90 : decode cX5_lotHat 90 = .ok (.istore 6, 2) := by decide +kernel
theorem dX5_lotHat_92 : decode cX5_lotHat 92 = .ok (.iload 5, 2) := by decide +kernel
theorem dX5_lotHat_94 : decode cX5_lotHat 94 = .ok (.iconst (-1), 1) := by decide +kernel
theorem dX5_lotHat_95 : decode cX5_lotHat 95 = .ok (.if_icmp .eq 16, 3) := by decide +kernel
theorem dX5_lotHat_98 : decode cX5_lotHat 98 = .ok (.aload_n 0, 1) := by decide +kernel
theorem dX5_lotHat_99 : decode cX5_lotHat 99 = .ok (.getfield 16, 3) := by decide +kernel
theorem dX5_lotHat_102 : decode cX5_lotHat 102 = .ok (.iconst 3, 1) := by decide +kernel
theorem dX5_lotHat_103 : decode cX5_lotHat 103 = .ok (.iload 5, 2) := by decide +kernel
theorem dX5_lotHat_105 : decode cX5_lotHat 105 = .ok (.imul, 1) := by decide +kernel
theorem dX5_lotHat_106 : decode cX5_lotHat 106 = .ok (.iconst 1, 1) := by decide +kernel
theorem dX5_lotHat_107 : decode cX5_lotHat 107 = .ok (.iadd, 1) := by decide +kernel
theorem dX5_lotHat_108 : decode cX5_lotHat 108 = .ok (.iaload, 1) := by decide +kernel
theorem dX5_lotHat_109 : decode cX5_lotHat 109 = .ok (.istore 6, 2) := by decide +kernel
theorem dX5_lotHat_111 : decode cX5_lotHat 111 = .ok (.aload_n 0, 1) := by decide +kernel
theorem dX5_lotHat_112 : decode cX5_lotHat 112 = .ok (.invokevirtual 212, 3) := by decide +kernel
theorem dX5_lotHat_115 : decode cX5_lotHat 115 = .ok (.iload 6, 2) := by decide +kernel
theorem dX5_lotHat_117 : decode cX5_lotHat 117 = .ok (.ireturn, 1) := by decide +kernel
set_option maxRecDepth 20000 in
theorem ggX5_drawn_X5_in : GoodIn wsX5_drawn wsX5_in := goodIn_r _ [6] rfl (by decide +kernel)
set_option maxRecDepth 20000 in
theorem gX5_drawn_X5_in : GoodIn wsX5_drawn (va_wsS RX5 84 yX5_in wsX5_in) := goodIn_app (goodIn_of _ (by decide +kernel)) ggX5_drawn_X5_in
set_option maxRecDepth 20000 in
theorem ggX5_drawn_X5_lotHat : GoodIn wsX5_drawn wsX5_lotHat := goodIn_r _ [10, 11, 12, 13, 14, 2, 15, 16, 17, 18, 5, 19, 20, 21, 22, 23, 24, 25, 26, 27, 28, 29, 30, 31, 32, 33, 34, 35, 36, 37, 38, 39, 40, 41, 42, 43, 44, 45, 46, 47, 48, 49, 50, 51, 52, 53, 54, 55, 56, 57, 58, 59, 60, 61, 62, 63, 64, 65, 66, 67, 68, 69, 70, 71, 72, 73, 74, 75, 76, 77, 78, 79, 80, 81, 82, 83, 84, 85, 86, 87, 88, 89, 90, 91, 92, 93, 94, 95, 96, 97, 98, 99, 100, 101, 102, 103, 104, 105, 106, 107, 108, 109, 110, 111, 112, 113, 114, 115, 116, 117, 118, 119, 120, 121, 122, 123, 124, 125, 126] rfl (by decide +kernel)
set_option maxRecDepth 20000 in
theorem gX5_drawn_X5_lotHat : GoodIn wsX5_drawn (wsV RX5 255 RX5 yX5_lotHat wsX5_lotHat) := goodIn_app (goodIn_of _ (by decide +kernel)) ggX5_drawn_X5_lotHat
theorem dX5_drawn_0 : decode cX5_drawn 0 = .ok (.iload_n 1, 1) := by decide +kernel
theorem dX5_drawn_1 : decode cX5_drawn 1 = .ok (.iconst 0, 1) := by decide +kernel
theorem dX5_drawn_2 : decode cX5_drawn 2 = .ok (.ldc 254, 2) := by decide +kernel
theorem dX5_drawn_4 : decode cX5_drawn 4 = .ok (.invokestatic 84, 3) := by decide +kernel
theorem dX5_drawn_7 : decode cX5_drawn 7 = .ok (.ifCond .eq 22, 3) := by decide +kernel
theorem dX5_drawn_10 : decode cX5_drawn 10 = .ok (.iload_n 2, 1) := by decide +kernel
theorem dX5_drawn_11 : decode cX5_drawn 11 = .ok (.iconst 0, 1) := by decide +kernel
theorem dX5_drawn_12 : decode cX5_drawn 12 = .ok (.bipush 30, 2) := by decide +kernel
theorem dX5_drawn_14 : decode cX5_drawn 14 = .ok (.invokestatic 84, 3) := by decide +kernel
theorem dX5_drawn_17 : decode cX5_drawn 17 = .ok (.ifCond .eq 12, 3) := by decide +kernel
theorem dX5_drawn_20 : decode cX5_drawn 20 = .ok (.iload_n 3, 1) := by decide +kernel
theorem dX5_drawn_21 : decode cX5_drawn 21 = .ok (.iconst 0, 1) := by decide +kernel
theorem dX5_drawn_22 : decode cX5_drawn 22 = .ok (.iconst 1, 1) := by decide +kernel
theorem dX5_drawn_23 : decode cX5_drawn 23 = .ok (.invokestatic 84, 3) := by decide +kernel
theorem dX5_drawn_26 : decode cX5_drawn 26 = .ok (.ifCond .ne 6, 3) := by decide +kernel
theorem dX5_drawn_29 : decode cX5_drawn 29 = .ok (.bipush (-2), 2) := by decide +kernel
theorem dX5_drawn_31 : decode cX5_drawn 31 = .ok (.ireturn, 1) := by decide +kernel
theorem dX5_drawn_32 : decode cX5_drawn 32 = .ok (.aload_n 0, 1) := by decide +kernel
theorem dX5_drawn_33 : decode cX5_drawn 33 = .ok (.iload_n 1, 1) := by decide +kernel
theorem dX5_drawn_34 : decode cX5_drawn 34 = .ok (.iload_n 2, 1) := by decide +kernel
theorem dX5_drawn_35 : decode cX5_drawn 35 = .ok (.invokevirtual 255, 3) := by decide +kernel
theorem dX5_drawn_38 : decode cX5_drawn 38 = .ok (.istore 4, 2) := by decide +kernel
theorem dX5_drawn_40 : decode cX5_drawn 40 = .ok (.iload_n 3, 1) := by decide +kernel
theorem dX5_drawn_41 : decode cX5_drawn 41 = .ok (.ifCond .ne 8, 3) := by decide +kernel
theorem dX5_drawn_44 : decode cX5_drawn 44 = .ok (.iload 4, 2) := by decide +kernel
theorem dX5_drawn_46 : decode cX5_drawn 46 = .ok (.goto 7, 3) := by decide +kernel
theorem dX5_drawn_49 : decode cX5_drawn 49 = .ok (.aload_n 0, 1) := by decide +kernel
theorem dX5_drawn_50 : decode cX5_drawn 50 = .ok (.getfield 251, 3) := by decide +kernel
theorem dX5_drawn_53 : decode cX5_drawn 53 = .ok (.ireturn, 1) := by decide +kernel
