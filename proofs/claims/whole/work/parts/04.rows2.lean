set_option maxRecDepth 20000 in
theorem ggX4_coin_X4_isSort : GoodIn wsX4_coin wsX4_isSort := goodIn_r _ [10] rfl (by decide +kernel)
set_option maxRecDepth 20000 in
theorem gX4_coin_X4_isSort : GoodIn wsX4_coin (va_wsS RX4 76 yX4_isSort wsX4_isSort) := goodIn_app (goodIn_of _ (by decide +kernel)) ggX4_coin_X4_isSort
set_option maxRecDepth 20000 in
theorem ggX4_coin_X0_sounds : GoodIn wsX4_coin wsX0_sounds := goodIn_r _ [15, 16, 17, 18, 19, 20, 14, 21, 22, 23, 24, 25, 26, 27, 28, 29, 30, 31, 32, 33, 34, 35, 36, 37, 38, 39, 40, 41, 42, 43, 44, 45, 46, 47, 61, 62, 63, 64, 65, 66, 67, 68, 69, 70, 71, 72, 73, 74, 75, 76, 77, 78] rfl (by decide +kernel)
set_option maxRecDepth 20000 in
theorem gX4_coin_X0_sounds : GoodIn wsX4_coin (wsV RX4 145 RX0 yX0_sounds wsX0_sounds) := goodIn_app (goodIn_of _ (by decide +kernel)) ggX4_coin_X0_sounds
set_option maxRecDepth 20000 in
theorem ggX4_coin_X0_costs : GoodIn wsX4_coin wsX0_costs := goodIn_r _ [51, 16, 17, 18, 19, 20, 14, 21, 22, 23, 24, 25, 26, 27, 28, 29, 30, 31, 32, 33, 34, 35, 36, 37, 38, 39, 40, 41, 42, 43, 44, 45, 46, 47, 61, 62, 63, 64, 65, 66, 67, 68, 69, 70, 71, 72, 73, 74, 75, 76, 77, 78] rfl (by decide +kernel)
set_option maxRecDepth 20000 in
theorem gX4_coin_X0_costs : GoodIn wsX4_coin (wsV RX4 148 RX0 yX0_costs wsX0_costs) := goodIn_app (goodIn_of _ (by decide +kernel)) ggX4_coin_X0_costs
theorem dX4_coin_0 : decode cX4_coin 0 = .ok (.aload_n 0, 1) := by decide +kernel
theorem dX4_coin_1 : decode cX4_coin 1 = .ok (.iload_n 1, 1) := by decide +kernel
theorem dX4_coin_2 : decode cX4_coin 2 = .ok (.invokevirtual 112, 3) := by decide +kernel
theorem dX4_coin_5 : decode cX4_coin 5 = .ok (.ifCond .ne 6, 3) := by decide +kernel
theorem dX4_coin_8 : decode cX4_coin 8 = .ok (.bipush (-5), 2) := by decide +kernel
theorem dX4_coin_10 : decode cX4_coin 10 = .ok (.ireturn, 1) := by decide +kernel
theorem dX4_coin_11 : decode cX4_coin 11 = .ok (.iload_n 2, 1) := by decide +kernel
theorem dX4_coin_12 : decode cX4_coin 12 = .ok (.invokestatic 76, 3) := by decide +kernel
theorem dX4_coin_15 : decode cX4_coin 15 = .ok (.ifCond .ne 6, 3) := by decide +kernel
theorem dX4_coin_18 : decode cX4_coin 18 = .ok (.bipush (-6), 2) := by decide +kernel
theorem dX4_coin_20 : decode cX4_coin 20 = .ok (.ireturn, 1) := by decide +kernel
theorem dX4_coin_21 : decode cX4_coin 21 = .ok (.iload_n 3, 1) := by decide +kernel
theorem dX4_coin_22 : decode cX4_coin 22 = .ok (.ifCond .lt 8, 3) := by decide +kernel
theorem dX4_coin_25 : decode cX4_coin 25 = .ok (.iload_n 3, 1) := by decide +kernel
theorem dX4_coin_26 : decode cX4_coin 26 = .ok (.iconst 1, 1) := by decide +kernel
theorem dX4_coin_27 : decode cX4_coin 27 = .ok (.if_icmp .le 6, 3) := by decide +kernel
theorem dX4_coin_30 : decode cX4_coin 30 = .ok (.bipush (-7), 2) := by decide +kernel
theorem dX4_coin_32 : decode cX4_coin 32 = .ok (.ireturn, 1) := by decide +kernel
theorem dX4_coin_33 : decode cX4_coin 33 = .ok (.iload_n 3, 1) := by decide +kernel
theorem dX4_coin_34 : decode cX4_coin 34 = .ok (.ifCond .ne 15, 3) := by decide +kernel
theorem dX4_coin_37 : decode cX4_coin 37 = .ok (.aload_n 0, 1) := by decide +kernel
theorem dX4_coin_38 : decode cX4_coin 38 = .ok (.getfield 28, 3) := by decide +kernel
theorem dX4_coin_41 : decode cX4_coin 41 = .ok (.iload_n 1, 1) := by decide +kernel
theorem dX4_coin_42 : decode cX4_coin 42 = .ok (.iload_n 2, 1) := by decide +kernel
theorem dX4_coin_43 : decode cX4_coin 43 = .ok (.invokevirtual 145, 3) := by decide +kernel
theorem dX4_coin_46 : decode cX4_coin 46 = .ok (.goto 16, 3) := by decide +kernel
theorem dX4_coin_49 : decode cX4_coin 49 = .ok (.sipush 1000, 3) := by decide +kernel
theorem dX4_coin_52 : decode cX4_coin 52 = .ok (.aload_n 0, 1) := by decide +kernel
theorem dX4_coin_53 : decode cX4_coin 53 = .ok (.getfield 28, 3) := by decide +kernel
theorem dX4_coin_56 : decode cX4_coin 56 = .ok (.iload_n 1, 1) := by decide +kernel
theorem dX4_coin_57 : decode cX4_coin 57 = .ok (.iload_n 2, 1) := by decide +kernel
theorem dX4_coin_58 : decode cX4_coin 58 = .ok (.invokevirtual 148, 3) := by decide +kernel
theorem dX4_coin_61 : decode cX4_coin 61 = .ok (.iadd, 1) := by decide +kernel
theorem dX4_coin_62 : decode cX4_coin 62 = .ok (.ireturn, 1) := by decide +kernel
set_option maxRecDepth 20000 in
theorem ggX4_pass_X0_goOn : GoodIn wsX4_pass wsX0_goOn := goodIn_r _ [8, 9, 10, 11, 12, 13, 7, 14, 15, 16, 17, 18, 19, 20, 21, 22, 23, 24, 25, 26, 27, 28, 29, 30, 31, 32, 33, 34, 35, 36, 37, 38, 39, 40, 41, 42, 43, 44, 45, 46, 47, 48, 49, 50, 51, 52, 53, 54, 55, 56, 57, 58, 59, 60, 61, 62, 63, 64, 65, 66, 67, 68, 78, 79, 80, 81, 82, 83, 84, 85, 86, 87, 88, 89, 90, 91, 92, 93, 94, 95] rfl (by decide +kernel)
set_option maxRecDepth 20000 in
theorem gX4_pass_X0_goOn : GoodIn wsX4_pass (wsV RX4 151 RX0 yX0_goOn wsX0_goOn) := goodIn_app (goodIn_of _ (by decide +kernel)) ggX4_pass_X0_goOn
theorem dX4_pass_0 : decode cX4_pass 0 = .ok (.aload_n 0, 1) := by decide +kernel
theorem dX4_pass_1 : decode cX4_pass 1 = .ok (.getfield 28, 3) := by decide +kernel
theorem dX4_pass_4 : decode cX4_pass 4 = .ok (.getfield 56, 3) := by decide +kernel
theorem dX4_pass_7 : decode cX4_pass 7 = .ok (.ifCond .eq 13, 3) := by decide +kernel
theorem dX4_pass_10 : decode cX4_pass 10 = .ok (.aload_n 0, 1) := by decide +kernel
theorem dX4_pass_11 : decode cX4_pass 11 = .ok (.getfield 28, 3) := by decide +kernel
theorem dX4_pass_14 : decode cX4_pass 14 = .ok (.getfield 60, 3) := by decide +kernel
theorem dX4_pass_17 : decode cX4_pass 17 = .ok (.ifCond .ne 6, 3) := by decide +kernel
theorem dX4_pass_20 : decode cX4_pass 20 = .ok (.bipush (-3), 2) := by decide +kernel
theorem dX4_pass_22 : decode cX4_pass 22 = .ok (.ireturn, 1) := by decide +kernel
theorem dX4_pass_23 : decode cX4_pass 23 = .ok (.aload_n 0, 1) := by decide +kernel
theorem dX4_pass_24 : decode cX4_pass 24 = .ok (.getfield 28, 3) := by decide +kernel
theorem dX4_pass_27 : decode cX4_pass 27 = .ok (.invokevirtual 151, 3) := by decide +kernel
theorem dX4_pass_30 : decode cX4_pass 30 = .ok (.ireturn, 1) := by decide +kernel
set_option maxRecDepth 20000 in
theorem ggX4_hand_X4_isThere : GoodIn wsX4_hand wsX4_isThere := goodIn_r _ [7, 1, 8, 9, 10, 11, 12, 13, 14, 15, 16, 17, 18, 19, 20, 21, 22, 23, 24, 25, 26, 27, 28, 29, 30, 31] rfl (by decide +kernel)
set_option maxRecDepth 20000 in
theorem gX4_hand_X4_isThere : GoodIn wsX4_hand (wsV RX4 112 RX4 yX4_isThere wsX4_isThere) := goodIn_app (goodIn_of _ (by decide +kernel)) ggX4_hand_X4_isThere
theorem dX4_hand_0 : decode cX4_hand 0 = .ok (.aload_n 0, 1) := by decide +kernel
theorem dX4_hand_1 : decode cX4_hand 1 = .ok (.iload_n 1, 1) := by decide +kernel
theorem dX4_hand_2 : decode cX4_hand 2 = .ok (.invokevirtual 112, 3) := by decide +kernel
theorem dX4_hand_5 : decode cX4_hand 5 = .ok (.ifCond .ne 6, 3) := by decide +kernel
theorem dX4_hand_8 : decode cX4_hand 8 = .ok (.bipush (-5), 2) := by decide +kernel
theorem dX4_hand_10 : decode cX4_hand 10 = .ok (.ireturn, 1) := by decide +kernel
theorem dX4_hand_11 : decode cX4_hand 11 = .ok (.aload_n 0, 1) := by decide +kernel
theorem dX4_hand_12 : decode cX4_hand 12 = .ok (.getfield 28, 3) := by decide +kernel
theorem dX4_hand_15 : decode cX4_hand 15 = .ok (.getfield 73, 3) := by decide +kernel
theorem dX4_hand_18 : decode cX4_hand 18 = .ok (.istore_n 2, 1) := by decide +kernel
theorem dX4_hand_19 : decode cX4_hand 19 = .ok (.aload_n 0, 1) := by decide +kernel
theorem dX4_hand_20 : decode cX4_hand 20 = .ok (.getfield 28, 3) := by decide +kernel
theorem dX4_hand_23 : decode cX4_hand 23 = .ok (.iload_n 1, 1) := by decide +kernel
theorem dX4_hand_24 : decode cX4_hand 24 = .ok (.putfield 73, 3) := by decide +kernel
theorem dX4_hand_27 : decode cX4_hand 27 = .ok (.iload_n 2, 1) := by decide +kernel
theorem dX4_hand_28 : decode cX4_hand 28 = .ok (.ireturn, 1) := by decide +kernel
set_option maxRecDepth 20000 in
theorem ggX4_run_X4_isAskedOfRun : GoodIn wsX4_run wsX4_isAskedOfRun := goodIn_r _ [12, 13, 14, 15, 11, 16, 2, 17, 99, 100, 101, 102, 103, 104, 105, 106, 107, 108, 109, 110, 111, 112, 113, 114, 115, 116, 117, 118, 119, 120, 121] rfl (by decide +kernel)
set_option maxRecDepth 20000 in
theorem gX4_run_X4_isAskedOfRun : GoodIn wsX4_run (wsV RX4 154 RX4 yX4_isAskedOfRun wsX4_isAskedOfRun) := goodIn_app (goodIn_of _ (by decide +kernel)) ggX4_run_X4_isAskedOfRun
set_option maxRecDepth 20000 in
theorem ggX4_run_X0_become : GoodIn wsX4_run wsX0_become := goodIn_r _ [22, 23, 24, 25, 26, 27, 28, 29, 30, 31, 32, 33, 34, 35, 36, 37, 38, 108, 109, 110, 111, 112, 113, 114, 115, 116, 117, 118, 119, 120, 121] rfl (by decide +kernel)
set_option maxRecDepth 20000 in
theorem gX4_run_X0_become : GoodIn wsX4_run (wsV RX4 157 RX0 yX0_become wsX0_become) := goodIn_app (goodIn_of _ (by decide +kernel)) ggX4_run_X0_become
set_option maxRecDepth 20000 in
theorem ggX4_run_X0_goWhileCoins : GoodIn wsX4_run wsX0_goWhileCoins := goodIn_r _ [42, 34, 35, 36, 43, 44, 45, 21, 46, 47, 48, 49, 50, 28, 32, 23, 51, 52, 53, 54, 33, 55, 56, 57, 31, 37, 58, 59, 60, 61, 29, 30, 62, 63, 64, 65, 66, 67, 38, 68, 69, 70, 71, 72, 73, 74, 75, 76, 77, 78, 79, 80, 81, 82, 83, 84, 85, 86, 87, 88, 89, 90, 91, 92, 93, 94, 108, 109, 110, 111, 112, 113, 114, 115, 116, 117, 118, 119, 120, 121, 122, 123, 124, 125] rfl (by decide +kernel)
set_option maxRecDepth 20000 in
theorem gX4_run_X0_goWhileCoins : GoodIn wsX4_run (wsV RX4 161 RX0 yX0_goWhileCoins wsX0_goWhileCoins) := goodIn_app (goodIn_of _ (by decide +kernel)) ggX4_run_X0_goWhileCoins
set_option maxRecDepth 20000 in
theorem ggX4_run_X0_worthOfAll : GoodIn wsX4_run wsX0_worthOfAll := goodIn_r _ [98, 23, 28, 108, 109, 110, 111, 112, 113, 114, 115, 116, 117, 118, 119, 120, 121] rfl (by decide +kernel)
set_option maxRecDepth 20000 in
theorem gX4_run_X0_worthOfAll : GoodIn wsX4_run (wsV RX4 90 RX0 yX0_worthOfAll wsX0_worthOfAll) := goodIn_app (goodIn_of _ (by decide +kernel)) ggX4_run_X0_worthOfAll
theorem dX4_run_0 : decode cX4_run 0 = .ok (.iload_n 1, 1) := by decide +kernel
theorem dX4_run_1 : decode cX4_run 1 = .ok (.ifCond .lt 17, 3) := by decide +kernel
theorem dX4_run_4 : decode cX4_run 4 = .ok (.iload_n 1, 1) := by decide +kernel
theorem dX4_run_5 : decode cX4_run 5 = .ok (.bipush 120, 2) := by decide +kernel
theorem dX4_run_7 : decode cX4_run 7 = .ok (.if_icmp .gt 11, 3) := by decide +kernel
theorem dX4_run_10 : decode cX4_run 10 = .ok (.aload_n 0, 1) := by decide +kernel
theorem dX4_run_11 : decode cX4_run 11 = .ok (.iload_n 2, 1) := by decide +kernel
theorem dX4_run_12 : decode cX4_run 12 = .ok (.invokevirtual 154, 3) := by decide +kernel
theorem dX4_run_15 : decode cX4_run 15 = .ok (.ifCond .ne 6, 3) := by decide +kernel
theorem dX4_run_18 : decode cX4_run 18 = .ok (.bipush (-2), 2) := by decide +kernel
theorem dX4_run_20 : decode cX4_run 20 = .ok (.ireturn, 1) := by decide +kernel
theorem dX4_run_21 : decode cX4_run 21 = .ok (.aload_n 0, 1) := by decide +kernel
theorem dX4_run_22 : decode cX4_run 22 = .ok (.getfield 32, 3) := by decide +kernel
theorem dX4_run_25 : decode cX4_run 25 = .ok (.aload_n 0, 1) := by decide +kernel
theorem dX4_run_26 : decode cX4_run 26 = .ok (.getfield 28, 3) := by decide +kernel
theorem dX4_run_29 : decode cX4_run 29 = .ok (.invokevirtual 157, 3) := by decide +kernel
theorem dX4_run_32 : decode cX4_run 32 = .ok (.aload_n 0, 1) := by decide +kernel
theorem dX4_run_33 : decode cX4_run 33 = .ok (.getfield 32, 3) := by decide +kernel
theorem dX4_run_36 : decode cX4_run 36 = .ok (.iload_n 1, 1) := by decide +kernel
theorem dX4_run_37 : decode cX4_run 37 = .ok (.invokevirtual 161, 3) := by decide +kernel
theorem dX4_run_40 : decode cX4_run 40 = .ok (.pop, 1) := by decide +kernel
theorem dX4_run_41 : decode cX4_run 41 = .ok (.iload_n 2, 1) := by decide +kernel
theorem dX4_run_42 : decode cX4_run 42 = .ok (.tableswitch 50 0 2 #[26, 34, 42], 26) := by decide +kernel
theorem dX4_run_68 : decode cX4_run 68 = .ok (.aload_n 0, 1) := by decide +kernel
theorem dX4_run_69 : decode cX4_run 69 = .ok (.getfield 32, 3) := by decide +kernel
theorem dX4_run_72 : decode cX4_run 72 = .ok (.getfield 60, 3) := by decide +kernel
theorem dX4_run_75 : decode cX4_run 75 = .ok (.ireturn, 1) := by decide +kernel
theorem dX4_run_76 : decode cX4_run 76 = .ok (.aload_n 0, 1) := by decide +kernel
theorem dX4_run_77 : decode cX4_run 77 = .ok (.getfield 32, 3) := by decide +kernel
theorem dX4_run_80 : decode cX4_run 80 = .ok (.invokevirtual 90, 3) := by decide +kernel
theorem dX4_run_83 : decode cX4_run 83 = .ok (.ireturn, 1) := by decide +kernel
theorem dX4_run_84 : decode cX4_run 84 = .ok (.aload_n 0, 1) := by decide +kernel
theorem dX4_run_85 : decode cX4_run 85 = .ok (.getfield 32, 3) := by decide +kernel
theorem dX4_run_88 : decode cX4_run 88 = .ok (.getfield 73, 3) := by decide +kernel
theorem dX4_run_91 : decode cX4_run 91 = .ok (.ireturn, 1) := by decide +kernel
theorem dX4_run_92 : decode cX4_run 92 = .ok (.iload_n 2, 1) := by decide +kernel
theorem dX4_run_93 : decode cX4_run 93 = .ok (.bipush 10, 2) := by decide +kernel
theorem dX4_run_95 : decode cX4_run 95 = .ok (.irem, 1) := by decide +kernel
theorem dX4_run_96 : decode cX4_run 96 = .ok (.istore_n 3, 1) := by decide +kernel
theorem dX4_run_97 : decode cX4_run 97 = .ok (.iload_n 2, 1) := by decide +kernel
theorem dX4_run_98 : decode cX4_run 98 = .ok (.bipush 10, 2) := by decide +kernel
theorem dX4_run_100 : decode cX4_run 100 = .ok (.idiv, 1) := by decide +kernel
theorem dX4_run_101 : decode cX4_run 101 = .ok (.lookupswitch 47 #[(1, 27), (2, 37)], 27) := by decide +kernel
theorem dX4_run_128 : decode cX4_run 128 = .ok (.aload_n 0, 1) := by decide +kernel
theorem dX4_run_129 : decode cX4_run 129 = .ok (.getfield 32, 3) := by decide +kernel
theorem dX4_run_132 : decode cX4_run 132 = .ok (.getfield 126, 3) := by decide +kernel
theorem dX4_run_135 : decode cX4_run 135 = .ok (.iload_n 3, 1) := by decide +kernel
theorem dX4_run_136 : decode cX4_run 136 = .ok (.iaload, 1) := by decide +kernel
theorem dX4_run_137 : decode cX4_run 137 = .ok (.ireturn, 1) := by decide +kernel
theorem dX4_run_138 : decode cX4_run 138 = .ok (.aload_n 0, 1) := by decide +kernel
theorem dX4_run_139 : decode cX4_run 139 = .ok (.getfield 32, 3) := by decide +kernel
theorem dX4_run_142 : decode cX4_run 142 = .ok (.getfield 123, 3) := by decide +kernel
theorem dX4_run_145 : decode cX4_run 145 = .ok (.iload_n 3, 1) := by decide +kernel
theorem dX4_run_146 : decode cX4_run 146 = .ok (.iaload, 1) := by decide +kernel
theorem dX4_run_147 : decode cX4_run 147 = .ok (.ireturn, 1) := by decide +kernel
theorem dX4_run_148 : decode cX4_run 148 = .ok (.aload_n 0, 1) := by decide +kernel
theorem dX4_run_149 : decode cX4_run 149 = .ok (.getfield 32, 3) := by decide +kernel
theorem dX4_run_152 : decode cX4_run 152 = .ok (.getfield 129, 3) := by decide +kernel
theorem dX4_run_155 : decode cX4_run 155 = .ok (.iload_n 3, 1) := by decide +kernel
theorem dX4_run_156 : decode cX4_run 156 = .ok (.iaload, 1) := by decide +kernel
theorem dX4_run_157 : decode cX4_run 157 = .ok (.ireturn, 1) := by decide +kernel
set_option maxRecDepth 20000 in
theorem ggX4_isAskedOfRun_X4_isThere : GoodIn wsX4_isAskedOfRun wsX4_isThere := goodIn_r _ [5, 6, 7, 8, 9, 10, 11, 12, 13, 14, 15, 16, 17, 18, 19, 20, 21, 22, 23, 24, 25, 26, 27, 28, 29, 30] rfl (by decide +kernel)
set_option maxRecDepth 20000 in
theorem gX4_isAskedOfRun_X4_isThere : GoodIn wsX4_isAskedOfRun (wsV RX4 112 RX4 yX4_isThere wsX4_isThere) := goodIn_app (goodIn_of _ (by decide +kernel)) ggX4_isAskedOfRun_X4_isThere
theorem dX4_isAskedOfRun_0 : decode cX4_isAskedOfRun 0 = .ok (.iload_n 1, 1) := by decide +kernel
theorem dX4_isAskedOfRun_1 : decode cX4_isAskedOfRun 1 = .ok (.ifCond .lt 8, 3) := by decide +kernel
theorem dX4_isAskedOfRun_4 : decode cX4_isAskedOfRun 4 = .ok (.iload_n 1, 1) := by decide +kernel
theorem dX4_isAskedOfRun_5 : decode cX4_isAskedOfRun 5 = .ok (.iconst 2, 1) := by decide +kernel
theorem dX4_isAskedOfRun_6 : decode cX4_isAskedOfRun 6 = .ok (.if_icmp .le 26, 3) := by decide +kernel
theorem dX4_isAskedOfRun_9 : decode cX4_isAskedOfRun 9 = .ok (.iload_n 1, 1) := by decide +kernel
theorem dX4_isAskedOfRun_10 : decode cX4_isAskedOfRun 10 = .ok (.bipush 10, 2) := by decide +kernel
theorem dX4_isAskedOfRun_12 : decode cX4_isAskedOfRun 12 = .ok (.if_icmp .lt 24, 3) := by decide +kernel
theorem dX4_isAskedOfRun_15 : decode cX4_isAskedOfRun 15 = .ok (.iload_n 1, 1) := by decide +kernel
theorem dX4_isAskedOfRun_16 : decode cX4_isAskedOfRun 16 = .ok (.bipush 40, 2) := by decide +kernel
theorem dX4_isAskedOfRun_18 : decode cX4_isAskedOfRun 18 = .ok (.if_icmp .ge 18, 3) := by decide +kernel
theorem dX4_isAskedOfRun_21 : decode cX4_isAskedOfRun 21 = .ok (.aload_n 0, 1) := by decide +kernel
theorem dX4_isAskedOfRun_22 : decode cX4_isAskedOfRun 22 = .ok (.iload_n 1, 1) := by decide +kernel
theorem dX4_isAskedOfRun_23 : decode cX4_isAskedOfRun 23 = .ok (.bipush 10, 2) := by decide +kernel
theorem dX4_isAskedOfRun_25 : decode cX4_isAskedOfRun 25 = .ok (.irem, 1) := by decide +kernel
theorem dX4_isAskedOfRun_26 : decode cX4_isAskedOfRun 26 = .ok (.invokevirtual 112, 3) := by decide +kernel
theorem dX4_isAskedOfRun_29 : decode cX4_isAskedOfRun 29 = .ok (.ifCond .eq 7, 3) := by decide +kernel
theorem dX4_isAskedOfRun_32 : decode cX4_isAskedOfRun 32 = .ok (.iconst 1, 1) := by decide +kernel
theorem dX4_isAskedOfRun_33 : decode cX4_isAskedOfRun 33 = .ok (.goto 4, 3) := by decide +kernel
theorem dX4_isAskedOfRun_36 : decode cX4_isAskedOfRun 36 = .ok (.iconst 0, 1) := by decide +kernel
theorem dX4_isAskedOfRun_37 : decode cX4_isAskedOfRun 37 = .ok (.ireturn, 1) := by decide +kernel
set_option maxRecDepth 20000 in
theorem ggX4_end_X0_become : GoodIn wsX4_end wsX0_become := goodIn_r _ [10, 11, 12, 13, 14, 15, 16, 17, 18, 19, 20, 21, 22, 23, 24, 25, 26, 96, 97, 98, 99, 100, 101, 102, 103, 104, 105, 106, 107, 108, 109] rfl (by decide +kernel)
set_option maxRecDepth 20000 in
theorem gX4_end_X0_become : GoodIn wsX4_end (wsV RX4 157 RX0 yX0_become wsX0_become) := goodIn_app (goodIn_of _ (by decide +kernel)) ggX4_end_X0_become
set_option maxRecDepth 20000 in
theorem ggX4_end_X0_goWhileCoins : GoodIn wsX4_end wsX0_goWhileCoins := goodIn_r _ [30, 22, 23, 24, 31, 32, 33, 9, 34, 35, 36, 37, 38, 16, 20, 11, 39, 40, 41, 42, 21, 43, 44, 45, 19, 25, 46, 47, 48, 49, 17, 18, 50, 51, 52, 53, 54, 55, 26, 56, 57, 58, 59, 60, 61, 62, 63, 64, 65, 66, 67, 68, 69, 70, 71, 72, 73, 74, 75, 76, 77, 78, 79, 80, 81, 82, 96, 97, 98, 99, 100, 101, 102, 103, 104, 105, 106, 107, 108, 109, 110, 111, 112, 113] rfl (by decide +kernel)
set_option maxRecDepth 20000 in
theorem gX4_end_X0_goWhileCoins : GoodIn wsX4_end (wsV RX4 161 RX0 yX0_goWhileCoins wsX0_goWhileCoins) := goodIn_app (goodIn_of _ (by decide +kernel)) ggX4_end_X0_goWhileCoins
set_option maxRecDepth 20000 in
theorem ggX4_end_X4_firstMost : GoodIn wsX4_end wsX4_firstMost := goodIn_r _ [86] rfl (by decide +kernel)
set_option maxRecDepth 20000 in
theorem gX4_end_X4_firstMost : GoodIn wsX4_end (va_wsS RX4 164 yX4_firstMost wsX4_firstMost) := goodIn_app (goodIn_of _ (by decide +kernel)) ggX4_end_X4_firstMost
theorem dX4_end_0 : decode cX4_end 0 = .ok (.iload_n 1, 1) := by decide +kernel
theorem dX4_end_1 : decode cX4_end 1 = .ok (.ifCond .lt 8, 3) := by decide +kernel
theorem dX4_end_4 : decode cX4_end 4 = .ok (.iload_n 1, 1) := by decide +kernel
theorem dX4_end_5 : decode cX4_end 5 = .ok (.iconst 2, 1) := by decide +kernel
theorem dX4_end_6 : decode cX4_end 6 = .ok (.if_icmp .le 6, 3) := by decide +kernel
theorem dX4_end_9 : decode cX4_end 9 = .ok (.bipush (-2), 2) := by decide +kernel
theorem dX4_end_11 : decode cX4_end 11 = .ok (.ireturn, 1) := by decide +kernel
theorem dX4_end_12 : decode cX4_end 12 = .ok (.aload_n 0, 1) := by decide +kernel
theorem dX4_end_13 : decode cX4_end 13 = .ok (.getfield 32, 3) := by decide +kernel
theorem dX4_end_16 : decode cX4_end 16 = .ok (.aload_n 0, 1) := by decide +kernel
theorem dX4_end_17 : decode cX4_end 17 = .ok (.getfield 28, 3) := by decide +kernel
theorem dX4_end_20 : decode cX4_end 20 = .ok (.invokevirtual 157, 3) := by decide +kernel
theorem dX4_end_23 : decode cX4_end 23 = .ok (.aload_n 0, 1) := by decide +kernel
theorem dX4_end_24 : decode cX4_end 24 = .ok (.getfield 32, 3) := by decide +kernel
theorem dX4_end_27 : decode cX4_end 27 = .ok (.bipush 120, 2) := by decide +kernel
theorem dX4_end_29 : decode cX4_end 29 = .ok (.invokevirtual 161, 3) := by decide +kernel
theorem dX4_end_32 : decode cX4_end 32 = .ok (.istore_n 2, 1) := by decide +kernel
theorem dX4_end_33 : decode cX4_end 33 = .ok (.iload_n 1, 1) := by decide +kernel
theorem dX4_end_34 : decode cX4_end 34 = .ok (.lookupswitch 46 #[(0, 26), (1, 28)], 26) := by decide +kernel
theorem dX4_end_60 : decode cX4_end 60 = .ok (.iload_n 2, 1) := by decide +kernel
theorem dX4_end_61 : decode cX4_end 61 = .ok (.ireturn, 1) := by decide +kernel
theorem dX4_end_62 : decode cX4_end 62 = .ok (.aload_n 0, 1) := by decide +kernel
theorem dX4_end_63 : decode cX4_end 63 = .ok (.getfield 32, 3) := by decide +kernel
theorem dX4_end_66 : decode cX4_end 66 = .ok (.getfield 126, 3) := by decide +kernel
theorem dX4_end_69 : decode cX4_end 69 = .ok (.aload_n 0, 1) := by decide +kernel
theorem dX4_end_70 : decode cX4_end 70 = .ok (.getfield 32, 3) := by decide +kernel
theorem dX4_end_73 : decode cX4_end 73 = .ok (.getfield 56, 3) := by decide +kernel
theorem dX4_end_76 : decode cX4_end 76 = .ok (.invokestatic 164, 3) := by decide +kernel
theorem dX4_end_79 : decode cX4_end 79 = .ok (.ireturn, 1) := by decide +kernel
theorem dX4_end_80 : decode cX4_end 80 = .ok (.aload_n 0, 1) := by decide +kernel
theorem dX4_end_81 : decode cX4_end 81 = .ok (.getfield 32, 3) := by decide +kernel
theorem dX4_end_84 : decode cX4_end 84 = .ok (.getfield 129, 3) := by decide +kernel
theorem dX4_end_87 : decode cX4_end 87 = .ok (.aload_n 0, 1) := by decide +kernel
theorem dX4_end_88 : decode cX4_end 88 = .ok (.getfield 32, 3) := by decide +kernel
theorem dX4_end_91 : decode cX4_end 91 = .ok (.getfield 56, 3) := by decide +kernel
theorem dX4_end_94 : decode cX4_end 94 = .ok (.invokestatic 164, 3) := by decide +kernel
theorem dX4_end_97 : decode cX4_end 97 = .ok (.ireturn, 1) := by decide +kernel
theorem dX4_firstMost_0 : decode cX4_firstMost 0 = .ok (.iconst (-1), 1) := by decide +kernel
theorem dX4_firstMost_1 : decode cX4_firstMost 1 = .ok (.istore_n 2, 1) := by decide +kernel
theorem dX4_firstMost_2 : decode cX4_firstMost 2 = .ok (.iconst 0, 1) := by decide +kernel
theorem dX4_firstMost_3 : decode cX4_firstMost 3 = .ok (.istore_n 3, 1) := by decide +kernel
theorem dX4_firstMost_4 : decode cX4_firstMost 4 = .ok (.iload_n 3, 1) := by decide +kernel
theorem dX4_firstMost_5 : decode cX4_firstMost 5 = .ok (.iload_n 1, 1) := by decide +kernel
theorem dX4_firstMost_6 : decode cX4_firstMost 6 = .ok (.if_icmp .ge 30, 3) := by decide +kernel
theorem dX4_firstMost_9 : decode cX4_firstMost 9 = .ok (.iload_n 3, 1) := by decide +kernel
theorem dX4_firstMost_10 : decode cX4_firstMost 10 = .ok (.aload_n 0, 1) := by decide +kernel
theorem dX4_firstMost_11 : decode cX4_firstMost 11 = .ok (.arraylength, 1) := by decide +kernel
theorem dX4_firstMost_12 : decode cX4_firstMost 12 = .ok (.if_icmp .ge 24, 3) := by decide +kernel
theorem dX4_firstMost_15 : decode cX4_firstMost 15 = .ok (.iload_n 2, 1) := by decide +kernel
theorem dX4_firstMost_16 : decode cX4_firstMost 16 = .ok (.ifCond .lt 12, 3) := by decide +kernel
theorem dX4_firstMost_19 : decode cX4_firstMost 19 = .ok (.aload_n 0, 1) := by decide +kernel
theorem dX4_firstMost_20 : decode cX4_firstMost 20 = .ok (.iload_n 3, 1) := by decide +kernel
theorem dX4_firstMost_21 : decode cX4_firstMost 21 = .ok (.iaload, 1) := by decide +kernel
theorem dX4_firstMost_22 : decode cX4_firstMost 22 = .ok (.aload_n 0, 1) := by decide +kernel
theorem dX4_firstMost_23 : decode cX4_firstMost 23 = .ok (.iload_n 2, 1) := by decide +kernel
theorem dX4_firstMost_24 : decode cX4_firstMost 24 = .ok (.iaload, 1) := by decide +kernel
theorem dX4_firstMost_25 : decode cX4_firstMost 25 = .ok (.if_icmp .le 5, 3) := by decide +kernel
theorem dX4_firstMost_28 : decode cX4_firstMost 28 = .ok (.iload_n 3, 1) := by decide +kernel
theorem dX4_firstMost_29 : decode cX4_firstMost 29 = .ok (.istore_n 2, 1) := by decide +kernel
theorem dX4_firstMost_30 : decode cX4_firstMost 30 = .ok (.iinc 3 1, 3) := by decide +kernel
theorem dX4_firstMost_33 : decode cX4_firstMost 33 = .ok (.goto (-29), 3) := by decide +kernel
theorem dX4_firstMost_36 : decode cX4_firstMost 36 = .ok (.iload_n 2, 1) := by decide +kernel
theorem dX4_firstMost_37 : decode cX4_firstMost 37 = .ok (.ireturn, 1) := by decide +kernel
set_option maxRecDepth 20000 in
theorem ggX4_first_X4_isThere : GoodIn wsX4_first wsX4_isThere := goodIn_r _ [10, 1, 2, 88, 89, 90, 91, 92, 93, 94, 95, 96, 97, 98, 99, 100, 101, 102, 103, 104, 105, 106, 107, 108, 109, 110] rfl (by decide +kernel)
set_option maxRecDepth 20000 in
theorem gX4_first_X4_isThere : GoodIn wsX4_first (wsV RX4 112 RX4 yX4_isThere wsX4_isThere) := goodIn_app (goodIn_of _ (by decide +kernel)) ggX4_first_X4_isThere
set_option maxRecDepth 20000 in
theorem ggX4_first_X0_become : GoodIn wsX4_first wsX0_become := goodIn_r _ [15, 16, 17, 18, 19, 20, 21, 22, 23, 24, 25, 26, 27, 28, 29, 30, 31, 97, 98, 99, 100, 101, 102, 103, 104, 105, 106, 107, 108, 109, 110] rfl (by decide +kernel)
set_option maxRecDepth 20000 in
theorem gX4_first_X0_become : GoodIn wsX4_first (wsV RX4 157 RX0 yX0_become wsX0_become) := goodIn_app (goodIn_of _ (by decide +kernel)) ggX4_first_X0_become
set_option maxRecDepth 20000 in
theorem ggX4_first_X0_goWhileCoins : GoodIn wsX4_first wsX0_goWhileCoins := goodIn_r _ [35, 27, 28, 29, 36, 37, 38, 14, 39, 40, 41, 42, 43, 21, 25, 16, 44, 45, 46, 47, 26, 48, 49, 50, 24, 30, 51, 52, 53, 54, 22, 23, 55, 56, 57, 58, 59, 60, 31, 61, 62, 63, 64, 65, 66, 67, 68, 69, 70, 71, 72, 73, 74, 75, 76, 77, 78, 79, 80, 81, 82, 83, 84, 85, 86, 87, 97, 98, 99, 100, 101, 102, 103, 104, 105, 106, 107, 108, 109, 110, 111, 112, 113, 114] rfl (by decide +kernel)
set_option maxRecDepth 20000 in
theorem gX4_first_X0_goWhileCoins : GoodIn wsX4_first (wsV RX4 161 RX0 yX0_goWhileCoins wsX0_goWhileCoins) := goodIn_app (goodIn_of _ (by decide +kernel)) ggX4_first_X0_goWhileCoins
theorem dX4_first_0 : decode cX4_first 0 = .ok (.aload_n 0, 1) := by decide +kernel
theorem dX4_first_1 : decode cX4_first 1 = .ok (.iload_n 1, 1) := by decide +kernel
theorem dX4_first_2 : decode cX4_first 2 = .ok (.invokevirtual 112, 3) := by decide +kernel
theorem dX4_first_5 : decode cX4_first 5 = .ok (.ifCond .ne 6, 3) := by decide +kernel
theorem dX4_first_8 : decode cX4_first 8 = .ok (.bipush (-5), 2) := by decide +kernel
theorem dX4_first_10 : decode cX4_first 10 = .ok (.ireturn, 1) := by decide +kernel
theorem dX4_first_11 : decode cX4_first 11 = .ok (.iload_n 2, 1) := by decide +kernel
theorem dX4_first_12 : decode cX4_first 12 = .ok (.ifCond .lt 8, 3) := by decide +kernel
theorem dX4_first_15 : decode cX4_first 15 = .ok (.iload_n 2, 1) := by decide +kernel
theorem dX4_first_16 : decode cX4_first 16 = .ok (.iconst 1, 1) := by decide +kernel
theorem dX4_first_17 : decode cX4_first 17 = .ok (.if_icmp .le 6, 3) := by decide +kernel
theorem dX4_first_20 : decode cX4_first 20 = .ok (.bipush (-7), 2) := by decide +kernel
theorem dX4_first_22 : decode cX4_first 22 = .ok (.ireturn, 1) := by decide +kernel
theorem dX4_first_23 : decode cX4_first 23 = .ok (.iconst (-1), 1) := by decide +kernel
theorem dX4_first_24 : decode cX4_first 24 = .ok (.istore_n 3, 1) := by decide +kernel
theorem dX4_first_25 : decode cX4_first 25 = .ok (.iconst (-1), 1) := by decide +kernel
theorem dX4_first_26 : decode cX4_first 26 = .ok (.istore 4, 2) := by decide +kernel
theorem dX4_first_28 : decode cX4_first 28 = .ok (.iconst 0, 1) := by decide +kernel
theorem dX4_first_29 : decode cX4_first 29 = .ok (.istore 5, 2) := by decide +kernel
theorem dX4_first_31 : decode cX4_first 31 = .ok (.iload 5, 2) := by decide +kernel
theorem dX4_first_33 : decode cX4_first 33 = .ok (.aload_n 0, 1) := by decide +kernel
theorem dX4_first_34 : decode cX4_first 34 = .ok (.getfield 28, 3) := by decide +kernel
theorem dX4_first_37 : decode cX4_first 37 = .ok (.getfield 56, 3) := by decide +kernel
theorem dX4_first_40 : decode cX4_first 40 = .ok (.if_icmp .ge 67, 3) := by decide +kernel
theorem dX4_first_43 : decode cX4_first 43 = .ok (.aload_n 0, 1) := by decide +kernel
theorem dX4_first_44 : decode cX4_first 44 = .ok (.getfield 32, 3) := by decide +kernel
theorem dX4_first_47 : decode cX4_first 47 = .ok (.aload_n 0, 1) := by decide +kernel
theorem dX4_first_48 : decode cX4_first 48 = .ok (.getfield 28, 3) := by decide +kernel
theorem dX4_first_51 : decode cX4_first 51 = .ok (.invokevirtual 157, 3) := by decide +kernel
theorem dX4_first_54 : decode cX4_first 54 = .ok (.aload_n 0, 1) := by decide +kernel
theorem dX4_first_55 : decode cX4_first 55 = .ok (.getfield 32, 3) := by decide +kernel
theorem dX4_first_58 : decode cX4_first 58 = .ok (.iload 5, 2) := by decide +kernel
theorem dX4_first_60 : decode cX4_first 60 = .ok (.putfield 73, 3) := by decide +kernel
theorem dX4_first_63 : decode cX4_first 63 = .ok (.aload_n 0, 1) := by decide +kernel
theorem dX4_first_64 : decode cX4_first 64 = .ok (.getfield 32, 3) := by decide +kernel
theorem dX4_first_67 : decode cX4_first 67 = .ok (.bipush 120, 2) := by decide +kernel
theorem dX4_first_69 : decode cX4_first 69 = .ok (.invokevirtual 161, 3) := by decide +kernel
theorem dX4_first_72 : decode cX4_first 72 = .ok (.pop, 1) := by decide +kernel
theorem dX4_first_73 : decode cX4_first 73 = .ok (.aload_n 0, 1) := by decide +kernel
theorem dX4_first_74 : decode cX4_first 74 = .ok (.getfield 32, 3) := by decide +kernel
theorem dX4_first_77 : decode cX4_first 77 = .ok (.getfield 126, 3) := by decide +kernel
theorem dX4_first_80 : decode cX4_first 80 = .ok (.iload_n 1, 1) := by decide +kernel
theorem dX4_first_81 : decode cX4_first 81 = .ok (.iaload, 1) := by decide +kernel
theorem dX4_first_82 : decode cX4_first 82 = .ok (.iload 4, 2) := by decide +kernel
theorem dX4_first_84 : decode cX4_first 84 = .ok (.if_icmp .le 17, 3) := by decide +kernel
theorem dX4_first_87 : decode cX4_first 87 = .ok (.iload 5, 2) := by decide +kernel
theorem dX4_first_89 : decode cX4_first 89 = .ok (.istore_n 3, 1) := by decide +kernel
theorem dX4_first_90 : decode cX4_first 90 = .ok (.aload_n 0, 1) := by decide +kernel
theorem dX4_first_91 : decode cX4_first 91 = .ok (.getfield 32, 3) := by decide +kernel
theorem dX4_first_94 : decode cX4_first 94 = .ok (.getfield 126, 3) := by decide +kernel
theorem dX4_first_97 : decode cX4_first 97 = .ok (.iload_n 1, 1) := by decide +kernel
theorem dX4_first_98 : decode cX4_first 98 = .ok (.iaload, 1) := by decide +kernel
theorem dX4_first_99 : decode cX4_first 99 = .ok (.istore 4, 2) := by decide +kernel
theorem dX4_first_101 : decode cX4_first 101 = .ok (.iinc 5 1, 3) := by decide +kernel
theorem dX4_first_104 : decode cX4_first 104 = .ok (.goto (-73), 3) := by decide +kernel
theorem dX4_first_107 : decode cX4_first 107 = .ok (.iload_n 2, 1) := by decide +kernel
theorem dX4_first_108 : decode cX4_first 108 = .ok (.ifCond .ne 7, 3) := by decide +kernel
theorem dX4_first_111 : decode cX4_first 111 = .ok (.iload_n 3, 1) := by decide +kernel
theorem dX4_first_112 : decode cX4_first 112 = .ok (.goto 5, 3) := by decide +kernel
theorem dX4_first_115 : decode cX4_first 115 = .ok (.iload 4, 2) := by decide +kernel
theorem dX4_first_117 : decode cX4_first 117 = .ok (.ireturn, 1) := by decide +kernel
set_option maxRecDepth 20000 in
theorem ggX4_vicar_X4_isThere : GoodIn wsX4_vicar wsX4_isThere := goodIn_r _ [9, 1, 10, 89, 90, 91, 92, 93, 94, 95, 96, 97, 98, 99, 100, 101, 102, 103, 104, 105, 106, 107, 108, 109, 110, 111] rfl (by decide +kernel)
set_option maxRecDepth 20000 in
theorem gX4_vicar_X4_isThere : GoodIn wsX4_vicar (wsV RX4 112 RX4 yX4_isThere wsX4_isThere) := goodIn_app (goodIn_of _ (by decide +kernel)) ggX4_vicar_X4_isThere
set_option maxRecDepth 20000 in
theorem ggX4_vicar_X0_become : GoodIn wsX4_vicar wsX0_become := goodIn_r _ [15, 16, 17, 18, 19, 20, 21, 22, 23, 24, 25, 26, 27, 28, 29, 30, 31, 98, 99, 100, 101, 102, 103, 104, 105, 106, 107, 108, 109, 110, 111] rfl (by decide +kernel)
set_option maxRecDepth 20000 in
theorem gX4_vicar_X0_become : GoodIn wsX4_vicar (wsV RX4 157 RX0 yX0_become wsX0_become) := goodIn_app (goodIn_of _ (by decide +kernel)) ggX4_vicar_X0_become
set_option maxRecDepth 20000 in
theorem ggX4_vicar_X0_setInHat : GoodIn wsX4_vicar wsX0_setInHat := goodIn_r _ [35, 28, 21, 98, 99, 100, 101, 102, 103, 104, 105, 106, 107, 108, 109, 110, 111] rfl (by decide +kernel)
set_option maxRecDepth 20000 in
theorem gX4_vicar_X0_setInHat : GoodIn wsX4_vicar (wsV RX4 86 RX0 yX0_setInHat wsX0_setInHat) := goodIn_app (goodIn_of _ (by decide +kernel)) ggX4_vicar_X0_setInHat
set_option maxRecDepth 20000 in
theorem ggX4_vicar_X0_goWhileCoins : GoodIn wsX4_vicar wsX0_goWhileCoins := goodIn_r _ [39, 27, 28, 29, 40, 41, 42, 14, 43, 44, 45, 46, 47, 21, 25, 16, 48, 49, 50, 51, 26, 52, 53, 54, 24, 30, 55, 56, 57, 58, 22, 23, 59, 60, 61, 62, 63, 64, 31, 65, 66, 67, 68, 69, 70, 71, 72, 73, 74, 75, 76, 77, 78, 79, 80, 81, 82, 83, 84, 85, 86, 87, 88, 33, 34, 35, 98, 99, 100, 101, 102, 103, 104, 105, 106, 107, 108, 109, 110, 111, 112, 113, 114, 115] rfl (by decide +kernel)
set_option maxRecDepth 20000 in
theorem gX4_vicar_X0_goWhileCoins : GoodIn wsX4_vicar (wsV RX4 161 RX0 yX0_goWhileCoins wsX0_goWhileCoins) := goodIn_app (goodIn_of _ (by decide +kernel)) ggX4_vicar_X0_goWhileCoins
theorem dX4_vicar_0 : decode cX4_vicar 0 = .ok (.aload_n 0, 1) := by decide +kernel
theorem dX4_vicar_1 : decode cX4_vicar 1 = .ok (.iload_n 1, 1) := by decide +kernel
theorem dX4_vicar_2 : decode cX4_vicar 2 = .ok (.invokevirtual 112, 3) := by decide +kernel
theorem dX4_vicar_5 : decode cX4_vicar 5 = .ok (.ifCond .ne 6, 3) := by decide +kernel
theorem dX4_vicar_8 : decode cX4_vicar 8 = .ok (.bipush (-5), 2) := by decide +kernel
theorem dX4_vicar_10 : decode cX4_vicar 10 = .ok (.ireturn, 1) := by decide +kernel
theorem dX4_vicar_11 : decode cX4_vicar 11 = .ok (.iload_n 2, 1) := by decide +kernel
theorem dX4_vicar_12 : decode cX4_vicar 12 = .ok (.ifCond .lt 8, 3) := by decide +kernel
theorem dX4_vicar_15 : decode cX4_vicar 15 = .ok (.iload_n 2, 1) := by decide +kernel
theorem dX4_vicar_16 : decode cX4_vicar 16 = .ok (.iconst 1, 1) := by decide +kernel
theorem dX4_vicar_17 : decode cX4_vicar 17 = .ok (.if_icmp .le 6, 3) := by decide +kernel
theorem dX4_vicar_20 : decode cX4_vicar 20 = .ok (.bipush (-7), 2) := by decide +kernel
theorem dX4_vicar_22 : decode cX4_vicar 22 = .ok (.ireturn, 1) := by decide +kernel
theorem dX4_vicar_23 : decode cX4_vicar 23 = .ok (.iconst 0, 1) := by decide +kernel
theorem dX4_vicar_24 : decode cX4_vicar 24 = .ok (.istore_n 3, 1) := by decide +kernel
theorem dX4_vicar_25 : decode cX4_vicar 25 = .ok (.iload_n 3, 1) := by decide +kernel
theorem dX4_vicar_26 : decode cX4_vicar 26 = .ok (.bipush 6, 2) := by decide +kernel
theorem dX4_vicar_28 : decode cX4_vicar 28 = .ok (.if_icmp .ge 82, 3) := by decide +kernel
theorem dX4_vicar_31 : decode cX4_vicar 31 = .ok (.aload_n 0, 1) := by decide +kernel
theorem dX4_vicar_32 : decode cX4_vicar 32 = .ok (.getfield 28, 3) := by decide +kernel
theorem dX4_vicar_35 : decode cX4_vicar 35 = .ok (.getfield 83, 3) := by decide +kernel
theorem dX4_vicar_38 : decode cX4_vicar 38 = .ok (.iload_n 3, 1) := by decide +kernel
theorem dX4_vicar_39 : decode cX4_vicar 39 = .ok (.iaload, 1) := by decide +kernel
theorem dX4_vicar_40 : decode cX4_vicar 40 = .ok (.bipush 20, 2) := by decide +kernel
theorem dX4_vicar_42 : decode cX4_vicar 42 = .ok (.if_icmp .ge 62, 3) := by decide +kernel
theorem dX4_vicar_45 : decode cX4_vicar 45 = .ok (.aload_n 0, 1) := by decide +kernel
theorem dX4_vicar_46 : decode cX4_vicar 46 = .ok (.getfield 32, 3) := by decide +kernel
theorem dX4_vicar_49 : decode cX4_vicar 49 = .ok (.aload_n 0, 1) := by decide +kernel
theorem dX4_vicar_50 : decode cX4_vicar 50 = .ok (.getfield 28, 3) := by decide +kernel
theorem dX4_vicar_53 : decode cX4_vicar 53 = .ok (.invokevirtual 157, 3) := by decide +kernel
theorem dX4_vicar_56 : decode cX4_vicar 56 = .ok (.aload_n 0, 1) := by decide +kernel
theorem dX4_vicar_57 : decode cX4_vicar 57 = .ok (.getfield 32, 3) := by decide +kernel
theorem dX4_vicar_60 : decode cX4_vicar 60 = .ok (.iload_n 3, 1) := by decide +kernel
theorem dX4_vicar_61 : decode cX4_vicar 61 = .ok (.aload_n 0, 1) := by decide +kernel
theorem dX4_vicar_62 : decode cX4_vicar 62 = .ok (.getfield 28, 3) := by decide +kernel
theorem dX4_vicar_65 : decode cX4_vicar 65 = .ok (.getfield 83, 3) := by decide +kernel
theorem dX4_vicar_68 : decode cX4_vicar 68 = .ok (.iload_n 3, 1) := by decide +kernel
theorem dX4_vicar_69 : decode cX4_vicar 69 = .ok (.iaload, 1) := by decide +kernel
theorem dX4_vicar_70 : decode cX4_vicar 70 = .ok (.iconst 1, 1) := by decide +kernel
theorem dX4_vicar_71 : decode cX4_vicar 71 = .ok (.iadd, 1) := by decide +kernel
theorem dX4_vicar_72 : decode cX4_vicar 72 = .ok (.invokevirtual 86, 3) := by decide +kernel
theorem dX4_vicar_75 : decode cX4_vicar 75 = .ok (.aload_n 0, 1) := by decide +kernel
theorem dX4_vicar_76 : decode cX4_vicar 76 = .ok (.getfield 32, 3) := by decide +kernel
theorem dX4_vicar_79 : decode cX4_vicar 79 = .ok (.bipush 120, 2) := by decide +kernel
theorem dX4_vicar_81 : decode cX4_vicar 81 = .ok (.invokevirtual 161, 3) := by decide +kernel
theorem dX4_vicar_84 : decode cX4_vicar 84 = .ok (.iload_n 1, 1) := by decide +kernel
theorem dX4_vicar_85 : decode cX4_vicar 85 = .ok (.if_icmp .ne 19, 3) := by decide +kernel
theorem dX4_vicar_88 : decode cX4_vicar 88 = .ok (.iload_n 2, 1) := by decide +kernel
theorem dX4_vicar_89 : decode cX4_vicar 89 = .ok (.ifCond .ne 7, 3) := by decide +kernel
theorem dX4_vicar_92 : decode cX4_vicar 92 = .ok (.iload_n 3, 1) := by decide +kernel
theorem dX4_vicar_93 : decode cX4_vicar 93 = .ok (.goto 10, 3) := by decide +kernel
theorem dX4_vicar_96 : decode cX4_vicar 96 = .ok (.aload_n 0, 1) := by decide +kernel
theorem dX4_vicar_97 : decode cX4_vicar 97 = .ok (.getfield 32, 3) := by decide +kernel
theorem dX4_vicar_100 : decode cX4_vicar 100 = .ok (.getfield 73, 3) := by decide +kernel
theorem dX4_vicar_103 : decode cX4_vicar 103 = .ok (.ireturn, 1) := by decide +kernel
theorem dX4_vicar_104 : decode cX4_vicar 104 = .ok (.iinc 3 1, 3) := by decide +kernel
theorem dX4_vicar_107 : decode cX4_vicar 107 = .ok (.goto (-82), 3) := by decide +kernel
theorem dX4_vicar_110 : decode cX4_vicar 110 = .ok (.iconst (-1), 1) := by decide +kernel
theorem dX4_vicar_111 : decode cX4_vicar 111 = .ok (.ireturn, 1) := by decide +kernel
set_option maxRecDepth 20000 in
theorem ggX4_seating_X4_differByOrder : GoodIn wsX4_seating wsX4_differByOrder := goodIn_r _ [8, 9, 1, 2, 10, 3, 11, 12, 13, 14, 15, 16, 17, 18, 19, 20, 21, 22, 23, 24, 25, 26, 27, 28, 29, 30, 31, 32, 33, 34, 35, 36, 37, 38, 39, 40, 41, 42, 43, 44, 45, 46, 47, 48, 49, 50, 51, 52, 53, 54, 55, 56, 57, 58, 59, 60, 61, 62, 63, 64, 65, 66, 67, 68, 69, 70, 71, 72, 73, 74, 75, 76, 77, 78, 79, 80, 81, 82, 95, 96, 97, 98, 99, 100, 101, 102, 103, 104, 105, 106, 107, 108, 109, 110, 111, 112, 113, 114, 115, 116, 117, 118, 119, 120, 121] rfl (by decide +kernel)
set_option maxRecDepth 20000 in
theorem gX4_seating_X4_differByOrder : GoodIn wsX4_seating (wsV RX4 168 RX4 yX4_differByOrder wsX4_differByOrder) := goodIn_app (goodIn_of _ (by decide +kernel)) ggX4_seating_X4_differByOrder
set_option maxRecDepth 20000 in
theorem ggX4_seating_X4_digitsOfOrder : GoodIn wsX4_seating wsX4_digitsOfOrder := goodIn_r _ [86, 1, 2, 3, 95, 96, 97, 98, 99, 100, 101, 102, 103, 104, 105, 106, 107, 108, 109, 110, 111, 112, 113, 114, 115, 116, 117] rfl (by decide +kernel)
set_option maxRecDepth 20000 in
theorem gX4_seating_X4_digitsOfOrder : GoodIn wsX4_seating (wsV RX4 171 RX4 yX4_digitsOfOrder wsX4_digitsOfOrder) := goodIn_app (goodIn_of _ (by decide +kernel)) ggX4_seating_X4_digitsOfOrder
set_option maxRecDepth 20000 in
theorem ggX4_seating_X4_nextOrder : GoodIn wsX4_seating wsX4_nextOrder := goodIn_r _ [90, 1, 2, 3, 91, 92, 93, 7, 94, 95, 96, 97, 98, 99, 100, 101, 102, 103, 104, 105, 106, 107, 108, 109, 110, 111, 112, 113, 114, 115, 116, 117] rfl (by decide +kernel)
set_option maxRecDepth 20000 in
theorem gX4_seating_X4_nextOrder : GoodIn wsX4_seating (wsV RX4 174 RX4 yX4_nextOrder wsX4_nextOrder) := goodIn_app (goodIn_of _ (by decide +kernel)) ggX4_seating_X4_nextOrder
theorem dX4_seating_0 : decode cX4_seating 0 = .ok (.iload_n 1, 1) := by decide +kernel
theorem dX4_seating_1 : decode cX4_seating 1 = .ok (.ifCond .lt 8, 3) := by decide +kernel
theorem dX4_seating_4 : decode cX4_seating 4 = .ok (.iload_n 1, 1) := by decide +kernel
theorem dX4_seating_5 : decode cX4_seating 5 = .ok (.iconst 1, 1) := by decide +kernel
theorem dX4_seating_6 : decode cX4_seating 6 = .ok (.if_icmp .le 6, 3) := by decide +kernel
theorem dX4_seating_9 : decode cX4_seating 9 = .ok (.bipush (-2), 2) := by decide +kernel
theorem dX4_seating_11 : decode cX4_seating 11 = .ok (.ireturn, 1) := by decide +kernel
theorem dX4_seating_12 : decode cX4_seating 12 = .ok (.aload_n 0, 1) := by decide +kernel
theorem dX4_seating_13 : decode cX4_seating 13 = .ok (.getfield 28, 3) := by decide +kernel
theorem dX4_seating_16 : decode cX4_seating 16 = .ok (.getfield 56, 3) := by decide +kernel
theorem dX4_seating_19 : decode cX4_seating 19 = .ok (.ifCond .ne 5, 3) := by decide +kernel
theorem dX4_seating_22 : decode cX4_seating 22 = .ok (.iconst 0, 1) := by decide +kernel
theorem dX4_seating_23 : decode cX4_seating 23 = .ok (.ireturn, 1) := by decide +kernel
theorem dX4_seating_24 : decode cX4_seating 24 = .ok (.iconst 0, 1) := by decide +kernel
theorem dX4_seating_25 : decode cX4_seating 25 = .ok (.istore_n 2, 1) := by decide +kernel
theorem dX4_seating_26 : decode cX4_seating 26 = .ok (.iload_n 2, 1) := by decide +kernel
theorem dX4_seating_27 : decode cX4_seating 27 = .ok (.bipush 6, 2) := by decide +kernel
theorem dX4_seating_29 : decode cX4_seating 29 = .ok (.if_icmp .ge 16, 3) := by decide +kernel
theorem dX4_seating_32 : decode cX4_seating 32 = .ok (.aload_n 0, 1) := by decide +kernel
theorem dX4_seating_33 : decode cX4_seating 33 = .ok (.getfield 53, 3) := by decide +kernel
theorem dX4_seating_36 : decode cX4_seating 36 = .ok (.iload_n 2, 1) := by decide +kernel
theorem dX4_seating_37 : decode cX4_seating 37 = .ok (.iload_n 2, 1) := by decide +kernel
theorem dX4_seating_38 : decode cX4_seating 38 = .ok (.iastore, 1) := by decide +kernel
theorem dX4_seating_39 : decode cX4_seating 39 = .ok (.iinc 2 1, 3) := by decide +kernel
theorem dX4_seating_42 : decode cX4_seating 42 = .ok (.goto (-16), 3) := by decide +kernel
theorem dX4_seating_45 : decode cX4_seating 45 = .ok (.sipush 10000, 3) := by decide +kernel
theorem dX4_seating_48 : decode cX4_seating 48 = .ok (.istore_n 2, 1) := by decide +kernel
theorem dX4_seating_49 : decode cX4_seating 49 = .ok (.iconst 0, 1) := by decide +kernel
theorem dX4_seating_50 : decode cX4_seating 50 = .ok (.istore_n 3, 1) := by decide +kernel
theorem dX4_seating_51 : decode cX4_seating 51 = .ok (.iconst 1, 1) := by decide +kernel
theorem dX4_seating_52 : decode cX4_seating 52 = .ok (.istore 4, 2) := by decide +kernel
theorem dX4_seating_54 : decode cX4_seating 54 = .ok (.iconst 0, 1) := by decide +kernel
theorem dX4_seating_55 : decode cX4_seating 55 = .ok (.istore 5, 2) := by decide +kernel
theorem dX4_seating_57 : decode cX4_seating 57 = .ok (.iload 5, 2) := by decide +kernel
theorem dX4_seating_59 : decode cX4_seating 59 = .ok (.sipush 720, 3) := by decide +kernel
theorem dX4_seating_62 : decode cX4_seating 62 = .ok (.if_icmp .ge 44, 3) := by decide +kernel
theorem dX4_seating_65 : decode cX4_seating 65 = .ok (.iload 4, 2) := by decide +kernel
theorem dX4_seating_67 : decode cX4_seating 67 = .ok (.ifCond .eq 39, 3) := by decide +kernel
theorem dX4_seating_70 : decode cX4_seating 70 = .ok (.iload_n 2, 1) := by decide +kernel
theorem dX4_seating_71 : decode cX4_seating 71 = .ok (.ifCond .le 35, 3) := by decide +kernel
theorem dX4_seating_74 : decode cX4_seating 74 = .ok (.aload_n 0, 1) := by decide +kernel
theorem dX4_seating_75 : decode cX4_seating 75 = .ok (.invokevirtual 168, 3) := by decide +kernel
theorem dX4_seating_78 : decode cX4_seating 78 = .ok (.istore 6, 2) := by decide +kernel
theorem dX4_seating_80 : decode cX4_seating 80 = .ok (.iload 6, 2) := by decide +kernel
theorem dX4_seating_82 : decode cX4_seating 82 = .ok (.iload_n 2, 1) := by decide +kernel
theorem dX4_seating_83 : decode cX4_seating 83 = .ok (.if_icmp .ge 11, 3) := by decide +kernel
theorem dX4_seating_86 : decode cX4_seating 86 = .ok (.iload 6, 2) := by decide +kernel
theorem dX4_seating_88 : decode cX4_seating 88 = .ok (.istore_n 2, 1) := by decide +kernel
theorem dX4_seating_89 : decode cX4_seating 89 = .ok (.aload_n 0, 1) := by decide +kernel
theorem dX4_seating_90 : decode cX4_seating 90 = .ok (.invokevirtual 171, 3) := by decide +kernel
theorem dX4_seating_93 : decode cX4_seating 93 = .ok (.istore_n 3, 1) := by decide +kernel
theorem dX4_seating_94 : decode cX4_seating 94 = .ok (.aload_n 0, 1) := by decide +kernel
theorem dX4_seating_95 : decode cX4_seating 95 = .ok (.invokevirtual 174, 3) := by decide +kernel
theorem dX4_seating_98 : decode cX4_seating 98 = .ok (.istore 4, 2) := by decide +kernel
theorem dX4_seating_100 : decode cX4_seating 100 = .ok (.iinc 5 1, 3) := by decide +kernel
theorem dX4_seating_103 : decode cX4_seating 103 = .ok (.goto (-46), 3) := by decide +kernel
theorem dX4_seating_106 : decode cX4_seating 106 = .ok (.iload_n 1, 1) := by decide +kernel
theorem dX4_seating_107 : decode cX4_seating 107 = .ok (.ifCond .ne 7, 3) := by decide +kernel
theorem dX4_seating_110 : decode cX4_seating 110 = .ok (.iload_n 3, 1) := by decide +kernel
theorem dX4_seating_111 : decode cX4_seating 111 = .ok (.goto 4, 3) := by decide +kernel
theorem dX4_seating_114 : decode cX4_seating 114 = .ok (.iload_n 2, 1) := by decide +kernel
theorem dX4_seating_115 : decode cX4_seating 115 = .ok (.ireturn, 1) := by decide +kernel
set_option maxRecDepth 20000 in
theorem ggX4_differByOrder_X0_become : GoodIn wsX4_differByOrder wsX0_become := goodIn_r _ [18, 19, 20, 21, 22, 23, 24, 25, 26, 27, 28, 29, 30, 31, 32, 33, 34, 87, 88, 89, 90, 91, 92, 93, 94, 95, 96, 97, 98, 99, 100] rfl (by decide +kernel)
set_option maxRecDepth 20000 in
theorem gX4_differByOrder_X0_become : GoodIn wsX4_differByOrder (wsV RX4 157 RX0 yX0_become wsX0_become) := goodIn_app (goodIn_of _ (by decide +kernel)) ggX4_differByOrder_X0_become
set_option maxRecDepth 20000 in
theorem ggX4_differByOrder_X0_take : GoodIn wsX4_differByOrder wsX0_take := goodIn_r _ [38, 24, 28, 19, 39, 12, 9, 13, 29, 40, 8, 10, 27, 33, 41, 42, 43, 17, 44, 25, 26, 45, 46, 47, 48, 49, 31, 50, 34, 51, 52, 53, 54, 55, 56, 57, 58, 59, 60, 61, 62, 63, 64, 65, 66, 67, 68, 69, 70, 71, 72, 73, 74, 75, 76, 77, 87, 88, 89, 90, 91, 92, 93, 94, 95, 96, 97, 98, 99, 100, 101, 102, 103, 104] rfl (by decide +kernel)
set_option maxRecDepth 20000 in
theorem gX4_differByOrder_X0_take : GoodIn wsX4_differByOrder (wsV RX4 178 RX0 yX0_take wsX0_take) := goodIn_app (goodIn_of _ (by decide +kernel)) ggX4_differByOrder_X0_take
theorem dX4_differByOrder_0 : decode cX4_differByOrder 0 = .ok (.aload_n 0, 1) := by decide +kernel
theorem dX4_differByOrder_1 : decode cX4_differByOrder 1 = .ok (.getfield 32, 3) := by decide +kernel
theorem dX4_differByOrder_4 : decode cX4_differByOrder 4 = .ok (.aload_n 0, 1) := by decide +kernel
theorem dX4_differByOrder_5 : decode cX4_differByOrder 5 = .ok (.getfield 28, 3) := by decide +kernel
theorem dX4_differByOrder_8 : decode cX4_differByOrder 8 = .ok (.invokevirtual 157, 3) := by decide +kernel
theorem dX4_differByOrder_11 : decode cX4_differByOrder 11 = .ok (.aload_n 0, 1) := by decide +kernel
theorem dX4_differByOrder_12 : decode cX4_differByOrder 12 = .ok (.getfield 32, 3) := by decide +kernel
theorem dX4_differByOrder_15 : decode cX4_differByOrder 15 = .ok (.getfield 56, 3) := by decide +kernel
theorem dX4_differByOrder_18 : decode cX4_differByOrder 18 = .ok (.istore_n 1, 1) := by decide +kernel
theorem dX4_differByOrder_19 : decode cX4_differByOrder 19 = .ok (.iconst 0, 1) := by decide +kernel
theorem dX4_differByOrder_20 : decode cX4_differByOrder 20 = .ok (.istore_n 2, 1) := by decide +kernel
theorem dX4_differByOrder_21 : decode cX4_differByOrder 21 = .ok (.iconst 0, 1) := by decide +kernel
theorem dX4_differByOrder_22 : decode cX4_differByOrder 22 = .ok (.istore_n 3, 1) := by decide +kernel
theorem dX4_differByOrder_23 : decode cX4_differByOrder 23 = .ok (.iload_n 3, 1) := by decide +kernel
theorem dX4_differByOrder_24 : decode cX4_differByOrder 24 = .ok (.bipush 120, 2) := by decide +kernel
theorem dX4_differByOrder_26 : decode cX4_differByOrder 26 = .ok (.if_icmp .ge 48, 3) := by decide +kernel
theorem dX4_differByOrder_29 : decode cX4_differByOrder 29 = .ok (.aload_n 0, 1) := by decide +kernel
theorem dX4_differByOrder_30 : decode cX4_differByOrder 30 = .ok (.getfield 32, 3) := by decide +kernel
theorem dX4_differByOrder_33 : decode cX4_differByOrder 33 = .ok (.getfield 60, 3) := by decide +kernel
theorem dX4_differByOrder_36 : decode cX4_differByOrder 36 = .ok (.ifCond .le 38, 3) := by decide +kernel
theorem dX4_differByOrder_39 : decode cX4_differByOrder 39 = .ok (.aload_n 0, 1) := by decide +kernel
theorem dX4_differByOrder_40 : decode cX4_differByOrder 40 = .ok (.getfield 32, 3) := by decide +kernel
theorem dX4_differByOrder_43 : decode cX4_differByOrder 43 = .ok (.aload_n 0, 1) := by decide +kernel
theorem dX4_differByOrder_44 : decode cX4_differByOrder 44 = .ok (.getfield 53, 3) := by decide +kernel
theorem dX4_differByOrder_47 : decode cX4_differByOrder 47 = .ok (.iload_n 2, 1) := by decide +kernel
theorem dX4_differByOrder_48 : decode cX4_differByOrder 48 = .ok (.iaload, 1) := by decide +kernel
theorem dX4_differByOrder_49 : decode cX4_differByOrder 49 = .ok (.invokevirtual 178, 3) := by decide +kernel
theorem dX4_differByOrder_52 : decode cX4_differByOrder 52 = .ok (.pop, 1) := by decide +kernel
theorem dX4_differByOrder_53 : decode cX4_differByOrder 53 = .ok (.iload_n 2, 1) := by decide +kernel
theorem dX4_differByOrder_54 : decode cX4_differByOrder 54 = .ok (.iconst 1, 1) := by decide +kernel
theorem dX4_differByOrder_55 : decode cX4_differByOrder 55 = .ok (.iadd, 1) := by decide +kernel
theorem dX4_differByOrder_56 : decode cX4_differByOrder 56 = .ok (.iload_n 1, 1) := by decide +kernel
theorem dX4_differByOrder_57 : decode cX4_differByOrder 57 = .ok (.if_icmp .ge 9, 3) := by decide +kernel
theorem dX4_differByOrder_60 : decode cX4_differByOrder 60 = .ok (.iload_n 2, 1) := by decide +kernel
theorem dX4_differByOrder_61 : decode cX4_differByOrder 61 = .ok (.iconst 1, 1) := by decide +kernel
theorem dX4_differByOrder_62 : decode cX4_differByOrder 62 = .ok (.iadd, 1) := by decide +kernel
theorem dX4_differByOrder_63 : decode cX4_differByOrder 63 = .ok (.goto 4, 3) := by decide +kernel
theorem dX4_differByOrder_66 : decode cX4_differByOrder 66 = .ok (.iconst 0, 1) := by decide +kernel
theorem dX4_differByOrder_67 : decode cX4_differByOrder 67 = .ok (.istore_n 2, 1) := by decide +kernel
theorem dX4_differByOrder_68 : decode cX4_differByOrder 68 = .ok (.iinc 3 1, 3) := by decide +kernel
theorem dX4_differByOrder_71 : decode cX4_differByOrder 71 = .ok (.goto (-48), 3) := by decide +kernel
theorem dX4_differByOrder_74 : decode cX4_differByOrder 74 = .ok (.aload_n 0, 1) := by decide +kernel
theorem dX4_differByOrder_75 : decode cX4_differByOrder 75 = .ok (.getfield 32, 3) := by decide +kernel
theorem dX4_differByOrder_78 : decode cX4_differByOrder 78 = .ok (.getfield 126, 3) := by decide +kernel
theorem dX4_differByOrder_81 : decode cX4_differByOrder 81 = .ok (.iconst 0, 1) := by decide +kernel
theorem dX4_differByOrder_82 : decode cX4_differByOrder 82 = .ok (.iaload, 1) := by decide +kernel
theorem dX4_differByOrder_83 : decode cX4_differByOrder 83 = .ok (.istore_n 3, 1) := by decide +kernel
theorem dX4_differByOrder_84 : decode cX4_differByOrder 84 = .ok (.iload_n 3, 1) := by decide +kernel
theorem dX4_differByOrder_85 : decode cX4_differByOrder 85 = .ok (.istore 4, 2) := by decide +kernel
theorem dX4_differByOrder_87 : decode cX4_differByOrder 87 = .ok (.iconst 1, 1) := by decide +kernel
theorem dX4_differByOrder_88 : decode cX4_differByOrder 88 = .ok (.istore 5, 2) := by decide +kernel
theorem dX4_differByOrder_90 : decode cX4_differByOrder 90 = .ok (.iload 5, 2) := by decide +kernel
theorem dX4_differByOrder_92 : decode cX4_differByOrder 92 = .ok (.iload_n 1, 1) := by decide +kernel
theorem dX4_differByOrder_93 : decode cX4_differByOrder 93 = .ok (.if_icmp .ge 41, 3) := by decide +kernel
theorem dX4_differByOrder_96 : decode cX4_differByOrder 96 = .ok (.iload_n 3, 1) := by decide +kernel
theorem dX4_differByOrder_97 : decode cX4_differByOrder 97 = .ok (.aload_n 0, 1) := by decide +kernel
theorem dX4_differByOrder_98 : decode cX4_differByOrder 98 = .ok (.getfield 32, 3) := by decide +kernel
theorem dX4_differByOrder_101 : decode cX4_differByOrder 101 = .ok (.getfield 126, 3) := by decide +kernel
theorem dX4_differByOrder_104 : decode cX4_differByOrder 104 = .ok (.iload 5, 2) := by decide +kernel
theorem dX4_differByOrder_106 : decode cX4_differByOrder 106 = .ok (.iaload, 1) := by decide +kernel
theorem dX4_differByOrder_107 : decode cX4_differByOrder 107 = .ok (.invokestatic 181, 3) := by decide +kernel
theorem dX4_differByOrder_110 : decode cX4_differByOrder 110 = .ok (.istore_n 3, 1) := by decide +kernel
theorem dX4_differByOrder_111 : decode cX4_differByOrder 111 = .ok (.iload 4, 2) := by decide +kernel
theorem dX4_differByOrder_113 : decode cX4_differByOrder 113 = .ok (.aload_n 0, 1) := by decide +kernel
theorem dX4_differByOrder_114 : decode cX4_differByOrder 114 = .ok (.getfield 32, 3) := by decide +kernel
theorem dX4_differByOrder_117 : decode cX4_differByOrder 117 = .ok (.getfield 126, 3) := by decide +kernel
theorem dX4_differByOrder_120 : decode cX4_differByOrder 120 = .ok (.iload 5, 2) := by decide +kernel
theorem dX4_differByOrder_122 : decode cX4_differByOrder 122 = .ok (.iaload, 1) := by decide +kernel
theorem dX4_differByOrder_123 : decode cX4_differByOrder 123 = .ok (.invokestatic 186, 3) := by decide +kernel
theorem dX4_differByOrder_126 : decode cX4_differByOrder 126 = .ok (.istore 4, 2) := by decide +kernel
theorem dX4_differByOrder_128 : decode cX4_differByOrder 128 = .ok (.iinc 5 1, 3) := by decide +kernel
theorem dX4_differByOrder_131 : decode cX4_differByOrder 131 = .ok (.goto (-41), 3) := by decide +kernel
theorem dX4_differByOrder_134 : decode cX4_differByOrder 134 = .ok (.iload_n 3, 1) := by decide +kernel
theorem dX4_differByOrder_135 : decode cX4_differByOrder 135 = .ok (.iload 4, 2) := by decide +kernel
theorem dX4_differByOrder_137 : decode cX4_differByOrder 137 = .ok (.isub, 1) := by decide +kernel
theorem dX4_differByOrder_138 : decode cX4_differByOrder 138 = .ok (.ireturn, 1) := by decide +kernel
theorem dX4_digitsOfOrder_0 : decode cX4_digitsOfOrder 0 = .ok (.iconst 0, 1) := by decide +kernel
theorem dX4_digitsOfOrder_1 : decode cX4_digitsOfOrder 1 = .ok (.istore_n 1, 1) := by decide +kernel
theorem dX4_digitsOfOrder_2 : decode cX4_digitsOfOrder 2 = .ok (.iconst 0, 1) := by decide +kernel
theorem dX4_digitsOfOrder_3 : decode cX4_digitsOfOrder 3 = .ok (.istore_n 2, 1) := by decide +kernel
theorem dX4_digitsOfOrder_4 : decode cX4_digitsOfOrder 4 = .ok (.iload_n 2, 1) := by decide +kernel
theorem dX4_digitsOfOrder_5 : decode cX4_digitsOfOrder 5 = .ok (.aload_n 0, 1) := by decide +kernel
theorem dX4_digitsOfOrder_6 : decode cX4_digitsOfOrder 6 = .ok (.getfield 28, 3) := by decide +kernel
theorem dX4_digitsOfOrder_9 : decode cX4_digitsOfOrder 9 = .ok (.getfield 56, 3) := by decide +kernel
theorem dX4_digitsOfOrder_12 : decode cX4_digitsOfOrder 12 = .ok (.if_icmp .ge 23, 3) := by decide +kernel
theorem dX4_digitsOfOrder_15 : decode cX4_digitsOfOrder 15 = .ok (.iload_n 1, 1) := by decide +kernel
theorem dX4_digitsOfOrder_16 : decode cX4_digitsOfOrder 16 = .ok (.bipush 10, 2) := by decide +kernel
theorem dX4_digitsOfOrder_18 : decode cX4_digitsOfOrder 18 = .ok (.imul, 1) := by decide +kernel
theorem dX4_digitsOfOrder_19 : decode cX4_digitsOfOrder 19 = .ok (.aload_n 0, 1) := by decide +kernel
theorem dX4_digitsOfOrder_20 : decode cX4_digitsOfOrder 20 = .ok (.getfield 53, 3) := by decide +kernel
theorem dX4_digitsOfOrder_23 : decode cX4_digitsOfOrder 23 = .ok (.iload_n 2, 1) := by decide +kernel
theorem dX4_digitsOfOrder_24 : decode cX4_digitsOfOrder 24 = .ok (.iaload, 1) := by decide +kernel
theorem dX4_digitsOfOrder_25 : decode cX4_digitsOfOrder 25 = .ok (.iadd, 1) := by decide +kernel
theorem dX4_digitsOfOrder_26 : decode cX4_digitsOfOrder 26 = .ok (.iconst 1, 1) := by decide +kernel
theorem dX4_digitsOfOrder_27 : decode cX4_digitsOfOrder 27 = .ok (.iadd, 1) := by decide +kernel
theorem dX4_digitsOfOrder_28 : decode cX4_digitsOfOrder 28 = .ok (.istore_n 1, 1) := by decide +kernel
theorem dX4_digitsOfOrder_29 : decode cX4_digitsOfOrder 29 = .ok (.iinc 2 1, 3) := by decide +kernel
theorem dX4_digitsOfOrder_32 : decode cX4_digitsOfOrder 32 = .ok (.goto (-28), 3) := by decide +kernel
theorem dX4_digitsOfOrder_35 : decode cX4_digitsOfOrder 35 = .ok (.iload_n 1, 1) := by decide +kernel
theorem dX4_digitsOfOrder_36 : decode cX4_digitsOfOrder 36 = .ok (.ireturn, 1) := by decide +kernel
set_option maxRecDepth 20000 in
theorem ggX4_nextOrder_X4_swapInOrder : GoodIn wsX4_nextOrder wsX4_swapInOrder := goodIn_r _ [8, 3, 9, 10, 11, 12, 13, 14, 15, 16, 17] rfl (by decide +kernel)
set_option maxRecDepth 20000 in
theorem gX4_nextOrder_X4_swapInOrder : GoodIn wsX4_nextOrder (wsV RX4 189 RX4 yX4_swapInOrder wsX4_swapInOrder) := goodIn_app (goodIn_of _ (by decide +kernel)) ggX4_nextOrder_X4_swapInOrder
theorem dX4_nextOrder_0 : decode cX4_nextOrder 0 = .ok (.aload_n 0, 1) := by decide +kernel
theorem dX4_nextOrder_1 : decode cX4_nextOrder 1 = .ok (.getfield 28, 3) := by decide +kernel
theorem dX4_nextOrder_4 : decode cX4_nextOrder 4 = .ok (.getfield 56, 3) := by decide +kernel
theorem dX4_nextOrder_7 : decode cX4_nextOrder 7 = .ok (.istore_n 1, 1) := by decide +kernel
theorem dX4_nextOrder_8 : decode cX4_nextOrder 8 = .ok (.iload_n 1, 1) := by decide +kernel
theorem dX4_nextOrder_9 : decode cX4_nextOrder 9 = .ok (.iconst 2, 1) := by decide +kernel
theorem dX4_nextOrder_10 : decode cX4_nextOrder 10 = .ok (.isub, 1) := by decide +kernel
theorem dX4_nextOrder_11 : decode cX4_nextOrder 11 = .ok (.istore_n 2, 1) := by decide +kernel
theorem dX4_nextOrder_12 : decode cX4_nextOrder 12 = .ok (.iconst 0, 1) := by decide +kernel
theorem dX4_nextOrder_13 : decode cX4_nextOrder 13 = .ok (.istore_n 3, 1) := by decide +kernel
theorem dX4_nextOrder_14 : decode cX4_nextOrder 14 = .ok (.iload_n 3, 1) := by decide +kernel
theorem dX4_nextOrder_15 : decode cX4_nextOrder 15 = .ok (.bipush 6, 2) := by decide +kernel
theorem dX4_nextOrder_17 : decode cX4_nextOrder 17 = .ok (.if_icmp .ge 33, 3) := by decide +kernel
theorem dX4_nextOrder_20 : decode cX4_nextOrder 20 = .ok (.iload_n 2, 1) := by decide +kernel
theorem dX4_nextOrder_21 : decode cX4_nextOrder 21 = .ok (.ifCond .lt 29, 3) := by decide +kernel
theorem dX4_nextOrder_24 : decode cX4_nextOrder 24 = .ok (.aload_n 0, 1) := by decide +kernel
theorem dX4_nextOrder_25 : decode cX4_nextOrder 25 = .ok (.getfield 53, 3) := by decide +kernel
theorem dX4_nextOrder_28 : decode cX4_nextOrder 28 = .ok (.iload_n 2, 1) := by decide +kernel
theorem dX4_nextOrder_29 : decode cX4_nextOrder 29 = .ok (.iaload, 1) := by decide +kernel
theorem dX4_nextOrder_30 : decode cX4_nextOrder 30 = .ok (.aload_n 0, 1) := by decide +kernel
theorem dX4_nextOrder_31 : decode cX4_nextOrder 31 = .ok (.getfield 53, 3) := by decide +kernel
theorem dX4_nextOrder_34 : decode cX4_nextOrder 34 = .ok (.iload_n 2, 1) := by decide +kernel
theorem dX4_nextOrder_35 : decode cX4_nextOrder 35 = .ok (.iconst 1, 1) := by decide +kernel
theorem dX4_nextOrder_36 : decode cX4_nextOrder 36 = .ok (.iadd, 1) := by decide +kernel
theorem dX4_nextOrder_37 : decode cX4_nextOrder 37 = .ok (.iaload, 1) := by decide +kernel
theorem dX4_nextOrder_38 : decode cX4_nextOrder 38 = .ok (.if_icmp .le 12, 3) := by decide +kernel
theorem dX4_nextOrder_41 : decode cX4_nextOrder 41 = .ok (.iinc 2 (-1), 3) := by decide +kernel
theorem dX4_nextOrder_44 : decode cX4_nextOrder 44 = .ok (.iinc 3 1, 3) := by decide +kernel
theorem dX4_nextOrder_47 : decode cX4_nextOrder 47 = .ok (.goto (-33), 3) := by decide +kernel
theorem dX4_nextOrder_50 : decode cX4_nextOrder 50 = .ok (.iload_n 2, 1) := by decide +kernel
theorem dX4_nextOrder_51 : decode cX4_nextOrder 51 = .ok (.ifCond .ge 5, 3) := by decide +kernel
theorem dX4_nextOrder_54 : decode cX4_nextOrder 54 = .ok (.iconst 0, 1) := by decide +kernel
theorem dX4_nextOrder_55 : decode cX4_nextOrder 55 = .ok (.ireturn, 1) := by decide +kernel
theorem dX4_nextOrder_56 : decode cX4_nextOrder 56 = .ok (.iload_n 1, 1) := by decide +kernel
theorem dX4_nextOrder_57 : decode cX4_nextOrder 57 = .ok (.iconst 1, 1) := by decide +kernel
theorem dX4_nextOrder_58 : decode cX4_nextOrder 58 = .ok (.isub, 1) := by decide +kernel
theorem dX4_nextOrder_59 : decode cX4_nextOrder 59 = .ok (.istore_n 3, 1) := by decide +kernel
theorem dX4_nextOrder_60 : decode cX4_nextOrder 60 = .ok (.iconst 0, 1) := by decide +kernel
theorem dX4_nextOrder_61 : decode cX4_nextOrder 61 = .ok (.istore 4, 2) := by decide +kernel
theorem dX4_nextOrder_63 : decode cX4_nextOrder 63 = .ok (.iload 4, 2) := by decide +kernel
theorem dX4_nextOrder_65 : decode cX4_nextOrder 65 = .ok (.bipush 6, 2) := by decide +kernel
theorem dX4_nextOrder_67 : decode cX4_nextOrder 67 = .ok (.if_icmp .ge 34, 3) := by decide +kernel
theorem dX4_nextOrder_70 : decode cX4_nextOrder 70 = .ok (.iload_n 3, 1) := by decide +kernel
theorem dX4_nextOrder_71 : decode cX4_nextOrder 71 = .ok (.iload_n 2, 1) := by decide +kernel
theorem dX4_nextOrder_72 : decode cX4_nextOrder 72 = .ok (.iconst 1, 1) := by decide +kernel
theorem dX4_nextOrder_73 : decode cX4_nextOrder 73 = .ok (.iadd, 1) := by decide +kernel
theorem dX4_nextOrder_74 : decode cX4_nextOrder 74 = .ok (.if_icmp .le 27, 3) := by decide +kernel
theorem dX4_nextOrder_77 : decode cX4_nextOrder 77 = .ok (.aload_n 0, 1) := by decide +kernel
theorem dX4_nextOrder_78 : decode cX4_nextOrder 78 = .ok (.getfield 53, 3) := by decide +kernel
theorem dX4_nextOrder_81 : decode cX4_nextOrder 81 = .ok (.iload_n 3, 1) := by decide +kernel
theorem dX4_nextOrder_82 : decode cX4_nextOrder 82 = .ok (.iaload, 1) := by decide +kernel
theorem dX4_nextOrder_83 : decode cX4_nextOrder 83 = .ok (.aload_n 0, 1) := by decide +kernel
theorem dX4_nextOrder_84 : decode cX4_nextOrder 84 = .ok (.getfield 53, 3) := by decide +kernel
theorem dX4_nextOrder_87 : decode cX4_nextOrder 87 = .ok (.iload_n 2, 1) := by decide +kernel
theorem dX4_nextOrder_88 : decode cX4_nextOrder 88 = .ok (.iaload, 1) := by decide +kernel
theorem dX4_nextOrder_89 : decode cX4_nextOrder 89 = .ok (.if_icmp .ge 12, 3) := by decide +kernel
theorem dX4_nextOrder_92 : decode cX4_nextOrder 92 = .ok (.iinc 3 (-1), 3) := by decide +kernel
theorem dX4_nextOrder_95 : decode cX4_nextOrder 95 = .ok (.iinc 4 1, 3) := by decide +kernel
theorem dX4_nextOrder_98 : decode cX4_nextOrder 98 = .ok (.goto (-35), 3) := by decide +kernel
theorem dX4_nextOrder_101 : decode cX4_nextOrder 101 = .ok (.aload_n 0, 1) := by decide +kernel
theorem dX4_nextOrder_102 : decode cX4_nextOrder 102 = .ok (.iload_n 2, 1) := by decide +kernel
theorem dX4_nextOrder_103 : decode cX4_nextOrder 103 = .ok (.iload_n 3, 1) := by decide +kernel
theorem dX4_nextOrder_104 : decode cX4_nextOrder 104 = .ok (.invokevirtual 189, 3) := by decide +kernel
theorem dX4_nextOrder_107 : decode cX4_nextOrder 107 = .ok (.iconst 1, 1) := by decide +kernel
theorem dX4_nextOrder_108 : decode cX4_nextOrder 108 = .ok (.istore 4, 2) := by decide +kernel
theorem dX4_nextOrder_110 : decode cX4_nextOrder 110 = .ok (.iload_n 2, 1) := by decide +kernel
theorem dX4_nextOrder_111 : decode cX4_nextOrder 111 = .ok (.iload 4, 2) := by decide +kernel
theorem dX4_nextOrder_113 : decode cX4_nextOrder 113 = .ok (.iadd, 1) := by decide +kernel
theorem dX4_nextOrder_114 : decode cX4_nextOrder 114 = .ok (.iload_n 1, 1) := by decide +kernel
theorem dX4_nextOrder_115 : decode cX4_nextOrder 115 = .ok (.iload 4, 2) := by decide +kernel
theorem dX4_nextOrder_117 : decode cX4_nextOrder 117 = .ok (.isub, 1) := by decide +kernel
theorem dX4_nextOrder_118 : decode cX4_nextOrder 118 = .ok (.if_icmp .ge 21, 3) := by decide +kernel
theorem dX4_nextOrder_121 : decode cX4_nextOrder 121 = .ok (.aload_n 0, 1) := by decide +kernel
theorem dX4_nextOrder_122 : decode cX4_nextOrder 122 = .ok (.iload_n 2, 1) := by decide +kernel
theorem dX4_nextOrder_123 : decode cX4_nextOrder 123 = .ok (.iload 4, 2) := by decide +kernel
theorem dX4_nextOrder_125 : decode cX4_nextOrder 125 = .ok (.iadd, 1) := by decide +kernel
theorem dX4_nextOrder_126 : decode cX4_nextOrder 126 = .ok (.iload_n 1, 1) := by decide +kernel
theorem dX4_nextOrder_127 : decode cX4_nextOrder 127 = .ok (.iload 4, 2) := by decide +kernel
theorem dX4_nextOrder_129 : decode cX4_nextOrder 129 = .ok (.isub, 1) := by decide +kernel
theorem dX4_nextOrder_130 : decode cX4_nextOrder 130 = .ok (.invokevirtual 189, 3) := by decide +kernel
theorem dX4_nextOrder_133 : decode cX4_nextOrder 133 = .ok (.iinc 4 1, 3) := by decide +kernel
theorem dX4_nextOrder_136 : decode cX4_nextOrder 136 = .ok (.goto (-26), 3) := by decide +kernel
theorem dX4_nextOrder_139 : decode cX4_nextOrder 139 = .ok (.iconst 1, 1) := by decide +kernel
theorem dX4_nextOrder_140 : decode cX4_nextOrder 140 = .ok (.ireturn, 1) := by decide +kernel
theorem dX4_swapInOrder_0 : decode cX4_swapInOrder 0 = .ok (.aload_n 0, 1) := by decide +kernel
theorem dX4_swapInOrder_1 : decode cX4_swapInOrder 1 = .ok (.getfield 53, 3) := by decide +kernel
theorem dX4_swapInOrder_4 : decode cX4_swapInOrder 4 = .ok (.iload_n 1, 1) := by decide +kernel
theorem dX4_swapInOrder_5 : decode cX4_swapInOrder 5 = .ok (.iaload, 1) := by decide +kernel
theorem dX4_swapInOrder_6 : decode cX4_swapInOrder 6 = .ok (.istore_n 3, 1) := by decide +kernel
theorem dX4_swapInOrder_7 : decode cX4_swapInOrder 7 = .ok (.aload_n 0, 1) := by decide +kernel
theorem dX4_swapInOrder_8 : decode cX4_swapInOrder 8 = .ok (.getfield 53, 3) := by decide +kernel
theorem dX4_swapInOrder_11 : decode cX4_swapInOrder 11 = .ok (.iload_n 1, 1) := by decide +kernel
theorem dX4_swapInOrder_12 : decode cX4_swapInOrder 12 = .ok (.aload_n 0, 1) := by decide +kernel
theorem dX4_swapInOrder_13 : decode cX4_swapInOrder 13 = .ok (.getfield 53, 3) := by decide +kernel
theorem dX4_swapInOrder_16 : decode cX4_swapInOrder 16 = .ok (.iload_n 2, 1) := by decide +kernel
theorem dX4_swapInOrder_17 : decode cX4_swapInOrder 17 = .ok (.iaload, 1) := by decide +kernel
theorem dX4_swapInOrder_18 : decode cX4_swapInOrder 18 = .ok (.iastore, 1) := by decide +kernel
theorem dX4_swapInOrder_19 : decode cX4_swapInOrder 19 = .ok (.aload_n 0, 1) := by decide +kernel
theorem dX4_swapInOrder_20 : decode cX4_swapInOrder 20 = .ok (.getfield 53, 3) := by decide +kernel
theorem dX4_swapInOrder_23 : decode cX4_swapInOrder 23 = .ok (.iload_n 2, 1) := by decide +kernel
theorem dX4_swapInOrder_24 : decode cX4_swapInOrder 24 = .ok (.iload_n 3, 1) := by decide +kernel
theorem dX4_swapInOrder_25 : decode cX4_swapInOrder 25 = .ok (.iastore, 1) := by decide +kernel
theorem dX4_swapInOrder_26 : decode cX4_swapInOrder 26 = .ok (.return_, 1) := by decide +kernel
set_option maxRecDepth 20000 in
theorem ggX4_ways_X4_makeMoreWays : GoodIn wsX4_ways wsX4_makeMoreWays := goodIn_r _ [9, 1, 10, 11, 12, 13, 14, 15, 16, 17, 18] rfl (by decide +kernel)
set_option maxRecDepth 20000 in
theorem gX4_ways_X4_makeMoreWays : GoodIn wsX4_ways (wsV RX4 192 RX4 yX4_makeMoreWays wsX4_makeMoreWays) := goodIn_app (goodIn_of _ (by decide +kernel)) ggX4_ways_X4_makeMoreWays
theorem dX4_ways_0 : decode cX4_ways 0 = .ok (.iload_n 1, 1) := by decide +kernel
theorem dX4_ways_1 : decode cX4_ways 1 = .ok (.ifCond .lt 10, 3) := by decide +kernel
theorem dX4_ways_4 : decode cX4_ways 4 = .ok (.iload_n 1, 1) := by decide +kernel
theorem dX4_ways_5 : decode cX4_ways 5 = .ok (.sipush 999, 3) := by decide +kernel
theorem dX4_ways_8 : decode cX4_ways 8 = .ok (.if_icmp .le 6, 3) := by decide +kernel
theorem dX4_ways_11 : decode cX4_ways 11 = .ok (.bipush (-2), 2) := by decide +kernel
theorem dX4_ways_13 : decode cX4_ways 13 = .ok (.ireturn, 1) := by decide +kernel
theorem dX4_ways_14 : decode cX4_ways 14 = .ok (.iconst 0, 1) := by decide +kernel
theorem dX4_ways_15 : decode cX4_ways 15 = .ok (.istore_n 2, 1) := by decide +kernel
theorem dX4_ways_16 : decode cX4_ways 16 = .ok (.iload_n 2, 1) := by decide +kernel
theorem dX4_ways_17 : decode cX4_ways 17 = .ok (.iload_n 1, 1) := by decide +kernel
theorem dX4_ways_18 : decode cX4_ways 18 = .ok (.if_icmp .gt 16, 3) := by decide +kernel
theorem dX4_ways_21 : decode cX4_ways 21 = .ok (.aload_n 0, 1) := by decide +kernel
theorem dX4_ways_22 : decode cX4_ways 22 = .ok (.getfield 49, 3) := by decide +kernel
theorem dX4_ways_25 : decode cX4_ways 25 = .ok (.iload_n 2, 1) := by decide +kernel
theorem dX4_ways_26 : decode cX4_ways 26 = .ok (.iconst 0, 1) := by decide +kernel
theorem dX4_ways_27 : decode cX4_ways 27 = .ok (.iastore, 1) := by decide +kernel
theorem dX4_ways_28 : decode cX4_ways 28 = .ok (.iinc 2 1, 3) := by decide +kernel
theorem dX4_ways_31 : decode cX4_ways 31 = .ok (.goto (-15), 3) := by decide +kernel
theorem dX4_ways_34 : decode cX4_ways 34 = .ok (.aload_n 0, 1) := by decide +kernel
theorem dX4_ways_35 : decode cX4_ways 35 = .ok (.getfield 49, 3) := by decide +kernel
theorem dX4_ways_38 : decode cX4_ways 38 = .ok (.iconst 0, 1) := by decide +kernel
theorem dX4_ways_39 : decode cX4_ways 39 = .ok (.iconst 1, 1) := by decide +kernel
theorem dX4_ways_40 : decode cX4_ways 40 = .ok (.iastore, 1) := by decide +kernel
theorem dX4_ways_41 : decode cX4_ways 41 = .ok (.iconst 0, 1) := by decide +kernel
theorem dX4_ways_42 : decode cX4_ways 42 = .ok (.istore_n 2, 1) := by decide +kernel
theorem dX4_ways_43 : decode cX4_ways 43 = .ok (.iload_n 2, 1) := by decide +kernel
theorem dX4_ways_44 : decode cX4_ways 44 = .ok (.bipush 6, 2) := by decide +kernel
theorem dX4_ways_46 : decode cX4_ways 46 = .ok (.if_icmp .ge 32, 3) := by decide +kernel
theorem dX4_ways_49 : decode cX4_ways 49 = .ok (.aload_n 0, 1) := by decide +kernel
theorem dX4_ways_50 : decode cX4_ways 50 = .ok (.aload_n 0, 1) := by decide +kernel
theorem dX4_ways_51 : decode cX4_ways 51 = .ok (.getfield 28, 3) := by decide +kernel
theorem dX4_ways_54 : decode cX4_ways 54 = .ok (.getfield 80, 3) := by decide +kernel
theorem dX4_ways_57 : decode cX4_ways 57 = .ok (.iload_n 2, 1) := by decide +kernel
theorem dX4_ways_58 : decode cX4_ways 58 = .ok (.iaload, 1) := by decide +kernel
theorem dX4_ways_59 : decode cX4_ways 59 = .ok (.aload_n 0, 1) := by decide +kernel
theorem dX4_ways_60 : decode cX4_ways 60 = .ok (.getfield 28, 3) := by decide +kernel
theorem dX4_ways_63 : decode cX4_ways 63 = .ok (.getfield 83, 3) := by decide +kernel
theorem dX4_ways_66 : decode cX4_ways 66 = .ok (.iload_n 2, 1) := by decide +kernel
theorem dX4_ways_67 : decode cX4_ways 67 = .ok (.iaload, 1) := by decide +kernel
theorem dX4_ways_68 : decode cX4_ways 68 = .ok (.iload_n 1, 1) := by decide +kernel
theorem dX4_ways_69 : decode cX4_ways 69 = .ok (.invokevirtual 192, 3) := by decide +kernel
theorem dX4_ways_72 : decode cX4_ways 72 = .ok (.iinc 2 1, 3) := by decide +kernel
theorem dX4_ways_75 : decode cX4_ways 75 = .ok (.goto (-32), 3) := by decide +kernel
theorem dX4_ways_78 : decode cX4_ways 78 = .ok (.aload_n 0, 1) := by decide +kernel
theorem dX4_ways_79 : decode cX4_ways 79 = .ok (.getfield 49, 3) := by decide +kernel
theorem dX4_ways_82 : decode cX4_ways 82 = .ok (.iload_n 1, 1) := by decide +kernel
theorem dX4_ways_83 : decode cX4_ways 83 = .ok (.iaload, 1) := by decide +kernel
theorem dX4_ways_84 : decode cX4_ways 84 = .ok (.ireturn, 1) := by decide +kernel
theorem dX4_makeMoreWays_0 : decode cX4_makeMoreWays 0 = .ok (.iload_n 3, 1) := by decide +kernel
theorem dX4_makeMoreWays_1 : decode cX4_makeMoreWays 1 = .ok (.istore 4, 2) := by decide +kernel
theorem dX4_makeMoreWays_3 : decode cX4_makeMoreWays 3 = .ok (.iload 4, 2) := by decide +kernel
theorem dX4_makeMoreWays_5 : decode cX4_makeMoreWays 5 = .ok (.ifCond .lt 73, 3) := by decide +kernel
theorem dX4_makeMoreWays_8 : decode cX4_makeMoreWays 8 = .ok (.aload_n 0, 1) := by decide +kernel
theorem dX4_makeMoreWays_9 : decode cX4_makeMoreWays 9 = .ok (.getfield 49, 3) := by decide +kernel
theorem dX4_makeMoreWays_12 : decode cX4_makeMoreWays 12 = .ok (.iload 4, 2) := by decide +kernel
theorem dX4_makeMoreWays_14 : decode cX4_makeMoreWays 14 = .ok (.iaload, 1) := by decide +kernel
theorem dX4_makeMoreWays_15 : decode cX4_makeMoreWays 15 = .ok (.istore 5, 2) := by decide +kernel
theorem dX4_makeMoreWays_17 : decode cX4_makeMoreWays 17 = .ok (.iconst 1, 1) := by decide +kernel
theorem dX4_makeMoreWays_18 : decode cX4_makeMoreWays 18 = .ok (.istore 6, 2) := by decide +kernel
theorem dX4_makeMoreWays_20 : decode cX4_makeMoreWays 20 = .ok (.iload 6, 2) := by decide +kernel
theorem dX4_makeMoreWays_22 : decode cX4_makeMoreWays 22 = .ok (.iload_n 2, 1) := by decide +kernel
theorem dX4_makeMoreWays_23 : decode cX4_makeMoreWays 23 = .ok (.if_icmp .gt 49, 3) := by decide +kernel
theorem dX4_makeMoreWays_26 : decode cX4_makeMoreWays 26 = .ok (.iload 6, 2) := by decide +kernel
theorem dX4_makeMoreWays_28 : decode cX4_makeMoreWays 28 = .ok (.iload_n 1, 1) := by decide +kernel
theorem dX4_makeMoreWays_29 : decode cX4_makeMoreWays 29 = .ok (.imul, 1) := by decide +kernel
theorem dX4_makeMoreWays_30 : decode cX4_makeMoreWays 30 = .ok (.iload 4, 2) := by decide +kernel
theorem dX4_makeMoreWays_32 : decode cX4_makeMoreWays 32 = .ok (.if_icmp .gt 40, 3) := by decide +kernel
theorem dX4_makeMoreWays_35 : decode cX4_makeMoreWays 35 = .ok (.aload_n 0, 1) := by decide +kernel
theorem dX4_makeMoreWays_36 : decode cX4_makeMoreWays 36 = .ok (.getfield 49, 3) := by decide +kernel
theorem dX4_makeMoreWays_39 : decode cX4_makeMoreWays 39 = .ok (.iload 4, 2) := by decide +kernel
theorem dX4_makeMoreWays_41 : decode cX4_makeMoreWays 41 = .ok (.dup2, 1) := by decide +kernel
theorem dX4_makeMoreWays_42 : decode cX4_makeMoreWays 42 = .ok (.iaload, 1) := by decide +kernel
theorem dX4_makeMoreWays_43 : decode cX4_makeMoreWays 43 = .ok (.iload_n 1, 1) := by decide +kernel
theorem dX4_makeMoreWays_44 : decode cX4_makeMoreWays 44 = .ok (.ifCond .ne 8, 3) := by decide +kernel
theorem dX4_makeMoreWays_47 : decode cX4_makeMoreWays 47 = .ok (.iload 5, 2) := by decide +kernel
theorem dX4_makeMoreWays_49 : decode cX4_makeMoreWays 49 = .ok (.goto 15, 3) := by decide +kernel
theorem dX4_makeMoreWays_52 : decode cX4_makeMoreWays 52 = .ok (.aload_n 0, 1) := by decide +kernel
theorem dX4_makeMoreWays_53 : decode cX4_makeMoreWays 53 = .ok (.getfield 49, 3) := by decide +kernel
theorem dX4_makeMoreWays_56 : decode cX4_makeMoreWays 56 = .ok (.iload 4, 2) := by decide +kernel
theorem dX4_makeMoreWays_58 : decode cX4_makeMoreWays 58 = .ok (.iload 6, 2) := by decide +kernel
theorem dX4_makeMoreWays_60 : decode cX4_makeMoreWays 60 = .ok (.iload_n 1, 1) := by decide +kernel
theorem dX4_makeMoreWays_61 : decode cX4_makeMoreWays 61 = .ok (.imul, 1) := by decide +kernel
theorem dX4_makeMoreWays_62 : decode cX4_makeMoreWays 62 = .ok (.isub, 1) := by decide +kernel
theorem dX4_makeMoreWays_63 : decode cX4_makeMoreWays 63 = .ok (.iaload, 1) := by decide +kernel
theorem dX4_makeMoreWays_64 : decode cX4_makeMoreWays 64 = .ok (.iadd, 1) := by decide +kernel
theorem dX4_makeMoreWays_65 : decode cX4_makeMoreWays 65 = .ok (.iastore, 1) := by decide +kernel
theorem dX4_makeMoreWays_66 : decode cX4_makeMoreWays 66 = .ok (.iinc 6 1, 3) := by decide +kernel
theorem dX4_makeMoreWays_69 : decode cX4_makeMoreWays 69 = .ok (.goto (-49), 3) := by decide +kernel
theorem dX4_makeMoreWays_72 : decode cX4_makeMoreWays 72 = .ok (.iinc 4 (-1), 3) := by decide +kernel
theorem dX4_makeMoreWays_75 : decode cX4_makeMoreWays 75 = .ok (.goto (-72), 3) := by decide +kernel
theorem dX4_makeMoreWays_78 : decode cX4_makeMoreWays 78 = .ok (.return_, 1) := by decide +kernel
set_option maxRecDepth 20000 in
theorem ggX4_share_X4_isThere : GoodIn wsX4_share wsX4_isThere := goodIn_r _ [9, 2, 3, 20, 21, 22, 23, 24, 25, 26, 27, 28, 29, 30, 31, 32, 33, 34, 35, 36, 37, 38, 39, 40, 41, 42] rfl (by decide +kernel)
set_option maxRecDepth 20000 in
theorem gX4_share_X4_isThere : GoodIn wsX4_share (wsV RX4 112 RX4 yX4_isThere wsX4_isThere) := goodIn_app (goodIn_of _ (by decide +kernel)) ggX4_share_X4_isThere
set_option maxRecDepth 20000 in
theorem ggX4_share_X0_worthOfAll : GoodIn wsX4_share wsX0_worthOfAll := goodIn_r _ [14, 15, 16, 29, 30, 31, 32, 33, 34, 35, 36, 37, 38, 39, 40, 41, 42] rfl (by decide +kernel)
set_option maxRecDepth 20000 in
theorem gX4_share_X0_worthOfAll : GoodIn wsX4_share (wsV RX4 90 RX0 yX0_worthOfAll wsX0_worthOfAll) := goodIn_app (goodIn_of _ (by decide +kernel)) ggX4_share_X0_worthOfAll
set_option maxRecDepth 20000 in
theorem ggX4_share_X4_inLowestTerms : GoodIn wsX4_share wsX4_inLowestTerms := goodIn_r _ [19, 1] rfl (by decide +kernel)
set_option maxRecDepth 20000 in
theorem gX4_share_X4_inLowestTerms : GoodIn wsX4_share (va_wsS RX4 198 yX4_inLowestTerms wsX4_inLowestTerms) := goodIn_app (goodIn_of _ (by decide +kernel)) ggX4_share_X4_inLowestTerms
theorem dX4_share_0 : decode cX4_share 0 = .ok (.aload_n 0, 1) := by decide +kernel
theorem dX4_share_1 : decode cX4_share 1 = .ok (.iload_n 1, 1) := by decide +kernel
theorem dX4_share_2 : decode cX4_share 2 = .ok (.invokevirtual 112, 3) := by decide +kernel
theorem dX4_share_5 : decode cX4_share 5 = .ok (.ifCond .eq 12, 3) := by decide +kernel
theorem dX4_share_8 : decode cX4_share 8 = .ok (.iload_n 2, 1) := by decide +kernel
theorem dX4_share_9 : decode cX4_share 9 = .ok (.ifCond .lt 8, 3) := by decide +kernel
theorem dX4_share_12 : decode cX4_share 12 = .ok (.iload_n 2, 1) := by decide +kernel
theorem dX4_share_13 : decode cX4_share 13 = .ok (.iconst 1, 1) := by decide +kernel
theorem dX4_share_14 : decode cX4_share 14 = .ok (.if_icmp .le 7, 3) := by decide +kernel
theorem dX4_share_17 : decode cX4_share 17 = .ok (.ldc2_w 196, 3) := by decide +kernel
theorem dX4_share_20 : decode cX4_share 20 = .ok (.lreturn, 1) := by decide +kernel
theorem dX4_share_21 : decode cX4_share 21 = .ok (.aload_n 0, 1) := by decide +kernel
theorem dX4_share_22 : decode cX4_share 22 = .ok (.getfield 28, 3) := by decide +kernel
theorem dX4_share_25 : decode cX4_share 25 = .ok (.invokevirtual 90, 3) := by decide +kernel
theorem dX4_share_28 : decode cX4_share 28 = .ok (.istore_n 3, 1) := by decide +kernel
theorem dX4_share_29 : decode cX4_share 29 = .ok (.iconst 0, 1) := by decide +kernel
theorem dX4_share_30 : decode cX4_share 30 = .ok (.istore 4, 2) := by decide +kernel
theorem dX4_share_32 : decode cX4_share 32 = .ok (.iload 4, 2) := by decide +kernel
theorem dX4_share_34 : decode cX4_share 34 = .ok (.aload_n 0, 1) := by decide +kernel
theorem dX4_share_35 : decode cX4_share 35 = .ok (.getfield 28, 3) := by decide +kernel
theorem dX4_share_38 : decode cX4_share 38 = .ok (.getfield 56, 3) := by decide +kernel
theorem dX4_share_41 : decode cX4_share 41 = .ok (.if_icmp .ge 22, 3) := by decide +kernel
theorem dX4_share_44 : decode cX4_share 44 = .ok (.iload_n 3, 1) := by decide +kernel
theorem dX4_share_45 : decode cX4_share 45 = .ok (.aload_n 0, 1) := by decide +kernel
theorem dX4_share_46 : decode cX4_share 46 = .ok (.getfield 28, 3) := by decide +kernel
theorem dX4_share_49 : decode cX4_share 49 = .ok (.getfield 126, 3) := by decide +kernel
theorem dX4_share_52 : decode cX4_share 52 = .ok (.iload 4, 2) := by decide +kernel
theorem dX4_share_54 : decode cX4_share 54 = .ok (.iaload, 1) := by decide +kernel
theorem dX4_share_55 : decode cX4_share 55 = .ok (.iadd, 1) := by decide +kernel
theorem dX4_share_56 : decode cX4_share 56 = .ok (.istore_n 3, 1) := by decide +kernel
theorem dX4_share_57 : decode cX4_share 57 = .ok (.iinc 4 1, 3) := by decide +kernel
theorem dX4_share_60 : decode cX4_share 60 = .ok (.goto (-28), 3) := by decide +kernel
theorem dX4_share_63 : decode cX4_share 63 = .ok (.aload_n 0, 1) := by decide +kernel
theorem dX4_share_64 : decode cX4_share 64 = .ok (.getfield 28, 3) := by decide +kernel
theorem dX4_share_67 : decode cX4_share 67 = .ok (.getfield 126, 3) := by decide +kernel
theorem dX4_share_70 : decode cX4_share 70 = .ok (.iload_n 1, 1) := by decide +kernel
theorem dX4_share_71 : decode cX4_share 71 = .ok (.iaload, 1) := by decide +kernel
theorem dX4_share_72 : decode cX4_share 72 = .ok (.iload_n 3, 1) := by decide +kernel
theorem dX4_share_73 : decode cX4_share 73 = .ok (.iload_n 2, 1) := by decide +kernel
theorem dX4_share_74 : decode cX4_share 74 = .ok (.invokestatic 198, 3) := by decide +kernel
theorem dX4_share_77 : decode cX4_share 77 = .ok (.lreturn, 1) := by decide +kernel
theorem dX4_inLowestTerms_0 : decode cX4_inLowestTerms 0 = .ok (.iload_n 1, 1) := by decide +kernel
theorem dX4_inLowestTerms_1 : decode cX4_inLowestTerms 1 = .ok (.istore_n 3, 1) := by decide +kernel
theorem dX4_inLowestTerms_2 : decode cX4_inLowestTerms 2 = .ok (.iload_n 0, 1) := by decide +kernel
theorem dX4_inLowestTerms_3 : decode cX4_inLowestTerms 3 = .ok (.istore 4, 2) := by decide +kernel
theorem dX4_inLowestTerms_5 : decode cX4_inLowestTerms 5 = .ok (.iconst 0, 1) := by decide +kernel
theorem dX4_inLowestTerms_6 : decode cX4_inLowestTerms 6 = .ok (.istore 5, 2) := by decide +kernel
theorem dX4_inLowestTerms_8 : decode cX4_inLowestTerms 8 = .ok (.iload 5, 2) := by decide +kernel
theorem dX4_inLowestTerms_10 : decode cX4_inLowestTerms 10 = .ok (.bipush 100, 2) := by decide +kernel
theorem dX4_inLowestTerms_12 : decode cX4_inLowestTerms 12 = .ok (.if_icmp .ge 27, 3) := by decide +kernel
theorem dX4_inLowestTerms_15 : decode cX4_inLowestTerms 15 = .ok (.iload 4, 2) := by decide +kernel
theorem dX4_inLowestTerms_17 : decode cX4_inLowestTerms 17 = .ok (.ifCond .eq 22, 3) := by decide +kernel
theorem dX4_inLowestTerms_20 : decode cX4_inLowestTerms 20 = .ok (.iload_n 3, 1) := by decide +kernel
theorem dX4_inLowestTerms_21 : decode cX4_inLowestTerms 21 = .ok (.iload 4, 2) := by decide +kernel
theorem dX4_inLowestTerms_23 : decode cX4_inLowestTerms 23 = .ok (.irem, 1) := by decide +kernel
theorem dX4_inLowestTerms_24 : decode cX4_inLowestTerms 24 = .ok (.istore 6, 2) := by decide +kernel
theorem dX4_inLowestTerms_26 : decode cX4_inLowestTerms 26 = .ok (.iload 4, 2) := by decide +kernel
theorem dX4_inLowestTerms_28 : decode cX4_inLowestTerms 28 = .ok (.istore_n 3, 1) := by decide +kernel
theorem dX4_inLowestTerms_29 : decode cX4_inLowestTerms 29 = .ok (.iload 6, 2) := by decide +kernel
theorem dX4_inLowestTerms_31 : decode cX4_inLowestTerms 31 = .ok (.istore 4, 2) := by decide +kernel
theorem dX4_inLowestTerms_33 : decode cX4_inLowestTerms 33 = .ok (.iinc 5 1, 3) := by decide +kernel
theorem dX4_inLowestTerms_36 : decode cX4_inLowestTerms 36 = .ok (.goto (-28), 3) := by decide +kernel
theorem dX4_inLowestTerms_39 : decode cX4_inLowestTerms 39 = .ok (.iload_n 3, 1) := by decide +kernel
theorem dX4_inLowestTerms_40 : decode cX4_inLowestTerms 40 = .ok (.ifCond .eq 7, 3) := by decide +kernel
theorem dX4_inLowestTerms_43 : decode cX4_inLowestTerms 43 = .ok (.iload_n 1, 1) := by decide +kernel
theorem dX4_inLowestTerms_44 : decode cX4_inLowestTerms 44 = .ok (.ifCond .ne 7, 3) := by decide +kernel
theorem dX4_inLowestTerms_47 : decode cX4_inLowestTerms 47 = .ok (.ldc2_w 196, 3) := by decide +kernel
theorem dX4_inLowestTerms_50 : decode cX4_inLowestTerms 50 = .ok (.lreturn, 1) := by decide +kernel
theorem dX4_inLowestTerms_51 : decode cX4_inLowestTerms 51 = .ok (.iload_n 2, 1) := by decide +kernel
theorem dX4_inLowestTerms_52 : decode cX4_inLowestTerms 52 = .ok (.ifCond .ne 10, 3) := by decide +kernel
theorem dX4_inLowestTerms_55 : decode cX4_inLowestTerms 55 = .ok (.iload_n 0, 1) := by decide +kernel
theorem dX4_inLowestTerms_56 : decode cX4_inLowestTerms 56 = .ok (.iload_n 3, 1) := by decide +kernel
theorem dX4_inLowestTerms_57 : decode cX4_inLowestTerms 57 = .ok (.idiv, 1) := by decide +kernel
theorem dX4_inLowestTerms_58 : decode cX4_inLowestTerms 58 = .ok (.i2l, 1) := by decide +kernel
theorem dX4_inLowestTerms_59 : decode cX4_inLowestTerms 59 = .ok (.goto 7, 3) := by decide +kernel
theorem dX4_inLowestTerms_62 : decode cX4_inLowestTerms 62 = .ok (.iload_n 1, 1) := by decide +kernel
theorem dX4_inLowestTerms_63 : decode cX4_inLowestTerms 63 = .ok (.iload_n 3, 1) := by decide +kernel
theorem dX4_inLowestTerms_64 : decode cX4_inLowestTerms 64 = .ok (.idiv, 1) := by decide +kernel
theorem dX4_inLowestTerms_65 : decode cX4_inLowestTerms 65 = .ok (.i2l, 1) := by decide +kernel
theorem dX4_inLowestTerms_66 : decode cX4_inLowestTerms 66 = .ok (.lreturn, 1) := by decide +kernel
set_option maxRecDepth 20000 in
theorem ggX4_judge_X1_refusalToTell : GoodIn wsX4_judge wsX1_refusalToTell := goodIn_r _ [8, 9, 10, 11, 12, 13, 14, 15, 7, 16, 17, 106, 107, 108] rfl (by decide +kernel)
set_option maxRecDepth 20000 in
theorem gX4_judge_X1_refusalToTell : GoodIn wsX4_judge (wsV RX4 202 RX1 yX1_refusalToTell wsX1_refusalToTell) := goodIn_app (goodIn_of _ (by decide +kernel)) ggX4_judge_X1_refusalToTell
set_option maxRecDepth 20000 in
theorem ggX4_judge_X0_become : GoodIn wsX4_judge wsX0_become := goodIn_r _ [22, 23, 24, 25, 26, 27, 28, 29, 30, 31, 32, 33, 34, 35, 36, 37, 38, 109, 110, 111, 112, 113, 114, 115, 116, 117, 118, 119, 120, 121, 122] rfl (by decide +kernel)
set_option maxRecDepth 20000 in
theorem gX4_judge_X0_become : GoodIn wsX4_judge (wsV RX4 157 RX0 yX0_become wsX0_become) := goodIn_app (goodIn_of _ (by decide +kernel)) ggX4_judge_X0_become
set_option maxRecDepth 20000 in
theorem ggX4_judge_X4_otherwise : GoodIn wsX4_judge wsX4_otherwise := goodIn_r _ [42, 1, 43, 2, 44, 45, 46, 47, 21, 48, 34, 36, 49, 50, 51, 52, 28, 32, 23, 53, 54, 55, 56, 33, 57, 58, 59, 31, 37, 60, 61, 62, 63, 29, 30, 64, 65, 66, 67, 68, 35, 69, 38, 70, 71, 72, 73, 74, 75, 76, 77, 78, 79, 80, 81, 82, 83, 84, 85, 86, 87, 88, 89, 90, 91, 92, 93, 94, 95, 96, 97, 98, 99, 100, 101, 102, 103, 104, 105, 106, 107, 108, 109, 110, 111, 112, 113, 114, 115, 116, 117, 118, 119, 120, 121, 122, 123, 124, 125, 126] rfl (by decide +kernel)
set_option maxRecDepth 20000 in
theorem gX4_judge_X4_otherwise : GoodIn wsX4_judge (wsV RX4 205 RX4 yX4_otherwise wsX4_otherwise) := goodIn_app (goodIn_of _ (by decide +kernel)) ggX4_judge_X4_otherwise
theorem dX4_judge_0 : decode cX4_judge 0 = .ok (.aload_n 0, 1) := by decide +kernel
theorem dX4_judge_1 : decode cX4_judge 1 = .ok (.getfield 45, 3) := by decide +kernel
theorem dX4_judge_4 : decode cX4_judge 4 = .ok (.iload_n 1, 1) := by decide +kernel
theorem dX4_judge_5 : decode cX4_judge 5 = .ok (.invokevirtual 202, 3) := by decide +kernel
theorem dX4_judge_8 : decode cX4_judge 8 = .ok (.istore_n 2, 1) := by decide +kernel
theorem dX4_judge_9 : decode cX4_judge 9 = .ok (.iload_n 2, 1) := by decide +kernel
theorem dX4_judge_10 : decode cX4_judge 10 = .ok (.ifCond .eq 5, 3) := by decide +kernel
theorem dX4_judge_13 : decode cX4_judge 13 = .ok (.iload_n 2, 1) := by decide +kernel
theorem dX4_judge_14 : decode cX4_judge 14 = .ok (.ireturn, 1) := by decide +kernel
theorem dX4_judge_15 : decode cX4_judge 15 = .ok (.aload_n 0, 1) := by decide +kernel
theorem dX4_judge_16 : decode cX4_judge 16 = .ok (.getfield 32, 3) := by decide +kernel
theorem dX4_judge_19 : decode cX4_judge 19 = .ok (.aload_n 0, 1) := by decide +kernel
theorem dX4_judge_20 : decode cX4_judge 20 = .ok (.getfield 28, 3) := by decide +kernel
theorem dX4_judge_23 : decode cX4_judge 23 = .ok (.invokevirtual 157, 3) := by decide +kernel
theorem dX4_judge_26 : decode cX4_judge 26 = .ok (.aload_n 0, 1) := by decide +kernel
theorem dX4_judge_27 : decode cX4_judge 27 = .ok (.iload_n 1, 1) := by decide +kernel
theorem dX4_judge_28 : decode cX4_judge 28 = .ok (.invokevirtual 205, 3) := by decide +kernel
theorem dX4_judge_31 : decode cX4_judge 31 = .ok (.ireturn, 1) := by decide +kernel
set_option maxRecDepth 20000 in
theorem ggX4_otherwise_X0_goOn : GoodIn wsX4_otherwise wsX0_goOn := goodIn_r _ [9, 10, 11, 12, 13, 14, 8, 15, 16, 17, 18, 19, 20, 21, 22, 23, 24, 25, 26, 27, 28, 29, 30, 31, 32, 33, 34, 35, 36, 37, 38, 39, 40, 41, 42, 43, 44, 45, 46, 47, 48, 49, 50, 51, 52, 53, 54, 55, 56, 57, 58, 59, 60, 61, 62, 63, 64, 65, 66, 67, 68, 69, 82, 83, 84, 85, 86, 87, 88, 89, 90, 91, 92, 93, 94, 95, 96, 97, 98, 99] rfl (by decide +kernel)
set_option maxRecDepth 20000 in
theorem gX4_otherwise_X0_goOn : GoodIn wsX4_otherwise (wsV RX4 151 RX0 yX0_goOn wsX0_goOn) := goodIn_app (goodIn_of _ (by decide +kernel)) ggX4_otherwise_X0_goOn
theorem dX4_otherwise_0 : decode cX4_otherwise 0 = .ok (.iconst 0, 1) := by decide +kernel
theorem dX4_otherwise_1 : decode cX4_otherwise 1 = .ok (.istore_n 2, 1) := by decide +kernel
theorem dX4_otherwise_2 : decode cX4_otherwise 2 = .ok (.iload_n 2, 1) := by decide +kernel
theorem dX4_otherwise_3 : decode cX4_otherwise 3 = .ok (.aload_n 0, 1) := by decide +kernel
theorem dX4_otherwise_4 : decode cX4_otherwise 4 = .ok (.getfield 45, 3) := by decide +kernel
theorem dX4_otherwise_7 : decode cX4_otherwise 7 = .ok (.getfield 208, 3) := by decide +kernel
theorem dX4_otherwise_10 : decode cX4_otherwise 10 = .ok (.iload_n 1, 1) := by decide +kernel
theorem dX4_otherwise_11 : decode cX4_otherwise 11 = .ok (.iaload, 1) := by decide +kernel
theorem dX4_otherwise_12 : decode cX4_otherwise 12 = .ok (.if_icmp .ge 34, 3) := by decide +kernel
theorem dX4_otherwise_15 : decode cX4_otherwise 15 = .ok (.aload_n 0, 1) := by decide +kernel
theorem dX4_otherwise_16 : decode cX4_otherwise 16 = .ok (.getfield 32, 3) := by decide +kernel
theorem dX4_otherwise_19 : decode cX4_otherwise 19 = .ok (.invokevirtual 151, 3) := by decide +kernel
theorem dX4_otherwise_22 : decode cX4_otherwise 22 = .ok (.iconst 1, 1) := by decide +kernel
theorem dX4_otherwise_23 : decode cX4_otherwise 23 = .ok (.iadd, 1) := by decide +kernel
theorem dX4_otherwise_24 : decode cX4_otherwise 24 = .ok (.aload_n 0, 1) := by decide +kernel
theorem dX4_otherwise_25 : decode cX4_otherwise 25 = .ok (.getfield 45, 3) := by decide +kernel
theorem dX4_otherwise_28 : decode cX4_otherwise 28 = .ok (.getfield 211, 3) := by decide +kernel
theorem dX4_otherwise_31 : decode cX4_otherwise 31 = .ok (.iload_n 1, 1) := by decide +kernel
theorem dX4_otherwise_32 : decode cX4_otherwise 32 = .ok (.aaload, 1) := by decide +kernel
theorem dX4_otherwise_33 : decode cX4_otherwise 33 = .ok (.iload_n 2, 1) := by decide +kernel
theorem dX4_otherwise_34 : decode cX4_otherwise 34 = .ok (.iaload, 1) := by decide +kernel
theorem dX4_otherwise_35 : decode cX4_otherwise 35 = .ok (.if_icmp .eq 5, 3) := by decide +kernel
theorem dX4_otherwise_38 : decode cX4_otherwise 38 = .ok (.iload_n 2, 1) := by decide +kernel
theorem dX4_otherwise_39 : decode cX4_otherwise 39 = .ok (.ireturn, 1) := by decide +kernel
theorem dX4_otherwise_40 : decode cX4_otherwise 40 = .ok (.iinc 2 1, 3) := by decide +kernel
theorem dX4_otherwise_43 : decode cX4_otherwise 43 = .ok (.goto (-41), 3) := by decide +kernel
theorem dX4_otherwise_46 : decode cX4_otherwise 46 = .ok (.iconst (-1), 1) := by decide +kernel
theorem dX4_otherwise_47 : decode cX4_otherwise 47 = .ok (.ireturn, 1) := by decide +kernel
set_option maxRecDepth 20000 in
theorem ggX4_kinds_X4_isThere : GoodIn wsX4_kinds wsX4_isThere := goodIn_r _ [9, 2, 10, 108, 109, 110, 111, 112, 113, 114, 115, 116, 117, 118, 119, 120, 121, 122, 123, 124, 125, 126, 127, 128, 129, 130] rfl (by decide +kernel)
set_option maxRecDepth 20000 in
theorem gX4_kinds_X4_isThere : GoodIn wsX4_kinds (wsV RX4 112 RX4 yX4_isThere wsX4_isThere) := goodIn_app (goodIn_of _ (by decide +kernel)) ggX4_kinds_X4_isThere
set_option maxRecDepth 20000 in
theorem ggX4_kinds_X4_refusalOfOne : GoodIn wsX4_kinds wsX4_refusalOfOne := goodIn_r _ [14, 15, 16, 17, 18, 19, 20, 21, 22, 8, 23, 24, 25, 26, 27, 28, 108, 109, 110, 111, 112, 113, 114, 115, 116, 131, 132, 133] rfl (by decide +kernel)
set_option maxRecDepth 20000 in
theorem gX4_kinds_X4_refusalOfOne : GoodIn wsX4_kinds (wsV RX4 214 RX4 yX4_refusalOfOne wsX4_refusalOfOne) := goodIn_app (goodIn_of _ (by decide +kernel)) ggX4_kinds_X4_refusalOfOne
set_option maxRecDepth 20000 in
theorem ggX4_kinds_X0_become : GoodIn wsX4_kinds wsX0_become := goodIn_r _ [33, 34, 35, 36, 37, 38, 39, 40, 41, 42, 43, 44, 45, 46, 47, 48, 49, 117, 118, 119, 120, 121, 122, 123, 124, 125, 126, 127, 128, 129, 130] rfl (by decide +kernel)
set_option maxRecDepth 20000 in
theorem gX4_kinds_X0_become : GoodIn wsX4_kinds (wsV RX4 157 RX0 yX0_become wsX0_become) := goodIn_app (goodIn_of _ (by decide +kernel)) ggX4_kinds_X0_become
set_option maxRecDepth 20000 in
theorem ggX4_kinds_X4_otherwise : GoodIn wsX4_kinds wsX4_otherwise := goodIn_r _ [53, 15, 54, 1, 55, 56, 57, 58, 32, 59, 45, 47, 60, 61, 62, 63, 39, 43, 34, 64, 65, 66, 67, 44, 68, 69, 70, 42, 48, 71, 72, 73, 74, 40, 41, 75, 76, 77, 78, 79, 46, 80, 49, 81, 82, 83, 84, 85, 86, 87, 88, 89, 90, 91, 92, 93, 94, 95, 96, 97, 98, 99, 100, 101, 102, 103, 104, 105, 106, 107, 108, 109, 110, 111, 112, 113, 114, 115, 116, 131, 132, 133, 117, 118, 119, 120, 121, 122, 123, 124, 125, 126, 127, 128, 129, 130, 134, 135, 136, 137] rfl (by decide +kernel)
set_option maxRecDepth 20000 in
theorem gX4_kinds_X4_otherwise : GoodIn wsX4_kinds (wsV RX4 205 RX4 yX4_otherwise wsX4_otherwise) := goodIn_app (goodIn_of _ (by decide +kernel)) ggX4_kinds_X4_otherwise
theorem dX4_kinds_0 : decode cX4_kinds 0 = .ok (.aload_n 0, 1) := by decide +kernel
theorem dX4_kinds_1 : decode cX4_kinds 1 = .ok (.iload_n 1, 1) := by decide +kernel
theorem dX4_kinds_2 : decode cX4_kinds 2 = .ok (.aload_n 0, 1) := by decide +kernel
theorem dX4_kinds_3 : decode cX4_kinds 3 = .ok (.iload_n 2, 1) := by decide +kernel
theorem dX4_kinds_4 : decode cX4_kinds 4 = .ok (.invokevirtual 112, 3) := by decide +kernel
theorem dX4_kinds_7 : decode cX4_kinds 7 = .ok (.iload_n 3, 1) := by decide +kernel
theorem dX4_kinds_8 : decode cX4_kinds 8 = .ok (.invokevirtual 214, 3) := by decide +kernel
theorem dX4_kinds_11 : decode cX4_kinds 11 = .ok (.istore 4, 2) := by decide +kernel
theorem dX4_kinds_13 : decode cX4_kinds 13 = .ok (.iload 4, 2) := by decide +kernel
theorem dX4_kinds_15 : decode cX4_kinds 15 = .ok (.ifCond .eq 6, 3) := by decide +kernel
theorem dX4_kinds_18 : decode cX4_kinds 18 = .ok (.iload 4, 2) := by decide +kernel
theorem dX4_kinds_20 : decode cX4_kinds 20 = .ok (.ireturn, 1) := by decide +kernel
theorem dX4_kinds_21 : decode cX4_kinds 21 = .ok (.iconst 0, 1) := by decide +kernel
theorem dX4_kinds_22 : decode cX4_kinds 22 = .ok (.istore 5, 2) := by decide +kernel
theorem dX4_kinds_24 : decode cX4_kinds 24 = .ok (.iconst 0, 1) := by decide +kernel
theorem dX4_kinds_25 : decode cX4_kinds 25 = .ok (.istore 6, 2) := by decide +kernel
theorem dX4_kinds_27 : decode cX4_kinds 27 = .ok (.iload 6, 2) := by decide +kernel
theorem dX4_kinds_29 : decode cX4_kinds 29 = .ok (.iload_n 3, 1) := by decide +kernel
theorem dX4_kinds_30 : decode cX4_kinds 30 = .ok (.ifCond .ne 8, 3) := by decide +kernel
theorem dX4_kinds_33 : decode cX4_kinds 33 = .ok (.bipush 6, 2) := by decide +kernel
theorem dX4_kinds_35 : decode cX4_kinds 35 = .ok (.goto 5, 3) := by decide +kernel
theorem dX4_kinds_38 : decode cX4_kinds 38 = .ok (.bipush 10, 2) := by decide +kernel
theorem dX4_kinds_40 : decode cX4_kinds 40 = .ok (.if_icmp .ge 66, 3) := by decide +kernel
theorem dX4_kinds_43 : decode cX4_kinds 43 = .ok (.aload_n 0, 1) := by decide +kernel
theorem dX4_kinds_44 : decode cX4_kinds 44 = .ok (.getfield 32, 3) := by decide +kernel
theorem dX4_kinds_47 : decode cX4_kinds 47 = .ok (.aload_n 0, 1) := by decide +kernel
theorem dX4_kinds_48 : decode cX4_kinds 48 = .ok (.getfield 28, 3) := by decide +kernel
theorem dX4_kinds_51 : decode cX4_kinds 51 = .ok (.invokevirtual 157, 3) := by decide +kernel
theorem dX4_kinds_54 : decode cX4_kinds 54 = .ok (.iload_n 3, 1) := by decide +kernel
theorem dX4_kinds_55 : decode cX4_kinds 55 = .ok (.ifCond .ne 17, 3) := by decide +kernel
theorem dX4_kinds_58 : decode cX4_kinds 58 = .ok (.aload_n 0, 1) := by decide +kernel
theorem dX4_kinds_59 : decode cX4_kinds 59 = .ok (.getfield 32, 3) := by decide +kernel
theorem dX4_kinds_62 : decode cX4_kinds 62 = .ok (.getfield 132, 3) := by decide +kernel
theorem dX4_kinds_65 : decode cX4_kinds 65 = .ok (.iload_n 2, 1) := by decide +kernel
theorem dX4_kinds_66 : decode cX4_kinds 66 = .ok (.iload 6, 2) := by decide +kernel
theorem dX4_kinds_68 : decode cX4_kinds 68 = .ok (.iastore, 1) := by decide +kernel
theorem dX4_kinds_69 : decode cX4_kinds 69 = .ok (.goto 14, 3) := by decide +kernel
theorem dX4_kinds_72 : decode cX4_kinds 72 = .ok (.aload_n 0, 1) := by decide +kernel
theorem dX4_kinds_73 : decode cX4_kinds 73 = .ok (.getfield 32, 3) := by decide +kernel
theorem dX4_kinds_76 : decode cX4_kinds 76 = .ok (.getfield 135, 3) := by decide +kernel
theorem dX4_kinds_79 : decode cX4_kinds 79 = .ok (.iload_n 2, 1) := by decide +kernel
theorem dX4_kinds_80 : decode cX4_kinds 80 = .ok (.iload 6, 2) := by decide +kernel
theorem dX4_kinds_82 : decode cX4_kinds 82 = .ok (.iastore, 1) := by decide +kernel
theorem dX4_kinds_83 : decode cX4_kinds 83 = .ok (.aload_n 0, 1) := by decide +kernel
theorem dX4_kinds_84 : decode cX4_kinds 84 = .ok (.iload_n 1, 1) := by decide +kernel
theorem dX4_kinds_85 : decode cX4_kinds 85 = .ok (.invokevirtual 205, 3) := by decide +kernel
theorem dX4_kinds_88 : decode cX4_kinds 88 = .ok (.ifCond .ge 12, 3) := by decide +kernel
theorem dX4_kinds_91 : decode cX4_kinds 91 = .ok (.iload 5, 2) := by decide +kernel
theorem dX4_kinds_93 : decode cX4_kinds 93 = .ok (.iconst 1, 1) := by decide +kernel
theorem dX4_kinds_94 : decode cX4_kinds 94 = .ok (.iload 6, 2) := by decide +kernel
theorem dX4_kinds_96 : decode cX4_kinds 96 = .ok (.ishl, 1) := by decide +kernel
theorem dX4_kinds_97 : decode cX4_kinds 97 = .ok (.ior, 1) := by decide +kernel
theorem dX4_kinds_98 : decode cX4_kinds 98 = .ok (.istore 5, 2) := by decide +kernel
theorem dX4_kinds_100 : decode cX4_kinds 100 = .ok (.iinc 6 1, 3) := by decide +kernel
theorem dX4_kinds_103 : decode cX4_kinds 103 = .ok (.goto (-76), 3) := by decide +kernel
theorem dX4_kinds_106 : decode cX4_kinds 106 = .ok (.iload 5, 2) := by decide +kernel
theorem dX4_kinds_108 : decode cX4_kinds 108 = .ok (.ireturn, 1) := by decide +kernel
set_option maxRecDepth 20000 in
theorem ggX4_refusalOfOne_X1_refusalToTell : GoodIn wsX4_refusalOfOne wsX1_refusalToTell := goodIn_r _ [6, 7, 8, 9, 10, 11, 12, 13, 5, 14, 15, 25, 26, 27] rfl (by decide +kernel)
set_option maxRecDepth 20000 in
theorem gX4_refusalOfOne_X1_refusalToTell : GoodIn wsX4_refusalOfOne (wsV RX4 202 RX1 yX1_refusalToTell wsX1_refusalToTell) := goodIn_app (goodIn_of _ (by decide +kernel)) ggX4_refusalOfOne_X1_refusalToTell
theorem dX4_refusalOfOne_0 : decode cX4_refusalOfOne 0 = .ok (.aload_n 0, 1) := by decide +kernel
theorem dX4_refusalOfOne_1 : decode cX4_refusalOfOne 1 = .ok (.getfield 45, 3) := by decide +kernel
theorem dX4_refusalOfOne_4 : decode cX4_refusalOfOne 4 = .ok (.iload_n 1, 1) := by decide +kernel
theorem dX4_refusalOfOne_5 : decode cX4_refusalOfOne 5 = .ok (.invokevirtual 202, 3) := by decide +kernel
theorem dX4_refusalOfOne_8 : decode cX4_refusalOfOne 8 = .ok (.istore 4, 2) := by decide +kernel
theorem dX4_refusalOfOne_10 : decode cX4_refusalOfOne 10 = .ok (.iload 4, 2) := by decide +kernel
theorem dX4_refusalOfOne_12 : decode cX4_refusalOfOne 12 = .ok (.ifCond .eq 6, 3) := by decide +kernel
theorem dX4_refusalOfOne_15 : decode cX4_refusalOfOne 15 = .ok (.iload 4, 2) := by decide +kernel
theorem dX4_refusalOfOne_17 : decode cX4_refusalOfOne 17 = .ok (.ireturn, 1) := by decide +kernel
theorem dX4_refusalOfOne_18 : decode cX4_refusalOfOne 18 = .ok (.iload_n 2, 1) := by decide +kernel
theorem dX4_refusalOfOne_19 : decode cX4_refusalOfOne 19 = .ok (.ifCond .ne 6, 3) := by decide +kernel
theorem dX4_refusalOfOne_22 : decode cX4_refusalOfOne 22 = .ok (.bipush (-5), 2) := by decide +kernel
theorem dX4_refusalOfOne_24 : decode cX4_refusalOfOne 24 = .ok (.ireturn, 1) := by decide +kernel
theorem dX4_refusalOfOne_25 : decode cX4_refusalOfOne 25 = .ok (.iload_n 3, 1) := by decide +kernel
theorem dX4_refusalOfOne_26 : decode cX4_refusalOfOne 26 = .ok (.ifCond .lt 8, 3) := by decide +kernel
theorem dX4_refusalOfOne_29 : decode cX4_refusalOfOne 29 = .ok (.iload_n 3, 1) := by decide +kernel
theorem dX4_refusalOfOne_30 : decode cX4_refusalOfOne 30 = .ok (.iconst 1, 1) := by decide +kernel
theorem dX4_refusalOfOne_31 : decode cX4_refusalOfOne 31 = .ok (.if_icmp .le 8, 3) := by decide +kernel
theorem dX4_refusalOfOne_34 : decode cX4_refusalOfOne 34 = .ok (.bipush (-7), 2) := by decide +kernel
theorem dX4_refusalOfOne_36 : decode cX4_refusalOfOne 36 = .ok (.goto 4, 3) := by decide +kernel
theorem dX4_refusalOfOne_39 : decode cX4_refusalOfOne 39 = .ok (.iconst 0, 1) := by decide +kernel
theorem dX4_refusalOfOne_40 : decode cX4_refusalOfOne 40 = .ok (.ireturn, 1) := by decide +kernel
set_option maxRecDepth 20000 in
theorem ggX4_prides_X4_isThere : GoodIn wsX4_prides wsX4_isThere := goodIn_r _ [8, 2, 9, 107, 108, 109, 110, 111, 112, 113, 114, 115, 116, 117, 118, 119, 120, 121, 122, 123, 124, 125, 126, 127, 128, 129] rfl (by decide +kernel)
set_option maxRecDepth 20000 in
theorem gX4_prides_X4_isThere : GoodIn wsX4_prides (wsV RX4 112 RX4 yX4_isThere wsX4_isThere) := goodIn_app (goodIn_of _ (by decide +kernel)) ggX4_prides_X4_isThere
set_option maxRecDepth 20000 in
theorem ggX4_prides_X4_refusalOfOne : GoodIn wsX4_prides wsX4_refusalOfOne := goodIn_r _ [13, 14, 15, 16, 17, 18, 19, 20, 21, 7, 22, 23, 24, 25, 26, 27, 107, 108, 109, 110, 111, 112, 113, 114, 115, 130, 131, 132] rfl (by decide +kernel)
set_option maxRecDepth 20000 in
theorem gX4_prides_X4_refusalOfOne : GoodIn wsX4_prides (wsV RX4 214 RX4 yX4_refusalOfOne wsX4_refusalOfOne) := goodIn_app (goodIn_of _ (by decide +kernel)) ggX4_prides_X4_refusalOfOne
set_option maxRecDepth 20000 in
theorem ggX4_prides_X0_become : GoodIn wsX4_prides wsX0_become := goodIn_r _ [32, 33, 34, 35, 36, 37, 38, 39, 40, 41, 42, 43, 44, 45, 46, 47, 48, 116, 117, 118, 119, 120, 121, 122, 123, 124, 125, 126, 127, 128, 129] rfl (by decide +kernel)
set_option maxRecDepth 20000 in
theorem gX4_prides_X0_become : GoodIn wsX4_prides (wsV RX4 157 RX0 yX0_become wsX0_become) := goodIn_app (goodIn_of _ (by decide +kernel)) ggX4_prides_X0_become
set_option maxRecDepth 20000 in
theorem ggX4_prides_X4_otherwise : GoodIn wsX4_prides wsX4_otherwise := goodIn_r _ [52, 14, 53, 1, 54, 55, 56, 57, 31, 58, 44, 46, 59, 60, 61, 62, 38, 42, 33, 63, 64, 65, 66, 43, 67, 68, 69, 41, 47, 70, 71, 72, 73, 39, 40, 74, 75, 76, 77, 78, 45, 79, 48, 80, 81, 82, 83, 84, 85, 86, 87, 88, 89, 90, 91, 92, 93, 94, 95, 96, 97, 98, 99, 100, 101, 102, 103, 104, 105, 106, 107, 108, 109, 110, 111, 112, 113, 114, 115, 130, 131, 132, 116, 117, 118, 119, 120, 121, 122, 123, 124, 125, 126, 127, 128, 129, 133, 134, 135, 136] rfl (by decide +kernel)
set_option maxRecDepth 20000 in
theorem gX4_prides_X4_otherwise : GoodIn wsX4_prides (wsV RX4 205 RX4 yX4_otherwise wsX4_otherwise) := goodIn_app (goodIn_of _ (by decide +kernel)) ggX4_prides_X4_otherwise
theorem dX4_prides_0 : decode cX4_prides 0 = .ok (.aload_n 0, 1) := by decide +kernel
theorem dX4_prides_1 : decode cX4_prides 1 = .ok (.iload_n 1, 1) := by decide +kernel
theorem dX4_prides_2 : decode cX4_prides 2 = .ok (.aload_n 0, 1) := by decide +kernel
theorem dX4_prides_3 : decode cX4_prides 3 = .ok (.iload_n 2, 1) := by decide +kernel
theorem dX4_prides_4 : decode cX4_prides 4 = .ok (.invokevirtual 112, 3) := by decide +kernel
theorem dX4_prides_7 : decode cX4_prides 7 = .ok (.iload_n 3, 1) := by decide +kernel
theorem dX4_prides_8 : decode cX4_prides 8 = .ok (.invokevirtual 214, 3) := by decide +kernel
theorem dX4_prides_11 : decode cX4_prides 11 = .ok (.istore 4, 2) := by decide +kernel
theorem dX4_prides_13 : decode cX4_prides 13 = .ok (.iload 4, 2) := by decide +kernel
theorem dX4_prides_15 : decode cX4_prides 15 = .ok (.ifCond .eq 6, 3) := by decide +kernel
theorem dX4_prides_18 : decode cX4_prides 18 = .ok (.iload 4, 2) := by decide +kernel
theorem dX4_prides_20 : decode cX4_prides 20 = .ok (.ireturn, 1) := by decide +kernel
theorem dX4_prides_21 : decode cX4_prides 21 = .ok (.iconst 0, 1) := by decide +kernel
theorem dX4_prides_22 : decode cX4_prides 22 = .ok (.istore 5, 2) := by decide +kernel
theorem dX4_prides_24 : decode cX4_prides 24 = .ok (.iconst (-1), 1) := by decide +kernel
theorem dX4_prides_25 : decode cX4_prides 25 = .ok (.istore 6, 2) := by decide +kernel
theorem dX4_prides_27 : decode cX4_prides 27 = .ok (.bipush 99, 2) := by decide +kernel
theorem dX4_prides_29 : decode cX4_prides 29 = .ok (.istore 7, 2) := by decide +kernel
theorem dX4_prides_31 : decode cX4_prides 31 = .ok (.iload 7, 2) := by decide +kernel
theorem dX4_prides_33 : decode cX4_prides 33 = .ok (.ifCond .lt 46, 3) := by decide +kernel
theorem dX4_prides_36 : decode cX4_prides 36 = .ok (.aload_n 0, 1) := by decide +kernel
theorem dX4_prides_37 : decode cX4_prides 37 = .ok (.getfield 32, 3) := by decide +kernel
theorem dX4_prides_40 : decode cX4_prides 40 = .ok (.aload_n 0, 1) := by decide +kernel
theorem dX4_prides_41 : decode cX4_prides 41 = .ok (.getfield 28, 3) := by decide +kernel
theorem dX4_prides_44 : decode cX4_prides 44 = .ok (.invokevirtual 157, 3) := by decide +kernel
theorem dX4_prides_47 : decode cX4_prides 47 = .ok (.aload_n 0, 1) := by decide +kernel
theorem dX4_prides_48 : decode cX4_prides 48 = .ok (.getfield 32, 3) := by decide +kernel
theorem dX4_prides_51 : decode cX4_prides 51 = .ok (.getfield 123, 3) := by decide +kernel
theorem dX4_prides_54 : decode cX4_prides 54 = .ok (.iload_n 2, 1) := by decide +kernel
theorem dX4_prides_55 : decode cX4_prides 55 = .ok (.iload 7, 2) := by decide +kernel
theorem dX4_prides_57 : decode cX4_prides 57 = .ok (.iastore, 1) := by decide +kernel
theorem dX4_prides_58 : decode cX4_prides 58 = .ok (.aload_n 0, 1) := by decide +kernel
theorem dX4_prides_59 : decode cX4_prides 59 = .ok (.iload_n 1, 1) := by decide +kernel
theorem dX4_prides_60 : decode cX4_prides 60 = .ok (.invokevirtual 205, 3) := by decide +kernel
theorem dX4_prides_63 : decode cX4_prides 63 = .ok (.ifCond .ge 10, 3) := by decide +kernel
theorem dX4_prides_66 : decode cX4_prides 66 = .ok (.iinc 5 1, 3) := by decide +kernel
theorem dX4_prides_69 : decode cX4_prides 69 = .ok (.iload 7, 2) := by decide +kernel
theorem dX4_prides_71 : decode cX4_prides 71 = .ok (.istore 6, 2) := by decide +kernel
theorem dX4_prides_73 : decode cX4_prides 73 = .ok (.iinc 7 (-1), 3) := by decide +kernel
theorem dX4_prides_76 : decode cX4_prides 76 = .ok (.goto (-45), 3) := by decide +kernel
theorem dX4_prides_79 : decode cX4_prides 79 = .ok (.iload_n 3, 1) := by decide +kernel
theorem dX4_prides_80 : decode cX4_prides 80 = .ok (.ifCond .ne 8, 3) := by decide +kernel
theorem dX4_prides_83 : decode cX4_prides 83 = .ok (.iload 5, 2) := by decide +kernel
theorem dX4_prides_85 : decode cX4_prides 85 = .ok (.goto 5, 3) := by decide +kernel
theorem dX4_prides_88 : decode cX4_prides 88 = .ok (.iload 6, 2) := by decide +kernel
theorem dX4_prides_90 : decode cX4_prides 90 = .ok (.ireturn, 1) := by decide +kernel
set_option maxRecDepth 20000 in
theorem ggX4_hats_X4_isSort : GoodIn wsX4_hats wsX4_isSort := goodIn_r _ [6] rfl (by decide +kernel)
set_option maxRecDepth 20000 in
theorem gX4_hats_X4_isSort : GoodIn wsX4_hats (va_wsS RX4 76 yX4_isSort wsX4_isSort) := goodIn_app (goodIn_of _ (by decide +kernel)) ggX4_hats_X4_isSort
set_option maxRecDepth 20000 in
theorem ggX4_hats_X4_refusalOfOne : GoodIn wsX4_hats wsX4_refusalOfOne := goodIn_r _ [10, 11, 12, 13, 14, 15, 16, 17, 18, 5, 19, 20, 21, 22, 23, 24, 105, 106, 107, 108, 109, 110, 111, 112, 113, 114, 115, 116] rfl (by decide +kernel)
set_option maxRecDepth 20000 in
theorem gX4_hats_X4_refusalOfOne : GoodIn wsX4_hats (wsV RX4 214 RX4 yX4_refusalOfOne wsX4_refusalOfOne) := goodIn_app (goodIn_of _ (by decide +kernel)) ggX4_hats_X4_refusalOfOne
set_option maxRecDepth 20000 in
theorem ggX4_hats_X0_become : GoodIn wsX4_hats wsX0_become := goodIn_r _ [29, 30, 31, 32, 33, 34, 35, 36, 37, 38, 39, 40, 41, 42, 43, 44, 45, 117, 118, 119, 120, 121, 122, 123, 124, 125, 126, 127, 128, 129, 130] rfl (by decide +kernel)
set_option maxRecDepth 20000 in
theorem gX4_hats_X0_become : GoodIn wsX4_hats (wsV RX4 157 RX0 yX0_become wsX0_become) := goodIn_app (goodIn_of _ (by decide +kernel)) ggX4_hats_X0_become
set_option maxRecDepth 20000 in
theorem ggX4_hats_X0_setInHat : GoodIn wsX4_hats wsX0_setInHat := goodIn_r _ [49, 42, 35, 117, 118, 119, 120, 121, 122, 123, 124, 125, 126, 127, 128, 129, 130] rfl (by decide +kernel)
set_option maxRecDepth 20000 in
theorem gX4_hats_X0_setInHat : GoodIn wsX4_hats (wsV RX4 86 RX0 yX0_setInHat wsX0_setInHat) := goodIn_app (goodIn_of _ (by decide +kernel)) ggX4_hats_X0_setInHat
set_option maxRecDepth 20000 in
theorem ggX4_hats_X4_otherwise : GoodIn wsX4_hats wsX4_otherwise := goodIn_r _ [53, 11, 54, 1, 55, 56, 57, 58, 28, 59, 41, 43, 60, 61, 62, 63, 35, 39, 30, 64, 65, 66, 67, 40, 68, 69, 70, 38, 44, 71, 72, 73, 74, 36, 37, 75, 76, 77, 78, 79, 42, 80, 45, 81, 82, 83, 84, 85, 86, 87, 88, 89, 90, 91, 92, 93, 94, 95, 96, 97, 98, 99, 100, 101, 102, 103, 104, 47, 48, 49, 105, 106, 107, 108, 109, 110, 111, 112, 113, 114, 115, 116, 117, 118, 119, 120, 121, 122, 123, 124, 125, 126, 127, 128, 129, 130, 131, 132, 133, 134] rfl (by decide +kernel)
set_option maxRecDepth 20000 in
theorem gX4_hats_X4_otherwise : GoodIn wsX4_hats (wsV RX4 205 RX4 yX4_otherwise wsX4_otherwise) := goodIn_app (goodIn_of _ (by decide +kernel)) ggX4_hats_X4_otherwise
theorem dX4_hats_0 : decode cX4_hats 0 = .ok (.aload_n 0, 1) := by decide +kernel
theorem dX4_hats_1 : decode cX4_hats 1 = .ok (.iload_n 1, 1) := by decide +kernel
theorem dX4_hats_2 : decode cX4_hats 2 = .ok (.iload_n 2, 1) := by decide +kernel
theorem dX4_hats_3 : decode cX4_hats 3 = .ok (.invokestatic 76, 3) := by decide +kernel
theorem dX4_hats_6 : decode cX4_hats 6 = .ok (.iload_n 3, 1) := by decide +kernel
theorem dX4_hats_7 : decode cX4_hats 7 = .ok (.invokevirtual 214, 3) := by decide +kernel
theorem dX4_hats_10 : decode cX4_hats 10 = .ok (.istore 4, 2) := by decide +kernel
theorem dX4_hats_12 : decode cX4_hats 12 = .ok (.iload 4, 2) := by decide +kernel
theorem dX4_hats_14 : decode cX4_hats 14 = .ok (.ifCond .eq 6, 3) := by decide +kernel
theorem dX4_hats_17 : decode cX4_hats 17 = .ok (.iload 4, 2) := by decide +kernel
theorem dX4_hats_19 : decode cX4_hats 19 = .ok (.ireturn, 1) := by decide +kernel
theorem dX4_hats_20 : decode cX4_hats 20 = .ok (.iconst 0, 1) := by decide +kernel
theorem dX4_hats_21 : decode cX4_hats 21 = .ok (.istore 5, 2) := by decide +kernel
theorem dX4_hats_23 : decode cX4_hats 23 = .ok (.iconst (-1), 1) := by decide +kernel
theorem dX4_hats_24 : decode cX4_hats 24 = .ok (.istore 6, 2) := by decide +kernel
theorem dX4_hats_26 : decode cX4_hats 26 = .ok (.bipush 20, 2) := by decide +kernel
theorem dX4_hats_28 : decode cX4_hats 28 = .ok (.istore 7, 2) := by decide +kernel
theorem dX4_hats_30 : decode cX4_hats 30 = .ok (.iload 7, 2) := by decide +kernel
theorem dX4_hats_32 : decode cX4_hats 32 = .ok (.ifCond .lt 45, 3) := by decide +kernel
theorem dX4_hats_35 : decode cX4_hats 35 = .ok (.aload_n 0, 1) := by decide +kernel
theorem dX4_hats_36 : decode cX4_hats 36 = .ok (.getfield 32, 3) := by decide +kernel
theorem dX4_hats_39 : decode cX4_hats 39 = .ok (.aload_n 0, 1) := by decide +kernel
theorem dX4_hats_40 : decode cX4_hats 40 = .ok (.getfield 28, 3) := by decide +kernel
theorem dX4_hats_43 : decode cX4_hats 43 = .ok (.invokevirtual 157, 3) := by decide +kernel
theorem dX4_hats_46 : decode cX4_hats 46 = .ok (.aload_n 0, 1) := by decide +kernel
theorem dX4_hats_47 : decode cX4_hats 47 = .ok (.getfield 32, 3) := by decide +kernel
theorem dX4_hats_50 : decode cX4_hats 50 = .ok (.iload_n 2, 1) := by decide +kernel
theorem dX4_hats_51 : decode cX4_hats 51 = .ok (.iload 7, 2) := by decide +kernel
theorem dX4_hats_53 : decode cX4_hats 53 = .ok (.invokevirtual 86, 3) := by decide +kernel
theorem dX4_hats_56 : decode cX4_hats 56 = .ok (.aload_n 0, 1) := by decide +kernel
theorem dX4_hats_57 : decode cX4_hats 57 = .ok (.iload_n 1, 1) := by decide +kernel
theorem dX4_hats_58 : decode cX4_hats 58 = .ok (.invokevirtual 205, 3) := by decide +kernel
theorem dX4_hats_61 : decode cX4_hats 61 = .ok (.ifCond .ge 10, 3) := by decide +kernel
theorem dX4_hats_64 : decode cX4_hats 64 = .ok (.iinc 5 1, 3) := by decide +kernel
theorem dX4_hats_67 : decode cX4_hats 67 = .ok (.iload 7, 2) := by decide +kernel
theorem dX4_hats_69 : decode cX4_hats 69 = .ok (.istore 6, 2) := by decide +kernel
theorem dX4_hats_71 : decode cX4_hats 71 = .ok (.iinc 7 (-1), 3) := by decide +kernel
theorem dX4_hats_74 : decode cX4_hats 74 = .ok (.goto (-44), 3) := by decide +kernel
theorem dX4_hats_77 : decode cX4_hats 77 = .ok (.iload_n 3, 1) := by decide +kernel
theorem dX4_hats_78 : decode cX4_hats 78 = .ok (.ifCond .ne 8, 3) := by decide +kernel
theorem dX4_hats_81 : decode cX4_hats 81 = .ok (.iload 5, 2) := by decide +kernel
theorem dX4_hats_83 : decode cX4_hats 83 = .ok (.goto 5, 3) := by decide +kernel
theorem dX4_hats_86 : decode cX4_hats 86 = .ok (.iload 6, 2) := by decide +kernel
theorem dX4_hats_88 : decode cX4_hats 88 = .ok (.ireturn, 1) := by decide +kernel
set_option maxRecDepth 20000 in
theorem ggX4_starts_X1_refusalToTell : GoodIn wsX4_starts wsX1_refusalToTell := goodIn_r _ [10, 11, 12, 13, 14, 15, 16, 17, 9, 18, 19, 122, 123, 124] rfl (by decide +kernel)
set_option maxRecDepth 20000 in
theorem gX4_starts_X1_refusalToTell : GoodIn wsX4_starts (wsV RX4 202 RX1 yX1_refusalToTell wsX1_refusalToTell) := goodIn_app (goodIn_of _ (by decide +kernel)) ggX4_starts_X1_refusalToTell
set_option maxRecDepth 20000 in
theorem ggX4_starts_X0_become : GoodIn wsX4_starts wsX0_become := goodIn_r _ [24, 25, 26, 27, 28, 29, 30, 31, 32, 33, 34, 35, 36, 37, 38, 39, 40, 108, 109, 110, 111, 112, 113, 114, 115, 116, 117, 118, 119, 120, 121] rfl (by decide +kernel)
set_option maxRecDepth 20000 in
theorem gX4_starts_X0_become : GoodIn wsX4_starts (wsV RX4 157 RX0 yX0_become wsX0_become) := goodIn_app (goodIn_of _ (by decide +kernel)) ggX4_starts_X0_become
set_option maxRecDepth 20000 in
theorem ggX4_starts_X4_otherwise : GoodIn wsX4_starts wsX4_otherwise := goodIn_r _ [44, 1, 45, 4, 46, 47, 48, 49, 23, 50, 36, 38, 51, 52, 53, 54, 30, 34, 25, 55, 56, 57, 58, 35, 59, 60, 61, 33, 39, 62, 63, 64, 65, 31, 32, 66, 67, 68, 69, 70, 37, 71, 40, 72, 73, 74, 75, 76, 77, 78, 79, 80, 81, 82, 83, 84, 85, 86, 87, 88, 89, 90, 91, 92, 93, 94, 95, 96, 97, 98, 99, 100, 101, 102, 103, 104, 105, 106, 107, 122, 123, 124, 108, 109, 110, 111, 112, 113, 114, 115, 116, 117, 118, 119, 120, 121, 125, 126, 127, 128] rfl (by decide +kernel)
set_option maxRecDepth 20000 in
theorem gX4_starts_X4_otherwise : GoodIn wsX4_starts (wsV RX4 205 RX4 yX4_otherwise wsX4_otherwise) := goodIn_app (goodIn_of _ (by decide +kernel)) ggX4_starts_X4_otherwise
theorem dX4_starts_0 : decode cX4_starts 0 = .ok (.aload_n 0, 1) := by decide +kernel
theorem dX4_starts_1 : decode cX4_starts 1 = .ok (.getfield 45, 3) := by decide +kernel
theorem dX4_starts_4 : decode cX4_starts 4 = .ok (.iload_n 1, 1) := by decide +kernel
theorem dX4_starts_5 : decode cX4_starts 5 = .ok (.invokevirtual 202, 3) := by decide +kernel
theorem dX4_starts_8 : decode cX4_starts 8 = .ok (.istore_n 2, 1) := by decide +kernel
theorem dX4_starts_9 : decode cX4_starts 9 = .ok (.iload_n 2, 1) := by decide +kernel
theorem dX4_starts_10 : decode cX4_starts 10 = .ok (.ifCond .eq 5, 3) := by decide +kernel
theorem dX4_starts_13 : decode cX4_starts 13 = .ok (.iload_n 2, 1) := by decide +kernel
theorem dX4_starts_14 : decode cX4_starts 14 = .ok (.ireturn, 1) := by decide +kernel
theorem dX4_starts_15 : decode cX4_starts 15 = .ok (.iconst 0, 1) := by decide +kernel
theorem dX4_starts_16 : decode cX4_starts 16 = .ok (.istore_n 3, 1) := by decide +kernel
theorem dX4_starts_17 : decode cX4_starts 17 = .ok (.iconst 0, 1) := by decide +kernel
theorem dX4_starts_18 : decode cX4_starts 18 = .ok (.istore 4, 2) := by decide +kernel
theorem dX4_starts_20 : decode cX4_starts 20 = .ok (.iload 4, 2) := by decide +kernel
theorem dX4_starts_22 : decode cX4_starts 22 = .ok (.aload_n 0, 1) := by decide +kernel
theorem dX4_starts_23 : decode cX4_starts 23 = .ok (.getfield 28, 3) := by decide +kernel
theorem dX4_starts_26 : decode cX4_starts 26 = .ok (.getfield 56, 3) := by decide +kernel
theorem dX4_starts_29 : decode cX4_starts 29 = .ok (.if_icmp .ge 44, 3) := by decide +kernel
theorem dX4_starts_32 : decode cX4_starts 32 = .ok (.aload_n 0, 1) := by decide +kernel
theorem dX4_starts_33 : decode cX4_starts 33 = .ok (.getfield 32, 3) := by decide +kernel
theorem dX4_starts_36 : decode cX4_starts 36 = .ok (.aload_n 0, 1) := by decide +kernel
theorem dX4_starts_37 : decode cX4_starts 37 = .ok (.getfield 28, 3) := by decide +kernel
theorem dX4_starts_40 : decode cX4_starts 40 = .ok (.invokevirtual 157, 3) := by decide +kernel
theorem dX4_starts_43 : decode cX4_starts 43 = .ok (.aload_n 0, 1) := by decide +kernel
theorem dX4_starts_44 : decode cX4_starts 44 = .ok (.getfield 32, 3) := by decide +kernel
theorem dX4_starts_47 : decode cX4_starts 47 = .ok (.iload 4, 2) := by decide +kernel
theorem dX4_starts_49 : decode cX4_starts 49 = .ok (.putfield 73, 3) := by decide +kernel
theorem dX4_starts_52 : decode cX4_starts 52 = .ok (.aload_n 0, 1) := by decide +kernel
theorem dX4_starts_53 : decode cX4_starts 53 = .ok (.iload_n 1, 1) := by decide +kernel
theorem dX4_starts_54 : decode cX4_starts 54 = .ok (.invokevirtual 205, 3) := by decide +kernel
theorem dX4_starts_57 : decode cX4_starts 57 = .ok (.ifCond .ge 10, 3) := by decide +kernel
theorem dX4_starts_60 : decode cX4_starts 60 = .ok (.iload_n 3, 1) := by decide +kernel
theorem dX4_starts_61 : decode cX4_starts 61 = .ok (.iconst 1, 1) := by decide +kernel
theorem dX4_starts_62 : decode cX4_starts 62 = .ok (.iload 4, 2) := by decide +kernel
theorem dX4_starts_64 : decode cX4_starts 64 = .ok (.ishl, 1) := by decide +kernel
theorem dX4_starts_65 : decode cX4_starts 65 = .ok (.ior, 1) := by decide +kernel
theorem dX4_starts_66 : decode cX4_starts 66 = .ok (.istore_n 3, 1) := by decide +kernel
theorem dX4_starts_67 : decode cX4_starts 67 = .ok (.iinc 4 1, 3) := by decide +kernel
theorem dX4_starts_70 : decode cX4_starts 70 = .ok (.goto (-50), 3) := by decide +kernel
theorem dX4_starts_73 : decode cX4_starts 73 = .ok (.iload_n 3, 1) := by decide +kernel
theorem dX4_starts_74 : decode cX4_starts 74 = .ok (.ireturn, 1) := by decide +kernel
set_option maxRecDepth 20000 in
theorem ggX4_laws_X1_refusalToTell : GoodIn wsX4_laws wsX1_refusalToTell := goodIn_r _ [11, 12, 13, 14, 15, 16, 17, 18, 10, 19, 20, 127, 128, 129] rfl (by decide +kernel)
set_option maxRecDepth 20000 in
theorem gX4_laws_X1_refusalToTell : GoodIn wsX4_laws (wsV RX4 202 RX1 yX1_refusalToTell wsX1_refusalToTell) := goodIn_app (goodIn_of _ (by decide +kernel)) ggX4_laws_X1_refusalToTell
set_option maxRecDepth 20000 in
theorem ggX4_laws_X0_become : GoodIn wsX4_laws wsX0_become := goodIn_r _ [25, 26, 27, 28, 29, 30, 31, 32, 33, 34, 35, 36, 37, 38, 39, 40, 41, 113, 114, 115, 116, 117, 118, 119, 120, 121, 122, 123, 124, 125, 126] rfl (by decide +kernel)
set_option maxRecDepth 20000 in
theorem gX4_laws_X0_become : GoodIn wsX4_laws (wsV RX4 157 RX0 yX0_become wsX0_become) := goodIn_app (goodIn_of _ (by decide +kernel)) ggX4_laws_X0_become
set_option maxRecDepth 20000 in
theorem ggX4_laws_X4_otherwise : GoodIn wsX4_laws wsX4_otherwise := goodIn_r _ [45, 1, 46, 4, 47, 48, 49, 50, 24, 51, 37, 39, 52, 53, 54, 55, 31, 35, 26, 56, 57, 58, 59, 36, 60, 61, 62, 34, 40, 63, 64, 65, 66, 32, 33, 67, 68, 69, 70, 71, 38, 72, 41, 73, 74, 75, 76, 77, 78, 79, 80, 81, 82, 83, 84, 85, 86, 87, 88, 89, 90, 91, 92, 93, 94, 95, 96, 97, 98, 99, 100, 101, 102, 103, 104, 105, 106, 107, 108, 127, 128, 129, 113, 114, 115, 116, 117, 118, 119, 120, 121, 122, 123, 124, 125, 126, 109, 110, 111, 112] rfl (by decide +kernel)
set_option maxRecDepth 20000 in
theorem gX4_laws_X4_otherwise : GoodIn wsX4_laws (wsV RX4 205 RX4 yX4_otherwise wsX4_otherwise) := goodIn_app (goodIn_of _ (by decide +kernel)) ggX4_laws_X4_otherwise
theorem dX4_laws_0 : decode cX4_laws 0 = .ok (.aload_n 0, 1) := by decide +kernel
theorem dX4_laws_1 : decode cX4_laws 1 = .ok (.getfield 45, 3) := by decide +kernel
theorem dX4_laws_4 : decode cX4_laws 4 = .ok (.iload_n 1, 1) := by decide +kernel
theorem dX4_laws_5 : decode cX4_laws 5 = .ok (.invokevirtual 202, 3) := by decide +kernel
theorem dX4_laws_8 : decode cX4_laws 8 = .ok (.istore_n 2, 1) := by decide +kernel
theorem dX4_laws_9 : decode cX4_laws 9 = .ok (.iload_n 2, 1) := by decide +kernel
theorem dX4_laws_10 : decode cX4_laws 10 = .ok (.ifCond .eq 5, 3) := by decide +kernel
theorem dX4_laws_13 : decode cX4_laws 13 = .ok (.iload_n 2, 1) := by decide +kernel
theorem dX4_laws_14 : decode cX4_laws 14 = .ok (.ireturn, 1) := by decide +kernel
theorem dX4_laws_15 : decode cX4_laws 15 = .ok (.iconst 0, 1) := by decide +kernel
theorem dX4_laws_16 : decode cX4_laws 16 = .ok (.istore_n 3, 1) := by decide +kernel
theorem dX4_laws_17 : decode cX4_laws 17 = .ok (.iconst 0, 1) := by decide +kernel
theorem dX4_laws_18 : decode cX4_laws 18 = .ok (.istore 4, 2) := by decide +kernel
theorem dX4_laws_20 : decode cX4_laws 20 = .ok (.iload 4, 2) := by decide +kernel
theorem dX4_laws_22 : decode cX4_laws 22 = .ok (.aload_n 0, 1) := by decide +kernel
theorem dX4_laws_23 : decode cX4_laws 23 = .ok (.getfield 10, 3) := by decide +kernel
theorem dX4_laws_26 : decode cX4_laws 26 = .ok (.getfield 66, 3) := by decide +kernel
theorem dX4_laws_29 : decode cX4_laws 29 = .ok (.if_icmp .ge 44, 3) := by decide +kernel
theorem dX4_laws_32 : decode cX4_laws 32 = .ok (.aload_n 0, 1) := by decide +kernel
theorem dX4_laws_33 : decode cX4_laws 33 = .ok (.getfield 32, 3) := by decide +kernel
theorem dX4_laws_36 : decode cX4_laws 36 = .ok (.aload_n 0, 1) := by decide +kernel
theorem dX4_laws_37 : decode cX4_laws 37 = .ok (.getfield 28, 3) := by decide +kernel
theorem dX4_laws_40 : decode cX4_laws 40 = .ok (.invokevirtual 157, 3) := by decide +kernel
theorem dX4_laws_43 : decode cX4_laws 43 = .ok (.aload_n 0, 1) := by decide +kernel
theorem dX4_laws_44 : decode cX4_laws 44 = .ok (.getfield 32, 3) := by decide +kernel
theorem dX4_laws_47 : decode cX4_laws 47 = .ok (.iload 4, 2) := by decide +kernel
theorem dX4_laws_49 : decode cX4_laws 49 = .ok (.putfield 69, 3) := by decide +kernel
theorem dX4_laws_52 : decode cX4_laws 52 = .ok (.aload_n 0, 1) := by decide +kernel
theorem dX4_laws_53 : decode cX4_laws 53 = .ok (.iload_n 1, 1) := by decide +kernel
theorem dX4_laws_54 : decode cX4_laws 54 = .ok (.invokevirtual 205, 3) := by decide +kernel
theorem dX4_laws_57 : decode cX4_laws 57 = .ok (.ifCond .ge 10, 3) := by decide +kernel
theorem dX4_laws_60 : decode cX4_laws 60 = .ok (.iload_n 3, 1) := by decide +kernel
theorem dX4_laws_61 : decode cX4_laws 61 = .ok (.iconst 1, 1) := by decide +kernel
theorem dX4_laws_62 : decode cX4_laws 62 = .ok (.iload 4, 2) := by decide +kernel
theorem dX4_laws_64 : decode cX4_laws 64 = .ok (.ishl, 1) := by decide +kernel
theorem dX4_laws_65 : decode cX4_laws 65 = .ok (.ior, 1) := by decide +kernel
theorem dX4_laws_66 : decode cX4_laws 66 = .ok (.istore_n 3, 1) := by decide +kernel
theorem dX4_laws_67 : decode cX4_laws 67 = .ok (.iinc 4 1, 3) := by decide +kernel
theorem dX4_laws_70 : decode cX4_laws 70 = .ok (.goto (-50), 3) := by decide +kernel
theorem dX4_laws_73 : decode cX4_laws 73 = .ok (.iload_n 3, 1) := by decide +kernel
theorem dX4_laws_74 : decode cX4_laws 74 = .ok (.ireturn, 1) := by decide +kernel
set_option maxRecDepth 20000 in
theorem ggX4_film_X4_isSheet : GoodIn wsX4_film wsX4_isSheet := goodIn_r _ [8] rfl (by decide +kernel)
set_option maxRecDepth 20000 in
theorem gX4_film_X4_isSheet : GoodIn wsX4_film (va_wsS RX4 218 yX4_isSheet wsX4_isSheet) := goodIn_app (goodIn_of _ (by decide +kernel)) ggX4_film_X4_isSheet
set_option maxRecDepth 20000 in
theorem ggX4_film_X1_become : GoodIn wsX4_film wsX1_become := goodIn_r _ [13, 14, 15, 16, 99, 100, 101] rfl (by decide +kernel)
set_option maxRecDepth 20000 in
theorem gX4_film_X1_become : GoodIn wsX4_film (wsV RX4 221 RX1 yX1_become wsX1_become) := goodIn_app (goodIn_of _ (by decide +kernel)) ggX4_film_X1_become
set_option maxRecDepth 20000 in
theorem ggX4_film_X0_become : GoodIn wsX4_film wsX0_become := goodIn_r _ [21, 22, 23, 24, 25, 26, 27, 28, 29, 30, 31, 32, 33, 34, 35, 36, 37, 102, 103, 104, 105, 106, 107, 108, 109, 110, 111, 112, 113, 114, 115] rfl (by decide +kernel)
set_option maxRecDepth 20000 in
theorem gX4_film_X0_become : GoodIn wsX4_film (wsV RX4 157 RX0 yX0_become wsX0_become) := goodIn_app (goodIn_of _ (by decide +kernel)) ggX4_film_X0_become
set_option maxRecDepth 20000 in
theorem ggX4_film_X0_goOn : GoodIn wsX4_film wsX0_goOn := goodIn_r _ [41, 33, 35, 42, 43, 44, 20, 45, 27, 31, 22, 46, 47, 48, 49, 32, 50, 51, 52, 30, 36, 53, 54, 55, 56, 28, 29, 57, 58, 59, 60, 61, 34, 62, 37, 63, 64, 65, 66, 67, 68, 69, 70, 71, 72, 73, 74, 75, 76, 77, 78, 79, 80, 81, 82, 83, 84, 85, 86, 87, 88, 89, 102, 103, 104, 105, 106, 107, 108, 109, 110, 111, 112, 113, 114, 115, 116, 117, 118, 119] rfl (by decide +kernel)
set_option maxRecDepth 20000 in
theorem gX4_film_X0_goOn : GoodIn wsX4_film (wsV RX4 151 RX0 yX0_goOn wsX0_goOn) := goodIn_app (goodIn_of _ (by decide +kernel)) ggX4_film_X0_goOn
theorem dX4_film_0 : decode cX4_film 0 = .ok (.iload_n 1, 1) := by decide +kernel
theorem dX4_film_1 : decode cX4_film 1 = .ok (.invokestatic 218, 3) := by decide +kernel
theorem dX4_film_4 : decode cX4_film 4 = .ok (.ifCond .ne 6, 3) := by decide +kernel
theorem dX4_film_7 : decode cX4_film 7 = .ok (.bipush (-2), 2) := by decide +kernel
theorem dX4_film_9 : decode cX4_film 9 = .ok (.ireturn, 1) := by decide +kernel
theorem dX4_film_10 : decode cX4_film 10 = .ok (.iload_n 2, 1) := by decide +kernel
theorem dX4_film_11 : decode cX4_film 11 = .ok (.ifCond .lt 9, 3) := by decide +kernel
theorem dX4_film_14 : decode cX4_film 14 = .ok (.iload_n 2, 1) := by decide +kernel
theorem dX4_film_15 : decode cX4_film 15 = .ok (.bipush 30, 2) := by decide +kernel
theorem dX4_film_17 : decode cX4_film 17 = .ok (.if_icmp .le 6, 3) := by decide +kernel
theorem dX4_film_20 : decode cX4_film 20 = .ok (.bipush (-7), 2) := by decide +kernel
theorem dX4_film_22 : decode cX4_film 22 = .ok (.ireturn, 1) := by decide +kernel
theorem dX4_film_23 : decode cX4_film 23 = .ok (.aload_n 0, 1) := by decide +kernel
theorem dX4_film_24 : decode cX4_film 24 = .ok (.getfield 45, 3) := by decide +kernel
theorem dX4_film_27 : decode cX4_film 27 = .ok (.iload_n 1, 1) := by decide +kernel
theorem dX4_film_28 : decode cX4_film 28 = .ok (.iconst 0, 1) := by decide +kernel
theorem dX4_film_29 : decode cX4_film 29 = .ok (.iload_n 2, 1) := by decide +kernel
theorem dX4_film_30 : decode cX4_film 30 = .ok (.invokevirtual 221, 3) := by decide +kernel
theorem dX4_film_33 : decode cX4_film 33 = .ok (.aload_n 0, 1) := by decide +kernel
theorem dX4_film_34 : decode cX4_film 34 = .ok (.getfield 32, 3) := by decide +kernel
theorem dX4_film_37 : decode cX4_film 37 = .ok (.aload_n 0, 1) := by decide +kernel
theorem dX4_film_38 : decode cX4_film 38 = .ok (.getfield 28, 3) := by decide +kernel
theorem dX4_film_41 : decode cX4_film 41 = .ok (.invokevirtual 157, 3) := by decide +kernel
theorem dX4_film_44 : decode cX4_film 44 = .ok (.iconst 0, 1) := by decide +kernel
theorem dX4_film_45 : decode cX4_film 45 = .ok (.istore_n 3, 1) := by decide +kernel
theorem dX4_film_46 : decode cX4_film 46 = .ok (.iload_n 3, 1) := by decide +kernel
theorem dX4_film_47 : decode cX4_film 47 = .ok (.iload_n 2, 1) := by decide +kernel
theorem dX4_film_48 : decode cX4_film 48 = .ok (.if_icmp .ge 29, 3) := by decide +kernel
theorem dX4_film_51 : decode cX4_film 51 = .ok (.aload_n 0, 1) := by decide +kernel
theorem dX4_film_52 : decode cX4_film 52 = .ok (.getfield 45, 3) := by decide +kernel
theorem dX4_film_55 : decode cX4_film 55 = .ok (.getfield 211, 3) := by decide +kernel
theorem dX4_film_58 : decode cX4_film 58 = .ok (.iload_n 1, 1) := by decide +kernel
theorem dX4_film_59 : decode cX4_film 59 = .ok (.aaload, 1) := by decide +kernel
theorem dX4_film_60 : decode cX4_film 60 = .ok (.iload_n 3, 1) := by decide +kernel
theorem dX4_film_61 : decode cX4_film 61 = .ok (.aload_n 0, 1) := by decide +kernel
theorem dX4_film_62 : decode cX4_film 62 = .ok (.getfield 32, 3) := by decide +kernel
theorem dX4_film_65 : decode cX4_film 65 = .ok (.invokevirtual 151, 3) := by decide +kernel
theorem dX4_film_68 : decode cX4_film 68 = .ok (.iconst 1, 1) := by decide +kernel
theorem dX4_film_69 : decode cX4_film 69 = .ok (.iadd, 1) := by decide +kernel
theorem dX4_film_70 : decode cX4_film 70 = .ok (.iastore, 1) := by decide +kernel
theorem dX4_film_71 : decode cX4_film 71 = .ok (.iinc 3 1, 3) := by decide +kernel
theorem dX4_film_74 : decode cX4_film 74 = .ok (.goto (-28), 3) := by decide +kernel
theorem dX4_film_77 : decode cX4_film 77 = .ok (.iload_n 2, 1) := by decide +kernel
theorem dX4_film_78 : decode cX4_film 78 = .ok (.ireturn, 1) := by decide +kernel
set_option maxRecDepth 20000 in
theorem ggX4_drawn_X4_putLots : GoodIn wsX4_drawn wsX4_putLots := goodIn_r _ [9, 2, 10, 11, 12, 13, 14, 15, 16, 17, 18, 19, 20, 21, 22, 23, 24, 25, 26, 27, 28, 29, 30, 31, 32, 33, 34, 35, 36, 37, 38, 39, 40, 41, 42, 43, 97, 98, 99, 100, 101, 102, 103, 104, 105, 106, 107, 108, 109, 110, 111, 112, 113, 114, 115, 116, 117, 118, 119] rfl (by decide +kernel)
set_option maxRecDepth 20000 in
theorem gX4_drawn_X4_putLots : GoodIn wsX4_drawn (wsV RX4 224 RX4 yX4_putLots wsX4_putLots) := goodIn_app (goodIn_of _ (by decide +kernel)) ggX4_drawn_X4_putLots
set_option maxRecDepth 20000 in
theorem ggX4_drawn_X0_goWhileCoins : GoodIn wsX4_drawn wsX0_goWhileCoins := goodIn_r _ [47, 35, 36, 37, 48, 49, 50, 22, 51, 52, 53, 54, 55, 29, 33, 24, 56, 16, 17, 18, 34, 57, 58, 59, 32, 38, 60, 61, 62, 63, 30, 31, 64, 65, 66, 67, 68, 69, 39, 70, 71, 72, 73, 74, 75, 76, 77, 78, 79, 80, 81, 82, 83, 84, 85, 86, 87, 88, 89, 90, 91, 92, 93, 41, 42, 43, 106, 107, 108, 109, 110, 111, 112, 113, 114, 115, 116, 117, 118, 119, 120, 121, 122, 123] rfl (by decide +kernel)
set_option maxRecDepth 20000 in
theorem gX4_drawn_X0_goWhileCoins : GoodIn wsX4_drawn (wsV RX4 161 RX0 yX0_goWhileCoins wsX0_goWhileCoins) := goodIn_app (goodIn_of _ (by decide +kernel)) ggX4_drawn_X0_goWhileCoins
set_option maxRecDepth 20000 in
theorem ggX4_drawn_X4_firstMost : GoodIn wsX4_drawn wsX4_firstMost := goodIn_r _ [96] rfl (by decide +kernel)
set_option maxRecDepth 20000 in
theorem gX4_drawn_X4_firstMost : GoodIn wsX4_drawn (va_wsS RX4 164 yX4_firstMost wsX4_firstMost) := goodIn_app (goodIn_of _ (by decide +kernel)) ggX4_drawn_X4_firstMost
theorem dX4_drawn_0 : decode cX4_drawn 0 = .ok (.iload_n 1, 1) := by decide +kernel
theorem dX4_drawn_1 : decode cX4_drawn 1 = .ok (.ifCond .lt 28, 3) := by decide +kernel
theorem dX4_drawn_4 : decode cX4_drawn 4 = .ok (.iload_n 1, 1) := by decide +kernel
theorem dX4_drawn_5 : decode cX4_drawn 5 = .ok (.ldc 223, 2) := by decide +kernel
theorem dX4_drawn_7 : decode cX4_drawn 7 = .ok (.if_icmp .gt 22, 3) := by decide +kernel
theorem dX4_drawn_10 : decode cX4_drawn 10 = .ok (.iload_n 2, 1) := by decide +kernel
theorem dX4_drawn_11 : decode cX4_drawn 11 = .ok (.ifCond .lt 18, 3) := by decide +kernel
theorem dX4_drawn_14 : decode cX4_drawn 14 = .ok (.iload_n 2, 1) := by decide +kernel
theorem dX4_drawn_15 : decode cX4_drawn 15 = .ok (.bipush 30, 2) := by decide +kernel
theorem dX4_drawn_17 : decode cX4_drawn 17 = .ok (.if_icmp .gt 12, 3) := by decide +kernel
theorem dX4_drawn_20 : decode cX4_drawn 20 = .ok (.iload_n 3, 1) := by decide +kernel
theorem dX4_drawn_21 : decode cX4_drawn 21 = .ok (.ifCond .lt 8, 3) := by decide +kernel
theorem dX4_drawn_24 : decode cX4_drawn 24 = .ok (.iload_n 3, 1) := by decide +kernel
theorem dX4_drawn_25 : decode cX4_drawn 25 = .ok (.iconst 1, 1) := by decide +kernel
theorem dX4_drawn_26 : decode cX4_drawn 26 = .ok (.if_icmp .le 6, 3) := by decide +kernel
theorem dX4_drawn_29 : decode cX4_drawn 29 = .ok (.bipush (-2), 2) := by decide +kernel
theorem dX4_drawn_31 : decode cX4_drawn 31 = .ok (.ireturn, 1) := by decide +kernel
theorem dX4_drawn_32 : decode cX4_drawn 32 = .ok (.aload_n 0, 1) := by decide +kernel
theorem dX4_drawn_33 : decode cX4_drawn 33 = .ok (.iload_n 1, 1) := by decide +kernel
theorem dX4_drawn_34 : decode cX4_drawn 34 = .ok (.iload_n 2, 1) := by decide +kernel
theorem dX4_drawn_35 : decode cX4_drawn 35 = .ok (.invokevirtual 224, 3) := by decide +kernel
theorem dX4_drawn_38 : decode cX4_drawn 38 = .ok (.aload_n 0, 1) := by decide +kernel
theorem dX4_drawn_39 : decode cX4_drawn 39 = .ok (.getfield 32, 3) := by decide +kernel
theorem dX4_drawn_42 : decode cX4_drawn 42 = .ok (.bipush 120, 2) := by decide +kernel
theorem dX4_drawn_44 : decode cX4_drawn 44 = .ok (.invokevirtual 161, 3) := by decide +kernel
theorem dX4_drawn_47 : decode cX4_drawn 47 = .ok (.istore 4, 2) := by decide +kernel
theorem dX4_drawn_49 : decode cX4_drawn 49 = .ok (.iload_n 3, 1) := by decide +kernel
theorem dX4_drawn_50 : decode cX4_drawn 50 = .ok (.iconst 1, 1) := by decide +kernel
theorem dX4_drawn_51 : decode cX4_drawn 51 = .ok (.if_icmp .ne 6, 3) := by decide +kernel
theorem dX4_drawn_54 : decode cX4_drawn 54 = .ok (.iload 4, 2) := by decide +kernel
theorem dX4_drawn_56 : decode cX4_drawn 56 = .ok (.ireturn, 1) := by decide +kernel
theorem dX4_drawn_57 : decode cX4_drawn 57 = .ok (.aload_n 0, 1) := by decide +kernel
theorem dX4_drawn_58 : decode cX4_drawn 58 = .ok (.getfield 32, 3) := by decide +kernel
theorem dX4_drawn_61 : decode cX4_drawn 61 = .ok (.getfield 126, 3) := by decide +kernel
theorem dX4_drawn_64 : decode cX4_drawn 64 = .ok (.aload_n 0, 1) := by decide +kernel
theorem dX4_drawn_65 : decode cX4_drawn 65 = .ok (.getfield 32, 3) := by decide +kernel
theorem dX4_drawn_68 : decode cX4_drawn 68 = .ok (.getfield 56, 3) := by decide +kernel
theorem dX4_drawn_71 : decode cX4_drawn 71 = .ok (.invokestatic 164, 3) := by decide +kernel
theorem dX4_drawn_74 : decode cX4_drawn 74 = .ok (.istore 5, 2) := by decide +kernel
theorem dX4_drawn_76 : decode cX4_drawn 76 = .ok (.iload 5, 2) := by decide +kernel
theorem dX4_drawn_78 : decode cX4_drawn 78 = .ok (.ifCond .ge 7, 3) := by decide +kernel
theorem dX4_drawn_81 : decode cX4_drawn 81 = .ok (.iconst 0, 1) := by decide +kernel
theorem dX4_drawn_82 : decode cX4_drawn 82 = .ok (.goto 13, 3) := by decide +kernel
theorem dX4_drawn_85 : decode cX4_drawn 85 = .ok (.aload_n 0, 1) := by decide +kernel
theorem dX4_drawn_86 : decode cX4_drawn 86 = .ok (.getfield 32, 3) := by decide +kernel
theorem dX4_drawn_89 : decode cX4_drawn 89 = .ok (.getfield 126, 3) := by decide +kernel
theorem dX4_drawn_92 : decode cX4_drawn 92 = .ok (.iload 5, 2) := by decide +kernel
theorem dX4_drawn_94 : decode cX4_drawn 94 = .ok (.iaload, 1) := by decide +kernel
theorem dX4_drawn_95 : decode cX4_drawn 95 = .ok (.ireturn, 1) := by decide +kernel
set_option maxRecDepth 20000 in
theorem ggX4_putLots_X0_become : GoodIn wsX4_putLots wsX0_become := goodIn_r _ [15, 16, 17, 18, 19, 20, 21, 22, 23, 24, 25, 26, 27, 28, 29, 30, 31, 45, 46, 47, 48, 49, 50, 51, 52, 53, 54, 55, 56, 57, 58] rfl (by decide +kernel)
set_option maxRecDepth 20000 in
theorem gX4_putLots_X0_become : GoodIn wsX4_putLots (wsV RX4 157 RX0 yX0_become wsX0_become) := goodIn_app (goodIn_of _ (by decide +kernel)) ggX4_putLots_X0_become
set_option maxRecDepth 20000 in
theorem ggX4_putLots_X0_setInHat : GoodIn wsX4_putLots wsX0_setInHat := goodIn_r _ [35, 28, 21, 45, 46, 47, 48, 49, 50, 51, 52, 53, 54, 55, 56, 57, 58] rfl (by decide +kernel)
set_option maxRecDepth 20000 in
theorem gX4_putLots_X0_setInHat : GoodIn wsX4_putLots (wsV RX4 86 RX0 yX0_setInHat wsX0_setInHat) := goodIn_app (goodIn_of _ (by decide +kernel)) ggX4_putLots_X0_setInHat
theorem dX4_putLots_0 : decode cX4_putLots 0 = .ok (.aload_n 0, 1) := by decide +kernel
theorem dX4_putLots_1 : decode cX4_putLots 1 = .ok (.getfield 32, 3) := by decide +kernel
theorem dX4_putLots_4 : decode cX4_putLots 4 = .ok (.aload_n 0, 1) := by decide +kernel
theorem dX4_putLots_5 : decode cX4_putLots 5 = .ok (.getfield 28, 3) := by decide +kernel
theorem dX4_putLots_8 : decode cX4_putLots 8 = .ok (.invokevirtual 157, 3) := by decide +kernel
theorem dX4_putLots_11 : decode cX4_putLots 11 = .ok (.iload_n 1, 1) := by decide +kernel
theorem dX4_putLots_12 : decode cX4_putLots 12 = .ok (.iconst 1, 1) := by decide +kernel
theorem dX4_putLots_13 : decode cX4_putLots 13 = .ok (.iadd, 1) := by decide +kernel
theorem dX4_putLots_14 : decode cX4_putLots 14 = .ok (.i2l, 1) := by decide +kernel
theorem dX4_putLots_15 : decode cX4_putLots 15 = .ok (.lstore_n 3, 1) := by decide +kernel
theorem dX4_putLots_16 : decode cX4_putLots 16 = .ok (.iconst 0, 1) := by decide +kernel
theorem dX4_putLots_17 : decode cX4_putLots 17 = .ok (.istore 5, 2) := by decide +kernel
theorem dX4_putLots_19 : decode cX4_putLots 19 = .ok (.iload 5, 2) := by decide +kernel
theorem dX4_putLots_21 : decode cX4_putLots 21 = .ok (.iload_n 2, 1) := by decide +kernel
theorem dX4_putLots_22 : decode cX4_putLots 22 = .ok (.if_icmp .ge 53, 3) := by decide +kernel
theorem dX4_putLots_25 : decode cX4_putLots 25 = .ok (.lload_n 3, 1) := by decide +kernel
theorem dX4_putLots_26 : decode cX4_putLots 26 = .ok (.ldc2_w 227, 3) := by decide +kernel
theorem dX4_putLots_29 : decode cX4_putLots 29 = .ok (.lmul, 1) := by decide +kernel
theorem dX4_putLots_30 : decode cX4_putLots 30 = .ok (.ldc2_w 229, 3) := by decide +kernel
theorem dX4_putLots_33 : decode cX4_putLots 33 = .ok (.lrem, 1) := by decide +kernel
theorem dX4_putLots_34 : decode cX4_putLots 34 = .ok (.lstore_n 3, 1) := by decide +kernel
theorem dX4_putLots_35 : decode cX4_putLots 35 = .ok (.lload_n 3, 1) := by decide +kernel
theorem dX4_putLots_36 : decode cX4_putLots 36 = .ok (.ldc2_w 231, 3) := by decide +kernel
theorem dX4_putLots_39 : decode cX4_putLots 39 = .ok (.lrem, 1) := by decide +kernel
theorem dX4_putLots_40 : decode cX4_putLots 40 = .ok (.l2i, 1) := by decide +kernel
theorem dX4_putLots_41 : decode cX4_putLots 41 = .ok (.istore 6, 2) := by decide +kernel
theorem dX4_putLots_43 : decode cX4_putLots 43 = .ok (.aload_n 0, 1) := by decide +kernel
theorem dX4_putLots_44 : decode cX4_putLots 44 = .ok (.getfield 32, 3) := by decide +kernel
theorem dX4_putLots_47 : decode cX4_putLots 47 = .ok (.iload 6, 2) := by decide +kernel
theorem dX4_putLots_49 : decode cX4_putLots 49 = .ok (.bipush 20, 2) := by decide +kernel
theorem dX4_putLots_51 : decode cX4_putLots 51 = .ok (.aload_n 0, 1) := by decide +kernel
theorem dX4_putLots_52 : decode cX4_putLots 52 = .ok (.getfield 32, 3) := by decide +kernel
theorem dX4_putLots_55 : decode cX4_putLots 55 = .ok (.getfield 83, 3) := by decide +kernel
theorem dX4_putLots_58 : decode cX4_putLots 58 = .ok (.iload 6, 2) := by decide +kernel
theorem dX4_putLots_60 : decode cX4_putLots 60 = .ok (.iaload, 1) := by decide +kernel
theorem dX4_putLots_61 : decode cX4_putLots 61 = .ok (.iconst 1, 1) := by decide +kernel
theorem dX4_putLots_62 : decode cX4_putLots 62 = .ok (.iadd, 1) := by decide +kernel
theorem dX4_putLots_63 : decode cX4_putLots 63 = .ok (.invokestatic 186, 3) := by decide +kernel
theorem dX4_putLots_66 : decode cX4_putLots 66 = .ok (.invokevirtual 86, 3) := by decide +kernel
theorem dX4_putLots_69 : decode cX4_putLots 69 = .ok (.iinc 5 1, 3) := by decide +kernel
theorem dX4_putLots_72 : decode cX4_putLots 72 = .ok (.goto (-53), 3) := by decide +kernel
theorem dX4_putLots_75 : decode cX4_putLots 75 = .ok (.return_, 1) := by decide +kernel
set_option maxRecDepth 20000 in
theorem ggX4_odds_X4_isThere : GoodIn wsX4_odds wsX4_isThere := goodIn_r _ [8, 9, 10, 101, 102, 103, 104, 105, 106, 107, 108, 109, 110, 111, 112, 113, 114, 115, 116, 117, 118, 119, 120, 121, 122, 123] rfl (by decide +kernel)
set_option maxRecDepth 20000 in
theorem gX4_odds_X4_isThere : GoodIn wsX4_odds (wsV RX4 112 RX4 yX4_isThere wsX4_isThere) := goodIn_app (goodIn_of _ (by decide +kernel)) ggX4_odds_X4_isThere
set_option maxRecDepth 20000 in
theorem ggX4_odds_X4_putLots : GoodIn wsX4_odds wsX4_putLots := goodIn_r _ [14, 3, 9, 15, 16, 17, 18, 19, 20, 21, 22, 23, 24, 25, 26, 27, 28, 29, 30, 31, 32, 33, 34, 35, 36, 37, 38, 39, 40, 41, 42, 43, 44, 45, 46, 47, 101, 102, 103, 104, 105, 106, 107, 108, 109, 110, 111, 112, 113, 114, 115, 116, 117, 118, 119, 120, 121, 122, 123] rfl (by decide +kernel)
set_option maxRecDepth 20000 in
theorem gX4_odds_X4_putLots : GoodIn wsX4_odds (wsV RX4 224 RX4 yX4_putLots wsX4_putLots) := goodIn_app (goodIn_of _ (by decide +kernel)) ggX4_odds_X4_putLots
set_option maxRecDepth 20000 in
theorem ggX4_odds_X0_goWhileCoins : GoodIn wsX4_odds wsX0_goWhileCoins := goodIn_r _ [51, 39, 40, 41, 52, 53, 54, 26, 55, 56, 57, 58, 59, 33, 37, 28, 60, 20, 21, 22, 38, 61, 62, 63, 36, 42, 64, 65, 66, 67, 34, 35, 68, 69, 70, 71, 72, 73, 43, 74, 75, 76, 77, 78, 79, 80, 81, 82, 83, 84, 85, 86, 87, 88, 89, 90, 91, 92, 93, 94, 95, 96, 97, 45, 46, 47, 110, 111, 112, 113, 114, 115, 116, 117, 118, 119, 120, 121, 122, 123, 124, 125, 126, 127] rfl (by decide +kernel)
set_option maxRecDepth 20000 in
theorem gX4_odds_X0_goWhileCoins : GoodIn wsX4_odds (wsV RX4 161 RX0 yX0_goWhileCoins wsX0_goWhileCoins) := goodIn_app (goodIn_of _ (by decide +kernel)) ggX4_odds_X0_goWhileCoins
set_option maxRecDepth 20000 in
theorem ggX4_odds_X4_inLowestTerms : GoodIn wsX4_odds wsX4_inLowestTerms := goodIn_r _ [100, 2] rfl (by decide +kernel)
set_option maxRecDepth 20000 in
theorem gX4_odds_X4_inLowestTerms : GoodIn wsX4_odds (va_wsS RX4 198 yX4_inLowestTerms wsX4_inLowestTerms) := goodIn_app (goodIn_of _ (by decide +kernel)) ggX4_odds_X4_inLowestTerms
theorem dX4_odds_0 : decode cX4_odds 0 = .ok (.iload_n 1, 1) := by decide +kernel
theorem dX4_odds_1 : decode cX4_odds 1 = .ok (.ifCond .lt 39, 3) := by decide +kernel
theorem dX4_odds_4 : decode cX4_odds 4 = .ok (.iload_n 1, 1) := by decide +kernel
theorem dX4_odds_5 : decode cX4_odds 5 = .ok (.ldc 223, 2) := by decide +kernel
theorem dX4_odds_7 : decode cX4_odds 7 = .ok (.if_icmp .gt 33, 3) := by decide +kernel
theorem dX4_odds_10 : decode cX4_odds 10 = .ok (.iload_n 2, 1) := by decide +kernel
theorem dX4_odds_11 : decode cX4_odds 11 = .ok (.iconst 1, 1) := by decide +kernel
theorem dX4_odds_12 : decode cX4_odds 12 = .ok (.if_icmp .lt 28, 3) := by decide +kernel
theorem dX4_odds_15 : decode cX4_odds 15 = .ok (.iload_n 2, 1) := by decide +kernel
theorem dX4_odds_16 : decode cX4_odds 16 = .ok (.bipush 40, 2) := by decide +kernel
theorem dX4_odds_18 : decode cX4_odds 18 = .ok (.if_icmp .gt 22, 3) := by decide +kernel
theorem dX4_odds_21 : decode cX4_odds 21 = .ok (.aload_n 0, 1) := by decide +kernel
theorem dX4_odds_22 : decode cX4_odds 22 = .ok (.iload_n 3, 1) := by decide +kernel
theorem dX4_odds_23 : decode cX4_odds 23 = .ok (.invokevirtual 112, 3) := by decide +kernel
theorem dX4_odds_26 : decode cX4_odds 26 = .ok (.ifCond .eq 14, 3) := by decide +kernel
theorem dX4_odds_29 : decode cX4_odds 29 = .ok (.iload 4, 2) := by decide +kernel
theorem dX4_odds_31 : decode cX4_odds 31 = .ok (.ifCond .lt 9, 3) := by decide +kernel
theorem dX4_odds_34 : decode cX4_odds 34 = .ok (.iload 4, 2) := by decide +kernel
theorem dX4_odds_36 : decode cX4_odds 36 = .ok (.iconst 1, 1) := by decide +kernel
theorem dX4_odds_37 : decode cX4_odds 37 = .ok (.if_icmp .le 7, 3) := by decide +kernel
theorem dX4_odds_40 : decode cX4_odds 40 = .ok (.ldc2_w 196, 3) := by decide +kernel
theorem dX4_odds_43 : decode cX4_odds 43 = .ok (.lreturn, 1) := by decide +kernel
theorem dX4_odds_44 : decode cX4_odds 44 = .ok (.iconst 0, 1) := by decide +kernel
theorem dX4_odds_45 : decode cX4_odds 45 = .ok (.istore 5, 2) := by decide +kernel
theorem dX4_odds_47 : decode cX4_odds 47 = .ok (.iconst 0, 1) := by decide +kernel
theorem dX4_odds_48 : decode cX4_odds 48 = .ok (.istore 6, 2) := by decide +kernel
theorem dX4_odds_50 : decode cX4_odds 50 = .ok (.iload 6, 2) := by decide +kernel
theorem dX4_odds_52 : decode cX4_odds 52 = .ok (.iload_n 2, 1) := by decide +kernel
theorem dX4_odds_53 : decode cX4_odds 53 = .ok (.if_icmp .ge 35, 3) := by decide +kernel
theorem dX4_odds_56 : decode cX4_odds 56 = .ok (.aload_n 0, 1) := by decide +kernel
theorem dX4_odds_57 : decode cX4_odds 57 = .ok (.iload_n 1, 1) := by decide +kernel
theorem dX4_odds_58 : decode cX4_odds 58 = .ok (.iload 6, 2) := by decide +kernel
theorem dX4_odds_60 : decode cX4_odds 60 = .ok (.iadd, 1) := by decide +kernel
theorem dX4_odds_61 : decode cX4_odds 61 = .ok (.bipush 10, 2) := by decide +kernel
theorem dX4_odds_63 : decode cX4_odds 63 = .ok (.invokevirtual 224, 3) := by decide +kernel
theorem dX4_odds_66 : decode cX4_odds 66 = .ok (.aload_n 0, 1) := by decide +kernel
theorem dX4_odds_67 : decode cX4_odds 67 = .ok (.getfield 32, 3) := by decide +kernel
theorem dX4_odds_70 : decode cX4_odds 70 = .ok (.bipush 120, 2) := by decide +kernel
theorem dX4_odds_72 : decode cX4_odds 72 = .ok (.invokevirtual 161, 3) := by decide +kernel
theorem dX4_odds_75 : decode cX4_odds 75 = .ok (.iload_n 3, 1) := by decide +kernel
theorem dX4_odds_76 : decode cX4_odds 76 = .ok (.if_icmp .ne 6, 3) := by decide +kernel
theorem dX4_odds_79 : decode cX4_odds 79 = .ok (.iinc 5 1, 3) := by decide +kernel
theorem dX4_odds_82 : decode cX4_odds 82 = .ok (.iinc 6 1, 3) := by decide +kernel
theorem dX4_odds_85 : decode cX4_odds 85 = .ok (.goto (-35), 3) := by decide +kernel
theorem dX4_odds_88 : decode cX4_odds 88 = .ok (.iload 5, 2) := by decide +kernel
theorem dX4_odds_90 : decode cX4_odds 90 = .ok (.iload_n 2, 1) := by decide +kernel
theorem dX4_odds_91 : decode cX4_odds 91 = .ok (.iload 4, 2) := by decide +kernel
theorem dX4_odds_93 : decode cX4_odds 93 = .ok (.invokestatic 198, 3) := by decide +kernel
theorem dX4_odds_96 : decode cX4_odds 96 = .ok (.lreturn, 1) := by decide +kernel
set_option maxRecDepth 20000 in
theorem ggX4_image_X0_become : GoodIn wsX4_image wsX0_become := goodIn_r _ [9, 10, 11, 12, 13, 14, 15, 16, 17, 18, 19, 20, 21, 22, 23, 24, 25, 35, 36, 37, 38, 39, 40, 41, 42, 43, 44, 45, 46, 47, 48] rfl (by decide +kernel)
set_option maxRecDepth 20000 in
theorem gX4_image_X0_become : GoodIn wsX4_image (wsV RX4 157 RX0 yX0_become wsX0_become) := goodIn_app (goodIn_of _ (by decide +kernel)) ggX4_image_X0_become
theorem dX4_image_0 : decode cX4_image 0 = .ok (.aload_n 0, 1) := by decide +kernel
theorem dX4_image_1 : decode cX4_image 1 = .ok (.getfield 35, 3) := by decide +kernel
theorem dX4_image_4 : decode cX4_image 4 = .ok (.aload_n 0, 1) := by decide +kernel
theorem dX4_image_5 : decode cX4_image 5 = .ok (.getfield 28, 3) := by decide +kernel
theorem dX4_image_8 : decode cX4_image 8 = .ok (.invokevirtual 157, 3) := by decide +kernel
theorem dX4_image_11 : decode cX4_image 11 = .ok (.aload_n 0, 1) := by decide +kernel
theorem dX4_image_12 : decode cX4_image 12 = .ok (.iconst 1, 1) := by decide +kernel
theorem dX4_image_13 : decode cX4_image 13 = .ok (.putfield 38, 3) := by decide +kernel
theorem dX4_image_16 : decode cX4_image 16 = .ok (.aload_n 0, 1) := by decide +kernel
theorem dX4_image_17 : decode cX4_image 17 = .ok (.getfield 35, 3) := by decide +kernel
theorem dX4_image_20 : decode cX4_image 20 = .ok (.getfield 56, 3) := by decide +kernel
theorem dX4_image_23 : decode cX4_image 23 = .ok (.ireturn, 1) := by decide +kernel
set_option maxRecDepth 20000 in
theorem ggX4_back_X0_become : GoodIn wsX4_back wsX0_become := goodIn_r _ [9, 10, 11, 12, 13, 14, 15, 16, 17, 18, 19, 20, 21, 22, 23, 24, 25, 35, 36, 37, 38, 39, 40, 41, 42, 43, 44, 45, 46, 47, 48] rfl (by decide +kernel)
set_option maxRecDepth 20000 in
theorem gX4_back_X0_become : GoodIn wsX4_back (wsV RX4 157 RX0 yX0_become wsX0_become) := goodIn_app (goodIn_of _ (by decide +kernel)) ggX4_back_X0_become
theorem dX4_back_0 : decode cX4_back 0 = .ok (.aload_n 0, 1) := by decide +kernel
theorem dX4_back_1 : decode cX4_back 1 = .ok (.getfield 38, 3) := by decide +kernel
theorem dX4_back_4 : decode cX4_back 4 = .ok (.ifCond .ne 6, 3) := by decide +kernel
theorem dX4_back_7 : decode cX4_back 7 = .ok (.bipush (-3), 2) := by decide +kernel
theorem dX4_back_9 : decode cX4_back 9 = .ok (.ireturn, 1) := by decide +kernel
theorem dX4_back_10 : decode cX4_back 10 = .ok (.aload_n 0, 1) := by decide +kernel
theorem dX4_back_11 : decode cX4_back 11 = .ok (.getfield 28, 3) := by decide +kernel
theorem dX4_back_14 : decode cX4_back 14 = .ok (.aload_n 0, 1) := by decide +kernel
theorem dX4_back_15 : decode cX4_back 15 = .ok (.getfield 35, 3) := by decide +kernel
theorem dX4_back_18 : decode cX4_back 18 = .ok (.invokevirtual 157, 3) := by decide +kernel
theorem dX4_back_21 : decode cX4_back 21 = .ok (.aload_n 0, 1) := by decide +kernel
theorem dX4_back_22 : decode cX4_back 22 = .ok (.getfield 28, 3) := by decide +kernel
theorem dX4_back_25 : decode cX4_back 25 = .ok (.getfield 56, 3) := by decide +kernel
theorem dX4_back_28 : decode cX4_back 28 = .ok (.ireturn, 1) := by decide +kernel
set_option maxRecDepth 20000 in
theorem ggX4_sheet_X4_isSheet : GoodIn wsX4_sheet wsX4_isSheet := goodIn_r _ [5] rfl (by decide +kernel)
set_option maxRecDepth 20000 in
theorem gX4_sheet_X4_isSheet : GoodIn wsX4_sheet (va_wsS RX4 218 yX4_isSheet wsX4_isSheet) := goodIn_app (goodIn_of _ (by decide +kernel)) ggX4_sheet_X4_isSheet
set_option maxRecDepth 20000 in
theorem ggX4_sheet_X1_become : GoodIn wsX4_sheet wsX1_become := goodIn_r _ [10, 11, 12, 13, 23, 24, 25] rfl (by decide +kernel)
set_option maxRecDepth 20000 in
theorem gX4_sheet_X1_become : GoodIn wsX4_sheet (wsV RX4 221 RX1 yX1_become wsX1_become) := goodIn_app (goodIn_of _ (by decide +kernel)) ggX4_sheet_X1_become
theorem dX4_sheet_0 : decode cX4_sheet 0 = .ok (.iload_n 1, 1) := by decide +kernel
theorem dX4_sheet_1 : decode cX4_sheet 1 = .ok (.invokestatic 218, 3) := by decide +kernel
theorem dX4_sheet_4 : decode cX4_sheet 4 = .ok (.ifCond .eq 24, 3) := by decide +kernel
theorem dX4_sheet_7 : decode cX4_sheet 7 = .ok (.iload_n 2, 1) := by decide +kernel
theorem dX4_sheet_8 : decode cX4_sheet 8 = .ok (.iconst (-1), 1) := by decide +kernel
theorem dX4_sheet_9 : decode cX4_sheet 9 = .ok (.if_icmp .lt 19, 3) := by decide +kernel
theorem dX4_sheet_12 : decode cX4_sheet 12 = .ok (.iload_n 2, 1) := by decide +kernel
theorem dX4_sheet_13 : decode cX4_sheet 13 = .ok (.iconst 2, 1) := by decide +kernel
theorem dX4_sheet_14 : decode cX4_sheet 14 = .ok (.if_icmp .gt 14, 3) := by decide +kernel
theorem dX4_sheet_17 : decode cX4_sheet 17 = .ok (.iload_n 2, 1) := by decide +kernel
theorem dX4_sheet_18 : decode cX4_sheet 18 = .ok (.iconst (-1), 1) := by decide +kernel
theorem dX4_sheet_19 : decode cX4_sheet 19 = .ok (.if_icmp .eq 12, 3) := by decide +kernel
theorem dX4_sheet_22 : decode cX4_sheet 22 = .ok (.iload_n 3, 1) := by decide +kernel
theorem dX4_sheet_23 : decode cX4_sheet 23 = .ok (.bipush 40, 2) := by decide +kernel
theorem dX4_sheet_25 : decode cX4_sheet 25 = .ok (.if_icmp .le 6, 3) := by decide +kernel
theorem dX4_sheet_28 : decode cX4_sheet 28 = .ok (.bipush (-2), 2) := by decide +kernel
theorem dX4_sheet_30 : decode cX4_sheet 30 = .ok (.ireturn, 1) := by decide +kernel
theorem dX4_sheet_31 : decode cX4_sheet 31 = .ok (.iload_n 2, 1) := by decide +kernel
theorem dX4_sheet_32 : decode cX4_sheet 32 = .ok (.iconst (-1), 1) := by decide +kernel
theorem dX4_sheet_33 : decode cX4_sheet 33 = .ok (.if_icmp .eq 10, 3) := by decide +kernel
theorem dX4_sheet_36 : decode cX4_sheet 36 = .ok (.iload_n 3, 1) := by decide +kernel
theorem dX4_sheet_37 : decode cX4_sheet 37 = .ok (.ifCond .ge 6, 3) := by decide +kernel
theorem dX4_sheet_40 : decode cX4_sheet 40 = .ok (.bipush (-14), 2) := by decide +kernel
theorem dX4_sheet_42 : decode cX4_sheet 42 = .ok (.ireturn, 1) := by decide +kernel
theorem dX4_sheet_43 : decode cX4_sheet 43 = .ok (.aload_n 0, 1) := by decide +kernel
theorem dX4_sheet_44 : decode cX4_sheet 44 = .ok (.getfield 45, 3) := by decide +kernel
theorem dX4_sheet_47 : decode cX4_sheet 47 = .ok (.iload_n 1, 1) := by decide +kernel
theorem dX4_sheet_48 : decode cX4_sheet 48 = .ok (.iload_n 2, 1) := by decide +kernel
theorem dX4_sheet_49 : decode cX4_sheet 49 = .ok (.iload_n 2, 1) := by decide +kernel
theorem dX4_sheet_50 : decode cX4_sheet 50 = .ok (.iconst (-1), 1) := by decide +kernel
theorem dX4_sheet_51 : decode cX4_sheet 51 = .ok (.if_icmp .ne 7, 3) := by decide +kernel
theorem dX4_sheet_54 : decode cX4_sheet 54 = .ok (.iconst 0, 1) := by decide +kernel
theorem dX4_sheet_55 : decode cX4_sheet 55 = .ok (.goto 4, 3) := by decide +kernel
theorem dX4_sheet_58 : decode cX4_sheet 58 = .ok (.iload_n 3, 1) := by decide +kernel
theorem dX4_sheet_59 : decode cX4_sheet 59 = .ok (.invokevirtual 221, 3) := by decide +kernel
theorem dX4_sheet_62 : decode cX4_sheet 62 = .ok (.iconst 1, 1) := by decide +kernel
theorem dX4_sheet_63 : decode cX4_sheet 63 = .ok (.ireturn, 1) := by decide +kernel
set_option maxRecDepth 20000 in
theorem ggX4_cell_X4_isSheet : GoodIn wsX4_cell wsX4_isSheet := goodIn_r _ [6] rfl (by decide +kernel)
set_option maxRecDepth 20000 in
theorem gX4_cell_X4_isSheet : GoodIn wsX4_cell (va_wsS RX4 218 yX4_isSheet wsX4_isSheet) := goodIn_app (goodIn_of _ (by decide +kernel)) ggX4_cell_X4_isSheet
set_option maxRecDepth 20000 in
theorem ggX4_cell_X1_isMissing : GoodIn wsX4_cell wsX1_isMissing := goodIn_r _ [11, 12, 27, 28, 29] rfl (by decide +kernel)
set_option maxRecDepth 20000 in
theorem gX4_cell_X1_isMissing : GoodIn wsX4_cell (wsV RX4 233 RX1 yX1_isMissing wsX1_isMissing) := goodIn_app (goodIn_of _ (by decide +kernel)) ggX4_cell_X1_isMissing
set_option maxRecDepth 20000 in
theorem ggX4_cell_X1_store : GoodIn wsX4_cell wsX1_store := goodIn_r _ [16, 12, 17, 27, 28, 29] rfl (by decide +kernel)
set_option maxRecDepth 20000 in
theorem gX4_cell_X1_store : GoodIn wsX4_cell (wsV RX4 236 RX1 yX1_store wsX1_store) := goodIn_app (goodIn_of _ (by decide +kernel)) ggX4_cell_X1_store
theorem dX4_cell_0 : decode cX4_cell 0 = .ok (.iload_n 1, 1) := by decide +kernel
theorem dX4_cell_1 : decode cX4_cell 1 = .ok (.invokestatic 218, 3) := by decide +kernel
theorem dX4_cell_4 : decode cX4_cell 4 = .ok (.ifCond .ne 6, 3) := by decide +kernel
theorem dX4_cell_7 : decode cX4_cell 7 = .ok (.bipush (-2), 2) := by decide +kernel
theorem dX4_cell_9 : decode cX4_cell 9 = .ok (.ireturn, 1) := by decide +kernel
theorem dX4_cell_10 : decode cX4_cell 10 = .ok (.aload_n 0, 1) := by decide +kernel
theorem dX4_cell_11 : decode cX4_cell 11 = .ok (.getfield 45, 3) := by decide +kernel
theorem dX4_cell_14 : decode cX4_cell 14 = .ok (.iload_n 1, 1) := by decide +kernel
theorem dX4_cell_15 : decode cX4_cell 15 = .ok (.invokevirtual 233, 3) := by decide +kernel
theorem dX4_cell_18 : decode cX4_cell 18 = .ok (.ifCond .eq 6, 3) := by decide +kernel
theorem dX4_cell_21 : decode cX4_cell 21 = .ok (.bipush (-11), 2) := by decide +kernel
theorem dX4_cell_23 : decode cX4_cell 23 = .ok (.ireturn, 1) := by decide +kernel
theorem dX4_cell_24 : decode cX4_cell 24 = .ok (.iload_n 2, 1) := by decide +kernel
theorem dX4_cell_25 : decode cX4_cell 25 = .ok (.ifCond .lt 16, 3) := by decide +kernel
theorem dX4_cell_28 : decode cX4_cell 28 = .ok (.iload_n 2, 1) := by decide +kernel
theorem dX4_cell_29 : decode cX4_cell 29 = .ok (.aload_n 0, 1) := by decide +kernel
theorem dX4_cell_30 : decode cX4_cell 30 = .ok (.getfield 45, 3) := by decide +kernel
theorem dX4_cell_33 : decode cX4_cell 33 = .ok (.getfield 208, 3) := by decide +kernel
theorem dX4_cell_36 : decode cX4_cell 36 = .ok (.iload_n 1, 1) := by decide +kernel
theorem dX4_cell_37 : decode cX4_cell 37 = .ok (.iaload, 1) := by decide +kernel
theorem dX4_cell_38 : decode cX4_cell 38 = .ok (.if_icmp .lt 6, 3) := by decide +kernel
theorem dX4_cell_41 : decode cX4_cell 41 = .ok (.bipush (-12), 2) := by decide +kernel
theorem dX4_cell_43 : decode cX4_cell 43 = .ok (.ireturn, 1) := by decide +kernel
theorem dX4_cell_44 : decode cX4_cell 44 = .ok (.aload_n 0, 1) := by decide +kernel
theorem dX4_cell_45 : decode cX4_cell 45 = .ok (.getfield 45, 3) := by decide +kernel
theorem dX4_cell_48 : decode cX4_cell 48 = .ok (.iload_n 1, 1) := by decide +kernel
theorem dX4_cell_49 : decode cX4_cell 49 = .ok (.iload_n 2, 1) := by decide +kernel
theorem dX4_cell_50 : decode cX4_cell 50 = .ok (.iload_n 3, 1) := by decide +kernel
theorem dX4_cell_51 : decode cX4_cell 51 = .ok (.invokevirtual 236, 3) := by decide +kernel
theorem dX4_cell_54 : decode cX4_cell 54 = .ok (.iconst 1, 1) := by decide +kernel
theorem dX4_cell_55 : decode cX4_cell 55 = .ok (.ireturn, 1) := by decide +kernel
set_option maxRecDepth 20000 in
theorem ggX4_copy_X4_isSheet : GoodIn wsX4_copy wsX4_isSheet := goodIn_r _ [12] rfl (by decide +kernel)
set_option maxRecDepth 20000 in
theorem gX4_copy_X4_isSheet : GoodIn wsX4_copy (va_wsS RX4 218 yX4_isSheet wsX4_isSheet) := goodIn_app (goodIn_of _ (by decide +kernel)) ggX4_copy_X4_isSheet
set_option maxRecDepth 20000 in
theorem ggX4_copy_X1_isMissing : GoodIn wsX4_copy wsX1_isMissing := goodIn_r _ [17, 18, 28, 29, 30] rfl (by decide +kernel)
set_option maxRecDepth 20000 in
theorem gX4_copy_X1_isMissing : GoodIn wsX4_copy (wsV RX4 233 RX1 yX1_isMissing wsX1_isMissing) := goodIn_app (goodIn_of _ (by decide +kernel)) ggX4_copy_X1_isMissing
theorem dX4_copy_0 : decode cX4_copy 0 = .ok (.iload_n 1, 1) := by decide +kernel
theorem dX4_copy_1 : decode cX4_copy 1 = .ok (.invokestatic 218, 3) := by decide +kernel
theorem dX4_copy_4 : decode cX4_copy 4 = .ok (.ifCond .eq 10, 3) := by decide +kernel
theorem dX4_copy_7 : decode cX4_copy 7 = .ok (.iload_n 3, 1) := by decide +kernel
theorem dX4_copy_8 : decode cX4_copy 8 = .ok (.invokestatic 218, 3) := by decide +kernel
theorem dX4_copy_11 : decode cX4_copy 11 = .ok (.ifCond .ne 6, 3) := by decide +kernel
theorem dX4_copy_14 : decode cX4_copy 14 = .ok (.bipush (-2), 2) := by decide +kernel
theorem dX4_copy_16 : decode cX4_copy 16 = .ok (.ireturn, 1) := by decide +kernel
theorem dX4_copy_17 : decode cX4_copy 17 = .ok (.aload_n 0, 1) := by decide +kernel
theorem dX4_copy_18 : decode cX4_copy 18 = .ok (.getfield 45, 3) := by decide +kernel
theorem dX4_copy_21 : decode cX4_copy 21 = .ok (.iload_n 1, 1) := by decide +kernel
theorem dX4_copy_22 : decode cX4_copy 22 = .ok (.invokevirtual 233, 3) := by decide +kernel
theorem dX4_copy_25 : decode cX4_copy 25 = .ok (.ifCond .ne 14, 3) := by decide +kernel
theorem dX4_copy_28 : decode cX4_copy 28 = .ok (.aload_n 0, 1) := by decide +kernel
theorem dX4_copy_29 : decode cX4_copy 29 = .ok (.getfield 45, 3) := by decide +kernel
theorem dX4_copy_32 : decode cX4_copy 32 = .ok (.iload_n 3, 1) := by decide +kernel
theorem dX4_copy_33 : decode cX4_copy 33 = .ok (.invokevirtual 233, 3) := by decide +kernel
theorem dX4_copy_36 : decode cX4_copy 36 = .ok (.ifCond .eq 6, 3) := by decide +kernel
theorem dX4_copy_39 : decode cX4_copy 39 = .ok (.bipush (-11), 2) := by decide +kernel
theorem dX4_copy_41 : decode cX4_copy 41 = .ok (.ireturn, 1) := by decide +kernel
theorem dX4_copy_42 : decode cX4_copy 42 = .ok (.aload_n 0, 1) := by decide +kernel
theorem dX4_copy_43 : decode cX4_copy 43 = .ok (.getfield 45, 3) := by decide +kernel
theorem dX4_copy_46 : decode cX4_copy 46 = .ok (.getfield 239, 3) := by decide +kernel
theorem dX4_copy_49 : decode cX4_copy 49 = .ok (.iload_n 1, 1) := by decide +kernel
theorem dX4_copy_50 : decode cX4_copy 50 = .ok (.iaload, 1) := by decide +kernel
theorem dX4_copy_51 : decode cX4_copy 51 = .ok (.aload_n 0, 1) := by decide +kernel
theorem dX4_copy_52 : decode cX4_copy 52 = .ok (.getfield 45, 3) := by decide +kernel
theorem dX4_copy_55 : decode cX4_copy 55 = .ok (.getfield 239, 3) := by decide +kernel
theorem dX4_copy_58 : decode cX4_copy 58 = .ok (.iload_n 3, 1) := by decide +kernel
theorem dX4_copy_59 : decode cX4_copy 59 = .ok (.iaload, 1) := by decide +kernel
theorem dX4_copy_60 : decode cX4_copy 60 = .ok (.if_icmp .eq 6, 3) := by decide +kernel
theorem dX4_copy_63 : decode cX4_copy 63 = .ok (.bipush (-13), 2) := by decide +kernel
theorem dX4_copy_65 : decode cX4_copy 65 = .ok (.ireturn, 1) := by decide +kernel
theorem dX4_copy_66 : decode cX4_copy 66 = .ok (.iload 5, 2) := by decide +kernel
theorem dX4_copy_68 : decode cX4_copy 68 = .ok (.ifCond .lt 45, 3) := by decide +kernel
theorem dX4_copy_71 : decode cX4_copy 71 = .ok (.iload_n 2, 1) := by decide +kernel
theorem dX4_copy_72 : decode cX4_copy 72 = .ok (.ifCond .lt 41, 3) := by decide +kernel
theorem dX4_copy_75 : decode cX4_copy 75 = .ok (.iload 4, 2) := by decide +kernel
theorem dX4_copy_77 : decode cX4_copy 77 = .ok (.ifCond .lt 36, 3) := by decide +kernel
theorem dX4_copy_80 : decode cX4_copy 80 = .ok (.iload_n 2, 1) := by decide +kernel
theorem dX4_copy_81 : decode cX4_copy 81 = .ok (.aload_n 0, 1) := by decide +kernel
theorem dX4_copy_82 : decode cX4_copy 82 = .ok (.getfield 45, 3) := by decide +kernel
theorem dX4_copy_85 : decode cX4_copy 85 = .ok (.getfield 208, 3) := by decide +kernel
theorem dX4_copy_88 : decode cX4_copy 88 = .ok (.iload_n 1, 1) := by decide +kernel
theorem dX4_copy_89 : decode cX4_copy 89 = .ok (.iaload, 1) := by decide +kernel
theorem dX4_copy_90 : decode cX4_copy 90 = .ok (.iload 5, 2) := by decide +kernel
theorem dX4_copy_92 : decode cX4_copy 92 = .ok (.isub, 1) := by decide +kernel
theorem dX4_copy_93 : decode cX4_copy 93 = .ok (.if_icmp .gt 20, 3) := by decide +kernel
theorem dX4_copy_96 : decode cX4_copy 96 = .ok (.iload 4, 2) := by decide +kernel
theorem dX4_copy_98 : decode cX4_copy 98 = .ok (.aload_n 0, 1) := by decide +kernel
theorem dX4_copy_99 : decode cX4_copy 99 = .ok (.getfield 45, 3) := by decide +kernel
theorem dX4_copy_102 : decode cX4_copy 102 = .ok (.getfield 208, 3) := by decide +kernel
theorem dX4_copy_105 : decode cX4_copy 105 = .ok (.iload_n 3, 1) := by decide +kernel
theorem dX4_copy_106 : decode cX4_copy 106 = .ok (.iaload, 1) := by decide +kernel
theorem dX4_copy_107 : decode cX4_copy 107 = .ok (.iload 5, 2) := by decide +kernel
theorem dX4_copy_109 : decode cX4_copy 109 = .ok (.isub, 1) := by decide +kernel
theorem dX4_copy_110 : decode cX4_copy 110 = .ok (.if_icmp .le 6, 3) := by decide +kernel
theorem dX4_copy_113 : decode cX4_copy 113 = .ok (.bipush (-12), 2) := by decide +kernel
theorem dX4_copy_115 : decode cX4_copy 115 = .ok (.ireturn, 1) := by decide +kernel
theorem dX4_copy_116 : decode cX4_copy 116 = .ok (.aload_n 0, 1) := by decide +kernel
theorem dX4_copy_117 : decode cX4_copy 117 = .ok (.getfield 45, 3) := by decide +kernel
theorem dX4_copy_120 : decode cX4_copy 120 = .ok (.getfield 211, 3) := by decide +kernel
theorem dX4_copy_123 : decode cX4_copy 123 = .ok (.iload_n 1, 1) := by decide +kernel
theorem dX4_copy_124 : decode cX4_copy 124 = .ok (.aaload, 1) := by decide +kernel
theorem dX4_copy_125 : decode cX4_copy 125 = .ok (.iload_n 2, 1) := by decide +kernel
theorem dX4_copy_126 : decode cX4_copy 126 = .ok (.aload_n 0, 1) := by decide +kernel
theorem dX4_copy_127 : decode cX4_copy 127 = .ok (.getfield 45, 3) := by decide +kernel
theorem dX4_copy_130 : decode cX4_copy 130 = .ok (.getfield 211, 3) := by decide +kernel
theorem dX4_copy_133 : decode cX4_copy 133 = .ok (.iload_n 3, 1) := by decide +kernel
theorem dX4_copy_134 : decode cX4_copy 134 = .ok (.aaload, 1) := by decide +kernel
theorem dX4_copy_135 : decode cX4_copy 135 = .ok (.iload 4, 2) := by decide +kernel
theorem dX4_copy_137 : decode cX4_copy 137 = .ok (.iload 5, 2) := by decide +kernel
theorem dX4_copy_139 : decode cX4_copy 139 = .ok (.invokestatic 242, 3) := by decide +kernel
theorem dX4_copy_142 : decode cX4_copy 142 = .ok (.iload 5, 2) := by decide +kernel
theorem dX4_copy_144 : decode cX4_copy 144 = .ok (.ireturn, 1) := by decide +kernel
set_option maxRecDepth 20000 in
theorem ggX4_pewBy_X4_isSheet : GoodIn wsX4_pewBy wsX4_isSheet := goodIn_r _ [8] rfl (by decide +kernel)
set_option maxRecDepth 20000 in
theorem gX4_pewBy_X4_isSheet : GoodIn wsX4_pewBy (va_wsS RX4 218 yX4_isSheet wsX4_isSheet) := goodIn_app (goodIn_of _ (by decide +kernel)) ggX4_pewBy_X4_isSheet
set_option maxRecDepth 20000 in
theorem ggX4_pewBy_X1_isMissing : GoodIn wsX4_pewBy wsX1_isMissing := goodIn_r _ [13, 14, 40, 41, 42] rfl (by decide +kernel)
set_option maxRecDepth 20000 in
theorem gX4_pewBy_X1_isMissing : GoodIn wsX4_pewBy (wsV RX4 233 RX1 yX1_isMissing wsX1_isMissing) := goodIn_app (goodIn_of _ (by decide +kernel)) ggX4_pewBy_X1_isMissing
set_option maxRecDepth 20000 in
theorem ggX4_pewBy_X4_person : GoodIn wsX4_pewBy wsX4_person := goodIn_r _ [18, 19, 20, 21, 22, 23, 24, 25, 26, 27, 28, 29, 30, 31, 32, 33, 34, 35, 36, 37, 38, 39, 43, 44, 45, 46, 47, 48, 49, 50, 51, 52, 53, 54, 55, 56] rfl (by decide +kernel)
set_option maxRecDepth 20000 in
theorem gX4_pewBy_X4_person : GoodIn wsX4_pewBy (wsV RX4 248 RX4 yX4_person wsX4_person) := goodIn_app (goodIn_of _ (by decide +kernel)) ggX4_pewBy_X4_person
theorem dX4_pewBy_0 : decode cX4_pewBy 0 = .ok (.iload_n 1, 1) := by decide +kernel
theorem dX4_pewBy_1 : decode cX4_pewBy 1 = .ok (.invokestatic 218, 3) := by decide +kernel
theorem dX4_pewBy_4 : decode cX4_pewBy 4 = .ok (.ifCond .eq 24, 3) := by decide +kernel
theorem dX4_pewBy_7 : decode cX4_pewBy 7 = .ok (.iload_n 2, 1) := by decide +kernel
theorem dX4_pewBy_8 : decode cX4_pewBy 8 = .ok (.ifCond .lt 20, 3) := by decide +kernel
theorem dX4_pewBy_11 : decode cX4_pewBy 11 = .ok (.iload_n 2, 1) := by decide +kernel
theorem dX4_pewBy_12 : decode cX4_pewBy 12 = .ok (.iconst 2, 1) := by decide +kernel
theorem dX4_pewBy_13 : decode cX4_pewBy 13 = .ok (.if_icmp .gt 15, 3) := by decide +kernel
theorem dX4_pewBy_16 : decode cX4_pewBy 16 = .ok (.iload 4, 2) := by decide +kernel
theorem dX4_pewBy_18 : decode cX4_pewBy 18 = .ok (.ifCond .lt 10, 3) := by decide +kernel
theorem dX4_pewBy_21 : decode cX4_pewBy 21 = .ok (.iload 4, 2) := by decide +kernel
theorem dX4_pewBy_23 : decode cX4_pewBy 23 = .ok (.bipush 6, 2) := by decide +kernel
theorem dX4_pewBy_25 : decode cX4_pewBy 25 = .ok (.if_icmp .le 6, 3) := by decide +kernel
theorem dX4_pewBy_28 : decode cX4_pewBy 28 = .ok (.bipush (-2), 2) := by decide +kernel
theorem dX4_pewBy_30 : decode cX4_pewBy 30 = .ok (.ireturn, 1) := by decide +kernel
theorem dX4_pewBy_31 : decode cX4_pewBy 31 = .ok (.aload_n 0, 1) := by decide +kernel
theorem dX4_pewBy_32 : decode cX4_pewBy 32 = .ok (.getfield 45, 3) := by decide +kernel
theorem dX4_pewBy_35 : decode cX4_pewBy 35 = .ok (.iload_n 1, 1) := by decide +kernel
theorem dX4_pewBy_36 : decode cX4_pewBy 36 = .ok (.invokevirtual 233, 3) := by decide +kernel
theorem dX4_pewBy_39 : decode cX4_pewBy 39 = .ok (.ifCond .eq 6, 3) := by decide +kernel
theorem dX4_pewBy_42 : decode cX4_pewBy 42 = .ok (.bipush (-11), 2) := by decide +kernel
theorem dX4_pewBy_44 : decode cX4_pewBy 44 = .ok (.ireturn, 1) := by decide +kernel
theorem dX4_pewBy_45 : decode cX4_pewBy 45 = .ok (.aload_n 0, 1) := by decide +kernel
theorem dX4_pewBy_46 : decode cX4_pewBy 46 = .ok (.getfield 45, 3) := by decide +kernel
theorem dX4_pewBy_49 : decode cX4_pewBy 49 = .ok (.getfield 239, 3) := by decide +kernel
theorem dX4_pewBy_52 : decode cX4_pewBy 52 = .ok (.iload_n 1, 1) := by decide +kernel
theorem dX4_pewBy_53 : decode cX4_pewBy 53 = .ok (.iaload, 1) := by decide +kernel
theorem dX4_pewBy_54 : decode cX4_pewBy 54 = .ok (.iload_n 2, 1) := by decide +kernel
theorem dX4_pewBy_55 : decode cX4_pewBy 55 = .ok (.if_icmp .eq 6, 3) := by decide +kernel
theorem dX4_pewBy_58 : decode cX4_pewBy 58 = .ok (.bipush (-13), 2) := by decide +kernel
theorem dX4_pewBy_60 : decode cX4_pewBy 60 = .ok (.ireturn, 1) := by decide +kernel
theorem dX4_pewBy_61 : decode cX4_pewBy 61 = .ok (.iconst 0, 1) := by decide +kernel
theorem dX4_pewBy_62 : decode cX4_pewBy 62 = .ok (.istore 5, 2) := by decide +kernel
theorem dX4_pewBy_64 : decode cX4_pewBy 64 = .ok (.iconst 0, 1) := by decide +kernel
theorem dX4_pewBy_65 : decode cX4_pewBy 65 = .ok (.istore 6, 2) := by decide +kernel
theorem dX4_pewBy_67 : decode cX4_pewBy 67 = .ok (.iload 6, 2) := by decide +kernel
theorem dX4_pewBy_69 : decode cX4_pewBy 69 = .ok (.iload 4, 2) := by decide +kernel
theorem dX4_pewBy_71 : decode cX4_pewBy 71 = .ok (.if_icmp .ge 77, 3) := by decide +kernel
theorem dX4_pewBy_74 : decode cX4_pewBy 74 = .ok (.iload_n 3, 1) := by decide +kernel
theorem dX4_pewBy_75 : decode cX4_pewBy 75 = .ok (.iconst 2, 1) := by decide +kernel
theorem dX4_pewBy_76 : decode cX4_pewBy 76 = .ok (.iload 6, 2) := by decide +kernel
theorem dX4_pewBy_78 : decode cX4_pewBy 78 = .ok (.imul, 1) := by decide +kernel
theorem dX4_pewBy_79 : decode cX4_pewBy 79 = .ok (.iadd, 1) := by decide +kernel
theorem dX4_pewBy_80 : decode cX4_pewBy 80 = .ok (.istore 7, 2) := by decide +kernel
theorem dX4_pewBy_82 : decode cX4_pewBy 82 = .ok (.iload 7, 2) := by decide +kernel
theorem dX4_pewBy_84 : decode cX4_pewBy 84 = .ok (.ifCond .lt 19, 3) := by decide +kernel
theorem dX4_pewBy_87 : decode cX4_pewBy 87 = .ok (.iload 7, 2) := by decide +kernel
theorem dX4_pewBy_89 : decode cX4_pewBy 89 = .ok (.aload_n 0, 1) := by decide +kernel
theorem dX4_pewBy_90 : decode cX4_pewBy 90 = .ok (.getfield 45, 3) := by decide +kernel
theorem dX4_pewBy_93 : decode cX4_pewBy 93 = .ok (.getfield 208, 3) := by decide +kernel
theorem dX4_pewBy_96 : decode cX4_pewBy 96 = .ok (.iload_n 1, 1) := by decide +kernel
theorem dX4_pewBy_97 : decode cX4_pewBy 97 = .ok (.iaload, 1) := by decide +kernel
theorem dX4_pewBy_98 : decode cX4_pewBy 98 = .ok (.iconst 2, 1) := by decide +kernel
theorem dX4_pewBy_99 : decode cX4_pewBy 99 = .ok (.isub, 1) := by decide +kernel
theorem dX4_pewBy_100 : decode cX4_pewBy 100 = .ok (.if_icmp .le 6, 3) := by decide +kernel
theorem dX4_pewBy_103 : decode cX4_pewBy 103 = .ok (.bipush (-12), 2) := by decide +kernel
theorem dX4_pewBy_105 : decode cX4_pewBy 105 = .ok (.ireturn, 1) := by decide +kernel
theorem dX4_pewBy_106 : decode cX4_pewBy 106 = .ok (.aload_n 0, 1) := by decide +kernel
theorem dX4_pewBy_107 : decode cX4_pewBy 107 = .ok (.aload_n 0, 1) := by decide +kernel
theorem dX4_pewBy_108 : decode cX4_pewBy 108 = .ok (.getfield 45, 3) := by decide +kernel
theorem dX4_pewBy_111 : decode cX4_pewBy 111 = .ok (.getfield 211, 3) := by decide +kernel
theorem dX4_pewBy_114 : decode cX4_pewBy 114 = .ok (.iload_n 1, 1) := by decide +kernel
theorem dX4_pewBy_115 : decode cX4_pewBy 115 = .ok (.aaload, 1) := by decide +kernel
theorem dX4_pewBy_116 : decode cX4_pewBy 116 = .ok (.iload 7, 2) := by decide +kernel
theorem dX4_pewBy_118 : decode cX4_pewBy 118 = .ok (.iaload, 1) := by decide +kernel
theorem dX4_pewBy_119 : decode cX4_pewBy 119 = .ok (.aload_n 0, 1) := by decide +kernel
theorem dX4_pewBy_120 : decode cX4_pewBy 120 = .ok (.getfield 45, 3) := by decide +kernel
theorem dX4_pewBy_123 : decode cX4_pewBy 123 = .ok (.getfield 211, 3) := by decide +kernel
theorem dX4_pewBy_126 : decode cX4_pewBy 126 = .ok (.iload_n 1, 1) := by decide +kernel
theorem dX4_pewBy_127 : decode cX4_pewBy 127 = .ok (.aaload, 1) := by decide +kernel
theorem dX4_pewBy_128 : decode cX4_pewBy 128 = .ok (.iload 7, 2) := by decide +kernel
theorem dX4_pewBy_130 : decode cX4_pewBy 130 = .ok (.iconst 1, 1) := by decide +kernel
theorem dX4_pewBy_131 : decode cX4_pewBy 131 = .ok (.iadd, 1) := by decide +kernel
theorem dX4_pewBy_132 : decode cX4_pewBy 132 = .ok (.iaload, 1) := by decide +kernel
theorem dX4_pewBy_133 : decode cX4_pewBy 133 = .ok (.invokevirtual 248, 3) := by decide +kernel
theorem dX4_pewBy_136 : decode cX4_pewBy 136 = .ok (.ifCond .lt 6, 3) := by decide +kernel
theorem dX4_pewBy_139 : decode cX4_pewBy 139 = .ok (.iinc 5 1, 3) := by decide +kernel
theorem dX4_pewBy_142 : decode cX4_pewBy 142 = .ok (.iinc 6 1, 3) := by decide +kernel
theorem dX4_pewBy_145 : decode cX4_pewBy 145 = .ok (.goto (-78), 3) := by decide +kernel
theorem dX4_pewBy_148 : decode cX4_pewBy 148 = .ok (.iload 5, 2) := by decide +kernel
theorem dX4_pewBy_150 : decode cX4_pewBy 150 = .ok (.ireturn, 1) := by decide +kernel
set_option maxRecDepth 20000 in
theorem ggX4_taken_X4_isThere : GoodIn wsX4_taken wsX4_isThere := goodIn_r _ [8, 1, 9, 13, 14, 15, 16, 17, 18, 19, 20, 21, 22, 23, 24, 25, 26, 27, 28, 29, 30, 31, 32, 33, 34, 35] rfl (by decide +kernel)
set_option maxRecDepth 20000 in
theorem gX4_taken_X4_isThere : GoodIn wsX4_taken (wsV RX4 112 RX4 yX4_isThere wsX4_isThere) := goodIn_app (goodIn_of _ (by decide +kernel)) ggX4_taken_X4_isThere
set_option maxRecDepth 20000 in
theorem ggX4_taken_X4_isOneOf : GoodIn wsX4_taken wsX4_isOneOf := goodIn_r _ [12] rfl (by decide +kernel)
set_option maxRecDepth 20000 in
theorem gX4_taken_X4_isOneOf : GoodIn wsX4_taken (va_wsS RX4 251 yX4_isOneOf wsX4_isOneOf) := goodIn_app (goodIn_of _ (by decide +kernel)) ggX4_taken_X4_isOneOf
theorem dX4_taken_0 : decode cX4_taken 0 = .ok (.iload_n 2, 1) := by decide +kernel
theorem dX4_taken_1 : decode cX4_taken 1 = .ok (.ifCond .lt 9, 3) := by decide +kernel
theorem dX4_taken_4 : decode cX4_taken 4 = .ok (.iload_n 2, 1) := by decide +kernel
theorem dX4_taken_5 : decode cX4_taken 5 = .ok (.bipush 6, 2) := by decide +kernel
theorem dX4_taken_7 : decode cX4_taken 7 = .ok (.if_icmp .le 6, 3) := by decide +kernel
theorem dX4_taken_10 : decode cX4_taken 10 = .ok (.bipush (-2), 2) := by decide +kernel
theorem dX4_taken_12 : decode cX4_taken 12 = .ok (.ireturn, 1) := by decide +kernel
theorem dX4_taken_13 : decode cX4_taken 13 = .ok (.iload_n 1, 1) := by decide +kernel
theorem dX4_taken_14 : decode cX4_taken 14 = .ok (.ifCond .lt 9, 3) := by decide +kernel
theorem dX4_taken_17 : decode cX4_taken 17 = .ok (.iload_n 1, 1) := by decide +kernel
theorem dX4_taken_18 : decode cX4_taken 18 = .ok (.bipush 12, 2) := by decide +kernel
theorem dX4_taken_20 : decode cX4_taken 20 = .ok (.if_icmp .lt 6, 3) := by decide +kernel
theorem dX4_taken_23 : decode cX4_taken 23 = .ok (.bipush (-12), 2) := by decide +kernel
theorem dX4_taken_25 : decode cX4_taken 25 = .ok (.ireturn, 1) := by decide +kernel
theorem dX4_taken_26 : decode cX4_taken 26 = .ok (.iload_n 1, 1) := by decide +kernel
theorem dX4_taken_27 : decode cX4_taken 27 = .ok (.bipush 6, 2) := by decide +kernel
theorem dX4_taken_29 : decode cX4_taken 29 = .ok (.if_icmp .lt 27, 3) := by decide +kernel
theorem dX4_taken_32 : decode cX4_taken 32 = .ok (.iload_n 2, 1) := by decide +kernel
theorem dX4_taken_33 : decode cX4_taken 33 = .ok (.bipush 6, 2) := by decide +kernel
theorem dX4_taken_35 : decode cX4_taken 35 = .ok (.if_icmp .ne 18, 3) := by decide +kernel
theorem dX4_taken_38 : decode cX4_taken 38 = .ok (.aload_n 0, 1) := by decide +kernel
theorem dX4_taken_39 : decode cX4_taken 39 = .ok (.getfield 28, 3) := by decide +kernel
theorem dX4_taken_42 : decode cX4_taken 42 = .ok (.getfield 83, 3) := by decide +kernel
theorem dX4_taken_45 : decode cX4_taken 45 = .ok (.iload_n 1, 1) := by decide +kernel
theorem dX4_taken_46 : decode cX4_taken 46 = .ok (.bipush 6, 2) := by decide +kernel
theorem dX4_taken_48 : decode cX4_taken 48 = .ok (.isub, 1) := by decide +kernel
theorem dX4_taken_49 : decode cX4_taken 49 = .ok (.iaload, 1) := by decide +kernel
theorem dX4_taken_50 : decode cX4_taken 50 = .ok (.goto 5, 3) := by decide +kernel
theorem dX4_taken_53 : decode cX4_taken 53 = .ok (.bipush (-13), 2) := by decide +kernel
theorem dX4_taken_55 : decode cX4_taken 55 = .ok (.ireturn, 1) := by decide +kernel
theorem dX4_taken_56 : decode cX4_taken 56 = .ok (.aload_n 0, 1) := by decide +kernel
theorem dX4_taken_57 : decode cX4_taken 57 = .ok (.iload_n 1, 1) := by decide +kernel
theorem dX4_taken_58 : decode cX4_taken 58 = .ok (.invokevirtual 112, 3) := by decide +kernel
theorem dX4_taken_61 : decode cX4_taken 61 = .ok (.ifCond .ne 6, 3) := by decide +kernel
theorem dX4_taken_64 : decode cX4_taken 64 = .ok (.bipush (-11), 2) := by decide +kernel
theorem dX4_taken_66 : decode cX4_taken 66 = .ok (.ireturn, 1) := by decide +kernel
theorem dX4_taken_67 : decode cX4_taken 67 = .ok (.aload_n 0, 1) := by decide +kernel
theorem dX4_taken_68 : decode cX4_taken 68 = .ok (.getfield 28, 3) := by decide +kernel
theorem dX4_taken_71 : decode cX4_taken 71 = .ok (.getfield 132, 3) := by decide +kernel
theorem dX4_taken_74 : decode cX4_taken 74 = .ok (.iload_n 1, 1) := by decide +kernel
theorem dX4_taken_75 : decode cX4_taken 75 = .ok (.iaload, 1) := by decide +kernel
theorem dX4_taken_76 : decode cX4_taken 76 = .ok (.iload_n 2, 1) := by decide +kernel
theorem dX4_taken_77 : decode cX4_taken 77 = .ok (.invokestatic 251, 3) := by decide +kernel
theorem dX4_taken_80 : decode cX4_taken 80 = .ok (.ifCond .eq 7, 3) := by decide +kernel
theorem dX4_taken_83 : decode cX4_taken 83 = .ok (.iload_n 1, 1) := by decide +kernel
theorem dX4_taken_84 : decode cX4_taken 84 = .ok (.goto 5, 3) := by decide +kernel
theorem dX4_taken_87 : decode cX4_taken 87 = .ok (.bipush (-13), 2) := by decide +kernel
theorem dX4_taken_89 : decode cX4_taken 89 = .ok (.ireturn, 1) := by decide +kernel
theorem dX4_isOneOf_0 : decode cX4_isOneOf 0 = .ok (.iload_n 1, 1) := by decide +kernel
theorem dX4_isOneOf_1 : decode cX4_isOneOf 1 = .ok (.tableswitch 61 0 2 #[27, 29, 45], 27) := by decide +kernel
theorem dX4_isOneOf_28 : decode cX4_isOneOf 28 = .ok (.iconst 1, 1) := by decide +kernel
theorem dX4_isOneOf_29 : decode cX4_isOneOf 29 = .ok (.ireturn, 1) := by decide +kernel
theorem dX4_isOneOf_30 : decode cX4_isOneOf 30 = .ok (.iload_n 0, 1) := by decide +kernel
theorem dX4_isOneOf_31 : decode cX4_isOneOf 31 = .ok (.iconst 1, 1) := by decide +kernel
theorem dX4_isOneOf_32 : decode cX4_isOneOf 32 = .ok (.if_icmp .eq 8, 3) := by decide +kernel
theorem dX4_isOneOf_35 : decode cX4_isOneOf 35 = .ok (.iload_n 0, 1) := by decide +kernel
theorem dX4_isOneOf_36 : decode cX4_isOneOf 36 = .ok (.iconst 3, 1) := by decide +kernel
theorem dX4_isOneOf_37 : decode cX4_isOneOf 37 = .ok (.if_icmp .ne 7, 3) := by decide +kernel
theorem dX4_isOneOf_40 : decode cX4_isOneOf 40 = .ok (.iconst 1, 1) := by decide +kernel
theorem dX4_isOneOf_41 : decode cX4_isOneOf 41 = .ok (.goto 4, 3) := by decide +kernel
theorem dX4_isOneOf_44 : decode cX4_isOneOf 44 = .ok (.iconst 0, 1) := by decide +kernel
theorem dX4_isOneOf_45 : decode cX4_isOneOf 45 = .ok (.ireturn, 1) := by decide +kernel
theorem dX4_isOneOf_46 : decode cX4_isOneOf 46 = .ok (.iload_n 0, 1) := by decide +kernel
theorem dX4_isOneOf_47 : decode cX4_isOneOf 47 = .ok (.iconst 2, 1) := by decide +kernel
theorem dX4_isOneOf_48 : decode cX4_isOneOf 48 = .ok (.if_icmp .eq 8, 3) := by decide +kernel
theorem dX4_isOneOf_51 : decode cX4_isOneOf 51 = .ok (.iload_n 0, 1) := by decide +kernel
theorem dX4_isOneOf_52 : decode cX4_isOneOf 52 = .ok (.iconst 4, 1) := by decide +kernel
theorem dX4_isOneOf_53 : decode cX4_isOneOf 53 = .ok (.if_icmp .ne 7, 3) := by decide +kernel
theorem dX4_isOneOf_56 : decode cX4_isOneOf 56 = .ok (.iconst 1, 1) := by decide +kernel
theorem dX4_isOneOf_57 : decode cX4_isOneOf 57 = .ok (.goto 4, 3) := by decide +kernel
theorem dX4_isOneOf_60 : decode cX4_isOneOf 60 = .ok (.iconst 0, 1) := by decide +kernel
theorem dX4_isOneOf_61 : decode cX4_isOneOf 61 = .ok (.ireturn, 1) := by decide +kernel
theorem dX4_isOneOf_62 : decode cX4_isOneOf 62 = .ok (.iload_n 0, 1) := by decide +kernel
theorem dX4_isOneOf_63 : decode cX4_isOneOf 63 = .ok (.iload_n 1, 1) := by decide +kernel
theorem dX4_isOneOf_64 : decode cX4_isOneOf 64 = .ok (.if_icmp .ne 7, 3) := by decide +kernel
theorem dX4_isOneOf_67 : decode cX4_isOneOf 67 = .ok (.iconst 1, 1) := by decide +kernel
theorem dX4_isOneOf_68 : decode cX4_isOneOf 68 = .ok (.goto 4, 3) := by decide +kernel
theorem dX4_isOneOf_71 : decode cX4_isOneOf 71 = .ok (.iconst 0, 1) := by decide +kernel
theorem dX4_isOneOf_72 : decode cX4_isOneOf 72 = .ok (.ireturn, 1) := by decide +kernel
theorem dX4_isSort_0 : decode cX4_isSort 0 = .ok (.iload_n 0, 1) := by decide +kernel
theorem dX4_isSort_1 : decode cX4_isSort 1 = .ok (.ifCond .lt 13, 3) := by decide +kernel
theorem dX4_isSort_4 : decode cX4_isSort 4 = .ok (.iload_n 0, 1) := by decide +kernel
theorem dX4_isSort_5 : decode cX4_isSort 5 = .ok (.bipush 6, 2) := by decide +kernel
theorem dX4_isSort_7 : decode cX4_isSort 7 = .ok (.if_icmp .ge 7, 3) := by decide +kernel
theorem dX4_isSort_10 : decode cX4_isSort 10 = .ok (.iconst 1, 1) := by decide +kernel
theorem dX4_isSort_11 : decode cX4_isSort 11 = .ok (.goto 4, 3) := by decide +kernel
theorem dX4_isSort_14 : decode cX4_isSort 14 = .ok (.iconst 0, 1) := by decide +kernel
theorem dX4_isSort_15 : decode cX4_isSort 15 = .ok (.ireturn, 1) := by decide +kernel
theorem dX4_isByte_0 : decode cX4_isByte 0 = .ok (.iload_n 0, 1) := by decide +kernel
theorem dX4_isByte_1 : decode cX4_isByte 1 = .ok (.ifCond .lt 14, 3) := by decide +kernel
theorem dX4_isByte_4 : decode cX4_isByte 4 = .ok (.iload_n 0, 1) := by decide +kernel
theorem dX4_isByte_5 : decode cX4_isByte 5 = .ok (.sipush 255, 3) := by decide +kernel
theorem dX4_isByte_8 : decode cX4_isByte 8 = .ok (.if_icmp .gt 7, 3) := by decide +kernel
theorem dX4_isByte_11 : decode cX4_isByte 11 = .ok (.iconst 1, 1) := by decide +kernel
theorem dX4_isByte_12 : decode cX4_isByte 12 = .ok (.goto 4, 3) := by decide +kernel
theorem dX4_isByte_15 : decode cX4_isByte 15 = .ok (.iconst 0, 1) := by decide +kernel
theorem dX4_isByte_16 : decode cX4_isByte 16 = .ok (.ireturn, 1) := by decide +kernel
theorem dX4_isSheet_0 : decode cX4_isSheet 0 = .ok (.iload_n 0, 1) := by decide +kernel
theorem dX4_isSheet_1 : decode cX4_isSheet 1 = .ok (.ifCond .lt 12, 3) := by decide +kernel
theorem dX4_isSheet_4 : decode cX4_isSheet 4 = .ok (.iload_n 0, 1) := by decide +kernel
theorem dX4_isSheet_5 : decode cX4_isSheet 5 = .ok (.iconst 4, 1) := by decide +kernel
theorem dX4_isSheet_6 : decode cX4_isSheet 6 = .ok (.if_icmp .ge 7, 3) := by decide +kernel
theorem dX4_isSheet_9 : decode cX4_isSheet 9 = .ok (.iconst 1, 1) := by decide +kernel
theorem dX4_isSheet_10 : decode cX4_isSheet 10 = .ok (.goto 4, 3) := by decide +kernel
theorem dX4_isSheet_13 : decode cX4_isSheet 13 = .ok (.iconst 0, 1) := by decide +kernel
theorem dX4_isSheet_14 : decode cX4_isSheet 14 = .ok (.ireturn, 1) := by decide +kernel
theorem dX4_isThere_0 : decode cX4_isThere 0 = .ok (.iload_n 1, 1) := by decide +kernel
theorem dX4_isThere_1 : decode cX4_isThere 1 = .ok (.ifCond .lt 18, 3) := by decide +kernel
theorem dX4_isThere_4 : decode cX4_isThere 4 = .ok (.iload_n 1, 1) := by decide +kernel
theorem dX4_isThere_5 : decode cX4_isThere 5 = .ok (.aload_n 0, 1) := by decide +kernel
theorem dX4_isThere_6 : decode cX4_isThere 6 = .ok (.getfield 28, 3) := by decide +kernel
theorem dX4_isThere_9 : decode cX4_isThere 9 = .ok (.getfield 56, 3) := by decide +kernel
theorem dX4_isThere_12 : decode cX4_isThere 12 = .ok (.if_icmp .ge 7, 3) := by decide +kernel
theorem dX4_isThere_15 : decode cX4_isThere 15 = .ok (.iconst 1, 1) := by decide +kernel
theorem dX4_isThere_16 : decode cX4_isThere 16 = .ok (.goto 4, 3) := by decide +kernel
theorem dX4_isThere_19 : decode cX4_isThere 19 = .ok (.iconst 0, 1) := by decide +kernel
theorem dX4_isThere_20 : decode cX4_isThere 20 = .ok (.ireturn, 1) := by decide +kernel
set_option maxRecDepth 20000 in
theorem ggX5_init_X5_text : GoodIn wsX5_init wsX5_text := goodIn_r _ [31, 32, 33, 34, 35, 36, 11, 26, 37, 38, 39, 40, 30, 41, 9, 42, 43, 44, 45, 46, 47, 48, 18, 49, 50, 51, 52, 53, 54, 55, 56, 57, 58, 59, 10, 60, 61, 62, 63, 19, 64, 65, 66, 67, 68, 69, 70, 71, 72, 73, 74, 75, 76, 77, 78, 79, 80, 81, 82, 83, 84, 85, 86, 87, 88, 89, 90, 91, 92, 93, 94, 95, 96, 97, 98, 99, 100, 101, 102, 103, 104, 105, 106, 107, 108, 109, 110, 111, 112, 113, 114, 115, 116, 117, 118, 119] rfl (by decide +kernel)
set_option maxRecDepth 20000 in
theorem gX5_init_X5_text : GoodIn wsX5_init (wsV RX5 77 RX5 yX5_text wsX5_text) := goodIn_app (goodIn_of _ (by decide +kernel)) ggX5_init_X5_text
theorem dX5_init_0 : decode cX5_init 0 = .ok (.aload_n 0, 1) := by decide +kernel
theorem dX5_init_1 : decode cX5_init 1 = .ok (.invokespecial 1, 3) := by decide +kernel
theorem dX5_init_4 : decode cX5_init 4 = .ok (.aload_n 0, 1) := by decide +kernel
theorem dX5_init_5 : decode cX5_init 5 = .ok (.bipush 6, 2) := by decide +kernel
theorem dX5_init_7 : decode cX5_init 7 = .ok (.newarray .int, 2) := by decide +kernel
theorem dX5_init_9 : decode cX5_init 9 = .ok (.putfield 7, 3) := by decide +kernel
theorem dX5_init_12 : decode cX5_init 12 = .ok (.aload_n 0, 1) := by decide +kernel
theorem dX5_init_13 : decode cX5_init 13 = .ok (.bipush 6, 2) := by decide +kernel
theorem dX5_init_15 : decode cX5_init 15 = .ok (.newarray .int, 2) := by decide +kernel
theorem dX5_init_17 : decode cX5_init 17 = .ok (.putfield 13, 3) := by decide +kernel
theorem dX5_init_20 : decode cX5_init 20 = .ok (.aload_n 0, 1) := by decide +kernel
theorem dX5_init_21 : decode cX5_init 21 = .ok (.bipush 18, 2) := by decide +kernel
theorem dX5_init_23 : decode cX5_init 23 = .ok (.newarray .int, 2) := by decide +kernel
theorem dX5_init_25 : decode cX5_init 25 = .ok (.putfield 16, 3) := by decide +kernel
theorem dX5_init_28 : decode cX5_init 28 = .ok (.aload_n 0, 1) := by decide +kernel
theorem dX5_init_29 : decode cX5_init 29 = .ok (.bipush 12, 2) := by decide +kernel
theorem dX5_init_31 : decode cX5_init 31 = .ok (.newarray .int, 2) := by decide +kernel
theorem dX5_init_33 : decode cX5_init 33 = .ok (.dup, 1) := by decide +kernel
theorem dX5_init_34 : decode cX5_init 34 = .ok (.iconst 0, 1) := by decide +kernel
theorem dX5_init_35 : decode cX5_init 35 = .ok (.iconst 1, 1) := by decide +kernel
theorem dX5_init_36 : decode cX5_init 36 = .ok (.iastore, 1) := by decide +kernel
theorem dX5_init_37 : decode cX5_init 37 = .ok (.dup, 1) := by decide +kernel
theorem dX5_init_38 : decode cX5_init 38 = .ok (.iconst 1, 1) := by decide +kernel
theorem dX5_init_39 : decode cX5_init 39 = .ok (.iconst 0, 1) := by decide +kernel
theorem dX5_init_40 : decode cX5_init 40 = .ok (.iastore, 1) := by decide +kernel
theorem dX5_init_41 : decode cX5_init 41 = .ok (.dup, 1) := by decide +kernel
theorem dX5_init_42 : decode cX5_init 42 = .ok (.iconst 2, 1) := by decide +kernel
theorem dX5_init_43 : decode cX5_init 43 = .ok (.iconst 2, 1) := by decide +kernel
theorem dX5_init_44 : decode cX5_init 44 = .ok (.iastore, 1) := by decide +kernel
theorem dX5_init_45 : decode cX5_init 45 = .ok (.dup, 1) := by decide +kernel
theorem dX5_init_46 : decode cX5_init 46 = .ok (.iconst 3, 1) := by decide +kernel
theorem dX5_init_47 : decode cX5_init 47 = .ok (.iconst 0, 1) := by decide +kernel
theorem dX5_init_48 : decode cX5_init 48 = .ok (.iastore, 1) := by decide +kernel
theorem dX5_init_49 : decode cX5_init 49 = .ok (.dup, 1) := by decide +kernel
theorem dX5_init_50 : decode cX5_init 50 = .ok (.iconst 4, 1) := by decide +kernel
theorem dX5_init_51 : decode cX5_init 51 = .ok (.iconst 4, 1) := by decide +kernel
theorem dX5_init_52 : decode cX5_init 52 = .ok (.iastore, 1) := by decide +kernel
theorem dX5_init_53 : decode cX5_init 53 = .ok (.dup, 1) := by decide +kernel
theorem dX5_init_54 : decode cX5_init 54 = .ok (.iconst 5, 1) := by decide +kernel
theorem dX5_init_55 : decode cX5_init 55 = .ok (.iconst 0, 1) := by decide +kernel
theorem dX5_init_56 : decode cX5_init 56 = .ok (.iastore, 1) := by decide +kernel
theorem dX5_init_57 : decode cX5_init 57 = .ok (.dup, 1) := by decide +kernel
theorem dX5_init_58 : decode cX5_init 58 = .ok (.bipush 6, 2) := by decide +kernel
theorem dX5_init_60 : decode cX5_init 60 = .ok (.bipush 8, 2) := by decide +kernel
theorem dX5_init_62 : decode cX5_init 62 = .ok (.iastore, 1) := by decide +kernel
theorem dX5_init_63 : decode cX5_init 63 = .ok (.dup, 1) := by decide +kernel
theorem dX5_init_64 : decode cX5_init 64 = .ok (.bipush 7, 2) := by decide +kernel
theorem dX5_init_66 : decode cX5_init 66 = .ok (.iconst 0, 1) := by decide +kernel
theorem dX5_init_67 : decode cX5_init 67 = .ok (.iastore, 1) := by decide +kernel
theorem dX5_init_68 : decode cX5_init 68 = .ok (.dup, 1) := by decide +kernel
theorem dX5_init_69 : decode cX5_init 69 = .ok (.bipush 8, 2) := by decide +kernel
theorem dX5_init_71 : decode cX5_init 71 = .ok (.bipush 16, 2) := by decide +kernel
theorem dX5_init_73 : decode cX5_init 73 = .ok (.iastore, 1) := by decide +kernel
theorem dX5_init_74 : decode cX5_init 74 = .ok (.dup, 1) := by decide +kernel
theorem dX5_init_75 : decode cX5_init 75 = .ok (.bipush 9, 2) := by decide +kernel
theorem dX5_init_77 : decode cX5_init 77 = .ok (.iconst 0, 1) := by decide +kernel
theorem dX5_init_78 : decode cX5_init 78 = .ok (.iastore, 1) := by decide +kernel
theorem dX5_init_79 : decode cX5_init 79 = .ok (.dup, 1) := by decide +kernel
theorem dX5_init_80 : decode cX5_init 80 = .ok (.bipush 10, 2) := by decide +kernel
theorem dX5_init_82 : decode cX5_init 82 = .ok (.bipush 32, 2) := by decide +kernel
theorem dX5_init_84 : decode cX5_init 84 = .ok (.iastore, 1) := by decide +kernel
theorem dX5_init_85 : decode cX5_init 85 = .ok (.dup, 1) := by decide +kernel
theorem dX5_init_86 : decode cX5_init 86 = .ok (.bipush 11, 2) := by decide +kernel
theorem dX5_init_88 : decode cX5_init 88 = .ok (.iconst 0, 1) := by decide +kernel
theorem dX5_init_89 : decode cX5_init 89 = .ok (.iastore, 1) := by decide +kernel
theorem dX5_init_90 : decode cX5_init 90 = .ok (.putfield 19, 3) := by decide +kernel
theorem dX5_init_93 : decode cX5_init 93 = .ok (.aload_n 0, 1) := by decide +kernel
theorem dX5_init_94 : decode cX5_init 94 = .ok (.sipush 160, 3) := by decide +kernel
theorem dX5_init_97 : decode cX5_init 97 = .ok (.newarray .int, 2) := by decide +kernel
theorem dX5_init_99 : decode cX5_init 99 = .ok (.putfield 22, 3) := by decide +kernel
theorem dX5_init_102 : decode cX5_init 102 = .ok (.aload_n 0, 1) := by decide +kernel
theorem dX5_init_103 : decode cX5_init 103 = .ok (.sipush 1200, 3) := by decide +kernel
theorem dX5_init_106 : decode cX5_init 106 = .ok (.newarray .int, 2) := by decide +kernel
theorem dX5_init_108 : decode cX5_init 108 = .ok (.putfield 25, 3) := by decide +kernel
theorem dX5_init_111 : decode cX5_init 111 = .ok (.aload_n 0, 1) := by decide +kernel
theorem dX5_init_112 : decode cX5_init 112 = .ok (.bipush 24, 2) := by decide +kernel
theorem dX5_init_114 : decode cX5_init 114 = .ok (.newarray .int, 2) := by decide +kernel
theorem dX5_init_116 : decode cX5_init 116 = .ok (.putfield 28, 3) := by decide +kernel
theorem dX5_init_119 : decode cX5_init 119 = .ok (.aload_n 0, 1) := by decide +kernel
theorem dX5_init_120 : decode cX5_init 120 = .ok (.bipush 30, 2) := by decide +kernel
theorem dX5_init_122 : decode cX5_init 122 = .ok (.newarray .int, 2) := by decide +kernel
theorem dX5_init_124 : decode cX5_init 124 = .ok (.putfield 31, 3) := by decide +kernel
theorem dX5_init_127 : decode cX5_init 127 = .ok (.aload_n 0, 1) := by decide +kernel
theorem dX5_init_128 : decode cX5_init 128 = .ok (.iconst 4, 1) := by decide +kernel
theorem dX5_init_129 : decode cX5_init 129 = .ok (.newarray .int, 2) := by decide +kernel
theorem dX5_init_131 : decode cX5_init 131 = .ok (.putfield 34, 3) := by decide +kernel
theorem dX5_init_134 : decode cX5_init 134 = .ok (.aload_n 0, 1) := by decide +kernel
theorem dX5_init_135 : decode cX5_init 135 = .ok (.iconst 4, 1) := by decide +kernel
theorem dX5_init_136 : decode cX5_init 136 = .ok (.newarray .int, 2) := by decide +kernel
theorem dX5_init_138 : decode cX5_init 138 = .ok (.dup, 1) := by decide +kernel
theorem dX5_init_139 : decode cX5_init 139 = .ok (.iconst 0, 1) := by decide +kernel
theorem dX5_init_140 : decode cX5_init 140 = .ok (.iconst (-1), 1) := by decide +kernel
theorem dX5_init_141 : decode cX5_init 141 = .ok (.iastore, 1) := by decide +kernel
theorem dX5_init_142 : decode cX5_init 142 = .ok (.dup, 1) := by decide +kernel
theorem dX5_init_143 : decode cX5_init 143 = .ok (.iconst 1, 1) := by decide +kernel
theorem dX5_init_144 : decode cX5_init 144 = .ok (.iconst (-1), 1) := by decide +kernel
theorem dX5_init_145 : decode cX5_init 145 = .ok (.iastore, 1) := by decide +kernel
theorem dX5_init_146 : decode cX5_init 146 = .ok (.dup, 1) := by decide +kernel
theorem dX5_init_147 : decode cX5_init 147 = .ok (.iconst 2, 1) := by decide +kernel
theorem dX5_init_148 : decode cX5_init 148 = .ok (.iconst (-1), 1) := by decide +kernel
theorem dX5_init_149 : decode cX5_init 149 = .ok (.iastore, 1) := by decide +kernel
theorem dX5_init_150 : decode cX5_init 150 = .ok (.dup, 1) := by decide +kernel
theorem dX5_init_151 : decode cX5_init 151 = .ok (.iconst 3, 1) := by decide +kernel
theorem dX5_init_152 : decode cX5_init 152 = .ok (.iconst (-1), 1) := by decide +kernel
theorem dX5_init_153 : decode cX5_init 153 = .ok (.iastore, 1) := by decide +kernel
theorem dX5_init_154 : decode cX5_init 154 = .ok (.putfield 37, 3) := by decide +kernel
theorem dX5_init_157 : decode cX5_init 157 = .ok (.aload_n 0, 1) := by decide +kernel
theorem dX5_init_158 : decode cX5_init 158 = .ok (.iconst 4, 1) := by decide +kernel
theorem dX5_init_159 : decode cX5_init 159 = .ok (.newarray .int, 2) := by decide +kernel
theorem dX5_init_161 : decode cX5_init 161 = .ok (.putfield 40, 3) := by decide +kernel
theorem dX5_init_164 : decode cX5_init 164 = .ok (.aload_n 0, 1) := by decide +kernel
theorem dX5_init_165 : decode cX5_init 165 = .ok (.sipush 160, 3) := by decide +kernel
theorem dX5_init_168 : decode cX5_init 168 = .ok (.newarray .int, 2) := by decide +kernel
theorem dX5_init_170 : decode cX5_init 170 = .ok (.putfield 43, 3) := by decide +kernel
theorem dX5_init_173 : decode cX5_init 173 = .ok (.aload_n 0, 1) := by decide +kernel
theorem dX5_init_174 : decode cX5_init 174 = .ok (.bipush 38, 2) := by decide +kernel
theorem dX5_init_176 : decode cX5_init 176 = .ok (.newarray .int, 2) := by decide +kernel
theorem dX5_init_178 : decode cX5_init 178 = .ok (.dup, 1) := by decide +kernel
theorem dX5_init_179 : decode cX5_init 179 = .ok (.iconst 0, 1) := by decide +kernel
theorem dX5_init_180 : decode cX5_init 180 = .ok (.bipush 116, 2) := by decide +kernel
theorem dX5_init_182 : decode cX5_init 182 = .ok (.iastore, 1) := by decide +kernel
theorem dX5_init_183 : decode cX5_init 183 = .ok (.dup, 1) := by decide +kernel
theorem dX5_init_184 : decode cX5_init 184 = .ok (.iconst 1, 1) := by decide +kernel
theorem dX5_init_185 : decode cX5_init 185 = .ok (.bipush 97, 2) := by decide +kernel
theorem dX5_init_187 : decode cX5_init 187 = .ok (.iastore, 1) := by decide +kernel
theorem dX5_init_188 : decode cX5_init 188 = .ok (.dup, 1) := by decide +kernel
theorem dX5_init_189 : decode cX5_init 189 = .ok (.iconst 2, 1) := by decide +kernel
theorem dX5_init_190 : decode cX5_init 190 = .ok (.bipush 107, 2) := by decide +kernel
theorem dX5_init_192 : decode cX5_init 192 = .ok (.iastore, 1) := by decide +kernel
theorem dX5_init_193 : decode cX5_init 193 = .ok (.dup, 1) := by decide +kernel
theorem dX5_init_194 : decode cX5_init 194 = .ok (.iconst 3, 1) := by decide +kernel
theorem dX5_init_195 : decode cX5_init 195 = .ok (.bipush 101, 2) := by decide +kernel
theorem dX5_init_197 : decode cX5_init 197 = .ok (.iastore, 1) := by decide +kernel
theorem dX5_init_198 : decode cX5_init 198 = .ok (.dup, 1) := by decide +kernel
theorem dX5_init_199 : decode cX5_init 199 = .ok (.iconst 4, 1) := by decide +kernel
theorem dX5_init_200 : decode cX5_init 200 = .ok (.bipush 115, 2) := by decide +kernel
theorem dX5_init_202 : decode cX5_init 202 = .ok (.iastore, 1) := by decide +kernel
theorem dX5_init_203 : decode cX5_init 203 = .ok (.dup, 1) := by decide +kernel
theorem dX5_init_204 : decode cX5_init 204 = .ok (.iconst 5, 1) := by decide +kernel
theorem dX5_init_205 : decode cX5_init 205 = .ok (.bipush 32, 2) := by decide +kernel
theorem dX5_init_207 : decode cX5_init 207 = .ok (.iastore, 1) := by decide +kernel
theorem dX5_init_208 : decode cX5_init 208 = .ok (.dup, 1) := by decide +kernel
theorem dX5_init_209 : decode cX5_init 209 = .ok (.bipush 6, 2) := by decide +kernel
theorem dX5_init_211 : decode cX5_init 211 = .ok (.bipush 112, 2) := by decide +kernel
theorem dX5_init_213 : decode cX5_init 213 = .ok (.iastore, 1) := by decide +kernel
theorem dX5_init_214 : decode cX5_init 214 = .ok (.dup, 1) := by decide +kernel
theorem dX5_init_215 : decode cX5_init 215 = .ok (.bipush 7, 2) := by decide +kernel
theorem dX5_init_217 : decode cX5_init 217 = .ok (.bipush 114, 2) := by decide +kernel
theorem dX5_init_219 : decode cX5_init 219 = .ok (.iastore, 1) := by decide +kernel
theorem dX5_init_220 : decode cX5_init 220 = .ok (.dup, 1) := by decide +kernel
theorem dX5_init_221 : decode cX5_init 221 = .ok (.bipush 8, 2) := by decide +kernel
theorem dX5_init_223 : decode cX5_init 223 = .ok (.bipush 105, 2) := by decide +kernel
theorem dX5_init_225 : decode cX5_init 225 = .ok (.iastore, 1) := by decide +kernel
theorem dX5_init_226 : decode cX5_init 226 = .ok (.dup, 1) := by decide +kernel
theorem dX5_init_227 : decode cX5_init 227 = .ok (.bipush 9, 2) := by decide +kernel
theorem dX5_init_229 : decode cX5_init 229 = .ok (.bipush 100, 2) := by decide +kernel
theorem dX5_init_231 : decode cX5_init 231 = .ok (.iastore, 1) := by decide +kernel
theorem dX5_init_232 : decode cX5_init 232 = .ok (.dup, 1) := by decide +kernel
theorem dX5_init_233 : decode cX5_init 233 = .ok (.bipush 10, 2) := by decide +kernel
theorem dX5_init_235 : decode cX5_init 235 = .ok (.bipush 101, 2) := by decide +kernel
theorem dX5_init_237 : decode cX5_init 237 = .ok (.iastore, 1) := by decide +kernel
theorem dX5_init_238 : decode cX5_init 238 = .ok (.dup, 1) := by decide +kernel
theorem dX5_init_239 : decode cX5_init 239 = .ok (.bipush 11, 2) := by decide +kernel
theorem dX5_init_241 : decode cX5_init 241 = .ok (.bipush 32, 2) := by decide +kernel
theorem dX5_init_243 : decode cX5_init 243 = .ok (.iastore, 1) := by decide +kernel
theorem dX5_init_244 : decode cX5_init 244 = .ok (.dup, 1) := by decide +kernel
theorem dX5_init_245 : decode cX5_init 245 = .ok (.bipush 12, 2) := by decide +kernel
theorem dX5_init_247 : decode cX5_init 247 = .ok (.bipush 59, 2) := by decide +kernel
theorem dX5_init_249 : decode cX5_init 249 = .ok (.iastore, 1) := by decide +kernel
theorem dX5_init_250 : decode cX5_init 250 = .ok (.dup, 1) := by decide +kernel
theorem dX5_init_251 : decode cX5_init 251 = .ok (.bipush 13, 2) := by decide +kernel
theorem dX5_init_253 : decode cX5_init 253 = .ok (.bipush 32, 2) := by decide +kernel
theorem dX5_init_255 : decode cX5_init 255 = .ok (.iastore, 1) := by decide +kernel
theorem dX5_init_256 : decode cX5_init 256 = .ok (.dup, 1) := by decide +kernel
theorem dX5_init_257 : decode cX5_init 257 = .ok (.bipush 14, 2) := by decide +kernel
theorem dX5_init_259 : decode cX5_init 259 = .ok (.bipush 115, 2) := by decide +kernel
theorem dX5_init_261 : decode cX5_init 261 = .ok (.iastore, 1) := by decide +kernel
theorem dX5_init_262 : decode cX5_init 262 = .ok (.dup, 1) := by decide +kernel
theorem dX5_init_263 : decode cX5_init 263 = .ok (.bipush 15, 2) := by decide +kernel
theorem dX5_init_265 : decode cX5_init 265 = .ok (.bipush 111, 2) := by decide +kernel
theorem dX5_init_267 : decode cX5_init 267 = .ok (.iastore, 1) := by decide +kernel
theorem dX5_init_268 : decode cX5_init 268 = .ok (.dup, 1) := by decide +kernel
theorem dX5_init_269 : decode cX5_init 269 = .ok (.bipush 16, 2) := by decide +kernel
theorem dX5_init_271 : decode cX5_init 271 = .ok (.bipush 117, 2) := by decide +kernel
theorem dX5_init_273 : decode cX5_init 273 = .ok (.iastore, 1) := by decide +kernel
