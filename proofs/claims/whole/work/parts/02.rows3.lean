theorem dX5_run_3 : decode cX5_run 3 = .ok (.irem, 1) := by decide +kernel
theorem dX5_run_4 : decode cX5_run 4 = .ok (.istore_n 3, 1) := by decide +kernel
theorem dX5_run_5 : decode cX5_run 5 = .ok (.iload_n 1, 1) := by decide +kernel
theorem dX5_run_6 : decode cX5_run 6 = .ok (.iconst 0, 1) := by decide +kernel
theorem dX5_run_7 : decode cX5_run 7 = .ok (.bipush 120, 2) := by decide +kernel
theorem dX5_run_9 : decode cX5_run 9 = .ok (.invokestatic 84, 3) := by decide +kernel
theorem dX5_run_12 : decode cX5_run 12 = .ok (.ifCond .eq 31, 3) := by decide +kernel
theorem dX5_run_15 : decode cX5_run 15 = .ok (.iload_n 2, 1) := by decide +kernel
theorem dX5_run_16 : decode cX5_run 16 = .ok (.iconst 0, 1) := by decide +kernel
theorem dX5_run_17 : decode cX5_run 17 = .ok (.iconst 2, 1) := by decide +kernel
theorem dX5_run_18 : decode cX5_run 18 = .ok (.invokestatic 84, 3) := by decide +kernel
theorem dX5_run_21 : decode cX5_run 21 = .ok (.ifCond .ne 25, 3) := by decide +kernel
theorem dX5_run_24 : decode cX5_run 24 = .ok (.iload_n 2, 1) := by decide +kernel
theorem dX5_run_25 : decode cX5_run 25 = .ok (.bipush 10, 2) := by decide +kernel
theorem dX5_run_27 : decode cX5_run 27 = .ok (.bipush 39, 2) := by decide +kernel
theorem dX5_run_29 : decode cX5_run 29 = .ok (.invokestatic 84, 3) := by decide +kernel
theorem dX5_run_32 : decode cX5_run 32 = .ok (.ifCond .eq 11, 3) := by decide +kernel
theorem dX5_run_35 : decode cX5_run 35 = .ok (.aload_n 0, 1) := by decide +kernel
theorem dX5_run_36 : decode cX5_run 36 = .ok (.iload_n 3, 1) := by decide +kernel
theorem dX5_run_37 : decode cX5_run 37 = .ok (.invokevirtual 179, 3) := by decide +kernel
theorem dX5_run_40 : decode cX5_run 40 = .ok (.ifCond .ne 6, 3) := by decide +kernel
theorem dX5_run_43 : decode cX5_run 43 = .ok (.bipush (-2), 2) := by decide +kernel
theorem dX5_run_45 : decode cX5_run 45 = .ok (.ireturn, 1) := by decide +kernel
theorem dX5_run_46 : decode cX5_run 46 = .ok (.aload_n 0, 1) := by decide +kernel
theorem dX5_run_47 : decode cX5_run 47 = .ok (.invokevirtual 206, 3) := by decide +kernel
theorem dX5_run_50 : decode cX5_run 50 = .ok (.aload_n 0, 1) := by decide +kernel
theorem dX5_run_51 : decode cX5_run 51 = .ok (.iload_n 1, 1) := by decide +kernel
theorem dX5_run_52 : decode cX5_run 52 = .ok (.invokevirtual 209, 3) := by decide +kernel
theorem dX5_run_55 : decode cX5_run 55 = .ok (.pop, 1) := by decide +kernel
theorem dX5_run_56 : decode cX5_run 56 = .ok (.iconst 0, 1) := by decide +kernel
theorem dX5_run_57 : decode cX5_run 57 = .ok (.istore 4, 2) := by decide +kernel
theorem dX5_run_59 : decode cX5_run 59 = .ok (.iload_n 2, 1) := by decide +kernel
theorem dX5_run_60 : decode cX5_run 60 = .ok (.tableswitch 55 0 2 #[28, 37, 46], 28) := by decide +kernel
theorem dX5_run_88 : decode cX5_run 88 = .ok (.aload_n 0, 1) := by decide +kernel
theorem dX5_run_89 : decode cX5_run 89 = .ok (.invokevirtual 88, 3) := by decide +kernel
theorem dX5_run_92 : decode cX5_run 92 = .ok (.istore 4, 2) := by decide +kernel
theorem dX5_run_94 : decode cX5_run 94 = .ok (.goto 53, 3) := by decide +kernel
theorem dX5_run_97 : decode cX5_run 97 = .ok (.aload_n 0, 1) := by decide +kernel
theorem dX5_run_98 : decode cX5_run 98 = .ok (.invokevirtual 107, 3) := by decide +kernel
theorem dX5_run_101 : decode cX5_run 101 = .ok (.istore 4, 2) := by decide +kernel
theorem dX5_run_103 : decode cX5_run 103 = .ok (.goto 44, 3) := by decide +kernel
theorem dX5_run_106 : decode cX5_run 106 = .ok (.aload_n 0, 1) := by decide +kernel
theorem dX5_run_107 : decode cX5_run 107 = .ok (.getfield 100, 3) := by decide +kernel
theorem dX5_run_110 : decode cX5_run 110 = .ok (.istore 4, 2) := by decide +kernel
theorem dX5_run_112 : decode cX5_run 112 = .ok (.goto 35, 3) := by decide +kernel
theorem dX5_run_115 : decode cX5_run 115 = .ok (.aload_n 0, 1) := by decide +kernel
theorem dX5_run_116 : decode cX5_run 116 = .ok (.getfield 16, 3) := by decide +kernel
theorem dX5_run_119 : decode cX5_run 119 = .ok (.iconst 3, 1) := by decide +kernel
theorem dX5_run_120 : decode cX5_run 120 = .ok (.iload_n 3, 1) := by decide +kernel
theorem dX5_run_121 : decode cX5_run 121 = .ok (.imul, 1) := by decide +kernel
theorem dX5_run_122 : decode cX5_run 122 = .ok (.iload_n 2, 1) := by decide +kernel
theorem dX5_run_123 : decode cX5_run 123 = .ok (.bipush 20, 2) := by decide +kernel
theorem dX5_run_125 : decode cX5_run 125 = .ok (.if_icmp .ge 7, 3) := by decide +kernel
theorem dX5_run_128 : decode cX5_run 128 = .ok (.iconst 1, 1) := by decide +kernel
theorem dX5_run_129 : decode cX5_run 129 = .ok (.goto 14, 3) := by decide +kernel
theorem dX5_run_132 : decode cX5_run 132 = .ok (.iload_n 2, 1) := by decide +kernel
theorem dX5_run_133 : decode cX5_run 133 = .ok (.bipush 30, 2) := by decide +kernel
theorem dX5_run_135 : decode cX5_run 135 = .ok (.if_icmp .ge 7, 3) := by decide +kernel
theorem dX5_run_138 : decode cX5_run 138 = .ok (.iconst 0, 1) := by decide +kernel
theorem dX5_run_139 : decode cX5_run 139 = .ok (.goto 4, 3) := by decide +kernel
theorem dX5_run_142 : decode cX5_run 142 = .ok (.iconst 2, 1) := by decide +kernel
theorem dX5_run_143 : decode cX5_run 143 = .ok (.iadd, 1) := by decide +kernel
theorem dX5_run_144 : decode cX5_run 144 = .ok (.iaload, 1) := by decide +kernel
theorem dX5_run_145 : decode cX5_run 145 = .ok (.istore 4, 2) := by decide +kernel
theorem dX5_run_147 : decode cX5_run 147 = .ok (.aload_n 0, 1) := by decide +kernel
theorem dX5_run_148 : decode cX5_run 148 = .ok (.invokevirtual 212, 3) := by decide +kernel
theorem dX5_run_151 : decode cX5_run 151 = .ok (.iload 4, 2) := by decide +kernel
theorem dX5_run_153 : decode cX5_run 153 = .ok (.ireturn, 1) := by decide +kernel
theorem dX5_mostBy_0 : decode cX5_mostBy 0 = .ok (.iconst (-1), 1) := by decide +kernel
theorem dX5_mostBy_1 : decode cX5_mostBy 1 = .ok (.istore_n 2, 1) := by decide +kernel
theorem dX5_mostBy_2 : decode cX5_mostBy 2 = .ok (.iconst 0, 1) := by decide +kernel
theorem dX5_mostBy_3 : decode cX5_mostBy 3 = .ok (.istore_n 3, 1) := by decide +kernel
theorem dX5_mostBy_4 : decode cX5_mostBy 4 = .ok (.iconst 0, 1) := by decide +kernel
theorem dX5_mostBy_5 : decode cX5_mostBy 5 = .ok (.istore 4, 2) := by decide +kernel
theorem dX5_mostBy_7 : decode cX5_mostBy 7 = .ok (.iload 4, 2) := by decide +kernel
theorem dX5_mostBy_9 : decode cX5_mostBy 9 = .ok (.aload_n 0, 1) := by decide +kernel
theorem dX5_mostBy_10 : decode cX5_mostBy 10 = .ok (.getfield 81, 3) := by decide +kernel
theorem dX5_mostBy_13 : decode cX5_mostBy 13 = .ok (.if_icmp .ge 69, 3) := by decide +kernel
theorem dX5_mostBy_16 : decode cX5_mostBy 16 = .ok (.iload_n 2, 1) := by decide +kernel
theorem dX5_mostBy_17 : decode cX5_mostBy 17 = .ok (.iconst (-1), 1) := by decide +kernel
theorem dX5_mostBy_18 : decode cX5_mostBy 18 = .ok (.if_icmp .eq 18, 3) := by decide +kernel
theorem dX5_mostBy_21 : decode cX5_mostBy 21 = .ok (.aload_n 0, 1) := by decide +kernel
theorem dX5_mostBy_22 : decode cX5_mostBy 22 = .ok (.getfield 16, 3) := by decide +kernel
theorem dX5_mostBy_25 : decode cX5_mostBy 25 = .ok (.iconst 3, 1) := by decide +kernel
theorem dX5_mostBy_26 : decode cX5_mostBy 26 = .ok (.iload 4, 2) := by decide +kernel
theorem dX5_mostBy_28 : decode cX5_mostBy 28 = .ok (.imul, 1) := by decide +kernel
theorem dX5_mostBy_29 : decode cX5_mostBy 29 = .ok (.iload_n 1, 1) := by decide +kernel
theorem dX5_mostBy_30 : decode cX5_mostBy 30 = .ok (.iadd, 1) := by decide +kernel
theorem dX5_mostBy_31 : decode cX5_mostBy 31 = .ok (.iaload, 1) := by decide +kernel
theorem dX5_mostBy_32 : decode cX5_mostBy 32 = .ok (.iload_n 3, 1) := by decide +kernel
theorem dX5_mostBy_33 : decode cX5_mostBy 33 = .ok (.if_icmp .le 7, 3) := by decide +kernel
theorem dX5_mostBy_36 : decode cX5_mostBy 36 = .ok (.iconst 1, 1) := by decide +kernel
theorem dX5_mostBy_37 : decode cX5_mostBy 37 = .ok (.goto 4, 3) := by decide +kernel
theorem dX5_mostBy_40 : decode cX5_mostBy 40 = .ok (.iconst 0, 1) := by decide +kernel
theorem dX5_mostBy_41 : decode cX5_mostBy 41 = .ok (.istore 5, 2) := by decide +kernel
theorem dX5_mostBy_43 : decode cX5_mostBy 43 = .ok (.iload 5, 2) := by decide +kernel
theorem dX5_mostBy_45 : decode cX5_mostBy 45 = .ok (.ifCond .eq 8, 3) := by decide +kernel
theorem dX5_mostBy_48 : decode cX5_mostBy 48 = .ok (.iload 4, 2) := by decide +kernel
theorem dX5_mostBy_50 : decode cX5_mostBy 50 = .ok (.goto 4, 3) := by decide +kernel
theorem dX5_mostBy_53 : decode cX5_mostBy 53 = .ok (.iload_n 2, 1) := by decide +kernel
theorem dX5_mostBy_54 : decode cX5_mostBy 54 = .ok (.istore_n 2, 1) := by decide +kernel
theorem dX5_mostBy_55 : decode cX5_mostBy 55 = .ok (.iload 5, 2) := by decide +kernel
theorem dX5_mostBy_57 : decode cX5_mostBy 57 = .ok (.ifCond .eq 17, 3) := by decide +kernel
theorem dX5_mostBy_60 : decode cX5_mostBy 60 = .ok (.aload_n 0, 1) := by decide +kernel
theorem dX5_mostBy_61 : decode cX5_mostBy 61 = .ok (.getfield 16, 3) := by decide +kernel
theorem dX5_mostBy_64 : decode cX5_mostBy 64 = .ok (.iconst 3, 1) := by decide +kernel
theorem dX5_mostBy_65 : decode cX5_mostBy 65 = .ok (.iload 4, 2) := by decide +kernel
theorem dX5_mostBy_67 : decode cX5_mostBy 67 = .ok (.imul, 1) := by decide +kernel
theorem dX5_mostBy_68 : decode cX5_mostBy 68 = .ok (.iload_n 1, 1) := by decide +kernel
theorem dX5_mostBy_69 : decode cX5_mostBy 69 = .ok (.iadd, 1) := by decide +kernel
theorem dX5_mostBy_70 : decode cX5_mostBy 70 = .ok (.iaload, 1) := by decide +kernel
theorem dX5_mostBy_71 : decode cX5_mostBy 71 = .ok (.goto 4, 3) := by decide +kernel
theorem dX5_mostBy_74 : decode cX5_mostBy 74 = .ok (.iload_n 3, 1) := by decide +kernel
theorem dX5_mostBy_75 : decode cX5_mostBy 75 = .ok (.istore_n 3, 1) := by decide +kernel
theorem dX5_mostBy_76 : decode cX5_mostBy 76 = .ok (.iinc 4 1, 3) := by decide +kernel
theorem dX5_mostBy_79 : decode cX5_mostBy 79 = .ok (.goto (-72), 3) := by decide +kernel
theorem dX5_mostBy_82 : decode cX5_mostBy 82 = .ok (.iload_n 2, 1) := by decide +kernel
theorem dX5_mostBy_83 : decode cX5_mostBy 83 = .ok (.ireturn, 1) := by decide +kernel
theorem dX5_end_0 : decode cX5_end 0 = .ok (.iload_n 1, 1) := by decide +kernel
theorem dX5_end_1 : decode cX5_end 1 = .ok (.iconst 0, 1) := by decide +kernel
theorem dX5_end_2 : decode cX5_end 2 = .ok (.iconst 2, 1) := by decide +kernel
theorem dX5_end_3 : decode cX5_end 3 = .ok (.invokestatic 84, 3) := by decide +kernel
theorem dX5_end_6 : decode cX5_end 6 = .ok (.ifCond .ne 6, 3) := by decide +kernel
theorem dX5_end_9 : decode cX5_end 9 = .ok (.bipush (-2), 2) := by decide +kernel
theorem dX5_end_11 : decode cX5_end 11 = .ok (.ireturn, 1) := by decide +kernel
theorem dX5_end_12 : decode cX5_end 12 = .ok (.aload_n 0, 1) := by decide +kernel
theorem dX5_end_13 : decode cX5_end 13 = .ok (.invokevirtual 206, 3) := by decide +kernel
theorem dX5_end_16 : decode cX5_end 16 = .ok (.aload_n 0, 1) := by decide +kernel
theorem dX5_end_17 : decode cX5_end 17 = .ok (.bipush 120, 2) := by decide +kernel
theorem dX5_end_19 : decode cX5_end 19 = .ok (.invokevirtual 209, 3) := by decide +kernel
theorem dX5_end_22 : decode cX5_end 22 = .ok (.istore_n 2, 1) := by decide +kernel
theorem dX5_end_23 : decode cX5_end 23 = .ok (.iload_n 1, 1) := by decide +kernel
theorem dX5_end_24 : decode cX5_end 24 = .ok (.ifCond .ne 7, 3) := by decide +kernel
theorem dX5_end_27 : decode cX5_end 27 = .ok (.iload_n 2, 1) := by decide +kernel
theorem dX5_end_28 : decode cX5_end 28 = .ok (.goto 8, 3) := by decide +kernel
theorem dX5_end_31 : decode cX5_end 31 = .ok (.aload_n 0, 1) := by decide +kernel
theorem dX5_end_32 : decode cX5_end 32 = .ok (.iload_n 1, 1) := by decide +kernel
theorem dX5_end_33 : decode cX5_end 33 = .ok (.invokevirtual 215, 3) := by decide +kernel
theorem dX5_end_36 : decode cX5_end 36 = .ok (.istore_n 3, 1) := by decide +kernel
theorem dX5_end_37 : decode cX5_end 37 = .ok (.aload_n 0, 1) := by decide +kernel
theorem dX5_end_38 : decode cX5_end 38 = .ok (.invokevirtual 212, 3) := by decide +kernel
theorem dX5_end_41 : decode cX5_end 41 = .ok (.iload_n 3, 1) := by decide +kernel
theorem dX5_end_42 : decode cX5_end 42 = .ok (.ireturn, 1) := by decide +kernel
theorem dX5_first_0 : decode cX5_first 0 = .ok (.aload_n 0, 1) := by decide +kernel
theorem dX5_first_1 : decode cX5_first 1 = .ok (.iload_n 1, 1) := by decide +kernel
theorem dX5_first_2 : decode cX5_first 2 = .ok (.invokevirtual 179, 3) := by decide +kernel
theorem dX5_first_5 : decode cX5_first 5 = .ok (.ifCond .ne 6, 3) := by decide +kernel
theorem dX5_first_8 : decode cX5_first 8 = .ok (.bipush (-5), 2) := by decide +kernel
theorem dX5_first_10 : decode cX5_first 10 = .ok (.ireturn, 1) := by decide +kernel
theorem dX5_first_11 : decode cX5_first 11 = .ok (.iload_n 2, 1) := by decide +kernel
theorem dX5_first_12 : decode cX5_first 12 = .ok (.iconst 0, 1) := by decide +kernel
theorem dX5_first_13 : decode cX5_first 13 = .ok (.iconst 1, 1) := by decide +kernel
theorem dX5_first_14 : decode cX5_first 14 = .ok (.invokestatic 84, 3) := by decide +kernel
theorem dX5_first_17 : decode cX5_first 17 = .ok (.ifCond .ne 6, 3) := by decide +kernel
theorem dX5_first_20 : decode cX5_first 20 = .ok (.bipush (-7), 2) := by decide +kernel
theorem dX5_first_22 : decode cX5_first 22 = .ok (.ireturn, 1) := by decide +kernel
theorem dX5_first_23 : decode cX5_first 23 = .ok (.iconst (-1), 1) := by decide +kernel
theorem dX5_first_24 : decode cX5_first 24 = .ok (.istore_n 3, 1) := by decide +kernel
theorem dX5_first_25 : decode cX5_first 25 = .ok (.iconst 0, 1) := by decide +kernel
theorem dX5_first_26 : decode cX5_first 26 = .ok (.istore 4, 2) := by decide +kernel
theorem dX5_first_28 : decode cX5_first 28 = .ok (.aload_n 0, 1) := by decide +kernel
theorem dX5_first_29 : decode cX5_first 29 = .ok (.invokevirtual 206, 3) := by decide +kernel
theorem dX5_first_32 : decode cX5_first 32 = .ok (.iconst 0, 1) := by decide +kernel
theorem dX5_first_33 : decode cX5_first 33 = .ok (.istore 5, 2) := by decide +kernel
theorem dX5_first_35 : decode cX5_first 35 = .ok (.iload 5, 2) := by decide +kernel
theorem dX5_first_37 : decode cX5_first 37 = .ok (.aload_n 0, 1) := by decide +kernel
theorem dX5_first_38 : decode cX5_first 38 = .ok (.getfield 81, 3) := by decide +kernel
theorem dX5_first_41 : decode cX5_first 41 = .ok (.if_icmp .ge 83, 3) := by decide +kernel
theorem dX5_first_44 : decode cX5_first 44 = .ok (.aload_n 0, 1) := by decide +kernel
theorem dX5_first_45 : decode cX5_first 45 = .ok (.iload 5, 2) := by decide +kernel
theorem dX5_first_47 : decode cX5_first 47 = .ok (.putfield 100, 3) := by decide +kernel
theorem dX5_first_50 : decode cX5_first 50 = .ok (.aload_n 0, 1) := by decide +kernel
theorem dX5_first_51 : decode cX5_first 51 = .ok (.bipush 120, 2) := by decide +kernel
theorem dX5_first_53 : decode cX5_first 53 = .ok (.invokevirtual 209, 3) := by decide +kernel
theorem dX5_first_56 : decode cX5_first 56 = .ok (.pop, 1) := by decide +kernel
theorem dX5_first_57 : decode cX5_first 57 = .ok (.aload_n 0, 1) := by decide +kernel
theorem dX5_first_58 : decode cX5_first 58 = .ok (.getfield 16, 3) := by decide +kernel
theorem dX5_first_61 : decode cX5_first 61 = .ok (.iconst 3, 1) := by decide +kernel
theorem dX5_first_62 : decode cX5_first 62 = .ok (.iload_n 1, 1) := by decide +kernel
theorem dX5_first_63 : decode cX5_first 63 = .ok (.imul, 1) := by decide +kernel
theorem dX5_first_64 : decode cX5_first 64 = .ok (.iconst 1, 1) := by decide +kernel
theorem dX5_first_65 : decode cX5_first 65 = .ok (.iadd, 1) := by decide +kernel
theorem dX5_first_66 : decode cX5_first 66 = .ok (.iaload, 1) := by decide +kernel
theorem dX5_first_67 : decode cX5_first 67 = .ok (.istore 6, 2) := by decide +kernel
theorem dX5_first_69 : decode cX5_first 69 = .ok (.aload_n 0, 1) := by decide +kernel
theorem dX5_first_70 : decode cX5_first 70 = .ok (.invokevirtual 212, 3) := by decide +kernel
theorem dX5_first_73 : decode cX5_first 73 = .ok (.iload_n 3, 1) := by decide +kernel
theorem dX5_first_74 : decode cX5_first 74 = .ok (.iconst (-1), 1) := by decide +kernel
theorem dX5_first_75 : decode cX5_first 75 = .ok (.if_icmp .eq 10, 3) := by decide +kernel
theorem dX5_first_78 : decode cX5_first 78 = .ok (.iload 6, 2) := by decide +kernel
theorem dX5_first_80 : decode cX5_first 80 = .ok (.iload 4, 2) := by decide +kernel
theorem dX5_first_82 : decode cX5_first 82 = .ok (.if_icmp .le 7, 3) := by decide +kernel
theorem dX5_first_85 : decode cX5_first 85 = .ok (.iconst 1, 1) := by decide +kernel
theorem dX5_first_86 : decode cX5_first 86 = .ok (.goto 4, 3) := by decide +kernel
theorem dX5_first_89 : decode cX5_first 89 = .ok (.iconst 0, 1) := by decide +kernel
theorem dX5_first_90 : decode cX5_first 90 = .ok (.istore 7, 2) := by decide +kernel
theorem dX5_first_92 : decode cX5_first 92 = .ok (.iload 7, 2) := by decide +kernel
theorem dX5_first_94 : decode cX5_first 94 = .ok (.ifCond .eq 8, 3) := by decide +kernel
theorem dX5_first_97 : decode cX5_first 97 = .ok (.iload 5, 2) := by decide +kernel
theorem dX5_first_99 : decode cX5_first 99 = .ok (.goto 4, 3) := by decide +kernel
theorem dX5_first_102 : decode cX5_first 102 = .ok (.iload_n 3, 1) := by decide +kernel
theorem dX5_first_103 : decode cX5_first 103 = .ok (.istore_n 3, 1) := by decide +kernel
theorem dX5_first_104 : decode cX5_first 104 = .ok (.iload 7, 2) := by decide +kernel
theorem dX5_first_106 : decode cX5_first 106 = .ok (.ifCond .eq 8, 3) := by decide +kernel
theorem dX5_first_109 : decode cX5_first 109 = .ok (.iload 6, 2) := by decide +kernel
theorem dX5_first_111 : decode cX5_first 111 = .ok (.goto 5, 3) := by decide +kernel
theorem dX5_first_114 : decode cX5_first 114 = .ok (.iload 4, 2) := by decide +kernel
theorem dX5_first_116 : decode cX5_first 116 = .ok (.istore 4, 2) := by decide +kernel
theorem dX5_first_118 : decode cX5_first 118 = .ok (.iinc 5 1, 3) := by decide +kernel
theorem dX5_first_121 : decode cX5_first 121 = .ok (.goto (-86), 3) := by decide +kernel
theorem dX5_first_124 : decode cX5_first 124 = .ok (.iload_n 2, 1) := by decide +kernel
theorem dX5_first_125 : decode cX5_first 125 = .ok (.ifCond .ne 7, 3) := by decide +kernel
theorem dX5_first_128 : decode cX5_first 128 = .ok (.iload_n 3, 1) := by decide +kernel
theorem dX5_first_129 : decode cX5_first 129 = .ok (.goto 5, 3) := by decide +kernel
theorem dX5_first_132 : decode cX5_first 132 = .ok (.iload 4, 2) := by decide +kernel
theorem dX5_first_134 : decode cX5_first 134 = .ok (.ireturn, 1) := by decide +kernel
theorem dX5_vicar_0 : decode cX5_vicar 0 = .ok (.aload_n 0, 1) := by decide +kernel
theorem dX5_vicar_1 : decode cX5_vicar 1 = .ok (.iload_n 1, 1) := by decide +kernel
theorem dX5_vicar_2 : decode cX5_vicar 2 = .ok (.invokevirtual 179, 3) := by decide +kernel
theorem dX5_vicar_5 : decode cX5_vicar 5 = .ok (.ifCond .ne 6, 3) := by decide +kernel
theorem dX5_vicar_8 : decode cX5_vicar 8 = .ok (.bipush (-5), 2) := by decide +kernel
theorem dX5_vicar_10 : decode cX5_vicar 10 = .ok (.ireturn, 1) := by decide +kernel
theorem dX5_vicar_11 : decode cX5_vicar 11 = .ok (.iload_n 2, 1) := by decide +kernel
theorem dX5_vicar_12 : decode cX5_vicar 12 = .ok (.iconst 0, 1) := by decide +kernel
theorem dX5_vicar_13 : decode cX5_vicar 13 = .ok (.iconst 1, 1) := by decide +kernel
theorem dX5_vicar_14 : decode cX5_vicar 14 = .ok (.invokestatic 84, 3) := by decide +kernel
theorem dX5_vicar_17 : decode cX5_vicar 17 = .ok (.ifCond .ne 6, 3) := by decide +kernel
theorem dX5_vicar_20 : decode cX5_vicar 20 = .ok (.bipush (-7), 2) := by decide +kernel
theorem dX5_vicar_22 : decode cX5_vicar 22 = .ok (.ireturn, 1) := by decide +kernel
theorem dX5_vicar_23 : decode cX5_vicar 23 = .ok (.iconst (-1), 1) := by decide +kernel
theorem dX5_vicar_24 : decode cX5_vicar 24 = .ok (.istore_n 3, 1) := by decide +kernel
theorem dX5_vicar_25 : decode cX5_vicar 25 = .ok (.iconst (-1), 1) := by decide +kernel
theorem dX5_vicar_26 : decode cX5_vicar 26 = .ok (.istore 4, 2) := by decide +kernel
theorem dX5_vicar_28 : decode cX5_vicar 28 = .ok (.aload_n 0, 1) := by decide +kernel
theorem dX5_vicar_29 : decode cX5_vicar 29 = .ok (.invokevirtual 206, 3) := by decide +kernel
theorem dX5_vicar_32 : decode cX5_vicar 32 = .ok (.iconst 0, 1) := by decide +kernel
theorem dX5_vicar_33 : decode cX5_vicar 33 = .ok (.istore 5, 2) := by decide +kernel
theorem dX5_vicar_35 : decode cX5_vicar 35 = .ok (.iload 5, 2) := by decide +kernel
theorem dX5_vicar_37 : decode cX5_vicar 37 = .ok (.bipush 6, 2) := by decide +kernel
theorem dX5_vicar_39 : decode cX5_vicar 39 = .ok (.if_icmp .ge 86, 3) := by decide +kernel
theorem dX5_vicar_42 : decode cX5_vicar 42 = .ok (.iload_n 3, 1) := by decide +kernel
theorem dX5_vicar_43 : decode cX5_vicar 43 = .ok (.iconst (-1), 1) := by decide +kernel
theorem dX5_vicar_44 : decode cX5_vicar 44 = .ok (.if_icmp .ne 81, 3) := by decide +kernel
theorem dX5_vicar_47 : decode cX5_vicar 47 = .ok (.aload_n 0, 1) := by decide +kernel
theorem dX5_vicar_48 : decode cX5_vicar 48 = .ok (.getfield 19, 3) := by decide +kernel
theorem dX5_vicar_51 : decode cX5_vicar 51 = .ok (.iconst 2, 1) := by decide +kernel
theorem dX5_vicar_52 : decode cX5_vicar 52 = .ok (.iload 5, 2) := by decide +kernel
theorem dX5_vicar_54 : decode cX5_vicar 54 = .ok (.imul, 1) := by decide +kernel
theorem dX5_vicar_55 : decode cX5_vicar 55 = .ok (.iconst 1, 1) := by decide +kernel
theorem dX5_vicar_56 : decode cX5_vicar 56 = .ok (.iadd, 1) := by decide +kernel
theorem dX5_vicar_57 : decode cX5_vicar 57 = .ok (.iaload, 1) := by decide +kernel
theorem dX5_vicar_58 : decode cX5_vicar 58 = .ok (.bipush 20, 2) := by decide +kernel
theorem dX5_vicar_60 : decode cX5_vicar 60 = .ok (.if_icmp .ge 59, 3) := by decide +kernel
theorem dX5_vicar_63 : decode cX5_vicar 63 = .ok (.aload_n 0, 1) := by decide +kernel
theorem dX5_vicar_64 : decode cX5_vicar 64 = .ok (.getfield 19, 3) := by decide +kernel
theorem dX5_vicar_67 : decode cX5_vicar 67 = .ok (.iconst 2, 1) := by decide +kernel
theorem dX5_vicar_68 : decode cX5_vicar 68 = .ok (.iload 5, 2) := by decide +kernel
theorem dX5_vicar_70 : decode cX5_vicar 70 = .ok (.imul, 1) := by decide +kernel
theorem dX5_vicar_71 : decode cX5_vicar 71 = .ok (.iconst 1, 1) := by decide +kernel
theorem dX5_vicar_72 : decode cX5_vicar 72 = .ok (.iadd, 1) := by decide +kernel
theorem dX5_vicar_73 : decode cX5_vicar 73 = .ok (.dup2, 1) := by decide +kernel
theorem dX5_vicar_74 : decode cX5_vicar 74 = .ok (.iaload, 1) := by decide +kernel
theorem dX5_vicar_75 : decode cX5_vicar 75 = .ok (.iconst 1, 1) := by decide +kernel
theorem dX5_vicar_76 : decode cX5_vicar 76 = .ok (.iadd, 1) := by decide +kernel
theorem dX5_vicar_77 : decode cX5_vicar 77 = .ok (.iastore, 1) := by decide +kernel
theorem dX5_vicar_78 : decode cX5_vicar 78 = .ok (.aload_n 0, 1) := by decide +kernel
theorem dX5_vicar_79 : decode cX5_vicar 79 = .ok (.bipush 121, 2) := by decide +kernel
theorem dX5_vicar_81 : decode cX5_vicar 81 = .ok (.invokevirtual 209, 3) := by decide +kernel
theorem dX5_vicar_84 : decode cX5_vicar 84 = .ok (.istore 6, 2) := by decide +kernel
theorem dX5_vicar_86 : decode cX5_vicar 86 = .ok (.iload 6, 2) := by decide +kernel
theorem dX5_vicar_88 : decode cX5_vicar 88 = .ok (.iload_n 1, 1) := by decide +kernel
theorem dX5_vicar_89 : decode cX5_vicar 89 = .ok (.if_icmp .ne 8, 3) := by decide +kernel
theorem dX5_vicar_92 : decode cX5_vicar 92 = .ok (.iload 5, 2) := by decide +kernel
theorem dX5_vicar_94 : decode cX5_vicar 94 = .ok (.goto 4, 3) := by decide +kernel
theorem dX5_vicar_97 : decode cX5_vicar 97 = .ok (.iconst (-1), 1) := by decide +kernel
theorem dX5_vicar_98 : decode cX5_vicar 98 = .ok (.istore_n 3, 1) := by decide +kernel
theorem dX5_vicar_99 : decode cX5_vicar 99 = .ok (.iload 6, 2) := by decide +kernel
theorem dX5_vicar_101 : decode cX5_vicar 101 = .ok (.iload_n 1, 1) := by decide +kernel
theorem dX5_vicar_102 : decode cX5_vicar 102 = .ok (.if_icmp .ne 10, 3) := by decide +kernel
theorem dX5_vicar_105 : decode cX5_vicar 105 = .ok (.aload_n 0, 1) := by decide +kernel
theorem dX5_vicar_106 : decode cX5_vicar 106 = .ok (.getfield 100, 3) := by decide +kernel
theorem dX5_vicar_109 : decode cX5_vicar 109 = .ok (.goto 4, 3) := by decide +kernel
theorem dX5_vicar_112 : decode cX5_vicar 112 = .ok (.iconst (-1), 1) := by decide +kernel
theorem dX5_vicar_113 : decode cX5_vicar 113 = .ok (.istore 4, 2) := by decide +kernel
theorem dX5_vicar_115 : decode cX5_vicar 115 = .ok (.aload_n 0, 1) := by decide +kernel
theorem dX5_vicar_116 : decode cX5_vicar 116 = .ok (.invokevirtual 212, 3) := by decide +kernel
theorem dX5_vicar_119 : decode cX5_vicar 119 = .ok (.iinc 5 1, 3) := by decide +kernel
theorem dX5_vicar_122 : decode cX5_vicar 122 = .ok (.goto (-87), 3) := by decide +kernel
theorem dX5_vicar_125 : decode cX5_vicar 125 = .ok (.iload_n 2, 1) := by decide +kernel
theorem dX5_vicar_126 : decode cX5_vicar 126 = .ok (.ifCond .ne 7, 3) := by decide +kernel
theorem dX5_vicar_129 : decode cX5_vicar 129 = .ok (.iload_n 3, 1) := by decide +kernel
theorem dX5_vicar_130 : decode cX5_vicar 130 = .ok (.goto 5, 3) := by decide +kernel
theorem dX5_vicar_133 : decode cX5_vicar 133 = .ok (.iload 4, 2) := by decide +kernel
theorem dX5_vicar_135 : decode cX5_vicar 135 = .ok (.ireturn, 1) := by decide +kernel
theorem dX5_isOrder_0 : decode cX5_isOrder 0 = .ok (.iload_n 1, 1) := by decide +kernel
theorem dX5_isOrder_1 : decode cX5_isOrder 1 = .ok (.istore_n 2, 1) := by decide +kernel
theorem dX5_isOrder_2 : decode cX5_isOrder 2 = .ok (.iconst 0, 1) := by decide +kernel
theorem dX5_isOrder_3 : decode cX5_isOrder 3 = .ok (.istore_n 3, 1) := by decide +kernel
theorem dX5_isOrder_4 : decode cX5_isOrder 4 = .ok (.aload_n 0, 1) := by decide +kernel
theorem dX5_isOrder_5 : decode cX5_isOrder 5 = .ok (.getfield 81, 3) := by decide +kernel
theorem dX5_isOrder_8 : decode cX5_isOrder 8 = .ok (.iconst 1, 1) := by decide +kernel
theorem dX5_isOrder_9 : decode cX5_isOrder 9 = .ok (.isub, 1) := by decide +kernel
theorem dX5_isOrder_10 : decode cX5_isOrder 10 = .ok (.istore 4, 2) := by decide +kernel
theorem dX5_isOrder_12 : decode cX5_isOrder 12 = .ok (.iload 4, 2) := by decide +kernel
theorem dX5_isOrder_14 : decode cX5_isOrder 14 = .ok (.ifCond .lt 29, 3) := by decide +kernel
theorem dX5_isOrder_17 : decode cX5_isOrder 17 = .ok (.aload_n 0, 1) := by decide +kernel
theorem dX5_isOrder_18 : decode cX5_isOrder 18 = .ok (.getfield 64, 3) := by decide +kernel
theorem dX5_isOrder_21 : decode cX5_isOrder 21 = .ok (.iload 4, 2) := by decide +kernel
theorem dX5_isOrder_23 : decode cX5_isOrder 23 = .ok (.iload_n 2, 1) := by decide +kernel
theorem dX5_isOrder_24 : decode cX5_isOrder 24 = .ok (.aload_n 0, 1) := by decide +kernel
theorem dX5_isOrder_25 : decode cX5_isOrder 25 = .ok (.getfield 81, 3) := by decide +kernel
theorem dX5_isOrder_28 : decode cX5_isOrder 28 = .ok (.irem, 1) := by decide +kernel
theorem dX5_isOrder_29 : decode cX5_isOrder 29 = .ok (.iastore, 1) := by decide +kernel
theorem dX5_isOrder_30 : decode cX5_isOrder 30 = .ok (.iload_n 2, 1) := by decide +kernel
theorem dX5_isOrder_31 : decode cX5_isOrder 31 = .ok (.aload_n 0, 1) := by decide +kernel
theorem dX5_isOrder_32 : decode cX5_isOrder 32 = .ok (.getfield 81, 3) := by decide +kernel
theorem dX5_isOrder_35 : decode cX5_isOrder 35 = .ok (.idiv, 1) := by decide +kernel
theorem dX5_isOrder_36 : decode cX5_isOrder 36 = .ok (.istore_n 2, 1) := by decide +kernel
theorem dX5_isOrder_37 : decode cX5_isOrder 37 = .ok (.iinc 4 (-1), 3) := by decide +kernel
theorem dX5_isOrder_40 : decode cX5_isOrder 40 = .ok (.goto (-28), 3) := by decide +kernel
theorem dX5_isOrder_43 : decode cX5_isOrder 43 = .ok (.aload_n 0, 1) := by decide +kernel
theorem dX5_isOrder_44 : decode cX5_isOrder 44 = .ok (.iconst 0, 1) := by decide +kernel
theorem dX5_isOrder_45 : decode cX5_isOrder 45 = .ok (.putfield 218, 3) := by decide +kernel
theorem dX5_isOrder_48 : decode cX5_isOrder 48 = .ok (.iconst 0, 1) := by decide +kernel
theorem dX5_isOrder_49 : decode cX5_isOrder 49 = .ok (.istore 4, 2) := by decide +kernel
theorem dX5_isOrder_51 : decode cX5_isOrder 51 = .ok (.iload 4, 2) := by decide +kernel
theorem dX5_isOrder_53 : decode cX5_isOrder 53 = .ok (.aload_n 0, 1) := by decide +kernel
theorem dX5_isOrder_54 : decode cX5_isOrder 54 = .ok (.getfield 81, 3) := by decide +kernel
theorem dX5_isOrder_57 : decode cX5_isOrder 57 = .ok (.if_icmp .ge 59, 3) := by decide +kernel
theorem dX5_isOrder_60 : decode cX5_isOrder 60 = .ok (.iload_n 3, 1) := by decide +kernel
theorem dX5_isOrder_61 : decode cX5_isOrder 61 = .ok (.aload_n 0, 1) := by decide +kernel
theorem dX5_isOrder_62 : decode cX5_isOrder 62 = .ok (.getfield 64, 3) := by decide +kernel
theorem dX5_isOrder_65 : decode cX5_isOrder 65 = .ok (.iload 4, 2) := by decide +kernel
theorem dX5_isOrder_67 : decode cX5_isOrder 67 = .ok (.iaload, 1) := by decide +kernel
theorem dX5_isOrder_68 : decode cX5_isOrder 68 = .ok (.ishr, 1) := by decide +kernel
theorem dX5_isOrder_69 : decode cX5_isOrder 69 = .ok (.iconst 1, 1) := by decide +kernel
theorem dX5_isOrder_70 : decode cX5_isOrder 70 = .ok (.iand, 1) := by decide +kernel
theorem dX5_isOrder_71 : decode cX5_isOrder 71 = .ok (.iconst 1, 1) := by decide +kernel
theorem dX5_isOrder_72 : decode cX5_isOrder 72 = .ok (.if_icmp .ne 5, 3) := by decide +kernel
theorem dX5_isOrder_75 : decode cX5_isOrder 75 = .ok (.iconst 0, 1) := by decide +kernel
theorem dX5_isOrder_76 : decode cX5_isOrder 76 = .ok (.ireturn, 1) := by decide +kernel
theorem dX5_isOrder_77 : decode cX5_isOrder 77 = .ok (.iload_n 3, 1) := by decide +kernel
theorem dX5_isOrder_78 : decode cX5_isOrder 78 = .ok (.iconst 1, 1) := by decide +kernel
theorem dX5_isOrder_79 : decode cX5_isOrder 79 = .ok (.aload_n 0, 1) := by decide +kernel
theorem dX5_isOrder_80 : decode cX5_isOrder 80 = .ok (.getfield 64, 3) := by decide +kernel
theorem dX5_isOrder_83 : decode cX5_isOrder 83 = .ok (.iload 4, 2) := by decide +kernel
theorem dX5_isOrder_85 : decode cX5_isOrder 85 = .ok (.iaload, 1) := by decide +kernel
theorem dX5_isOrder_86 : decode cX5_isOrder 86 = .ok (.ishl, 1) := by decide +kernel
theorem dX5_isOrder_87 : decode cX5_isOrder 87 = .ok (.ior, 1) := by decide +kernel
theorem dX5_isOrder_88 : decode cX5_isOrder 88 = .ok (.istore_n 3, 1) := by decide +kernel
theorem dX5_isOrder_89 : decode cX5_isOrder 89 = .ok (.aload_n 0, 1) := by decide +kernel
theorem dX5_isOrder_90 : decode cX5_isOrder 90 = .ok (.bipush 10, 2) := by decide +kernel
theorem dX5_isOrder_92 : decode cX5_isOrder 92 = .ok (.aload_n 0, 1) := by decide +kernel
theorem dX5_isOrder_93 : decode cX5_isOrder 93 = .ok (.getfield 218, 3) := by decide +kernel
theorem dX5_isOrder_96 : decode cX5_isOrder 96 = .ok (.imul, 1) := by decide +kernel
theorem dX5_isOrder_97 : decode cX5_isOrder 97 = .ok (.aload_n 0, 1) := by decide +kernel
theorem dX5_isOrder_98 : decode cX5_isOrder 98 = .ok (.getfield 64, 3) := by decide +kernel
theorem dX5_isOrder_101 : decode cX5_isOrder 101 = .ok (.iload 4, 2) := by decide +kernel
theorem dX5_isOrder_103 : decode cX5_isOrder 103 = .ok (.iaload, 1) := by decide +kernel
theorem dX5_isOrder_104 : decode cX5_isOrder 104 = .ok (.iadd, 1) := by decide +kernel
theorem dX5_isOrder_105 : decode cX5_isOrder 105 = .ok (.iconst 1, 1) := by decide +kernel
theorem dX5_isOrder_106 : decode cX5_isOrder 106 = .ok (.iadd, 1) := by decide +kernel
theorem dX5_isOrder_107 : decode cX5_isOrder 107 = .ok (.putfield 218, 3) := by decide +kernel
theorem dX5_isOrder_110 : decode cX5_isOrder 110 = .ok (.iinc 4 1, 3) := by decide +kernel
theorem dX5_isOrder_113 : decode cX5_isOrder 113 = .ok (.goto (-62), 3) := by decide +kernel
theorem dX5_isOrder_116 : decode cX5_isOrder 116 = .ok (.iconst 1, 1) := by decide +kernel
theorem dX5_isOrder_117 : decode cX5_isOrder 117 = .ok (.ireturn, 1) := by decide +kernel
theorem dX5_differBy_0 : decode cX5_differBy 0 = .ok (.iconst 0, 1) := by decide +kernel
theorem dX5_differBy_1 : decode cX5_differBy 1 = .ok (.istore_n 1, 1) := by decide +kernel
theorem dX5_differBy_2 : decode cX5_differBy 2 = .ok (.aload_n 0, 1) := by decide +kernel
theorem dX5_differBy_3 : decode cX5_differBy 3 = .ok (.invokevirtual 88, 3) := by decide +kernel
theorem dX5_differBy_6 : decode cX5_differBy 6 = .ok (.ifCond .le 35, 3) := by decide +kernel
theorem dX5_differBy_9 : decode cX5_differBy 9 = .ok (.aload_n 0, 1) := by decide +kernel
theorem dX5_differBy_10 : decode cX5_differBy 10 = .ok (.aload_n 0, 1) := by decide +kernel
theorem dX5_differBy_11 : decode cX5_differBy 11 = .ok (.getfield 64, 3) := by decide +kernel
theorem dX5_differBy_14 : decode cX5_differBy 14 = .ok (.iload_n 1, 1) := by decide +kernel
theorem dX5_differBy_15 : decode cX5_differBy 15 = .ok (.iaload, 1) := by decide +kernel
theorem dX5_differBy_16 : decode cX5_differBy 16 = .ok (.invokevirtual 197, 3) := by decide +kernel
theorem dX5_differBy_19 : decode cX5_differBy 19 = .ok (.pop, 1) := by decide +kernel
theorem dX5_differBy_20 : decode cX5_differBy 20 = .ok (.iload_n 1, 1) := by decide +kernel
theorem dX5_differBy_21 : decode cX5_differBy 21 = .ok (.iconst 1, 1) := by decide +kernel
theorem dX5_differBy_22 : decode cX5_differBy 22 = .ok (.iadd, 1) := by decide +kernel
theorem dX5_differBy_23 : decode cX5_differBy 23 = .ok (.aload_n 0, 1) := by decide +kernel
theorem dX5_differBy_24 : decode cX5_differBy 24 = .ok (.getfield 81, 3) := by decide +kernel
theorem dX5_differBy_27 : decode cX5_differBy 27 = .ok (.if_icmp .ne 7, 3) := by decide +kernel
theorem dX5_differBy_30 : decode cX5_differBy 30 = .ok (.iconst 0, 1) := by decide +kernel
theorem dX5_differBy_31 : decode cX5_differBy 31 = .ok (.goto 6, 3) := by decide +kernel
theorem dX5_differBy_34 : decode cX5_differBy 34 = .ok (.iload_n 1, 1) := by decide +kernel
theorem dX5_differBy_35 : decode cX5_differBy 35 = .ok (.iconst 1, 1) := by decide +kernel
theorem dX5_differBy_36 : decode cX5_differBy 36 = .ok (.iadd, 1) := by decide +kernel
theorem dX5_differBy_37 : decode cX5_differBy 37 = .ok (.istore_n 1, 1) := by decide +kernel
theorem dX5_differBy_38 : decode cX5_differBy 38 = .ok (.goto (-36), 3) := by decide +kernel
theorem dX5_differBy_41 : decode cX5_differBy 41 = .ok (.aload_n 0, 1) := by decide +kernel
theorem dX5_differBy_42 : decode cX5_differBy 42 = .ok (.getfield 16, 3) := by decide +kernel
theorem dX5_differBy_45 : decode cX5_differBy 45 = .ok (.iconst 1, 1) := by decide +kernel
theorem dX5_differBy_46 : decode cX5_differBy 46 = .ok (.iaload, 1) := by decide +kernel
theorem dX5_differBy_47 : decode cX5_differBy 47 = .ok (.istore_n 2, 1) := by decide +kernel
theorem dX5_differBy_48 : decode cX5_differBy 48 = .ok (.aload_n 0, 1) := by decide +kernel
theorem dX5_differBy_49 : decode cX5_differBy 49 = .ok (.getfield 16, 3) := by decide +kernel
theorem dX5_differBy_52 : decode cX5_differBy 52 = .ok (.iconst 1, 1) := by decide +kernel
theorem dX5_differBy_53 : decode cX5_differBy 53 = .ok (.iaload, 1) := by decide +kernel
theorem dX5_differBy_54 : decode cX5_differBy 54 = .ok (.istore_n 3, 1) := by decide +kernel
theorem dX5_differBy_55 : decode cX5_differBy 55 = .ok (.iconst 1, 1) := by decide +kernel
theorem dX5_differBy_56 : decode cX5_differBy 56 = .ok (.istore 4, 2) := by decide +kernel
theorem dX5_differBy_58 : decode cX5_differBy 58 = .ok (.iload 4, 2) := by decide +kernel
theorem dX5_differBy_60 : decode cX5_differBy 60 = .ok (.aload_n 0, 1) := by decide +kernel
theorem dX5_differBy_61 : decode cX5_differBy 61 = .ok (.getfield 81, 3) := by decide +kernel
theorem dX5_differBy_64 : decode cX5_differBy 64 = .ok (.if_icmp .ge 71, 3) := by decide +kernel
theorem dX5_differBy_67 : decode cX5_differBy 67 = .ok (.aload_n 0, 1) := by decide +kernel
theorem dX5_differBy_68 : decode cX5_differBy 68 = .ok (.getfield 16, 3) := by decide +kernel
theorem dX5_differBy_71 : decode cX5_differBy 71 = .ok (.iconst 3, 1) := by decide +kernel
theorem dX5_differBy_72 : decode cX5_differBy 72 = .ok (.iload 4, 2) := by decide +kernel
theorem dX5_differBy_74 : decode cX5_differBy 74 = .ok (.imul, 1) := by decide +kernel
theorem dX5_differBy_75 : decode cX5_differBy 75 = .ok (.iconst 1, 1) := by decide +kernel
theorem dX5_differBy_76 : decode cX5_differBy 76 = .ok (.iadd, 1) := by decide +kernel
theorem dX5_differBy_77 : decode cX5_differBy 77 = .ok (.iaload, 1) := by decide +kernel
theorem dX5_differBy_78 : decode cX5_differBy 78 = .ok (.iload_n 2, 1) := by decide +kernel
theorem dX5_differBy_79 : decode cX5_differBy 79 = .ok (.if_icmp .le 17, 3) := by decide +kernel
theorem dX5_differBy_82 : decode cX5_differBy 82 = .ok (.aload_n 0, 1) := by decide +kernel
theorem dX5_differBy_83 : decode cX5_differBy 83 = .ok (.getfield 16, 3) := by decide +kernel
theorem dX5_differBy_86 : decode cX5_differBy 86 = .ok (.iconst 3, 1) := by decide +kernel
theorem dX5_differBy_87 : decode cX5_differBy 87 = .ok (.iload 4, 2) := by decide +kernel
theorem dX5_differBy_89 : decode cX5_differBy 89 = .ok (.imul, 1) := by decide +kernel
theorem dX5_differBy_90 : decode cX5_differBy 90 = .ok (.iconst 1, 1) := by decide +kernel
theorem dX5_differBy_91 : decode cX5_differBy 91 = .ok (.iadd, 1) := by decide +kernel
theorem dX5_differBy_92 : decode cX5_differBy 92 = .ok (.iaload, 1) := by decide +kernel
theorem dX5_differBy_93 : decode cX5_differBy 93 = .ok (.goto 4, 3) := by decide +kernel
theorem dX5_differBy_96 : decode cX5_differBy 96 = .ok (.iload_n 2, 1) := by decide +kernel
theorem dX5_differBy_97 : decode cX5_differBy 97 = .ok (.istore_n 2, 1) := by decide +kernel
theorem dX5_differBy_98 : decode cX5_differBy 98 = .ok (.aload_n 0, 1) := by decide +kernel
theorem dX5_differBy_99 : decode cX5_differBy 99 = .ok (.getfield 16, 3) := by decide +kernel
theorem dX5_differBy_102 : decode cX5_differBy 102 = .ok (.iconst 3, 1) := by decide +kernel
theorem dX5_differBy_103 : decode cX5_differBy 103 = .ok (.iload 4, 2) := by decide +kernel
theorem dX5_differBy_105 : decode cX5_differBy 105 = .ok (.imul, 1) := by decide +kernel
theorem dX5_differBy_106 : decode cX5_differBy 106 = .ok (.iconst 1, 1) := by decide +kernel
theorem dX5_differBy_107 : decode cX5_differBy 107 = .ok (.iadd, 1) := by decide +kernel
theorem dX5_differBy_108 : decode cX5_differBy 108 = .ok (.iaload, 1) := by decide +kernel
theorem dX5_differBy_109 : decode cX5_differBy 109 = .ok (.iload_n 3, 1) := by decide +kernel
theorem dX5_differBy_110 : decode cX5_differBy 110 = .ok (.if_icmp .ge 17, 3) := by decide +kernel
theorem dX5_differBy_113 : decode cX5_differBy 113 = .ok (.aload_n 0, 1) := by decide +kernel
theorem dX5_differBy_114 : decode cX5_differBy 114 = .ok (.getfield 16, 3) := by decide +kernel
theorem dX5_differBy_117 : decode cX5_differBy 117 = .ok (.iconst 3, 1) := by decide +kernel
theorem dX5_differBy_118 : decode cX5_differBy 118 = .ok (.iload 4, 2) := by decide +kernel
theorem dX5_differBy_120 : decode cX5_differBy 120 = .ok (.imul, 1) := by decide +kernel
theorem dX5_differBy_121 : decode cX5_differBy 121 = .ok (.iconst 1, 1) := by decide +kernel
theorem dX5_differBy_122 : decode cX5_differBy 122 = .ok (.iadd, 1) := by decide +kernel
theorem dX5_differBy_123 : decode cX5_differBy 123 = .ok (.iaload, 1) := by decide +kernel
theorem dX5_differBy_124 : decode cX5_differBy 124 = .ok (.goto 4, 3) := by decide +kernel
theorem dX5_differBy_127 : decode cX5_differBy 127 = .ok (.iload_n 3, 1) := by decide +kernel
theorem dX5_differBy_128 : decode cX5_differBy 128 = .ok (.istore_n 3, 1) := by decide +kernel
theorem dX5_differBy_129 : decode cX5_differBy 129 = .ok (.iinc 4 1, 3) := by decide +kernel
theorem dX5_differBy_132 : decode cX5_differBy 132 = .ok (.goto (-74), 3) := by decide +kernel
theorem dX5_differBy_135 : decode cX5_differBy 135 = .ok (.iload_n 2, 1) := by decide +kernel
theorem dX5_differBy_136 : decode cX5_differBy 136 = .ok (.iload_n 3, 1) := by decide +kernel
theorem dX5_differBy_137 : decode cX5_differBy 137 = .ok (.isub, 1) := by decide +kernel
theorem dX5_differBy_138 : decode cX5_differBy 138 = .ok (.ireturn, 1) := by decide +kernel
theorem dX5_seating_0 : decode cX5_seating 0 = .ok (.iload_n 1, 1) := by decide +kernel
theorem dX5_seating_1 : decode cX5_seating 1 = .ok (.iconst 0, 1) := by decide +kernel
theorem dX5_seating_2 : decode cX5_seating 2 = .ok (.iconst 1, 1) := by decide +kernel
theorem dX5_seating_3 : decode cX5_seating 3 = .ok (.invokestatic 84, 3) := by decide +kernel
theorem dX5_seating_6 : decode cX5_seating 6 = .ok (.ifCond .ne 6, 3) := by decide +kernel
theorem dX5_seating_9 : decode cX5_seating 9 = .ok (.bipush (-2), 2) := by decide +kernel
theorem dX5_seating_11 : decode cX5_seating 11 = .ok (.ireturn, 1) := by decide +kernel
theorem dX5_seating_12 : decode cX5_seating 12 = .ok (.aload_n 0, 1) := by decide +kernel
theorem dX5_seating_13 : decode cX5_seating 13 = .ok (.getfield 81, 3) := by decide +kernel
theorem dX5_seating_16 : decode cX5_seating 16 = .ok (.ifCond .ne 5, 3) := by decide +kernel
theorem dX5_seating_19 : decode cX5_seating 19 = .ok (.iconst 0, 1) := by decide +kernel
theorem dX5_seating_20 : decode cX5_seating 20 = .ok (.ireturn, 1) := by decide +kernel
theorem dX5_seating_21 : decode cX5_seating 21 = .ok (.iconst 1, 1) := by decide +kernel
theorem dX5_seating_22 : decode cX5_seating 22 = .ok (.istore_n 2, 1) := by decide +kernel
theorem dX5_seating_23 : decode cX5_seating 23 = .ok (.iconst 0, 1) := by decide +kernel
theorem dX5_seating_24 : decode cX5_seating 24 = .ok (.istore_n 3, 1) := by decide +kernel
theorem dX5_seating_25 : decode cX5_seating 25 = .ok (.iload_n 3, 1) := by decide +kernel
theorem dX5_seating_26 : decode cX5_seating 26 = .ok (.aload_n 0, 1) := by decide +kernel
theorem dX5_seating_27 : decode cX5_seating 27 = .ok (.getfield 81, 3) := by decide +kernel
theorem dX5_seating_30 : decode cX5_seating 30 = .ok (.if_icmp .ge 16, 3) := by decide +kernel
theorem dX5_seating_33 : decode cX5_seating 33 = .ok (.iload_n 2, 1) := by decide +kernel
theorem dX5_seating_34 : decode cX5_seating 34 = .ok (.aload_n 0, 1) := by decide +kernel
theorem dX5_seating_35 : decode cX5_seating 35 = .ok (.getfield 81, 3) := by decide +kernel
theorem dX5_seating_38 : decode cX5_seating 38 = .ok (.imul, 1) := by decide +kernel
theorem dX5_seating_39 : decode cX5_seating 39 = .ok (.istore_n 2, 1) := by decide +kernel
theorem dX5_seating_40 : decode cX5_seating 40 = .ok (.iinc 3 1, 3) := by decide +kernel
theorem dX5_seating_43 : decode cX5_seating 43 = .ok (.goto (-18), 3) := by decide +kernel
theorem dX5_seating_46 : decode cX5_seating 46 = .ok (.iconst (-1), 1) := by decide +kernel
theorem dX5_seating_47 : decode cX5_seating 47 = .ok (.istore_n 3, 1) := by decide +kernel
theorem dX5_seating_48 : decode cX5_seating 48 = .ok (.iconst 0, 1) := by decide +kernel
theorem dX5_seating_49 : decode cX5_seating 49 = .ok (.istore 4, 2) := by decide +kernel
theorem dX5_seating_51 : decode cX5_seating 51 = .ok (.aload_n 0, 1) := by decide +kernel
theorem dX5_seating_52 : decode cX5_seating 52 = .ok (.invokevirtual 206, 3) := by decide +kernel
theorem dX5_seating_55 : decode cX5_seating 55 = .ok (.iconst 0, 1) := by decide +kernel
theorem dX5_seating_56 : decode cX5_seating 56 = .ok (.istore 5, 2) := by decide +kernel
theorem dX5_seating_58 : decode cX5_seating 58 = .ok (.iload 5, 2) := by decide +kernel
theorem dX5_seating_60 : decode cX5_seating 60 = .ok (.iload_n 2, 1) := by decide +kernel
theorem dX5_seating_61 : decode cX5_seating 61 = .ok (.if_icmp .ge 75, 3) := by decide +kernel
theorem dX5_seating_64 : decode cX5_seating 64 = .ok (.aload_n 0, 1) := by decide +kernel
theorem dX5_seating_65 : decode cX5_seating 65 = .ok (.iload 5, 2) := by decide +kernel
theorem dX5_seating_67 : decode cX5_seating 67 = .ok (.invokevirtual 221, 3) := by decide +kernel
theorem dX5_seating_70 : decode cX5_seating 70 = .ok (.ifCond .eq 60, 3) := by decide +kernel
theorem dX5_seating_73 : decode cX5_seating 73 = .ok (.aload_n 0, 1) := by decide +kernel
theorem dX5_seating_74 : decode cX5_seating 74 = .ok (.invokevirtual 224, 3) := by decide +kernel
theorem dX5_seating_77 : decode cX5_seating 77 = .ok (.istore 6, 2) := by decide +kernel
theorem dX5_seating_79 : decode cX5_seating 79 = .ok (.aload_n 0, 1) := by decide +kernel
theorem dX5_seating_80 : decode cX5_seating 80 = .ok (.invokevirtual 212, 3) := by decide +kernel
theorem dX5_seating_83 : decode cX5_seating 83 = .ok (.iload_n 3, 1) := by decide +kernel
theorem dX5_seating_84 : decode cX5_seating 84 = .ok (.iconst (-1), 1) := by decide +kernel
theorem dX5_seating_85 : decode cX5_seating 85 = .ok (.if_icmp .eq 10, 3) := by decide +kernel
theorem dX5_seating_88 : decode cX5_seating 88 = .ok (.iload 6, 2) := by decide +kernel
theorem dX5_seating_90 : decode cX5_seating 90 = .ok (.iload 4, 2) := by decide +kernel
theorem dX5_seating_92 : decode cX5_seating 92 = .ok (.if_icmp .ge 7, 3) := by decide +kernel
theorem dX5_seating_95 : decode cX5_seating 95 = .ok (.iconst 1, 1) := by decide +kernel
theorem dX5_seating_96 : decode cX5_seating 96 = .ok (.goto 4, 3) := by decide +kernel
theorem dX5_seating_99 : decode cX5_seating 99 = .ok (.iconst 0, 1) := by decide +kernel
theorem dX5_seating_100 : decode cX5_seating 100 = .ok (.istore 7, 2) := by decide +kernel
theorem dX5_seating_102 : decode cX5_seating 102 = .ok (.iload 7, 2) := by decide +kernel
theorem dX5_seating_104 : decode cX5_seating 104 = .ok (.ifCond .eq 10, 3) := by decide +kernel
theorem dX5_seating_107 : decode cX5_seating 107 = .ok (.aload_n 0, 1) := by decide +kernel
theorem dX5_seating_108 : decode cX5_seating 108 = .ok (.getfield 218, 3) := by decide +kernel
theorem dX5_seating_111 : decode cX5_seating 111 = .ok (.goto 4, 3) := by decide +kernel
theorem dX5_seating_114 : decode cX5_seating 114 = .ok (.iload_n 3, 1) := by decide +kernel
theorem dX5_seating_115 : decode cX5_seating 115 = .ok (.istore_n 3, 1) := by decide +kernel
theorem dX5_seating_116 : decode cX5_seating 116 = .ok (.iload 7, 2) := by decide +kernel
theorem dX5_seating_118 : decode cX5_seating 118 = .ok (.ifCond .eq 8, 3) := by decide +kernel
theorem dX5_seating_121 : decode cX5_seating 121 = .ok (.iload 6, 2) := by decide +kernel
theorem dX5_seating_123 : decode cX5_seating 123 = .ok (.goto 5, 3) := by decide +kernel
theorem dX5_seating_126 : decode cX5_seating 126 = .ok (.iload 4, 2) := by decide +kernel
theorem dX5_seating_128 : decode cX5_seating 128 = .ok (.istore 4, 2) := by decide +kernel
theorem dX5_seating_130 : decode cX5_seating 130 = .ok (.iinc 5 1, 3) := by decide +kernel
theorem dX5_seating_133 : decode cX5_seating 133 = .ok (.goto (-75), 3) := by decide +kernel
theorem dX5_seating_136 : decode cX5_seating 136 = .ok (.iload_n 1, 1) := by decide +kernel
theorem dX5_seating_137 : decode cX5_seating 137 = .ok (.ifCond .ne 7, 3) := by decide +kernel
theorem dX5_seating_140 : decode cX5_seating 140 = .ok (.iload_n 3, 1) := by decide +kernel
theorem dX5_seating_141 : decode cX5_seating 141 = .ok (.goto 5, 3) := by decide +kernel
theorem dX5_seating_144 : decode cX5_seating 144 = .ok (.iload 4, 2) := by decide +kernel
theorem dX5_seating_146 : decode cX5_seating 146 = .ok (.ireturn, 1) := by decide +kernel
theorem dX5_addsSort_0 : decode cX5_addsSort 0 = .ok (.iconst 0, 1) := by decide +kernel
theorem dX5_addsSort_1 : decode cX5_addsSort 1 = .ok (.istore_n 2, 1) := by decide +kernel
theorem dX5_addsSort_2 : decode cX5_addsSort 2 = .ok (.iload_n 2, 1) := by decide +kernel
theorem dX5_addsSort_3 : decode cX5_addsSort 3 = .ok (.sipush 1000, 3) := by decide +kernel
theorem dX5_addsSort_6 : decode cX5_addsSort 6 = .ok (.if_icmp .ge 78, 3) := by decide +kernel
theorem dX5_addsSort_9 : decode cX5_addsSort 9 = .ok (.aload_n 0, 1) := by decide +kernel
theorem dX5_addsSort_10 : decode cX5_addsSort 10 = .ok (.getfield 70, 3) := by decide +kernel
theorem dX5_addsSort_13 : decode cX5_addsSort 13 = .ok (.iload_n 2, 1) := by decide +kernel
theorem dX5_addsSort_14 : decode cX5_addsSort 14 = .ok (.iconst 0, 1) := by decide +kernel
theorem dX5_addsSort_15 : decode cX5_addsSort 15 = .ok (.iastore, 1) := by decide +kernel
theorem dX5_addsSort_16 : decode cX5_addsSort 16 = .ok (.iconst 0, 1) := by decide +kernel
theorem dX5_addsSort_17 : decode cX5_addsSort 17 = .ok (.istore_n 3, 1) := by decide +kernel
theorem dX5_addsSort_18 : decode cX5_addsSort 18 = .ok (.iload_n 3, 1) := by decide +kernel
theorem dX5_addsSort_19 : decode cX5_addsSort 19 = .ok (.aload_n 0, 1) := by decide +kernel
theorem dX5_addsSort_20 : decode cX5_addsSort 20 = .ok (.getfield 19, 3) := by decide +kernel
theorem dX5_addsSort_23 : decode cX5_addsSort 23 = .ok (.iconst 2, 1) := by decide +kernel
theorem dX5_addsSort_24 : decode cX5_addsSort 24 = .ok (.iload_n 1, 1) := by decide +kernel
theorem dX5_addsSort_25 : decode cX5_addsSort 25 = .ok (.imul, 1) := by decide +kernel
theorem dX5_addsSort_26 : decode cX5_addsSort 26 = .ok (.iconst 1, 1) := by decide +kernel
theorem dX5_addsSort_27 : decode cX5_addsSort 27 = .ok (.iadd, 1) := by decide +kernel
theorem dX5_addsSort_28 : decode cX5_addsSort 28 = .ok (.iaload, 1) := by decide +kernel
theorem dX5_addsSort_29 : decode cX5_addsSort 29 = .ok (.if_icmp .gt 49, 3) := by decide +kernel
theorem dX5_addsSort_32 : decode cX5_addsSort 32 = .ok (.iload_n 3, 1) := by decide +kernel
theorem dX5_addsSort_33 : decode cX5_addsSort 33 = .ok (.aload_n 0, 1) := by decide +kernel
theorem dX5_addsSort_34 : decode cX5_addsSort 34 = .ok (.getfield 19, 3) := by decide +kernel
theorem dX5_addsSort_37 : decode cX5_addsSort 37 = .ok (.iconst 2, 1) := by decide +kernel
theorem dX5_addsSort_38 : decode cX5_addsSort 38 = .ok (.iload_n 1, 1) := by decide +kernel
theorem dX5_addsSort_39 : decode cX5_addsSort 39 = .ok (.imul, 1) := by decide +kernel
theorem dX5_addsSort_40 : decode cX5_addsSort 40 = .ok (.iaload, 1) := by decide +kernel
theorem dX5_addsSort_41 : decode cX5_addsSort 41 = .ok (.imul, 1) := by decide +kernel
theorem dX5_addsSort_42 : decode cX5_addsSort 42 = .ok (.iload_n 2, 1) := by decide +kernel
theorem dX5_addsSort_43 : decode cX5_addsSort 43 = .ok (.if_icmp .gt 35, 3) := by decide +kernel
theorem dX5_addsSort_46 : decode cX5_addsSort 46 = .ok (.aload_n 0, 1) := by decide +kernel
theorem dX5_addsSort_47 : decode cX5_addsSort 47 = .ok (.getfield 70, 3) := by decide +kernel
theorem dX5_addsSort_50 : decode cX5_addsSort 50 = .ok (.iload_n 2, 1) := by decide +kernel
theorem dX5_addsSort_51 : decode cX5_addsSort 51 = .ok (.dup2, 1) := by decide +kernel
theorem dX5_addsSort_52 : decode cX5_addsSort 52 = .ok (.iaload, 1) := by decide +kernel
theorem dX5_addsSort_53 : decode cX5_addsSort 53 = .ok (.aload_n 0, 1) := by decide +kernel
theorem dX5_addsSort_54 : decode cX5_addsSort 54 = .ok (.getfield 67, 3) := by decide +kernel
theorem dX5_addsSort_57 : decode cX5_addsSort 57 = .ok (.iload_n 2, 1) := by decide +kernel
theorem dX5_addsSort_58 : decode cX5_addsSort 58 = .ok (.iload_n 3, 1) := by decide +kernel
theorem dX5_addsSort_59 : decode cX5_addsSort 59 = .ok (.aload_n 0, 1) := by decide +kernel
theorem dX5_addsSort_60 : decode cX5_addsSort 60 = .ok (.getfield 19, 3) := by decide +kernel
theorem dX5_addsSort_63 : decode cX5_addsSort 63 = .ok (.iconst 2, 1) := by decide +kernel
theorem dX5_addsSort_64 : decode cX5_addsSort 64 = .ok (.iload_n 1, 1) := by decide +kernel
theorem dX5_addsSort_65 : decode cX5_addsSort 65 = .ok (.imul, 1) := by decide +kernel
theorem dX5_addsSort_66 : decode cX5_addsSort 66 = .ok (.iaload, 1) := by decide +kernel
theorem dX5_addsSort_67 : decode cX5_addsSort 67 = .ok (.imul, 1) := by decide +kernel
theorem dX5_addsSort_68 : decode cX5_addsSort 68 = .ok (.isub, 1) := by decide +kernel
theorem dX5_addsSort_69 : decode cX5_addsSort 69 = .ok (.iaload, 1) := by decide +kernel
theorem dX5_addsSort_70 : decode cX5_addsSort 70 = .ok (.iadd, 1) := by decide +kernel
theorem dX5_addsSort_71 : decode cX5_addsSort 71 = .ok (.iastore, 1) := by decide +kernel
theorem dX5_addsSort_72 : decode cX5_addsSort 72 = .ok (.iinc 3 1, 3) := by decide +kernel
theorem dX5_addsSort_75 : decode cX5_addsSort 75 = .ok (.goto (-57), 3) := by decide +kernel
theorem dX5_addsSort_78 : decode cX5_addsSort 78 = .ok (.iinc 2 1, 3) := by decide +kernel
theorem dX5_addsSort_81 : decode cX5_addsSort 81 = .ok (.goto (-79), 3) := by decide +kernel
theorem dX5_addsSort_84 : decode cX5_addsSort 84 = .ok (.iconst 0, 1) := by decide +kernel
theorem dX5_addsSort_85 : decode cX5_addsSort 85 = .ok (.istore_n 2, 1) := by decide +kernel
theorem dX5_addsSort_86 : decode cX5_addsSort 86 = .ok (.iload_n 2, 1) := by decide +kernel
theorem dX5_addsSort_87 : decode cX5_addsSort 87 = .ok (.sipush 1000, 3) := by decide +kernel
theorem dX5_addsSort_90 : decode cX5_addsSort 90 = .ok (.if_icmp .ge 21, 3) := by decide +kernel
theorem dX5_addsSort_93 : decode cX5_addsSort 93 = .ok (.aload_n 0, 1) := by decide +kernel
theorem dX5_addsSort_94 : decode cX5_addsSort 94 = .ok (.getfield 67, 3) := by decide +kernel
theorem dX5_addsSort_97 : decode cX5_addsSort 97 = .ok (.iload_n 2, 1) := by decide +kernel
theorem dX5_addsSort_98 : decode cX5_addsSort 98 = .ok (.aload_n 0, 1) := by decide +kernel
theorem dX5_addsSort_99 : decode cX5_addsSort 99 = .ok (.getfield 70, 3) := by decide +kernel
theorem dX5_addsSort_102 : decode cX5_addsSort 102 = .ok (.iload_n 2, 1) := by decide +kernel
theorem dX5_addsSort_103 : decode cX5_addsSort 103 = .ok (.iaload, 1) := by decide +kernel
theorem dX5_addsSort_104 : decode cX5_addsSort 104 = .ok (.iastore, 1) := by decide +kernel
theorem dX5_addsSort_105 : decode cX5_addsSort 105 = .ok (.iinc 2 1, 3) := by decide +kernel
theorem dX5_addsSort_108 : decode cX5_addsSort 108 = .ok (.goto (-22), 3) := by decide +kernel
theorem dX5_addsSort_111 : decode cX5_addsSort 111 = .ok (.return_, 1) := by decide +kernel
theorem dX5_ways_0 : decode cX5_ways 0 = .ok (.iload_n 1, 1) := by decide +kernel
theorem dX5_ways_1 : decode cX5_ways 1 = .ok (.iconst 0, 1) := by decide +kernel
theorem dX5_ways_2 : decode cX5_ways 2 = .ok (.sipush 999, 3) := by decide +kernel
theorem dX5_ways_5 : decode cX5_ways 5 = .ok (.invokestatic 84, 3) := by decide +kernel
theorem dX5_ways_8 : decode cX5_ways 8 = .ok (.ifCond .ne 6, 3) := by decide +kernel
theorem dX5_ways_11 : decode cX5_ways 11 = .ok (.bipush (-2), 2) := by decide +kernel
theorem dX5_ways_13 : decode cX5_ways 13 = .ok (.ireturn, 1) := by decide +kernel
theorem dX5_ways_14 : decode cX5_ways 14 = .ok (.iconst 0, 1) := by decide +kernel
theorem dX5_ways_15 : decode cX5_ways 15 = .ok (.istore_n 2, 1) := by decide +kernel
theorem dX5_ways_16 : decode cX5_ways 16 = .ok (.iload_n 2, 1) := by decide +kernel
theorem dX5_ways_17 : decode cX5_ways 17 = .ok (.sipush 1000, 3) := by decide +kernel
theorem dX5_ways_20 : decode cX5_ways 20 = .ok (.if_icmp .ge 24, 3) := by decide +kernel
theorem dX5_ways_23 : decode cX5_ways 23 = .ok (.aload_n 0, 1) := by decide +kernel
theorem dX5_ways_24 : decode cX5_ways 24 = .ok (.getfield 67, 3) := by decide +kernel
theorem dX5_ways_27 : decode cX5_ways 27 = .ok (.iload_n 2, 1) := by decide +kernel
theorem dX5_ways_28 : decode cX5_ways 28 = .ok (.iload_n 2, 1) := by decide +kernel
theorem dX5_ways_29 : decode cX5_ways 29 = .ok (.ifCond .ne 7, 3) := by decide +kernel
theorem dX5_ways_32 : decode cX5_ways 32 = .ok (.iconst 1, 1) := by decide +kernel
theorem dX5_ways_33 : decode cX5_ways 33 = .ok (.goto 4, 3) := by decide +kernel
theorem dX5_ways_36 : decode cX5_ways 36 = .ok (.iconst 0, 1) := by decide +kernel
theorem dX5_ways_37 : decode cX5_ways 37 = .ok (.iastore, 1) := by decide +kernel
theorem dX5_ways_38 : decode cX5_ways 38 = .ok (.iinc 2 1, 3) := by decide +kernel
theorem dX5_ways_41 : decode cX5_ways 41 = .ok (.goto (-25), 3) := by decide +kernel
theorem dX5_ways_44 : decode cX5_ways 44 = .ok (.iconst 0, 1) := by decide +kernel
theorem dX5_ways_45 : decode cX5_ways 45 = .ok (.istore_n 2, 1) := by decide +kernel
theorem dX5_ways_46 : decode cX5_ways 46 = .ok (.iload_n 2, 1) := by decide +kernel
theorem dX5_ways_47 : decode cX5_ways 47 = .ok (.bipush 6, 2) := by decide +kernel
theorem dX5_ways_49 : decode cX5_ways 49 = .ok (.if_icmp .ge 14, 3) := by decide +kernel
theorem dX5_ways_52 : decode cX5_ways 52 = .ok (.aload_n 0, 1) := by decide +kernel
theorem dX5_ways_53 : decode cX5_ways 53 = .ok (.iload_n 2, 1) := by decide +kernel
theorem dX5_ways_54 : decode cX5_ways 54 = .ok (.invokevirtual 227, 3) := by decide +kernel
theorem dX5_ways_57 : decode cX5_ways 57 = .ok (.iinc 2 1, 3) := by decide +kernel
theorem dX5_ways_60 : decode cX5_ways 60 = .ok (.goto (-14), 3) := by decide +kernel
theorem dX5_ways_63 : decode cX5_ways 63 = .ok (.aload_n 0, 1) := by decide +kernel
theorem dX5_ways_64 : decode cX5_ways 64 = .ok (.getfield 67, 3) := by decide +kernel
theorem dX5_ways_67 : decode cX5_ways 67 = .ok (.iload_n 1, 1) := by decide +kernel
theorem dX5_ways_68 : decode cX5_ways 68 = .ok (.iaload, 1) := by decide +kernel
theorem dX5_ways_69 : decode cX5_ways 69 = .ok (.ireturn, 1) := by decide +kernel
theorem dX5_lowest_0 : decode cX5_lowest 0 = .ok (.lload_n 0, 1) := by decide +kernel
theorem dX5_lowest_1 : decode cX5_lowest 1 = .ok (.lconst 0, 1) := by decide +kernel
theorem dX5_lowest_2 : decode cX5_lowest 2 = .ok (.lcmp, 1) := by decide +kernel
theorem dX5_lowest_3 : decode cX5_lowest 3 = .ok (.ifCond .ne 7, 3) := by decide +kernel
theorem dX5_lowest_6 : decode cX5_lowest 6 = .ok (.iload 4, 2) := by decide +kernel
theorem dX5_lowest_8 : decode cX5_lowest 8 = .ok (.i2l, 1) := by decide +kernel
theorem dX5_lowest_9 : decode cX5_lowest 9 = .ok (.lreturn, 1) := by decide +kernel
theorem dX5_lowest_10 : decode cX5_lowest 10 = .ok (.lload_n 0, 1) := by decide +kernel
theorem dX5_lowest_11 : decode cX5_lowest 11 = .ok (.lstore 5, 2) := by decide +kernel
theorem dX5_lowest_13 : decode cX5_lowest 13 = .ok (.lload_n 2, 1) := by decide +kernel
theorem dX5_lowest_14 : decode cX5_lowest 14 = .ok (.lstore 7, 2) := by decide +kernel
theorem dX5_lowest_16 : decode cX5_lowest 16 = .ok (.lload 7, 2) := by decide +kernel
theorem dX5_lowest_18 : decode cX5_lowest 18 = .ok (.lconst 0, 1) := by decide +kernel
theorem dX5_lowest_19 : decode cX5_lowest 19 = .ok (.lcmp, 1) := by decide +kernel
theorem dX5_lowest_20 : decode cX5_lowest 20 = .ok (.ifCond .eq 21, 3) := by decide +kernel
theorem dX5_lowest_23 : decode cX5_lowest 23 = .ok (.lload 5, 2) := by decide +kernel
theorem dX5_lowest_25 : decode cX5_lowest 25 = .ok (.lload 7, 2) := by decide +kernel
theorem dX5_lowest_27 : decode cX5_lowest 27 = .ok (.lrem, 1) := by decide +kernel
theorem dX5_lowest_28 : decode cX5_lowest 28 = .ok (.lstore 9, 2) := by decide +kernel
theorem dX5_lowest_30 : decode cX5_lowest 30 = .ok (.lload 7, 2) := by decide +kernel
theorem dX5_lowest_32 : decode cX5_lowest 32 = .ok (.lstore 5, 2) := by decide +kernel
theorem dX5_lowest_34 : decode cX5_lowest 34 = .ok (.lload 9, 2) := by decide +kernel
theorem dX5_lowest_36 : decode cX5_lowest 36 = .ok (.lstore 7, 2) := by decide +kernel
theorem dX5_lowest_38 : decode cX5_lowest 38 = .ok (.goto (-22), 3) := by decide +kernel
theorem dX5_lowest_41 : decode cX5_lowest 41 = .ok (.iload 4, 2) := by decide +kernel
theorem dX5_lowest_43 : decode cX5_lowest 43 = .ok (.ifCond .ne 7, 3) := by decide +kernel
theorem dX5_lowest_46 : decode cX5_lowest 46 = .ok (.lload_n 0, 1) := by decide +kernel
theorem dX5_lowest_47 : decode cX5_lowest 47 = .ok (.goto 4, 3) := by decide +kernel
theorem dX5_lowest_50 : decode cX5_lowest 50 = .ok (.lload_n 2, 1) := by decide +kernel
theorem dX5_lowest_51 : decode cX5_lowest 51 = .ok (.lload 5, 2) := by decide +kernel
theorem dX5_lowest_53 : decode cX5_lowest 53 = .ok (.ldiv, 1) := by decide +kernel
theorem dX5_lowest_54 : decode cX5_lowest 54 = .ok (.lreturn, 1) := by decide +kernel
theorem dX5_share_0 : decode cX5_share 0 = .ok (.aload_n 0, 1) := by decide +kernel
theorem dX5_share_1 : decode cX5_share 1 = .ok (.invokevirtual 107, 3) := by decide +kernel
theorem dX5_share_4 : decode cX5_share 4 = .ok (.istore_n 3, 1) := by decide +kernel
theorem dX5_share_5 : decode cX5_share 5 = .ok (.iconst 0, 1) := by decide +kernel
theorem dX5_share_6 : decode cX5_share 6 = .ok (.istore 4, 2) := by decide +kernel
theorem dX5_share_8 : decode cX5_share 8 = .ok (.iload 4, 2) := by decide +kernel
theorem dX5_share_10 : decode cX5_share 10 = .ok (.aload_n 0, 1) := by decide +kernel
theorem dX5_share_11 : decode cX5_share 11 = .ok (.getfield 81, 3) := by decide +kernel
theorem dX5_share_14 : decode cX5_share 14 = .ok (.if_icmp .ge 23, 3) := by decide +kernel
theorem dX5_share_17 : decode cX5_share 17 = .ok (.iload_n 3, 1) := by decide +kernel
theorem dX5_share_18 : decode cX5_share 18 = .ok (.aload_n 0, 1) := by decide +kernel
theorem dX5_share_19 : decode cX5_share 19 = .ok (.getfield 16, 3) := by decide +kernel
theorem dX5_share_22 : decode cX5_share 22 = .ok (.iconst 3, 1) := by decide +kernel
theorem dX5_share_23 : decode cX5_share 23 = .ok (.iload 4, 2) := by decide +kernel
theorem dX5_share_25 : decode cX5_share 25 = .ok (.imul, 1) := by decide +kernel
theorem dX5_share_26 : decode cX5_share 26 = .ok (.iconst 1, 1) := by decide +kernel
theorem dX5_share_27 : decode cX5_share 27 = .ok (.iadd, 1) := by decide +kernel
theorem dX5_share_28 : decode cX5_share 28 = .ok (.iaload, 1) := by decide +kernel
theorem dX5_share_29 : decode cX5_share 29 = .ok (.iadd, 1) := by decide +kernel
theorem dX5_share_30 : decode cX5_share 30 = .ok (.istore_n 3, 1) := by decide +kernel
theorem dX5_share_31 : decode cX5_share 31 = .ok (.iinc 4 1, 3) := by decide +kernel
theorem dX5_share_34 : decode cX5_share 34 = .ok (.goto (-26), 3) := by decide +kernel
theorem dX5_share_37 : decode cX5_share 37 = .ok (.aload_n 0, 1) := by decide +kernel
theorem dX5_share_38 : decode cX5_share 38 = .ok (.iload_n 1, 1) := by decide +kernel
theorem dX5_share_39 : decode cX5_share 39 = .ok (.invokevirtual 179, 3) := by decide +kernel
theorem dX5_share_42 : decode cX5_share 42 = .ok (.ifCond .eq 36, 3) := by decide +kernel
theorem dX5_share_45 : decode cX5_share 45 = .ok (.iload_n 2, 1) := by decide +kernel
theorem dX5_share_46 : decode cX5_share 46 = .ok (.iconst 0, 1) := by decide +kernel
theorem dX5_share_47 : decode cX5_share 47 = .ok (.iconst 1, 1) := by decide +kernel
theorem dX5_share_48 : decode cX5_share 48 = .ok (.invokestatic 84, 3) := by decide +kernel
theorem dX5_share_51 : decode cX5_share 51 = .ok (.ifCond .eq 27, 3) := by decide +kernel
theorem dX5_share_54 : decode cX5_share 54 = .ok (.iload_n 3, 1) := by decide +kernel
theorem dX5_share_55 : decode cX5_share 55 = .ok (.ifCond .le 23, 3) := by decide +kernel
theorem dX5_share_58 : decode cX5_share 58 = .ok (.aload_n 0, 1) := by decide +kernel
theorem dX5_share_59 : decode cX5_share 59 = .ok (.getfield 16, 3) := by decide +kernel
theorem dX5_share_62 : decode cX5_share 62 = .ok (.iconst 3, 1) := by decide +kernel
theorem dX5_share_63 : decode cX5_share 63 = .ok (.iload_n 1, 1) := by decide +kernel
theorem dX5_share_64 : decode cX5_share 64 = .ok (.imul, 1) := by decide +kernel
theorem dX5_share_65 : decode cX5_share 65 = .ok (.iconst 1, 1) := by decide +kernel
theorem dX5_share_66 : decode cX5_share 66 = .ok (.iadd, 1) := by decide +kernel
theorem dX5_share_67 : decode cX5_share 67 = .ok (.iaload, 1) := by decide +kernel
theorem dX5_share_68 : decode cX5_share 68 = .ok (.i2l, 1) := by decide +kernel
theorem dX5_share_69 : decode cX5_share 69 = .ok (.iload_n 3, 1) := by decide +kernel
theorem dX5_share_70 : decode cX5_share 70 = .ok (.i2l, 1) := by decide +kernel
theorem dX5_share_71 : decode cX5_share 71 = .ok (.iload_n 2, 1) := by decide +kernel
theorem dX5_share_72 : decode cX5_share 72 = .ok (.invokestatic 230, 3) := by decide +kernel
theorem dX5_share_75 : decode cX5_share 75 = .ok (.goto 6, 3) := by decide +kernel
theorem dX5_share_78 : decode cX5_share 78 = .ok (.ldc2_w 234, 3) := by decide +kernel
theorem dX5_share_81 : decode cX5_share 81 = .ok (.lreturn, 1) := by decide +kernel
theorem dX5_sheetWrong_0 : decode cX5_sheetWrong 0 = .ok (.iload_n 1, 1) := by decide +kernel
theorem dX5_sheetWrong_1 : decode cX5_sheetWrong 1 = .ok (.iconst 0, 1) := by decide +kernel
theorem dX5_sheetWrong_2 : decode cX5_sheetWrong 2 = .ok (.iconst 3, 1) := by decide +kernel
theorem dX5_sheetWrong_3 : decode cX5_sheetWrong 3 = .ok (.invokestatic 84, 3) := by decide +kernel
theorem dX5_sheetWrong_6 : decode cX5_sheetWrong 6 = .ok (.ifCond .ne 6, 3) := by decide +kernel
theorem dX5_sheetWrong_9 : decode cX5_sheetWrong 9 = .ok (.bipush (-2), 2) := by decide +kernel
theorem dX5_sheetWrong_11 : decode cX5_sheetWrong 11 = .ok (.ireturn, 1) := by decide +kernel
theorem dX5_sheetWrong_12 : decode cX5_sheetWrong 12 = .ok (.aload_n 0, 1) := by decide +kernel
theorem dX5_sheetWrong_13 : decode cX5_sheetWrong 13 = .ok (.getfield 37, 3) := by decide +kernel
theorem dX5_sheetWrong_16 : decode cX5_sheetWrong 16 = .ok (.iload_n 1, 1) := by decide +kernel
theorem dX5_sheetWrong_17 : decode cX5_sheetWrong 17 = .ok (.iaload, 1) := by decide +kernel
theorem dX5_sheetWrong_18 : decode cX5_sheetWrong 18 = .ok (.iconst (-1), 1) := by decide +kernel
theorem dX5_sheetWrong_19 : decode cX5_sheetWrong 19 = .ok (.if_icmp .ne 6, 3) := by decide +kernel
theorem dX5_sheetWrong_22 : decode cX5_sheetWrong 22 = .ok (.bipush (-11), 2) := by decide +kernel
theorem dX5_sheetWrong_24 : decode cX5_sheetWrong 24 = .ok (.ireturn, 1) := by decide +kernel
theorem dX5_sheetWrong_25 : decode cX5_sheetWrong 25 = .ok (.aload_n 0, 1) := by decide +kernel
theorem dX5_sheetWrong_26 : decode cX5_sheetWrong 26 = .ok (.getfield 40, 3) := by decide +kernel
theorem dX5_sheetWrong_29 : decode cX5_sheetWrong 29 = .ok (.iload_n 1, 1) := by decide +kernel
theorem dX5_sheetWrong_30 : decode cX5_sheetWrong 30 = .ok (.iaload, 1) := by decide +kernel
theorem dX5_sheetWrong_31 : decode cX5_sheetWrong 31 = .ok (.bipush 30, 2) := by decide +kernel
theorem dX5_sheetWrong_33 : decode cX5_sheetWrong 33 = .ok (.if_icmp .le 8, 3) := by decide +kernel
theorem dX5_sheetWrong_36 : decode cX5_sheetWrong 36 = .ok (.bipush (-2), 2) := by decide +kernel
theorem dX5_sheetWrong_38 : decode cX5_sheetWrong 38 = .ok (.goto 4, 3) := by decide +kernel
theorem dX5_sheetWrong_41 : decode cX5_sheetWrong 41 = .ok (.iconst 0, 1) := by decide +kernel
theorem dX5_sheetWrong_42 : decode cX5_sheetWrong 42 = .ok (.ireturn, 1) := by decide +kernel
theorem dX5_toldTurn_0 : decode cX5_toldTurn 0 = .ok (.aload_n 0, 1) := by decide +kernel
theorem dX5_toldTurn_1 : decode cX5_toldTurn 1 = .ok (.invokevirtual 200, 3) := by decide +kernel
theorem dX5_toldTurn_4 : decode cX5_toldTurn 4 = .ok (.ifCond .eq 7, 3) := by decide +kernel
theorem dX5_toldTurn_7 : decode cX5_toldTurn 7 = .ok (.iconst 0, 1) := by decide +kernel
theorem dX5_toldTurn_8 : decode cX5_toldTurn 8 = .ok (.goto 9, 3) := by decide +kernel
theorem dX5_toldTurn_11 : decode cX5_toldTurn 11 = .ok (.aload_n 0, 1) := by decide +kernel
theorem dX5_toldTurn_12 : decode cX5_toldTurn 12 = .ok (.invokevirtual 203, 3) := by decide +kernel
theorem dX5_toldTurn_15 : decode cX5_toldTurn 15 = .ok (.iconst 1, 1) := by decide +kernel
theorem dX5_toldTurn_16 : decode cX5_toldTurn 16 = .ok (.iadd, 1) := by decide +kernel
theorem dX5_toldTurn_17 : decode cX5_toldTurn 17 = .ok (.ireturn, 1) := by decide +kernel
theorem dX5_unlike_0 : decode cX5_unlike 0 = .ok (.iconst (-1), 1) := by decide +kernel
theorem dX5_unlike_1 : decode cX5_unlike 1 = .ok (.istore_n 2, 1) := by decide +kernel
theorem dX5_unlike_2 : decode cX5_unlike 2 = .ok (.aload_n 0, 1) := by decide +kernel
theorem dX5_unlike_3 : decode cX5_unlike 3 = .ok (.invokevirtual 206, 3) := by decide +kernel
theorem dX5_unlike_6 : decode cX5_unlike 6 = .ok (.iconst 0, 1) := by decide +kernel
theorem dX5_unlike_7 : decode cX5_unlike 7 = .ok (.istore_n 3, 1) := by decide +kernel
theorem dX5_unlike_8 : decode cX5_unlike 8 = .ok (.iload_n 3, 1) := by decide +kernel
theorem dX5_unlike_9 : decode cX5_unlike 9 = .ok (.aload_n 0, 1) := by decide +kernel
theorem dX5_unlike_10 : decode cX5_unlike 10 = .ok (.getfield 40, 3) := by decide +kernel
theorem dX5_unlike_13 : decode cX5_unlike 13 = .ok (.iload_n 1, 1) := by decide +kernel
theorem dX5_unlike_14 : decode cX5_unlike 14 = .ok (.iaload, 1) := by decide +kernel
theorem dX5_unlike_15 : decode cX5_unlike 15 = .ok (.if_icmp .ge 38, 3) := by decide +kernel
theorem dX5_unlike_18 : decode cX5_unlike 18 = .ok (.iload_n 2, 1) := by decide +kernel
theorem dX5_unlike_19 : decode cX5_unlike 19 = .ok (.iconst (-1), 1) := by decide +kernel
theorem dX5_unlike_20 : decode cX5_unlike 20 = .ok (.if_icmp .ne 33, 3) := by decide +kernel
theorem dX5_unlike_23 : decode cX5_unlike 23 = .ok (.aload_n 0, 1) := by decide +kernel
theorem dX5_unlike_24 : decode cX5_unlike 24 = .ok (.getfield 43, 3) := by decide +kernel
theorem dX5_unlike_27 : decode cX5_unlike 27 = .ok (.bipush 40, 2) := by decide +kernel
theorem dX5_unlike_29 : decode cX5_unlike 29 = .ok (.iload_n 1, 1) := by decide +kernel
theorem dX5_unlike_30 : decode cX5_unlike 30 = .ok (.imul, 1) := by decide +kernel
theorem dX5_unlike_31 : decode cX5_unlike 31 = .ok (.iload_n 3, 1) := by decide +kernel
theorem dX5_unlike_32 : decode cX5_unlike 32 = .ok (.iadd, 1) := by decide +kernel
theorem dX5_unlike_33 : decode cX5_unlike 33 = .ok (.iaload, 1) := by decide +kernel
theorem dX5_unlike_34 : decode cX5_unlike 34 = .ok (.aload_n 0, 1) := by decide +kernel
theorem dX5_unlike_35 : decode cX5_unlike 35 = .ok (.invokevirtual 236, 3) := by decide +kernel
theorem dX5_unlike_38 : decode cX5_unlike 38 = .ok (.if_icmp .ne 7, 3) := by decide +kernel
theorem dX5_unlike_41 : decode cX5_unlike 41 = .ok (.iconst (-1), 1) := by decide +kernel
theorem dX5_unlike_42 : decode cX5_unlike 42 = .ok (.goto 4, 3) := by decide +kernel
theorem dX5_unlike_45 : decode cX5_unlike 45 = .ok (.iload_n 3, 1) := by decide +kernel
theorem dX5_unlike_46 : decode cX5_unlike 46 = .ok (.istore_n 2, 1) := by decide +kernel
theorem dX5_unlike_47 : decode cX5_unlike 47 = .ok (.iinc 3 1, 3) := by decide +kernel
theorem dX5_unlike_50 : decode cX5_unlike 50 = .ok (.goto (-42), 3) := by decide +kernel
theorem dX5_unlike_53 : decode cX5_unlike 53 = .ok (.aload_n 0, 1) := by decide +kernel
theorem dX5_unlike_54 : decode cX5_unlike 54 = .ok (.invokevirtual 212, 3) := by decide +kernel
theorem dX5_unlike_57 : decode cX5_unlike 57 = .ok (.iload_n 2, 1) := by decide +kernel
theorem dX5_unlike_58 : decode cX5_unlike 58 = .ok (.ireturn, 1) := by decide +kernel
theorem dX5_judge_0 : decode cX5_judge 0 = .ok (.aload_n 0, 1) := by decide +kernel
theorem dX5_judge_1 : decode cX5_judge 1 = .ok (.iload_n 1, 1) := by decide +kernel
theorem dX5_judge_2 : decode cX5_judge 2 = .ok (.invokevirtual 239, 3) := by decide +kernel
theorem dX5_judge_5 : decode cX5_judge 5 = .ok (.istore_n 2, 1) := by decide +kernel
theorem dX5_judge_6 : decode cX5_judge 6 = .ok (.iload_n 2, 1) := by decide +kernel
theorem dX5_judge_7 : decode cX5_judge 7 = .ok (.ifCond .ne 11, 3) := by decide +kernel
theorem dX5_judge_10 : decode cX5_judge 10 = .ok (.aload_n 0, 1) := by decide +kernel
theorem dX5_judge_11 : decode cX5_judge 11 = .ok (.iload_n 1, 1) := by decide +kernel
theorem dX5_judge_12 : decode cX5_judge 12 = .ok (.invokevirtual 242, 3) := by decide +kernel
theorem dX5_judge_15 : decode cX5_judge 15 = .ok (.goto 4, 3) := by decide +kernel
theorem dX5_judge_18 : decode cX5_judge 18 = .ok (.iload_n 2, 1) := by decide +kernel
theorem dX5_judge_19 : decode cX5_judge 19 = .ok (.ireturn, 1) := by decide +kernel
theorem dX5_kinds_0 : decode cX5_kinds 0 = .ok (.aload_n 0, 1) := by decide +kernel
theorem dX5_kinds_1 : decode cX5_kinds 1 = .ok (.iload_n 1, 1) := by decide +kernel
theorem dX5_kinds_2 : decode cX5_kinds 2 = .ok (.invokevirtual 239, 3) := by decide +kernel
theorem dX5_kinds_5 : decode cX5_kinds 5 = .ok (.istore 4, 2) := by decide +kernel
theorem dX5_kinds_7 : decode cX5_kinds 7 = .ok (.iload 4, 2) := by decide +kernel
theorem dX5_kinds_9 : decode cX5_kinds 9 = .ok (.ifCond .eq 6, 3) := by decide +kernel
theorem dX5_kinds_12 : decode cX5_kinds 12 = .ok (.iload 4, 2) := by decide +kernel
theorem dX5_kinds_14 : decode cX5_kinds 14 = .ok (.ireturn, 1) := by decide +kernel
theorem dX5_kinds_15 : decode cX5_kinds 15 = .ok (.aload_n 0, 1) := by decide +kernel
theorem dX5_kinds_16 : decode cX5_kinds 16 = .ok (.iload_n 2, 1) := by decide +kernel
theorem dX5_kinds_17 : decode cX5_kinds 17 = .ok (.invokevirtual 179, 3) := by decide +kernel
theorem dX5_kinds_20 : decode cX5_kinds 20 = .ok (.ifCond .ne 6, 3) := by decide +kernel
theorem dX5_kinds_23 : decode cX5_kinds 23 = .ok (.bipush (-5), 2) := by decide +kernel
theorem dX5_kinds_25 : decode cX5_kinds 25 = .ok (.ireturn, 1) := by decide +kernel
theorem dX5_kinds_26 : decode cX5_kinds 26 = .ok (.iload_n 3, 1) := by decide +kernel
theorem dX5_kinds_27 : decode cX5_kinds 27 = .ok (.iconst 0, 1) := by decide +kernel
theorem dX5_kinds_28 : decode cX5_kinds 28 = .ok (.iconst 1, 1) := by decide +kernel
theorem dX5_kinds_29 : decode cX5_kinds 29 = .ok (.invokestatic 84, 3) := by decide +kernel
theorem dX5_kinds_32 : decode cX5_kinds 32 = .ok (.ifCond .ne 6, 3) := by decide +kernel
theorem dX5_kinds_35 : decode cX5_kinds 35 = .ok (.bipush (-7), 2) := by decide +kernel
theorem dX5_kinds_37 : decode cX5_kinds 37 = .ok (.ireturn, 1) := by decide +kernel
theorem dX5_kinds_38 : decode cX5_kinds 38 = .ok (.aload_n 0, 1) := by decide +kernel
theorem dX5_kinds_39 : decode cX5_kinds 39 = .ok (.getfield 7, 3) := by decide +kernel
theorem dX5_kinds_42 : decode cX5_kinds 42 = .ok (.iload_n 2, 1) := by decide +kernel
theorem dX5_kinds_43 : decode cX5_kinds 43 = .ok (.iaload, 1) := by decide +kernel
theorem dX5_kinds_44 : decode cX5_kinds 44 = .ok (.istore 5, 2) := by decide +kernel
theorem dX5_kinds_46 : decode cX5_kinds 46 = .ok (.aload_n 0, 1) := by decide +kernel
theorem dX5_kinds_47 : decode cX5_kinds 47 = .ok (.getfield 13, 3) := by decide +kernel
theorem dX5_kinds_50 : decode cX5_kinds 50 = .ok (.iload_n 2, 1) := by decide +kernel
theorem dX5_kinds_51 : decode cX5_kinds 51 = .ok (.iaload, 1) := by decide +kernel
theorem dX5_kinds_52 : decode cX5_kinds 52 = .ok (.istore 6, 2) := by decide +kernel
theorem dX5_kinds_54 : decode cX5_kinds 54 = .ok (.iconst 0, 1) := by decide +kernel
theorem dX5_kinds_55 : decode cX5_kinds 55 = .ok (.istore 7, 2) := by decide +kernel
theorem dX5_kinds_57 : decode cX5_kinds 57 = .ok (.iconst 0, 1) := by decide +kernel
theorem dX5_kinds_58 : decode cX5_kinds 58 = .ok (.istore 8, 2) := by decide +kernel
theorem dX5_kinds_60 : decode cX5_kinds 60 = .ok (.iload 8, 2) := by decide +kernel
theorem dX5_kinds_62 : decode cX5_kinds 62 = .ok (.iload_n 3, 1) := by decide +kernel
theorem dX5_kinds_63 : decode cX5_kinds 63 = .ok (.ifCond .ne 8, 3) := by decide +kernel
theorem dX5_kinds_66 : decode cX5_kinds 66 = .ok (.bipush 6, 2) := by decide +kernel
theorem dX5_kinds_68 : decode cX5_kinds 68 = .ok (.goto 5, 3) := by decide +kernel
theorem dX5_kinds_71 : decode cX5_kinds 71 = .ok (.bipush 10, 2) := by decide +kernel
theorem dX5_kinds_73 : decode cX5_kinds 73 = .ok (.if_icmp .ge 66, 3) := by decide +kernel
theorem dX5_kinds_76 : decode cX5_kinds 76 = .ok (.aload_n 0, 1) := by decide +kernel
theorem dX5_kinds_77 : decode cX5_kinds 77 = .ok (.getfield 7, 3) := by decide +kernel
theorem dX5_kinds_80 : decode cX5_kinds 80 = .ok (.iload_n 2, 1) := by decide +kernel
theorem dX5_kinds_81 : decode cX5_kinds 81 = .ok (.iload_n 3, 1) := by decide +kernel
theorem dX5_kinds_82 : decode cX5_kinds 82 = .ok (.ifCond .ne 8, 3) := by decide +kernel
theorem dX5_kinds_85 : decode cX5_kinds 85 = .ok (.iload 8, 2) := by decide +kernel
theorem dX5_kinds_87 : decode cX5_kinds 87 = .ok (.goto 5, 3) := by decide +kernel
theorem dX5_kinds_90 : decode cX5_kinds 90 = .ok (.iload 5, 2) := by decide +kernel
theorem dX5_kinds_92 : decode cX5_kinds 92 = .ok (.iastore, 1) := by decide +kernel
theorem dX5_kinds_93 : decode cX5_kinds 93 = .ok (.aload_n 0, 1) := by decide +kernel
theorem dX5_kinds_94 : decode cX5_kinds 94 = .ok (.getfield 13, 3) := by decide +kernel
theorem dX5_kinds_97 : decode cX5_kinds 97 = .ok (.iload_n 2, 1) := by decide +kernel
theorem dX5_kinds_98 : decode cX5_kinds 98 = .ok (.iload_n 3, 1) := by decide +kernel
theorem dX5_kinds_99 : decode cX5_kinds 99 = .ok (.iconst 1, 1) := by decide +kernel
theorem dX5_kinds_100 : decode cX5_kinds 100 = .ok (.if_icmp .ne 8, 3) := by decide +kernel
theorem dX5_kinds_103 : decode cX5_kinds 103 = .ok (.iload 8, 2) := by decide +kernel
theorem dX5_kinds_105 : decode cX5_kinds 105 = .ok (.goto 5, 3) := by decide +kernel
theorem dX5_kinds_108 : decode cX5_kinds 108 = .ok (.iload 6, 2) := by decide +kernel
theorem dX5_kinds_110 : decode cX5_kinds 110 = .ok (.iastore, 1) := by decide +kernel
theorem dX5_kinds_111 : decode cX5_kinds 111 = .ok (.iload 7, 2) := by decide +kernel
theorem dX5_kinds_113 : decode cX5_kinds 113 = .ok (.aload_n 0, 1) := by decide +kernel
theorem dX5_kinds_114 : decode cX5_kinds 114 = .ok (.iload_n 1, 1) := by decide +kernel
theorem dX5_kinds_115 : decode cX5_kinds 115 = .ok (.invokevirtual 242, 3) := by decide +kernel
theorem dX5_kinds_118 : decode cX5_kinds 118 = .ok (.iconst (-1), 1) := by decide +kernel
theorem dX5_kinds_119 : decode cX5_kinds 119 = .ok (.if_icmp .ne 10, 3) := by decide +kernel
theorem dX5_kinds_122 : decode cX5_kinds 122 = .ok (.iconst 1, 1) := by decide +kernel
theorem dX5_kinds_123 : decode cX5_kinds 123 = .ok (.iload 8, 2) := by decide +kernel
theorem dX5_kinds_125 : decode cX5_kinds 125 = .ok (.ishl, 1) := by decide +kernel
theorem dX5_kinds_126 : decode cX5_kinds 126 = .ok (.goto 4, 3) := by decide +kernel
theorem dX5_kinds_129 : decode cX5_kinds 129 = .ok (.iconst 0, 1) := by decide +kernel
theorem dX5_kinds_130 : decode cX5_kinds 130 = .ok (.ior, 1) := by decide +kernel
theorem dX5_kinds_131 : decode cX5_kinds 131 = .ok (.istore 7, 2) := by decide +kernel
theorem dX5_kinds_133 : decode cX5_kinds 133 = .ok (.iinc 8 1, 3) := by decide +kernel
theorem dX5_kinds_136 : decode cX5_kinds 136 = .ok (.goto (-76), 3) := by decide +kernel
theorem dX5_kinds_139 : decode cX5_kinds 139 = .ok (.aload_n 0, 1) := by decide +kernel
theorem dX5_kinds_140 : decode cX5_kinds 140 = .ok (.getfield 7, 3) := by decide +kernel
theorem dX5_kinds_143 : decode cX5_kinds 143 = .ok (.iload_n 2, 1) := by decide +kernel
theorem dX5_kinds_144 : decode cX5_kinds 144 = .ok (.iload 5, 2) := by decide +kernel
theorem dX5_kinds_146 : decode cX5_kinds 146 = .ok (.iastore, 1) := by decide +kernel
theorem dX5_kinds_147 : decode cX5_kinds 147 = .ok (.aload_n 0, 1) := by decide +kernel
theorem dX5_kinds_148 : decode cX5_kinds 148 = .ok (.getfield 13, 3) := by decide +kernel
theorem dX5_kinds_151 : decode cX5_kinds 151 = .ok (.iload_n 2, 1) := by decide +kernel
theorem dX5_kinds_152 : decode cX5_kinds 152 = .ok (.iload 6, 2) := by decide +kernel
theorem dX5_kinds_154 : decode cX5_kinds 154 = .ok (.iastore, 1) := by decide +kernel
theorem dX5_kinds_155 : decode cX5_kinds 155 = .ok (.iload 7, 2) := by decide +kernel
theorem dX5_kinds_157 : decode cX5_kinds 157 = .ok (.ireturn, 1) := by decide +kernel
theorem dX5_prides_0 : decode cX5_prides 0 = .ok (.aload_n 0, 1) := by decide +kernel
theorem dX5_prides_1 : decode cX5_prides 1 = .ok (.iload_n 1, 1) := by decide +kernel
theorem dX5_prides_2 : decode cX5_prides 2 = .ok (.invokevirtual 239, 3) := by decide +kernel
theorem dX5_prides_5 : decode cX5_prides 5 = .ok (.istore 4, 2) := by decide +kernel
theorem dX5_prides_7 : decode cX5_prides 7 = .ok (.iload 4, 2) := by decide +kernel
theorem dX5_prides_9 : decode cX5_prides 9 = .ok (.ifCond .eq 6, 3) := by decide +kernel
theorem dX5_prides_12 : decode cX5_prides 12 = .ok (.iload 4, 2) := by decide +kernel
theorem dX5_prides_14 : decode cX5_prides 14 = .ok (.ireturn, 1) := by decide +kernel
theorem dX5_prides_15 : decode cX5_prides 15 = .ok (.aload_n 0, 1) := by decide +kernel
theorem dX5_prides_16 : decode cX5_prides 16 = .ok (.iload_n 2, 1) := by decide +kernel
theorem dX5_prides_17 : decode cX5_prides 17 = .ok (.invokevirtual 179, 3) := by decide +kernel
theorem dX5_prides_20 : decode cX5_prides 20 = .ok (.ifCond .ne 6, 3) := by decide +kernel
theorem dX5_prides_23 : decode cX5_prides 23 = .ok (.bipush (-5), 2) := by decide +kernel
theorem dX5_prides_25 : decode cX5_prides 25 = .ok (.ireturn, 1) := by decide +kernel
theorem dX5_prides_26 : decode cX5_prides 26 = .ok (.iload_n 3, 1) := by decide +kernel
theorem dX5_prides_27 : decode cX5_prides 27 = .ok (.iconst 0, 1) := by decide +kernel
theorem dX5_prides_28 : decode cX5_prides 28 = .ok (.iconst 1, 1) := by decide +kernel
theorem dX5_prides_29 : decode cX5_prides 29 = .ok (.invokestatic 84, 3) := by decide +kernel
theorem dX5_prides_32 : decode cX5_prides 32 = .ok (.ifCond .ne 6, 3) := by decide +kernel
theorem dX5_prides_35 : decode cX5_prides 35 = .ok (.bipush (-7), 2) := by decide +kernel
theorem dX5_prides_37 : decode cX5_prides 37 = .ok (.ireturn, 1) := by decide +kernel
theorem dX5_prides_38 : decode cX5_prides 38 = .ok (.aload_n 0, 1) := by decide +kernel
theorem dX5_prides_39 : decode cX5_prides 39 = .ok (.getfield 16, 3) := by decide +kernel
theorem dX5_prides_42 : decode cX5_prides 42 = .ok (.iconst 3, 1) := by decide +kernel
theorem dX5_prides_43 : decode cX5_prides 43 = .ok (.iload_n 2, 1) := by decide +kernel
theorem dX5_prides_44 : decode cX5_prides 44 = .ok (.imul, 1) := by decide +kernel
theorem dX5_prides_45 : decode cX5_prides 45 = .ok (.iaload, 1) := by decide +kernel
theorem dX5_prides_46 : decode cX5_prides 46 = .ok (.istore 5, 2) := by decide +kernel
theorem dX5_prides_48 : decode cX5_prides 48 = .ok (.iconst 0, 1) := by decide +kernel
theorem dX5_prides_49 : decode cX5_prides 49 = .ok (.istore 6, 2) := by decide +kernel
theorem dX5_prides_51 : decode cX5_prides 51 = .ok (.iconst (-1), 1) := by decide +kernel
theorem dX5_prides_52 : decode cX5_prides 52 = .ok (.istore 7, 2) := by decide +kernel
theorem dX5_prides_54 : decode cX5_prides 54 = .ok (.iconst 0, 1) := by decide +kernel
theorem dX5_prides_55 : decode cX5_prides 55 = .ok (.istore 8, 2) := by decide +kernel
theorem dX5_prides_57 : decode cX5_prides 57 = .ok (.iload 8, 2) := by decide +kernel
theorem dX5_prides_59 : decode cX5_prides 59 = .ok (.bipush 99, 2) := by decide +kernel
theorem dX5_prides_61 : decode cX5_prides 61 = .ok (.if_icmp .gt 70, 3) := by decide +kernel
theorem dX5_prides_64 : decode cX5_prides 64 = .ok (.aload_n 0, 1) := by decide +kernel
theorem dX5_prides_65 : decode cX5_prides 65 = .ok (.getfield 16, 3) := by decide +kernel
theorem dX5_prides_68 : decode cX5_prides 68 = .ok (.iconst 3, 1) := by decide +kernel
theorem dX5_prides_69 : decode cX5_prides 69 = .ok (.iload_n 2, 1) := by decide +kernel
theorem dX5_prides_70 : decode cX5_prides 70 = .ok (.imul, 1) := by decide +kernel
theorem dX5_prides_71 : decode cX5_prides 71 = .ok (.iload 8, 2) := by decide +kernel
theorem dX5_prides_73 : decode cX5_prides 73 = .ok (.iastore, 1) := by decide +kernel
theorem dX5_prides_74 : decode cX5_prides 74 = .ok (.aload_n 0, 1) := by decide +kernel
theorem dX5_prides_75 : decode cX5_prides 75 = .ok (.iload_n 1, 1) := by decide +kernel
theorem dX5_prides_76 : decode cX5_prides 76 = .ok (.invokevirtual 242, 3) := by decide +kernel
theorem dX5_prides_79 : decode cX5_prides 79 = .ok (.iconst (-1), 1) := by decide +kernel
theorem dX5_prides_80 : decode cX5_prides 80 = .ok (.if_icmp .ne 7, 3) := by decide +kernel
theorem dX5_prides_83 : decode cX5_prides 83 = .ok (.iconst 1, 1) := by decide +kernel
theorem dX5_prides_84 : decode cX5_prides 84 = .ok (.goto 4, 3) := by decide +kernel
theorem dX5_prides_87 : decode cX5_prides 87 = .ok (.iconst 0, 1) := by decide +kernel
theorem dX5_prides_88 : decode cX5_prides 88 = .ok (.istore 9, 2) := by decide +kernel
theorem dX5_prides_90 : decode cX5_prides 90 = .ok (.iload 6, 2) := by decide +kernel
theorem dX5_prides_92 : decode cX5_prides 92 = .ok (.iload 9, 2) := by decide +kernel
theorem dX5_prides_94 : decode cX5_prides 94 = .ok (.ifCond .eq 7, 3) := by decide +kernel
theorem dX5_prides_97 : decode cX5_prides 97 = .ok (.iconst 1, 1) := by decide +kernel
theorem dX5_prides_98 : decode cX5_prides 98 = .ok (.goto 4, 3) := by decide +kernel
theorem dX5_prides_101 : decode cX5_prides 101 = .ok (.iconst 0, 1) := by decide +kernel
theorem dX5_prides_102 : decode cX5_prides 102 = .ok (.iadd, 1) := by decide +kernel
theorem dX5_prides_103 : decode cX5_prides 103 = .ok (.istore 6, 2) := by decide +kernel
theorem dX5_prides_105 : decode cX5_prides 105 = .ok (.iload 9, 2) := by decide +kernel
theorem dX5_prides_107 : decode cX5_prides 107 = .ok (.ifCond .eq 14, 3) := by decide +kernel
theorem dX5_prides_110 : decode cX5_prides 110 = .ok (.iload 7, 2) := by decide +kernel
theorem dX5_prides_112 : decode cX5_prides 112 = .ok (.iconst (-1), 1) := by decide +kernel
theorem dX5_prides_113 : decode cX5_prides 113 = .ok (.if_icmp .ne 8, 3) := by decide +kernel
theorem dX5_prides_116 : decode cX5_prides 116 = .ok (.iload 8, 2) := by decide +kernel
theorem dX5_prides_118 : decode cX5_prides 118 = .ok (.goto 5, 3) := by decide +kernel
theorem dX5_prides_121 : decode cX5_prides 121 = .ok (.iload 7, 2) := by decide +kernel
theorem dX5_prides_123 : decode cX5_prides 123 = .ok (.istore 7, 2) := by decide +kernel
theorem dX5_prides_125 : decode cX5_prides 125 = .ok (.iinc 8 1, 3) := by decide +kernel
theorem dX5_prides_128 : decode cX5_prides 128 = .ok (.goto (-71), 3) := by decide +kernel
theorem dX5_prides_131 : decode cX5_prides 131 = .ok (.aload_n 0, 1) := by decide +kernel
theorem dX5_prides_132 : decode cX5_prides 132 = .ok (.getfield 16, 3) := by decide +kernel
theorem dX5_prides_135 : decode cX5_prides 135 = .ok (.iconst 3, 1) := by decide +kernel
theorem dX5_prides_136 : decode cX5_prides 136 = .ok (.iload_n 2, 1) := by decide +kernel
theorem dX5_prides_137 : decode cX5_prides 137 = .ok (.imul, 1) := by decide +kernel
theorem dX5_prides_138 : decode cX5_prides 138 = .ok (.iload 5, 2) := by decide +kernel
theorem dX5_prides_140 : decode cX5_prides 140 = .ok (.iastore, 1) := by decide +kernel
theorem dX5_prides_141 : decode cX5_prides 141 = .ok (.iload_n 3, 1) := by decide +kernel
theorem dX5_prides_142 : decode cX5_prides 142 = .ok (.ifCond .ne 8, 3) := by decide +kernel
theorem dX5_prides_145 : decode cX5_prides 145 = .ok (.iload 6, 2) := by decide +kernel
theorem dX5_prides_147 : decode cX5_prides 147 = .ok (.goto 5, 3) := by decide +kernel
theorem dX5_prides_150 : decode cX5_prides 150 = .ok (.iload 7, 2) := by decide +kernel
theorem dX5_prides_152 : decode cX5_prides 152 = .ok (.ireturn, 1) := by decide +kernel
theorem dX5_hats_0 : decode cX5_hats 0 = .ok (.aload_n 0, 1) := by decide +kernel
theorem dX5_hats_1 : decode cX5_hats 1 = .ok (.iload_n 1, 1) := by decide +kernel
theorem dX5_hats_2 : decode cX5_hats 2 = .ok (.invokevirtual 239, 3) := by decide +kernel
theorem dX5_hats_5 : decode cX5_hats 5 = .ok (.istore 4, 2) := by decide +kernel
theorem dX5_hats_7 : decode cX5_hats 7 = .ok (.iload 4, 2) := by decide +kernel
theorem dX5_hats_9 : decode cX5_hats 9 = .ok (.ifCond .eq 6, 3) := by decide +kernel
theorem dX5_hats_12 : decode cX5_hats 12 = .ok (.iload 4, 2) := by decide +kernel
theorem dX5_hats_14 : decode cX5_hats 14 = .ok (.ireturn, 1) := by decide +kernel
theorem dX5_hats_15 : decode cX5_hats 15 = .ok (.iload_n 2, 1) := by decide +kernel
theorem dX5_hats_16 : decode cX5_hats 16 = .ok (.invokestatic 103, 3) := by decide +kernel
theorem dX5_hats_19 : decode cX5_hats 19 = .ok (.ifCond .ne 6, 3) := by decide +kernel
theorem dX5_hats_22 : decode cX5_hats 22 = .ok (.bipush (-5), 2) := by decide +kernel
theorem dX5_hats_24 : decode cX5_hats 24 = .ok (.ireturn, 1) := by decide +kernel
theorem dX5_hats_25 : decode cX5_hats 25 = .ok (.iload_n 3, 1) := by decide +kernel
theorem dX5_hats_26 : decode cX5_hats 26 = .ok (.iconst 0, 1) := by decide +kernel
theorem dX5_hats_27 : decode cX5_hats 27 = .ok (.iconst 1, 1) := by decide +kernel
theorem dX5_hats_28 : decode cX5_hats 28 = .ok (.invokestatic 84, 3) := by decide +kernel
theorem dX5_hats_31 : decode cX5_hats 31 = .ok (.ifCond .ne 6, 3) := by decide +kernel
theorem dX5_hats_34 : decode cX5_hats 34 = .ok (.bipush (-7), 2) := by decide +kernel
theorem dX5_hats_36 : decode cX5_hats 36 = .ok (.ireturn, 1) := by decide +kernel
theorem dX5_hats_37 : decode cX5_hats 37 = .ok (.aload_n 0, 1) := by decide +kernel
theorem dX5_hats_38 : decode cX5_hats 38 = .ok (.getfield 19, 3) := by decide +kernel
theorem dX5_hats_41 : decode cX5_hats 41 = .ok (.iconst 2, 1) := by decide +kernel
theorem dX5_hats_42 : decode cX5_hats 42 = .ok (.iload_n 2, 1) := by decide +kernel
theorem dX5_hats_43 : decode cX5_hats 43 = .ok (.imul, 1) := by decide +kernel
theorem dX5_hats_44 : decode cX5_hats 44 = .ok (.iconst 1, 1) := by decide +kernel
theorem dX5_hats_45 : decode cX5_hats 45 = .ok (.iadd, 1) := by decide +kernel
theorem dX5_hats_46 : decode cX5_hats 46 = .ok (.iaload, 1) := by decide +kernel
theorem dX5_hats_47 : decode cX5_hats 47 = .ok (.istore 5, 2) := by decide +kernel
theorem dX5_hats_49 : decode cX5_hats 49 = .ok (.iconst 0, 1) := by decide +kernel
theorem dX5_hats_50 : decode cX5_hats 50 = .ok (.istore 6, 2) := by decide +kernel
theorem dX5_hats_52 : decode cX5_hats 52 = .ok (.iconst (-1), 1) := by decide +kernel
theorem dX5_hats_53 : decode cX5_hats 53 = .ok (.istore 7, 2) := by decide +kernel
theorem dX5_hats_55 : decode cX5_hats 55 = .ok (.iconst 0, 1) := by decide +kernel
theorem dX5_hats_56 : decode cX5_hats 56 = .ok (.istore 8, 2) := by decide +kernel
theorem dX5_hats_58 : decode cX5_hats 58 = .ok (.iload 8, 2) := by decide +kernel
theorem dX5_hats_60 : decode cX5_hats 60 = .ok (.bipush 20, 2) := by decide +kernel
theorem dX5_hats_62 : decode cX5_hats 62 = .ok (.if_icmp .gt 72, 3) := by decide +kernel
theorem dX5_hats_65 : decode cX5_hats 65 = .ok (.aload_n 0, 1) := by decide +kernel
theorem dX5_hats_66 : decode cX5_hats 66 = .ok (.getfield 19, 3) := by decide +kernel
theorem dX5_hats_69 : decode cX5_hats 69 = .ok (.iconst 2, 1) := by decide +kernel
theorem dX5_hats_70 : decode cX5_hats 70 = .ok (.iload_n 2, 1) := by decide +kernel
theorem dX5_hats_71 : decode cX5_hats 71 = .ok (.imul, 1) := by decide +kernel
theorem dX5_hats_72 : decode cX5_hats 72 = .ok (.iconst 1, 1) := by decide +kernel
theorem dX5_hats_73 : decode cX5_hats 73 = .ok (.iadd, 1) := by decide +kernel
theorem dX5_hats_74 : decode cX5_hats 74 = .ok (.iload 8, 2) := by decide +kernel
theorem dX5_hats_76 : decode cX5_hats 76 = .ok (.iastore, 1) := by decide +kernel
theorem dX5_hats_77 : decode cX5_hats 77 = .ok (.aload_n 0, 1) := by decide +kernel
theorem dX5_hats_78 : decode cX5_hats 78 = .ok (.iload_n 1, 1) := by decide +kernel
theorem dX5_hats_79 : decode cX5_hats 79 = .ok (.invokevirtual 242, 3) := by decide +kernel
theorem dX5_hats_82 : decode cX5_hats 82 = .ok (.iconst (-1), 1) := by decide +kernel
theorem dX5_hats_83 : decode cX5_hats 83 = .ok (.if_icmp .ne 7, 3) := by decide +kernel
theorem dX5_hats_86 : decode cX5_hats 86 = .ok (.iconst 1, 1) := by decide +kernel
theorem dX5_hats_87 : decode cX5_hats 87 = .ok (.goto 4, 3) := by decide +kernel
theorem dX5_hats_90 : decode cX5_hats 90 = .ok (.iconst 0, 1) := by decide +kernel
theorem dX5_hats_91 : decode cX5_hats 91 = .ok (.istore 9, 2) := by decide +kernel
theorem dX5_hats_93 : decode cX5_hats 93 = .ok (.iload 6, 2) := by decide +kernel
theorem dX5_hats_95 : decode cX5_hats 95 = .ok (.iload 9, 2) := by decide +kernel
theorem dX5_hats_97 : decode cX5_hats 97 = .ok (.ifCond .eq 7, 3) := by decide +kernel
theorem dX5_hats_100 : decode cX5_hats 100 = .ok (.iconst 1, 1) := by decide +kernel
theorem dX5_hats_101 : decode cX5_hats 101 = .ok (.goto 4, 3) := by decide +kernel
theorem dX5_hats_104 : decode cX5_hats 104 = .ok (.iconst 0, 1) := by decide +kernel
theorem dX5_hats_105 : decode cX5_hats 105 = .ok (.iadd, 1) := by decide +kernel
theorem dX5_hats_106 : decode cX5_hats 106 = .ok (.istore 6, 2) := by decide +kernel
theorem dX5_hats_108 : decode cX5_hats 108 = .ok (.iload 9, 2) := by decide +kernel
theorem dX5_hats_110 : decode cX5_hats 110 = .ok (.ifCond .eq 14, 3) := by decide +kernel
theorem dX5_hats_113 : decode cX5_hats 113 = .ok (.iload 7, 2) := by decide +kernel
theorem dX5_hats_115 : decode cX5_hats 115 = .ok (.iconst (-1), 1) := by decide +kernel
theorem dX5_hats_116 : decode cX5_hats 116 = .ok (.if_icmp .ne 8, 3) := by decide +kernel
theorem dX5_hats_119 : decode cX5_hats 119 = .ok (.iload 8, 2) := by decide +kernel
theorem dX5_hats_121 : decode cX5_hats 121 = .ok (.goto 5, 3) := by decide +kernel
theorem dX5_hats_124 : decode cX5_hats 124 = .ok (.iload 7, 2) := by decide +kernel
theorem dX5_hats_126 : decode cX5_hats 126 = .ok (.istore 7, 2) := by decide +kernel
theorem dX5_hats_128 : decode cX5_hats 128 = .ok (.iinc 8 1, 3) := by decide +kernel
theorem dX5_hats_131 : decode cX5_hats 131 = .ok (.goto (-73), 3) := by decide +kernel
theorem dX5_hats_134 : decode cX5_hats 134 = .ok (.aload_n 0, 1) := by decide +kernel
theorem dX5_hats_135 : decode cX5_hats 135 = .ok (.getfield 19, 3) := by decide +kernel
theorem dX5_hats_138 : decode cX5_hats 138 = .ok (.iconst 2, 1) := by decide +kernel
theorem dX5_hats_139 : decode cX5_hats 139 = .ok (.iload_n 2, 1) := by decide +kernel
theorem dX5_hats_140 : decode cX5_hats 140 = .ok (.imul, 1) := by decide +kernel
theorem dX5_hats_141 : decode cX5_hats 141 = .ok (.iconst 1, 1) := by decide +kernel
theorem dX5_hats_142 : decode cX5_hats 142 = .ok (.iadd, 1) := by decide +kernel
theorem dX5_hats_143 : decode cX5_hats 143 = .ok (.iload 5, 2) := by decide +kernel
theorem dX5_hats_145 : decode cX5_hats 145 = .ok (.iastore, 1) := by decide +kernel
theorem dX5_hats_146 : decode cX5_hats 146 = .ok (.iload_n 3, 1) := by decide +kernel
theorem dX5_hats_147 : decode cX5_hats 147 = .ok (.ifCond .ne 8, 3) := by decide +kernel
theorem dX5_hats_150 : decode cX5_hats 150 = .ok (.iload 6, 2) := by decide +kernel
theorem dX5_hats_152 : decode cX5_hats 152 = .ok (.goto 5, 3) := by decide +kernel
theorem dX5_hats_155 : decode cX5_hats 155 = .ok (.iload 7, 2) := by decide +kernel
theorem dX5_hats_157 : decode cX5_hats 157 = .ok (.ireturn, 1) := by decide +kernel
theorem dX5_starts_0 : decode cX5_starts 0 = .ok (.aload_n 0, 1) := by decide +kernel
theorem dX5_starts_1 : decode cX5_starts 1 = .ok (.iload_n 1, 1) := by decide +kernel
theorem dX5_starts_2 : decode cX5_starts 2 = .ok (.invokevirtual 239, 3) := by decide +kernel
theorem dX5_starts_5 : decode cX5_starts 5 = .ok (.istore_n 2, 1) := by decide +kernel
theorem dX5_starts_6 : decode cX5_starts 6 = .ok (.iload_n 2, 1) := by decide +kernel
theorem dX5_starts_7 : decode cX5_starts 7 = .ok (.ifCond .eq 5, 3) := by decide +kernel
theorem dX5_starts_10 : decode cX5_starts 10 = .ok (.iload_n 2, 1) := by decide +kernel
theorem dX5_starts_11 : decode cX5_starts 11 = .ok (.ireturn, 1) := by decide +kernel
theorem dX5_starts_12 : decode cX5_starts 12 = .ok (.aload_n 0, 1) := by decide +kernel
theorem dX5_starts_13 : decode cX5_starts 13 = .ok (.getfield 100, 3) := by decide +kernel
theorem dX5_starts_16 : decode cX5_starts 16 = .ok (.istore_n 3, 1) := by decide +kernel
theorem dX5_starts_17 : decode cX5_starts 17 = .ok (.iconst 0, 1) := by decide +kernel
theorem dX5_starts_18 : decode cX5_starts 18 = .ok (.istore 4, 2) := by decide +kernel
theorem dX5_starts_20 : decode cX5_starts 20 = .ok (.iconst 0, 1) := by decide +kernel
theorem dX5_starts_21 : decode cX5_starts 21 = .ok (.istore 5, 2) := by decide +kernel
theorem dX5_starts_23 : decode cX5_starts 23 = .ok (.iload 5, 2) := by decide +kernel
theorem dX5_starts_25 : decode cX5_starts 25 = .ok (.aload_n 0, 1) := by decide +kernel
theorem dX5_starts_26 : decode cX5_starts 26 = .ok (.getfield 81, 3) := by decide +kernel
theorem dX5_starts_29 : decode cX5_starts 29 = .ok (.if_icmp .ge 37, 3) := by decide +kernel
theorem dX5_starts_32 : decode cX5_starts 32 = .ok (.aload_n 0, 1) := by decide +kernel
theorem dX5_starts_33 : decode cX5_starts 33 = .ok (.iload 5, 2) := by decide +kernel
theorem dX5_starts_35 : decode cX5_starts 35 = .ok (.putfield 100, 3) := by decide +kernel
theorem dX5_starts_38 : decode cX5_starts 38 = .ok (.iload 4, 2) := by decide +kernel
theorem dX5_starts_40 : decode cX5_starts 40 = .ok (.aload_n 0, 1) := by decide +kernel
theorem dX5_starts_41 : decode cX5_starts 41 = .ok (.iload_n 1, 1) := by decide +kernel
theorem dX5_starts_42 : decode cX5_starts 42 = .ok (.invokevirtual 242, 3) := by decide +kernel
theorem dX5_starts_45 : decode cX5_starts 45 = .ok (.iconst (-1), 1) := by decide +kernel
theorem dX5_starts_46 : decode cX5_starts 46 = .ok (.if_icmp .ne 10, 3) := by decide +kernel
theorem dX5_starts_49 : decode cX5_starts 49 = .ok (.iconst 1, 1) := by decide +kernel
theorem dX5_starts_50 : decode cX5_starts 50 = .ok (.iload 5, 2) := by decide +kernel
theorem dX5_starts_52 : decode cX5_starts 52 = .ok (.ishl, 1) := by decide +kernel
theorem dX5_starts_53 : decode cX5_starts 53 = .ok (.goto 4, 3) := by decide +kernel
theorem dX5_starts_56 : decode cX5_starts 56 = .ok (.iconst 0, 1) := by decide +kernel
theorem dX5_starts_57 : decode cX5_starts 57 = .ok (.ior, 1) := by decide +kernel
theorem dX5_starts_58 : decode cX5_starts 58 = .ok (.istore 4, 2) := by decide +kernel
theorem dX5_starts_60 : decode cX5_starts 60 = .ok (.iinc 5 1, 3) := by decide +kernel
theorem dX5_starts_63 : decode cX5_starts 63 = .ok (.goto (-40), 3) := by decide +kernel
theorem dX5_starts_66 : decode cX5_starts 66 = .ok (.aload_n 0, 1) := by decide +kernel
theorem dX5_starts_67 : decode cX5_starts 67 = .ok (.iload_n 3, 1) := by decide +kernel
theorem dX5_starts_68 : decode cX5_starts 68 = .ok (.putfield 100, 3) := by decide +kernel
theorem dX5_starts_71 : decode cX5_starts 71 = .ok (.iload 4, 2) := by decide +kernel
theorem dX5_starts_73 : decode cX5_starts 73 = .ok (.ireturn, 1) := by decide +kernel
theorem dX5_laws_0 : decode cX5_laws 0 = .ok (.aload_n 0, 1) := by decide +kernel
theorem dX5_laws_1 : decode cX5_laws 1 = .ok (.iload_n 1, 1) := by decide +kernel
theorem dX5_laws_2 : decode cX5_laws 2 = .ok (.invokevirtual 239, 3) := by decide +kernel
theorem dX5_laws_5 : decode cX5_laws 5 = .ok (.istore_n 2, 1) := by decide +kernel
theorem dX5_laws_6 : decode cX5_laws 6 = .ok (.iload_n 2, 1) := by decide +kernel
theorem dX5_laws_7 : decode cX5_laws 7 = .ok (.ifCond .eq 5, 3) := by decide +kernel
theorem dX5_laws_10 : decode cX5_laws 10 = .ok (.iload_n 2, 1) := by decide +kernel
theorem dX5_laws_11 : decode cX5_laws 11 = .ok (.ireturn, 1) := by decide +kernel
theorem dX5_laws_12 : decode cX5_laws 12 = .ok (.aload_n 0, 1) := by decide +kernel
theorem dX5_laws_13 : decode cX5_laws 13 = .ok (.getfield 97, 3) := by decide +kernel
theorem dX5_laws_16 : decode cX5_laws 16 = .ok (.istore_n 3, 1) := by decide +kernel
theorem dX5_laws_17 : decode cX5_laws 17 = .ok (.iconst 0, 1) := by decide +kernel
theorem dX5_laws_18 : decode cX5_laws 18 = .ok (.istore 4, 2) := by decide +kernel
theorem dX5_laws_20 : decode cX5_laws 20 = .ok (.iconst 0, 1) := by decide +kernel
theorem dX5_laws_21 : decode cX5_laws 21 = .ok (.istore 5, 2) := by decide +kernel
theorem dX5_laws_23 : decode cX5_laws 23 = .ok (.iload 5, 2) := by decide +kernel
theorem dX5_laws_25 : decode cX5_laws 25 = .ok (.aload_n 0, 1) := by decide +kernel
theorem dX5_laws_26 : decode cX5_laws 26 = .ok (.getfield 94, 3) := by decide +kernel
theorem dX5_laws_29 : decode cX5_laws 29 = .ok (.if_icmp .ge 37, 3) := by decide +kernel
theorem dX5_laws_32 : decode cX5_laws 32 = .ok (.aload_n 0, 1) := by decide +kernel
theorem dX5_laws_33 : decode cX5_laws 33 = .ok (.iload 5, 2) := by decide +kernel
theorem dX5_laws_35 : decode cX5_laws 35 = .ok (.putfield 97, 3) := by decide +kernel
theorem dX5_laws_38 : decode cX5_laws 38 = .ok (.iload 4, 2) := by decide +kernel
theorem dX5_laws_40 : decode cX5_laws 40 = .ok (.aload_n 0, 1) := by decide +kernel
theorem dX5_laws_41 : decode cX5_laws 41 = .ok (.iload_n 1, 1) := by decide +kernel
theorem dX5_laws_42 : decode cX5_laws 42 = .ok (.invokevirtual 242, 3) := by decide +kernel
theorem dX5_laws_45 : decode cX5_laws 45 = .ok (.iconst (-1), 1) := by decide +kernel
theorem dX5_laws_46 : decode cX5_laws 46 = .ok (.if_icmp .ne 10, 3) := by decide +kernel
theorem dX5_laws_49 : decode cX5_laws 49 = .ok (.iconst 1, 1) := by decide +kernel
theorem dX5_laws_50 : decode cX5_laws 50 = .ok (.iload 5, 2) := by decide +kernel
theorem dX5_laws_52 : decode cX5_laws 52 = .ok (.ishl, 1) := by decide +kernel
theorem dX5_laws_53 : decode cX5_laws 53 = .ok (.goto 4, 3) := by decide +kernel
theorem dX5_laws_56 : decode cX5_laws 56 = .ok (.iconst 0, 1) := by decide +kernel
theorem dX5_laws_57 : decode cX5_laws 57 = .ok (.ior, 1) := by decide +kernel
theorem dX5_laws_58 : decode cX5_laws 58 = .ok (.istore 4, 2) := by decide +kernel
theorem dX5_laws_60 : decode cX5_laws 60 = .ok (.iinc 5 1, 3) := by decide +kernel
theorem dX5_laws_63 : decode cX5_laws 63 = .ok (.goto (-40), 3) := by decide +kernel
theorem dX5_laws_66 : decode cX5_laws 66 = .ok (.aload_n 0, 1) := by decide +kernel
theorem dX5_laws_67 : decode cX5_laws 67 = .ok (.iload_n 3, 1) := by decide +kernel
theorem dX5_laws_68 : decode cX5_laws 68 = .ok (.putfield 97, 3) := by decide +kernel
theorem dX5_laws_71 : decode cX5_laws 71 = .ok (.iload 4, 2) := by decide +kernel
theorem dX5_laws_73 : decode cX5_laws 73 = .ok (.ireturn, 1) := by decide +kernel
theorem dX5_film_0 : decode cX5_film 0 = .ok (.iload_n 1, 1) := by decide +kernel
theorem dX5_film_1 : decode cX5_film 1 = .ok (.iconst 0, 1) := by decide +kernel
theorem dX5_film_2 : decode cX5_film 2 = .ok (.iconst 3, 1) := by decide +kernel
theorem dX5_film_3 : decode cX5_film 3 = .ok (.invokestatic 84, 3) := by decide +kernel
theorem dX5_film_6 : decode cX5_film 6 = .ok (.ifCond .ne 6, 3) := by decide +kernel
theorem dX5_film_9 : decode cX5_film 9 = .ok (.bipush (-2), 2) := by decide +kernel
theorem dX5_film_11 : decode cX5_film 11 = .ok (.ireturn, 1) := by decide +kernel
theorem dX5_film_12 : decode cX5_film 12 = .ok (.iload_n 2, 1) := by decide +kernel
theorem dX5_film_13 : decode cX5_film 13 = .ok (.iconst 0, 1) := by decide +kernel
theorem dX5_film_14 : decode cX5_film 14 = .ok (.bipush 30, 2) := by decide +kernel
theorem dX5_film_16 : decode cX5_film 16 = .ok (.invokestatic 84, 3) := by decide +kernel
theorem dX5_film_19 : decode cX5_film 19 = .ok (.ifCond .ne 6, 3) := by decide +kernel
theorem dX5_film_22 : decode cX5_film 22 = .ok (.bipush (-7), 2) := by decide +kernel
theorem dX5_film_24 : decode cX5_film 24 = .ok (.ireturn, 1) := by decide +kernel
theorem dX5_film_25 : decode cX5_film 25 = .ok (.aload_n 0, 1) := by decide +kernel
theorem dX5_film_26 : decode cX5_film 26 = .ok (.getfield 37, 3) := by decide +kernel
theorem dX5_film_29 : decode cX5_film 29 = .ok (.iload_n 1, 1) := by decide +kernel
theorem dX5_film_30 : decode cX5_film 30 = .ok (.iconst 0, 1) := by decide +kernel
theorem dX5_film_31 : decode cX5_film 31 = .ok (.iastore, 1) := by decide +kernel
theorem dX5_film_32 : decode cX5_film 32 = .ok (.aload_n 0, 1) := by decide +kernel
theorem dX5_film_33 : decode cX5_film 33 = .ok (.getfield 40, 3) := by decide +kernel
theorem dX5_film_36 : decode cX5_film 36 = .ok (.iload_n 1, 1) := by decide +kernel
theorem dX5_film_37 : decode cX5_film 37 = .ok (.iload_n 2, 1) := by decide +kernel
theorem dX5_film_38 : decode cX5_film 38 = .ok (.iastore, 1) := by decide +kernel
theorem dX5_film_39 : decode cX5_film 39 = .ok (.aload_n 0, 1) := by decide +kernel
theorem dX5_film_40 : decode cX5_film 40 = .ok (.invokevirtual 206, 3) := by decide +kernel
theorem dX5_film_43 : decode cX5_film 43 = .ok (.iconst 0, 1) := by decide +kernel
theorem dX5_film_44 : decode cX5_film 44 = .ok (.istore_n 3, 1) := by decide +kernel
theorem dX5_film_45 : decode cX5_film 45 = .ok (.iload_n 3, 1) := by decide +kernel
theorem dX5_film_46 : decode cX5_film 46 = .ok (.bipush 40, 2) := by decide +kernel
theorem dX5_film_48 : decode cX5_film 48 = .ok (.if_icmp .ge 33, 3) := by decide +kernel
theorem dX5_film_51 : decode cX5_film 51 = .ok (.aload_n 0, 1) := by decide +kernel
theorem dX5_film_52 : decode cX5_film 52 = .ok (.getfield 43, 3) := by decide +kernel
theorem dX5_film_55 : decode cX5_film 55 = .ok (.bipush 40, 2) := by decide +kernel
theorem dX5_film_57 : decode cX5_film 57 = .ok (.iload_n 1, 1) := by decide +kernel
theorem dX5_film_58 : decode cX5_film 58 = .ok (.imul, 1) := by decide +kernel
theorem dX5_film_59 : decode cX5_film 59 = .ok (.iload_n 3, 1) := by decide +kernel
theorem dX5_film_60 : decode cX5_film 60 = .ok (.iadd, 1) := by decide +kernel
theorem dX5_film_61 : decode cX5_film 61 = .ok (.iload_n 3, 1) := by decide +kernel
theorem dX5_film_62 : decode cX5_film 62 = .ok (.iload_n 2, 1) := by decide +kernel
theorem dX5_film_63 : decode cX5_film 63 = .ok (.if_icmp .ge 10, 3) := by decide +kernel
theorem dX5_film_66 : decode cX5_film 66 = .ok (.aload_n 0, 1) := by decide +kernel
theorem dX5_film_67 : decode cX5_film 67 = .ok (.invokevirtual 236, 3) := by decide +kernel
theorem dX5_film_70 : decode cX5_film 70 = .ok (.goto 4, 3) := by decide +kernel
theorem dX5_film_73 : decode cX5_film 73 = .ok (.iconst 0, 1) := by decide +kernel
theorem dX5_film_74 : decode cX5_film 74 = .ok (.iastore, 1) := by decide +kernel
theorem dX5_film_75 : decode cX5_film 75 = .ok (.iinc 3 1, 3) := by decide +kernel
theorem dX5_film_78 : decode cX5_film 78 = .ok (.goto (-33), 3) := by decide +kernel
theorem dX5_film_81 : decode cX5_film 81 = .ok (.aload_n 0, 1) := by decide +kernel
theorem dX5_film_82 : decode cX5_film 82 = .ok (.invokevirtual 212, 3) := by decide +kernel
theorem dX5_film_85 : decode cX5_film 85 = .ok (.iload_n 2, 1) := by decide +kernel
theorem dX5_film_86 : decode cX5_film 86 = .ok (.ireturn, 1) := by decide +kernel
theorem dX5_lotHat_0 : decode cX5_lotHat 0 = .ok (.iload_n 1, 1) := by decide +kernel
theorem dX5_lotHat_1 : decode cX5_lotHat 1 = .ok (.i2l, 1) := by decide +kernel
theorem dX5_lotHat_2 : decode cX5_lotHat 2 = .ok (.lconst 1, 1) := by decide +kernel
theorem dX5_lotHat_3 : decode cX5_lotHat 3 = .ok (.ladd, 1) := by decide +kernel
theorem dX5_lotHat_4 : decode cX5_lotHat 4 = .ok (.lstore_n 3, 1) := by decide +kernel
theorem dX5_lotHat_5 : decode cX5_lotHat 5 = .ok (.aload_n 0, 1) := by decide +kernel
theorem dX5_lotHat_6 : decode cX5_lotHat 6 = .ok (.invokevirtual 206, 3) := by decide +kernel
theorem dX5_lotHat_9 : decode cX5_lotHat 9 = .ok (.iconst 0, 1) := by decide +kernel
theorem dX5_lotHat_10 : decode cX5_lotHat 10 = .ok (.istore 5, 2) := by decide +kernel
theorem dX5_lotHat_12 : decode cX5_lotHat 12 = .ok (.iload 5, 2) := by decide +kernel
theorem dX5_lotHat_14 : decode cX5_lotHat 14 = .ok (.iload_n 2, 1) := by decide +kernel
theorem dX5_lotHat_15 : decode cX5_lotHat 15 = .ok (.if_icmp .ge 57, 3) := by decide +kernel
theorem dX5_lotHat_18 : decode cX5_lotHat 18 = .ok (.lload_n 3, 1) := by decide +kernel
theorem dX5_lotHat_19 : decode cX5_lotHat 19 = .ok (.ldc2_w 245, 3) := by decide +kernel
theorem dX5_lotHat_22 : decode cX5_lotHat 22 = .ok (.lmul, 1) := by decide +kernel
theorem dX5_lotHat_23 : decode cX5_lotHat 23 = .ok (.ldc2_w 247, 3) := by decide +kernel
theorem dX5_lotHat_26 : decode cX5_lotHat 26 = .ok (.lrem, 1) := by decide +kernel
theorem dX5_lotHat_27 : decode cX5_lotHat 27 = .ok (.lstore_n 3, 1) := by decide +kernel
theorem dX5_lotHat_28 : decode cX5_lotHat 28 = .ok (.lload_n 3, 1) := by decide +kernel
theorem dX5_lotHat_29 : decode cX5_lotHat 29 = .ok (.ldc2_w 249, 3) := by decide +kernel
theorem dX5_lotHat_32 : decode cX5_lotHat 32 = .ok (.lrem, 1) := by decide +kernel
theorem dX5_lotHat_33 : decode cX5_lotHat 33 = .ok (.l2i, 1) := by decide +kernel
theorem dX5_lotHat_34 : decode cX5_lotHat 34 = .ok (.istore 6, 2) := by decide +kernel
theorem dX5_lotHat_36 : decode cX5_lotHat 36 = .ok (.aload_n 0, 1) := by decide +kernel
theorem dX5_lotHat_37 : decode cX5_lotHat 37 = .ok (.getfield 19, 3) := by decide +kernel
theorem dX5_lotHat_40 : decode cX5_lotHat 40 = .ok (.iconst 2, 1) := by decide +kernel
theorem dX5_lotHat_41 : decode cX5_lotHat 41 = .ok (.iload 6, 2) := by decide +kernel
theorem dX5_lotHat_43 : decode cX5_lotHat 43 = .ok (.imul, 1) := by decide +kernel
theorem dX5_lotHat_44 : decode cX5_lotHat 44 = .ok (.iconst 1, 1) := by decide +kernel
theorem dX5_lotHat_45 : decode cX5_lotHat 45 = .ok (.iadd, 1) := by decide +kernel
theorem dX5_lotHat_46 : decode cX5_lotHat 46 = .ok (.aload_n 0, 1) := by decide +kernel
theorem dX5_lotHat_47 : decode cX5_lotHat 47 = .ok (.getfield 19, 3) := by decide +kernel
theorem dX5_lotHat_50 : decode cX5_lotHat 50 = .ok (.iconst 2, 1) := by decide +kernel
theorem dX5_lotHat_51 : decode cX5_lotHat 51 = .ok (.iload 6, 2) := by decide +kernel
theorem dX5_lotHat_53 : decode cX5_lotHat 53 = .ok (.imul, 1) := by decide +kernel
theorem dX5_lotHat_54 : decode cX5_lotHat 54 = .ok (.iconst 1, 1) := by decide +kernel
theorem dX5_lotHat_55 : decode cX5_lotHat 55 = .ok (.iadd, 1) := by decide +kernel
theorem dX5_lotHat_56 : decode cX5_lotHat 56 = .ok (.iaload, 1) := by decide +kernel
theorem dX5_lotHat_57 : decode cX5_lotHat 57 = .ok (.iconst 1, 1) := by decide +kernel
theorem dX5_lotHat_58 : decode cX5_lotHat 58 = .ok (.iadd, 1) := by decide +kernel
theorem dX5_lotHat_59 : decode cX5_lotHat 59 = .ok (.iconst 0, 1) := by decide +kernel
theorem dX5_lotHat_60 : decode cX5_lotHat 60 = .ok (.bipush 20, 2) := by decide +kernel
theorem dX5_lotHat_62 : decode cX5_lotHat 62 = .ok (.invokestatic 173, 3) := by decide +kernel
theorem dX5_lotHat_65 : decode cX5_lotHat 65 = .ok (.iastore, 1) := by decide +kernel
theorem dX5_lotHat_66 : decode cX5_lotHat 66 = .ok (.iinc 5 1, 3) := by decide +kernel
theorem dX5_lotHat_69 : decode cX5_lotHat 69 = .ok (.goto (-57), 3) := by decide +kernel
theorem dX5_lotHat_72 : decode cX5_lotHat 72 = .ok (.aload_n 0, 1) := by decide +kernel
theorem dX5_lotHat_73 : decode cX5_lotHat 73 = .ok (.aload_n 0, 1) := by decide +kernel
theorem dX5_lotHat_74 : decode cX5_lotHat 74 = .ok (.bipush 120, 2) := by decide +kernel
theorem dX5_lotHat_76 : decode cX5_lotHat 76 = .ok (.invokevirtual 209, 3) := by decide +kernel
theorem dX5_lotHat_79 : decode cX5_lotHat 79 = .ok (.putfield 251, 3) := by decide +kernel
theorem dX5_lotHat_82 : decode cX5_lotHat 82 = .ok (.aload_n 0, 1) := by decide +kernel
theorem dX5_lotHat_83 : decode cX5_lotHat 83 = .ok (.iconst 1, 1) := by decide +kernel
theorem dX5_lotHat_84 : decode cX5_lotHat 84 = .ok (.invokevirtual 215, 3) := by decide +kernel
theorem dX5_lotHat_87 : decode cX5_lotHat 87 = .ok (.istore 5, 2) := by decide +kernel
theorem dX5_lotHat_89 : decode cX5_lotHat 89 = .ok (.iconst 0, 1) := by decide +kernel
theorem dX5_lotHat_90 : decode cX5_lotHat 90 = .ok (.istore 6, 2) := by decide +kernel
theorem dX5_lotHat_92 : decode cX5_lotHat 92 = .ok (.iload 5, 2) := by decide +kernel
theorem dX5_lotHat_94 : decode cX5_lotHat 94 = .ok (.iconst (-1), 1) := by decide +kernel
theorem dX5_lotHat_95 : decode cX5_lotHat 95 = .ok (.if_icmp .eq 16, 3) := by decide +kernel
theorem dX5_lotHat_98 : decode cX5_lotHat 98 = .ok (.aload_n 0, 1) := by decide +kernel
theorem dX5_lotHat_99 : decode cX5_lotHat 99 = .ok (.getfield 16, 3) := by decide +kernel
theorem dX5_lotHat_102 : decode cX5_lotHat 102 = .ok (.iconst 3, 1) := by decide +kernel
theorem dX5_lotHat_103 : decode cX5_lotHat 103 = .ok (.iload 5, 2) := by decide +kernel
theorem dX5_lotHat_105 : decode cX5_lotHat 105 = .ok (.imul, 1) := by decide +kernel
theorem dX5_lotHat_106 : decode cX5_lotHat 106 = .ok (.iconst 1, 1) := by decide +kernel
theorem dX5_lotHat_107 : decode cX5_lotHat 107 = .ok (.iadd, 1) := by decide +kernel
theorem dX5_lotHat_108 : decode cX5_lotHat 108 = .ok (.iaload, 1) := by decide +kernel
theorem dX5_lotHat_109 : decode cX5_lotHat 109 = .ok (.istore 6, 2) := by decide +kernel
theorem dX5_lotHat_111 : decode cX5_lotHat 111 = .ok (.aload_n 0, 1) := by decide +kernel
theorem dX5_lotHat_112 : decode cX5_lotHat 112 = .ok (.invokevirtual 212, 3) := by decide +kernel
theorem dX5_lotHat_115 : decode cX5_lotHat 115 = .ok (.iload 6, 2) := by decide +kernel
theorem dX5_lotHat_117 : decode cX5_lotHat 117 = .ok (.ireturn, 1) := by decide +kernel
theorem dX5_drawn_0 : decode cX5_drawn 0 = .ok (.iload_n 1, 1) := by decide +kernel
theorem dX5_drawn_1 : decode cX5_drawn 1 = .ok (.iconst 0, 1) := by decide +kernel
theorem dX5_drawn_2 : decode cX5_drawn 2 = .ok (.ldc 254, 2) := by decide +kernel
theorem dX5_drawn_4 : decode cX5_drawn 4 = .ok (.invokestatic 84, 3) := by decide +kernel
theorem dX5_drawn_7 : decode cX5_drawn 7 = .ok (.ifCond .eq 22, 3) := by decide +kernel
theorem dX5_drawn_10 : decode cX5_drawn 10 = .ok (.iload_n 2, 1) := by decide +kernel
theorem dX5_drawn_11 : decode cX5_drawn 11 = .ok (.iconst 0, 1) := by decide +kernel
theorem dX5_drawn_12 : decode cX5_drawn 12 = .ok (.bipush 30, 2) := by decide +kernel
theorem dX5_drawn_14 : decode cX5_drawn 14 = .ok (.invokestatic 84, 3) := by decide +kernel
theorem dX5_drawn_17 : decode cX5_drawn 17 = .ok (.ifCond .eq 12, 3) := by decide +kernel
theorem dX5_drawn_20 : decode cX5_drawn 20 = .ok (.iload_n 3, 1) := by decide +kernel
theorem dX5_drawn_21 : decode cX5_drawn 21 = .ok (.iconst 0, 1) := by decide +kernel
theorem dX5_drawn_22 : decode cX5_drawn 22 = .ok (.iconst 1, 1) := by decide +kernel
theorem dX5_drawn_23 : decode cX5_drawn 23 = .ok (.invokestatic 84, 3) := by decide +kernel
theorem dX5_drawn_26 : decode cX5_drawn 26 = .ok (.ifCond .ne 6, 3) := by decide +kernel
theorem dX5_drawn_29 : decode cX5_drawn 29 = .ok (.bipush (-2), 2) := by decide +kernel
theorem dX5_drawn_31 : decode cX5_drawn 31 = .ok (.ireturn, 1) := by decide +kernel
theorem dX5_drawn_32 : decode cX5_drawn 32 = .ok (.aload_n 0, 1) := by decide +kernel
theorem dX5_drawn_33 : decode cX5_drawn 33 = .ok (.iload_n 1, 1) := by decide +kernel
theorem dX5_drawn_34 : decode cX5_drawn 34 = .ok (.iload_n 2, 1) := by decide +kernel
theorem dX5_drawn_35 : decode cX5_drawn 35 = .ok (.invokevirtual 255, 3) := by decide +kernel
theorem dX5_drawn_38 : decode cX5_drawn 38 = .ok (.istore 4, 2) := by decide +kernel
theorem dX5_drawn_40 : decode cX5_drawn 40 = .ok (.iload_n 3, 1) := by decide +kernel
theorem dX5_drawn_41 : decode cX5_drawn 41 = .ok (.ifCond .ne 8, 3) := by decide +kernel
theorem dX5_drawn_44 : decode cX5_drawn 44 = .ok (.iload 4, 2) := by decide +kernel
theorem dX5_drawn_46 : decode cX5_drawn 46 = .ok (.goto 7, 3) := by decide +kernel
theorem dX5_drawn_49 : decode cX5_drawn 49 = .ok (.aload_n 0, 1) := by decide +kernel
theorem dX5_drawn_50 : decode cX5_drawn 50 = .ok (.getfield 251, 3) := by decide +kernel
theorem dX5_drawn_53 : decode cX5_drawn 53 = .ok (.ireturn, 1) := by decide +kernel
theorem dX5_odds_0 : decode cX5_odds 0 = .ok (.iload_n 1, 1) := by decide +kernel
theorem dX5_odds_1 : decode cX5_odds 1 = .ok (.iconst 0, 1) := by decide +kernel
theorem dX5_odds_2 : decode cX5_odds 2 = .ok (.ldc 254, 2) := by decide +kernel
theorem dX5_odds_4 : decode cX5_odds 4 = .ok (.invokestatic 84, 3) := by decide +kernel
theorem dX5_odds_7 : decode cX5_odds 7 = .ok (.ifCond .eq 31, 3) := by decide +kernel
theorem dX5_odds_10 : decode cX5_odds 10 = .ok (.iload_n 2, 1) := by decide +kernel
theorem dX5_odds_11 : decode cX5_odds 11 = .ok (.iconst 1, 1) := by decide +kernel
theorem dX5_odds_12 : decode cX5_odds 12 = .ok (.bipush 40, 2) := by decide +kernel
theorem dX5_odds_14 : decode cX5_odds 14 = .ok (.invokestatic 84, 3) := by decide +kernel
theorem dX5_odds_17 : decode cX5_odds 17 = .ok (.ifCond .eq 21, 3) := by decide +kernel
theorem dX5_odds_20 : decode cX5_odds 20 = .ok (.aload_n 0, 1) := by decide +kernel
theorem dX5_odds_21 : decode cX5_odds 21 = .ok (.iload_n 3, 1) := by decide +kernel
theorem dX5_odds_22 : decode cX5_odds 22 = .ok (.invokevirtual 179, 3) := by decide +kernel
theorem dX5_odds_25 : decode cX5_odds 25 = .ok (.ifCond .eq 13, 3) := by decide +kernel
theorem dX5_odds_28 : decode cX5_odds 28 = .ok (.iload 4, 2) := by decide +kernel
theorem dX5_odds_30 : decode cX5_odds 30 = .ok (.iconst 0, 1) := by decide +kernel
theorem dX5_odds_31 : decode cX5_odds 31 = .ok (.iconst 1, 1) := by decide +kernel
theorem dX5_odds_32 : decode cX5_odds 32 = .ok (.invokestatic 84, 3) := by decide +kernel
theorem dX5_odds_35 : decode cX5_odds 35 = .ok (.ifCond .ne 7, 3) := by decide +kernel
theorem dX5_odds_38 : decode cX5_odds 38 = .ok (.ldc2_w 234, 3) := by decide +kernel
theorem dX5_odds_41 : decode cX5_odds 41 = .ok (.lreturn, 1) := by decide +kernel
theorem dX5_odds_42 : decode cX5_odds 42 = .ok (.lconst 0, 1) := by decide +kernel
theorem dX5_odds_43 : decode cX5_odds 43 = .ok (.lstore 5, 2) := by decide +kernel
theorem dX5_odds_45 : decode cX5_odds 45 = .ok (.iconst 0, 1) := by decide +kernel
theorem dX5_odds_46 : decode cX5_odds 46 = .ok (.istore 7, 2) := by decide +kernel
theorem dX5_odds_48 : decode cX5_odds 48 = .ok (.iload 7, 2) := by decide +kernel
theorem dX5_odds_50 : decode cX5_odds 50 = .ok (.iload_n 2, 1) := by decide +kernel
theorem dX5_odds_51 : decode cX5_odds 51 = .ok (.if_icmp .ge 38, 3) := by decide +kernel
theorem dX5_odds_54 : decode cX5_odds 54 = .ok (.aload_n 0, 1) := by decide +kernel
theorem dX5_odds_55 : decode cX5_odds 55 = .ok (.iload_n 1, 1) := by decide +kernel
theorem dX5_odds_56 : decode cX5_odds 56 = .ok (.iload 7, 2) := by decide +kernel
theorem dX5_odds_58 : decode cX5_odds 58 = .ok (.iadd, 1) := by decide +kernel
theorem dX5_odds_59 : decode cX5_odds 59 = .ok (.bipush 10, 2) := by decide +kernel
theorem dX5_odds_61 : decode cX5_odds 61 = .ok (.invokevirtual 255, 3) := by decide +kernel
theorem dX5_odds_64 : decode cX5_odds 64 = .ok (.pop, 1) := by decide +kernel
theorem dX5_odds_65 : decode cX5_odds 65 = .ok (.lload 5, 2) := by decide +kernel
theorem dX5_odds_67 : decode cX5_odds 67 = .ok (.aload_n 0, 1) := by decide +kernel
theorem dX5_odds_68 : decode cX5_odds 68 = .ok (.getfield 251, 3) := by decide +kernel
theorem dX5_odds_71 : decode cX5_odds 71 = .ok (.iload_n 3, 1) := by decide +kernel
theorem dX5_odds_72 : decode cX5_odds 72 = .ok (.if_icmp .ne 7, 3) := by decide +kernel
theorem dX5_odds_75 : decode cX5_odds 75 = .ok (.lconst 1, 1) := by decide +kernel
theorem dX5_odds_76 : decode cX5_odds 76 = .ok (.goto 4, 3) := by decide +kernel
theorem dX5_odds_79 : decode cX5_odds 79 = .ok (.lconst 0, 1) := by decide +kernel
theorem dX5_odds_80 : decode cX5_odds 80 = .ok (.ladd, 1) := by decide +kernel
theorem dX5_odds_81 : decode cX5_odds 81 = .ok (.lstore 5, 2) := by decide +kernel
theorem dX5_odds_83 : decode cX5_odds 83 = .ok (.iinc 7 1, 3) := by decide +kernel
theorem dX5_odds_86 : decode cX5_odds 86 = .ok (.goto (-38), 3) := by decide +kernel
theorem dX5_odds_89 : decode cX5_odds 89 = .ok (.lload 5, 2) := by decide +kernel
theorem dX5_odds_91 : decode cX5_odds 91 = .ok (.iload_n 2, 1) := by decide +kernel
theorem dX5_odds_92 : decode cX5_odds 92 = .ok (.i2l, 1) := by decide +kernel
theorem dX5_odds_93 : decode cX5_odds 93 = .ok (.iload 4, 2) := by decide +kernel
theorem dX5_odds_95 : decode cX5_odds 95 = .ok (.invokestatic 230, 3) := by decide +kernel
theorem dX5_odds_98 : decode cX5_odds 98 = .ok (.lreturn, 1) := by decide +kernel
theorem dX5_image_0 : decode cX5_image 0 = .ok (.aload_n 0, 1) := by decide +kernel
theorem dX5_image_1 : decode cX5_image 1 = .ok (.iconst 1, 1) := by decide +kernel
theorem dX5_image_2 : decode cX5_image 2 = .ok (.putfield 258, 3) := by decide +kernel
theorem dX5_image_5 : decode cX5_image 5 = .ok (.iconst 0, 1) := by decide +kernel
theorem dX5_image_6 : decode cX5_image 6 = .ok (.istore_n 1, 1) := by decide +kernel
theorem dX5_image_7 : decode cX5_image 7 = .ok (.iload_n 1, 1) := by decide +kernel
theorem dX5_image_8 : decode cX5_image 8 = .ok (.bipush 18, 2) := by decide +kernel
theorem dX5_image_10 : decode cX5_image 10 = .ok (.if_icmp .ge 21, 3) := by decide +kernel
theorem dX5_image_13 : decode cX5_image 13 = .ok (.aload_n 0, 1) := by decide +kernel
theorem dX5_image_14 : decode cX5_image 14 = .ok (.getfield 31, 3) := by decide +kernel
theorem dX5_image_17 : decode cX5_image 17 = .ok (.iload_n 1, 1) := by decide +kernel
theorem dX5_image_18 : decode cX5_image 18 = .ok (.aload_n 0, 1) := by decide +kernel
theorem dX5_image_19 : decode cX5_image 19 = .ok (.getfield 16, 3) := by decide +kernel
theorem dX5_image_22 : decode cX5_image 22 = .ok (.iload_n 1, 1) := by decide +kernel
theorem dX5_image_23 : decode cX5_image 23 = .ok (.iaload, 1) := by decide +kernel
theorem dX5_image_24 : decode cX5_image 24 = .ok (.iastore, 1) := by decide +kernel
theorem dX5_image_25 : decode cX5_image 25 = .ok (.iinc 1 1, 3) := by decide +kernel
theorem dX5_image_28 : decode cX5_image 28 = .ok (.goto (-21), 3) := by decide +kernel
theorem dX5_image_31 : decode cX5_image 31 = .ok (.iconst 0, 1) := by decide +kernel
theorem dX5_image_32 : decode cX5_image 32 = .ok (.istore_n 1, 1) := by decide +kernel
theorem dX5_image_33 : decode cX5_image 33 = .ok (.iload_n 1, 1) := by decide +kernel
theorem dX5_image_34 : decode cX5_image 34 = .ok (.bipush 12, 2) := by decide +kernel
theorem dX5_image_36 : decode cX5_image 36 = .ok (.if_icmp .ge 24, 3) := by decide +kernel
theorem dX5_image_39 : decode cX5_image 39 = .ok (.aload_n 0, 1) := by decide +kernel
theorem dX5_image_40 : decode cX5_image 40 = .ok (.getfield 31, 3) := by decide +kernel
theorem dX5_image_43 : decode cX5_image 43 = .ok (.bipush 18, 2) := by decide +kernel
theorem dX5_image_45 : decode cX5_image 45 = .ok (.iload_n 1, 1) := by decide +kernel
theorem dX5_image_46 : decode cX5_image 46 = .ok (.iadd, 1) := by decide +kernel
theorem dX5_image_47 : decode cX5_image 47 = .ok (.aload_n 0, 1) := by decide +kernel
theorem dX5_image_48 : decode cX5_image 48 = .ok (.getfield 19, 3) := by decide +kernel
theorem dX5_image_51 : decode cX5_image 51 = .ok (.iload_n 1, 1) := by decide +kernel
theorem dX5_image_52 : decode cX5_image 52 = .ok (.iaload, 1) := by decide +kernel
theorem dX5_image_53 : decode cX5_image 53 = .ok (.iastore, 1) := by decide +kernel
theorem dX5_image_54 : decode cX5_image 54 = .ok (.iinc 1 1, 3) := by decide +kernel
theorem dX5_image_57 : decode cX5_image 57 = .ok (.goto (-24), 3) := by decide +kernel
theorem dX5_image_60 : decode cX5_image 60 = .ok (.aload_n 0, 1) := by decide +kernel
theorem dX5_image_61 : decode cX5_image 61 = .ok (.getfield 34, 3) := by decide +kernel
theorem dX5_image_64 : decode cX5_image 64 = .ok (.iconst 0, 1) := by decide +kernel
theorem dX5_image_65 : decode cX5_image 65 = .ok (.aload_n 0, 1) := by decide +kernel
theorem dX5_image_66 : decode cX5_image 66 = .ok (.getfield 81, 3) := by decide +kernel
theorem dX5_image_69 : decode cX5_image 69 = .ok (.iastore, 1) := by decide +kernel
theorem dX5_image_70 : decode cX5_image 70 = .ok (.aload_n 0, 1) := by decide +kernel
theorem dX5_image_71 : decode cX5_image 71 = .ok (.getfield 34, 3) := by decide +kernel
theorem dX5_image_74 : decode cX5_image 74 = .ok (.iconst 1, 1) := by decide +kernel
theorem dX5_image_75 : decode cX5_image 75 = .ok (.aload_n 0, 1) := by decide +kernel
theorem dX5_image_76 : decode cX5_image 76 = .ok (.getfield 100, 3) := by decide +kernel
theorem dX5_image_79 : decode cX5_image 79 = .ok (.iastore, 1) := by decide +kernel
theorem dX5_image_80 : decode cX5_image 80 = .ok (.aload_n 0, 1) := by decide +kernel
theorem dX5_image_81 : decode cX5_image 81 = .ok (.getfield 34, 3) := by decide +kernel
theorem dX5_image_84 : decode cX5_image 84 = .ok (.iconst 2, 1) := by decide +kernel
theorem dX5_image_85 : decode cX5_image 85 = .ok (.aload_n 0, 1) := by decide +kernel
theorem dX5_image_86 : decode cX5_image 86 = .ok (.getfield 91, 3) := by decide +kernel
theorem dX5_image_89 : decode cX5_image 89 = .ok (.iastore, 1) := by decide +kernel
theorem dX5_image_90 : decode cX5_image 90 = .ok (.aload_n 0, 1) := by decide +kernel
theorem dX5_image_91 : decode cX5_image 91 = .ok (.getfield 34, 3) := by decide +kernel
theorem dX5_image_94 : decode cX5_image 94 = .ok (.iconst 3, 1) := by decide +kernel
theorem dX5_image_95 : decode cX5_image 95 = .ok (.aload_n 0, 1) := by decide +kernel
theorem dX5_image_96 : decode cX5_image 96 = .ok (.getfield 97, 3) := by decide +kernel
theorem dX5_image_99 : decode cX5_image 99 = .ok (.iastore, 1) := by decide +kernel
theorem dX5_image_100 : decode cX5_image 100 = .ok (.aload_n 0, 1) := by decide +kernel
theorem dX5_image_101 : decode cX5_image 101 = .ok (.getfield 81, 3) := by decide +kernel
theorem dX5_image_104 : decode cX5_image 104 = .ok (.ireturn, 1) := by decide +kernel
theorem dX5_back_0 : decode cX5_back 0 = .ok (.aload_n 0, 1) := by decide +kernel
theorem dX5_back_1 : decode cX5_back 1 = .ok (.getfield 258, 3) := by decide +kernel
theorem dX5_back_4 : decode cX5_back 4 = .ok (.ifCond .ne 6, 3) := by decide +kernel
theorem dX5_back_7 : decode cX5_back 7 = .ok (.bipush (-3), 2) := by decide +kernel
theorem dX5_back_9 : decode cX5_back 9 = .ok (.ireturn, 1) := by decide +kernel
theorem dX5_back_10 : decode cX5_back 10 = .ok (.iconst 0, 1) := by decide +kernel
theorem dX5_back_11 : decode cX5_back 11 = .ok (.istore_n 1, 1) := by decide +kernel
theorem dX5_back_12 : decode cX5_back 12 = .ok (.iload_n 1, 1) := by decide +kernel
theorem dX5_back_13 : decode cX5_back 13 = .ok (.bipush 18, 2) := by decide +kernel
theorem dX5_back_15 : decode cX5_back 15 = .ok (.if_icmp .ge 21, 3) := by decide +kernel
theorem dX5_back_18 : decode cX5_back 18 = .ok (.aload_n 0, 1) := by decide +kernel
theorem dX5_back_19 : decode cX5_back 19 = .ok (.getfield 16, 3) := by decide +kernel
theorem dX5_back_22 : decode cX5_back 22 = .ok (.iload_n 1, 1) := by decide +kernel
theorem dX5_back_23 : decode cX5_back 23 = .ok (.aload_n 0, 1) := by decide +kernel
theorem dX5_back_24 : decode cX5_back 24 = .ok (.getfield 31, 3) := by decide +kernel
theorem dX5_back_27 : decode cX5_back 27 = .ok (.iload_n 1, 1) := by decide +kernel
theorem dX5_back_28 : decode cX5_back 28 = .ok (.iaload, 1) := by decide +kernel
theorem dX5_back_29 : decode cX5_back 29 = .ok (.iastore, 1) := by decide +kernel
theorem dX5_back_30 : decode cX5_back 30 = .ok (.iinc 1 1, 3) := by decide +kernel
theorem dX5_back_33 : decode cX5_back 33 = .ok (.goto (-21), 3) := by decide +kernel
theorem dX5_back_36 : decode cX5_back 36 = .ok (.iconst 0, 1) := by decide +kernel
theorem dX5_back_37 : decode cX5_back 37 = .ok (.istore_n 1, 1) := by decide +kernel
theorem dX5_back_38 : decode cX5_back 38 = .ok (.iload_n 1, 1) := by decide +kernel
theorem dX5_back_39 : decode cX5_back 39 = .ok (.bipush 12, 2) := by decide +kernel
theorem dX5_back_41 : decode cX5_back 41 = .ok (.if_icmp .ge 24, 3) := by decide +kernel
theorem dX5_back_44 : decode cX5_back 44 = .ok (.aload_n 0, 1) := by decide +kernel
theorem dX5_back_45 : decode cX5_back 45 = .ok (.getfield 19, 3) := by decide +kernel
theorem dX5_back_48 : decode cX5_back 48 = .ok (.iload_n 1, 1) := by decide +kernel
theorem dX5_back_49 : decode cX5_back 49 = .ok (.aload_n 0, 1) := by decide +kernel
theorem dX5_back_50 : decode cX5_back 50 = .ok (.getfield 31, 3) := by decide +kernel
theorem dX5_back_53 : decode cX5_back 53 = .ok (.bipush 18, 2) := by decide +kernel
theorem dX5_back_55 : decode cX5_back 55 = .ok (.iload_n 1, 1) := by decide +kernel
theorem dX5_back_56 : decode cX5_back 56 = .ok (.iadd, 1) := by decide +kernel
theorem dX5_back_57 : decode cX5_back 57 = .ok (.iaload, 1) := by decide +kernel
theorem dX5_back_58 : decode cX5_back 58 = .ok (.iastore, 1) := by decide +kernel
theorem dX5_back_59 : decode cX5_back 59 = .ok (.iinc 1 1, 3) := by decide +kernel
theorem dX5_back_62 : decode cX5_back 62 = .ok (.goto (-24), 3) := by decide +kernel
theorem dX5_back_65 : decode cX5_back 65 = .ok (.aload_n 0, 1) := by decide +kernel
theorem dX5_back_66 : decode cX5_back 66 = .ok (.aload_n 0, 1) := by decide +kernel
theorem dX5_back_67 : decode cX5_back 67 = .ok (.getfield 34, 3) := by decide +kernel
theorem dX5_back_70 : decode cX5_back 70 = .ok (.iconst 0, 1) := by decide +kernel
theorem dX5_back_71 : decode cX5_back 71 = .ok (.iaload, 1) := by decide +kernel
theorem dX5_back_72 : decode cX5_back 72 = .ok (.putfield 81, 3) := by decide +kernel
theorem dX5_back_75 : decode cX5_back 75 = .ok (.aload_n 0, 1) := by decide +kernel
theorem dX5_back_76 : decode cX5_back 76 = .ok (.aload_n 0, 1) := by decide +kernel
theorem dX5_back_77 : decode cX5_back 77 = .ok (.getfield 34, 3) := by decide +kernel
theorem dX5_back_80 : decode cX5_back 80 = .ok (.iconst 1, 1) := by decide +kernel
theorem dX5_back_81 : decode cX5_back 81 = .ok (.iaload, 1) := by decide +kernel
theorem dX5_back_82 : decode cX5_back 82 = .ok (.putfield 100, 3) := by decide +kernel
theorem dX5_back_85 : decode cX5_back 85 = .ok (.aload_n 0, 1) := by decide +kernel
theorem dX5_back_86 : decode cX5_back 86 = .ok (.aload_n 0, 1) := by decide +kernel
theorem dX5_back_87 : decode cX5_back 87 = .ok (.getfield 34, 3) := by decide +kernel
theorem dX5_back_90 : decode cX5_back 90 = .ok (.iconst 2, 1) := by decide +kernel
theorem dX5_back_91 : decode cX5_back 91 = .ok (.iaload, 1) := by decide +kernel
theorem dX5_back_92 : decode cX5_back 92 = .ok (.putfield 91, 3) := by decide +kernel
theorem dX5_back_95 : decode cX5_back 95 = .ok (.aload_n 0, 1) := by decide +kernel
theorem dX5_back_96 : decode cX5_back 96 = .ok (.aload_n 0, 1) := by decide +kernel
theorem dX5_back_97 : decode cX5_back 97 = .ok (.getfield 34, 3) := by decide +kernel
theorem dX5_back_100 : decode cX5_back 100 = .ok (.iconst 3, 1) := by decide +kernel
theorem dX5_back_101 : decode cX5_back 101 = .ok (.iaload, 1) := by decide +kernel
theorem dX5_back_102 : decode cX5_back 102 = .ok (.putfield 97, 3) := by decide +kernel
theorem dX5_back_105 : decode cX5_back 105 = .ok (.aload_n 0, 1) := by decide +kernel
theorem dX5_back_106 : decode cX5_back 106 = .ok (.getfield 81, 3) := by decide +kernel
theorem dX5_back_109 : decode cX5_back 109 = .ok (.ireturn, 1) := by decide +kernel
theorem dX5_sheet_0 : decode cX5_sheet 0 = .ok (.iload_n 1, 1) := by decide +kernel
theorem dX5_sheet_1 : decode cX5_sheet 1 = .ok (.iconst 0, 1) := by decide +kernel
theorem dX5_sheet_2 : decode cX5_sheet 2 = .ok (.iconst 3, 1) := by decide +kernel
theorem dX5_sheet_3 : decode cX5_sheet 3 = .ok (.invokestatic 84, 3) := by decide +kernel
theorem dX5_sheet_6 : decode cX5_sheet 6 = .ok (.ifCond .eq 23, 3) := by decide +kernel
theorem dX5_sheet_9 : decode cX5_sheet 9 = .ok (.iload_n 2, 1) := by decide +kernel
theorem dX5_sheet_10 : decode cX5_sheet 10 = .ok (.iconst (-1), 1) := by decide +kernel
theorem dX5_sheet_11 : decode cX5_sheet 11 = .ok (.iconst 2, 1) := by decide +kernel
theorem dX5_sheet_12 : decode cX5_sheet 12 = .ok (.invokestatic 84, 3) := by decide +kernel
theorem dX5_sheet_15 : decode cX5_sheet 15 = .ok (.ifCond .eq 14, 3) := by decide +kernel
theorem dX5_sheet_18 : decode cX5_sheet 18 = .ok (.iload_n 2, 1) := by decide +kernel
theorem dX5_sheet_19 : decode cX5_sheet 19 = .ok (.iconst (-1), 1) := by decide +kernel
theorem dX5_sheet_20 : decode cX5_sheet 20 = .ok (.if_icmp .eq 12, 3) := by decide +kernel
theorem dX5_sheet_23 : decode cX5_sheet 23 = .ok (.iload_n 3, 1) := by decide +kernel
theorem dX5_sheet_24 : decode cX5_sheet 24 = .ok (.bipush 40, 2) := by decide +kernel
theorem dX5_sheet_26 : decode cX5_sheet 26 = .ok (.if_icmp .le 6, 3) := by decide +kernel
theorem dX5_sheet_29 : decode cX5_sheet 29 = .ok (.bipush (-2), 2) := by decide +kernel
theorem dX5_sheet_31 : decode cX5_sheet 31 = .ok (.ireturn, 1) := by decide +kernel
theorem dX5_sheet_32 : decode cX5_sheet 32 = .ok (.iload_n 2, 1) := by decide +kernel
theorem dX5_sheet_33 : decode cX5_sheet 33 = .ok (.iconst (-1), 1) := by decide +kernel
theorem dX5_sheet_34 : decode cX5_sheet 34 = .ok (.if_icmp .eq 10, 3) := by decide +kernel
theorem dX5_sheet_37 : decode cX5_sheet 37 = .ok (.iload_n 3, 1) := by decide +kernel
theorem dX5_sheet_38 : decode cX5_sheet 38 = .ok (.ifCond .ge 6, 3) := by decide +kernel
theorem dX5_sheet_41 : decode cX5_sheet 41 = .ok (.bipush (-14), 2) := by decide +kernel
theorem dX5_sheet_43 : decode cX5_sheet 43 = .ok (.ireturn, 1) := by decide +kernel
theorem dX5_sheet_44 : decode cX5_sheet 44 = .ok (.aload_n 0, 1) := by decide +kernel
theorem dX5_sheet_45 : decode cX5_sheet 45 = .ok (.getfield 37, 3) := by decide +kernel
theorem dX5_sheet_48 : decode cX5_sheet 48 = .ok (.iload_n 1, 1) := by decide +kernel
theorem dX5_sheet_49 : decode cX5_sheet 49 = .ok (.iload_n 2, 1) := by decide +kernel
theorem dX5_sheet_50 : decode cX5_sheet 50 = .ok (.iastore, 1) := by decide +kernel
theorem dX5_sheet_51 : decode cX5_sheet 51 = .ok (.aload_n 0, 1) := by decide +kernel
theorem dX5_sheet_52 : decode cX5_sheet 52 = .ok (.getfield 40, 3) := by decide +kernel
theorem dX5_sheet_55 : decode cX5_sheet 55 = .ok (.iload_n 1, 1) := by decide +kernel
theorem dX5_sheet_56 : decode cX5_sheet 56 = .ok (.iload_n 2, 1) := by decide +kernel
theorem dX5_sheet_57 : decode cX5_sheet 57 = .ok (.iconst (-1), 1) := by decide +kernel
theorem dX5_sheet_58 : decode cX5_sheet 58 = .ok (.if_icmp .ne 7, 3) := by decide +kernel
theorem dX5_sheet_61 : decode cX5_sheet 61 = .ok (.iconst 0, 1) := by decide +kernel
theorem dX5_sheet_62 : decode cX5_sheet 62 = .ok (.goto 4, 3) := by decide +kernel
theorem dX5_sheet_65 : decode cX5_sheet 65 = .ok (.iload_n 3, 1) := by decide +kernel
theorem dX5_sheet_66 : decode cX5_sheet 66 = .ok (.iastore, 1) := by decide +kernel
theorem dX5_sheet_67 : decode cX5_sheet 67 = .ok (.iconst 0, 1) := by decide +kernel
theorem dX5_sheet_68 : decode cX5_sheet 68 = .ok (.istore 4, 2) := by decide +kernel
theorem dX5_sheet_70 : decode cX5_sheet 70 = .ok (.iload 4, 2) := by decide +kernel
theorem dX5_sheet_72 : decode cX5_sheet 72 = .ok (.bipush 40, 2) := by decide +kernel
theorem dX5_sheet_74 : decode cX5_sheet 74 = .ok (.if_icmp .ge 22, 3) := by decide +kernel
theorem dX5_sheet_77 : decode cX5_sheet 77 = .ok (.aload_n 0, 1) := by decide +kernel
theorem dX5_sheet_78 : decode cX5_sheet 78 = .ok (.getfield 43, 3) := by decide +kernel
theorem dX5_sheet_81 : decode cX5_sheet 81 = .ok (.bipush 40, 2) := by decide +kernel
theorem dX5_sheet_83 : decode cX5_sheet 83 = .ok (.iload_n 1, 1) := by decide +kernel
theorem dX5_sheet_84 : decode cX5_sheet 84 = .ok (.imul, 1) := by decide +kernel
theorem dX5_sheet_85 : decode cX5_sheet 85 = .ok (.iload 4, 2) := by decide +kernel
theorem dX5_sheet_87 : decode cX5_sheet 87 = .ok (.iadd, 1) := by decide +kernel
theorem dX5_sheet_88 : decode cX5_sheet 88 = .ok (.iconst 0, 1) := by decide +kernel
theorem dX5_sheet_89 : decode cX5_sheet 89 = .ok (.iastore, 1) := by decide +kernel
theorem dX5_sheet_90 : decode cX5_sheet 90 = .ok (.iinc 4 1, 3) := by decide +kernel
theorem dX5_sheet_93 : decode cX5_sheet 93 = .ok (.goto (-23), 3) := by decide +kernel
theorem dX5_sheet_96 : decode cX5_sheet 96 = .ok (.iconst 1, 1) := by decide +kernel
theorem dX5_sheet_97 : decode cX5_sheet 97 = .ok (.ireturn, 1) := by decide +kernel
theorem dX5_cell_0 : decode cX5_cell 0 = .ok (.iload_n 1, 1) := by decide +kernel
theorem dX5_cell_1 : decode cX5_cell 1 = .ok (.iconst 0, 1) := by decide +kernel
theorem dX5_cell_2 : decode cX5_cell 2 = .ok (.iconst 3, 1) := by decide +kernel
theorem dX5_cell_3 : decode cX5_cell 3 = .ok (.invokestatic 84, 3) := by decide +kernel
theorem dX5_cell_6 : decode cX5_cell 6 = .ok (.ifCond .ne 6, 3) := by decide +kernel
theorem dX5_cell_9 : decode cX5_cell 9 = .ok (.bipush (-2), 2) := by decide +kernel
theorem dX5_cell_11 : decode cX5_cell 11 = .ok (.ireturn, 1) := by decide +kernel
theorem dX5_cell_12 : decode cX5_cell 12 = .ok (.aload_n 0, 1) := by decide +kernel
theorem dX5_cell_13 : decode cX5_cell 13 = .ok (.getfield 37, 3) := by decide +kernel
theorem dX5_cell_16 : decode cX5_cell 16 = .ok (.iload_n 1, 1) := by decide +kernel
theorem dX5_cell_17 : decode cX5_cell 17 = .ok (.iaload, 1) := by decide +kernel
theorem dX5_cell_18 : decode cX5_cell 18 = .ok (.iconst (-1), 1) := by decide +kernel
theorem dX5_cell_19 : decode cX5_cell 19 = .ok (.if_icmp .ne 6, 3) := by decide +kernel
theorem dX5_cell_22 : decode cX5_cell 22 = .ok (.bipush (-11), 2) := by decide +kernel
theorem dX5_cell_24 : decode cX5_cell 24 = .ok (.ireturn, 1) := by decide +kernel
theorem dX5_cell_25 : decode cX5_cell 25 = .ok (.iload_n 2, 1) := by decide +kernel
theorem dX5_cell_26 : decode cX5_cell 26 = .ok (.iconst 0, 1) := by decide +kernel
theorem dX5_cell_27 : decode cX5_cell 27 = .ok (.aload_n 0, 1) := by decide +kernel
theorem dX5_cell_28 : decode cX5_cell 28 = .ok (.getfield 40, 3) := by decide +kernel
theorem dX5_cell_31 : decode cX5_cell 31 = .ok (.iload_n 1, 1) := by decide +kernel
theorem dX5_cell_32 : decode cX5_cell 32 = .ok (.iaload, 1) := by decide +kernel
theorem dX5_cell_33 : decode cX5_cell 33 = .ok (.iconst 1, 1) := by decide +kernel
theorem dX5_cell_34 : decode cX5_cell 34 = .ok (.isub, 1) := by decide +kernel
theorem dX5_cell_35 : decode cX5_cell 35 = .ok (.invokestatic 84, 3) := by decide +kernel
theorem dX5_cell_38 : decode cX5_cell 38 = .ok (.ifCond .ne 6, 3) := by decide +kernel
theorem dX5_cell_41 : decode cX5_cell 41 = .ok (.bipush (-12), 2) := by decide +kernel
theorem dX5_cell_43 : decode cX5_cell 43 = .ok (.ireturn, 1) := by decide +kernel
theorem dX5_cell_44 : decode cX5_cell 44 = .ok (.aload_n 0, 1) := by decide +kernel
theorem dX5_cell_45 : decode cX5_cell 45 = .ok (.getfield 43, 3) := by decide +kernel
theorem dX5_cell_48 : decode cX5_cell 48 = .ok (.bipush 40, 2) := by decide +kernel
theorem dX5_cell_50 : decode cX5_cell 50 = .ok (.iload_n 1, 1) := by decide +kernel
theorem dX5_cell_51 : decode cX5_cell 51 = .ok (.imul, 1) := by decide +kernel
theorem dX5_cell_52 : decode cX5_cell 52 = .ok (.iload_n 2, 1) := by decide +kernel
theorem dX5_cell_53 : decode cX5_cell 53 = .ok (.iadd, 1) := by decide +kernel
theorem dX5_cell_54 : decode cX5_cell 54 = .ok (.aload_n 0, 1) := by decide +kernel
theorem dX5_cell_55 : decode cX5_cell 55 = .ok (.getfield 37, 3) := by decide +kernel
theorem dX5_cell_58 : decode cX5_cell 58 = .ok (.iload_n 1, 1) := by decide +kernel
theorem dX5_cell_59 : decode cX5_cell 59 = .ok (.iaload, 1) := by decide +kernel
theorem dX5_cell_60 : decode cX5_cell 60 = .ok (.ifCond .ne 8, 3) := by decide +kernel
theorem dX5_cell_63 : decode cX5_cell 63 = .ok (.iload_n 3, 1) := by decide +kernel
theorem dX5_cell_64 : decode cX5_cell 64 = .ok (.i2b, 1) := by decide +kernel
theorem dX5_cell_65 : decode cX5_cell 65 = .ok (.goto 19, 3) := by decide +kernel
theorem dX5_cell_68 : decode cX5_cell 68 = .ok (.aload_n 0, 1) := by decide +kernel
theorem dX5_cell_69 : decode cX5_cell 69 = .ok (.getfield 37, 3) := by decide +kernel
theorem dX5_cell_72 : decode cX5_cell 72 = .ok (.iload_n 1, 1) := by decide +kernel
theorem dX5_cell_73 : decode cX5_cell 73 = .ok (.iaload, 1) := by decide +kernel
theorem dX5_cell_74 : decode cX5_cell 74 = .ok (.iconst 1, 1) := by decide +kernel
theorem dX5_cell_75 : decode cX5_cell 75 = .ok (.if_icmp .ne 8, 3) := by decide +kernel
theorem dX5_cell_78 : decode cX5_cell 78 = .ok (.iload_n 3, 1) := by decide +kernel
theorem dX5_cell_79 : decode cX5_cell 79 = .ok (.i2s, 1) := by decide +kernel
theorem dX5_cell_80 : decode cX5_cell 80 = .ok (.goto 4, 3) := by decide +kernel
theorem dX5_cell_83 : decode cX5_cell 83 = .ok (.iload_n 3, 1) := by decide +kernel
theorem dX5_cell_84 : decode cX5_cell 84 = .ok (.iastore, 1) := by decide +kernel
theorem dX5_cell_85 : decode cX5_cell 85 = .ok (.iconst 1, 1) := by decide +kernel
theorem dX5_cell_86 : decode cX5_cell 86 = .ok (.ireturn, 1) := by decide +kernel
theorem dX5_copy_0 : decode cX5_copy 0 = .ok (.iload_n 1, 1) := by decide +kernel
theorem dX5_copy_1 : decode cX5_copy 1 = .ok (.iconst 0, 1) := by decide +kernel
theorem dX5_copy_2 : decode cX5_copy 2 = .ok (.iconst 3, 1) := by decide +kernel
theorem dX5_copy_3 : decode cX5_copy 3 = .ok (.invokestatic 84, 3) := by decide +kernel
theorem dX5_copy_6 : decode cX5_copy 6 = .ok (.ifCond .eq 12, 3) := by decide +kernel
theorem dX5_copy_9 : decode cX5_copy 9 = .ok (.iload_n 3, 1) := by decide +kernel
theorem dX5_copy_10 : decode cX5_copy 10 = .ok (.iconst 0, 1) := by decide +kernel
theorem dX5_copy_11 : decode cX5_copy 11 = .ok (.iconst 3, 1) := by decide +kernel
theorem dX5_copy_12 : decode cX5_copy 12 = .ok (.invokestatic 84, 3) := by decide +kernel
theorem dX5_copy_15 : decode cX5_copy 15 = .ok (.ifCond .ne 6, 3) := by decide +kernel
theorem dX5_copy_18 : decode cX5_copy 18 = .ok (.bipush (-2), 2) := by decide +kernel
theorem dX5_copy_20 : decode cX5_copy 20 = .ok (.ireturn, 1) := by decide +kernel
theorem dX5_copy_21 : decode cX5_copy 21 = .ok (.aload_n 0, 1) := by decide +kernel
theorem dX5_copy_22 : decode cX5_copy 22 = .ok (.getfield 37, 3) := by decide +kernel
theorem dX5_copy_25 : decode cX5_copy 25 = .ok (.iload_n 1, 1) := by decide +kernel
theorem dX5_copy_26 : decode cX5_copy 26 = .ok (.iaload, 1) := by decide +kernel
theorem dX5_copy_27 : decode cX5_copy 27 = .ok (.iconst (-1), 1) := by decide +kernel
theorem dX5_copy_28 : decode cX5_copy 28 = .ok (.if_icmp .eq 13, 3) := by decide +kernel
theorem dX5_copy_31 : decode cX5_copy 31 = .ok (.aload_n 0, 1) := by decide +kernel
theorem dX5_copy_32 : decode cX5_copy 32 = .ok (.getfield 37, 3) := by decide +kernel
theorem dX5_copy_35 : decode cX5_copy 35 = .ok (.iload_n 3, 1) := by decide +kernel
theorem dX5_copy_36 : decode cX5_copy 36 = .ok (.iaload, 1) := by decide +kernel
theorem dX5_copy_37 : decode cX5_copy 37 = .ok (.iconst (-1), 1) := by decide +kernel
theorem dX5_copy_38 : decode cX5_copy 38 = .ok (.if_icmp .ne 6, 3) := by decide +kernel
theorem dX5_copy_41 : decode cX5_copy 41 = .ok (.bipush (-11), 2) := by decide +kernel
theorem dX5_copy_43 : decode cX5_copy 43 = .ok (.ireturn, 1) := by decide +kernel
theorem dX5_copy_44 : decode cX5_copy 44 = .ok (.aload_n 0, 1) := by decide +kernel
theorem dX5_copy_45 : decode cX5_copy 45 = .ok (.getfield 37, 3) := by decide +kernel
theorem dX5_copy_48 : decode cX5_copy 48 = .ok (.iload_n 1, 1) := by decide +kernel
theorem dX5_copy_49 : decode cX5_copy 49 = .ok (.iaload, 1) := by decide +kernel
theorem dX5_copy_50 : decode cX5_copy 50 = .ok (.aload_n 0, 1) := by decide +kernel
theorem dX5_copy_51 : decode cX5_copy 51 = .ok (.getfield 37, 3) := by decide +kernel
theorem dX5_copy_54 : decode cX5_copy 54 = .ok (.iload_n 3, 1) := by decide +kernel
theorem dX5_copy_55 : decode cX5_copy 55 = .ok (.iaload, 1) := by decide +kernel
theorem dX5_copy_56 : decode cX5_copy 56 = .ok (.if_icmp .eq 6, 3) := by decide +kernel
theorem dX5_copy_59 : decode cX5_copy 59 = .ok (.bipush (-13), 2) := by decide +kernel
theorem dX5_copy_61 : decode cX5_copy 61 = .ok (.ireturn, 1) := by decide +kernel
theorem dX5_copy_62 : decode cX5_copy 62 = .ok (.iload 5, 2) := by decide +kernel
theorem dX5_copy_64 : decode cX5_copy 64 = .ok (.ifCond .lt 60, 3) := by decide +kernel
theorem dX5_copy_67 : decode cX5_copy 67 = .ok (.iload_n 2, 1) := by decide +kernel
theorem dX5_copy_68 : decode cX5_copy 68 = .ok (.ifCond .lt 56, 3) := by decide +kernel
theorem dX5_copy_71 : decode cX5_copy 71 = .ok (.iload 4, 2) := by decide +kernel
theorem dX5_copy_73 : decode cX5_copy 73 = .ok (.ifCond .lt 51, 3) := by decide +kernel
theorem dX5_copy_76 : decode cX5_copy 76 = .ok (.iload_n 2, 1) := by decide +kernel
theorem dX5_copy_77 : decode cX5_copy 77 = .ok (.aload_n 0, 1) := by decide +kernel
theorem dX5_copy_78 : decode cX5_copy 78 = .ok (.getfield 40, 3) := by decide +kernel
theorem dX5_copy_81 : decode cX5_copy 81 = .ok (.iload_n 1, 1) := by decide +kernel
theorem dX5_copy_82 : decode cX5_copy 82 = .ok (.iaload, 1) := by decide +kernel
theorem dX5_copy_83 : decode cX5_copy 83 = .ok (.if_icmp .gt 41, 3) := by decide +kernel
theorem dX5_copy_86 : decode cX5_copy 86 = .ok (.iload 4, 2) := by decide +kernel
theorem dX5_copy_88 : decode cX5_copy 88 = .ok (.aload_n 0, 1) := by decide +kernel
theorem dX5_copy_89 : decode cX5_copy 89 = .ok (.getfield 40, 3) := by decide +kernel
theorem dX5_copy_92 : decode cX5_copy 92 = .ok (.iload_n 3, 1) := by decide +kernel
theorem dX5_copy_93 : decode cX5_copy 93 = .ok (.iaload, 1) := by decide +kernel
theorem dX5_copy_94 : decode cX5_copy 94 = .ok (.if_icmp .gt 30, 3) := by decide +kernel
theorem dX5_copy_97 : decode cX5_copy 97 = .ok (.iload 5, 2) := by decide +kernel
theorem dX5_copy_99 : decode cX5_copy 99 = .ok (.aload_n 0, 1) := by decide +kernel
theorem dX5_copy_100 : decode cX5_copy 100 = .ok (.getfield 40, 3) := by decide +kernel
theorem dX5_copy_103 : decode cX5_copy 103 = .ok (.iload_n 1, 1) := by decide +kernel
theorem dX5_copy_104 : decode cX5_copy 104 = .ok (.iaload, 1) := by decide +kernel
theorem dX5_copy_105 : decode cX5_copy 105 = .ok (.iload_n 2, 1) := by decide +kernel
theorem dX5_copy_106 : decode cX5_copy 106 = .ok (.isub, 1) := by decide +kernel
theorem dX5_copy_107 : decode cX5_copy 107 = .ok (.if_icmp .gt 17, 3) := by decide +kernel
theorem dX5_copy_110 : decode cX5_copy 110 = .ok (.iload 5, 2) := by decide +kernel
theorem dX5_copy_112 : decode cX5_copy 112 = .ok (.aload_n 0, 1) := by decide +kernel
theorem dX5_copy_113 : decode cX5_copy 113 = .ok (.getfield 40, 3) := by decide +kernel
theorem dX5_copy_116 : decode cX5_copy 116 = .ok (.iload_n 3, 1) := by decide +kernel
theorem dX5_copy_117 : decode cX5_copy 117 = .ok (.iaload, 1) := by decide +kernel
theorem dX5_copy_118 : decode cX5_copy 118 = .ok (.iload 4, 2) := by decide +kernel
theorem dX5_copy_120 : decode cX5_copy 120 = .ok (.isub, 1) := by decide +kernel
theorem dX5_copy_121 : decode cX5_copy 121 = .ok (.if_icmp .le 6, 3) := by decide +kernel
theorem dX5_copy_124 : decode cX5_copy 124 = .ok (.bipush (-12), 2) := by decide +kernel
theorem dX5_copy_126 : decode cX5_copy 126 = .ok (.ireturn, 1) := by decide +kernel
theorem dX5_copy_127 : decode cX5_copy 127 = .ok (.bipush 40, 2) := by decide +kernel
theorem dX5_copy_129 : decode cX5_copy 129 = .ok (.iload_n 1, 1) := by decide +kernel
theorem dX5_copy_130 : decode cX5_copy 130 = .ok (.imul, 1) := by decide +kernel
theorem dX5_copy_131 : decode cX5_copy 131 = .ok (.iload_n 2, 1) := by decide +kernel
theorem dX5_copy_132 : decode cX5_copy 132 = .ok (.iadd, 1) := by decide +kernel
theorem dX5_copy_133 : decode cX5_copy 133 = .ok (.istore 6, 2) := by decide +kernel
theorem dX5_copy_135 : decode cX5_copy 135 = .ok (.bipush 40, 2) := by decide +kernel
theorem dX5_copy_137 : decode cX5_copy 137 = .ok (.iload_n 3, 1) := by decide +kernel
theorem dX5_copy_138 : decode cX5_copy 138 = .ok (.imul, 1) := by decide +kernel
theorem dX5_copy_139 : decode cX5_copy 139 = .ok (.iload 4, 2) := by decide +kernel
theorem dX5_copy_141 : decode cX5_copy 141 = .ok (.iadd, 1) := by decide +kernel
theorem dX5_copy_142 : decode cX5_copy 142 = .ok (.istore 7, 2) := by decide +kernel
theorem dX5_copy_144 : decode cX5_copy 144 = .ok (.iconst 0, 1) := by decide +kernel
theorem dX5_copy_145 : decode cX5_copy 145 = .ok (.istore 8, 2) := by decide +kernel
theorem dX5_copy_147 : decode cX5_copy 147 = .ok (.iload 8, 2) := by decide +kernel
theorem dX5_copy_149 : decode cX5_copy 149 = .ok (.iload 5, 2) := by decide +kernel
theorem dX5_copy_151 : decode cX5_copy 151 = .ok (.if_icmp .ge 50, 3) := by decide +kernel
theorem dX5_copy_154 : decode cX5_copy 154 = .ok (.iload 6, 2) := by decide +kernel
theorem dX5_copy_156 : decode cX5_copy 156 = .ok (.iload 7, 2) := by decide +kernel
theorem dX5_copy_158 : decode cX5_copy 158 = .ok (.if_icmp .ge 13, 3) := by decide +kernel
theorem dX5_copy_161 : decode cX5_copy 161 = .ok (.iload 5, 2) := by decide +kernel
theorem dX5_copy_163 : decode cX5_copy 163 = .ok (.iconst 1, 1) := by decide +kernel
theorem dX5_copy_164 : decode cX5_copy 164 = .ok (.isub, 1) := by decide +kernel
theorem dX5_copy_165 : decode cX5_copy 165 = .ok (.iload 8, 2) := by decide +kernel
theorem dX5_copy_167 : decode cX5_copy 167 = .ok (.isub, 1) := by decide +kernel
theorem dX5_copy_168 : decode cX5_copy 168 = .ok (.goto 5, 3) := by decide +kernel
theorem dX5_copy_171 : decode cX5_copy 171 = .ok (.iload 8, 2) := by decide +kernel
theorem dX5_copy_173 : decode cX5_copy 173 = .ok (.istore 9, 2) := by decide +kernel
theorem dX5_copy_175 : decode cX5_copy 175 = .ok (.aload_n 0, 1) := by decide +kernel
theorem dX5_copy_176 : decode cX5_copy 176 = .ok (.getfield 43, 3) := by decide +kernel
theorem dX5_copy_179 : decode cX5_copy 179 = .ok (.iload 7, 2) := by decide +kernel
theorem dX5_copy_181 : decode cX5_copy 181 = .ok (.iload 9, 2) := by decide +kernel
theorem dX5_copy_183 : decode cX5_copy 183 = .ok (.iadd, 1) := by decide +kernel
theorem dX5_copy_184 : decode cX5_copy 184 = .ok (.aload_n 0, 1) := by decide +kernel
theorem dX5_copy_185 : decode cX5_copy 185 = .ok (.getfield 43, 3) := by decide +kernel
theorem dX5_copy_188 : decode cX5_copy 188 = .ok (.iload 6, 2) := by decide +kernel
theorem dX5_copy_190 : decode cX5_copy 190 = .ok (.iload 9, 2) := by decide +kernel
theorem dX5_copy_192 : decode cX5_copy 192 = .ok (.iadd, 1) := by decide +kernel
theorem dX5_copy_193 : decode cX5_copy 193 = .ok (.iaload, 1) := by decide +kernel
theorem dX5_copy_194 : decode cX5_copy 194 = .ok (.iastore, 1) := by decide +kernel
theorem dX5_copy_195 : decode cX5_copy 195 = .ok (.iinc 8 1, 3) := by decide +kernel
theorem dX5_copy_198 : decode cX5_copy 198 = .ok (.goto (-51), 3) := by decide +kernel
theorem dX5_copy_201 : decode cX5_copy 201 = .ok (.iload 5, 2) := by decide +kernel
theorem dX5_copy_203 : decode cX5_copy 203 = .ok (.ireturn, 1) := by decide +kernel
theorem dX5_pewBy_0 : decode cX5_pewBy 0 = .ok (.iload_n 1, 1) := by decide +kernel
theorem dX5_pewBy_1 : decode cX5_pewBy 1 = .ok (.iconst 0, 1) := by decide +kernel
theorem dX5_pewBy_2 : decode cX5_pewBy 2 = .ok (.iconst 3, 1) := by decide +kernel
theorem dX5_pewBy_3 : decode cX5_pewBy 3 = .ok (.invokestatic 84, 3) := by decide +kernel
theorem dX5_pewBy_6 : decode cX5_pewBy 6 = .ok (.ifCond .eq 23, 3) := by decide +kernel
theorem dX5_pewBy_9 : decode cX5_pewBy 9 = .ok (.iload_n 2, 1) := by decide +kernel
theorem dX5_pewBy_10 : decode cX5_pewBy 10 = .ok (.iconst 0, 1) := by decide +kernel
theorem dX5_pewBy_11 : decode cX5_pewBy 11 = .ok (.iconst 2, 1) := by decide +kernel
theorem dX5_pewBy_12 : decode cX5_pewBy 12 = .ok (.invokestatic 84, 3) := by decide +kernel
theorem dX5_pewBy_15 : decode cX5_pewBy 15 = .ok (.ifCond .eq 14, 3) := by decide +kernel
theorem dX5_pewBy_18 : decode cX5_pewBy 18 = .ok (.iload 4, 2) := by decide +kernel
theorem dX5_pewBy_20 : decode cX5_pewBy 20 = .ok (.iconst 0, 1) := by decide +kernel
theorem dX5_pewBy_21 : decode cX5_pewBy 21 = .ok (.bipush 6, 2) := by decide +kernel
theorem dX5_pewBy_23 : decode cX5_pewBy 23 = .ok (.invokestatic 84, 3) := by decide +kernel
theorem dX5_pewBy_26 : decode cX5_pewBy 26 = .ok (.ifCond .ne 6, 3) := by decide +kernel
theorem dX5_pewBy_29 : decode cX5_pewBy 29 = .ok (.bipush (-2), 2) := by decide +kernel
theorem dX5_pewBy_31 : decode cX5_pewBy 31 = .ok (.ireturn, 1) := by decide +kernel
theorem dX5_pewBy_32 : decode cX5_pewBy 32 = .ok (.aload_n 0, 1) := by decide +kernel
theorem dX5_pewBy_33 : decode cX5_pewBy 33 = .ok (.getfield 37, 3) := by decide +kernel
theorem dX5_pewBy_36 : decode cX5_pewBy 36 = .ok (.iload_n 1, 1) := by decide +kernel
theorem dX5_pewBy_37 : decode cX5_pewBy 37 = .ok (.iaload, 1) := by decide +kernel
theorem dX5_pewBy_38 : decode cX5_pewBy 38 = .ok (.iconst (-1), 1) := by decide +kernel
theorem dX5_pewBy_39 : decode cX5_pewBy 39 = .ok (.if_icmp .ne 6, 3) := by decide +kernel
theorem dX5_pewBy_42 : decode cX5_pewBy 42 = .ok (.bipush (-11), 2) := by decide +kernel
theorem dX5_pewBy_44 : decode cX5_pewBy 44 = .ok (.ireturn, 1) := by decide +kernel
theorem dX5_pewBy_45 : decode cX5_pewBy 45 = .ok (.aload_n 0, 1) := by decide +kernel
theorem dX5_pewBy_46 : decode cX5_pewBy 46 = .ok (.getfield 37, 3) := by decide +kernel
theorem dX5_pewBy_49 : decode cX5_pewBy 49 = .ok (.iload_n 1, 1) := by decide +kernel
theorem dX5_pewBy_50 : decode cX5_pewBy 50 = .ok (.iaload, 1) := by decide +kernel
theorem dX5_pewBy_51 : decode cX5_pewBy 51 = .ok (.iload_n 2, 1) := by decide +kernel
theorem dX5_pewBy_52 : decode cX5_pewBy 52 = .ok (.if_icmp .eq 6, 3) := by decide +kernel
theorem dX5_pewBy_55 : decode cX5_pewBy 55 = .ok (.bipush (-13), 2) := by decide +kernel
theorem dX5_pewBy_57 : decode cX5_pewBy 57 = .ok (.ireturn, 1) := by decide +kernel
theorem dX5_pewBy_58 : decode cX5_pewBy 58 = .ok (.iconst 0, 1) := by decide +kernel
theorem dX5_pewBy_59 : decode cX5_pewBy 59 = .ok (.istore 5, 2) := by decide +kernel
theorem dX5_pewBy_61 : decode cX5_pewBy 61 = .ok (.iconst 0, 1) := by decide +kernel
theorem dX5_pewBy_62 : decode cX5_pewBy 62 = .ok (.istore 6, 2) := by decide +kernel
theorem dX5_pewBy_64 : decode cX5_pewBy 64 = .ok (.iload 6, 2) := by decide +kernel
theorem dX5_pewBy_66 : decode cX5_pewBy 66 = .ok (.iload 4, 2) := by decide +kernel
theorem dX5_pewBy_68 : decode cX5_pewBy 68 = .ok (.if_icmp .ge 85, 3) := by decide +kernel
theorem dX5_pewBy_71 : decode cX5_pewBy 71 = .ok (.iload_n 3, 1) := by decide +kernel
theorem dX5_pewBy_72 : decode cX5_pewBy 72 = .ok (.iconst 2, 1) := by decide +kernel
theorem dX5_pewBy_73 : decode cX5_pewBy 73 = .ok (.iload 6, 2) := by decide +kernel
theorem dX5_pewBy_75 : decode cX5_pewBy 75 = .ok (.imul, 1) := by decide +kernel
theorem dX5_pewBy_76 : decode cX5_pewBy 76 = .ok (.iadd, 1) := by decide +kernel
theorem dX5_pewBy_77 : decode cX5_pewBy 77 = .ok (.istore 7, 2) := by decide +kernel
theorem dX5_pewBy_79 : decode cX5_pewBy 79 = .ok (.iload_n 3, 1) := by decide +kernel
theorem dX5_pewBy_80 : decode cX5_pewBy 80 = .ok (.ifCond .lt 22, 3) := by decide +kernel
theorem dX5_pewBy_83 : decode cX5_pewBy 83 = .ok (.iload 7, 2) := by decide +kernel
theorem dX5_pewBy_85 : decode cX5_pewBy 85 = .ok (.iload_n 3, 1) := by decide +kernel
theorem dX5_pewBy_86 : decode cX5_pewBy 86 = .ok (.if_icmp .lt 16, 3) := by decide +kernel
theorem dX5_pewBy_89 : decode cX5_pewBy 89 = .ok (.iload 7, 2) := by decide +kernel
theorem dX5_pewBy_91 : decode cX5_pewBy 91 = .ok (.aload_n 0, 1) := by decide +kernel
theorem dX5_pewBy_92 : decode cX5_pewBy 92 = .ok (.getfield 40, 3) := by decide +kernel
theorem dX5_pewBy_95 : decode cX5_pewBy 95 = .ok (.iload_n 1, 1) := by decide +kernel
theorem dX5_pewBy_96 : decode cX5_pewBy 96 = .ok (.iaload, 1) := by decide +kernel
theorem dX5_pewBy_97 : decode cX5_pewBy 97 = .ok (.iconst 2, 1) := by decide +kernel
theorem dX5_pewBy_98 : decode cX5_pewBy 98 = .ok (.isub, 1) := by decide +kernel
theorem dX5_pewBy_99 : decode cX5_pewBy 99 = .ok (.if_icmp .le 6, 3) := by decide +kernel
theorem dX5_pewBy_102 : decode cX5_pewBy 102 = .ok (.bipush (-12), 2) := by decide +kernel
theorem dX5_pewBy_104 : decode cX5_pewBy 104 = .ok (.ireturn, 1) := by decide +kernel
theorem dX5_pewBy_105 : decode cX5_pewBy 105 = .ok (.bipush 40, 2) := by decide +kernel
theorem dX5_pewBy_107 : decode cX5_pewBy 107 = .ok (.iload_n 1, 1) := by decide +kernel
theorem dX5_pewBy_108 : decode cX5_pewBy 108 = .ok (.imul, 1) := by decide +kernel
theorem dX5_pewBy_109 : decode cX5_pewBy 109 = .ok (.iload 7, 2) := by decide +kernel
theorem dX5_pewBy_111 : decode cX5_pewBy 111 = .ok (.iadd, 1) := by decide +kernel
theorem dX5_pewBy_112 : decode cX5_pewBy 112 = .ok (.istore 8, 2) := by decide +kernel
theorem dX5_pewBy_114 : decode cX5_pewBy 114 = .ok (.iload 5, 2) := by decide +kernel
theorem dX5_pewBy_116 : decode cX5_pewBy 116 = .ok (.aload_n 0, 1) := by decide +kernel
theorem dX5_pewBy_117 : decode cX5_pewBy 117 = .ok (.aload_n 0, 1) := by decide +kernel
theorem dX5_pewBy_118 : decode cX5_pewBy 118 = .ok (.getfield 43, 3) := by decide +kernel
theorem dX5_pewBy_121 : decode cX5_pewBy 121 = .ok (.iload 8, 2) := by decide +kernel
theorem dX5_pewBy_123 : decode cX5_pewBy 123 = .ok (.iaload, 1) := by decide +kernel
theorem dX5_pewBy_124 : decode cX5_pewBy 124 = .ok (.aload_n 0, 1) := by decide +kernel
theorem dX5_pewBy_125 : decode cX5_pewBy 125 = .ok (.getfield 43, 3) := by decide +kernel
theorem dX5_pewBy_128 : decode cX5_pewBy 128 = .ok (.iload 8, 2) := by decide +kernel
theorem dX5_pewBy_130 : decode cX5_pewBy 130 = .ok (.iconst 1, 1) := by decide +kernel
theorem dX5_pewBy_131 : decode cX5_pewBy 131 = .ok (.iadd, 1) := by decide +kernel
theorem dX5_pewBy_132 : decode cX5_pewBy 132 = .ok (.iaload, 1) := by decide +kernel
theorem dX5_pewBy_133 : decode cX5_pewBy 133 = .ok (.invokevirtual 262, 3) := by decide +kernel
theorem dX5_pewBy_136 : decode cX5_pewBy 136 = .ok (.ifCond .lt 7, 3) := by decide +kernel
theorem dX5_pewBy_139 : decode cX5_pewBy 139 = .ok (.iconst 1, 1) := by decide +kernel
theorem dX5_pewBy_140 : decode cX5_pewBy 140 = .ok (.goto 4, 3) := by decide +kernel
theorem dX5_pewBy_143 : decode cX5_pewBy 143 = .ok (.iconst 0, 1) := by decide +kernel
theorem dX5_pewBy_144 : decode cX5_pewBy 144 = .ok (.iadd, 1) := by decide +kernel
theorem dX5_pewBy_145 : decode cX5_pewBy 145 = .ok (.istore 5, 2) := by decide +kernel
theorem dX5_pewBy_147 : decode cX5_pewBy 147 = .ok (.iinc 6 1, 3) := by decide +kernel
theorem dX5_pewBy_150 : decode cX5_pewBy 150 = .ok (.goto (-86), 3) := by decide +kernel
theorem dX5_pewBy_153 : decode cX5_pewBy 153 = .ok (.iload 5, 2) := by decide +kernel
theorem dX5_pewBy_155 : decode cX5_pewBy 155 = .ok (.ireturn, 1) := by decide +kernel
theorem dX5_isUnder_0 : decode cX5_isUnder 0 = .ok (.iload_n 1, 1) := by decide +kernel
theorem dX5_isUnder_1 : decode cX5_isUnder 1 = .ok (.ifCond .eq 28, 3) := by decide +kernel
theorem dX5_isUnder_4 : decode cX5_isUnder 4 = .ok (.iload_n 0, 1) := by decide +kernel
theorem dX5_isUnder_5 : decode cX5_isUnder 5 = .ok (.iload_n 1, 1) := by decide +kernel
theorem dX5_isUnder_6 : decode cX5_isUnder 6 = .ok (.if_icmp .eq 23, 3) := by decide +kernel
theorem dX5_isUnder_9 : decode cX5_isUnder 9 = .ok (.iload_n 1, 1) := by decide +kernel
theorem dX5_isUnder_10 : decode cX5_isUnder 10 = .ok (.iconst 1, 1) := by decide +kernel
theorem dX5_isUnder_11 : decode cX5_isUnder 11 = .ok (.if_icmp .ne 8, 3) := by decide +kernel
theorem dX5_isUnder_14 : decode cX5_isUnder 14 = .ok (.iload_n 0, 1) := by decide +kernel
theorem dX5_isUnder_15 : decode cX5_isUnder 15 = .ok (.iconst 3, 1) := by decide +kernel
theorem dX5_isUnder_16 : decode cX5_isUnder 16 = .ok (.if_icmp .eq 13, 3) := by decide +kernel
theorem dX5_isUnder_19 : decode cX5_isUnder 19 = .ok (.iload_n 1, 1) := by decide +kernel
theorem dX5_isUnder_20 : decode cX5_isUnder 20 = .ok (.iconst 2, 1) := by decide +kernel
theorem dX5_isUnder_21 : decode cX5_isUnder 21 = .ok (.if_icmp .ne 12, 3) := by decide +kernel
theorem dX5_isUnder_24 : decode cX5_isUnder 24 = .ok (.iload_n 0, 1) := by decide +kernel
theorem dX5_isUnder_25 : decode cX5_isUnder 25 = .ok (.iconst 4, 1) := by decide +kernel
theorem dX5_isUnder_26 : decode cX5_isUnder 26 = .ok (.if_icmp .ne 7, 3) := by decide +kernel
theorem dX5_isUnder_29 : decode cX5_isUnder 29 = .ok (.iconst 1, 1) := by decide +kernel
theorem dX5_isUnder_30 : decode cX5_isUnder 30 = .ok (.goto 4, 3) := by decide +kernel
theorem dX5_isUnder_33 : decode cX5_isUnder 33 = .ok (.iconst 0, 1) := by decide +kernel
theorem dX5_isUnder_34 : decode cX5_isUnder 34 = .ok (.ireturn, 1) := by decide +kernel
theorem dX5_taken_0 : decode cX5_taken 0 = .ok (.iload_n 2, 1) := by decide +kernel
theorem dX5_taken_1 : decode cX5_taken 1 = .ok (.iconst 0, 1) := by decide +kernel
theorem dX5_taken_2 : decode cX5_taken 2 = .ok (.bipush 6, 2) := by decide +kernel
theorem dX5_taken_4 : decode cX5_taken 4 = .ok (.invokestatic 84, 3) := by decide +kernel
theorem dX5_taken_7 : decode cX5_taken 7 = .ok (.ifCond .ne 6, 3) := by decide +kernel
theorem dX5_taken_10 : decode cX5_taken 10 = .ok (.bipush (-2), 2) := by decide +kernel
theorem dX5_taken_12 : decode cX5_taken 12 = .ok (.ireturn, 1) := by decide +kernel
theorem dX5_taken_13 : decode cX5_taken 13 = .ok (.iload_n 1, 1) := by decide +kernel
theorem dX5_taken_14 : decode cX5_taken 14 = .ok (.iconst 0, 1) := by decide +kernel
theorem dX5_taken_15 : decode cX5_taken 15 = .ok (.bipush 11, 2) := by decide +kernel
theorem dX5_taken_17 : decode cX5_taken 17 = .ok (.invokestatic 84, 3) := by decide +kernel
theorem dX5_taken_20 : decode cX5_taken 20 = .ok (.ifCond .ne 6, 3) := by decide +kernel
theorem dX5_taken_23 : decode cX5_taken 23 = .ok (.bipush (-12), 2) := by decide +kernel
theorem dX5_taken_25 : decode cX5_taken 25 = .ok (.ireturn, 1) := by decide +kernel
theorem dX5_taken_26 : decode cX5_taken 26 = .ok (.iload_n 1, 1) := by decide +kernel
theorem dX5_taken_27 : decode cX5_taken 27 = .ok (.bipush 6, 2) := by decide +kernel
theorem dX5_taken_29 : decode cX5_taken 29 = .ok (.if_icmp .lt 28, 3) := by decide +kernel
theorem dX5_taken_32 : decode cX5_taken 32 = .ok (.iload_n 2, 1) := by decide +kernel
theorem dX5_taken_33 : decode cX5_taken 33 = .ok (.bipush 6, 2) := by decide +kernel
theorem dX5_taken_35 : decode cX5_taken 35 = .ok (.if_icmp .ne 19, 3) := by decide +kernel
theorem dX5_taken_38 : decode cX5_taken 38 = .ok (.aload_n 0, 1) := by decide +kernel
theorem dX5_taken_39 : decode cX5_taken 39 = .ok (.getfield 19, 3) := by decide +kernel
theorem dX5_taken_42 : decode cX5_taken 42 = .ok (.iconst 2, 1) := by decide +kernel
theorem dX5_taken_43 : decode cX5_taken 43 = .ok (.iload_n 1, 1) := by decide +kernel
theorem dX5_taken_44 : decode cX5_taken 44 = .ok (.bipush 6, 2) := by decide +kernel
theorem dX5_taken_46 : decode cX5_taken 46 = .ok (.isub, 1) := by decide +kernel
theorem dX5_taken_47 : decode cX5_taken 47 = .ok (.imul, 1) := by decide +kernel
theorem dX5_taken_48 : decode cX5_taken 48 = .ok (.iconst 1, 1) := by decide +kernel
theorem dX5_taken_49 : decode cX5_taken 49 = .ok (.iadd, 1) := by decide +kernel
theorem dX5_taken_50 : decode cX5_taken 50 = .ok (.iaload, 1) := by decide +kernel
theorem dX5_taken_51 : decode cX5_taken 51 = .ok (.goto 5, 3) := by decide +kernel
theorem dX5_taken_54 : decode cX5_taken 54 = .ok (.bipush (-13), 2) := by decide +kernel
theorem dX5_taken_56 : decode cX5_taken 56 = .ok (.ireturn, 1) := by decide +kernel
theorem dX5_taken_57 : decode cX5_taken 57 = .ok (.iload_n 1, 1) := by decide +kernel
theorem dX5_taken_58 : decode cX5_taken 58 = .ok (.aload_n 0, 1) := by decide +kernel
theorem dX5_taken_59 : decode cX5_taken 59 = .ok (.getfield 81, 3) := by decide +kernel
theorem dX5_taken_62 : decode cX5_taken 62 = .ok (.if_icmp .lt 8, 3) := by decide +kernel
theorem dX5_taken_65 : decode cX5_taken 65 = .ok (.bipush (-11), 2) := by decide +kernel
theorem dX5_taken_67 : decode cX5_taken 67 = .ok (.goto 28, 3) := by decide +kernel
theorem dX5_taken_70 : decode cX5_taken 70 = .ok (.iload_n 2, 1) := by decide +kernel
theorem dX5_taken_71 : decode cX5_taken 71 = .ok (.bipush 6, 2) := by decide +kernel
theorem dX5_taken_73 : decode cX5_taken 73 = .ok (.if_icmp .ge 20, 3) := by decide +kernel
theorem dX5_taken_76 : decode cX5_taken 76 = .ok (.aload_n 0, 1) := by decide +kernel
theorem dX5_taken_77 : decode cX5_taken 77 = .ok (.getfield 7, 3) := by decide +kernel
theorem dX5_taken_80 : decode cX5_taken 80 = .ok (.iload_n 1, 1) := by decide +kernel
theorem dX5_taken_81 : decode cX5_taken 81 = .ok (.iaload, 1) := by decide +kernel
theorem dX5_taken_82 : decode cX5_taken 82 = .ok (.iload_n 2, 1) := by decide +kernel
theorem dX5_taken_83 : decode cX5_taken 83 = .ok (.invokestatic 265, 3) := by decide +kernel
theorem dX5_taken_86 : decode cX5_taken 86 = .ok (.ifCond .eq 7, 3) := by decide +kernel
theorem dX5_taken_89 : decode cX5_taken 89 = .ok (.iload_n 1, 1) := by decide +kernel
theorem dX5_taken_90 : decode cX5_taken 90 = .ok (.goto 5, 3) := by decide +kernel
theorem dX5_taken_93 : decode cX5_taken 93 = .ok (.bipush (-13), 2) := by decide +kernel
theorem dX5_taken_95 : decode cX5_taken 95 = .ok (.ireturn, 1) := by decide +kernel
theorem dJ9_max_7cf53_0 : decode cJ9_max_7cf53 0 = .ok (.iload_n 0, 1) := by decide +kernel
theorem dJ9_max_7cf53_1 : decode cJ9_max_7cf53 1 = .ok (.iload_n 1, 1) := by decide +kernel
theorem dJ9_max_7cf53_2 : decode cJ9_max_7cf53 2 = .ok (.if_icmp .lt 7, 3) := by decide +kernel
theorem dJ9_max_7cf53_5 : decode cJ9_max_7cf53 5 = .ok (.iload_n 0, 1) := by decide +kernel
theorem dJ9_max_7cf53_6 : decode cJ9_max_7cf53 6 = .ok (.goto 4, 3) := by decide +kernel
theorem dJ9_max_7cf53_9 : decode cJ9_max_7cf53 9 = .ok (.iload_n 1, 1) := by decide +kernel
theorem dJ9_max_7cf53_10 : decode cJ9_max_7cf53 10 = .ok (.ireturn, 1) := by decide +kernel
theorem dJ9_min_7cf53_0 : decode cJ9_min_7cf53 0 = .ok (.iload_n 0, 1) := by decide +kernel
theorem dJ9_min_7cf53_1 : decode cJ9_min_7cf53 1 = .ok (.iload_n 1, 1) := by decide +kernel
theorem dJ9_min_7cf53_2 : decode cJ9_min_7cf53 2 = .ok (.if_icmp .gt 7, 3) := by decide +kernel
theorem dJ9_min_7cf53_5 : decode cJ9_min_7cf53 5 = .ok (.iload_n 0, 1) := by decide +kernel
theorem dJ9_min_7cf53_6 : decode cJ9_min_7cf53 6 = .ok (.goto 4, 3) := by decide +kernel
theorem dJ9_min_7cf53_9 : decode cJ9_min_7cf53 9 = .ok (.iload_n 1, 1) := by decide +kernel
theorem dJ9_min_7cf53_10 : decode cJ9_min_7cf53 10 = .ok (.ireturn, 1) := by decide +kernel
theorem dJ0_length_8abf5_0 : decode cJ0_length_8abf5 0 = .ok (.aload_n 0, 1) := by decide +kernel
theorem dJ0_length_8abf5_1 : decode cJ0_length_8abf5 1 = .ok (.getfield 9, 3) := by decide +kernel
theorem dJ0_length_8abf5_4 : decode cJ0_length_8abf5 4 = .ok (.arraylength, 1) := by decide +kernel
theorem dJ0_length_8abf5_5 : decode cJ0_length_8abf5 5 = .ok (.aload_n 0, 1) := by decide +kernel
theorem dJ0_length_8abf5_6 : decode cJ0_length_8abf5 6 = .ok (.invokevirtual 335, 3) := by decide +kernel
theorem dJ0_length_8abf5_9 : decode cJ0_length_8abf5 9 = .ok (.ishr, 1) := by decide +kernel
theorem dJ0_length_8abf5_10 : decode cJ0_length_8abf5 10 = .ok (.ireturn, 1) := by decide +kernel
theorem dJ0_charAt_5068e_0 : decode cJ0_charAt_5068e 0 = .ok (.aload_n 0, 1) := by decide +kernel
theorem dJ0_charAt_5068e_1 : decode cJ0_charAt_5068e 1 = .ok (.invokevirtual 492, 3) := by decide +kernel
theorem dJ0_charAt_5068e_4 : decode cJ0_charAt_5068e 4 = .ok (.ifCond .eq 12, 3) := by decide +kernel
theorem dJ0_charAt_5068e_7 : decode cJ0_charAt_5068e 7 = .ok (.aload_n 0, 1) := by decide +kernel
theorem dJ0_charAt_5068e_8 : decode cJ0_charAt_5068e 8 = .ok (.getfield 9, 3) := by decide +kernel
theorem dJ0_charAt_5068e_11 : decode cJ0_charAt_5068e 11 = .ok (.iload_n 1, 1) := by decide +kernel
theorem dJ0_charAt_5068e_12 : decode cJ0_charAt_5068e 12 = .ok (.invokestatic 495, 3) := by decide +kernel
theorem dJ0_charAt_5068e_15 : decode cJ0_charAt_5068e 15 = .ok (.ireturn, 1) := by decide +kernel
theorem dJ0_charAt_5068e_16 : decode cJ0_charAt_5068e 16 = .ok (.aload_n 0, 1) := by decide +kernel
theorem dJ0_charAt_5068e_17 : decode cJ0_charAt_5068e 17 = .ok (.getfield 9, 3) := by decide +kernel
theorem dJ0_charAt_5068e_20 : decode cJ0_charAt_5068e 20 = .ok (.iload_n 1, 1) := by decide +kernel
theorem dJ0_charAt_5068e_21 : decode cJ0_charAt_5068e 21 = .ok (.invokestatic 498, 3) := by decide +kernel
theorem dJ0_charAt_5068e_24 : decode cJ0_charAt_5068e 24 = .ok (.ireturn, 1) := by decide +kernel
theorem dJ0_coder_7d493_0 : decode cJ0_coder_7d493 0 = .ok (.getstatic 38, 3) := by decide +kernel
theorem dJ0_coder_7d493_3 : decode cJ0_coder_7d493 3 = .ok (.ifCond .eq 10, 3) := by decide +kernel
theorem dJ0_coder_7d493_6 : decode cJ0_coder_7d493 6 = .ok (.aload_n 0, 1) := by decide +kernel
theorem dJ0_coder_7d493_7 : decode cJ0_coder_7d493 7 = .ok (.getfield 15, 3) := by decide +kernel
theorem dJ0_coder_7d493_10 : decode cJ0_coder_7d493 10 = .ok (.goto 4, 3) := by decide +kernel
theorem dJ0_coder_7d493_13 : decode cJ0_coder_7d493 13 = .ok (.iconst 1, 1) := by decide +kernel
theorem dJ0_coder_7d493_14 : decode cJ0_coder_7d493 14 = .ok (.ireturn, 1) := by decide +kernel
theorem dJ0_isLatin1_aae02_0 : decode cJ0_isLatin1_aae02 0 = .ok (.getstatic 38, 3) := by decide +kernel
theorem dJ0_isLatin1_aae02_3 : decode cJ0_isLatin1_aae02 3 = .ok (.ifCond .eq 14, 3) := by decide +kernel
theorem dJ0_isLatin1_aae02_6 : decode cJ0_isLatin1_aae02 6 = .ok (.aload_n 0, 1) := by decide +kernel
theorem dJ0_isLatin1_aae02_7 : decode cJ0_isLatin1_aae02 7 = .ok (.getfield 15, 3) := by decide +kernel
theorem dJ0_isLatin1_aae02_10 : decode cJ0_isLatin1_aae02 10 = .ok (.ifCond .ne 7, 3) := by decide +kernel
theorem dJ0_isLatin1_aae02_13 : decode cJ0_isLatin1_aae02 13 = .ok (.iconst 1, 1) := by decide +kernel
theorem dJ0_isLatin1_aae02_14 : decode cJ0_isLatin1_aae02 14 = .ok (.goto 4, 3) := by decide +kernel
theorem dJ0_isLatin1_aae02_17 : decode cJ0_isLatin1_aae02 17 = .ok (.iconst 0, 1) := by decide +kernel
theorem dJ0_isLatin1_aae02_18 : decode cJ0_isLatin1_aae02 18 = .ok (.ireturn, 1) := by decide +kernel
theorem dJ0_checkIndex_df160_0 : decode cJ0_checkIndex_df160 0 = .ok (.iload_n 0, 1) := by decide +kernel
theorem dJ0_checkIndex_df160_1 : decode cJ0_checkIndex_df160 1 = .ok (.iload_n 1, 1) := by decide +kernel
theorem dJ0_checkIndex_df160_2 : decode cJ0_checkIndex_df160 2 = .ok (.getstatic 1053, 3) := by decide +kernel
theorem dJ0_checkIndex_df160_5 : decode cJ0_checkIndex_df160 5 = .ok (.invokestatic 1059, 3) := by decide +kernel
theorem dJ0_checkIndex_df160_8 : decode cJ0_checkIndex_df160 8 = .ok (.pop, 1) := by decide +kernel
theorem dJ0_checkIndex_df160_9 : decode cJ0_checkIndex_df160 9 = .ok (.return_, 1) := by decide +kernel
theorem dJ1_charAt_3b067_0 : decode cJ1_charAt_3b067 0 = .ok (.iload_n 1, 1) := by decide +kernel
theorem dJ1_charAt_3b067_1 : decode cJ1_charAt_3b067 1 = .ok (.aload_n 0, 1) := by decide +kernel
theorem dJ1_charAt_3b067_2 : decode cJ1_charAt_3b067 2 = .ok (.arraylength, 1) := by decide +kernel
theorem dJ1_charAt_3b067_3 : decode cJ1_charAt_3b067 3 = .ok (.invokestatic 9, 3) := by decide +kernel
theorem dJ1_charAt_3b067_6 : decode cJ1_charAt_3b067 6 = .ok (.aload_n 0, 1) := by decide +kernel
theorem dJ1_charAt_3b067_7 : decode cJ1_charAt_3b067 7 = .ok (.iload_n 1, 1) := by decide +kernel
theorem dJ1_charAt_3b067_8 : decode cJ1_charAt_3b067 8 = .ok (.baload, 1) := by decide +kernel
theorem dJ1_charAt_3b067_9 : decode cJ1_charAt_3b067 9 = .ok (.sipush 255, 3) := by decide +kernel
theorem dJ1_charAt_3b067_12 : decode cJ1_charAt_3b067 12 = .ok (.iand, 1) := by decide +kernel
theorem dJ1_charAt_3b067_13 : decode cJ1_charAt_3b067 13 = .ok (.i2c, 1) := by decide +kernel
theorem dJ1_charAt_3b067_14 : decode cJ1_charAt_3b067 14 = .ok (.ireturn, 1) := by decide +kernel
theorem dJ2_getChar_3b067_0 : decode cJ2_getChar_3b067 0 = .ok (.getstatic 44, 3) := by decide +kernel
theorem dJ2_getChar_3b067_3 : decode cJ2_getChar_3b067 3 = .ok (.ifCond .ne 25, 3) := by decide +kernel
theorem dJ2_getChar_3b067_6 : decode cJ2_getChar_3b067 6 = .ok (.iload_n 1, 1) := by decide +kernel
theorem dJ2_getChar_3b067_7 : decode cJ2_getChar_3b067 7 = .ok (.ifCond .lt 11, 3) := by decide +kernel
theorem dJ2_getChar_3b067_10 : decode cJ2_getChar_3b067 10 = .ok (.iload_n 1, 1) := by decide +kernel
theorem dJ2_getChar_3b067_11 : decode cJ2_getChar_3b067 11 = .ok (.aload_n 0, 1) := by decide +kernel
theorem dJ2_getChar_3b067_12 : decode cJ2_getChar_3b067 12 = .ok (.invokestatic 48, 3) := by decide +kernel
theorem dJ2_getChar_3b067_15 : decode cJ2_getChar_3b067 15 = .ok (.if_icmp .lt 13, 3) := by decide +kernel
theorem dJ2_getChar_3b067_18 : decode cJ2_getChar_3b067 18 = .ok (.new 52, 3) := by decide +kernel
theorem dJ2_getChar_3b067_21 : decode cJ2_getChar_3b067 21 = .ok (.dup, 1) := by decide +kernel
theorem dJ2_getChar_3b067_22 : decode cJ2_getChar_3b067 22 = .ok (.ldc 54, 2) := by decide +kernel
theorem dJ2_getChar_3b067_24 : decode cJ2_getChar_3b067 24 = .ok (.invokespecial 56, 3) := by decide +kernel
theorem dJ2_getChar_3b067_27 : decode cJ2_getChar_3b067 27 = .ok (.athrow, 1) := by decide +kernel
theorem dJ2_getChar_3b067_28 : decode cJ2_getChar_3b067 28 = .ok (.iload_n 1, 1) := by decide +kernel
theorem dJ2_getChar_3b067_29 : decode cJ2_getChar_3b067 29 = .ok (.iconst 1, 1) := by decide +kernel
theorem dJ2_getChar_3b067_30 : decode cJ2_getChar_3b067 30 = .ok (.ishl, 1) := by decide +kernel
theorem dJ2_getChar_3b067_31 : decode cJ2_getChar_3b067 31 = .ok (.istore_n 1, 1) := by decide +kernel
theorem dJ2_getChar_3b067_32 : decode cJ2_getChar_3b067 32 = .ok (.aload_n 0, 1) := by decide +kernel
theorem dJ2_getChar_3b067_33 : decode cJ2_getChar_3b067 33 = .ok (.iload_n 1, 1) := by decide +kernel
theorem dJ2_getChar_3b067_34 : decode cJ2_getChar_3b067 34 = .ok (.iinc 1 1, 3) := by decide +kernel
theorem dJ2_getChar_3b067_37 : decode cJ2_getChar_3b067 37 = .ok (.baload, 1) := by decide +kernel
theorem dJ2_getChar_3b067_38 : decode cJ2_getChar_3b067 38 = .ok (.sipush 255, 3) := by decide +kernel
theorem dJ2_getChar_3b067_41 : decode cJ2_getChar_3b067 41 = .ok (.iand, 1) := by decide +kernel
theorem dJ2_getChar_3b067_42 : decode cJ2_getChar_3b067 42 = .ok (.getstatic 59, 3) := by decide +kernel
theorem dJ2_getChar_3b067_45 : decode cJ2_getChar_3b067 45 = .ok (.ishl, 1) := by decide +kernel
theorem dJ2_getChar_3b067_46 : decode cJ2_getChar_3b067 46 = .ok (.aload_n 0, 1) := by decide +kernel
theorem dJ2_getChar_3b067_47 : decode cJ2_getChar_3b067 47 = .ok (.iload_n 1, 1) := by decide +kernel
theorem dJ2_getChar_3b067_48 : decode cJ2_getChar_3b067 48 = .ok (.baload, 1) := by decide +kernel
theorem dJ2_getChar_3b067_49 : decode cJ2_getChar_3b067 49 = .ok (.sipush 255, 3) := by decide +kernel
theorem dJ2_getChar_3b067_52 : decode cJ2_getChar_3b067 52 = .ok (.iand, 1) := by decide +kernel
theorem dJ2_getChar_3b067_53 : decode cJ2_getChar_3b067 53 = .ok (.getstatic 63, 3) := by decide +kernel
theorem dJ2_getChar_3b067_56 : decode cJ2_getChar_3b067 56 = .ok (.ishl, 1) := by decide +kernel
theorem dJ2_getChar_3b067_57 : decode cJ2_getChar_3b067 57 = .ok (.ior, 1) := by decide +kernel
theorem dJ2_getChar_3b067_58 : decode cJ2_getChar_3b067 58 = .ok (.i2c, 1) := by decide +kernel
theorem dJ2_getChar_3b067_59 : decode cJ2_getChar_3b067 59 = .ok (.ireturn, 1) := by decide +kernel
theorem dJ2_length_9d52b_0 : decode cJ2_length_9d52b 0 = .ok (.aload_n 0, 1) := by decide +kernel
theorem dJ2_length_9d52b_1 : decode cJ2_length_9d52b 1 = .ok (.arraylength, 1) := by decide +kernel
theorem dJ2_length_9d52b_2 : decode cJ2_length_9d52b 2 = .ok (.iconst 1, 1) := by decide +kernel
theorem dJ2_length_9d52b_3 : decode cJ2_length_9d52b 3 = .ok (.ishr, 1) := by decide +kernel
theorem dJ2_length_9d52b_4 : decode cJ2_length_9d52b 4 = .ok (.ireturn, 1) := by decide +kernel
theorem dJ2_charAt_3b067_0 : decode cJ2_charAt_3b067 0 = .ok (.iload_n 1, 1) := by decide +kernel
theorem dJ2_charAt_3b067_1 : decode cJ2_charAt_3b067 1 = .ok (.aload_n 0, 1) := by decide +kernel
theorem dJ2_charAt_3b067_2 : decode cJ2_charAt_3b067 2 = .ok (.invokestatic 67, 3) := by decide +kernel
theorem dJ2_charAt_3b067_5 : decode cJ2_charAt_3b067 5 = .ok (.aload_n 0, 1) := by decide +kernel
theorem dJ2_charAt_3b067_6 : decode cJ2_charAt_3b067 6 = .ok (.iload_n 1, 1) := by decide +kernel
theorem dJ2_charAt_3b067_7 : decode cJ2_charAt_3b067 7 = .ok (.invokestatic 71, 3) := by decide +kernel
theorem dJ2_charAt_3b067_10 : decode cJ2_charAt_3b067 10 = .ok (.ireturn, 1) := by decide +kernel
theorem dJ2_checkIndex_2214a_0 : decode cJ2_checkIndex_2214a 0 = .ok (.iload_n 0, 1) := by decide +kernel
theorem dJ2_checkIndex_2214a_1 : decode cJ2_checkIndex_2214a 1 = .ok (.aload_n 1, 1) := by decide +kernel
theorem dJ2_checkIndex_2214a_2 : decode cJ2_checkIndex_2214a 2 = .ok (.invokestatic 48, 3) := by decide +kernel
theorem dJ2_checkIndex_2214a_5 : decode cJ2_checkIndex_2214a 5 = .ok (.invokestatic 414, 3) := by decide +kernel
theorem dJ2_checkIndex_2214a_8 : decode cJ2_checkIndex_2214a 8 = .ok (.return_, 1) := by decide +kernel
theorem dJ3_checkIndex_8e157_0 : decode cJ3_checkIndex_8e157 0 = .ok (.iload_n 0, 1) := by decide +kernel
theorem dJ3_checkIndex_8e157_1 : decode cJ3_checkIndex_8e157 1 = .ok (.ifCond .lt 8, 3) := by decide +kernel
theorem dJ3_checkIndex_8e157_4 : decode cJ3_checkIndex_8e157 4 = .ok (.iload_n 0, 1) := by decide +kernel
theorem dJ3_checkIndex_8e157_5 : decode cJ3_checkIndex_8e157 5 = .ok (.iload_n 1, 1) := by decide +kernel
theorem dJ3_checkIndex_8e157_6 : decode cJ3_checkIndex_8e157 6 = .ok (.if_icmp .lt 10, 3) := by decide +kernel
theorem dJ3_checkIndex_8e157_9 : decode cJ3_checkIndex_8e157 9 = .ok (.aload_n 2, 1) := by decide +kernel
theorem dJ3_checkIndex_8e157_10 : decode cJ3_checkIndex_8e157 10 = .ok (.iload_n 0, 1) := by decide +kernel
theorem dJ3_checkIndex_8e157_11 : decode cJ3_checkIndex_8e157 11 = .ok (.iload_n 1, 1) := by decide +kernel
theorem dJ3_checkIndex_8e157_12 : decode cJ3_checkIndex_8e157 12 = .ok (.invokestatic 95, 3) := by decide +kernel
theorem dJ3_checkIndex_8e157_15 : decode cJ3_checkIndex_8e157 15 = .ok (.athrow, 1) := by decide +kernel
theorem dJ3_checkIndex_8e157_16 : decode cJ3_checkIndex_8e157 16 = .ok (.iload_n 0, 1) := by decide +kernel
theorem dJ3_checkIndex_8e157_17 : decode cJ3_checkIndex_8e157 17 = .ok (.ireturn, 1) := by decide +kernel
theorem dL_law_0 : decode cL_law 0 = .ok (.new 7, 3) := by decide +kernel
theorem dL_law_3 : decode cL_law 3 = .ok (.dup, 1) := by decide +kernel
theorem dL_law_4 : decode cL_law 4 = .ok (.invokespecial 9, 3) := by decide +kernel
theorem dL_law_7 : decode cL_law 7 = .ok (.astore_n 1, 1) := by decide +kernel
theorem dL_law_8 : decode cL_law 8 = .ok (.new 10, 3) := by decide +kernel
theorem dL_law_11 : decode cL_law 11 = .ok (.dup, 1) := by decide +kernel
theorem dL_law_12 : decode cL_law 12 = .ok (.invokespecial 12, 3) := by decide +kernel
theorem dL_law_15 : decode cL_law 15 = .ok (.astore_n 2, 1) := by decide +kernel
theorem dL_law_16 : decode cL_law 16 = .ok (.iconst 0, 1) := by decide +kernel
theorem dL_law_17 : decode cL_law 17 = .ok (.istore_n 3, 1) := by decide +kernel
theorem dL_law_18 : decode cL_law 18 = .ok (.iload_n 3, 1) := by decide +kernel
theorem dL_law_19 : decode cL_law 19 = .ok (.aload_n 0, 1) := by decide +kernel
theorem dL_law_20 : decode cL_law 20 = .ok (.arraylength, 1) := by decide +kernel
theorem dL_law_21 : decode cL_law 21 = .ok (.bipush 7, 2) := by decide +kernel
theorem dL_law_23 : decode cL_law 23 = .ok (.isub, 1) := by decide +kernel
theorem dL_law_24 : decode cL_law 24 = .ok (.if_icmp .gt 1406, 3) := by decide +kernel
theorem dL_law_27 : decode cL_law 27 = .ok (.aload_n 0, 1) := by decide +kernel
theorem dL_law_28 : decode cL_law 28 = .ok (.iload_n 3, 1) := by decide +kernel
theorem dL_law_29 : decode cL_law 29 = .ok (.iaload, 1) := by decide +kernel
theorem dL_law_30 : decode cL_law 30 = .ok (.bipush 63, 2) := by decide +kernel
theorem dL_law_32 : decode cL_law 32 = .ok (.iand, 1) := by decide +kernel
theorem dL_law_33 : decode cL_law 33 = .ok (.tableswitch 1391 0 35 #[159, 182, 225, 258, 333, 346, 369, 412, 445, 488, 521, 564, 577, 600, 633, 656, 689, 722, 745, 768, 802, 825, 868, 911, 954, 977, 1000, 1033, 1076, 1130, 1143, 1156, 1199, 1242, 1305, 1358], 159) := by decide +kernel
theorem dL_law_192 : decode cL_law 192 = .ok (.aload_n 1, 1) := by decide +kernel
theorem dL_law_193 : decode cL_law 193 = .ok (.aload_n 0, 1) := by decide +kernel
theorem dL_law_194 : decode cL_law 194 = .ok (.iload_n 3, 1) := by decide +kernel
theorem dL_law_195 : decode cL_law 195 = .ok (.iconst 1, 1) := by decide +kernel
theorem dL_law_196 : decode cL_law 196 = .ok (.iadd, 1) := by decide +kernel
theorem dL_law_197 : decode cL_law 197 = .ok (.iaload, 1) := by decide +kernel
theorem dL_law_198 : decode cL_law 198 = .ok (.invokevirtual 13, 3) := by decide +kernel
theorem dL_law_201 : decode cL_law 201 = .ok (.aload_n 2, 1) := by decide +kernel
theorem dL_law_202 : decode cL_law 202 = .ok (.aload_n 0, 1) := by decide +kernel
theorem dL_law_203 : decode cL_law 203 = .ok (.iload_n 3, 1) := by decide +kernel
theorem dL_law_204 : decode cL_law 204 = .ok (.iconst 1, 1) := by decide +kernel
theorem dL_law_205 : decode cL_law 205 = .ok (.iadd, 1) := by decide +kernel
theorem dL_law_206 : decode cL_law 206 = .ok (.iaload, 1) := by decide +kernel
theorem dL_law_207 : decode cL_law 207 = .ok (.invokevirtual 17, 3) := by decide +kernel
theorem dL_law_210 : decode cL_law 210 = .ok (.if_icmp .eq 1214, 3) := by decide +kernel
theorem dL_law_213 : decode cL_law 213 = .ok (.iconst 0, 1) := by decide +kernel
theorem dL_law_214 : decode cL_law 214 = .ok (.ireturn, 1) := by decide +kernel
theorem dL_law_215 : decode cL_law 215 = .ok (.aload_n 1, 1) := by decide +kernel
theorem dL_law_216 : decode cL_law 216 = .ok (.aload_n 0, 1) := by decide +kernel
theorem dL_law_217 : decode cL_law 217 = .ok (.iload_n 3, 1) := by decide +kernel
theorem dL_law_218 : decode cL_law 218 = .ok (.iconst 1, 1) := by decide +kernel
theorem dL_law_219 : decode cL_law 219 = .ok (.iadd, 1) := by decide +kernel
theorem dL_law_220 : decode cL_law 220 = .ok (.iaload, 1) := by decide +kernel
theorem dL_law_221 : decode cL_law 221 = .ok (.aload_n 0, 1) := by decide +kernel
theorem dL_law_222 : decode cL_law 222 = .ok (.iload_n 3, 1) := by decide +kernel
theorem dL_law_223 : decode cL_law 223 = .ok (.iconst 2, 1) := by decide +kernel
theorem dL_law_224 : decode cL_law 224 = .ok (.iadd, 1) := by decide +kernel
theorem dL_law_225 : decode cL_law 225 = .ok (.iaload, 1) := by decide +kernel
theorem dL_law_226 : decode cL_law 226 = .ok (.aload_n 0, 1) := by decide +kernel
theorem dL_law_227 : decode cL_law 227 = .ok (.iload_n 3, 1) := by decide +kernel
theorem dL_law_228 : decode cL_law 228 = .ok (.iconst 3, 1) := by decide +kernel
theorem dL_law_229 : decode cL_law 229 = .ok (.iadd, 1) := by decide +kernel
theorem dL_law_230 : decode cL_law 230 = .ok (.iaload, 1) := by decide +kernel
theorem dL_law_231 : decode cL_law 231 = .ok (.invokevirtual 18, 3) := by decide +kernel
theorem dL_law_234 : decode cL_law 234 = .ok (.aload_n 2, 1) := by decide +kernel
theorem dL_law_235 : decode cL_law 235 = .ok (.aload_n 0, 1) := by decide +kernel
theorem dL_law_236 : decode cL_law 236 = .ok (.iload_n 3, 1) := by decide +kernel
theorem dL_law_237 : decode cL_law 237 = .ok (.iconst 1, 1) := by decide +kernel
theorem dL_law_238 : decode cL_law 238 = .ok (.iadd, 1) := by decide +kernel
theorem dL_law_239 : decode cL_law 239 = .ok (.iaload, 1) := by decide +kernel
theorem dL_law_240 : decode cL_law 240 = .ok (.aload_n 0, 1) := by decide +kernel
theorem dL_law_241 : decode cL_law 241 = .ok (.iload_n 3, 1) := by decide +kernel
theorem dL_law_242 : decode cL_law 242 = .ok (.iconst 2, 1) := by decide +kernel
theorem dL_law_243 : decode cL_law 243 = .ok (.iadd, 1) := by decide +kernel
theorem dL_law_244 : decode cL_law 244 = .ok (.iaload, 1) := by decide +kernel
theorem dL_law_245 : decode cL_law 245 = .ok (.aload_n 0, 1) := by decide +kernel
theorem dL_law_246 : decode cL_law 246 = .ok (.iload_n 3, 1) := by decide +kernel
theorem dL_law_247 : decode cL_law 247 = .ok (.iconst 3, 1) := by decide +kernel
theorem dL_law_248 : decode cL_law 248 = .ok (.iadd, 1) := by decide +kernel
theorem dL_law_249 : decode cL_law 249 = .ok (.iaload, 1) := by decide +kernel
theorem dL_law_250 : decode cL_law 250 = .ok (.invokevirtual 22, 3) := by decide +kernel
theorem dL_law_253 : decode cL_law 253 = .ok (.if_icmp .eq 1171, 3) := by decide +kernel
theorem dL_law_256 : decode cL_law 256 = .ok (.iconst 0, 1) := by decide +kernel
theorem dL_law_257 : decode cL_law 257 = .ok (.ireturn, 1) := by decide +kernel
theorem dL_law_258 : decode cL_law 258 = .ok (.aload_n 1, 1) := by decide +kernel
theorem dL_law_259 : decode cL_law 259 = .ok (.aload_n 0, 1) := by decide +kernel
theorem dL_law_260 : decode cL_law 260 = .ok (.iload_n 3, 1) := by decide +kernel
theorem dL_law_261 : decode cL_law 261 = .ok (.iconst 1, 1) := by decide +kernel
theorem dL_law_262 : decode cL_law 262 = .ok (.iadd, 1) := by decide +kernel
theorem dL_law_263 : decode cL_law 263 = .ok (.iaload, 1) := by decide +kernel
theorem dL_law_264 : decode cL_law 264 = .ok (.aload_n 0, 1) := by decide +kernel
theorem dL_law_265 : decode cL_law 265 = .ok (.iload_n 3, 1) := by decide +kernel
theorem dL_law_266 : decode cL_law 266 = .ok (.iconst 2, 1) := by decide +kernel
theorem dL_law_267 : decode cL_law 267 = .ok (.iadd, 1) := by decide +kernel
theorem dL_law_268 : decode cL_law 268 = .ok (.iaload, 1) := by decide +kernel
theorem dL_law_269 : decode cL_law 269 = .ok (.invokevirtual 23, 3) := by decide +kernel
theorem dL_law_272 : decode cL_law 272 = .ok (.aload_n 2, 1) := by decide +kernel
theorem dL_law_273 : decode cL_law 273 = .ok (.aload_n 0, 1) := by decide +kernel
theorem dL_law_274 : decode cL_law 274 = .ok (.iload_n 3, 1) := by decide +kernel
theorem dL_law_275 : decode cL_law 275 = .ok (.iconst 1, 1) := by decide +kernel
theorem dL_law_276 : decode cL_law 276 = .ok (.iadd, 1) := by decide +kernel
theorem dL_law_277 : decode cL_law 277 = .ok (.iaload, 1) := by decide +kernel
theorem dL_law_278 : decode cL_law 278 = .ok (.aload_n 0, 1) := by decide +kernel
theorem dL_law_279 : decode cL_law 279 = .ok (.iload_n 3, 1) := by decide +kernel
theorem dL_law_280 : decode cL_law 280 = .ok (.iconst 2, 1) := by decide +kernel
theorem dL_law_281 : decode cL_law 281 = .ok (.iadd, 1) := by decide +kernel
theorem dL_law_282 : decode cL_law 282 = .ok (.iaload, 1) := by decide +kernel
theorem dL_law_283 : decode cL_law 283 = .ok (.invokevirtual 27, 3) := by decide +kernel
theorem dL_law_286 : decode cL_law 286 = .ok (.if_icmp .eq 1138, 3) := by decide +kernel
theorem dL_law_289 : decode cL_law 289 = .ok (.iconst 0, 1) := by decide +kernel
theorem dL_law_290 : decode cL_law 290 = .ok (.ireturn, 1) := by decide +kernel
theorem dL_law_291 : decode cL_law 291 = .ok (.aload_n 1, 1) := by decide +kernel
theorem dL_law_292 : decode cL_law 292 = .ok (.aload_n 0, 1) := by decide +kernel
theorem dL_law_293 : decode cL_law 293 = .ok (.iload_n 3, 1) := by decide +kernel
theorem dL_law_294 : decode cL_law 294 = .ok (.iconst 1, 1) := by decide +kernel
theorem dL_law_295 : decode cL_law 295 = .ok (.iadd, 1) := by decide +kernel
theorem dL_law_296 : decode cL_law 296 = .ok (.iaload, 1) := by decide +kernel
theorem dL_law_297 : decode cL_law 297 = .ok (.aload_n 0, 1) := by decide +kernel
theorem dL_law_298 : decode cL_law 298 = .ok (.iload_n 3, 1) := by decide +kernel
theorem dL_law_299 : decode cL_law 299 = .ok (.iconst 2, 1) := by decide +kernel
theorem dL_law_300 : decode cL_law 300 = .ok (.iadd, 1) := by decide +kernel
theorem dL_law_301 : decode cL_law 301 = .ok (.iaload, 1) := by decide +kernel
theorem dL_law_302 : decode cL_law 302 = .ok (.aload_n 0, 1) := by decide +kernel
theorem dL_law_303 : decode cL_law 303 = .ok (.iload_n 3, 1) := by decide +kernel
theorem dL_law_304 : decode cL_law 304 = .ok (.iconst 3, 1) := by decide +kernel
theorem dL_law_305 : decode cL_law 305 = .ok (.iadd, 1) := by decide +kernel
theorem dL_law_306 : decode cL_law 306 = .ok (.iaload, 1) := by decide +kernel
theorem dL_law_307 : decode cL_law 307 = .ok (.aload_n 0, 1) := by decide +kernel
theorem dL_law_308 : decode cL_law 308 = .ok (.iload_n 3, 1) := by decide +kernel
theorem dL_law_309 : decode cL_law 309 = .ok (.iconst 4, 1) := by decide +kernel
theorem dL_law_310 : decode cL_law 310 = .ok (.iadd, 1) := by decide +kernel
theorem dL_law_311 : decode cL_law 311 = .ok (.iaload, 1) := by decide +kernel
theorem dL_law_312 : decode cL_law 312 = .ok (.aload_n 0, 1) := by decide +kernel
theorem dL_law_313 : decode cL_law 313 = .ok (.iload_n 3, 1) := by decide +kernel
theorem dL_law_314 : decode cL_law 314 = .ok (.iconst 5, 1) := by decide +kernel
theorem dL_law_315 : decode cL_law 315 = .ok (.iadd, 1) := by decide +kernel
theorem dL_law_316 : decode cL_law 316 = .ok (.iaload, 1) := by decide +kernel
theorem dL_law_317 : decode cL_law 317 = .ok (.aload_n 0, 1) := by decide +kernel
theorem dL_law_318 : decode cL_law 318 = .ok (.iload_n 3, 1) := by decide +kernel
theorem dL_law_319 : decode cL_law 319 = .ok (.bipush 6, 2) := by decide +kernel
theorem dL_law_321 : decode cL_law 321 = .ok (.iadd, 1) := by decide +kernel
theorem dL_law_322 : decode cL_law 322 = .ok (.iaload, 1) := by decide +kernel
theorem dL_law_323 : decode cL_law 323 = .ok (.invokevirtual 28, 3) := by decide +kernel
theorem dL_law_326 : decode cL_law 326 = .ok (.aload_n 2, 1) := by decide +kernel
theorem dL_law_327 : decode cL_law 327 = .ok (.aload_n 0, 1) := by decide +kernel
theorem dL_law_328 : decode cL_law 328 = .ok (.iload_n 3, 1) := by decide +kernel
theorem dL_law_329 : decode cL_law 329 = .ok (.iconst 1, 1) := by decide +kernel
theorem dL_law_330 : decode cL_law 330 = .ok (.iadd, 1) := by decide +kernel
theorem dL_law_331 : decode cL_law 331 = .ok (.iaload, 1) := by decide +kernel
theorem dL_law_332 : decode cL_law 332 = .ok (.aload_n 0, 1) := by decide +kernel
theorem dL_law_333 : decode cL_law 333 = .ok (.iload_n 3, 1) := by decide +kernel
theorem dL_law_334 : decode cL_law 334 = .ok (.iconst 2, 1) := by decide +kernel
theorem dL_law_335 : decode cL_law 335 = .ok (.iadd, 1) := by decide +kernel
theorem dL_law_336 : decode cL_law 336 = .ok (.iaload, 1) := by decide +kernel
theorem dL_law_337 : decode cL_law 337 = .ok (.aload_n 0, 1) := by decide +kernel
theorem dL_law_338 : decode cL_law 338 = .ok (.iload_n 3, 1) := by decide +kernel
theorem dL_law_339 : decode cL_law 339 = .ok (.iconst 3, 1) := by decide +kernel
theorem dL_law_340 : decode cL_law 340 = .ok (.iadd, 1) := by decide +kernel
theorem dL_law_341 : decode cL_law 341 = .ok (.iaload, 1) := by decide +kernel
theorem dL_law_342 : decode cL_law 342 = .ok (.aload_n 0, 1) := by decide +kernel
theorem dL_law_343 : decode cL_law 343 = .ok (.iload_n 3, 1) := by decide +kernel
theorem dL_law_344 : decode cL_law 344 = .ok (.iconst 4, 1) := by decide +kernel
theorem dL_law_345 : decode cL_law 345 = .ok (.iadd, 1) := by decide +kernel
theorem dL_law_346 : decode cL_law 346 = .ok (.iaload, 1) := by decide +kernel
theorem dL_law_347 : decode cL_law 347 = .ok (.aload_n 0, 1) := by decide +kernel
theorem dL_law_348 : decode cL_law 348 = .ok (.iload_n 3, 1) := by decide +kernel
theorem dL_law_349 : decode cL_law 349 = .ok (.iconst 5, 1) := by decide +kernel
theorem dL_law_350 : decode cL_law 350 = .ok (.iadd, 1) := by decide +kernel
theorem dL_law_351 : decode cL_law 351 = .ok (.iaload, 1) := by decide +kernel
theorem dL_law_352 : decode cL_law 352 = .ok (.aload_n 0, 1) := by decide +kernel
theorem dL_law_353 : decode cL_law 353 = .ok (.iload_n 3, 1) := by decide +kernel
theorem dL_law_354 : decode cL_law 354 = .ok (.bipush 6, 2) := by decide +kernel
theorem dL_law_356 : decode cL_law 356 = .ok (.iadd, 1) := by decide +kernel
theorem dL_law_357 : decode cL_law 357 = .ok (.iaload, 1) := by decide +kernel
theorem dL_law_358 : decode cL_law 358 = .ok (.invokevirtual 32, 3) := by decide +kernel
theorem dL_law_361 : decode cL_law 361 = .ok (.if_icmp .eq 1063, 3) := by decide +kernel
theorem dL_law_364 : decode cL_law 364 = .ok (.iconst 0, 1) := by decide +kernel
theorem dL_law_365 : decode cL_law 365 = .ok (.ireturn, 1) := by decide +kernel
theorem dL_law_366 : decode cL_law 366 = .ok (.aload_n 1, 1) := by decide +kernel
theorem dL_law_367 : decode cL_law 367 = .ok (.invokevirtual 33, 3) := by decide +kernel
theorem dL_law_370 : decode cL_law 370 = .ok (.aload_n 2, 1) := by decide +kernel
theorem dL_law_371 : decode cL_law 371 = .ok (.invokevirtual 37, 3) := by decide +kernel
theorem dL_law_374 : decode cL_law 374 = .ok (.if_icmp .eq 1050, 3) := by decide +kernel
theorem dL_law_377 : decode cL_law 377 = .ok (.iconst 0, 1) := by decide +kernel
theorem dL_law_378 : decode cL_law 378 = .ok (.ireturn, 1) := by decide +kernel
theorem dL_law_379 : decode cL_law 379 = .ok (.aload_n 1, 1) := by decide +kernel
theorem dL_law_380 : decode cL_law 380 = .ok (.aload_n 0, 1) := by decide +kernel
theorem dL_law_381 : decode cL_law 381 = .ok (.iload_n 3, 1) := by decide +kernel
theorem dL_law_382 : decode cL_law 382 = .ok (.iconst 1, 1) := by decide +kernel
theorem dL_law_383 : decode cL_law 383 = .ok (.iadd, 1) := by decide +kernel
theorem dL_law_384 : decode cL_law 384 = .ok (.iaload, 1) := by decide +kernel
theorem dL_law_385 : decode cL_law 385 = .ok (.invokevirtual 38, 3) := by decide +kernel
theorem dL_law_388 : decode cL_law 388 = .ok (.aload_n 2, 1) := by decide +kernel
theorem dL_law_389 : decode cL_law 389 = .ok (.aload_n 0, 1) := by decide +kernel
theorem dL_law_390 : decode cL_law 390 = .ok (.iload_n 3, 1) := by decide +kernel
theorem dL_law_391 : decode cL_law 391 = .ok (.iconst 1, 1) := by decide +kernel
theorem dL_law_392 : decode cL_law 392 = .ok (.iadd, 1) := by decide +kernel
theorem dL_law_393 : decode cL_law 393 = .ok (.iaload, 1) := by decide +kernel
theorem dL_law_394 : decode cL_law 394 = .ok (.invokevirtual 41, 3) := by decide +kernel
theorem dL_law_397 : decode cL_law 397 = .ok (.if_icmp .eq 1027, 3) := by decide +kernel
theorem dL_law_400 : decode cL_law 400 = .ok (.iconst 0, 1) := by decide +kernel
theorem dL_law_401 : decode cL_law 401 = .ok (.ireturn, 1) := by decide +kernel
theorem dL_law_402 : decode cL_law 402 = .ok (.aload_n 1, 1) := by decide +kernel
theorem dL_law_403 : decode cL_law 403 = .ok (.aload_n 0, 1) := by decide +kernel
theorem dL_law_404 : decode cL_law 404 = .ok (.iload_n 3, 1) := by decide +kernel
theorem dL_law_405 : decode cL_law 405 = .ok (.iconst 1, 1) := by decide +kernel
theorem dL_law_406 : decode cL_law 406 = .ok (.iadd, 1) := by decide +kernel
theorem dL_law_407 : decode cL_law 407 = .ok (.iaload, 1) := by decide +kernel
theorem dL_law_408 : decode cL_law 408 = .ok (.aload_n 0, 1) := by decide +kernel
theorem dL_law_409 : decode cL_law 409 = .ok (.iload_n 3, 1) := by decide +kernel
theorem dL_law_410 : decode cL_law 410 = .ok (.iconst 2, 1) := by decide +kernel
theorem dL_law_411 : decode cL_law 411 = .ok (.iadd, 1) := by decide +kernel
theorem dL_law_412 : decode cL_law 412 = .ok (.iaload, 1) := by decide +kernel
theorem dL_law_413 : decode cL_law 413 = .ok (.aload_n 0, 1) := by decide +kernel
theorem dL_law_414 : decode cL_law 414 = .ok (.iload_n 3, 1) := by decide +kernel
theorem dL_law_415 : decode cL_law 415 = .ok (.iconst 3, 1) := by decide +kernel
theorem dL_law_416 : decode cL_law 416 = .ok (.iadd, 1) := by decide +kernel
theorem dL_law_417 : decode cL_law 417 = .ok (.iaload, 1) := by decide +kernel
theorem dL_law_418 : decode cL_law 418 = .ok (.invokevirtual 42, 3) := by decide +kernel
theorem dL_law_421 : decode cL_law 421 = .ok (.aload_n 2, 1) := by decide +kernel
theorem dL_law_422 : decode cL_law 422 = .ok (.aload_n 0, 1) := by decide +kernel
theorem dL_law_423 : decode cL_law 423 = .ok (.iload_n 3, 1) := by decide +kernel
theorem dL_law_424 : decode cL_law 424 = .ok (.iconst 1, 1) := by decide +kernel
theorem dL_law_425 : decode cL_law 425 = .ok (.iadd, 1) := by decide +kernel
theorem dL_law_426 : decode cL_law 426 = .ok (.iaload, 1) := by decide +kernel
theorem dL_law_427 : decode cL_law 427 = .ok (.aload_n 0, 1) := by decide +kernel
theorem dL_law_428 : decode cL_law 428 = .ok (.iload_n 3, 1) := by decide +kernel
theorem dL_law_429 : decode cL_law 429 = .ok (.iconst 2, 1) := by decide +kernel
theorem dL_law_430 : decode cL_law 430 = .ok (.iadd, 1) := by decide +kernel
theorem dL_law_431 : decode cL_law 431 = .ok (.iaload, 1) := by decide +kernel
theorem dL_law_432 : decode cL_law 432 = .ok (.aload_n 0, 1) := by decide +kernel
theorem dL_law_433 : decode cL_law 433 = .ok (.iload_n 3, 1) := by decide +kernel
theorem dL_law_434 : decode cL_law 434 = .ok (.iconst 3, 1) := by decide +kernel
theorem dL_law_435 : decode cL_law 435 = .ok (.iadd, 1) := by decide +kernel
theorem dL_law_436 : decode cL_law 436 = .ok (.iaload, 1) := by decide +kernel
theorem dL_law_437 : decode cL_law 437 = .ok (.invokevirtual 45, 3) := by decide +kernel
theorem dL_law_440 : decode cL_law 440 = .ok (.if_icmp .eq 984, 3) := by decide +kernel
theorem dL_law_443 : decode cL_law 443 = .ok (.iconst 0, 1) := by decide +kernel
theorem dL_law_444 : decode cL_law 444 = .ok (.ireturn, 1) := by decide +kernel
theorem dL_law_445 : decode cL_law 445 = .ok (.aload_n 1, 1) := by decide +kernel
theorem dL_law_446 : decode cL_law 446 = .ok (.aload_n 0, 1) := by decide +kernel
theorem dL_law_447 : decode cL_law 447 = .ok (.iload_n 3, 1) := by decide +kernel
theorem dL_law_448 : decode cL_law 448 = .ok (.iconst 1, 1) := by decide +kernel
theorem dL_law_449 : decode cL_law 449 = .ok (.iadd, 1) := by decide +kernel
theorem dL_law_450 : decode cL_law 450 = .ok (.iaload, 1) := by decide +kernel
theorem dL_law_451 : decode cL_law 451 = .ok (.aload_n 0, 1) := by decide +kernel
theorem dL_law_452 : decode cL_law 452 = .ok (.iload_n 3, 1) := by decide +kernel
theorem dL_law_453 : decode cL_law 453 = .ok (.iconst 2, 1) := by decide +kernel
theorem dL_law_454 : decode cL_law 454 = .ok (.iadd, 1) := by decide +kernel
theorem dL_law_455 : decode cL_law 455 = .ok (.iaload, 1) := by decide +kernel
theorem dL_law_456 : decode cL_law 456 = .ok (.invokevirtual 46, 3) := by decide +kernel
theorem dL_law_459 : decode cL_law 459 = .ok (.aload_n 2, 1) := by decide +kernel
theorem dL_law_460 : decode cL_law 460 = .ok (.aload_n 0, 1) := by decide +kernel
theorem dL_law_461 : decode cL_law 461 = .ok (.iload_n 3, 1) := by decide +kernel
theorem dL_law_462 : decode cL_law 462 = .ok (.iconst 1, 1) := by decide +kernel
theorem dL_law_463 : decode cL_law 463 = .ok (.iadd, 1) := by decide +kernel
theorem dL_law_464 : decode cL_law 464 = .ok (.iaload, 1) := by decide +kernel
theorem dL_law_465 : decode cL_law 465 = .ok (.aload_n 0, 1) := by decide +kernel
theorem dL_law_466 : decode cL_law 466 = .ok (.iload_n 3, 1) := by decide +kernel
theorem dL_law_467 : decode cL_law 467 = .ok (.iconst 2, 1) := by decide +kernel
theorem dL_law_468 : decode cL_law 468 = .ok (.iadd, 1) := by decide +kernel
theorem dL_law_469 : decode cL_law 469 = .ok (.iaload, 1) := by decide +kernel
theorem dL_law_470 : decode cL_law 470 = .ok (.invokevirtual 49, 3) := by decide +kernel
theorem dL_law_473 : decode cL_law 473 = .ok (.if_icmp .eq 951, 3) := by decide +kernel
theorem dL_law_476 : decode cL_law 476 = .ok (.iconst 0, 1) := by decide +kernel
theorem dL_law_477 : decode cL_law 477 = .ok (.ireturn, 1) := by decide +kernel
theorem dL_law_478 : decode cL_law 478 = .ok (.aload_n 1, 1) := by decide +kernel
theorem dL_law_479 : decode cL_law 479 = .ok (.aload_n 0, 1) := by decide +kernel
theorem dL_law_480 : decode cL_law 480 = .ok (.iload_n 3, 1) := by decide +kernel
theorem dL_law_481 : decode cL_law 481 = .ok (.iconst 1, 1) := by decide +kernel
theorem dL_law_482 : decode cL_law 482 = .ok (.iadd, 1) := by decide +kernel
theorem dL_law_483 : decode cL_law 483 = .ok (.iaload, 1) := by decide +kernel
theorem dL_law_484 : decode cL_law 484 = .ok (.aload_n 0, 1) := by decide +kernel
theorem dL_law_485 : decode cL_law 485 = .ok (.iload_n 3, 1) := by decide +kernel
theorem dL_law_486 : decode cL_law 486 = .ok (.iconst 2, 1) := by decide +kernel
theorem dL_law_487 : decode cL_law 487 = .ok (.iadd, 1) := by decide +kernel
theorem dL_law_488 : decode cL_law 488 = .ok (.iaload, 1) := by decide +kernel
theorem dL_law_489 : decode cL_law 489 = .ok (.aload_n 0, 1) := by decide +kernel
theorem dL_law_490 : decode cL_law 490 = .ok (.iload_n 3, 1) := by decide +kernel
theorem dL_law_491 : decode cL_law 491 = .ok (.iconst 3, 1) := by decide +kernel
theorem dL_law_492 : decode cL_law 492 = .ok (.iadd, 1) := by decide +kernel
theorem dL_law_493 : decode cL_law 493 = .ok (.iaload, 1) := by decide +kernel
theorem dL_law_494 : decode cL_law 494 = .ok (.invokevirtual 50, 3) := by decide +kernel
theorem dL_law_497 : decode cL_law 497 = .ok (.aload_n 2, 1) := by decide +kernel
theorem dL_law_498 : decode cL_law 498 = .ok (.aload_n 0, 1) := by decide +kernel
theorem dL_law_499 : decode cL_law 499 = .ok (.iload_n 3, 1) := by decide +kernel
theorem dL_law_500 : decode cL_law 500 = .ok (.iconst 1, 1) := by decide +kernel
theorem dL_law_501 : decode cL_law 501 = .ok (.iadd, 1) := by decide +kernel
theorem dL_law_502 : decode cL_law 502 = .ok (.iaload, 1) := by decide +kernel
theorem dL_law_503 : decode cL_law 503 = .ok (.aload_n 0, 1) := by decide +kernel
theorem dL_law_504 : decode cL_law 504 = .ok (.iload_n 3, 1) := by decide +kernel
theorem dL_law_505 : decode cL_law 505 = .ok (.iconst 2, 1) := by decide +kernel
theorem dL_law_506 : decode cL_law 506 = .ok (.iadd, 1) := by decide +kernel
theorem dL_law_507 : decode cL_law 507 = .ok (.iaload, 1) := by decide +kernel
theorem dL_law_508 : decode cL_law 508 = .ok (.aload_n 0, 1) := by decide +kernel
theorem dL_law_509 : decode cL_law 509 = .ok (.iload_n 3, 1) := by decide +kernel
theorem dL_law_510 : decode cL_law 510 = .ok (.iconst 3, 1) := by decide +kernel
theorem dL_law_511 : decode cL_law 511 = .ok (.iadd, 1) := by decide +kernel
theorem dL_law_512 : decode cL_law 512 = .ok (.iaload, 1) := by decide +kernel
theorem dL_law_513 : decode cL_law 513 = .ok (.invokevirtual 53, 3) := by decide +kernel
theorem dL_law_516 : decode cL_law 516 = .ok (.if_icmp .eq 908, 3) := by decide +kernel
theorem dL_law_519 : decode cL_law 519 = .ok (.iconst 0, 1) := by decide +kernel
theorem dL_law_520 : decode cL_law 520 = .ok (.ireturn, 1) := by decide +kernel
theorem dL_law_521 : decode cL_law 521 = .ok (.aload_n 1, 1) := by decide +kernel
theorem dL_law_522 : decode cL_law 522 = .ok (.aload_n 0, 1) := by decide +kernel
theorem dL_law_523 : decode cL_law 523 = .ok (.iload_n 3, 1) := by decide +kernel
theorem dL_law_524 : decode cL_law 524 = .ok (.iconst 1, 1) := by decide +kernel
theorem dL_law_525 : decode cL_law 525 = .ok (.iadd, 1) := by decide +kernel
theorem dL_law_526 : decode cL_law 526 = .ok (.iaload, 1) := by decide +kernel
theorem dL_law_527 : decode cL_law 527 = .ok (.aload_n 0, 1) := by decide +kernel
theorem dL_law_528 : decode cL_law 528 = .ok (.iload_n 3, 1) := by decide +kernel
theorem dL_law_529 : decode cL_law 529 = .ok (.iconst 2, 1) := by decide +kernel
theorem dL_law_530 : decode cL_law 530 = .ok (.iadd, 1) := by decide +kernel
theorem dL_law_531 : decode cL_law 531 = .ok (.iaload, 1) := by decide +kernel
theorem dL_law_532 : decode cL_law 532 = .ok (.invokevirtual 54, 3) := by decide +kernel
theorem dL_law_535 : decode cL_law 535 = .ok (.aload_n 2, 1) := by decide +kernel
theorem dL_law_536 : decode cL_law 536 = .ok (.aload_n 0, 1) := by decide +kernel
theorem dL_law_537 : decode cL_law 537 = .ok (.iload_n 3, 1) := by decide +kernel
theorem dL_law_538 : decode cL_law 538 = .ok (.iconst 1, 1) := by decide +kernel
theorem dL_law_539 : decode cL_law 539 = .ok (.iadd, 1) := by decide +kernel
theorem dL_law_540 : decode cL_law 540 = .ok (.iaload, 1) := by decide +kernel
theorem dL_law_541 : decode cL_law 541 = .ok (.aload_n 0, 1) := by decide +kernel
theorem dL_law_542 : decode cL_law 542 = .ok (.iload_n 3, 1) := by decide +kernel
theorem dL_law_543 : decode cL_law 543 = .ok (.iconst 2, 1) := by decide +kernel
theorem dL_law_544 : decode cL_law 544 = .ok (.iadd, 1) := by decide +kernel
theorem dL_law_545 : decode cL_law 545 = .ok (.iaload, 1) := by decide +kernel
theorem dL_law_546 : decode cL_law 546 = .ok (.invokevirtual 57, 3) := by decide +kernel
theorem dL_law_549 : decode cL_law 549 = .ok (.if_icmp .eq 875, 3) := by decide +kernel
theorem dL_law_552 : decode cL_law 552 = .ok (.iconst 0, 1) := by decide +kernel
theorem dL_law_553 : decode cL_law 553 = .ok (.ireturn, 1) := by decide +kernel
theorem dL_law_554 : decode cL_law 554 = .ok (.aload_n 1, 1) := by decide +kernel
theorem dL_law_555 : decode cL_law 555 = .ok (.aload_n 0, 1) := by decide +kernel
theorem dL_law_556 : decode cL_law 556 = .ok (.iload_n 3, 1) := by decide +kernel
theorem dL_law_557 : decode cL_law 557 = .ok (.iconst 1, 1) := by decide +kernel
theorem dL_law_558 : decode cL_law 558 = .ok (.iadd, 1) := by decide +kernel
theorem dL_law_559 : decode cL_law 559 = .ok (.iaload, 1) := by decide +kernel
theorem dL_law_560 : decode cL_law 560 = .ok (.aload_n 0, 1) := by decide +kernel
theorem dL_law_561 : decode cL_law 561 = .ok (.iload_n 3, 1) := by decide +kernel
theorem dL_law_562 : decode cL_law 562 = .ok (.iconst 2, 1) := by decide +kernel
theorem dL_law_563 : decode cL_law 563 = .ok (.iadd, 1) := by decide +kernel
theorem dL_law_564 : decode cL_law 564 = .ok (.iaload, 1) := by decide +kernel
theorem dL_law_565 : decode cL_law 565 = .ok (.aload_n 0, 1) := by decide +kernel
theorem dL_law_566 : decode cL_law 566 = .ok (.iload_n 3, 1) := by decide +kernel
theorem dL_law_567 : decode cL_law 567 = .ok (.iconst 3, 1) := by decide +kernel
theorem dL_law_568 : decode cL_law 568 = .ok (.iadd, 1) := by decide +kernel
theorem dL_law_569 : decode cL_law 569 = .ok (.iaload, 1) := by decide +kernel
theorem dL_law_570 : decode cL_law 570 = .ok (.invokevirtual 58, 3) := by decide +kernel
theorem dL_law_573 : decode cL_law 573 = .ok (.aload_n 2, 1) := by decide +kernel
theorem dL_law_574 : decode cL_law 574 = .ok (.aload_n 0, 1) := by decide +kernel
theorem dL_law_575 : decode cL_law 575 = .ok (.iload_n 3, 1) := by decide +kernel
theorem dL_law_576 : decode cL_law 576 = .ok (.iconst 1, 1) := by decide +kernel
theorem dL_law_577 : decode cL_law 577 = .ok (.iadd, 1) := by decide +kernel
theorem dL_law_578 : decode cL_law 578 = .ok (.iaload, 1) := by decide +kernel
theorem dL_law_579 : decode cL_law 579 = .ok (.aload_n 0, 1) := by decide +kernel
theorem dL_law_580 : decode cL_law 580 = .ok (.iload_n 3, 1) := by decide +kernel
theorem dL_law_581 : decode cL_law 581 = .ok (.iconst 2, 1) := by decide +kernel
theorem dL_law_582 : decode cL_law 582 = .ok (.iadd, 1) := by decide +kernel
theorem dL_law_583 : decode cL_law 583 = .ok (.iaload, 1) := by decide +kernel
theorem dL_law_584 : decode cL_law 584 = .ok (.aload_n 0, 1) := by decide +kernel
theorem dL_law_585 : decode cL_law 585 = .ok (.iload_n 3, 1) := by decide +kernel
theorem dL_law_586 : decode cL_law 586 = .ok (.iconst 3, 1) := by decide +kernel
theorem dL_law_587 : decode cL_law 587 = .ok (.iadd, 1) := by decide +kernel
theorem dL_law_588 : decode cL_law 588 = .ok (.iaload, 1) := by decide +kernel
theorem dL_law_589 : decode cL_law 589 = .ok (.invokevirtual 61, 3) := by decide +kernel
theorem dL_law_592 : decode cL_law 592 = .ok (.if_icmp .eq 832, 3) := by decide +kernel
theorem dL_law_595 : decode cL_law 595 = .ok (.iconst 0, 1) := by decide +kernel
theorem dL_law_596 : decode cL_law 596 = .ok (.ireturn, 1) := by decide +kernel
theorem dL_law_597 : decode cL_law 597 = .ok (.aload_n 1, 1) := by decide +kernel
theorem dL_law_598 : decode cL_law 598 = .ok (.invokevirtual 62, 3) := by decide +kernel
theorem dL_law_601 : decode cL_law 601 = .ok (.aload_n 2, 1) := by decide +kernel
theorem dL_law_602 : decode cL_law 602 = .ok (.invokevirtual 65, 3) := by decide +kernel
theorem dL_law_605 : decode cL_law 605 = .ok (.if_icmp .eq 819, 3) := by decide +kernel
theorem dL_law_608 : decode cL_law 608 = .ok (.iconst 0, 1) := by decide +kernel
theorem dL_law_609 : decode cL_law 609 = .ok (.ireturn, 1) := by decide +kernel
theorem dL_law_610 : decode cL_law 610 = .ok (.aload_n 1, 1) := by decide +kernel
theorem dL_law_611 : decode cL_law 611 = .ok (.aload_n 0, 1) := by decide +kernel
theorem dL_law_612 : decode cL_law 612 = .ok (.iload_n 3, 1) := by decide +kernel
theorem dL_law_613 : decode cL_law 613 = .ok (.iconst 1, 1) := by decide +kernel
theorem dL_law_614 : decode cL_law 614 = .ok (.iadd, 1) := by decide +kernel
theorem dL_law_615 : decode cL_law 615 = .ok (.iaload, 1) := by decide +kernel
theorem dL_law_616 : decode cL_law 616 = .ok (.invokevirtual 66, 3) := by decide +kernel
theorem dL_law_619 : decode cL_law 619 = .ok (.aload_n 2, 1) := by decide +kernel
theorem dL_law_620 : decode cL_law 620 = .ok (.aload_n 0, 1) := by decide +kernel
theorem dL_law_621 : decode cL_law 621 = .ok (.iload_n 3, 1) := by decide +kernel
theorem dL_law_622 : decode cL_law 622 = .ok (.iconst 1, 1) := by decide +kernel
theorem dL_law_623 : decode cL_law 623 = .ok (.iadd, 1) := by decide +kernel
theorem dL_law_624 : decode cL_law 624 = .ok (.iaload, 1) := by decide +kernel
theorem dL_law_625 : decode cL_law 625 = .ok (.invokevirtual 69, 3) := by decide +kernel
theorem dL_law_628 : decode cL_law 628 = .ok (.if_icmp .eq 796, 3) := by decide +kernel
theorem dL_law_631 : decode cL_law 631 = .ok (.iconst 0, 1) := by decide +kernel
theorem dL_law_632 : decode cL_law 632 = .ok (.ireturn, 1) := by decide +kernel
theorem dL_law_633 : decode cL_law 633 = .ok (.aload_n 1, 1) := by decide +kernel
theorem dL_law_634 : decode cL_law 634 = .ok (.aload_n 0, 1) := by decide +kernel
theorem dL_law_635 : decode cL_law 635 = .ok (.iload_n 3, 1) := by decide +kernel
theorem dL_law_636 : decode cL_law 636 = .ok (.iconst 1, 1) := by decide +kernel
theorem dL_law_637 : decode cL_law 637 = .ok (.iadd, 1) := by decide +kernel
theorem dL_law_638 : decode cL_law 638 = .ok (.iaload, 1) := by decide +kernel
theorem dL_law_639 : decode cL_law 639 = .ok (.aload_n 0, 1) := by decide +kernel
theorem dL_law_640 : decode cL_law 640 = .ok (.iload_n 3, 1) := by decide +kernel
theorem dL_law_641 : decode cL_law 641 = .ok (.iconst 2, 1) := by decide +kernel
theorem dL_law_642 : decode cL_law 642 = .ok (.iadd, 1) := by decide +kernel
theorem dL_law_643 : decode cL_law 643 = .ok (.iaload, 1) := by decide +kernel
theorem dL_law_644 : decode cL_law 644 = .ok (.invokevirtual 70, 3) := by decide +kernel
theorem dL_law_647 : decode cL_law 647 = .ok (.aload_n 2, 1) := by decide +kernel
theorem dL_law_648 : decode cL_law 648 = .ok (.aload_n 0, 1) := by decide +kernel
theorem dL_law_649 : decode cL_law 649 = .ok (.iload_n 3, 1) := by decide +kernel
theorem dL_law_650 : decode cL_law 650 = .ok (.iconst 1, 1) := by decide +kernel
theorem dL_law_651 : decode cL_law 651 = .ok (.iadd, 1) := by decide +kernel
theorem dL_law_652 : decode cL_law 652 = .ok (.iaload, 1) := by decide +kernel
theorem dL_law_653 : decode cL_law 653 = .ok (.aload_n 0, 1) := by decide +kernel
theorem dL_law_654 : decode cL_law 654 = .ok (.iload_n 3, 1) := by decide +kernel
theorem dL_law_655 : decode cL_law 655 = .ok (.iconst 2, 1) := by decide +kernel
theorem dL_law_656 : decode cL_law 656 = .ok (.iadd, 1) := by decide +kernel
theorem dL_law_657 : decode cL_law 657 = .ok (.iaload, 1) := by decide +kernel
theorem dL_law_658 : decode cL_law 658 = .ok (.invokevirtual 73, 3) := by decide +kernel
theorem dL_law_661 : decode cL_law 661 = .ok (.if_icmp .eq 763, 3) := by decide +kernel
theorem dL_law_664 : decode cL_law 664 = .ok (.iconst 0, 1) := by decide +kernel
theorem dL_law_665 : decode cL_law 665 = .ok (.ireturn, 1) := by decide +kernel
theorem dL_law_666 : decode cL_law 666 = .ok (.aload_n 1, 1) := by decide +kernel
theorem dL_law_667 : decode cL_law 667 = .ok (.aload_n 0, 1) := by decide +kernel
theorem dL_law_668 : decode cL_law 668 = .ok (.iload_n 3, 1) := by decide +kernel
theorem dL_law_669 : decode cL_law 669 = .ok (.iconst 1, 1) := by decide +kernel
theorem dL_law_670 : decode cL_law 670 = .ok (.iadd, 1) := by decide +kernel
theorem dL_law_671 : decode cL_law 671 = .ok (.iaload, 1) := by decide +kernel
theorem dL_law_672 : decode cL_law 672 = .ok (.invokevirtual 74, 3) := by decide +kernel
theorem dL_law_675 : decode cL_law 675 = .ok (.aload_n 2, 1) := by decide +kernel
theorem dL_law_676 : decode cL_law 676 = .ok (.aload_n 0, 1) := by decide +kernel
theorem dL_law_677 : decode cL_law 677 = .ok (.iload_n 3, 1) := by decide +kernel
theorem dL_law_678 : decode cL_law 678 = .ok (.iconst 1, 1) := by decide +kernel
theorem dL_law_679 : decode cL_law 679 = .ok (.iadd, 1) := by decide +kernel
theorem dL_law_680 : decode cL_law 680 = .ok (.iaload, 1) := by decide +kernel
theorem dL_law_681 : decode cL_law 681 = .ok (.invokevirtual 77, 3) := by decide +kernel
theorem dL_law_684 : decode cL_law 684 = .ok (.if_icmp .eq 740, 3) := by decide +kernel
theorem dL_law_687 : decode cL_law 687 = .ok (.iconst 0, 1) := by decide +kernel
theorem dL_law_688 : decode cL_law 688 = .ok (.ireturn, 1) := by decide +kernel
theorem dL_law_689 : decode cL_law 689 = .ok (.aload_n 1, 1) := by decide +kernel
theorem dL_law_690 : decode cL_law 690 = .ok (.aload_n 0, 1) := by decide +kernel
theorem dL_law_691 : decode cL_law 691 = .ok (.iload_n 3, 1) := by decide +kernel
theorem dL_law_692 : decode cL_law 692 = .ok (.iconst 1, 1) := by decide +kernel
theorem dL_law_693 : decode cL_law 693 = .ok (.iadd, 1) := by decide +kernel
theorem dL_law_694 : decode cL_law 694 = .ok (.iaload, 1) := by decide +kernel
theorem dL_law_695 : decode cL_law 695 = .ok (.aload_n 0, 1) := by decide +kernel
theorem dL_law_696 : decode cL_law 696 = .ok (.iload_n 3, 1) := by decide +kernel
theorem dL_law_697 : decode cL_law 697 = .ok (.iconst 2, 1) := by decide +kernel
theorem dL_law_698 : decode cL_law 698 = .ok (.iadd, 1) := by decide +kernel
theorem dL_law_699 : decode cL_law 699 = .ok (.iaload, 1) := by decide +kernel
theorem dL_law_700 : decode cL_law 700 = .ok (.invokevirtual 78, 3) := by decide +kernel
theorem dL_law_703 : decode cL_law 703 = .ok (.aload_n 2, 1) := by decide +kernel
theorem dL_law_704 : decode cL_law 704 = .ok (.aload_n 0, 1) := by decide +kernel
theorem dL_law_705 : decode cL_law 705 = .ok (.iload_n 3, 1) := by decide +kernel
theorem dL_law_706 : decode cL_law 706 = .ok (.iconst 1, 1) := by decide +kernel
theorem dL_law_707 : decode cL_law 707 = .ok (.iadd, 1) := by decide +kernel
theorem dL_law_708 : decode cL_law 708 = .ok (.iaload, 1) := by decide +kernel
theorem dL_law_709 : decode cL_law 709 = .ok (.aload_n 0, 1) := by decide +kernel
theorem dL_law_710 : decode cL_law 710 = .ok (.iload_n 3, 1) := by decide +kernel
theorem dL_law_711 : decode cL_law 711 = .ok (.iconst 2, 1) := by decide +kernel
theorem dL_law_712 : decode cL_law 712 = .ok (.iadd, 1) := by decide +kernel
theorem dL_law_713 : decode cL_law 713 = .ok (.iaload, 1) := by decide +kernel
theorem dL_law_714 : decode cL_law 714 = .ok (.invokevirtual 81, 3) := by decide +kernel
theorem dL_law_717 : decode cL_law 717 = .ok (.if_icmp .eq 707, 3) := by decide +kernel
theorem dL_law_720 : decode cL_law 720 = .ok (.iconst 0, 1) := by decide +kernel
theorem dL_law_721 : decode cL_law 721 = .ok (.ireturn, 1) := by decide +kernel
theorem dL_law_722 : decode cL_law 722 = .ok (.aload_n 1, 1) := by decide +kernel
theorem dL_law_723 : decode cL_law 723 = .ok (.aload_n 0, 1) := by decide +kernel
theorem dL_law_724 : decode cL_law 724 = .ok (.iload_n 3, 1) := by decide +kernel
theorem dL_law_725 : decode cL_law 725 = .ok (.iconst 1, 1) := by decide +kernel
theorem dL_law_726 : decode cL_law 726 = .ok (.iadd, 1) := by decide +kernel
theorem dL_law_727 : decode cL_law 727 = .ok (.iaload, 1) := by decide +kernel
theorem dL_law_728 : decode cL_law 728 = .ok (.aload_n 0, 1) := by decide +kernel
theorem dL_law_729 : decode cL_law 729 = .ok (.iload_n 3, 1) := by decide +kernel
theorem dL_law_730 : decode cL_law 730 = .ok (.iconst 2, 1) := by decide +kernel
theorem dL_law_731 : decode cL_law 731 = .ok (.iadd, 1) := by decide +kernel
theorem dL_law_732 : decode cL_law 732 = .ok (.iaload, 1) := by decide +kernel
theorem dL_law_733 : decode cL_law 733 = .ok (.invokevirtual 82, 3) := by decide +kernel
theorem dL_law_736 : decode cL_law 736 = .ok (.aload_n 2, 1) := by decide +kernel
theorem dL_law_737 : decode cL_law 737 = .ok (.aload_n 0, 1) := by decide +kernel
theorem dL_law_738 : decode cL_law 738 = .ok (.iload_n 3, 1) := by decide +kernel
theorem dL_law_739 : decode cL_law 739 = .ok (.iconst 1, 1) := by decide +kernel
theorem dL_law_740 : decode cL_law 740 = .ok (.iadd, 1) := by decide +kernel
theorem dL_law_741 : decode cL_law 741 = .ok (.iaload, 1) := by decide +kernel
theorem dL_law_742 : decode cL_law 742 = .ok (.aload_n 0, 1) := by decide +kernel
theorem dL_law_743 : decode cL_law 743 = .ok (.iload_n 3, 1) := by decide +kernel
theorem dL_law_744 : decode cL_law 744 = .ok (.iconst 2, 1) := by decide +kernel
theorem dL_law_745 : decode cL_law 745 = .ok (.iadd, 1) := by decide +kernel
theorem dL_law_746 : decode cL_law 746 = .ok (.iaload, 1) := by decide +kernel
theorem dL_law_747 : decode cL_law 747 = .ok (.invokevirtual 85, 3) := by decide +kernel
theorem dL_law_750 : decode cL_law 750 = .ok (.if_icmp .eq 674, 3) := by decide +kernel
theorem dL_law_753 : decode cL_law 753 = .ok (.iconst 0, 1) := by decide +kernel
theorem dL_law_754 : decode cL_law 754 = .ok (.ireturn, 1) := by decide +kernel
theorem dL_law_755 : decode cL_law 755 = .ok (.aload_n 1, 1) := by decide +kernel
theorem dL_law_756 : decode cL_law 756 = .ok (.aload_n 0, 1) := by decide +kernel
theorem dL_law_757 : decode cL_law 757 = .ok (.iload_n 3, 1) := by decide +kernel
theorem dL_law_758 : decode cL_law 758 = .ok (.iconst 1, 1) := by decide +kernel
theorem dL_law_759 : decode cL_law 759 = .ok (.iadd, 1) := by decide +kernel
theorem dL_law_760 : decode cL_law 760 = .ok (.iaload, 1) := by decide +kernel
theorem dL_law_761 : decode cL_law 761 = .ok (.invokevirtual 86, 3) := by decide +kernel
theorem dL_law_764 : decode cL_law 764 = .ok (.aload_n 2, 1) := by decide +kernel
theorem dL_law_765 : decode cL_law 765 = .ok (.aload_n 0, 1) := by decide +kernel
theorem dL_law_766 : decode cL_law 766 = .ok (.iload_n 3, 1) := by decide +kernel
theorem dL_law_767 : decode cL_law 767 = .ok (.iconst 1, 1) := by decide +kernel
theorem dL_law_768 : decode cL_law 768 = .ok (.iadd, 1) := by decide +kernel
theorem dL_law_769 : decode cL_law 769 = .ok (.iaload, 1) := by decide +kernel
theorem dL_law_770 : decode cL_law 770 = .ok (.invokevirtual 89, 3) := by decide +kernel
theorem dL_law_773 : decode cL_law 773 = .ok (.if_icmp .eq 651, 3) := by decide +kernel
theorem dL_law_776 : decode cL_law 776 = .ok (.iconst 0, 1) := by decide +kernel
theorem dL_law_777 : decode cL_law 777 = .ok (.ireturn, 1) := by decide +kernel
theorem dL_law_778 : decode cL_law 778 = .ok (.aload_n 1, 1) := by decide +kernel
theorem dL_law_779 : decode cL_law 779 = .ok (.aload_n 0, 1) := by decide +kernel
theorem dL_law_780 : decode cL_law 780 = .ok (.iload_n 3, 1) := by decide +kernel
theorem dL_law_781 : decode cL_law 781 = .ok (.iconst 1, 1) := by decide +kernel
theorem dL_law_782 : decode cL_law 782 = .ok (.iadd, 1) := by decide +kernel
theorem dL_law_783 : decode cL_law 783 = .ok (.iaload, 1) := by decide +kernel
theorem dL_law_784 : decode cL_law 784 = .ok (.invokevirtual 90, 3) := by decide +kernel
theorem dL_law_787 : decode cL_law 787 = .ok (.aload_n 2, 1) := by decide +kernel
theorem dL_law_788 : decode cL_law 788 = .ok (.aload_n 0, 1) := by decide +kernel
theorem dL_law_789 : decode cL_law 789 = .ok (.iload_n 3, 1) := by decide +kernel
theorem dL_law_790 : decode cL_law 790 = .ok (.iconst 1, 1) := by decide +kernel
theorem dL_law_791 : decode cL_law 791 = .ok (.iadd, 1) := by decide +kernel
theorem dL_law_792 : decode cL_law 792 = .ok (.iaload, 1) := by decide +kernel
theorem dL_law_793 : decode cL_law 793 = .ok (.invokevirtual 93, 3) := by decide +kernel
theorem dL_law_796 : decode cL_law 796 = .ok (.if_icmp .eq 628, 3) := by decide +kernel
theorem dL_law_799 : decode cL_law 799 = .ok (.iconst 0, 1) := by decide +kernel
theorem dL_law_800 : decode cL_law 800 = .ok (.ireturn, 1) := by decide +kernel
theorem dL_law_801 : decode cL_law 801 = .ok (.aload_n 1, 1) := by decide +kernel
theorem dL_law_802 : decode cL_law 802 = .ok (.aload_n 0, 1) := by decide +kernel
theorem dL_law_803 : decode cL_law 803 = .ok (.iload_n 3, 1) := by decide +kernel
theorem dL_law_804 : decode cL_law 804 = .ok (.iconst 1, 1) := by decide +kernel
theorem dL_law_805 : decode cL_law 805 = .ok (.iadd, 1) := by decide +kernel
theorem dL_law_806 : decode cL_law 806 = .ok (.iaload, 1) := by decide +kernel
theorem dL_law_807 : decode cL_law 807 = .ok (.aload_n 0, 1) := by decide +kernel
theorem dL_law_808 : decode cL_law 808 = .ok (.iload_n 3, 1) := by decide +kernel
theorem dL_law_809 : decode cL_law 809 = .ok (.iconst 2, 1) := by decide +kernel
theorem dL_law_810 : decode cL_law 810 = .ok (.iadd, 1) := by decide +kernel
theorem dL_law_811 : decode cL_law 811 = .ok (.iaload, 1) := by decide +kernel
theorem dL_law_812 : decode cL_law 812 = .ok (.invokevirtual 94, 3) := by decide +kernel
theorem dL_law_815 : decode cL_law 815 = .ok (.aload_n 2, 1) := by decide +kernel
theorem dL_law_816 : decode cL_law 816 = .ok (.aload_n 0, 1) := by decide +kernel
theorem dL_law_817 : decode cL_law 817 = .ok (.iload_n 3, 1) := by decide +kernel
theorem dL_law_818 : decode cL_law 818 = .ok (.iconst 1, 1) := by decide +kernel
theorem dL_law_819 : decode cL_law 819 = .ok (.iadd, 1) := by decide +kernel
theorem dL_law_820 : decode cL_law 820 = .ok (.iaload, 1) := by decide +kernel
theorem dL_law_821 : decode cL_law 821 = .ok (.aload_n 0, 1) := by decide +kernel
theorem dL_law_822 : decode cL_law 822 = .ok (.iload_n 3, 1) := by decide +kernel
theorem dL_law_823 : decode cL_law 823 = .ok (.iconst 2, 1) := by decide +kernel
theorem dL_law_824 : decode cL_law 824 = .ok (.iadd, 1) := by decide +kernel
theorem dL_law_825 : decode cL_law 825 = .ok (.iaload, 1) := by decide +kernel
theorem dL_law_826 : decode cL_law 826 = .ok (.invokevirtual 98, 3) := by decide +kernel
theorem dL_law_829 : decode cL_law 829 = .ok (.lcmp, 1) := by decide +kernel
theorem dL_law_830 : decode cL_law 830 = .ok (.ifCond .eq 594, 3) := by decide +kernel
theorem dL_law_833 : decode cL_law 833 = .ok (.iconst 0, 1) := by decide +kernel
theorem dL_law_834 : decode cL_law 834 = .ok (.ireturn, 1) := by decide +kernel
theorem dL_law_835 : decode cL_law 835 = .ok (.aload_n 1, 1) := by decide +kernel
theorem dL_law_836 : decode cL_law 836 = .ok (.aload_n 0, 1) := by decide +kernel
theorem dL_law_837 : decode cL_law 837 = .ok (.iload_n 3, 1) := by decide +kernel
theorem dL_law_838 : decode cL_law 838 = .ok (.iconst 1, 1) := by decide +kernel
theorem dL_law_839 : decode cL_law 839 = .ok (.iadd, 1) := by decide +kernel
theorem dL_law_840 : decode cL_law 840 = .ok (.iaload, 1) := by decide +kernel
theorem dL_law_841 : decode cL_law 841 = .ok (.invokevirtual 99, 3) := by decide +kernel
theorem dL_law_844 : decode cL_law 844 = .ok (.aload_n 2, 1) := by decide +kernel
theorem dL_law_845 : decode cL_law 845 = .ok (.aload_n 0, 1) := by decide +kernel
theorem dL_law_846 : decode cL_law 846 = .ok (.iload_n 3, 1) := by decide +kernel
theorem dL_law_847 : decode cL_law 847 = .ok (.iconst 1, 1) := by decide +kernel
theorem dL_law_848 : decode cL_law 848 = .ok (.iadd, 1) := by decide +kernel
theorem dL_law_849 : decode cL_law 849 = .ok (.iaload, 1) := by decide +kernel
theorem dL_law_850 : decode cL_law 850 = .ok (.invokevirtual 102, 3) := by decide +kernel
theorem dL_law_853 : decode cL_law 853 = .ok (.if_icmp .eq 571, 3) := by decide +kernel
theorem dL_law_856 : decode cL_law 856 = .ok (.iconst 0, 1) := by decide +kernel
theorem dL_law_857 : decode cL_law 857 = .ok (.ireturn, 1) := by decide +kernel
theorem dL_law_858 : decode cL_law 858 = .ok (.aload_n 1, 1) := by decide +kernel
theorem dL_law_859 : decode cL_law 859 = .ok (.aload_n 0, 1) := by decide +kernel
theorem dL_law_860 : decode cL_law 860 = .ok (.iload_n 3, 1) := by decide +kernel
theorem dL_law_861 : decode cL_law 861 = .ok (.iconst 1, 1) := by decide +kernel
theorem dL_law_862 : decode cL_law 862 = .ok (.iadd, 1) := by decide +kernel
theorem dL_law_863 : decode cL_law 863 = .ok (.iaload, 1) := by decide +kernel
theorem dL_law_864 : decode cL_law 864 = .ok (.aload_n 0, 1) := by decide +kernel
theorem dL_law_865 : decode cL_law 865 = .ok (.iload_n 3, 1) := by decide +kernel
theorem dL_law_866 : decode cL_law 866 = .ok (.iconst 2, 1) := by decide +kernel
theorem dL_law_867 : decode cL_law 867 = .ok (.iadd, 1) := by decide +kernel
theorem dL_law_868 : decode cL_law 868 = .ok (.iaload, 1) := by decide +kernel
theorem dL_law_869 : decode cL_law 869 = .ok (.aload_n 0, 1) := by decide +kernel
theorem dL_law_870 : decode cL_law 870 = .ok (.iload_n 3, 1) := by decide +kernel
theorem dL_law_871 : decode cL_law 871 = .ok (.iconst 3, 1) := by decide +kernel
theorem dL_law_872 : decode cL_law 872 = .ok (.iadd, 1) := by decide +kernel
theorem dL_law_873 : decode cL_law 873 = .ok (.iaload, 1) := by decide +kernel
theorem dL_law_874 : decode cL_law 874 = .ok (.invokevirtual 103, 3) := by decide +kernel
theorem dL_law_877 : decode cL_law 877 = .ok (.aload_n 2, 1) := by decide +kernel
theorem dL_law_878 : decode cL_law 878 = .ok (.aload_n 0, 1) := by decide +kernel
theorem dL_law_879 : decode cL_law 879 = .ok (.iload_n 3, 1) := by decide +kernel
theorem dL_law_880 : decode cL_law 880 = .ok (.iconst 1, 1) := by decide +kernel
theorem dL_law_881 : decode cL_law 881 = .ok (.iadd, 1) := by decide +kernel
theorem dL_law_882 : decode cL_law 882 = .ok (.iaload, 1) := by decide +kernel
theorem dL_law_883 : decode cL_law 883 = .ok (.aload_n 0, 1) := by decide +kernel
theorem dL_law_884 : decode cL_law 884 = .ok (.iload_n 3, 1) := by decide +kernel
theorem dL_law_885 : decode cL_law 885 = .ok (.iconst 2, 1) := by decide +kernel
theorem dL_law_886 : decode cL_law 886 = .ok (.iadd, 1) := by decide +kernel
theorem dL_law_887 : decode cL_law 887 = .ok (.iaload, 1) := by decide +kernel
theorem dL_law_888 : decode cL_law 888 = .ok (.aload_n 0, 1) := by decide +kernel
theorem dL_law_889 : decode cL_law 889 = .ok (.iload_n 3, 1) := by decide +kernel
theorem dL_law_890 : decode cL_law 890 = .ok (.iconst 3, 1) := by decide +kernel
theorem dL_law_891 : decode cL_law 891 = .ok (.iadd, 1) := by decide +kernel
theorem dL_law_892 : decode cL_law 892 = .ok (.iaload, 1) := by decide +kernel
theorem dL_law_893 : decode cL_law 893 = .ok (.invokevirtual 106, 3) := by decide +kernel
theorem dL_law_896 : decode cL_law 896 = .ok (.if_icmp .eq 528, 3) := by decide +kernel
theorem dL_law_899 : decode cL_law 899 = .ok (.iconst 0, 1) := by decide +kernel
theorem dL_law_900 : decode cL_law 900 = .ok (.ireturn, 1) := by decide +kernel
theorem dL_law_901 : decode cL_law 901 = .ok (.aload_n 1, 1) := by decide +kernel
theorem dL_law_902 : decode cL_law 902 = .ok (.aload_n 0, 1) := by decide +kernel
theorem dL_law_903 : decode cL_law 903 = .ok (.iload_n 3, 1) := by decide +kernel
theorem dL_law_904 : decode cL_law 904 = .ok (.iconst 1, 1) := by decide +kernel
theorem dL_law_905 : decode cL_law 905 = .ok (.iadd, 1) := by decide +kernel
theorem dL_law_906 : decode cL_law 906 = .ok (.iaload, 1) := by decide +kernel
theorem dL_law_907 : decode cL_law 907 = .ok (.aload_n 0, 1) := by decide +kernel
theorem dL_law_908 : decode cL_law 908 = .ok (.iload_n 3, 1) := by decide +kernel
theorem dL_law_909 : decode cL_law 909 = .ok (.iconst 2, 1) := by decide +kernel
theorem dL_law_910 : decode cL_law 910 = .ok (.iadd, 1) := by decide +kernel
theorem dL_law_911 : decode cL_law 911 = .ok (.iaload, 1) := by decide +kernel
theorem dL_law_912 : decode cL_law 912 = .ok (.aload_n 0, 1) := by decide +kernel
theorem dL_law_913 : decode cL_law 913 = .ok (.iload_n 3, 1) := by decide +kernel
theorem dL_law_914 : decode cL_law 914 = .ok (.iconst 3, 1) := by decide +kernel
theorem dL_law_915 : decode cL_law 915 = .ok (.iadd, 1) := by decide +kernel
theorem dL_law_916 : decode cL_law 916 = .ok (.iaload, 1) := by decide +kernel
theorem dL_law_917 : decode cL_law 917 = .ok (.invokevirtual 107, 3) := by decide +kernel
theorem dL_law_920 : decode cL_law 920 = .ok (.aload_n 2, 1) := by decide +kernel
theorem dL_law_921 : decode cL_law 921 = .ok (.aload_n 0, 1) := by decide +kernel
theorem dL_law_922 : decode cL_law 922 = .ok (.iload_n 3, 1) := by decide +kernel
theorem dL_law_923 : decode cL_law 923 = .ok (.iconst 1, 1) := by decide +kernel
theorem dL_law_924 : decode cL_law 924 = .ok (.iadd, 1) := by decide +kernel
theorem dL_law_925 : decode cL_law 925 = .ok (.iaload, 1) := by decide +kernel
theorem dL_law_926 : decode cL_law 926 = .ok (.aload_n 0, 1) := by decide +kernel
theorem dL_law_927 : decode cL_law 927 = .ok (.iload_n 3, 1) := by decide +kernel
theorem dL_law_928 : decode cL_law 928 = .ok (.iconst 2, 1) := by decide +kernel
theorem dL_law_929 : decode cL_law 929 = .ok (.iadd, 1) := by decide +kernel
theorem dL_law_930 : decode cL_law 930 = .ok (.iaload, 1) := by decide +kernel
theorem dL_law_931 : decode cL_law 931 = .ok (.aload_n 0, 1) := by decide +kernel
theorem dL_law_932 : decode cL_law 932 = .ok (.iload_n 3, 1) := by decide +kernel
theorem dL_law_933 : decode cL_law 933 = .ok (.iconst 3, 1) := by decide +kernel
theorem dL_law_934 : decode cL_law 934 = .ok (.iadd, 1) := by decide +kernel
theorem dL_law_935 : decode cL_law 935 = .ok (.iaload, 1) := by decide +kernel
theorem dL_law_936 : decode cL_law 936 = .ok (.invokevirtual 110, 3) := by decide +kernel
theorem dL_law_939 : decode cL_law 939 = .ok (.if_icmp .eq 485, 3) := by decide +kernel
theorem dL_law_942 : decode cL_law 942 = .ok (.iconst 0, 1) := by decide +kernel
theorem dL_law_943 : decode cL_law 943 = .ok (.ireturn, 1) := by decide +kernel
theorem dL_law_944 : decode cL_law 944 = .ok (.aload_n 1, 1) := by decide +kernel
theorem dL_law_945 : decode cL_law 945 = .ok (.aload_n 0, 1) := by decide +kernel
theorem dL_law_946 : decode cL_law 946 = .ok (.iload_n 3, 1) := by decide +kernel
theorem dL_law_947 : decode cL_law 947 = .ok (.iconst 1, 1) := by decide +kernel
theorem dL_law_948 : decode cL_law 948 = .ok (.iadd, 1) := by decide +kernel
theorem dL_law_949 : decode cL_law 949 = .ok (.iaload, 1) := by decide +kernel
theorem dL_law_950 : decode cL_law 950 = .ok (.aload_n 0, 1) := by decide +kernel
theorem dL_law_951 : decode cL_law 951 = .ok (.iload_n 3, 1) := by decide +kernel
theorem dL_law_952 : decode cL_law 952 = .ok (.iconst 2, 1) := by decide +kernel
theorem dL_law_953 : decode cL_law 953 = .ok (.iadd, 1) := by decide +kernel
theorem dL_law_954 : decode cL_law 954 = .ok (.iaload, 1) := by decide +kernel
theorem dL_law_955 : decode cL_law 955 = .ok (.aload_n 0, 1) := by decide +kernel
theorem dL_law_956 : decode cL_law 956 = .ok (.iload_n 3, 1) := by decide +kernel
theorem dL_law_957 : decode cL_law 957 = .ok (.iconst 3, 1) := by decide +kernel
theorem dL_law_958 : decode cL_law 958 = .ok (.iadd, 1) := by decide +kernel
theorem dL_law_959 : decode cL_law 959 = .ok (.iaload, 1) := by decide +kernel
theorem dL_law_960 : decode cL_law 960 = .ok (.invokevirtual 111, 3) := by decide +kernel
theorem dL_law_963 : decode cL_law 963 = .ok (.aload_n 2, 1) := by decide +kernel
theorem dL_law_964 : decode cL_law 964 = .ok (.aload_n 0, 1) := by decide +kernel
theorem dL_law_965 : decode cL_law 965 = .ok (.iload_n 3, 1) := by decide +kernel
theorem dL_law_966 : decode cL_law 966 = .ok (.iconst 1, 1) := by decide +kernel
theorem dL_law_967 : decode cL_law 967 = .ok (.iadd, 1) := by decide +kernel
theorem dL_law_968 : decode cL_law 968 = .ok (.iaload, 1) := by decide +kernel
theorem dL_law_969 : decode cL_law 969 = .ok (.aload_n 0, 1) := by decide +kernel
theorem dL_law_970 : decode cL_law 970 = .ok (.iload_n 3, 1) := by decide +kernel
theorem dL_law_971 : decode cL_law 971 = .ok (.iconst 2, 1) := by decide +kernel
theorem dL_law_972 : decode cL_law 972 = .ok (.iadd, 1) := by decide +kernel
theorem dL_law_973 : decode cL_law 973 = .ok (.iaload, 1) := by decide +kernel
theorem dL_law_974 : decode cL_law 974 = .ok (.aload_n 0, 1) := by decide +kernel
theorem dL_law_975 : decode cL_law 975 = .ok (.iload_n 3, 1) := by decide +kernel
theorem dL_law_976 : decode cL_law 976 = .ok (.iconst 3, 1) := by decide +kernel
theorem dL_law_977 : decode cL_law 977 = .ok (.iadd, 1) := by decide +kernel
theorem dL_law_978 : decode cL_law 978 = .ok (.iaload, 1) := by decide +kernel
theorem dL_law_979 : decode cL_law 979 = .ok (.invokevirtual 114, 3) := by decide +kernel
theorem dL_law_982 : decode cL_law 982 = .ok (.if_icmp .eq 442, 3) := by decide +kernel
theorem dL_law_985 : decode cL_law 985 = .ok (.iconst 0, 1) := by decide +kernel
theorem dL_law_986 : decode cL_law 986 = .ok (.ireturn, 1) := by decide +kernel
theorem dL_law_987 : decode cL_law 987 = .ok (.aload_n 1, 1) := by decide +kernel
theorem dL_law_988 : decode cL_law 988 = .ok (.aload_n 0, 1) := by decide +kernel
theorem dL_law_989 : decode cL_law 989 = .ok (.iload_n 3, 1) := by decide +kernel
theorem dL_law_990 : decode cL_law 990 = .ok (.iconst 1, 1) := by decide +kernel
theorem dL_law_991 : decode cL_law 991 = .ok (.iadd, 1) := by decide +kernel
theorem dL_law_992 : decode cL_law 992 = .ok (.iaload, 1) := by decide +kernel
theorem dL_law_993 : decode cL_law 993 = .ok (.invokevirtual 115, 3) := by decide +kernel
theorem dL_law_996 : decode cL_law 996 = .ok (.aload_n 2, 1) := by decide +kernel
theorem dL_law_997 : decode cL_law 997 = .ok (.aload_n 0, 1) := by decide +kernel
theorem dL_law_998 : decode cL_law 998 = .ok (.iload_n 3, 1) := by decide +kernel
theorem dL_law_999 : decode cL_law 999 = .ok (.iconst 1, 1) := by decide +kernel
theorem dL_law_1000 : decode cL_law 1000 = .ok (.iadd, 1) := by decide +kernel
theorem dL_law_1001 : decode cL_law 1001 = .ok (.iaload, 1) := by decide +kernel
theorem dL_law_1002 : decode cL_law 1002 = .ok (.invokevirtual 118, 3) := by decide +kernel
theorem dL_law_1005 : decode cL_law 1005 = .ok (.if_icmp .eq 419, 3) := by decide +kernel
theorem dL_law_1008 : decode cL_law 1008 = .ok (.iconst 0, 1) := by decide +kernel
theorem dL_law_1009 : decode cL_law 1009 = .ok (.ireturn, 1) := by decide +kernel
theorem dL_law_1010 : decode cL_law 1010 = .ok (.aload_n 1, 1) := by decide +kernel
theorem dL_law_1011 : decode cL_law 1011 = .ok (.aload_n 0, 1) := by decide +kernel
theorem dL_law_1012 : decode cL_law 1012 = .ok (.iload_n 3, 1) := by decide +kernel
theorem dL_law_1013 : decode cL_law 1013 = .ok (.iconst 1, 1) := by decide +kernel
theorem dL_law_1014 : decode cL_law 1014 = .ok (.iadd, 1) := by decide +kernel
theorem dL_law_1015 : decode cL_law 1015 = .ok (.iaload, 1) := by decide +kernel
theorem dL_law_1016 : decode cL_law 1016 = .ok (.invokevirtual 119, 3) := by decide +kernel
theorem dL_law_1019 : decode cL_law 1019 = .ok (.aload_n 2, 1) := by decide +kernel
theorem dL_law_1020 : decode cL_law 1020 = .ok (.aload_n 0, 1) := by decide +kernel
theorem dL_law_1021 : decode cL_law 1021 = .ok (.iload_n 3, 1) := by decide +kernel
theorem dL_law_1022 : decode cL_law 1022 = .ok (.iconst 1, 1) := by decide +kernel
theorem dL_law_1023 : decode cL_law 1023 = .ok (.iadd, 1) := by decide +kernel
theorem dL_law_1024 : decode cL_law 1024 = .ok (.iaload, 1) := by decide +kernel
theorem dL_law_1025 : decode cL_law 1025 = .ok (.invokevirtual 122, 3) := by decide +kernel
theorem dL_law_1028 : decode cL_law 1028 = .ok (.if_icmp .eq 396, 3) := by decide +kernel
theorem dL_law_1031 : decode cL_law 1031 = .ok (.iconst 0, 1) := by decide +kernel
theorem dL_law_1032 : decode cL_law 1032 = .ok (.ireturn, 1) := by decide +kernel
theorem dL_law_1033 : decode cL_law 1033 = .ok (.aload_n 1, 1) := by decide +kernel
theorem dL_law_1034 : decode cL_law 1034 = .ok (.aload_n 0, 1) := by decide +kernel
theorem dL_law_1035 : decode cL_law 1035 = .ok (.iload_n 3, 1) := by decide +kernel
theorem dL_law_1036 : decode cL_law 1036 = .ok (.iconst 1, 1) := by decide +kernel
theorem dL_law_1037 : decode cL_law 1037 = .ok (.iadd, 1) := by decide +kernel
theorem dL_law_1038 : decode cL_law 1038 = .ok (.iaload, 1) := by decide +kernel
theorem dL_law_1039 : decode cL_law 1039 = .ok (.aload_n 0, 1) := by decide +kernel
theorem dL_law_1040 : decode cL_law 1040 = .ok (.iload_n 3, 1) := by decide +kernel
theorem dL_law_1041 : decode cL_law 1041 = .ok (.iconst 2, 1) := by decide +kernel
theorem dL_law_1042 : decode cL_law 1042 = .ok (.iadd, 1) := by decide +kernel
theorem dL_law_1043 : decode cL_law 1043 = .ok (.iaload, 1) := by decide +kernel
theorem dL_law_1044 : decode cL_law 1044 = .ok (.invokevirtual 123, 3) := by decide +kernel
theorem dL_law_1047 : decode cL_law 1047 = .ok (.aload_n 2, 1) := by decide +kernel
theorem dL_law_1048 : decode cL_law 1048 = .ok (.aload_n 0, 1) := by decide +kernel
theorem dL_law_1049 : decode cL_law 1049 = .ok (.iload_n 3, 1) := by decide +kernel
theorem dL_law_1050 : decode cL_law 1050 = .ok (.iconst 1, 1) := by decide +kernel
theorem dL_law_1051 : decode cL_law 1051 = .ok (.iadd, 1) := by decide +kernel
theorem dL_law_1052 : decode cL_law 1052 = .ok (.iaload, 1) := by decide +kernel
theorem dL_law_1053 : decode cL_law 1053 = .ok (.aload_n 0, 1) := by decide +kernel
theorem dL_law_1054 : decode cL_law 1054 = .ok (.iload_n 3, 1) := by decide +kernel
theorem dL_law_1055 : decode cL_law 1055 = .ok (.iconst 2, 1) := by decide +kernel
theorem dL_law_1056 : decode cL_law 1056 = .ok (.iadd, 1) := by decide +kernel
theorem dL_law_1057 : decode cL_law 1057 = .ok (.iaload, 1) := by decide +kernel
theorem dL_law_1058 : decode cL_law 1058 = .ok (.invokevirtual 126, 3) := by decide +kernel
theorem dL_law_1061 : decode cL_law 1061 = .ok (.if_icmp .eq 363, 3) := by decide +kernel
theorem dL_law_1064 : decode cL_law 1064 = .ok (.iconst 0, 1) := by decide +kernel
theorem dL_law_1065 : decode cL_law 1065 = .ok (.ireturn, 1) := by decide +kernel
theorem dL_law_1066 : decode cL_law 1066 = .ok (.aload_n 1, 1) := by decide +kernel
theorem dL_law_1067 : decode cL_law 1067 = .ok (.aload_n 0, 1) := by decide +kernel
theorem dL_law_1068 : decode cL_law 1068 = .ok (.iload_n 3, 1) := by decide +kernel
theorem dL_law_1069 : decode cL_law 1069 = .ok (.iconst 1, 1) := by decide +kernel
theorem dL_law_1070 : decode cL_law 1070 = .ok (.iadd, 1) := by decide +kernel
theorem dL_law_1071 : decode cL_law 1071 = .ok (.iaload, 1) := by decide +kernel
theorem dL_law_1072 : decode cL_law 1072 = .ok (.aload_n 0, 1) := by decide +kernel
theorem dL_law_1073 : decode cL_law 1073 = .ok (.iload_n 3, 1) := by decide +kernel
theorem dL_law_1074 : decode cL_law 1074 = .ok (.iconst 2, 1) := by decide +kernel
theorem dL_law_1075 : decode cL_law 1075 = .ok (.iadd, 1) := by decide +kernel
theorem dL_law_1076 : decode cL_law 1076 = .ok (.iaload, 1) := by decide +kernel
theorem dL_law_1077 : decode cL_law 1077 = .ok (.aload_n 0, 1) := by decide +kernel
theorem dL_law_1078 : decode cL_law 1078 = .ok (.iload_n 3, 1) := by decide +kernel
theorem dL_law_1079 : decode cL_law 1079 = .ok (.iconst 3, 1) := by decide +kernel
theorem dL_law_1080 : decode cL_law 1080 = .ok (.iadd, 1) := by decide +kernel
theorem dL_law_1081 : decode cL_law 1081 = .ok (.iaload, 1) := by decide +kernel
theorem dL_law_1082 : decode cL_law 1082 = .ok (.invokevirtual 127, 3) := by decide +kernel
theorem dL_law_1085 : decode cL_law 1085 = .ok (.aload_n 2, 1) := by decide +kernel
theorem dL_law_1086 : decode cL_law 1086 = .ok (.aload_n 0, 1) := by decide +kernel
theorem dL_law_1087 : decode cL_law 1087 = .ok (.iload_n 3, 1) := by decide +kernel
theorem dL_law_1088 : decode cL_law 1088 = .ok (.iconst 1, 1) := by decide +kernel
theorem dL_law_1089 : decode cL_law 1089 = .ok (.iadd, 1) := by decide +kernel
theorem dL_law_1090 : decode cL_law 1090 = .ok (.iaload, 1) := by decide +kernel
theorem dL_law_1091 : decode cL_law 1091 = .ok (.aload_n 0, 1) := by decide +kernel
theorem dL_law_1092 : decode cL_law 1092 = .ok (.iload_n 3, 1) := by decide +kernel
theorem dL_law_1093 : decode cL_law 1093 = .ok (.iconst 2, 1) := by decide +kernel
theorem dL_law_1094 : decode cL_law 1094 = .ok (.iadd, 1) := by decide +kernel
theorem dL_law_1095 : decode cL_law 1095 = .ok (.iaload, 1) := by decide +kernel
theorem dL_law_1096 : decode cL_law 1096 = .ok (.aload_n 0, 1) := by decide +kernel
theorem dL_law_1097 : decode cL_law 1097 = .ok (.iload_n 3, 1) := by decide +kernel
theorem dL_law_1098 : decode cL_law 1098 = .ok (.iconst 3, 1) := by decide +kernel
theorem dL_law_1099 : decode cL_law 1099 = .ok (.iadd, 1) := by decide +kernel
theorem dL_law_1100 : decode cL_law 1100 = .ok (.iaload, 1) := by decide +kernel
theorem dL_law_1101 : decode cL_law 1101 = .ok (.invokevirtual 130, 3) := by decide +kernel
theorem dL_law_1104 : decode cL_law 1104 = .ok (.if_icmp .eq 320, 3) := by decide +kernel
theorem dL_law_1107 : decode cL_law 1107 = .ok (.iconst 0, 1) := by decide +kernel
theorem dL_law_1108 : decode cL_law 1108 = .ok (.ireturn, 1) := by decide +kernel
theorem dL_law_1109 : decode cL_law 1109 = .ok (.aload_n 1, 1) := by decide +kernel
theorem dL_law_1110 : decode cL_law 1110 = .ok (.aload_n 0, 1) := by decide +kernel
theorem dL_law_1111 : decode cL_law 1111 = .ok (.iload_n 3, 1) := by decide +kernel
theorem dL_law_1112 : decode cL_law 1112 = .ok (.iconst 1, 1) := by decide +kernel
theorem dL_law_1113 : decode cL_law 1113 = .ok (.iadd, 1) := by decide +kernel
theorem dL_law_1114 : decode cL_law 1114 = .ok (.iaload, 1) := by decide +kernel
theorem dL_law_1115 : decode cL_law 1115 = .ok (.aload_n 0, 1) := by decide +kernel
theorem dL_law_1116 : decode cL_law 1116 = .ok (.iload_n 3, 1) := by decide +kernel
theorem dL_law_1117 : decode cL_law 1117 = .ok (.iconst 2, 1) := by decide +kernel
theorem dL_law_1118 : decode cL_law 1118 = .ok (.iadd, 1) := by decide +kernel
theorem dL_law_1119 : decode cL_law 1119 = .ok (.iaload, 1) := by decide +kernel
theorem dL_law_1120 : decode cL_law 1120 = .ok (.aload_n 0, 1) := by decide +kernel
theorem dL_law_1121 : decode cL_law 1121 = .ok (.iload_n 3, 1) := by decide +kernel
theorem dL_law_1122 : decode cL_law 1122 = .ok (.iconst 3, 1) := by decide +kernel
theorem dL_law_1123 : decode cL_law 1123 = .ok (.iadd, 1) := by decide +kernel
theorem dL_law_1124 : decode cL_law 1124 = .ok (.iaload, 1) := by decide +kernel
theorem dL_law_1125 : decode cL_law 1125 = .ok (.aload_n 0, 1) := by decide +kernel
theorem dL_law_1126 : decode cL_law 1126 = .ok (.iload_n 3, 1) := by decide +kernel
theorem dL_law_1127 : decode cL_law 1127 = .ok (.iconst 4, 1) := by decide +kernel
theorem dL_law_1128 : decode cL_law 1128 = .ok (.iadd, 1) := by decide +kernel
theorem dL_law_1129 : decode cL_law 1129 = .ok (.iaload, 1) := by decide +kernel
theorem dL_law_1130 : decode cL_law 1130 = .ok (.invokevirtual 131, 3) := by decide +kernel
theorem dL_law_1133 : decode cL_law 1133 = .ok (.aload_n 2, 1) := by decide +kernel
theorem dL_law_1134 : decode cL_law 1134 = .ok (.aload_n 0, 1) := by decide +kernel
theorem dL_law_1135 : decode cL_law 1135 = .ok (.iload_n 3, 1) := by decide +kernel
theorem dL_law_1136 : decode cL_law 1136 = .ok (.iconst 1, 1) := by decide +kernel
theorem dL_law_1137 : decode cL_law 1137 = .ok (.iadd, 1) := by decide +kernel
theorem dL_law_1138 : decode cL_law 1138 = .ok (.iaload, 1) := by decide +kernel
theorem dL_law_1139 : decode cL_law 1139 = .ok (.aload_n 0, 1) := by decide +kernel
theorem dL_law_1140 : decode cL_law 1140 = .ok (.iload_n 3, 1) := by decide +kernel
theorem dL_law_1141 : decode cL_law 1141 = .ok (.iconst 2, 1) := by decide +kernel
theorem dL_law_1142 : decode cL_law 1142 = .ok (.iadd, 1) := by decide +kernel
theorem dL_law_1143 : decode cL_law 1143 = .ok (.iaload, 1) := by decide +kernel
theorem dL_law_1144 : decode cL_law 1144 = .ok (.aload_n 0, 1) := by decide +kernel
theorem dL_law_1145 : decode cL_law 1145 = .ok (.iload_n 3, 1) := by decide +kernel
theorem dL_law_1146 : decode cL_law 1146 = .ok (.iconst 3, 1) := by decide +kernel
theorem dL_law_1147 : decode cL_law 1147 = .ok (.iadd, 1) := by decide +kernel
theorem dL_law_1148 : decode cL_law 1148 = .ok (.iaload, 1) := by decide +kernel
theorem dL_law_1149 : decode cL_law 1149 = .ok (.aload_n 0, 1) := by decide +kernel
theorem dL_law_1150 : decode cL_law 1150 = .ok (.iload_n 3, 1) := by decide +kernel
theorem dL_law_1151 : decode cL_law 1151 = .ok (.iconst 4, 1) := by decide +kernel
theorem dL_law_1152 : decode cL_law 1152 = .ok (.iadd, 1) := by decide +kernel
theorem dL_law_1153 : decode cL_law 1153 = .ok (.iaload, 1) := by decide +kernel
theorem dL_law_1154 : decode cL_law 1154 = .ok (.invokevirtual 135, 3) := by decide +kernel
theorem dL_law_1157 : decode cL_law 1157 = .ok (.lcmp, 1) := by decide +kernel
theorem dL_law_1158 : decode cL_law 1158 = .ok (.ifCond .eq 266, 3) := by decide +kernel
theorem dL_law_1161 : decode cL_law 1161 = .ok (.iconst 0, 1) := by decide +kernel
theorem dL_law_1162 : decode cL_law 1162 = .ok (.ireturn, 1) := by decide +kernel
theorem dL_law_1163 : decode cL_law 1163 = .ok (.aload_n 1, 1) := by decide +kernel
theorem dL_law_1164 : decode cL_law 1164 = .ok (.invokevirtual 136, 3) := by decide +kernel
theorem dL_law_1167 : decode cL_law 1167 = .ok (.aload_n 2, 1) := by decide +kernel
theorem dL_law_1168 : decode cL_law 1168 = .ok (.invokevirtual 139, 3) := by decide +kernel
theorem dL_law_1171 : decode cL_law 1171 = .ok (.if_icmp .eq 253, 3) := by decide +kernel
theorem dL_law_1174 : decode cL_law 1174 = .ok (.iconst 0, 1) := by decide +kernel
theorem dL_law_1175 : decode cL_law 1175 = .ok (.ireturn, 1) := by decide +kernel
theorem dL_law_1176 : decode cL_law 1176 = .ok (.aload_n 1, 1) := by decide +kernel
theorem dL_law_1177 : decode cL_law 1177 = .ok (.invokevirtual 140, 3) := by decide +kernel
theorem dL_law_1180 : decode cL_law 1180 = .ok (.aload_n 2, 1) := by decide +kernel
theorem dL_law_1181 : decode cL_law 1181 = .ok (.invokevirtual 143, 3) := by decide +kernel
theorem dL_law_1184 : decode cL_law 1184 = .ok (.if_icmp .eq 240, 3) := by decide +kernel
theorem dL_law_1187 : decode cL_law 1187 = .ok (.iconst 0, 1) := by decide +kernel
theorem dL_law_1188 : decode cL_law 1188 = .ok (.ireturn, 1) := by decide +kernel
theorem dL_law_1189 : decode cL_law 1189 = .ok (.aload_n 1, 1) := by decide +kernel
theorem dL_law_1190 : decode cL_law 1190 = .ok (.aload_n 0, 1) := by decide +kernel
theorem dL_law_1191 : decode cL_law 1191 = .ok (.iload_n 3, 1) := by decide +kernel
theorem dL_law_1192 : decode cL_law 1192 = .ok (.iconst 1, 1) := by decide +kernel
theorem dL_law_1193 : decode cL_law 1193 = .ok (.iadd, 1) := by decide +kernel
theorem dL_law_1194 : decode cL_law 1194 = .ok (.iaload, 1) := by decide +kernel
theorem dL_law_1195 : decode cL_law 1195 = .ok (.aload_n 0, 1) := by decide +kernel
theorem dL_law_1196 : decode cL_law 1196 = .ok (.iload_n 3, 1) := by decide +kernel
theorem dL_law_1197 : decode cL_law 1197 = .ok (.iconst 2, 1) := by decide +kernel
theorem dL_law_1198 : decode cL_law 1198 = .ok (.iadd, 1) := by decide +kernel
theorem dL_law_1199 : decode cL_law 1199 = .ok (.iaload, 1) := by decide +kernel
theorem dL_law_1200 : decode cL_law 1200 = .ok (.aload_n 0, 1) := by decide +kernel
theorem dL_law_1201 : decode cL_law 1201 = .ok (.iload_n 3, 1) := by decide +kernel
theorem dL_law_1202 : decode cL_law 1202 = .ok (.iconst 3, 1) := by decide +kernel
theorem dL_law_1203 : decode cL_law 1203 = .ok (.iadd, 1) := by decide +kernel
theorem dL_law_1204 : decode cL_law 1204 = .ok (.iaload, 1) := by decide +kernel
theorem dL_law_1205 : decode cL_law 1205 = .ok (.invokevirtual 144, 3) := by decide +kernel
theorem dL_law_1208 : decode cL_law 1208 = .ok (.aload_n 2, 1) := by decide +kernel
theorem dL_law_1209 : decode cL_law 1209 = .ok (.aload_n 0, 1) := by decide +kernel
theorem dL_law_1210 : decode cL_law 1210 = .ok (.iload_n 3, 1) := by decide +kernel
theorem dL_law_1211 : decode cL_law 1211 = .ok (.iconst 1, 1) := by decide +kernel
theorem dL_law_1212 : decode cL_law 1212 = .ok (.iadd, 1) := by decide +kernel
theorem dL_law_1213 : decode cL_law 1213 = .ok (.iaload, 1) := by decide +kernel
theorem dL_law_1214 : decode cL_law 1214 = .ok (.aload_n 0, 1) := by decide +kernel
theorem dL_law_1215 : decode cL_law 1215 = .ok (.iload_n 3, 1) := by decide +kernel
theorem dL_law_1216 : decode cL_law 1216 = .ok (.iconst 2, 1) := by decide +kernel
theorem dL_law_1217 : decode cL_law 1217 = .ok (.iadd, 1) := by decide +kernel
theorem dL_law_1218 : decode cL_law 1218 = .ok (.iaload, 1) := by decide +kernel
theorem dL_law_1219 : decode cL_law 1219 = .ok (.aload_n 0, 1) := by decide +kernel
theorem dL_law_1220 : decode cL_law 1220 = .ok (.iload_n 3, 1) := by decide +kernel
theorem dL_law_1221 : decode cL_law 1221 = .ok (.iconst 3, 1) := by decide +kernel
theorem dL_law_1222 : decode cL_law 1222 = .ok (.iadd, 1) := by decide +kernel
theorem dL_law_1223 : decode cL_law 1223 = .ok (.iaload, 1) := by decide +kernel
theorem dL_law_1224 : decode cL_law 1224 = .ok (.invokevirtual 147, 3) := by decide +kernel
theorem dL_law_1227 : decode cL_law 1227 = .ok (.if_icmp .eq 197, 3) := by decide +kernel
theorem dL_law_1230 : decode cL_law 1230 = .ok (.iconst 0, 1) := by decide +kernel
theorem dL_law_1231 : decode cL_law 1231 = .ok (.ireturn, 1) := by decide +kernel
theorem dL_law_1232 : decode cL_law 1232 = .ok (.aload_n 1, 1) := by decide +kernel
theorem dL_law_1233 : decode cL_law 1233 = .ok (.aload_n 0, 1) := by decide +kernel
theorem dL_law_1234 : decode cL_law 1234 = .ok (.iload_n 3, 1) := by decide +kernel
theorem dL_law_1235 : decode cL_law 1235 = .ok (.iconst 1, 1) := by decide +kernel
theorem dL_law_1236 : decode cL_law 1236 = .ok (.iadd, 1) := by decide +kernel
theorem dL_law_1237 : decode cL_law 1237 = .ok (.iaload, 1) := by decide +kernel
theorem dL_law_1238 : decode cL_law 1238 = .ok (.aload_n 0, 1) := by decide +kernel
theorem dL_law_1239 : decode cL_law 1239 = .ok (.iload_n 3, 1) := by decide +kernel
theorem dL_law_1240 : decode cL_law 1240 = .ok (.iconst 2, 1) := by decide +kernel
theorem dL_law_1241 : decode cL_law 1241 = .ok (.iadd, 1) := by decide +kernel
theorem dL_law_1242 : decode cL_law 1242 = .ok (.iaload, 1) := by decide +kernel
theorem dL_law_1243 : decode cL_law 1243 = .ok (.aload_n 0, 1) := by decide +kernel
theorem dL_law_1244 : decode cL_law 1244 = .ok (.iload_n 3, 1) := by decide +kernel
theorem dL_law_1245 : decode cL_law 1245 = .ok (.iconst 3, 1) := by decide +kernel
theorem dL_law_1246 : decode cL_law 1246 = .ok (.iadd, 1) := by decide +kernel
theorem dL_law_1247 : decode cL_law 1247 = .ok (.iaload, 1) := by decide +kernel
theorem dL_law_1248 : decode cL_law 1248 = .ok (.invokevirtual 148, 3) := by decide +kernel
theorem dL_law_1251 : decode cL_law 1251 = .ok (.aload_n 2, 1) := by decide +kernel
theorem dL_law_1252 : decode cL_law 1252 = .ok (.aload_n 0, 1) := by decide +kernel
theorem dL_law_1253 : decode cL_law 1253 = .ok (.iload_n 3, 1) := by decide +kernel
theorem dL_law_1254 : decode cL_law 1254 = .ok (.iconst 1, 1) := by decide +kernel
theorem dL_law_1255 : decode cL_law 1255 = .ok (.iadd, 1) := by decide +kernel
theorem dL_law_1256 : decode cL_law 1256 = .ok (.iaload, 1) := by decide +kernel
theorem dL_law_1257 : decode cL_law 1257 = .ok (.aload_n 0, 1) := by decide +kernel
theorem dL_law_1258 : decode cL_law 1258 = .ok (.iload_n 3, 1) := by decide +kernel
theorem dL_law_1259 : decode cL_law 1259 = .ok (.iconst 2, 1) := by decide +kernel
theorem dL_law_1260 : decode cL_law 1260 = .ok (.iadd, 1) := by decide +kernel
theorem dL_law_1261 : decode cL_law 1261 = .ok (.iaload, 1) := by decide +kernel
theorem dL_law_1262 : decode cL_law 1262 = .ok (.aload_n 0, 1) := by decide +kernel
theorem dL_law_1263 : decode cL_law 1263 = .ok (.iload_n 3, 1) := by decide +kernel
theorem dL_law_1264 : decode cL_law 1264 = .ok (.iconst 3, 1) := by decide +kernel
theorem dL_law_1265 : decode cL_law 1265 = .ok (.iadd, 1) := by decide +kernel
theorem dL_law_1266 : decode cL_law 1266 = .ok (.iaload, 1) := by decide +kernel
theorem dL_law_1267 : decode cL_law 1267 = .ok (.invokevirtual 151, 3) := by decide +kernel
theorem dL_law_1270 : decode cL_law 1270 = .ok (.if_icmp .eq 154, 3) := by decide +kernel
theorem dL_law_1273 : decode cL_law 1273 = .ok (.iconst 0, 1) := by decide +kernel
theorem dL_law_1274 : decode cL_law 1274 = .ok (.ireturn, 1) := by decide +kernel
theorem dL_law_1275 : decode cL_law 1275 = .ok (.aload_n 1, 1) := by decide +kernel
theorem dL_law_1276 : decode cL_law 1276 = .ok (.aload_n 0, 1) := by decide +kernel
theorem dL_law_1277 : decode cL_law 1277 = .ok (.iload_n 3, 1) := by decide +kernel
theorem dL_law_1278 : decode cL_law 1278 = .ok (.iconst 1, 1) := by decide +kernel
theorem dL_law_1279 : decode cL_law 1279 = .ok (.iadd, 1) := by decide +kernel
theorem dL_law_1280 : decode cL_law 1280 = .ok (.iaload, 1) := by decide +kernel
theorem dL_law_1281 : decode cL_law 1281 = .ok (.aload_n 0, 1) := by decide +kernel
theorem dL_law_1282 : decode cL_law 1282 = .ok (.iload_n 3, 1) := by decide +kernel
theorem dL_law_1283 : decode cL_law 1283 = .ok (.iconst 2, 1) := by decide +kernel
theorem dL_law_1284 : decode cL_law 1284 = .ok (.iadd, 1) := by decide +kernel
theorem dL_law_1285 : decode cL_law 1285 = .ok (.iaload, 1) := by decide +kernel
theorem dL_law_1286 : decode cL_law 1286 = .ok (.aload_n 0, 1) := by decide +kernel
theorem dL_law_1287 : decode cL_law 1287 = .ok (.iload_n 3, 1) := by decide +kernel
theorem dL_law_1288 : decode cL_law 1288 = .ok (.iconst 3, 1) := by decide +kernel
theorem dL_law_1289 : decode cL_law 1289 = .ok (.iadd, 1) := by decide +kernel
theorem dL_law_1290 : decode cL_law 1290 = .ok (.iaload, 1) := by decide +kernel
theorem dL_law_1291 : decode cL_law 1291 = .ok (.aload_n 0, 1) := by decide +kernel
theorem dL_law_1292 : decode cL_law 1292 = .ok (.iload_n 3, 1) := by decide +kernel
theorem dL_law_1293 : decode cL_law 1293 = .ok (.iconst 4, 1) := by decide +kernel
theorem dL_law_1294 : decode cL_law 1294 = .ok (.iadd, 1) := by decide +kernel
theorem dL_law_1295 : decode cL_law 1295 = .ok (.iaload, 1) := by decide +kernel
theorem dL_law_1296 : decode cL_law 1296 = .ok (.aload_n 0, 1) := by decide +kernel
theorem dL_law_1297 : decode cL_law 1297 = .ok (.iload_n 3, 1) := by decide +kernel
theorem dL_law_1298 : decode cL_law 1298 = .ok (.iconst 5, 1) := by decide +kernel
theorem dL_law_1299 : decode cL_law 1299 = .ok (.iadd, 1) := by decide +kernel
theorem dL_law_1300 : decode cL_law 1300 = .ok (.iaload, 1) := by decide +kernel
theorem dL_law_1301 : decode cL_law 1301 = .ok (.invokevirtual 152, 3) := by decide +kernel
theorem dL_law_1304 : decode cL_law 1304 = .ok (.aload_n 2, 1) := by decide +kernel
theorem dL_law_1305 : decode cL_law 1305 = .ok (.aload_n 0, 1) := by decide +kernel
theorem dL_law_1306 : decode cL_law 1306 = .ok (.iload_n 3, 1) := by decide +kernel
theorem dL_law_1307 : decode cL_law 1307 = .ok (.iconst 1, 1) := by decide +kernel
theorem dL_law_1308 : decode cL_law 1308 = .ok (.iadd, 1) := by decide +kernel
theorem dL_law_1309 : decode cL_law 1309 = .ok (.iaload, 1) := by decide +kernel
theorem dL_law_1310 : decode cL_law 1310 = .ok (.aload_n 0, 1) := by decide +kernel
theorem dL_law_1311 : decode cL_law 1311 = .ok (.iload_n 3, 1) := by decide +kernel
theorem dL_law_1312 : decode cL_law 1312 = .ok (.iconst 2, 1) := by decide +kernel
theorem dL_law_1313 : decode cL_law 1313 = .ok (.iadd, 1) := by decide +kernel
theorem dL_law_1314 : decode cL_law 1314 = .ok (.iaload, 1) := by decide +kernel
theorem dL_law_1315 : decode cL_law 1315 = .ok (.aload_n 0, 1) := by decide +kernel
theorem dL_law_1316 : decode cL_law 1316 = .ok (.iload_n 3, 1) := by decide +kernel
theorem dL_law_1317 : decode cL_law 1317 = .ok (.iconst 3, 1) := by decide +kernel
theorem dL_law_1318 : decode cL_law 1318 = .ok (.iadd, 1) := by decide +kernel
theorem dL_law_1319 : decode cL_law 1319 = .ok (.iaload, 1) := by decide +kernel
theorem dL_law_1320 : decode cL_law 1320 = .ok (.aload_n 0, 1) := by decide +kernel
theorem dL_law_1321 : decode cL_law 1321 = .ok (.iload_n 3, 1) := by decide +kernel
theorem dL_law_1322 : decode cL_law 1322 = .ok (.iconst 4, 1) := by decide +kernel
theorem dL_law_1323 : decode cL_law 1323 = .ok (.iadd, 1) := by decide +kernel
theorem dL_law_1324 : decode cL_law 1324 = .ok (.iaload, 1) := by decide +kernel
theorem dL_law_1325 : decode cL_law 1325 = .ok (.aload_n 0, 1) := by decide +kernel
theorem dL_law_1326 : decode cL_law 1326 = .ok (.iload_n 3, 1) := by decide +kernel
theorem dL_law_1327 : decode cL_law 1327 = .ok (.iconst 5, 1) := by decide +kernel
theorem dL_law_1328 : decode cL_law 1328 = .ok (.iadd, 1) := by decide +kernel
theorem dL_law_1329 : decode cL_law 1329 = .ok (.iaload, 1) := by decide +kernel
theorem dL_law_1330 : decode cL_law 1330 = .ok (.invokevirtual 156, 3) := by decide +kernel
theorem dL_law_1333 : decode cL_law 1333 = .ok (.if_icmp .eq 91, 3) := by decide +kernel
theorem dL_law_1336 : decode cL_law 1336 = .ok (.iconst 0, 1) := by decide +kernel
theorem dL_law_1337 : decode cL_law 1337 = .ok (.ireturn, 1) := by decide +kernel
theorem dL_law_1338 : decode cL_law 1338 = .ok (.aload_n 1, 1) := by decide +kernel
theorem dL_law_1339 : decode cL_law 1339 = .ok (.aload_n 0, 1) := by decide +kernel
theorem dL_law_1340 : decode cL_law 1340 = .ok (.iload_n 3, 1) := by decide +kernel
theorem dL_law_1341 : decode cL_law 1341 = .ok (.iconst 1, 1) := by decide +kernel
theorem dL_law_1342 : decode cL_law 1342 = .ok (.iadd, 1) := by decide +kernel
theorem dL_law_1343 : decode cL_law 1343 = .ok (.iaload, 1) := by decide +kernel
theorem dL_law_1344 : decode cL_law 1344 = .ok (.aload_n 0, 1) := by decide +kernel
theorem dL_law_1345 : decode cL_law 1345 = .ok (.iload_n 3, 1) := by decide +kernel
theorem dL_law_1346 : decode cL_law 1346 = .ok (.iconst 2, 1) := by decide +kernel
theorem dL_law_1347 : decode cL_law 1347 = .ok (.iadd, 1) := by decide +kernel
theorem dL_law_1348 : decode cL_law 1348 = .ok (.iaload, 1) := by decide +kernel
theorem dL_law_1349 : decode cL_law 1349 = .ok (.aload_n 0, 1) := by decide +kernel
theorem dL_law_1350 : decode cL_law 1350 = .ok (.iload_n 3, 1) := by decide +kernel
theorem dL_law_1351 : decode cL_law 1351 = .ok (.iconst 3, 1) := by decide +kernel
theorem dL_law_1352 : decode cL_law 1352 = .ok (.iadd, 1) := by decide +kernel
theorem dL_law_1353 : decode cL_law 1353 = .ok (.iaload, 1) := by decide +kernel
theorem dL_law_1354 : decode cL_law 1354 = .ok (.aload_n 0, 1) := by decide +kernel
theorem dL_law_1355 : decode cL_law 1355 = .ok (.iload_n 3, 1) := by decide +kernel
theorem dL_law_1356 : decode cL_law 1356 = .ok (.iconst 4, 1) := by decide +kernel
theorem dL_law_1357 : decode cL_law 1357 = .ok (.iadd, 1) := by decide +kernel
theorem dL_law_1358 : decode cL_law 1358 = .ok (.iaload, 1) := by decide +kernel
theorem dL_law_1359 : decode cL_law 1359 = .ok (.invokevirtual 157, 3) := by decide +kernel
theorem dL_law_1362 : decode cL_law 1362 = .ok (.aload_n 2, 1) := by decide +kernel
theorem dL_law_1363 : decode cL_law 1363 = .ok (.aload_n 0, 1) := by decide +kernel
theorem dL_law_1364 : decode cL_law 1364 = .ok (.iload_n 3, 1) := by decide +kernel
theorem dL_law_1365 : decode cL_law 1365 = .ok (.iconst 1, 1) := by decide +kernel
theorem dL_law_1366 : decode cL_law 1366 = .ok (.iadd, 1) := by decide +kernel
theorem dL_law_1367 : decode cL_law 1367 = .ok (.iaload, 1) := by decide +kernel
theorem dL_law_1368 : decode cL_law 1368 = .ok (.aload_n 0, 1) := by decide +kernel
theorem dL_law_1369 : decode cL_law 1369 = .ok (.iload_n 3, 1) := by decide +kernel
theorem dL_law_1370 : decode cL_law 1370 = .ok (.iconst 2, 1) := by decide +kernel
theorem dL_law_1371 : decode cL_law 1371 = .ok (.iadd, 1) := by decide +kernel
theorem dL_law_1372 : decode cL_law 1372 = .ok (.iaload, 1) := by decide +kernel
theorem dL_law_1373 : decode cL_law 1373 = .ok (.aload_n 0, 1) := by decide +kernel
theorem dL_law_1374 : decode cL_law 1374 = .ok (.iload_n 3, 1) := by decide +kernel
theorem dL_law_1375 : decode cL_law 1375 = .ok (.iconst 3, 1) := by decide +kernel
theorem dL_law_1376 : decode cL_law 1376 = .ok (.iadd, 1) := by decide +kernel
theorem dL_law_1377 : decode cL_law 1377 = .ok (.iaload, 1) := by decide +kernel
theorem dL_law_1378 : decode cL_law 1378 = .ok (.aload_n 0, 1) := by decide +kernel
theorem dL_law_1379 : decode cL_law 1379 = .ok (.iload_n 3, 1) := by decide +kernel
theorem dL_law_1380 : decode cL_law 1380 = .ok (.iconst 4, 1) := by decide +kernel
theorem dL_law_1381 : decode cL_law 1381 = .ok (.iadd, 1) := by decide +kernel
theorem dL_law_1382 : decode cL_law 1382 = .ok (.iaload, 1) := by decide +kernel
theorem dL_law_1383 : decode cL_law 1383 = .ok (.invokevirtual 161, 3) := by decide +kernel
theorem dL_law_1386 : decode cL_law 1386 = .ok (.if_icmp .eq 38, 3) := by decide +kernel
theorem dL_law_1389 : decode cL_law 1389 = .ok (.iconst 0, 1) := by decide +kernel
theorem dL_law_1390 : decode cL_law 1390 = .ok (.ireturn, 1) := by decide +kernel
theorem dL_law_1391 : decode cL_law 1391 = .ok (.aload_n 1, 1) := by decide +kernel
theorem dL_law_1392 : decode cL_law 1392 = .ok (.aload_n 0, 1) := by decide +kernel
theorem dL_law_1393 : decode cL_law 1393 = .ok (.iload_n 3, 1) := by decide +kernel
theorem dL_law_1394 : decode cL_law 1394 = .ok (.iconst 1, 1) := by decide +kernel
theorem dL_law_1395 : decode cL_law 1395 = .ok (.iadd, 1) := by decide +kernel
theorem dL_law_1396 : decode cL_law 1396 = .ok (.iaload, 1) := by decide +kernel
theorem dL_law_1397 : decode cL_law 1397 = .ok (.aload_n 0, 1) := by decide +kernel
theorem dL_law_1398 : decode cL_law 1398 = .ok (.iload_n 3, 1) := by decide +kernel
theorem dL_law_1399 : decode cL_law 1399 = .ok (.iconst 2, 1) := by decide +kernel
theorem dL_law_1400 : decode cL_law 1400 = .ok (.iadd, 1) := by decide +kernel
theorem dL_law_1401 : decode cL_law 1401 = .ok (.iaload, 1) := by decide +kernel
theorem dL_law_1402 : decode cL_law 1402 = .ok (.invokevirtual 162, 3) := by decide +kernel
theorem dL_law_1405 : decode cL_law 1405 = .ok (.aload_n 2, 1) := by decide +kernel
theorem dL_law_1406 : decode cL_law 1406 = .ok (.aload_n 0, 1) := by decide +kernel
theorem dL_law_1407 : decode cL_law 1407 = .ok (.iload_n 3, 1) := by decide +kernel
theorem dL_law_1408 : decode cL_law 1408 = .ok (.iconst 1, 1) := by decide +kernel
theorem dL_law_1409 : decode cL_law 1409 = .ok (.iadd, 1) := by decide +kernel
theorem dL_law_1410 : decode cL_law 1410 = .ok (.iaload, 1) := by decide +kernel
theorem dL_law_1411 : decode cL_law 1411 = .ok (.aload_n 0, 1) := by decide +kernel
theorem dL_law_1412 : decode cL_law 1412 = .ok (.iload_n 3, 1) := by decide +kernel
theorem dL_law_1413 : decode cL_law 1413 = .ok (.iconst 2, 1) := by decide +kernel
theorem dL_law_1414 : decode cL_law 1414 = .ok (.iadd, 1) := by decide +kernel
theorem dL_law_1415 : decode cL_law 1415 = .ok (.iaload, 1) := by decide +kernel
theorem dL_law_1416 : decode cL_law 1416 = .ok (.invokevirtual 165, 3) := by decide +kernel
theorem dL_law_1419 : decode cL_law 1419 = .ok (.if_icmp .eq 5, 3) := by decide +kernel
theorem dL_law_1422 : decode cL_law 1422 = .ok (.iconst 0, 1) := by decide +kernel
theorem dL_law_1423 : decode cL_law 1423 = .ok (.ireturn, 1) := by decide +kernel
theorem dL_law_1424 : decode cL_law 1424 = .ok (.iinc 3 7, 3) := by decide +kernel
theorem dL_law_1427 : decode cL_law 1427 = .ok (.goto (-1409), 3) := by decide +kernel
theorem dL_law_1430 : decode cL_law 1430 = .ok (.iconst 1, 1) := by decide +kernel
theorem dL_law_1431 : decode cL_law 1431 = .ok (.ireturn, 1) := by decide +kernel
