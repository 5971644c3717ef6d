theorem dX4_putLots_29 : decode cX4_putLots 29 = .ok (.lmul, 1) := by decide +kernel
theorem dX4_putLots_30 : decode cX4_putLots 30 = .ok (.ldc2_w 229, 3) := by decide +kernel
theorem dX4_putLots_33 : decode cX4_putLots 33 = .ok (.lrem, 1) := by decide +kernel
theorem dX4_putLots_34 : decode cX4_putLots 34 = .ok (.lstore_n 3, 1) := by decide +kernel
theorem dX4_putLots_35 : decode cX4_putLots 35 = .ok (.lload_n 3, 1) := by decide +kernel
theorem dX4_putLots_36 : decode cX4_putLots 36 = .ok (.ldc2_w 231, 3) := by decide +kernel
theorem dX4_putLots_39 : decode cX4_putLots 39 = .ok (.lrem, 1) := by decide +kernel
theorem dX4_putLots_40 : decode cX4_putLots 40 = .ok (.l2i, 1) := by decide +kernel
theorem dX4_putLots_41 : decode cX4_putLots 41 = .ok (.istore 6, 2) := by decide +kernel
theorem dX4_putLots_43 : decode cX4_putLots 43 = .ok (.aload_n 0, 1) := by decide +kernel
theorem dX4_putLots_44 : decode cX4_putLots 44 = .ok (.getfield 32, 3) := by decide +kernel
theorem dX4_putLots_47 : decode cX4_putLots 47 = .ok (.iload 6, 2) := by decide +kernel
theorem dX4_putLots_49 : decode cX4_putLots 49 = .ok (.bipush 20, 2) := by decide +kernel
theorem dX4_putLots_51 : decode cX4_putLots 51 = .ok (.aload_n 0, 1) := by decide +kernel
theorem dX4_putLots_52 : decode cX4_putLots 52 = .ok (.getfield 32, 3) := by decide +kernel
theorem dX4_putLots_55 : decode cX4_putLots 55 = .ok (.getfield 83, 3) := by decide +kernel
theorem dX4_putLots_58 : decode cX4_putLots 58 = .ok (.iload 6, 2) := by decide +kernel
theorem dX4_putLots_60 : decode cX4_putLots 60 = .ok (.iaload, 1) := by decide +kernel
theorem dX4_putLots_61 : decode cX4_putLots 61 = .ok (.iconst 1, 1) := by decide +kernel
theorem dX4_putLots_62 : decode cX4_putLots 62 = .ok (.iadd, 1) := by decide +kernel
theorem dX4_putLots_63 : decode cX4_putLots 63 = .ok (.invokestatic 186, 3) := by decide +kernel
theorem dX4_putLots_66 : decode cX4_putLots 66 = .ok (.invokevirtual 86, 3) := by decide +kernel
theorem dX4_putLots_69 : decode cX4_putLots 69 = .ok (.iinc 5 1, 3) := by decide +kernel
theorem dX4_putLots_72 : decode cX4_putLots 72 = .ok (.goto (-53), 3) := by decide +kernel
theorem dX4_putLots_75 : decode cX4_putLots 75 = .ok (.return_, 1) := by decide +kernel
theorem dX4_odds_0 : decode cX4_odds 0 = .ok (.iload_n 1, 1) := by decide +kernel
theorem dX4_odds_1 : decode cX4_odds 1 = .ok (.ifCond .lt 39, 3) := by decide +kernel
theorem dX4_odds_4 : decode cX4_odds 4 = .ok (.iload_n 1, 1) := by decide +kernel
theorem dX4_odds_5 : decode cX4_odds 5 = .ok (.ldc 223, 2) := by decide +kernel
theorem dX4_odds_7 : decode cX4_odds 7 = .ok (.if_icmp .gt 33, 3) := by decide +kernel
theorem dX4_odds_10 : decode cX4_odds 10 = .ok (.iload_n 2, 1) := by decide +kernel
theorem dX4_odds_11 : decode cX4_odds 11 = .ok (.iconst 1, 1) := by decide +kernel
theorem dX4_odds_12 : decode cX4_odds 12 = .ok (.if_icmp .lt 28, 3) := by decide +kernel
theorem dX4_odds_15 : decode cX4_odds 15 = .ok (.iload_n 2, 1) := by decide +kernel
theorem dX4_odds_16 : decode cX4_odds 16 = .ok (.bipush 40, 2) := by decide +kernel
theorem dX4_odds_18 : decode cX4_odds 18 = .ok (.if_icmp .gt 22, 3) := by decide +kernel
theorem dX4_odds_21 : decode cX4_odds 21 = .ok (.aload_n 0, 1) := by decide +kernel
theorem dX4_odds_22 : decode cX4_odds 22 = .ok (.iload_n 3, 1) := by decide +kernel
theorem dX4_odds_23 : decode cX4_odds 23 = .ok (.invokevirtual 112, 3) := by decide +kernel
theorem dX4_odds_26 : decode cX4_odds 26 = .ok (.ifCond .eq 14, 3) := by decide +kernel
theorem dX4_odds_29 : decode cX4_odds 29 = .ok (.iload 4, 2) := by decide +kernel
theorem dX4_odds_31 : decode cX4_odds 31 = .ok (.ifCond .lt 9, 3) := by decide +kernel
theorem dX4_odds_34 : decode cX4_odds 34 = .ok (.iload 4, 2) := by decide +kernel
theorem dX4_odds_36 : decode cX4_odds 36 = .ok (.iconst 1, 1) := by decide +kernel
theorem dX4_odds_37 : decode cX4_odds 37 = .ok (.if_icmp .le 7, 3) := by decide +kernel
theorem dX4_odds_40 : decode cX4_odds 40 = .ok (.ldc2_w 196, 3) := by decide +kernel
theorem dX4_odds_43 : decode cX4_odds 43 = .ok (.lreturn, 1) := by decide +kernel
theorem dX4_odds_44 : decode cX4_odds 44 = .ok (.iconst 0, 1) := by decide +kernel
theorem dX4_odds_45 : decode cX4_odds 45 = .ok (.istore 5, 2) := by decide +kernel
theorem dX4_odds_47 : decode cX4_odds 47 = .ok (.iconst 0, 1) := by decide +kernel
theorem dX4_odds_48 : decode cX4_odds 48 = .ok (.istore 6, 2) := by decide +kernel
theorem dX4_odds_50 : decode cX4_odds 50 = .ok (.iload 6, 2) := by decide +kernel
theorem dX4_odds_52 : decode cX4_odds 52 = .ok (.iload_n 2, 1) := by decide +kernel
theorem dX4_odds_53 : decode cX4_odds 53 = .ok (.if_icmp .ge 35, 3) := by decide +kernel
theorem dX4_odds_56 : decode cX4_odds 56 = .ok (.aload_n 0, 1) := by decide +kernel
theorem dX4_odds_57 : decode cX4_odds 57 = .ok (.iload_n 1, 1) := by decide +kernel
theorem dX4_odds_58 : decode cX4_odds 58 = .ok (.iload 6, 2) := by decide +kernel
theorem dX4_odds_60 : decode cX4_odds 60 = .ok (.iadd, 1) := by decide +kernel
theorem dX4_odds_61 : decode cX4_odds 61 = .ok (.bipush 10, 2) := by decide +kernel
theorem dX4_odds_63 : decode cX4_odds 63 = .ok (.invokevirtual 224, 3) := by decide +kernel
theorem dX4_odds_66 : decode cX4_odds 66 = .ok (.aload_n 0, 1) := by decide +kernel
theorem dX4_odds_67 : decode cX4_odds 67 = .ok (.getfield 32, 3) := by decide +kernel
theorem dX4_odds_70 : decode cX4_odds 70 = .ok (.bipush 120, 2) := by decide +kernel
theorem dX4_odds_72 : decode cX4_odds 72 = .ok (.invokevirtual 161, 3) := by decide +kernel
theorem dX4_odds_75 : decode cX4_odds 75 = .ok (.iload_n 3, 1) := by decide +kernel
theorem dX4_odds_76 : decode cX4_odds 76 = .ok (.if_icmp .ne 6, 3) := by decide +kernel
theorem dX4_odds_79 : decode cX4_odds 79 = .ok (.iinc 5 1, 3) := by decide +kernel
theorem dX4_odds_82 : decode cX4_odds 82 = .ok (.iinc 6 1, 3) := by decide +kernel
theorem dX4_odds_85 : decode cX4_odds 85 = .ok (.goto (-35), 3) := by decide +kernel
theorem dX4_odds_88 : decode cX4_odds 88 = .ok (.iload 5, 2) := by decide +kernel
theorem dX4_odds_90 : decode cX4_odds 90 = .ok (.iload_n 2, 1) := by decide +kernel
theorem dX4_odds_91 : decode cX4_odds 91 = .ok (.iload 4, 2) := by decide +kernel
theorem dX4_odds_93 : decode cX4_odds 93 = .ok (.invokestatic 198, 3) := by decide +kernel
theorem dX4_odds_96 : decode cX4_odds 96 = .ok (.lreturn, 1) := by decide +kernel
theorem dX4_image_0 : decode cX4_image 0 = .ok (.aload_n 0, 1) := by decide +kernel
theorem dX4_image_1 : decode cX4_image 1 = .ok (.getfield 35, 3) := by decide +kernel
theorem dX4_image_4 : decode cX4_image 4 = .ok (.aload_n 0, 1) := by decide +kernel
theorem dX4_image_5 : decode cX4_image 5 = .ok (.getfield 28, 3) := by decide +kernel
theorem dX4_image_8 : decode cX4_image 8 = .ok (.invokevirtual 157, 3) := by decide +kernel
theorem dX4_image_11 : decode cX4_image 11 = .ok (.aload_n 0, 1) := by decide +kernel
theorem dX4_image_12 : decode cX4_image 12 = .ok (.iconst 1, 1) := by decide +kernel
theorem dX4_image_13 : decode cX4_image 13 = .ok (.putfield 38, 3) := by decide +kernel
theorem dX4_image_16 : decode cX4_image 16 = .ok (.aload_n 0, 1) := by decide +kernel
theorem dX4_image_17 : decode cX4_image 17 = .ok (.getfield 35, 3) := by decide +kernel
theorem dX4_image_20 : decode cX4_image 20 = .ok (.getfield 56, 3) := by decide +kernel
theorem dX4_image_23 : decode cX4_image 23 = .ok (.ireturn, 1) := by decide +kernel
theorem dX4_back_0 : decode cX4_back 0 = .ok (.aload_n 0, 1) := by decide +kernel
theorem dX4_back_1 : decode cX4_back 1 = .ok (.getfield 38, 3) := by decide +kernel
theorem dX4_back_4 : decode cX4_back 4 = .ok (.ifCond .ne 6, 3) := by decide +kernel
theorem dX4_back_7 : decode cX4_back 7 = .ok (.bipush (-3), 2) := by decide +kernel
theorem dX4_back_9 : decode cX4_back 9 = .ok (.ireturn, 1) := by decide +kernel
theorem dX4_back_10 : decode cX4_back 10 = .ok (.aload_n 0, 1) := by decide +kernel
theorem dX4_back_11 : decode cX4_back 11 = .ok (.getfield 28, 3) := by decide +kernel
theorem dX4_back_14 : decode cX4_back 14 = .ok (.aload_n 0, 1) := by decide +kernel
theorem dX4_back_15 : decode cX4_back 15 = .ok (.getfield 35, 3) := by decide +kernel
theorem dX4_back_18 : decode cX4_back 18 = .ok (.invokevirtual 157, 3) := by decide +kernel
theorem dX4_back_21 : decode cX4_back 21 = .ok (.aload_n 0, 1) := by decide +kernel
theorem dX4_back_22 : decode cX4_back 22 = .ok (.getfield 28, 3) := by decide +kernel
theorem dX4_back_25 : decode cX4_back 25 = .ok (.getfield 56, 3) := by decide +kernel
theorem dX4_back_28 : decode cX4_back 28 = .ok (.ireturn, 1) := by decide +kernel
theorem dX4_sheet_0 : decode cX4_sheet 0 = .ok (.iload_n 1, 1) := by decide +kernel
theorem dX4_sheet_1 : decode cX4_sheet 1 = .ok (.invokestatic 218, 3) := by decide +kernel
theorem dX4_sheet_4 : decode cX4_sheet 4 = .ok (.ifCond .eq 24, 3) := by decide +kernel
theorem dX4_sheet_7 : decode cX4_sheet 7 = .ok (.iload_n 2, 1) := by decide +kernel
theorem dX4_sheet_8 : decode cX4_sheet 8 = .ok (.iconst (-1), 1) := by decide +kernel
theorem dX4_sheet_9 : decode cX4_sheet 9 = .ok (.if_icmp .lt 19, 3) := by decide +kernel
theorem dX4_sheet_12 : decode cX4_sheet 12 = .ok (.iload_n 2, 1) := by decide +kernel
theorem dX4_sheet_13 : decode cX4_sheet 13 = .ok (.iconst 2, 1) := by decide +kernel
theorem dX4_sheet_14 : decode cX4_sheet 14 = .ok (.if_icmp .gt 14, 3) := by decide +kernel
theorem dX4_sheet_17 : decode cX4_sheet 17 = .ok (.iload_n 2, 1) := by decide +kernel
theorem dX4_sheet_18 : decode cX4_sheet 18 = .ok (.iconst (-1), 1) := by decide +kernel
theorem dX4_sheet_19 : decode cX4_sheet 19 = .ok (.if_icmp .eq 12, 3) := by decide +kernel
theorem dX4_sheet_22 : decode cX4_sheet 22 = .ok (.iload_n 3, 1) := by decide +kernel
theorem dX4_sheet_23 : decode cX4_sheet 23 = .ok (.bipush 40, 2) := by decide +kernel
theorem dX4_sheet_25 : decode cX4_sheet 25 = .ok (.if_icmp .le 6, 3) := by decide +kernel
theorem dX4_sheet_28 : decode cX4_sheet 28 = .ok (.bipush (-2), 2) := by decide +kernel
theorem dX4_sheet_30 : decode cX4_sheet 30 = .ok (.ireturn, 1) := by decide +kernel
theorem dX4_sheet_31 : decode cX4_sheet 31 = .ok (.iload_n 2, 1) := by decide +kernel
theorem dX4_sheet_32 : decode cX4_sheet 32 = .ok (.iconst (-1), 1) := by decide +kernel
theorem dX4_sheet_33 : decode cX4_sheet 33 = .ok (.if_icmp .eq 10, 3) := by decide +kernel
theorem dX4_sheet_36 : decode cX4_sheet 36 = .ok (.iload_n 3, 1) := by decide +kernel
theorem dX4_sheet_37 : decode cX4_sheet 37 = .ok (.ifCond .ge 6, 3) := by decide +kernel
theorem dX4_sheet_40 : decode cX4_sheet 40 = .ok (.bipush (-14), 2) := by decide +kernel
theorem dX4_sheet_42 : decode cX4_sheet 42 = .ok (.ireturn, 1) := by decide +kernel
theorem dX4_sheet_43 : decode cX4_sheet 43 = .ok (.aload_n 0, 1) := by decide +kernel
theorem dX4_sheet_44 : decode cX4_sheet 44 = .ok (.getfield 45, 3) := by decide +kernel
theorem dX4_sheet_47 : decode cX4_sheet 47 = .ok (.iload_n 1, 1) := by decide +kernel
theorem dX4_sheet_48 : decode cX4_sheet 48 = .ok (.iload_n 2, 1) := by decide +kernel
theorem dX4_sheet_49 : decode cX4_sheet 49 = .ok (.iload_n 2, 1) := by decide +kernel
theorem dX4_sheet_50 : decode cX4_sheet 50 = .ok (.iconst (-1), 1) := by decide +kernel
theorem dX4_sheet_51 : decode cX4_sheet 51 = .ok (.if_icmp .ne 7, 3) := by decide +kernel
theorem dX4_sheet_54 : decode cX4_sheet 54 = .ok (.iconst 0, 1) := by decide +kernel
theorem dX4_sheet_55 : decode cX4_sheet 55 = .ok (.goto 4, 3) := by decide +kernel
theorem dX4_sheet_58 : decode cX4_sheet 58 = .ok (.iload_n 3, 1) := by decide +kernel
theorem dX4_sheet_59 : decode cX4_sheet 59 = .ok (.invokevirtual 221, 3) := by decide +kernel
theorem dX4_sheet_62 : decode cX4_sheet 62 = .ok (.iconst 1, 1) := by decide +kernel
theorem dX4_sheet_63 : decode cX4_sheet 63 = .ok (.ireturn, 1) := by decide +kernel
theorem dX4_cell_0 : decode cX4_cell 0 = .ok (.iload_n 1, 1) := by decide +kernel
theorem dX4_cell_1 : decode cX4_cell 1 = .ok (.invokestatic 218, 3) := by decide +kernel
theorem dX4_cell_4 : decode cX4_cell 4 = .ok (.ifCond .ne 6, 3) := by decide +kernel
theorem dX4_cell_7 : decode cX4_cell 7 = .ok (.bipush (-2), 2) := by decide +kernel
theorem dX4_cell_9 : decode cX4_cell 9 = .ok (.ireturn, 1) := by decide +kernel
theorem dX4_cell_10 : decode cX4_cell 10 = .ok (.aload_n 0, 1) := by decide +kernel
theorem dX4_cell_11 : decode cX4_cell 11 = .ok (.getfield 45, 3) := by decide +kernel
theorem dX4_cell_14 : decode cX4_cell 14 = .ok (.iload_n 1, 1) := by decide +kernel
theorem dX4_cell_15 : decode cX4_cell 15 = .ok (.invokevirtual 233, 3) := by decide +kernel
theorem dX4_cell_18 : decode cX4_cell 18 = .ok (.ifCond .eq 6, 3) := by decide +kernel
theorem dX4_cell_21 : decode cX4_cell 21 = .ok (.bipush (-11), 2) := by decide +kernel
theorem dX4_cell_23 : decode cX4_cell 23 = .ok (.ireturn, 1) := by decide +kernel
theorem dX4_cell_24 : decode cX4_cell 24 = .ok (.iload_n 2, 1) := by decide +kernel
theorem dX4_cell_25 : decode cX4_cell 25 = .ok (.ifCond .lt 16, 3) := by decide +kernel
theorem dX4_cell_28 : decode cX4_cell 28 = .ok (.iload_n 2, 1) := by decide +kernel
theorem dX4_cell_29 : decode cX4_cell 29 = .ok (.aload_n 0, 1) := by decide +kernel
theorem dX4_cell_30 : decode cX4_cell 30 = .ok (.getfield 45, 3) := by decide +kernel
theorem dX4_cell_33 : decode cX4_cell 33 = .ok (.getfield 208, 3) := by decide +kernel
theorem dX4_cell_36 : decode cX4_cell 36 = .ok (.iload_n 1, 1) := by decide +kernel
theorem dX4_cell_37 : decode cX4_cell 37 = .ok (.iaload, 1) := by decide +kernel
theorem dX4_cell_38 : decode cX4_cell 38 = .ok (.if_icmp .lt 6, 3) := by decide +kernel
theorem dX4_cell_41 : decode cX4_cell 41 = .ok (.bipush (-12), 2) := by decide +kernel
theorem dX4_cell_43 : decode cX4_cell 43 = .ok (.ireturn, 1) := by decide +kernel
theorem dX4_cell_44 : decode cX4_cell 44 = .ok (.aload_n 0, 1) := by decide +kernel
theorem dX4_cell_45 : decode cX4_cell 45 = .ok (.getfield 45, 3) := by decide +kernel
theorem dX4_cell_48 : decode cX4_cell 48 = .ok (.iload_n 1, 1) := by decide +kernel
theorem dX4_cell_49 : decode cX4_cell 49 = .ok (.iload_n 2, 1) := by decide +kernel
theorem dX4_cell_50 : decode cX4_cell 50 = .ok (.iload_n 3, 1) := by decide +kernel
theorem dX4_cell_51 : decode cX4_cell 51 = .ok (.invokevirtual 236, 3) := by decide +kernel
theorem dX4_cell_54 : decode cX4_cell 54 = .ok (.iconst 1, 1) := by decide +kernel
theorem dX4_cell_55 : decode cX4_cell 55 = .ok (.ireturn, 1) := by decide +kernel
theorem dX4_copy_0 : decode cX4_copy 0 = .ok (.iload_n 1, 1) := by decide +kernel
theorem dX4_copy_1 : decode cX4_copy 1 = .ok (.invokestatic 218, 3) := by decide +kernel
theorem dX4_copy_4 : decode cX4_copy 4 = .ok (.ifCond .eq 10, 3) := by decide +kernel
theorem dX4_copy_7 : decode cX4_copy 7 = .ok (.iload_n 3, 1) := by decide +kernel
theorem dX4_copy_8 : decode cX4_copy 8 = .ok (.invokestatic 218, 3) := by decide +kernel
theorem dX4_copy_11 : decode cX4_copy 11 = .ok (.ifCond .ne 6, 3) := by decide +kernel
theorem dX4_copy_14 : decode cX4_copy 14 = .ok (.bipush (-2), 2) := by decide +kernel
theorem dX4_copy_16 : decode cX4_copy 16 = .ok (.ireturn, 1) := by decide +kernel
theorem dX4_copy_17 : decode cX4_copy 17 = .ok (.aload_n 0, 1) := by decide +kernel
theorem dX4_copy_18 : decode cX4_copy 18 = .ok (.getfield 45, 3) := by decide +kernel
theorem dX4_copy_21 : decode cX4_copy 21 = .ok (.iload_n 1, 1) := by decide +kernel
theorem dX4_copy_22 : decode cX4_copy 22 = .ok (.invokevirtual 233, 3) := by decide +kernel
theorem dX4_copy_25 : decode cX4_copy 25 = .ok (.ifCond .ne 14, 3) := by decide +kernel
theorem dX4_copy_28 : decode cX4_copy 28 = .ok (.aload_n 0, 1) := by decide +kernel
theorem dX4_copy_29 : decode cX4_copy 29 = .ok (.getfield 45, 3) := by decide +kernel
theorem dX4_copy_32 : decode cX4_copy 32 = .ok (.iload_n 3, 1) := by decide +kernel
theorem dX4_copy_33 : decode cX4_copy 33 = .ok (.invokevirtual 233, 3) := by decide +kernel
theorem dX4_copy_36 : decode cX4_copy 36 = .ok (.ifCond .eq 6, 3) := by decide +kernel
theorem dX4_copy_39 : decode cX4_copy 39 = .ok (.bipush (-11), 2) := by decide +kernel
theorem dX4_copy_41 : decode cX4_copy 41 = .ok (.ireturn, 1) := by decide +kernel
theorem dX4_copy_42 : decode cX4_copy 42 = .ok (.aload_n 0, 1) := by decide +kernel
theorem dX4_copy_43 : decode cX4_copy 43 = .ok (.getfield 45, 3) := by decide +kernel
theorem dX4_copy_46 : decode cX4_copy 46 = .ok (.getfield 239, 3) := by decide +kernel
theorem dX4_copy_49 : decode cX4_copy 49 = .ok (.iload_n 1, 1) := by decide +kernel
theorem dX4_copy_50 : decode cX4_copy 50 = .ok (.iaload, 1) := by decide +kernel
theorem dX4_copy_51 : decode cX4_copy 51 = .ok (.aload_n 0, 1) := by decide +kernel
theorem dX4_copy_52 : decode cX4_copy 52 = .ok (.getfield 45, 3) := by decide +kernel
theorem dX4_copy_55 : decode cX4_copy 55 = .ok (.getfield 239, 3) := by decide +kernel
theorem dX4_copy_58 : decode cX4_copy 58 = .ok (.iload_n 3, 1) := by decide +kernel
theorem dX4_copy_59 : decode cX4_copy 59 = .ok (.iaload, 1) := by decide +kernel
theorem dX4_copy_60 : decode cX4_copy 60 = .ok (.if_icmp .eq 6, 3) := by decide +kernel
theorem dX4_copy_63 : decode cX4_copy 63 = .ok (.bipush (-13), 2) := by decide +kernel
theorem dX4_copy_65 : decode cX4_copy 65 = .ok (.ireturn, 1) := by decide +kernel
theorem dX4_copy_66 : decode cX4_copy 66 = .ok (.iload 5, 2) := by decide +kernel
theorem dX4_copy_68 : decode cX4_copy 68 = .ok (.ifCond .lt 45, 3) := by decide +kernel
theorem dX4_copy_71 : decode cX4_copy 71 = .ok (.iload_n 2, 1) := by decide +kernel
theorem dX4_copy_72 : decode cX4_copy 72 = .ok (.ifCond .lt 41, 3) := by decide +kernel
theorem dX4_copy_75 : decode cX4_copy 75 = .ok (.iload 4, 2) := by decide +kernel
theorem dX4_copy_77 : decode cX4_copy 77 = .ok (.ifCond .lt 36, 3) := by decide +kernel
theorem dX4_copy_80 : decode cX4_copy 80 = .ok (.iload_n 2, 1) := by decide +kernel
theorem dX4_copy_81 : decode cX4_copy 81 = .ok (.aload_n 0, 1) := by decide +kernel
theorem dX4_copy_82 : decode cX4_copy 82 = .ok (.getfield 45, 3) := by decide +kernel
theorem dX4_copy_85 : decode cX4_copy 85 = .ok (.getfield 208, 3) := by decide +kernel
theorem dX4_copy_88 : decode cX4_copy 88 = .ok (.iload_n 1, 1) := by decide +kernel
theorem dX4_copy_89 : decode cX4_copy 89 = .ok (.iaload, 1) := by decide +kernel
theorem dX4_copy_90 : decode cX4_copy 90 = .ok (.iload 5, 2) := by decide +kernel
theorem dX4_copy_92 : decode cX4_copy 92 = .ok (.isub, 1) := by decide +kernel
theorem dX4_copy_93 : decode cX4_copy 93 = .ok (.if_icmp .gt 20, 3) := by decide +kernel
theorem dX4_copy_96 : decode cX4_copy 96 = .ok (.iload 4, 2) := by decide +kernel
theorem dX4_copy_98 : decode cX4_copy 98 = .ok (.aload_n 0, 1) := by decide +kernel
theorem dX4_copy_99 : decode cX4_copy 99 = .ok (.getfield 45, 3) := by decide +kernel
theorem dX4_copy_102 : decode cX4_copy 102 = .ok (.getfield 208, 3) := by decide +kernel
theorem dX4_copy_105 : decode cX4_copy 105 = .ok (.iload_n 3, 1) := by decide +kernel
theorem dX4_copy_106 : decode cX4_copy 106 = .ok (.iaload, 1) := by decide +kernel
theorem dX4_copy_107 : decode cX4_copy 107 = .ok (.iload 5, 2) := by decide +kernel
theorem dX4_copy_109 : decode cX4_copy 109 = .ok (.isub, 1) := by decide +kernel
theorem dX4_copy_110 : decode cX4_copy 110 = .ok (.if_icmp .le 6, 3) := by decide +kernel
theorem dX4_copy_113 : decode cX4_copy 113 = .ok (.bipush (-12), 2) := by decide +kernel
theorem dX4_copy_115 : decode cX4_copy 115 = .ok (.ireturn, 1) := by decide +kernel
theorem dX4_copy_116 : decode cX4_copy 116 = .ok (.aload_n 0, 1) := by decide +kernel
theorem dX4_copy_117 : decode cX4_copy 117 = .ok (.getfield 45, 3) := by decide +kernel
theorem dX4_copy_120 : decode cX4_copy 120 = .ok (.getfield 211, 3) := by decide +kernel
theorem dX4_copy_123 : decode cX4_copy 123 = .ok (.iload_n 1, 1) := by decide +kernel
theorem dX4_copy_124 : decode cX4_copy 124 = .ok (.aaload, 1) := by decide +kernel
theorem dX4_copy_125 : decode cX4_copy 125 = .ok (.iload_n 2, 1) := by decide +kernel
theorem dX4_copy_126 : decode cX4_copy 126 = .ok (.aload_n 0, 1) := by decide +kernel
theorem dX4_copy_127 : decode cX4_copy 127 = .ok (.getfield 45, 3) := by decide +kernel
theorem dX4_copy_130 : decode cX4_copy 130 = .ok (.getfield 211, 3) := by decide +kernel
theorem dX4_copy_133 : decode cX4_copy 133 = .ok (.iload_n 3, 1) := by decide +kernel
theorem dX4_copy_134 : decode cX4_copy 134 = .ok (.aaload, 1) := by decide +kernel
theorem dX4_copy_135 : decode cX4_copy 135 = .ok (.iload 4, 2) := by decide +kernel
theorem dX4_copy_137 : decode cX4_copy 137 = .ok (.iload 5, 2) := by decide +kernel
theorem dX4_copy_139 : decode cX4_copy 139 = .ok (.invokestatic 242, 3) := by decide +kernel
theorem dX4_copy_142 : decode cX4_copy 142 = .ok (.iload 5, 2) := by decide +kernel
theorem dX4_copy_144 : decode cX4_copy 144 = .ok (.ireturn, 1) := by decide +kernel
theorem dX4_pewBy_0 : decode cX4_pewBy 0 = .ok (.iload_n 1, 1) := by decide +kernel
theorem dX4_pewBy_1 : decode cX4_pewBy 1 = .ok (.invokestatic 218, 3) := by decide +kernel
theorem dX4_pewBy_4 : decode cX4_pewBy 4 = .ok (.ifCond .eq 24, 3) := by decide +kernel
theorem dX4_pewBy_7 : decode cX4_pewBy 7 = .ok (.iload_n 2, 1) := by decide +kernel
theorem dX4_pewBy_8 : decode cX4_pewBy 8 = .ok (.ifCond .lt 20, 3) := by decide +kernel
theorem dX4_pewBy_11 : decode cX4_pewBy 11 = .ok (.iload_n 2, 1) := by decide +kernel
theorem dX4_pewBy_12 : decode cX4_pewBy 12 = .ok (.iconst 2, 1) := by decide +kernel
theorem dX4_pewBy_13 : decode cX4_pewBy 13 = .ok (.if_icmp .gt 15, 3) := by decide +kernel
theorem dX4_pewBy_16 : decode cX4_pewBy 16 = .ok (.iload 4, 2) := by decide +kernel
theorem dX4_pewBy_18 : decode cX4_pewBy 18 = .ok (.ifCond .lt 10, 3) := by decide +kernel
theorem dX4_pewBy_21 : decode cX4_pewBy 21 = .ok (.iload 4, 2) := by decide +kernel
theorem dX4_pewBy_23 : decode cX4_pewBy 23 = .ok (.bipush 6, 2) := by decide +kernel
theorem dX4_pewBy_25 : decode cX4_pewBy 25 = .ok (.if_icmp .le 6, 3) := by decide +kernel
theorem dX4_pewBy_28 : decode cX4_pewBy 28 = .ok (.bipush (-2), 2) := by decide +kernel
theorem dX4_pewBy_30 : decode cX4_pewBy 30 = .ok (.ireturn, 1) := by decide +kernel
theorem dX4_pewBy_31 : decode cX4_pewBy 31 = .ok (.aload_n 0, 1) := by decide +kernel
theorem dX4_pewBy_32 : decode cX4_pewBy 32 = .ok (.getfield 45, 3) := by decide +kernel
theorem dX4_pewBy_35 : decode cX4_pewBy 35 = .ok (.iload_n 1, 1) := by decide +kernel
theorem dX4_pewBy_36 : decode cX4_pewBy 36 = .ok (.invokevirtual 233, 3) := by decide +kernel
theorem dX4_pewBy_39 : decode cX4_pewBy 39 = .ok (.ifCond .eq 6, 3) := by decide +kernel
theorem dX4_pewBy_42 : decode cX4_pewBy 42 = .ok (.bipush (-11), 2) := by decide +kernel
theorem dX4_pewBy_44 : decode cX4_pewBy 44 = .ok (.ireturn, 1) := by decide +kernel
theorem dX4_pewBy_45 : decode cX4_pewBy 45 = .ok (.aload_n 0, 1) := by decide +kernel
theorem dX4_pewBy_46 : decode cX4_pewBy 46 = .ok (.getfield 45, 3) := by decide +kernel
theorem dX4_pewBy_49 : decode cX4_pewBy 49 = .ok (.getfield 239, 3) := by decide +kernel
theorem dX4_pewBy_52 : decode cX4_pewBy 52 = .ok (.iload_n 1, 1) := by decide +kernel
theorem dX4_pewBy_53 : decode cX4_pewBy 53 = .ok (.iaload, 1) := by decide +kernel
theorem dX4_pewBy_54 : decode cX4_pewBy 54 = .ok (.iload_n 2, 1) := by decide +kernel
theorem dX4_pewBy_55 : decode cX4_pewBy 55 = .ok (.if_icmp .eq 6, 3) := by decide +kernel
theorem dX4_pewBy_58 : decode cX4_pewBy 58 = .ok (.bipush (-13), 2) := by decide +kernel
theorem dX4_pewBy_60 : decode cX4_pewBy 60 = .ok (.ireturn, 1) := by decide +kernel
theorem dX4_pewBy_61 : decode cX4_pewBy 61 = .ok (.iconst 0, 1) := by decide +kernel
theorem dX4_pewBy_62 : decode cX4_pewBy 62 = .ok (.istore 5, 2) := by decide +kernel
theorem dX4_pewBy_64 : decode cX4_pewBy 64 = .ok (.iconst 0, 1) := by decide +kernel
theorem dX4_pewBy_65 : decode cX4_pewBy 65 = .ok (.istore 6, 2) := by decide +kernel
theorem dX4_pewBy_67 : decode cX4_pewBy 67 = .ok (.iload 6, 2) := by decide +kernel
theorem dX4_pewBy_69 : decode cX4_pewBy 69 = .ok (.iload 4, 2) := by decide +kernel
theorem dX4_pewBy_71 : decode cX4_pewBy 71 = .ok (.if_icmp .ge 77, 3) := by decide +kernel
theorem dX4_pewBy_74 : decode cX4_pewBy 74 = .ok (.iload_n 3, 1) := by decide +kernel
theorem dX4_pewBy_75 : decode cX4_pewBy 75 = .ok (.iconst 2, 1) := by decide +kernel
theorem dX4_pewBy_76 : decode cX4_pewBy 76 = .ok (.iload 6, 2) := by decide +kernel
theorem dX4_pewBy_78 : decode cX4_pewBy 78 = .ok (.imul, 1) := by decide +kernel
theorem dX4_pewBy_79 : decode cX4_pewBy 79 = .ok (.iadd, 1) := by decide +kernel
theorem dX4_pewBy_80 : decode cX4_pewBy 80 = .ok (.istore 7, 2) := by decide +kernel
theorem dX4_pewBy_82 : decode cX4_pewBy 82 = .ok (.iload 7, 2) := by decide +kernel
theorem dX4_pewBy_84 : decode cX4_pewBy 84 = .ok (.ifCond .lt 19, 3) := by decide +kernel
theorem dX4_pewBy_87 : decode cX4_pewBy 87 = .ok (.iload 7, 2) := by decide +kernel
theorem dX4_pewBy_89 : decode cX4_pewBy 89 = .ok (.aload_n 0, 1) := by decide +kernel
theorem dX4_pewBy_90 : decode cX4_pewBy 90 = .ok (.getfield 45, 3) := by decide +kernel
theorem dX4_pewBy_93 : decode cX4_pewBy 93 = .ok (.getfield 208, 3) := by decide +kernel
theorem dX4_pewBy_96 : decode cX4_pewBy 96 = .ok (.iload_n 1, 1) := by decide +kernel
theorem dX4_pewBy_97 : decode cX4_pewBy 97 = .ok (.iaload, 1) := by decide +kernel
theorem dX4_pewBy_98 : decode cX4_pewBy 98 = .ok (.iconst 2, 1) := by decide +kernel
theorem dX4_pewBy_99 : decode cX4_pewBy 99 = .ok (.isub, 1) := by decide +kernel
theorem dX4_pewBy_100 : decode cX4_pewBy 100 = .ok (.if_icmp .le 6, 3) := by decide +kernel
theorem dX4_pewBy_103 : decode cX4_pewBy 103 = .ok (.bipush (-12), 2) := by decide +kernel
theorem dX4_pewBy_105 : decode cX4_pewBy 105 = .ok (.ireturn, 1) := by decide +kernel
theorem dX4_pewBy_106 : decode cX4_pewBy 106 = .ok (.aload_n 0, 1) := by decide +kernel
theorem dX4_pewBy_107 : decode cX4_pewBy 107 = .ok (.aload_n 0, 1) := by decide +kernel
theorem dX4_pewBy_108 : decode cX4_pewBy 108 = .ok (.getfield 45, 3) := by decide +kernel
theorem dX4_pewBy_111 : decode cX4_pewBy 111 = .ok (.getfield 211, 3) := by decide +kernel
theorem dX4_pewBy_114 : decode cX4_pewBy 114 = .ok (.iload_n 1, 1) := by decide +kernel
theorem dX4_pewBy_115 : decode cX4_pewBy 115 = .ok (.aaload, 1) := by decide +kernel
theorem dX4_pewBy_116 : decode cX4_pewBy 116 = .ok (.iload 7, 2) := by decide +kernel
theorem dX4_pewBy_118 : decode cX4_pewBy 118 = .ok (.iaload, 1) := by decide +kernel
theorem dX4_pewBy_119 : decode cX4_pewBy 119 = .ok (.aload_n 0, 1) := by decide +kernel
theorem dX4_pewBy_120 : decode cX4_pewBy 120 = .ok (.getfield 45, 3) := by decide +kernel
theorem dX4_pewBy_123 : decode cX4_pewBy 123 = .ok (.getfield 211, 3) := by decide +kernel
theorem dX4_pewBy_126 : decode cX4_pewBy 126 = .ok (.iload_n 1, 1) := by decide +kernel
theorem dX4_pewBy_127 : decode cX4_pewBy 127 = .ok (.aaload, 1) := by decide +kernel
theorem dX4_pewBy_128 : decode cX4_pewBy 128 = .ok (.iload 7, 2) := by decide +kernel
theorem dX4_pewBy_130 : decode cX4_pewBy 130 = .ok (.iconst 1, 1) := by decide +kernel
theorem dX4_pewBy_131 : decode cX4_pewBy 131 = .ok (.iadd, 1) := by decide +kernel
theorem dX4_pewBy_132 : decode cX4_pewBy 132 = .ok (.iaload, 1) := by decide +kernel
theorem dX4_pewBy_133 : decode cX4_pewBy 133 = .ok (.invokevirtual 248, 3) := by decide +kernel
theorem dX4_pewBy_136 : decode cX4_pewBy 136 = .ok (.ifCond .lt 6, 3) := by decide +kernel
theorem dX4_pewBy_139 : decode cX4_pewBy 139 = .ok (.iinc 5 1, 3) := by decide +kernel
theorem dX4_pewBy_142 : decode cX4_pewBy 142 = .ok (.iinc 6 1, 3) := by decide +kernel
theorem dX4_pewBy_145 : decode cX4_pewBy 145 = .ok (.goto (-78), 3) := by decide +kernel
theorem dX4_pewBy_148 : decode cX4_pewBy 148 = .ok (.iload 5, 2) := by decide +kernel
theorem dX4_pewBy_150 : decode cX4_pewBy 150 = .ok (.ireturn, 1) := by decide +kernel
theorem dX4_taken_0 : decode cX4_taken 0 = .ok (.iload_n 2, 1) := by decide +kernel
theorem dX4_taken_1 : decode cX4_taken 1 = .ok (.ifCond .lt 9, 3) := by decide +kernel
theorem dX4_taken_4 : decode cX4_taken 4 = .ok (.iload_n 2, 1) := by decide +kernel
theorem dX4_taken_5 : decode cX4_taken 5 = .ok (.bipush 6, 2) := by decide +kernel
theorem dX4_taken_7 : decode cX4_taken 7 = .ok (.if_icmp .le 6, 3) := by decide +kernel
theorem dX4_taken_10 : decode cX4_taken 10 = .ok (.bipush (-2), 2) := by decide +kernel
theorem dX4_taken_12 : decode cX4_taken 12 = .ok (.ireturn, 1) := by decide +kernel
theorem dX4_taken_13 : decode cX4_taken 13 = .ok (.iload_n 1, 1) := by decide +kernel
theorem dX4_taken_14 : decode cX4_taken 14 = .ok (.ifCond .lt 9, 3) := by decide +kernel
theorem dX4_taken_17 : decode cX4_taken 17 = .ok (.iload_n 1, 1) := by decide +kernel
theorem dX4_taken_18 : decode cX4_taken 18 = .ok (.bipush 12, 2) := by decide +kernel
theorem dX4_taken_20 : decode cX4_taken 20 = .ok (.if_icmp .lt 6, 3) := by decide +kernel
theorem dX4_taken_23 : decode cX4_taken 23 = .ok (.bipush (-12), 2) := by decide +kernel
theorem dX4_taken_25 : decode cX4_taken 25 = .ok (.ireturn, 1) := by decide +kernel
theorem dX4_taken_26 : decode cX4_taken 26 = .ok (.iload_n 1, 1) := by decide +kernel
theorem dX4_taken_27 : decode cX4_taken 27 = .ok (.bipush 6, 2) := by decide +kernel
theorem dX4_taken_29 : decode cX4_taken 29 = .ok (.if_icmp .lt 27, 3) := by decide +kernel
theorem dX4_taken_32 : decode cX4_taken 32 = .ok (.iload_n 2, 1) := by decide +kernel
theorem dX4_taken_33 : decode cX4_taken 33 = .ok (.bipush 6, 2) := by decide +kernel
theorem dX4_taken_35 : decode cX4_taken 35 = .ok (.if_icmp .ne 18, 3) := by decide +kernel
theorem dX4_taken_38 : decode cX4_taken 38 = .ok (.aload_n 0, 1) := by decide +kernel
theorem dX4_taken_39 : decode cX4_taken 39 = .ok (.getfield 28, 3) := by decide +kernel
theorem dX4_taken_42 : decode cX4_taken 42 = .ok (.getfield 83, 3) := by decide +kernel
theorem dX4_taken_45 : decode cX4_taken 45 = .ok (.iload_n 1, 1) := by decide +kernel
theorem dX4_taken_46 : decode cX4_taken 46 = .ok (.bipush 6, 2) := by decide +kernel
theorem dX4_taken_48 : decode cX4_taken 48 = .ok (.isub, 1) := by decide +kernel
theorem dX4_taken_49 : decode cX4_taken 49 = .ok (.iaload, 1) := by decide +kernel
theorem dX4_taken_50 : decode cX4_taken 50 = .ok (.goto 5, 3) := by decide +kernel
theorem dX4_taken_53 : decode cX4_taken 53 = .ok (.bipush (-13), 2) := by decide +kernel
theorem dX4_taken_55 : decode cX4_taken 55 = .ok (.ireturn, 1) := by decide +kernel
theorem dX4_taken_56 : decode cX4_taken 56 = .ok (.aload_n 0, 1) := by decide +kernel
theorem dX4_taken_57 : decode cX4_taken 57 = .ok (.iload_n 1, 1) := by decide +kernel
theorem dX4_taken_58 : decode cX4_taken 58 = .ok (.invokevirtual 112, 3) := by decide +kernel
theorem dX4_taken_61 : decode cX4_taken 61 = .ok (.ifCond .ne 6, 3) := by decide +kernel
theorem dX4_taken_64 : decode cX4_taken 64 = .ok (.bipush (-11), 2) := by decide +kernel
theorem dX4_taken_66 : decode cX4_taken 66 = .ok (.ireturn, 1) := by decide +kernel
theorem dX4_taken_67 : decode cX4_taken 67 = .ok (.aload_n 0, 1) := by decide +kernel
theorem dX4_taken_68 : decode cX4_taken 68 = .ok (.getfield 28, 3) := by decide +kernel
theorem dX4_taken_71 : decode cX4_taken 71 = .ok (.getfield 132, 3) := by decide +kernel
theorem dX4_taken_74 : decode cX4_taken 74 = .ok (.iload_n 1, 1) := by decide +kernel
theorem dX4_taken_75 : decode cX4_taken 75 = .ok (.iaload, 1) := by decide +kernel
theorem dX4_taken_76 : decode cX4_taken 76 = .ok (.iload_n 2, 1) := by decide +kernel
theorem dX4_taken_77 : decode cX4_taken 77 = .ok (.invokestatic 251, 3) := by decide +kernel
theorem dX4_taken_80 : decode cX4_taken 80 = .ok (.ifCond .eq 7, 3) := by decide +kernel
theorem dX4_taken_83 : decode cX4_taken 83 = .ok (.iload_n 1, 1) := by decide +kernel
theorem dX4_taken_84 : decode cX4_taken 84 = .ok (.goto 5, 3) := by decide +kernel
theorem dX4_taken_87 : decode cX4_taken 87 = .ok (.bipush (-13), 2) := by decide +kernel
theorem dX4_taken_89 : decode cX4_taken 89 = .ok (.ireturn, 1) := by decide +kernel
theorem dX4_isOneOf_0 : decode cX4_isOneOf 0 = .ok (.iload_n 1, 1) := by decide +kernel
theorem dX4_isOneOf_1 : decode cX4_isOneOf 1 = .ok (.tableswitch 61 0 2 #[27, 29, 45], 27) := by decide +kernel
theorem dX4_isOneOf_28 : decode cX4_isOneOf 28 = .ok (.iconst 1, 1) := by decide +kernel
theorem dX4_isOneOf_29 : decode cX4_isOneOf 29 = .ok (.ireturn, 1) := by decide +kernel
theorem dX4_isOneOf_30 : decode cX4_isOneOf 30 = .ok (.iload_n 0, 1) := by decide +kernel
theorem dX4_isOneOf_31 : decode cX4_isOneOf 31 = .ok (.iconst 1, 1) := by decide +kernel
theorem dX4_isOneOf_32 : decode cX4_isOneOf 32 = .ok (.if_icmp .eq 8, 3) := by decide +kernel
theorem dX4_isOneOf_35 : decode cX4_isOneOf 35 = .ok (.iload_n 0, 1) := by decide +kernel
theorem dX4_isOneOf_36 : decode cX4_isOneOf 36 = .ok (.iconst 3, 1) := by decide +kernel
theorem dX4_isOneOf_37 : decode cX4_isOneOf 37 = .ok (.if_icmp .ne 7, 3) := by decide +kernel
theorem dX4_isOneOf_40 : decode cX4_isOneOf 40 = .ok (.iconst 1, 1) := by decide +kernel
theorem dX4_isOneOf_41 : decode cX4_isOneOf 41 = .ok (.goto 4, 3) := by decide +kernel
theorem dX4_isOneOf_44 : decode cX4_isOneOf 44 = .ok (.iconst 0, 1) := by decide +kernel
theorem dX4_isOneOf_45 : decode cX4_isOneOf 45 = .ok (.ireturn, 1) := by decide +kernel
theorem dX4_isOneOf_46 : decode cX4_isOneOf 46 = .ok (.iload_n 0, 1) := by decide +kernel
theorem dX4_isOneOf_47 : decode cX4_isOneOf 47 = .ok (.iconst 2, 1) := by decide +kernel
theorem dX4_isOneOf_48 : decode cX4_isOneOf 48 = .ok (.if_icmp .eq 8, 3) := by decide +kernel
theorem dX4_isOneOf_51 : decode cX4_isOneOf 51 = .ok (.iload_n 0, 1) := by decide +kernel
theorem dX4_isOneOf_52 : decode cX4_isOneOf 52 = .ok (.iconst 4, 1) := by decide +kernel
theorem dX4_isOneOf_53 : decode cX4_isOneOf 53 = .ok (.if_icmp .ne 7, 3) := by decide +kernel
theorem dX4_isOneOf_56 : decode cX4_isOneOf 56 = .ok (.iconst 1, 1) := by decide +kernel
theorem dX4_isOneOf_57 : decode cX4_isOneOf 57 = .ok (.goto 4, 3) := by decide +kernel
theorem dX4_isOneOf_60 : decode cX4_isOneOf 60 = .ok (.iconst 0, 1) := by decide +kernel
theorem dX4_isOneOf_61 : decode cX4_isOneOf 61 = .ok (.ireturn, 1) := by decide +kernel
theorem dX4_isOneOf_62 : decode cX4_isOneOf 62 = .ok (.iload_n 0, 1) := by decide +kernel
theorem dX4_isOneOf_63 : decode cX4_isOneOf 63 = .ok (.iload_n 1, 1) := by decide +kernel
theorem dX4_isOneOf_64 : decode cX4_isOneOf 64 = .ok (.if_icmp .ne 7, 3) := by decide +kernel
theorem dX4_isOneOf_67 : decode cX4_isOneOf 67 = .ok (.iconst 1, 1) := by decide +kernel
theorem dX4_isOneOf_68 : decode cX4_isOneOf 68 = .ok (.goto 4, 3) := by decide +kernel
theorem dX4_isOneOf_71 : decode cX4_isOneOf 71 = .ok (.iconst 0, 1) := by decide +kernel
theorem dX4_isOneOf_72 : decode cX4_isOneOf 72 = .ok (.ireturn, 1) := by decide +kernel
theorem dX4_isSort_0 : decode cX4_isSort 0 = .ok (.iload_n 0, 1) := by decide +kernel
theorem dX4_isSort_1 : decode cX4_isSort 1 = .ok (.ifCond .lt 13, 3) := by decide +kernel
theorem dX4_isSort_4 : decode cX4_isSort 4 = .ok (.iload_n 0, 1) := by decide +kernel
theorem dX4_isSort_5 : decode cX4_isSort 5 = .ok (.bipush 6, 2) := by decide +kernel
theorem dX4_isSort_7 : decode cX4_isSort 7 = .ok (.if_icmp .ge 7, 3) := by decide +kernel
theorem dX4_isSort_10 : decode cX4_isSort 10 = .ok (.iconst 1, 1) := by decide +kernel
theorem dX4_isSort_11 : decode cX4_isSort 11 = .ok (.goto 4, 3) := by decide +kernel
theorem dX4_isSort_14 : decode cX4_isSort 14 = .ok (.iconst 0, 1) := by decide +kernel
theorem dX4_isSort_15 : decode cX4_isSort 15 = .ok (.ireturn, 1) := by decide +kernel
theorem dX4_isByte_0 : decode cX4_isByte 0 = .ok (.iload_n 0, 1) := by decide +kernel
theorem dX4_isByte_1 : decode cX4_isByte 1 = .ok (.ifCond .lt 14, 3) := by decide +kernel
theorem dX4_isByte_4 : decode cX4_isByte 4 = .ok (.iload_n 0, 1) := by decide +kernel
theorem dX4_isByte_5 : decode cX4_isByte 5 = .ok (.sipush 255, 3) := by decide +kernel
theorem dX4_isByte_8 : decode cX4_isByte 8 = .ok (.if_icmp .gt 7, 3) := by decide +kernel
theorem dX4_isByte_11 : decode cX4_isByte 11 = .ok (.iconst 1, 1) := by decide +kernel
theorem dX4_isByte_12 : decode cX4_isByte 12 = .ok (.goto 4, 3) := by decide +kernel
theorem dX4_isByte_15 : decode cX4_isByte 15 = .ok (.iconst 0, 1) := by decide +kernel
theorem dX4_isByte_16 : decode cX4_isByte 16 = .ok (.ireturn, 1) := by decide +kernel
theorem dX4_isSheet_0 : decode cX4_isSheet 0 = .ok (.iload_n 0, 1) := by decide +kernel
theorem dX4_isSheet_1 : decode cX4_isSheet 1 = .ok (.ifCond .lt 12, 3) := by decide +kernel
theorem dX4_isSheet_4 : decode cX4_isSheet 4 = .ok (.iload_n 0, 1) := by decide +kernel
theorem dX4_isSheet_5 : decode cX4_isSheet 5 = .ok (.iconst 4, 1) := by decide +kernel
theorem dX4_isSheet_6 : decode cX4_isSheet 6 = .ok (.if_icmp .ge 7, 3) := by decide +kernel
theorem dX4_isSheet_9 : decode cX4_isSheet 9 = .ok (.iconst 1, 1) := by decide +kernel
theorem dX4_isSheet_10 : decode cX4_isSheet 10 = .ok (.goto 4, 3) := by decide +kernel
theorem dX4_isSheet_13 : decode cX4_isSheet 13 = .ok (.iconst 0, 1) := by decide +kernel
theorem dX4_isSheet_14 : decode cX4_isSheet 14 = .ok (.ireturn, 1) := by decide +kernel
theorem dX4_isThere_0 : decode cX4_isThere 0 = .ok (.iload_n 1, 1) := by decide +kernel
theorem dX4_isThere_1 : decode cX4_isThere 1 = .ok (.ifCond .lt 18, 3) := by decide +kernel
theorem dX4_isThere_4 : decode cX4_isThere 4 = .ok (.iload_n 1, 1) := by decide +kernel
theorem dX4_isThere_5 : decode cX4_isThere 5 = .ok (.aload_n 0, 1) := by decide +kernel
theorem dX4_isThere_6 : decode cX4_isThere 6 = .ok (.getfield 28, 3) := by decide +kernel
theorem dX4_isThere_9 : decode cX4_isThere 9 = .ok (.getfield 56, 3) := by decide +kernel
theorem dX4_isThere_12 : decode cX4_isThere 12 = .ok (.if_icmp .ge 7, 3) := by decide +kernel
theorem dX4_isThere_15 : decode cX4_isThere 15 = .ok (.iconst 1, 1) := by decide +kernel
theorem dX4_isThere_16 : decode cX4_isThere 16 = .ok (.goto 4, 3) := by decide +kernel
theorem dX4_isThere_19 : decode cX4_isThere 19 = .ok (.iconst 0, 1) := by decide +kernel
theorem dX4_isThere_20 : decode cX4_isThere 20 = .ok (.ireturn, 1) := by decide +kernel
theorem dX5_init_0 : decode cX5_init 0 = .ok (.aload_n 0, 1) := by decide +kernel
theorem dX5_init_1 : decode cX5_init 1 = .ok (.invokespecial 1, 3) := by decide +kernel
theorem dX5_init_4 : decode cX5_init 4 = .ok (.aload_n 0, 1) := by decide +kernel
theorem dX5_init_5 : decode cX5_init 5 = .ok (.bipush 6, 2) := by decide +kernel
theorem dX5_init_7 : decode cX5_init 7 = .ok (.newarray .int, 2) := by decide +kernel
theorem dX5_init_9 : decode cX5_init 9 = .ok (.putfield 7, 3) := by decide +kernel
theorem dX5_init_12 : decode cX5_init 12 = .ok (.aload_n 0, 1) := by decide +kernel
theorem dX5_init_13 : decode cX5_init 13 = .ok (.bipush 6, 2) := by decide +kernel
theorem dX5_init_15 : decode cX5_init 15 = .ok (.newarray .int, 2) := by decide +kernel
theorem dX5_init_17 : decode cX5_init 17 = .ok (.putfield 13, 3) := by decide +kernel
theorem dX5_init_20 : decode cX5_init 20 = .ok (.aload_n 0, 1) := by decide +kernel
theorem dX5_init_21 : decode cX5_init 21 = .ok (.bipush 18, 2) := by decide +kernel
theorem dX5_init_23 : decode cX5_init 23 = .ok (.newarray .int, 2) := by decide +kernel
theorem dX5_init_25 : decode cX5_init 25 = .ok (.putfield 16, 3) := by decide +kernel
theorem dX5_init_28 : decode cX5_init 28 = .ok (.aload_n 0, 1) := by decide +kernel
theorem dX5_init_29 : decode cX5_init 29 = .ok (.bipush 12, 2) := by decide +kernel
theorem dX5_init_31 : decode cX5_init 31 = .ok (.newarray .int, 2) := by decide +kernel
theorem dX5_init_33 : decode cX5_init 33 = .ok (.dup, 1) := by decide +kernel
theorem dX5_init_34 : decode cX5_init 34 = .ok (.iconst 0, 1) := by decide +kernel
theorem dX5_init_35 : decode cX5_init 35 = .ok (.iconst 1, 1) := by decide +kernel
theorem dX5_init_36 : decode cX5_init 36 = .ok (.iastore, 1) := by decide +kernel
theorem dX5_init_37 : decode cX5_init 37 = .ok (.dup, 1) := by decide +kernel
theorem dX5_init_38 : decode cX5_init 38 = .ok (.iconst 1, 1) := by decide +kernel
theorem dX5_init_39 : decode cX5_init 39 = .ok (.iconst 0, 1) := by decide +kernel
theorem dX5_init_40 : decode cX5_init 40 = .ok (.iastore, 1) := by decide +kernel
theorem dX5_init_41 : decode cX5_init 41 = .ok (.dup, 1) := by decide +kernel
theorem dX5_init_42 : decode cX5_init 42 = .ok (.iconst 2, 1) := by decide +kernel
theorem dX5_init_43 : decode cX5_init 43 = .ok (.iconst 2, 1) := by decide +kernel
theorem dX5_init_44 : decode cX5_init 44 = .ok (.iastore, 1) := by decide +kernel
theorem dX5_init_45 : decode cX5_init 45 = .ok (.dup, 1) := by decide +kernel
theorem dX5_init_46 : decode cX5_init 46 = .ok (.iconst 3, 1) := by decide +kernel
theorem dX5_init_47 : decode cX5_init 47 = .ok (.iconst 0, 1) := by decide +kernel
theorem dX5_init_48 : decode cX5_init 48 = .ok (.iastore, 1) := by decide +kernel
theorem dX5_init_49 : decode cX5_init 49 = .ok (.dup, 1) := by decide +kernel
theorem dX5_init_50 : decode cX5_init 50 = .ok (.iconst 4, 1) := by decide +kernel
theorem dX5_init_51 : decode cX5_init 51 = .ok (.iconst 4, 1) := by decide +kernel
theorem dX5_init_52 : decode cX5_init 52 = .ok (.iastore, 1) := by decide +kernel
theorem dX5_init_53 : decode cX5_init 53 = .ok (.dup, 1) := by decide +kernel
theorem dX5_init_54 : decode cX5_init 54 = .ok (.iconst 5, 1) := by decide +kernel
theorem dX5_init_55 : decode cX5_init 55 = .ok (.iconst 0, 1) := by decide +kernel
theorem dX5_init_56 : decode cX5_init 56 = .ok (.iastore, 1) := by decide +kernel
theorem dX5_init_57 : decode cX5_init 57 = .ok (.dup, 1) := by decide +kernel
theorem dX5_init_58 : decode cX5_init 58 = .ok (.bipush 6, 2) := by decide +kernel
theorem dX5_init_60 : decode cX5_init 60 = .ok (.bipush 8, 2) := by decide +kernel
theorem dX5_init_62 : decode cX5_init 62 = .ok (.iastore, 1) := by decide +kernel
theorem dX5_init_63 : decode cX5_init 63 = .ok (.dup, 1) := by decide +kernel
theorem dX5_init_64 : decode cX5_init 64 = .ok (.bipush 7, 2) := by decide +kernel
theorem dX5_init_66 : decode cX5_init 66 = .ok (.iconst 0, 1) := by decide +kernel
theorem dX5_init_67 : decode cX5_init 67 = .ok (.iastore, 1) := by decide +kernel
theorem dX5_init_68 : decode cX5_init 68 = .ok (.dup, 1) := by decide +kernel
theorem dX5_init_69 : decode cX5_init 69 = .ok (.bipush 8, 2) := by decide +kernel
theorem dX5_init_71 : decode cX5_init 71 = .ok (.bipush 16, 2) := by decide +kernel
theorem dX5_init_73 : decode cX5_init 73 = .ok (.iastore, 1) := by decide +kernel
theorem dX5_init_74 : decode cX5_init 74 = .ok (.dup, 1) := by decide +kernel
theorem dX5_init_75 : decode cX5_init 75 = .ok (.bipush 9, 2) := by decide +kernel
theorem dX5_init_77 : decode cX5_init 77 = .ok (.iconst 0, 1) := by decide +kernel
theorem dX5_init_78 : decode cX5_init 78 = .ok (.iastore, 1) := by decide +kernel
theorem dX5_init_79 : decode cX5_init 79 = .ok (.dup, 1) := by decide +kernel
theorem dX5_init_80 : decode cX5_init 80 = .ok (.bipush 10, 2) := by decide +kernel
theorem dX5_init_82 : decode cX5_init 82 = .ok (.bipush 32, 2) := by decide +kernel
theorem dX5_init_84 : decode cX5_init 84 = .ok (.iastore, 1) := by decide +kernel
theorem dX5_init_85 : decode cX5_init 85 = .ok (.dup, 1) := by decide +kernel
theorem dX5_init_86 : decode cX5_init 86 = .ok (.bipush 11, 2) := by decide +kernel
theorem dX5_init_88 : decode cX5_init 88 = .ok (.iconst 0, 1) := by decide +kernel
theorem dX5_init_89 : decode cX5_init 89 = .ok (.iastore, 1) := by decide +kernel
theorem dX5_init_90 : decode cX5_init 90 = .ok (.putfield 19, 3) := by decide +kernel
theorem dX5_init_93 : decode cX5_init 93 = .ok (.aload_n 0, 1) := by decide +kernel
theorem dX5_init_94 : decode cX5_init 94 = .ok (.sipush 160, 3) := by decide +kernel
theorem dX5_init_97 : decode cX5_init 97 = .ok (.newarray .int, 2) := by decide +kernel
theorem dX5_init_99 : decode cX5_init 99 = .ok (.putfield 22, 3) := by decide +kernel
theorem dX5_init_102 : decode cX5_init 102 = .ok (.aload_n 0, 1) := by decide +kernel
theorem dX5_init_103 : decode cX5_init 103 = .ok (.sipush 1200, 3) := by decide +kernel
theorem dX5_init_106 : decode cX5_init 106 = .ok (.newarray .int, 2) := by decide +kernel
theorem dX5_init_108 : decode cX5_init 108 = .ok (.putfield 25, 3) := by decide +kernel
theorem dX5_init_111 : decode cX5_init 111 = .ok (.aload_n 0, 1) := by decide +kernel
theorem dX5_init_112 : decode cX5_init 112 = .ok (.bipush 24, 2) := by decide +kernel
theorem dX5_init_114 : decode cX5_init 114 = .ok (.newarray .int, 2) := by decide +kernel
theorem dX5_init_116 : decode cX5_init 116 = .ok (.putfield 28, 3) := by decide +kernel
theorem dX5_init_119 : decode cX5_init 119 = .ok (.aload_n 0, 1) := by decide +kernel
theorem dX5_init_120 : decode cX5_init 120 = .ok (.bipush 30, 2) := by decide +kernel
theorem dX5_init_122 : decode cX5_init 122 = .ok (.newarray .int, 2) := by decide +kernel
theorem dX5_init_124 : decode cX5_init 124 = .ok (.putfield 31, 3) := by decide +kernel
theorem dX5_init_127 : decode cX5_init 127 = .ok (.aload_n 0, 1) := by decide +kernel
theorem dX5_init_128 : decode cX5_init 128 = .ok (.iconst 4, 1) := by decide +kernel
theorem dX5_init_129 : decode cX5_init 129 = .ok (.newarray .int, 2) := by decide +kernel
theorem dX5_init_131 : decode cX5_init 131 = .ok (.putfield 34, 3) := by decide +kernel
theorem dX5_init_134 : decode cX5_init 134 = .ok (.aload_n 0, 1) := by decide +kernel
theorem dX5_init_135 : decode cX5_init 135 = .ok (.iconst 4, 1) := by decide +kernel
theorem dX5_init_136 : decode cX5_init 136 = .ok (.newarray .int, 2) := by decide +kernel
theorem dX5_init_138 : decode cX5_init 138 = .ok (.dup, 1) := by decide +kernel
theorem dX5_init_139 : decode cX5_init 139 = .ok (.iconst 0, 1) := by decide +kernel
theorem dX5_init_140 : decode cX5_init 140 = .ok (.iconst (-1), 1) := by decide +kernel
theorem dX5_init_141 : decode cX5_init 141 = .ok (.iastore, 1) := by decide +kernel
theorem dX5_init_142 : decode cX5_init 142 = .ok (.dup, 1) := by decide +kernel
theorem dX5_init_143 : decode cX5_init 143 = .ok (.iconst 1, 1) := by decide +kernel
theorem dX5_init_144 : decode cX5_init 144 = .ok (.iconst (-1), 1) := by decide +kernel
theorem dX5_init_145 : decode cX5_init 145 = .ok (.iastore, 1) := by decide +kernel
theorem dX5_init_146 : decode cX5_init 146 = .ok (.dup, 1) := by decide +kernel
theorem dX5_init_147 : decode cX5_init 147 = .ok (.iconst 2, 1) := by decide +kernel
theorem dX5_init_148 : decode cX5_init 148 = .ok (.iconst (-1), 1) := by decide +kernel
theorem dX5_init_149 : decode cX5_init 149 = .ok (.iastore, 1) := by decide +kernel
theorem dX5_init_150 : decode cX5_init 150 = .ok (.dup, 1) := by decide +kernel
theorem dX5_init_151 : decode cX5_init 151 = .ok (.iconst 3, 1) := by decide +kernel
theorem dX5_init_152 : decode cX5_init 152 = .ok (.iconst (-1), 1) := by decide +kernel
theorem dX5_init_153 : decode cX5_init 153 = .ok (.iastore, 1) := by decide +kernel
theorem dX5_init_154 : decode cX5_init 154 = .ok (.putfield 37, 3) := by decide +kernel
theorem dX5_init_157 : decode cX5_init 157 = .ok (.aload_n 0, 1) := by decide +kernel
theorem dX5_init_158 : decode cX5_init 158 = .ok (.iconst 4, 1) := by decide +kernel
theorem dX5_init_159 : decode cX5_init 159 = .ok (.newarray .int, 2) := by decide +kernel
theorem dX5_init_161 : decode cX5_init 161 = .ok (.putfield 40, 3) := by decide +kernel
theorem dX5_init_164 : decode cX5_init 164 = .ok (.aload_n 0, 1) := by decide +kernel
theorem dX5_init_165 : decode cX5_init 165 = .ok (.sipush 160, 3) := by decide +kernel
theorem dX5_init_168 : decode cX5_init 168 = .ok (.newarray .int, 2) := by decide +kernel
theorem dX5_init_170 : decode cX5_init 170 = .ok (.putfield 43, 3) := by decide +kernel
theorem dX5_init_173 : decode cX5_init 173 = .ok (.aload_n 0, 1) := by decide +kernel
theorem dX5_init_174 : decode cX5_init 174 = .ok (.bipush 38, 2) := by decide +kernel
theorem dX5_init_176 : decode cX5_init 176 = .ok (.newarray .int, 2) := by decide +kernel
theorem dX5_init_178 : decode cX5_init 178 = .ok (.dup, 1) := by decide +kernel
theorem dX5_init_179 : decode cX5_init 179 = .ok (.iconst 0, 1) := by decide +kernel
theorem dX5_init_180 : decode cX5_init 180 = .ok (.bipush 116, 2) := by decide +kernel
theorem dX5_init_182 : decode cX5_init 182 = .ok (.iastore, 1) := by decide +kernel
theorem dX5_init_183 : decode cX5_init 183 = .ok (.dup, 1) := by decide +kernel
theorem dX5_init_184 : decode cX5_init 184 = .ok (.iconst 1, 1) := by decide +kernel
theorem dX5_init_185 : decode cX5_init 185 = .ok (.bipush 97, 2) := by decide +kernel
theorem dX5_init_187 : decode cX5_init 187 = .ok (.iastore, 1) := by decide +kernel
theorem dX5_init_188 : decode cX5_init 188 = .ok (.dup, 1) := by decide +kernel
theorem dX5_init_189 : decode cX5_init 189 = .ok (.iconst 2, 1) := by decide +kernel
theorem dX5_init_190 : decode cX5_init 190 = .ok (.bipush 107, 2) := by decide +kernel
theorem dX5_init_192 : decode cX5_init 192 = .ok (.iastore, 1) := by decide +kernel
theorem dX5_init_193 : decode cX5_init 193 = .ok (.dup, 1) := by decide +kernel
theorem dX5_init_194 : decode cX5_init 194 = .ok (.iconst 3, 1) := by decide +kernel
theorem dX5_init_195 : decode cX5_init 195 = .ok (.bipush 101, 2) := by decide +kernel
theorem dX5_init_197 : decode cX5_init 197 = .ok (.iastore, 1) := by decide +kernel
theorem dX5_init_198 : decode cX5_init 198 = .ok (.dup, 1) := by decide +kernel
theorem dX5_init_199 : decode cX5_init 199 = .ok (.iconst 4, 1) := by decide +kernel
theorem dX5_init_200 : decode cX5_init 200 = .ok (.bipush 115, 2) := by decide +kernel
theorem dX5_init_202 : decode cX5_init 202 = .ok (.iastore, 1) := by decide +kernel
theorem dX5_init_203 : decode cX5_init 203 = .ok (.dup, 1) := by decide +kernel
theorem dX5_init_204 : decode cX5_init 204 = .ok (.iconst 5, 1) := by decide +kernel
theorem dX5_init_205 : decode cX5_init 205 = .ok (.bipush 32, 2) := by decide +kernel
theorem dX5_init_207 : decode cX5_init 207 = .ok (.iastore, 1) := by decide +kernel
theorem dX5_init_208 : decode cX5_init 208 = .ok (.dup, 1) := by decide +kernel
theorem dX5_init_209 : decode cX5_init 209 = .ok (.bipush 6, 2) := by decide +kernel
theorem dX5_init_211 : decode cX5_init 211 = .ok (.bipush 112, 2) := by decide +kernel
theorem dX5_init_213 : decode cX5_init 213 = .ok (.iastore, 1) := by decide +kernel
theorem dX5_init_214 : decode cX5_init 214 = .ok (.dup, 1) := by decide +kernel
theorem dX5_init_215 : decode cX5_init 215 = .ok (.bipush 7, 2) := by decide +kernel
theorem dX5_init_217 : decode cX5_init 217 = .ok (.bipush 114, 2) := by decide +kernel
theorem dX5_init_219 : decode cX5_init 219 = .ok (.iastore, 1) := by decide +kernel
theorem dX5_init_220 : decode cX5_init 220 = .ok (.dup, 1) := by decide +kernel
theorem dX5_init_221 : decode cX5_init 221 = .ok (.bipush 8, 2) := by decide +kernel
theorem dX5_init_223 : decode cX5_init 223 = .ok (.bipush 105, 2) := by decide +kernel
theorem dX5_init_225 : decode cX5_init 225 = .ok (.iastore, 1) := by decide +kernel
theorem dX5_init_226 : decode cX5_init 226 = .ok (.dup, 1) := by decide +kernel
theorem dX5_init_227 : decode cX5_init 227 = .ok (.bipush 9, 2) := by decide +kernel
theorem dX5_init_229 : decode cX5_init 229 = .ok (.bipush 100, 2) := by decide +kernel
theorem dX5_init_231 : decode cX5_init 231 = .ok (.iastore, 1) := by decide +kernel
theorem dX5_init_232 : decode cX5_init 232 = .ok (.dup, 1) := by decide +kernel
theorem dX5_init_233 : decode cX5_init 233 = .ok (.bipush 10, 2) := by decide +kernel
theorem dX5_init_235 : decode cX5_init 235 = .ok (.bipush 101, 2) := by decide +kernel
theorem dX5_init_237 : decode cX5_init 237 = .ok (.iastore, 1) := by decide +kernel
theorem dX5_init_238 : decode cX5_init 238 = .ok (.dup, 1) := by decide +kernel
theorem dX5_init_239 : decode cX5_init 239 = .ok (.bipush 11, 2) := by decide +kernel
theorem dX5_init_241 : decode cX5_init 241 = .ok (.bipush 32, 2) := by decide +kernel
theorem dX5_init_243 : decode cX5_init 243 = .ok (.iastore, 1) := by decide +kernel
theorem dX5_init_244 : decode cX5_init 244 = .ok (.dup, 1) := by decide +kernel
theorem dX5_init_245 : decode cX5_init 245 = .ok (.bipush 12, 2) := by decide +kernel
theorem dX5_init_247 : decode cX5_init 247 = .ok (.bipush 59, 2) := by decide +kernel
theorem dX5_init_249 : decode cX5_init 249 = .ok (.iastore, 1) := by decide +kernel
theorem dX5_init_250 : decode cX5_init 250 = .ok (.dup, 1) := by decide +kernel
theorem dX5_init_251 : decode cX5_init 251 = .ok (.bipush 13, 2) := by decide +kernel
theorem dX5_init_253 : decode cX5_init 253 = .ok (.bipush 32, 2) := by decide +kernel
theorem dX5_init_255 : decode cX5_init 255 = .ok (.iastore, 1) := by decide +kernel
theorem dX5_init_256 : decode cX5_init 256 = .ok (.dup, 1) := by decide +kernel
theorem dX5_init_257 : decode cX5_init 257 = .ok (.bipush 14, 2) := by decide +kernel
theorem dX5_init_259 : decode cX5_init 259 = .ok (.bipush 115, 2) := by decide +kernel
theorem dX5_init_261 : decode cX5_init 261 = .ok (.iastore, 1) := by decide +kernel
theorem dX5_init_262 : decode cX5_init 262 = .ok (.dup, 1) := by decide +kernel
theorem dX5_init_263 : decode cX5_init 263 = .ok (.bipush 15, 2) := by decide +kernel
theorem dX5_init_265 : decode cX5_init 265 = .ok (.bipush 111, 2) := by decide +kernel
theorem dX5_init_267 : decode cX5_init 267 = .ok (.iastore, 1) := by decide +kernel
theorem dX5_init_268 : decode cX5_init 268 = .ok (.dup, 1) := by decide +kernel
theorem dX5_init_269 : decode cX5_init 269 = .ok (.bipush 16, 2) := by decide +kernel
theorem dX5_init_271 : decode cX5_init 271 = .ok (.bipush 117, 2) := by decide +kernel
theorem dX5_init_273 : decode cX5_init 273 = .ok (.iastore, 1) := by decide +kernel
theorem dX5_init_274 : decode cX5_init 274 = .ok (.dup, 1) := by decide +kernel
theorem dX5_init_275 : decode cX5_init 275 = .ok (.bipush 17, 2) := by decide +kernel
theorem dX5_init_277 : decode cX5_init 277 = .ok (.bipush 110, 2) := by decide +kernel
theorem dX5_init_279 : decode cX5_init 279 = .ok (.iastore, 1) := by decide +kernel
theorem dX5_init_280 : decode cX5_init 280 = .ok (.dup, 1) := by decide +kernel
theorem dX5_init_281 : decode cX5_init 281 = .ok (.bipush 18, 2) := by decide +kernel
theorem dX5_init_283 : decode cX5_init 283 = .ok (.bipush 100, 2) := by decide +kernel
theorem dX5_init_285 : decode cX5_init 285 = .ok (.iastore, 1) := by decide +kernel
theorem dX5_init_286 : decode cX5_init 286 = .ok (.dup, 1) := by decide +kernel
theorem dX5_init_287 : decode cX5_init 287 = .ok (.bipush 19, 2) := by decide +kernel
theorem dX5_init_289 : decode cX5_init 289 = .ok (.bipush 115, 2) := by decide +kernel
theorem dX5_init_291 : decode cX5_init 291 = .ok (.iastore, 1) := by decide +kernel
theorem dX5_init_292 : decode cX5_init 292 = .ok (.dup, 1) := by decide +kernel
theorem dX5_init_293 : decode cX5_init 293 = .ok (.bipush 20, 2) := by decide +kernel
theorem dX5_init_295 : decode cX5_init 295 = .ok (.bipush 32, 2) := by decide +kernel
theorem dX5_init_297 : decode cX5_init 297 = .ok (.iastore, 1) := by decide +kernel
theorem dX5_init_298 : decode cX5_init 298 = .ok (.dup, 1) := by decide +kernel
theorem dX5_init_299 : decode cX5_init 299 = .ok (.bipush 21, 2) := by decide +kernel
theorem dX5_init_301 : decode cX5_init 301 = .ok (.bipush 119, 2) := by decide +kernel
theorem dX5_init_303 : decode cX5_init 303 = .ok (.iastore, 1) := by decide +kernel
theorem dX5_init_304 : decode cX5_init 304 = .ok (.dup, 1) := by decide +kernel
theorem dX5_init_305 : decode cX5_init 305 = .ok (.bipush 22, 2) := by decide +kernel
theorem dX5_init_307 : decode cX5_init 307 = .ok (.bipush 111, 2) := by decide +kernel
theorem dX5_init_309 : decode cX5_init 309 = .ok (.iastore, 1) := by decide +kernel
theorem dX5_init_310 : decode cX5_init 310 = .ok (.dup, 1) := by decide +kernel
theorem dX5_init_311 : decode cX5_init 311 = .ok (.bipush 23, 2) := by decide +kernel
theorem dX5_init_313 : decode cX5_init 313 = .ok (.bipush 114, 2) := by decide +kernel
theorem dX5_init_315 : decode cX5_init 315 = .ok (.iastore, 1) := by decide +kernel
theorem dX5_init_316 : decode cX5_init 316 = .ok (.dup, 1) := by decide +kernel
theorem dX5_init_317 : decode cX5_init 317 = .ok (.bipush 24, 2) := by decide +kernel
theorem dX5_init_319 : decode cX5_init 319 = .ok (.bipush 116, 2) := by decide +kernel
theorem dX5_init_321 : decode cX5_init 321 = .ok (.iastore, 1) := by decide +kernel
theorem dX5_init_322 : decode cX5_init 322 = .ok (.dup, 1) := by decide +kernel
theorem dX5_init_323 : decode cX5_init 323 = .ok (.bipush 25, 2) := by decide +kernel
theorem dX5_init_325 : decode cX5_init 325 = .ok (.bipush 104, 2) := by decide +kernel
theorem dX5_init_327 : decode cX5_init 327 = .ok (.iastore, 1) := by decide +kernel
theorem dX5_init_328 : decode cX5_init 328 = .ok (.dup, 1) := by decide +kernel
theorem dX5_init_329 : decode cX5_init 329 = .ok (.bipush 26, 2) := by decide +kernel
theorem dX5_init_331 : decode cX5_init 331 = .ok (.bipush 32, 2) := by decide +kernel
theorem dX5_init_333 : decode cX5_init 333 = .ok (.iastore, 1) := by decide +kernel
theorem dX5_init_334 : decode cX5_init 334 = .ok (.dup, 1) := by decide +kernel
theorem dX5_init_335 : decode cX5_init 335 = .ok (.bipush 27, 2) := by decide +kernel
theorem dX5_init_337 : decode cX5_init 337 = .ok (.bipush 59, 2) := by decide +kernel
theorem dX5_init_339 : decode cX5_init 339 = .ok (.iastore, 1) := by decide +kernel
theorem dX5_init_340 : decode cX5_init 340 = .ok (.dup, 1) := by decide +kernel
theorem dX5_init_341 : decode cX5_init 341 = .ok (.bipush 28, 2) := by decide +kernel
theorem dX5_init_343 : decode cX5_init 343 = .ok (.bipush 32, 2) := by decide +kernel
theorem dX5_init_345 : decode cX5_init 345 = .ok (.iastore, 1) := by decide +kernel
theorem dX5_init_346 : decode cX5_init 346 = .ok (.dup, 1) := by decide +kernel
theorem dX5_init_347 : decode cX5_init 347 = .ok (.bipush 29, 2) := by decide +kernel
theorem dX5_init_349 : decode cX5_init 349 = .ok (.bipush 99, 2) := by decide +kernel
theorem dX5_init_351 : decode cX5_init 351 = .ok (.iastore, 1) := by decide +kernel
theorem dX5_init_352 : decode cX5_init 352 = .ok (.dup, 1) := by decide +kernel
theorem dX5_init_353 : decode cX5_init 353 = .ok (.bipush 30, 2) := by decide +kernel
theorem dX5_init_355 : decode cX5_init 355 = .ok (.bipush 111, 2) := by decide +kernel
theorem dX5_init_357 : decode cX5_init 357 = .ok (.iastore, 1) := by decide +kernel
theorem dX5_init_358 : decode cX5_init 358 = .ok (.dup, 1) := by decide +kernel
theorem dX5_init_359 : decode cX5_init 359 = .ok (.bipush 31, 2) := by decide +kernel
theorem dX5_init_361 : decode cX5_init 361 = .ok (.bipush 115, 2) := by decide +kernel
theorem dX5_init_363 : decode cX5_init 363 = .ok (.iastore, 1) := by decide +kernel
theorem dX5_init_364 : decode cX5_init 364 = .ok (.dup, 1) := by decide +kernel
theorem dX5_init_365 : decode cX5_init 365 = .ok (.bipush 32, 2) := by decide +kernel
theorem dX5_init_367 : decode cX5_init 367 = .ok (.bipush 116, 2) := by decide +kernel
theorem dX5_init_369 : decode cX5_init 369 = .ok (.iastore, 1) := by decide +kernel
theorem dX5_init_370 : decode cX5_init 370 = .ok (.dup, 1) := by decide +kernel
theorem dX5_init_371 : decode cX5_init 371 = .ok (.bipush 33, 2) := by decide +kernel
theorem dX5_init_373 : decode cX5_init 373 = .ok (.bipush 115, 2) := by decide +kernel
theorem dX5_init_375 : decode cX5_init 375 = .ok (.iastore, 1) := by decide +kernel
theorem dX5_init_376 : decode cX5_init 376 = .ok (.dup, 1) := by decide +kernel
theorem dX5_init_377 : decode cX5_init 377 = .ok (.bipush 34, 2) := by decide +kernel
theorem dX5_init_379 : decode cX5_init 379 = .ok (.bipush 32, 2) := by decide +kernel
theorem dX5_init_381 : decode cX5_init 381 = .ok (.iastore, 1) := by decide +kernel
theorem dX5_init_382 : decode cX5_init 382 = .ok (.dup, 1) := by decide +kernel
theorem dX5_init_383 : decode cX5_init 383 = .ok (.bipush 35, 2) := by decide +kernel
theorem dX5_init_385 : decode cX5_init 385 = .ok (.bipush 49, 2) := by decide +kernel
theorem dX5_init_387 : decode cX5_init 387 = .ok (.iastore, 1) := by decide +kernel
theorem dX5_init_388 : decode cX5_init 388 = .ok (.dup, 1) := by decide +kernel
theorem dX5_init_389 : decode cX5_init 389 = .ok (.bipush 36, 2) := by decide +kernel
theorem dX5_init_391 : decode cX5_init 391 = .ok (.bipush 32, 2) := by decide +kernel
theorem dX5_init_393 : decode cX5_init 393 = .ok (.iastore, 1) := by decide +kernel
theorem dX5_init_394 : decode cX5_init 394 = .ok (.dup, 1) := by decide +kernel
theorem dX5_init_395 : decode cX5_init 395 = .ok (.bipush 37, 2) := by decide +kernel
theorem dX5_init_397 : decode cX5_init 397 = .ok (.bipush 59, 2) := by decide +kernel
theorem dX5_init_399 : decode cX5_init 399 = .ok (.iastore, 1) := by decide +kernel
theorem dX5_init_400 : decode cX5_init 400 = .ok (.putfield 46, 3) := by decide +kernel
theorem dX5_init_403 : decode cX5_init 403 = .ok (.aload_n 0, 1) := by decide +kernel
theorem dX5_init_404 : decode cX5_init 404 = .ok (.bipush 96, 2) := by decide +kernel
theorem dX5_init_406 : decode cX5_init 406 = .ok (.newarray .int, 2) := by decide +kernel
theorem dX5_init_408 : decode cX5_init 408 = .ok (.dup, 1) := by decide +kernel
theorem dX5_init_409 : decode cX5_init 409 = .ok (.iconst 0, 1) := by decide +kernel
theorem dX5_init_410 : decode cX5_init 410 = .ok (.bipush 116, 2) := by decide +kernel
theorem dX5_init_412 : decode cX5_init 412 = .ok (.iastore, 1) := by decide +kernel
theorem dX5_init_413 : decode cX5_init 413 = .ok (.dup, 1) := by decide +kernel
theorem dX5_init_414 : decode cX5_init 414 = .ok (.iconst 1, 1) := by decide +kernel
theorem dX5_init_415 : decode cX5_init 415 = .ok (.bipush 97, 2) := by decide +kernel
theorem dX5_init_417 : decode cX5_init 417 = .ok (.iastore, 1) := by decide +kernel
theorem dX5_init_418 : decode cX5_init 418 = .ok (.dup, 1) := by decide +kernel
theorem dX5_init_419 : decode cX5_init 419 = .ok (.iconst 2, 1) := by decide +kernel
theorem dX5_init_420 : decode cX5_init 420 = .ok (.bipush 107, 2) := by decide +kernel
theorem dX5_init_422 : decode cX5_init 422 = .ok (.iastore, 1) := by decide +kernel
theorem dX5_init_423 : decode cX5_init 423 = .ok (.dup, 1) := by decide +kernel
theorem dX5_init_424 : decode cX5_init 424 = .ok (.iconst 3, 1) := by decide +kernel
theorem dX5_init_425 : decode cX5_init 425 = .ok (.bipush 101, 2) := by decide +kernel
theorem dX5_init_427 : decode cX5_init 427 = .ok (.iastore, 1) := by decide +kernel
theorem dX5_init_428 : decode cX5_init 428 = .ok (.dup, 1) := by decide +kernel
theorem dX5_init_429 : decode cX5_init 429 = .ok (.iconst 4, 1) := by decide +kernel
theorem dX5_init_430 : decode cX5_init 430 = .ok (.bipush 115, 2) := by decide +kernel
theorem dX5_init_432 : decode cX5_init 432 = .ok (.iastore, 1) := by decide +kernel
theorem dX5_init_433 : decode cX5_init 433 = .ok (.dup, 1) := by decide +kernel
theorem dX5_init_434 : decode cX5_init 434 = .ok (.iconst 5, 1) := by decide +kernel
theorem dX5_init_435 : decode cX5_init 435 = .ok (.bipush 32, 2) := by decide +kernel
theorem dX5_init_437 : decode cX5_init 437 = .ok (.iastore, 1) := by decide +kernel
theorem dX5_init_438 : decode cX5_init 438 = .ok (.dup, 1) := by decide +kernel
theorem dX5_init_439 : decode cX5_init 439 = .ok (.bipush 6, 2) := by decide +kernel
theorem dX5_init_441 : decode cX5_init 441 = .ok (.bipush 32, 2) := by decide +kernel
theorem dX5_init_443 : decode cX5_init 443 = .ok (.iastore, 1) := by decide +kernel
theorem dX5_init_444 : decode cX5_init 444 = .ok (.dup, 1) := by decide +kernel
theorem dX5_init_445 : decode cX5_init 445 = .ok (.bipush 7, 2) := by decide +kernel
theorem dX5_init_447 : decode cX5_init 447 = .ok (.bipush 32, 2) := by decide +kernel
theorem dX5_init_449 : decode cX5_init 449 = .ok (.iastore, 1) := by decide +kernel
theorem dX5_init_450 : decode cX5_init 450 = .ok (.dup, 1) := by decide +kernel
theorem dX5_init_451 : decode cX5_init 451 = .ok (.bipush 8, 2) := by decide +kernel
theorem dX5_init_453 : decode cX5_init 453 = .ok (.bipush 115, 2) := by decide +kernel
theorem dX5_init_455 : decode cX5_init 455 = .ok (.iastore, 1) := by decide +kernel
theorem dX5_init_456 : decode cX5_init 456 = .ok (.dup, 1) := by decide +kernel
theorem dX5_init_457 : decode cX5_init 457 = .ok (.bipush 9, 2) := by decide +kernel
theorem dX5_init_459 : decode cX5_init 459 = .ok (.bipush 111, 2) := by decide +kernel
theorem dX5_init_461 : decode cX5_init 461 = .ok (.iastore, 1) := by decide +kernel
theorem dX5_init_462 : decode cX5_init 462 = .ok (.dup, 1) := by decide +kernel
theorem dX5_init_463 : decode cX5_init 463 = .ok (.bipush 10, 2) := by decide +kernel
theorem dX5_init_465 : decode cX5_init 465 = .ok (.bipush 117, 2) := by decide +kernel
theorem dX5_init_467 : decode cX5_init 467 = .ok (.iastore, 1) := by decide +kernel
theorem dX5_init_468 : decode cX5_init 468 = .ok (.dup, 1) := by decide +kernel
theorem dX5_init_469 : decode cX5_init 469 = .ok (.bipush 11, 2) := by decide +kernel
theorem dX5_init_471 : decode cX5_init 471 = .ok (.bipush 110, 2) := by decide +kernel
theorem dX5_init_473 : decode cX5_init 473 = .ok (.iastore, 1) := by decide +kernel
theorem dX5_init_474 : decode cX5_init 474 = .ok (.dup, 1) := by decide +kernel
theorem dX5_init_475 : decode cX5_init 475 = .ok (.bipush 12, 2) := by decide +kernel
theorem dX5_init_477 : decode cX5_init 477 = .ok (.bipush 100, 2) := by decide +kernel
theorem dX5_init_479 : decode cX5_init 479 = .ok (.iastore, 1) := by decide +kernel
theorem dX5_init_480 : decode cX5_init 480 = .ok (.dup, 1) := by decide +kernel
theorem dX5_init_481 : decode cX5_init 481 = .ok (.bipush 13, 2) := by decide +kernel
theorem dX5_init_483 : decode cX5_init 483 = .ok (.bipush 115, 2) := by decide +kernel
theorem dX5_init_485 : decode cX5_init 485 = .ok (.iastore, 1) := by decide +kernel
theorem dX5_init_486 : decode cX5_init 486 = .ok (.dup, 1) := by decide +kernel
theorem dX5_init_487 : decode cX5_init 487 = .ok (.bipush 14, 2) := by decide +kernel
theorem dX5_init_489 : decode cX5_init 489 = .ok (.bipush 32, 2) := by decide +kernel
theorem dX5_init_491 : decode cX5_init 491 = .ok (.iastore, 1) := by decide +kernel
theorem dX5_init_492 : decode cX5_init 492 = .ok (.dup, 1) := by decide +kernel
theorem dX5_init_493 : decode cX5_init 493 = .ok (.bipush 15, 2) := by decide +kernel
theorem dX5_init_495 : decode cX5_init 495 = .ok (.bipush 32, 2) := by decide +kernel
theorem dX5_init_497 : decode cX5_init 497 = .ok (.iastore, 1) := by decide +kernel
theorem dX5_init_498 : decode cX5_init 498 = .ok (.dup, 1) := by decide +kernel
theorem dX5_init_499 : decode cX5_init 499 = .ok (.bipush 16, 2) := by decide +kernel
theorem dX5_init_501 : decode cX5_init 501 = .ok (.bipush 99, 2) := by decide +kernel
theorem dX5_init_503 : decode cX5_init 503 = .ok (.iastore, 1) := by decide +kernel
theorem dX5_init_504 : decode cX5_init 504 = .ok (.dup, 1) := by decide +kernel
theorem dX5_init_505 : decode cX5_init 505 = .ok (.bipush 17, 2) := by decide +kernel
theorem dX5_init_507 : decode cX5_init 507 = .ok (.bipush 111, 2) := by decide +kernel
theorem dX5_init_509 : decode cX5_init 509 = .ok (.iastore, 1) := by decide +kernel
theorem dX5_init_510 : decode cX5_init 510 = .ok (.dup, 1) := by decide +kernel
theorem dX5_init_511 : decode cX5_init 511 = .ok (.bipush 18, 2) := by decide +kernel
theorem dX5_init_513 : decode cX5_init 513 = .ok (.bipush 115, 2) := by decide +kernel
theorem dX5_init_515 : decode cX5_init 515 = .ok (.iastore, 1) := by decide +kernel
theorem dX5_init_516 : decode cX5_init 516 = .ok (.dup, 1) := by decide +kernel
theorem dX5_init_517 : decode cX5_init 517 = .ok (.bipush 19, 2) := by decide +kernel
theorem dX5_init_519 : decode cX5_init 519 = .ok (.bipush 116, 2) := by decide +kernel
theorem dX5_init_521 : decode cX5_init 521 = .ok (.iastore, 1) := by decide +kernel
theorem dX5_init_522 : decode cX5_init 522 = .ok (.dup, 1) := by decide +kernel
theorem dX5_init_523 : decode cX5_init 523 = .ok (.bipush 20, 2) := by decide +kernel
theorem dX5_init_525 : decode cX5_init 525 = .ok (.bipush 115, 2) := by decide +kernel
theorem dX5_init_527 : decode cX5_init 527 = .ok (.iastore, 1) := by decide +kernel
theorem dX5_init_528 : decode cX5_init 528 = .ok (.dup, 1) := by decide +kernel
theorem dX5_init_529 : decode cX5_init 529 = .ok (.bipush 21, 2) := by decide +kernel
theorem dX5_init_531 : decode cX5_init 531 = .ok (.bipush 32, 2) := by decide +kernel
theorem dX5_init_533 : decode cX5_init 533 = .ok (.iastore, 1) := by decide +kernel
theorem dX5_init_534 : decode cX5_init 534 = .ok (.dup, 1) := by decide +kernel
theorem dX5_init_535 : decode cX5_init 535 = .ok (.bipush 22, 2) := by decide +kernel
theorem dX5_init_537 : decode cX5_init 537 = .ok (.bipush 32, 2) := by decide +kernel
theorem dX5_init_539 : decode cX5_init 539 = .ok (.iastore, 1) := by decide +kernel
theorem dX5_init_540 : decode cX5_init 540 = .ok (.dup, 1) := by decide +kernel
theorem dX5_init_541 : decode cX5_init 541 = .ok (.bipush 23, 2) := by decide +kernel
theorem dX5_init_543 : decode cX5_init 543 = .ok (.bipush 32, 2) := by decide +kernel
theorem dX5_init_545 : decode cX5_init 545 = .ok (.iastore, 1) := by decide +kernel
theorem dX5_init_546 : decode cX5_init 546 = .ok (.dup, 1) := by decide +kernel
theorem dX5_init_547 : decode cX5_init 547 = .ok (.bipush 24, 2) := by decide +kernel
theorem dX5_init_549 : decode cX5_init 549 = .ok (.bipush 112, 2) := by decide +kernel
theorem dX5_init_551 : decode cX5_init 551 = .ok (.iastore, 1) := by decide +kernel
theorem dX5_init_552 : decode cX5_init 552 = .ok (.dup, 1) := by decide +kernel
theorem dX5_init_553 : decode cX5_init 553 = .ok (.bipush 25, 2) := by decide +kernel
theorem dX5_init_555 : decode cX5_init 555 = .ok (.bipush 114, 2) := by decide +kernel
theorem dX5_init_557 : decode cX5_init 557 = .ok (.iastore, 1) := by decide +kernel
theorem dX5_init_558 : decode cX5_init 558 = .ok (.dup, 1) := by decide +kernel
theorem dX5_init_559 : decode cX5_init 559 = .ok (.bipush 26, 2) := by decide +kernel
theorem dX5_init_561 : decode cX5_init 561 = .ok (.bipush 105, 2) := by decide +kernel
theorem dX5_init_563 : decode cX5_init 563 = .ok (.iastore, 1) := by decide +kernel
theorem dX5_init_564 : decode cX5_init 564 = .ok (.dup, 1) := by decide +kernel
theorem dX5_init_565 : decode cX5_init 565 = .ok (.bipush 27, 2) := by decide +kernel
theorem dX5_init_567 : decode cX5_init 567 = .ok (.bipush 100, 2) := by decide +kernel
theorem dX5_init_569 : decode cX5_init 569 = .ok (.iastore, 1) := by decide +kernel
theorem dX5_init_570 : decode cX5_init 570 = .ok (.dup, 1) := by decide +kernel
theorem dX5_init_571 : decode cX5_init 571 = .ok (.bipush 28, 2) := by decide +kernel
theorem dX5_init_573 : decode cX5_init 573 = .ok (.bipush 101, 2) := by decide +kernel
theorem dX5_init_575 : decode cX5_init 575 = .ok (.iastore, 1) := by decide +kernel
theorem dX5_init_576 : decode cX5_init 576 = .ok (.dup, 1) := by decide +kernel
theorem dX5_init_577 : decode cX5_init 577 = .ok (.bipush 29, 2) := by decide +kernel
theorem dX5_init_579 : decode cX5_init 579 = .ok (.bipush 32, 2) := by decide +kernel
theorem dX5_init_581 : decode cX5_init 581 = .ok (.iastore, 1) := by decide +kernel
theorem dX5_init_582 : decode cX5_init 582 = .ok (.dup, 1) := by decide +kernel
theorem dX5_init_583 : decode cX5_init 583 = .ok (.bipush 30, 2) := by decide +kernel
theorem dX5_init_585 : decode cX5_init 585 = .ok (.bipush 32, 2) := by decide +kernel
theorem dX5_init_587 : decode cX5_init 587 = .ok (.iastore, 1) := by decide +kernel
theorem dX5_init_588 : decode cX5_init 588 = .ok (.dup, 1) := by decide +kernel
theorem dX5_init_589 : decode cX5_init 589 = .ok (.bipush 31, 2) := by decide +kernel
theorem dX5_init_591 : decode cX5_init 591 = .ok (.bipush 32, 2) := by decide +kernel
theorem dX5_init_593 : decode cX5_init 593 = .ok (.iastore, 1) := by decide +kernel
theorem dX5_init_594 : decode cX5_init 594 = .ok (.dup, 1) := by decide +kernel
theorem dX5_init_595 : decode cX5_init 595 = .ok (.bipush 32, 2) := by decide +kernel
theorem dX5_init_597 : decode cX5_init 597 = .ok (.bipush 119, 2) := by decide +kernel
theorem dX5_init_599 : decode cX5_init 599 = .ok (.iastore, 1) := by decide +kernel
theorem dX5_init_600 : decode cX5_init 600 = .ok (.dup, 1) := by decide +kernel
theorem dX5_init_601 : decode cX5_init 601 = .ok (.bipush 33, 2) := by decide +kernel
theorem dX5_init_603 : decode cX5_init 603 = .ok (.bipush 111, 2) := by decide +kernel
theorem dX5_init_605 : decode cX5_init 605 = .ok (.iastore, 1) := by decide +kernel
theorem dX5_init_606 : decode cX5_init 606 = .ok (.dup, 1) := by decide +kernel
theorem dX5_init_607 : decode cX5_init 607 = .ok (.bipush 34, 2) := by decide +kernel
theorem dX5_init_609 : decode cX5_init 609 = .ok (.bipush 114, 2) := by decide +kernel
theorem dX5_init_611 : decode cX5_init 611 = .ok (.iastore, 1) := by decide +kernel
theorem dX5_init_612 : decode cX5_init 612 = .ok (.dup, 1) := by decide +kernel
theorem dX5_init_613 : decode cX5_init 613 = .ok (.bipush 35, 2) := by decide +kernel
theorem dX5_init_615 : decode cX5_init 615 = .ok (.bipush 116, 2) := by decide +kernel
theorem dX5_init_617 : decode cX5_init 617 = .ok (.iastore, 1) := by decide +kernel
theorem dX5_init_618 : decode cX5_init 618 = .ok (.dup, 1) := by decide +kernel
theorem dX5_init_619 : decode cX5_init 619 = .ok (.bipush 36, 2) := by decide +kernel
theorem dX5_init_621 : decode cX5_init 621 = .ok (.bipush 104, 2) := by decide +kernel
theorem dX5_init_623 : decode cX5_init 623 = .ok (.iastore, 1) := by decide +kernel
theorem dX5_init_624 : decode cX5_init 624 = .ok (.dup, 1) := by decide +kernel
theorem dX5_init_625 : decode cX5_init 625 = .ok (.bipush 37, 2) := by decide +kernel
theorem dX5_init_627 : decode cX5_init 627 = .ok (.bipush 32, 2) := by decide +kernel
theorem dX5_init_629 : decode cX5_init 629 = .ok (.iastore, 1) := by decide +kernel
theorem dX5_init_630 : decode cX5_init 630 = .ok (.dup, 1) := by decide +kernel
theorem dX5_init_631 : decode cX5_init 631 = .ok (.bipush 38, 2) := by decide +kernel
theorem dX5_init_633 : decode cX5_init 633 = .ok (.bipush 32, 2) := by decide +kernel
theorem dX5_init_635 : decode cX5_init 635 = .ok (.iastore, 1) := by decide +kernel
theorem dX5_init_636 : decode cX5_init 636 = .ok (.dup, 1) := by decide +kernel
theorem dX5_init_637 : decode cX5_init 637 = .ok (.bipush 39, 2) := by decide +kernel
theorem dX5_init_639 : decode cX5_init 639 = .ok (.bipush 32, 2) := by decide +kernel
theorem dX5_init_641 : decode cX5_init 641 = .ok (.iastore, 1) := by decide +kernel
theorem dX5_init_642 : decode cX5_init 642 = .ok (.dup, 1) := by decide +kernel
theorem dX5_init_643 : decode cX5_init 643 = .ok (.bipush 40, 2) := by decide +kernel
theorem dX5_init_645 : decode cX5_init 645 = .ok (.bipush 99, 2) := by decide +kernel
theorem dX5_init_647 : decode cX5_init 647 = .ok (.iastore, 1) := by decide +kernel
theorem dX5_init_648 : decode cX5_init 648 = .ok (.dup, 1) := by decide +kernel
theorem dX5_init_649 : decode cX5_init 649 = .ok (.bipush 41, 2) := by decide +kernel
theorem dX5_init_651 : decode cX5_init 651 = .ok (.bipush 111, 2) := by decide +kernel
theorem dX5_init_653 : decode cX5_init 653 = .ok (.iastore, 1) := by decide +kernel
theorem dX5_init_654 : decode cX5_init 654 = .ok (.dup, 1) := by decide +kernel
theorem dX5_init_655 : decode cX5_init 655 = .ok (.bipush 42, 2) := by decide +kernel
theorem dX5_init_657 : decode cX5_init 657 = .ok (.bipush 105, 2) := by decide +kernel
theorem dX5_init_659 : decode cX5_init 659 = .ok (.iastore, 1) := by decide +kernel
theorem dX5_init_660 : decode cX5_init 660 = .ok (.dup, 1) := by decide +kernel
theorem dX5_init_661 : decode cX5_init 661 = .ok (.bipush 43, 2) := by decide +kernel
theorem dX5_init_663 : decode cX5_init 663 = .ok (.bipush 110, 2) := by decide +kernel
theorem dX5_init_665 : decode cX5_init 665 = .ok (.iastore, 1) := by decide +kernel
theorem dX5_init_666 : decode cX5_init 666 = .ok (.dup, 1) := by decide +kernel
theorem dX5_init_667 : decode cX5_init 667 = .ok (.bipush 44, 2) := by decide +kernel
theorem dX5_init_669 : decode cX5_init 669 = .ok (.bipush 115, 2) := by decide +kernel
theorem dX5_init_671 : decode cX5_init 671 = .ok (.iastore, 1) := by decide +kernel
theorem dX5_init_672 : decode cX5_init 672 = .ok (.dup, 1) := by decide +kernel
theorem dX5_init_673 : decode cX5_init 673 = .ok (.bipush 45, 2) := by decide +kernel
theorem dX5_init_675 : decode cX5_init 675 = .ok (.bipush 32, 2) := by decide +kernel
theorem dX5_init_677 : decode cX5_init 677 = .ok (.iastore, 1) := by decide +kernel
theorem dX5_init_678 : decode cX5_init 678 = .ok (.dup, 1) := by decide +kernel
theorem dX5_init_679 : decode cX5_init 679 = .ok (.bipush 46, 2) := by decide +kernel
theorem dX5_init_681 : decode cX5_init 681 = .ok (.bipush 32, 2) := by decide +kernel
theorem dX5_init_683 : decode cX5_init 683 = .ok (.iastore, 1) := by decide +kernel
theorem dX5_init_684 : decode cX5_init 684 = .ok (.dup, 1) := by decide +kernel
theorem dX5_init_685 : decode cX5_init 685 = .ok (.bipush 47, 2) := by decide +kernel
theorem dX5_init_687 : decode cX5_init 687 = .ok (.bipush 32, 2) := by decide +kernel
theorem dX5_init_689 : decode cX5_init 689 = .ok (.iastore, 1) := by decide +kernel
theorem dX5_init_690 : decode cX5_init 690 = .ok (.dup, 1) := by decide +kernel
theorem dX5_init_691 : decode cX5_init 691 = .ok (.bipush 48, 2) := by decide +kernel
theorem dX5_init_693 : decode cX5_init 693 = .ok (.bipush 112, 2) := by decide +kernel
theorem dX5_init_695 : decode cX5_init 695 = .ok (.iastore, 1) := by decide +kernel
theorem dX5_init_696 : decode cX5_init 696 = .ok (.dup, 1) := by decide +kernel
theorem dX5_init_697 : decode cX5_init 697 = .ok (.bipush 49, 2) := by decide +kernel
theorem dX5_init_699 : decode cX5_init 699 = .ok (.bipush 117, 2) := by decide +kernel
theorem dX5_init_701 : decode cX5_init 701 = .ok (.iastore, 1) := by decide +kernel
theorem dX5_init_702 : decode cX5_init 702 = .ok (.dup, 1) := by decide +kernel
theorem dX5_init_703 : decode cX5_init 703 = .ok (.bipush 50, 2) := by decide +kernel
theorem dX5_init_705 : decode cX5_init 705 = .ok (.bipush 114, 2) := by decide +kernel
theorem dX5_init_707 : decode cX5_init 707 = .ok (.iastore, 1) := by decide +kernel
theorem dX5_init_708 : decode cX5_init 708 = .ok (.dup, 1) := by decide +kernel
theorem dX5_init_709 : decode cX5_init 709 = .ok (.bipush 51, 2) := by decide +kernel
theorem dX5_init_711 : decode cX5_init 711 = .ok (.bipush 115, 2) := by decide +kernel
theorem dX5_init_713 : decode cX5_init 713 = .ok (.iastore, 1) := by decide +kernel
theorem dX5_init_714 : decode cX5_init 714 = .ok (.dup, 1) := by decide +kernel
theorem dX5_init_715 : decode cX5_init 715 = .ok (.bipush 52, 2) := by decide +kernel
theorem dX5_init_717 : decode cX5_init 717 = .ok (.bipush 101, 2) := by decide +kernel
theorem dX5_init_719 : decode cX5_init 719 = .ok (.iastore, 1) := by decide +kernel
theorem dX5_init_720 : decode cX5_init 720 = .ok (.dup, 1) := by decide +kernel
theorem dX5_init_721 : decode cX5_init 721 = .ok (.bipush 53, 2) := by decide +kernel
theorem dX5_init_723 : decode cX5_init 723 = .ok (.bipush 32, 2) := by decide +kernel
theorem dX5_init_725 : decode cX5_init 725 = .ok (.iastore, 1) := by decide +kernel
theorem dX5_init_726 : decode cX5_init 726 = .ok (.dup, 1) := by decide +kernel
theorem dX5_init_727 : decode cX5_init 727 = .ok (.bipush 54, 2) := by decide +kernel
theorem dX5_init_729 : decode cX5_init 729 = .ok (.bipush 32, 2) := by decide +kernel
theorem dX5_init_731 : decode cX5_init 731 = .ok (.iastore, 1) := by decide +kernel
theorem dX5_init_732 : decode cX5_init 732 = .ok (.dup, 1) := by decide +kernel
theorem dX5_init_733 : decode cX5_init 733 = .ok (.bipush 55, 2) := by decide +kernel
theorem dX5_init_735 : decode cX5_init 735 = .ok (.bipush 32, 2) := by decide +kernel
theorem dX5_init_737 : decode cX5_init 737 = .ok (.iastore, 1) := by decide +kernel
theorem dX5_init_738 : decode cX5_init 738 = .ok (.dup, 1) := by decide +kernel
theorem dX5_init_739 : decode cX5_init 739 = .ok (.bipush 56, 2) := by decide +kernel
theorem dX5_init_741 : decode cX5_init 741 = .ok (.bipush 116, 2) := by decide +kernel
theorem dX5_init_743 : decode cX5_init 743 = .ok (.iastore, 1) := by decide +kernel
theorem dX5_init_744 : decode cX5_init 744 = .ok (.dup, 1) := by decide +kernel
theorem dX5_init_745 : decode cX5_init 745 = .ok (.bipush 57, 2) := by decide +kernel
theorem dX5_init_747 : decode cX5_init 747 = .ok (.bipush 117, 2) := by decide +kernel
theorem dX5_init_749 : decode cX5_init 749 = .ok (.iastore, 1) := by decide +kernel
theorem dX5_init_750 : decode cX5_init 750 = .ok (.dup, 1) := by decide +kernel
theorem dX5_init_751 : decode cX5_init 751 = .ok (.bipush 58, 2) := by decide +kernel
theorem dX5_init_753 : decode cX5_init 753 = .ok (.bipush 114, 2) := by decide +kernel
theorem dX5_init_755 : decode cX5_init 755 = .ok (.iastore, 1) := by decide +kernel
theorem dX5_init_756 : decode cX5_init 756 = .ok (.dup, 1) := by decide +kernel
theorem dX5_init_757 : decode cX5_init 757 = .ok (.bipush 59, 2) := by decide +kernel
theorem dX5_init_759 : decode cX5_init 759 = .ok (.bipush 110, 2) := by decide +kernel
theorem dX5_init_761 : decode cX5_init 761 = .ok (.iastore, 1) := by decide +kernel
theorem dX5_init_762 : decode cX5_init 762 = .ok (.dup, 1) := by decide +kernel
theorem dX5_init_763 : decode cX5_init 763 = .ok (.bipush 60, 2) := by decide +kernel
theorem dX5_init_765 : decode cX5_init 765 = .ok (.bipush 115, 2) := by decide +kernel
theorem dX5_init_767 : decode cX5_init 767 = .ok (.iastore, 1) := by decide +kernel
theorem dX5_init_768 : decode cX5_init 768 = .ok (.dup, 1) := by decide +kernel
theorem dX5_init_769 : decode cX5_init 769 = .ok (.bipush 61, 2) := by decide +kernel
theorem dX5_init_771 : decode cX5_init 771 = .ok (.bipush 32, 2) := by decide +kernel
theorem dX5_init_773 : decode cX5_init 773 = .ok (.iastore, 1) := by decide +kernel
theorem dX5_init_774 : decode cX5_init 774 = .ok (.dup, 1) := by decide +kernel
theorem dX5_init_775 : decode cX5_init 775 = .ok (.bipush 62, 2) := by decide +kernel
theorem dX5_init_777 : decode cX5_init 777 = .ok (.bipush 32, 2) := by decide +kernel
theorem dX5_init_779 : decode cX5_init 779 = .ok (.iastore, 1) := by decide +kernel
theorem dX5_init_780 : decode cX5_init 780 = .ok (.dup, 1) := by decide +kernel
theorem dX5_init_781 : decode cX5_init 781 = .ok (.bipush 63, 2) := by decide +kernel
theorem dX5_init_783 : decode cX5_init 783 = .ok (.bipush 32, 2) := by decide +kernel
theorem dX5_init_785 : decode cX5_init 785 = .ok (.iastore, 1) := by decide +kernel
theorem dX5_init_786 : decode cX5_init 786 = .ok (.dup, 1) := by decide +kernel
theorem dX5_init_787 : decode cX5_init 787 = .ok (.bipush 64, 2) := by decide +kernel
theorem dX5_init_789 : decode cX5_init 789 = .ok (.bipush 109, 2) := by decide +kernel
theorem dX5_init_791 : decode cX5_init 791 = .ok (.iastore, 1) := by decide +kernel
theorem dX5_init_792 : decode cX5_init 792 = .ok (.dup, 1) := by decide +kernel
theorem dX5_init_793 : decode cX5_init 793 = .ok (.bipush 65, 2) := by decide +kernel
theorem dX5_init_795 : decode cX5_init 795 = .ok (.bipush 111, 2) := by decide +kernel
theorem dX5_init_797 : decode cX5_init 797 = .ok (.iastore, 1) := by decide +kernel
theorem dX5_init_798 : decode cX5_init 798 = .ok (.dup, 1) := by decide +kernel
theorem dX5_init_799 : decode cX5_init 799 = .ok (.bipush 66, 2) := by decide +kernel
theorem dX5_init_801 : decode cX5_init 801 = .ok (.bipush 114, 2) := by decide +kernel
theorem dX5_init_803 : decode cX5_init 803 = .ok (.iastore, 1) := by decide +kernel
theorem dX5_init_804 : decode cX5_init 804 = .ok (.dup, 1) := by decide +kernel
theorem dX5_init_805 : decode cX5_init 805 = .ok (.bipush 67, 2) := by decide +kernel
theorem dX5_init_807 : decode cX5_init 807 = .ok (.bipush 101, 2) := by decide +kernel
theorem dX5_init_809 : decode cX5_init 809 = .ok (.iastore, 1) := by decide +kernel
theorem dX5_init_810 : decode cX5_init 810 = .ok (.dup, 1) := by decide +kernel
theorem dX5_init_811 : decode cX5_init 811 = .ok (.bipush 68, 2) := by decide +kernel
theorem dX5_init_813 : decode cX5_init 813 = .ok (.bipush 32, 2) := by decide +kernel
theorem dX5_init_815 : decode cX5_init 815 = .ok (.iastore, 1) := by decide +kernel
theorem dX5_init_816 : decode cX5_init 816 = .ok (.dup, 1) := by decide +kernel
theorem dX5_init_817 : decode cX5_init 817 = .ok (.bipush 69, 2) := by decide +kernel
theorem dX5_init_819 : decode cX5_init 819 = .ok (.bipush 32, 2) := by decide +kernel
theorem dX5_init_821 : decode cX5_init 821 = .ok (.iastore, 1) := by decide +kernel
theorem dX5_init_822 : decode cX5_init 822 = .ok (.dup, 1) := by decide +kernel
theorem dX5_init_823 : decode cX5_init 823 = .ok (.bipush 70, 2) := by decide +kernel
theorem dX5_init_825 : decode cX5_init 825 = .ok (.bipush 32, 2) := by decide +kernel
theorem dX5_init_827 : decode cX5_init 827 = .ok (.iastore, 1) := by decide +kernel
theorem dX5_init_828 : decode cX5_init 828 = .ok (.dup, 1) := by decide +kernel
theorem dX5_init_829 : decode cX5_init 829 = .ok (.bipush 71, 2) := by decide +kernel
theorem dX5_init_831 : decode cX5_init 831 = .ok (.bipush 32, 2) := by decide +kernel
theorem dX5_init_833 : decode cX5_init 833 = .ok (.iastore, 1) := by decide +kernel
theorem dX5_init_834 : decode cX5_init 834 = .ok (.dup, 1) := by decide +kernel
theorem dX5_init_835 : decode cX5_init 835 = .ok (.bipush 72, 2) := by decide +kernel
theorem dX5_init_837 : decode cX5_init 837 = .ok (.bipush 111, 2) := by decide +kernel
theorem dX5_init_839 : decode cX5_init 839 = .ok (.iastore, 1) := by decide +kernel
theorem dX5_init_840 : decode cX5_init 840 = .ok (.dup, 1) := by decide +kernel
theorem dX5_init_841 : decode cX5_init 841 = .ok (.bipush 73, 2) := by decide +kernel
theorem dX5_init_843 : decode cX5_init 843 = .ok (.bipush 114, 2) := by decide +kernel
theorem dX5_init_845 : decode cX5_init 845 = .ok (.iastore, 1) := by decide +kernel
theorem dX5_init_846 : decode cX5_init 846 = .ok (.dup, 1) := by decide +kernel
theorem dX5_init_847 : decode cX5_init 847 = .ok (.bipush 74, 2) := by decide +kernel
theorem dX5_init_849 : decode cX5_init 849 = .ok (.bipush 32, 2) := by decide +kernel
theorem dX5_init_851 : decode cX5_init 851 = .ok (.iastore, 1) := by decide +kernel
theorem dX5_init_852 : decode cX5_init 852 = .ok (.dup, 1) := by decide +kernel
theorem dX5_init_853 : decode cX5_init 853 = .ok (.bipush 75, 2) := by decide +kernel
theorem dX5_init_855 : decode cX5_init 855 = .ok (.bipush 32, 2) := by decide +kernel
theorem dX5_init_857 : decode cX5_init 857 = .ok (.iastore, 1) := by decide +kernel
theorem dX5_init_858 : decode cX5_init 858 = .ok (.dup, 1) := by decide +kernel
theorem dX5_init_859 : decode cX5_init 859 = .ok (.bipush 76, 2) := by decide +kernel
theorem dX5_init_861 : decode cX5_init 861 = .ok (.bipush 32, 2) := by decide +kernel
theorem dX5_init_863 : decode cX5_init 863 = .ok (.iastore, 1) := by decide +kernel
theorem dX5_init_864 : decode cX5_init 864 = .ok (.dup, 1) := by decide +kernel
theorem dX5_init_865 : decode cX5_init 865 = .ok (.bipush 77, 2) := by decide +kernel
theorem dX5_init_867 : decode cX5_init 867 = .ok (.bipush 32, 2) := by decide +kernel
theorem dX5_init_869 : decode cX5_init 869 = .ok (.iastore, 1) := by decide +kernel
theorem dX5_init_870 : decode cX5_init 870 = .ok (.dup, 1) := by decide +kernel
theorem dX5_init_871 : decode cX5_init 871 = .ok (.bipush 78, 2) := by decide +kernel
theorem dX5_init_873 : decode cX5_init 873 = .ok (.bipush 32, 2) := by decide +kernel
theorem dX5_init_875 : decode cX5_init 875 = .ok (.iastore, 1) := by decide +kernel
theorem dX5_init_876 : decode cX5_init 876 = .ok (.dup, 1) := by decide +kernel
theorem dX5_init_877 : decode cX5_init 877 = .ok (.bipush 79, 2) := by decide +kernel
theorem dX5_init_879 : decode cX5_init 879 = .ok (.bipush 32, 2) := by decide +kernel
theorem dX5_init_881 : decode cX5_init 881 = .ok (.iastore, 1) := by decide +kernel
theorem dX5_init_882 : decode cX5_init 882 = .ok (.dup, 1) := by decide +kernel
theorem dX5_init_883 : decode cX5_init 883 = .ok (.bipush 80, 2) := by decide +kernel
theorem dX5_init_885 : decode cX5_init 885 = .ok (.bipush 97, 2) := by decide +kernel
theorem dX5_init_887 : decode cX5_init 887 = .ok (.iastore, 1) := by decide +kernel
theorem dX5_init_888 : decode cX5_init 888 = .ok (.dup, 1) := by decide +kernel
theorem dX5_init_889 : decode cX5_init 889 = .ok (.bipush 81, 2) := by decide +kernel
theorem dX5_init_891 : decode cX5_init 891 = .ok (.bipush 110, 2) := by decide +kernel
theorem dX5_init_893 : decode cX5_init 893 = .ok (.iastore, 1) := by decide +kernel
theorem dX5_init_894 : decode cX5_init 894 = .ok (.dup, 1) := by decide +kernel
theorem dX5_init_895 : decode cX5_init 895 = .ok (.bipush 82, 2) := by decide +kernel
theorem dX5_init_897 : decode cX5_init 897 = .ok (.bipush 100, 2) := by decide +kernel
theorem dX5_init_899 : decode cX5_init 899 = .ok (.iastore, 1) := by decide +kernel
theorem dX5_init_900 : decode cX5_init 900 = .ok (.dup, 1) := by decide +kernel
theorem dX5_init_901 : decode cX5_init 901 = .ok (.bipush 83, 2) := by decide +kernel
theorem dX5_init_903 : decode cX5_init 903 = .ok (.bipush 32, 2) := by decide +kernel
theorem dX5_init_905 : decode cX5_init 905 = .ok (.iastore, 1) := by decide +kernel
theorem dX5_init_906 : decode cX5_init 906 = .ok (.dup, 1) := by decide +kernel
theorem dX5_init_907 : decode cX5_init 907 = .ok (.bipush 84, 2) := by decide +kernel
theorem dX5_init_909 : decode cX5_init 909 = .ok (.bipush 32, 2) := by decide +kernel
theorem dX5_init_911 : decode cX5_init 911 = .ok (.iastore, 1) := by decide +kernel
theorem dX5_init_912 : decode cX5_init 912 = .ok (.dup, 1) := by decide +kernel
theorem dX5_init_913 : decode cX5_init 913 = .ok (.bipush 85, 2) := by decide +kernel
theorem dX5_init_915 : decode cX5_init 915 = .ok (.bipush 32, 2) := by decide +kernel
theorem dX5_init_917 : decode cX5_init 917 = .ok (.iastore, 1) := by decide +kernel
theorem dX5_init_918 : decode cX5_init 918 = .ok (.dup, 1) := by decide +kernel
theorem dX5_init_919 : decode cX5_init 919 = .ok (.bipush 86, 2) := by decide +kernel
theorem dX5_init_921 : decode cX5_init 921 = .ok (.bipush 32, 2) := by decide +kernel
theorem dX5_init_923 : decode cX5_init 923 = .ok (.iastore, 1) := by decide +kernel
theorem dX5_init_924 : decode cX5_init 924 = .ok (.dup, 1) := by decide +kernel
theorem dX5_init_925 : decode cX5_init 925 = .ok (.bipush 87, 2) := by decide +kernel
theorem dX5_init_927 : decode cX5_init 927 = .ok (.bipush 32, 2) := by decide +kernel
theorem dX5_init_929 : decode cX5_init 929 = .ok (.iastore, 1) := by decide +kernel
theorem dX5_init_930 : decode cX5_init 930 = .ok (.dup, 1) := by decide +kernel
theorem dX5_init_931 : decode cX5_init 931 = .ok (.bipush 88, 2) := by decide +kernel
theorem dX5_init_933 : decode cX5_init 933 = .ok (.bipush 110, 2) := by decide +kernel
theorem dX5_init_935 : decode cX5_init 935 = .ok (.iastore, 1) := by decide +kernel
theorem dX5_init_936 : decode cX5_init 936 = .ok (.dup, 1) := by decide +kernel
theorem dX5_init_937 : decode cX5_init 937 = .ok (.bipush 89, 2) := by decide +kernel
theorem dX5_init_939 : decode cX5_init 939 = .ok (.bipush 111, 2) := by decide +kernel
theorem dX5_init_941 : decode cX5_init 941 = .ok (.iastore, 1) := by decide +kernel
theorem dX5_init_942 : decode cX5_init 942 = .ok (.dup, 1) := by decide +kernel
theorem dX5_init_943 : decode cX5_init 943 = .ok (.bipush 90, 2) := by decide +kernel
theorem dX5_init_945 : decode cX5_init 945 = .ok (.bipush 116, 2) := by decide +kernel
theorem dX5_init_947 : decode cX5_init 947 = .ok (.iastore, 1) := by decide +kernel
theorem dX5_init_948 : decode cX5_init 948 = .ok (.dup, 1) := by decide +kernel
theorem dX5_init_949 : decode cX5_init 949 = .ok (.bipush 91, 2) := by decide +kernel
theorem dX5_init_951 : decode cX5_init 951 = .ok (.bipush 32, 2) := by decide +kernel
theorem dX5_init_953 : decode cX5_init 953 = .ok (.iastore, 1) := by decide +kernel
theorem dX5_init_954 : decode cX5_init 954 = .ok (.dup, 1) := by decide +kernel
theorem dX5_init_955 : decode cX5_init 955 = .ok (.bipush 92, 2) := by decide +kernel
theorem dX5_init_957 : decode cX5_init 957 = .ok (.bipush 32, 2) := by decide +kernel
theorem dX5_init_959 : decode cX5_init 959 = .ok (.iastore, 1) := by decide +kernel
theorem dX5_init_960 : decode cX5_init 960 = .ok (.dup, 1) := by decide +kernel
theorem dX5_init_961 : decode cX5_init 961 = .ok (.bipush 93, 2) := by decide +kernel
theorem dX5_init_963 : decode cX5_init 963 = .ok (.bipush 32, 2) := by decide +kernel
theorem dX5_init_965 : decode cX5_init 965 = .ok (.iastore, 1) := by decide +kernel
theorem dX5_init_966 : decode cX5_init 966 = .ok (.dup, 1) := by decide +kernel
theorem dX5_init_967 : decode cX5_init 967 = .ok (.bipush 94, 2) := by decide +kernel
theorem dX5_init_969 : decode cX5_init 969 = .ok (.bipush 32, 2) := by decide +kernel
theorem dX5_init_971 : decode cX5_init 971 = .ok (.iastore, 1) := by decide +kernel
theorem dX5_init_972 : decode cX5_init 972 = .ok (.dup, 1) := by decide +kernel
theorem dX5_init_973 : decode cX5_init 973 = .ok (.bipush 95, 2) := by decide +kernel
theorem dX5_init_975 : decode cX5_init 975 = .ok (.bipush 32, 2) := by decide +kernel
theorem dX5_init_977 : decode cX5_init 977 = .ok (.iastore, 1) := by decide +kernel
theorem dX5_init_978 : decode cX5_init 978 = .ok (.putfield 49, 3) := by decide +kernel
theorem dX5_init_981 : decode cX5_init 981 = .ok (.aload_n 0, 1) := by decide +kernel
theorem dX5_init_982 : decode cX5_init 982 = .ok (.sipush 200, 3) := by decide +kernel
theorem dX5_init_985 : decode cX5_init 985 = .ok (.newarray .int, 2) := by decide +kernel
theorem dX5_init_987 : decode cX5_init 987 = .ok (.putfield 52, 3) := by decide +kernel
theorem dX5_init_990 : decode cX5_init 990 = .ok (.aload_n 0, 1) := by decide +kernel
theorem dX5_init_991 : decode cX5_init 991 = .ok (.sipush 200, 3) := by decide +kernel
theorem dX5_init_994 : decode cX5_init 994 = .ok (.newarray .int, 2) := by decide +kernel
theorem dX5_init_996 : decode cX5_init 996 = .ok (.putfield 55, 3) := by decide +kernel
theorem dX5_init_999 : decode cX5_init 999 = .ok (.aload_n 0, 1) := by decide +kernel
theorem dX5_init_1000 : decode cX5_init 1000 = .ok (.bipush 6, 2) := by decide +kernel
theorem dX5_init_1002 : decode cX5_init 1002 = .ok (.newarray .int, 2) := by decide +kernel
theorem dX5_init_1004 : decode cX5_init 1004 = .ok (.putfield 58, 3) := by decide +kernel
theorem dX5_init_1007 : decode cX5_init 1007 = .ok (.aload_n 0, 1) := by decide +kernel
theorem dX5_init_1008 : decode cX5_init 1008 = .ok (.bipush 32, 2) := by decide +kernel
theorem dX5_init_1010 : decode cX5_init 1010 = .ok (.newarray .int, 2) := by decide +kernel
theorem dX5_init_1012 : decode cX5_init 1012 = .ok (.putfield 61, 3) := by decide +kernel
theorem dX5_init_1015 : decode cX5_init 1015 = .ok (.aload_n 0, 1) := by decide +kernel
theorem dX5_init_1016 : decode cX5_init 1016 = .ok (.bipush 6, 2) := by decide +kernel
theorem dX5_init_1018 : decode cX5_init 1018 = .ok (.newarray .int, 2) := by decide +kernel
theorem dX5_init_1020 : decode cX5_init 1020 = .ok (.putfield 64, 3) := by decide +kernel
theorem dX5_init_1023 : decode cX5_init 1023 = .ok (.aload_n 0, 1) := by decide +kernel
theorem dX5_init_1024 : decode cX5_init 1024 = .ok (.sipush 1000, 3) := by decide +kernel
theorem dX5_init_1027 : decode cX5_init 1027 = .ok (.newarray .int, 2) := by decide +kernel
theorem dX5_init_1029 : decode cX5_init 1029 = .ok (.putfield 67, 3) := by decide +kernel
theorem dX5_init_1032 : decode cX5_init 1032 = .ok (.aload_n 0, 1) := by decide +kernel
theorem dX5_init_1033 : decode cX5_init 1033 = .ok (.sipush 1000, 3) := by decide +kernel
theorem dX5_init_1036 : decode cX5_init 1036 = .ok (.newarray .int, 2) := by decide +kernel
theorem dX5_init_1038 : decode cX5_init 1038 = .ok (.putfield 70, 3) := by decide +kernel
theorem dX5_init_1041 : decode cX5_init 1041 = .ok (.iconst 0, 1) := by decide +kernel
theorem dX5_init_1042 : decode cX5_init 1042 = .ok (.istore_n 1, 1) := by decide +kernel
theorem dX5_init_1043 : decode cX5_init 1043 = .ok (.iload_n 1, 1) := by decide +kernel
theorem dX5_init_1044 : decode cX5_init 1044 = .ok (.bipush 38, 2) := by decide +kernel
theorem dX5_init_1046 : decode cX5_init 1046 = .ok (.if_icmp .ge 21, 3) := by decide +kernel
theorem dX5_init_1049 : decode cX5_init 1049 = .ok (.aload_n 0, 1) := by decide +kernel
theorem dX5_init_1050 : decode cX5_init 1050 = .ok (.getfield 22, 3) := by decide +kernel
theorem dX5_init_1053 : decode cX5_init 1053 = .ok (.iload_n 1, 1) := by decide +kernel
theorem dX5_init_1054 : decode cX5_init 1054 = .ok (.aload_n 0, 1) := by decide +kernel
theorem dX5_init_1055 : decode cX5_init 1055 = .ok (.getfield 46, 3) := by decide +kernel
theorem dX5_init_1058 : decode cX5_init 1058 = .ok (.iload_n 1, 1) := by decide +kernel
theorem dX5_init_1059 : decode cX5_init 1059 = .ok (.iaload, 1) := by decide +kernel
theorem dX5_init_1060 : decode cX5_init 1060 = .ok (.iastore, 1) := by decide +kernel
theorem dX5_init_1061 : decode cX5_init 1061 = .ok (.iinc 1 1, 3) := by decide +kernel
theorem dX5_init_1064 : decode cX5_init 1064 = .ok (.goto (-21), 3) := by decide +kernel
theorem dX5_init_1067 : decode cX5_init 1067 = .ok (.aload_n 0, 1) := by decide +kernel
theorem dX5_init_1068 : decode cX5_init 1068 = .ok (.bipush 38, 2) := by decide +kernel
theorem dX5_init_1070 : decode cX5_init 1070 = .ok (.putfield 73, 3) := by decide +kernel
theorem dX5_init_1073 : decode cX5_init 1073 = .ok (.aload_n 0, 1) := by decide +kernel
theorem dX5_init_1074 : decode cX5_init 1074 = .ok (.invokevirtual 77, 3) := by decide +kernel
theorem dX5_init_1077 : decode cX5_init 1077 = .ok (.pop, 1) := by decide +kernel
theorem dX5_init_1078 : decode cX5_init 1078 = .ok (.return_, 1) := by decide +kernel
theorem dX5_in_0 : decode cX5_in 0 = .ok (.iload_n 0, 1) := by decide +kernel
theorem dX5_in_1 : decode cX5_in 1 = .ok (.iload_n 1, 1) := by decide +kernel
theorem dX5_in_2 : decode cX5_in 2 = .ok (.if_icmp .lt 12, 3) := by decide +kernel
theorem dX5_in_5 : decode cX5_in 5 = .ok (.iload_n 0, 1) := by decide +kernel
theorem dX5_in_6 : decode cX5_in 6 = .ok (.iload_n 2, 1) := by decide +kernel
theorem dX5_in_7 : decode cX5_in 7 = .ok (.if_icmp .gt 7, 3) := by decide +kernel
theorem dX5_in_10 : decode cX5_in 10 = .ok (.iconst 1, 1) := by decide +kernel
theorem dX5_in_11 : decode cX5_in 11 = .ok (.goto 4, 3) := by decide +kernel
theorem dX5_in_14 : decode cX5_in 14 = .ok (.iconst 0, 1) := by decide +kernel
theorem dX5_in_15 : decode cX5_in 15 = .ok (.ireturn, 1) := by decide +kernel
theorem dX5_within_0 : decode cX5_within 0 = .ok (.iload_n 0, 1) := by decide +kernel
theorem dX5_within_1 : decode cX5_within 1 = .ok (.iload_n 1, 1) := by decide +kernel
theorem dX5_within_2 : decode cX5_within 2 = .ok (.if_icmp .ge 7, 3) := by decide +kernel
theorem dX5_within_5 : decode cX5_within 5 = .ok (.iload_n 1, 1) := by decide +kernel
theorem dX5_within_6 : decode cX5_within 6 = .ok (.goto 13, 3) := by decide +kernel
theorem dX5_within_9 : decode cX5_within 9 = .ok (.iload_n 0, 1) := by decide +kernel
theorem dX5_within_10 : decode cX5_within 10 = .ok (.iload_n 2, 1) := by decide +kernel
theorem dX5_within_11 : decode cX5_within 11 = .ok (.if_icmp .le 7, 3) := by decide +kernel
theorem dX5_within_14 : decode cX5_within 14 = .ok (.iload_n 2, 1) := by decide +kernel
theorem dX5_within_15 : decode cX5_within 15 = .ok (.goto 4, 3) := by decide +kernel
theorem dX5_within_18 : decode cX5_within 18 = .ok (.iload_n 0, 1) := by decide +kernel
theorem dX5_within_19 : decode cX5_within 19 = .ok (.ireturn, 1) := by decide +kernel
theorem dX5_isOne_0 : decode cX5_isOne 0 = .ok (.iload_n 1, 1) := by decide +kernel
theorem dX5_isOne_1 : decode cX5_isOne 1 = .ok (.iconst 0, 1) := by decide +kernel
theorem dX5_isOne_2 : decode cX5_isOne 2 = .ok (.aload_n 0, 1) := by decide +kernel
theorem dX5_isOne_3 : decode cX5_isOne 3 = .ok (.getfield 81, 3) := by decide +kernel
theorem dX5_isOne_6 : decode cX5_isOne 6 = .ok (.iconst 1, 1) := by decide +kernel
theorem dX5_isOne_7 : decode cX5_isOne 7 = .ok (.isub, 1) := by decide +kernel
theorem dX5_isOne_8 : decode cX5_isOne 8 = .ok (.invokestatic 84, 3) := by decide +kernel
theorem dX5_isOne_11 : decode cX5_isOne 11 = .ok (.ireturn, 1) := by decide +kernel
theorem dX5_isCoin_0 : decode cX5_isCoin 0 = .ok (.iload_n 0, 1) := by decide +kernel
theorem dX5_isCoin_1 : decode cX5_isCoin 1 = .ok (.iconst 0, 1) := by decide +kernel
theorem dX5_isCoin_2 : decode cX5_isCoin 2 = .ok (.iconst 5, 1) := by decide +kernel
theorem dX5_isCoin_3 : decode cX5_isCoin 3 = .ok (.invokestatic 84, 3) := by decide +kernel
theorem dX5_isCoin_6 : decode cX5_isCoin 6 = .ok (.ireturn, 1) := by decide +kernel
theorem dX5_coinsAll_0 : decode cX5_coinsAll 0 = .ok (.iconst 0, 1) := by decide +kernel
theorem dX5_coinsAll_1 : decode cX5_coinsAll 1 = .ok (.istore_n 1, 1) := by decide +kernel
theorem dX5_coinsAll_2 : decode cX5_coinsAll 2 = .ok (.iconst 0, 1) := by decide +kernel
theorem dX5_coinsAll_3 : decode cX5_coinsAll 3 = .ok (.istore_n 2, 1) := by decide +kernel
theorem dX5_coinsAll_4 : decode cX5_coinsAll 4 = .ok (.iload_n 2, 1) := by decide +kernel
theorem dX5_coinsAll_5 : decode cX5_coinsAll 5 = .ok (.bipush 6, 2) := by decide +kernel
theorem dX5_coinsAll_7 : decode cX5_coinsAll 7 = .ok (.if_icmp .ge 22, 3) := by decide +kernel
theorem dX5_coinsAll_10 : decode cX5_coinsAll 10 = .ok (.iload_n 1, 1) := by decide +kernel
theorem dX5_coinsAll_11 : decode cX5_coinsAll 11 = .ok (.aload_n 0, 1) := by decide +kernel
theorem dX5_coinsAll_12 : decode cX5_coinsAll 12 = .ok (.getfield 19, 3) := by decide +kernel
theorem dX5_coinsAll_15 : decode cX5_coinsAll 15 = .ok (.iconst 2, 1) := by decide +kernel
theorem dX5_coinsAll_16 : decode cX5_coinsAll 16 = .ok (.iload_n 2, 1) := by decide +kernel
theorem dX5_coinsAll_17 : decode cX5_coinsAll 17 = .ok (.imul, 1) := by decide +kernel
theorem dX5_coinsAll_18 : decode cX5_coinsAll 18 = .ok (.iconst 1, 1) := by decide +kernel
theorem dX5_coinsAll_19 : decode cX5_coinsAll 19 = .ok (.iadd, 1) := by decide +kernel
theorem dX5_coinsAll_20 : decode cX5_coinsAll 20 = .ok (.iaload, 1) := by decide +kernel
theorem dX5_coinsAll_21 : decode cX5_coinsAll 21 = .ok (.iadd, 1) := by decide +kernel
theorem dX5_coinsAll_22 : decode cX5_coinsAll 22 = .ok (.istore_n 1, 1) := by decide +kernel
theorem dX5_coinsAll_23 : decode cX5_coinsAll 23 = .ok (.iinc 2 1, 3) := by decide +kernel
theorem dX5_coinsAll_26 : decode cX5_coinsAll 26 = .ok (.goto (-22), 3) := by decide +kernel
theorem dX5_coinsAll_29 : decode cX5_coinsAll 29 = .ok (.iload_n 1, 1) := by decide +kernel
theorem dX5_coinsAll_30 : decode cX5_coinsAll 30 = .ok (.ireturn, 1) := by decide +kernel
theorem dX5_worthAll_0 : decode cX5_worthAll 0 = .ok (.iconst 0, 1) := by decide +kernel
theorem dX5_worthAll_1 : decode cX5_worthAll 1 = .ok (.istore_n 1, 1) := by decide +kernel
theorem dX5_worthAll_2 : decode cX5_worthAll 2 = .ok (.iconst 0, 1) := by decide +kernel
theorem dX5_worthAll_3 : decode cX5_worthAll 3 = .ok (.istore_n 2, 1) := by decide +kernel
theorem dX5_worthAll_4 : decode cX5_worthAll 4 = .ok (.iload_n 2, 1) := by decide +kernel
theorem dX5_worthAll_5 : decode cX5_worthAll 5 = .ok (.bipush 6, 2) := by decide +kernel
theorem dX5_worthAll_7 : decode cX5_worthAll 7 = .ok (.if_icmp .ge 31, 3) := by decide +kernel
theorem dX5_worthAll_10 : decode cX5_worthAll 10 = .ok (.iload_n 1, 1) := by decide +kernel
theorem dX5_worthAll_11 : decode cX5_worthAll 11 = .ok (.aload_n 0, 1) := by decide +kernel
theorem dX5_worthAll_12 : decode cX5_worthAll 12 = .ok (.getfield 19, 3) := by decide +kernel
theorem dX5_worthAll_15 : decode cX5_worthAll 15 = .ok (.iconst 2, 1) := by decide +kernel
theorem dX5_worthAll_16 : decode cX5_worthAll 16 = .ok (.iload_n 2, 1) := by decide +kernel
theorem dX5_worthAll_17 : decode cX5_worthAll 17 = .ok (.imul, 1) := by decide +kernel
theorem dX5_worthAll_18 : decode cX5_worthAll 18 = .ok (.iaload, 1) := by decide +kernel
theorem dX5_worthAll_19 : decode cX5_worthAll 19 = .ok (.aload_n 0, 1) := by decide +kernel
theorem dX5_worthAll_20 : decode cX5_worthAll 20 = .ok (.getfield 19, 3) := by decide +kernel
theorem dX5_worthAll_23 : decode cX5_worthAll 23 = .ok (.iconst 2, 1) := by decide +kernel
theorem dX5_worthAll_24 : decode cX5_worthAll 24 = .ok (.iload_n 2, 1) := by decide +kernel
theorem dX5_worthAll_25 : decode cX5_worthAll 25 = .ok (.imul, 1) := by decide +kernel
theorem dX5_worthAll_26 : decode cX5_worthAll 26 = .ok (.iconst 1, 1) := by decide +kernel
theorem dX5_worthAll_27 : decode cX5_worthAll 27 = .ok (.iadd, 1) := by decide +kernel
theorem dX5_worthAll_28 : decode cX5_worthAll 28 = .ok (.iaload, 1) := by decide +kernel
theorem dX5_worthAll_29 : decode cX5_worthAll 29 = .ok (.imul, 1) := by decide +kernel
theorem dX5_worthAll_30 : decode cX5_worthAll 30 = .ok (.iadd, 1) := by decide +kernel
theorem dX5_worthAll_31 : decode cX5_worthAll 31 = .ok (.istore_n 1, 1) := by decide +kernel
theorem dX5_worthAll_32 : decode cX5_worthAll 32 = .ok (.iinc 2 1, 3) := by decide +kernel
theorem dX5_worthAll_35 : decode cX5_worthAll 35 = .ok (.goto (-31), 3) := by decide +kernel
theorem dX5_worthAll_38 : decode cX5_worthAll 38 = .ok (.iload_n 1, 1) := by decide +kernel
theorem dX5_worthAll_39 : decode cX5_worthAll 39 = .ok (.ireturn, 1) := by decide +kernel
theorem dX5_count_0 : decode cX5_count 0 = .ok (.iload_n 1, 1) := by decide +kernel
theorem dX5_count_1 : decode cX5_count 1 = .ok (.tableswitch 78 0 6 #[43, 48, 53, 58, 63, 68, 73], 43) := by decide +kernel
theorem dX5_count_44 : decode cX5_count 44 = .ok (.aload_n 0, 1) := by decide +kernel
theorem dX5_count_45 : decode cX5_count 45 = .ok (.getfield 81, 3) := by decide +kernel
theorem dX5_count_48 : decode cX5_count 48 = .ok (.ireturn, 1) := by decide +kernel
theorem dX5_count_49 : decode cX5_count 49 = .ok (.aload_n 0, 1) := by decide +kernel
theorem dX5_count_50 : decode cX5_count 50 = .ok (.invokevirtual 88, 3) := by decide +kernel
theorem dX5_count_53 : decode cX5_count 53 = .ok (.ireturn, 1) := by decide +kernel
theorem dX5_count_54 : decode cX5_count 54 = .ok (.aload_n 0, 1) := by decide +kernel
theorem dX5_count_55 : decode cX5_count 55 = .ok (.getfield 91, 3) := by decide +kernel
theorem dX5_count_58 : decode cX5_count 58 = .ok (.ireturn, 1) := by decide +kernel
theorem dX5_count_59 : decode cX5_count 59 = .ok (.aload_n 0, 1) := by decide +kernel
theorem dX5_count_60 : decode cX5_count 60 = .ok (.getfield 94, 3) := by decide +kernel
theorem dX5_count_63 : decode cX5_count 63 = .ok (.ireturn, 1) := by decide +kernel
theorem dX5_count_64 : decode cX5_count 64 = .ok (.aload_n 0, 1) := by decide +kernel
theorem dX5_count_65 : decode cX5_count 65 = .ok (.getfield 97, 3) := by decide +kernel
theorem dX5_count_68 : decode cX5_count 68 = .ok (.ireturn, 1) := by decide +kernel
theorem dX5_count_69 : decode cX5_count 69 = .ok (.aload_n 0, 1) := by decide +kernel
theorem dX5_count_70 : decode cX5_count 70 = .ok (.getfield 73, 3) := by decide +kernel
theorem dX5_count_73 : decode cX5_count 73 = .ok (.ireturn, 1) := by decide +kernel
theorem dX5_count_74 : decode cX5_count 74 = .ok (.aload_n 0, 1) := by decide +kernel
theorem dX5_count_75 : decode cX5_count 75 = .ok (.getfield 100, 3) := by decide +kernel
theorem dX5_count_78 : decode cX5_count 78 = .ok (.ireturn, 1) := by decide +kernel
theorem dX5_count_79 : decode cX5_count 79 = .ok (.bipush (-2), 2) := by decide +kernel
theorem dX5_count_81 : decode cX5_count 81 = .ok (.ireturn, 1) := by decide +kernel
theorem dX5_fill_0 : decode cX5_fill 0 = .ok (.iload_n 1, 1) := by decide +kernel
theorem dX5_fill_1 : decode cX5_fill 1 = .ok (.invokestatic 103, 3) := by decide +kernel
theorem dX5_fill_4 : decode cX5_fill 4 = .ok (.ifCond .ne 6, 3) := by decide +kernel
theorem dX5_fill_7 : decode cX5_fill 7 = .ok (.bipush (-5), 2) := by decide +kernel
theorem dX5_fill_9 : decode cX5_fill 9 = .ok (.ireturn, 1) := by decide +kernel
theorem dX5_fill_10 : decode cX5_fill 10 = .ok (.iload_n 2, 1) := by decide +kernel
theorem dX5_fill_11 : decode cX5_fill 11 = .ok (.iconst 0, 1) := by decide +kernel
theorem dX5_fill_12 : decode cX5_fill 12 = .ok (.iconst 1, 1) := by decide +kernel
theorem dX5_fill_13 : decode cX5_fill 13 = .ok (.invokestatic 84, 3) := by decide +kernel
theorem dX5_fill_16 : decode cX5_fill 16 = .ok (.ifCond .eq 22, 3) := by decide +kernel
theorem dX5_fill_19 : decode cX5_fill 19 = .ok (.iload_n 3, 1) := by decide +kernel
theorem dX5_fill_20 : decode cX5_fill 20 = .ok (.iconst 0, 1) := by decide +kernel
theorem dX5_fill_21 : decode cX5_fill 21 = .ok (.iload_n 2, 1) := by decide +kernel
theorem dX5_fill_22 : decode cX5_fill 22 = .ok (.ifCond .ne 8, 3) := by decide +kernel
theorem dX5_fill_25 : decode cX5_fill 25 = .ok (.bipush 99, 2) := by decide +kernel
theorem dX5_fill_27 : decode cX5_fill 27 = .ok (.goto 5, 3) := by decide +kernel
theorem dX5_fill_30 : decode cX5_fill 30 = .ok (.bipush 20, 2) := by decide +kernel
theorem dX5_fill_32 : decode cX5_fill 32 = .ok (.invokestatic 84, 3) := by decide +kernel
theorem dX5_fill_35 : decode cX5_fill 35 = .ok (.ifCond .ne 6, 3) := by decide +kernel
theorem dX5_fill_38 : decode cX5_fill 38 = .ok (.bipush (-7), 2) := by decide +kernel
theorem dX5_fill_40 : decode cX5_fill 40 = .ok (.ireturn, 1) := by decide +kernel
theorem dX5_fill_41 : decode cX5_fill 41 = .ok (.aload_n 0, 1) := by decide +kernel
theorem dX5_fill_42 : decode cX5_fill 42 = .ok (.getfield 19, 3) := by decide +kernel
theorem dX5_fill_45 : decode cX5_fill 45 = .ok (.iconst 2, 1) := by decide +kernel
theorem dX5_fill_46 : decode cX5_fill 46 = .ok (.iload_n 1, 1) := by decide +kernel
theorem dX5_fill_47 : decode cX5_fill 47 = .ok (.imul, 1) := by decide +kernel
theorem dX5_fill_48 : decode cX5_fill 48 = .ok (.iload_n 2, 1) := by decide +kernel
theorem dX5_fill_49 : decode cX5_fill 49 = .ok (.iadd, 1) := by decide +kernel
theorem dX5_fill_50 : decode cX5_fill 50 = .ok (.iaload, 1) := by decide +kernel
theorem dX5_fill_51 : decode cX5_fill 51 = .ok (.istore 4, 2) := by decide +kernel
theorem dX5_fill_53 : decode cX5_fill 53 = .ok (.aload_n 0, 1) := by decide +kernel
theorem dX5_fill_54 : decode cX5_fill 54 = .ok (.getfield 19, 3) := by decide +kernel
theorem dX5_fill_57 : decode cX5_fill 57 = .ok (.iconst 2, 1) := by decide +kernel
theorem dX5_fill_58 : decode cX5_fill 58 = .ok (.iload_n 1, 1) := by decide +kernel
theorem dX5_fill_59 : decode cX5_fill 59 = .ok (.imul, 1) := by decide +kernel
theorem dX5_fill_60 : decode cX5_fill 60 = .ok (.iload_n 2, 1) := by decide +kernel
theorem dX5_fill_61 : decode cX5_fill 61 = .ok (.iadd, 1) := by decide +kernel
theorem dX5_fill_62 : decode cX5_fill 62 = .ok (.iload_n 3, 1) := by decide +kernel
theorem dX5_fill_63 : decode cX5_fill 63 = .ok (.iastore, 1) := by decide +kernel
theorem dX5_fill_64 : decode cX5_fill 64 = .ok (.iload 4, 2) := by decide +kernel
theorem dX5_fill_66 : decode cX5_fill 66 = .ok (.ireturn, 1) := by decide +kernel
theorem dX5_hat_0 : decode cX5_hat 0 = .ok (.iload_n 2, 1) := by decide +kernel
theorem dX5_hat_1 : decode cX5_hat 1 = .ok (.iconst 2, 1) := by decide +kernel
theorem dX5_hat_2 : decode cX5_hat 2 = .ok (.if_icmp .ne 8, 3) := by decide +kernel
theorem dX5_hat_5 : decode cX5_hat 5 = .ok (.aload_n 0, 1) := by decide +kernel
theorem dX5_hat_6 : decode cX5_hat 6 = .ok (.invokevirtual 107, 3) := by decide +kernel
theorem dX5_hat_9 : decode cX5_hat 9 = .ok (.ireturn, 1) := by decide +kernel
theorem dX5_hat_10 : decode cX5_hat 10 = .ok (.iload_n 1, 1) := by decide +kernel
theorem dX5_hat_11 : decode cX5_hat 11 = .ok (.invokestatic 103, 3) := by decide +kernel
theorem dX5_hat_14 : decode cX5_hat 14 = .ok (.ifCond .ne 6, 3) := by decide +kernel
theorem dX5_hat_17 : decode cX5_hat 17 = .ok (.bipush (-5), 2) := by decide +kernel
theorem dX5_hat_19 : decode cX5_hat 19 = .ok (.ireturn, 1) := by decide +kernel
theorem dX5_hat_20 : decode cX5_hat 20 = .ok (.iload_n 2, 1) := by decide +kernel
theorem dX5_hat_21 : decode cX5_hat 21 = .ok (.iconst 0, 1) := by decide +kernel
theorem dX5_hat_22 : decode cX5_hat 22 = .ok (.iconst 1, 1) := by decide +kernel
theorem dX5_hat_23 : decode cX5_hat 23 = .ok (.invokestatic 84, 3) := by decide +kernel
theorem dX5_hat_26 : decode cX5_hat 26 = .ok (.ifCond .eq 16, 3) := by decide +kernel
theorem dX5_hat_29 : decode cX5_hat 29 = .ok (.aload_n 0, 1) := by decide +kernel
theorem dX5_hat_30 : decode cX5_hat 30 = .ok (.getfield 19, 3) := by decide +kernel
theorem dX5_hat_33 : decode cX5_hat 33 = .ok (.iconst 2, 1) := by decide +kernel
theorem dX5_hat_34 : decode cX5_hat 34 = .ok (.iload_n 1, 1) := by decide +kernel
theorem dX5_hat_35 : decode cX5_hat 35 = .ok (.imul, 1) := by decide +kernel
theorem dX5_hat_36 : decode cX5_hat 36 = .ok (.iload_n 2, 1) := by decide +kernel
theorem dX5_hat_37 : decode cX5_hat 37 = .ok (.iadd, 1) := by decide +kernel
theorem dX5_hat_38 : decode cX5_hat 38 = .ok (.iaload, 1) := by decide +kernel
theorem dX5_hat_39 : decode cX5_hat 39 = .ok (.goto 5, 3) := by decide +kernel
theorem dX5_hat_42 : decode cX5_hat 42 = .ok (.bipush (-7), 2) := by decide +kernel
theorem dX5_hat_44 : decode cX5_hat 44 = .ok (.ireturn, 1) := by decide +kernel
theorem dX5_isByte_0 : decode cX5_isByte 0 = .ok (.iload_n 0, 1) := by decide +kernel
theorem dX5_isByte_1 : decode cX5_isByte 1 = .ok (.iconst 0, 1) := by decide +kernel
theorem dX5_isByte_2 : decode cX5_isByte 2 = .ok (.sipush 255, 3) := by decide +kernel
theorem dX5_isByte_5 : decode cX5_isByte 5 = .ok (.invokestatic 84, 3) := by decide +kernel
theorem dX5_isByte_8 : decode cX5_isByte 8 = .ok (.ireturn, 1) := by decide +kernel
theorem dX5_feed_0 : decode cX5_feed 0 = .ok (.iload_n 1, 1) := by decide +kernel
theorem dX5_feed_1 : decode cX5_feed 1 = .ok (.iconst 1, 1) := by decide +kernel
theorem dX5_feed_2 : decode cX5_feed 2 = .ok (.iconst 5, 1) := by decide +kernel
theorem dX5_feed_3 : decode cX5_feed 3 = .ok (.invokestatic 84, 3) := by decide +kernel
theorem dX5_feed_6 : decode cX5_feed 6 = .ok (.ifCond .eq 41, 3) := by decide +kernel
theorem dX5_feed_9 : decode cX5_feed 9 = .ok (.iload_n 2, 1) := by decide +kernel
theorem dX5_feed_10 : decode cX5_feed 10 = .ok (.invokestatic 110, 3) := by decide +kernel
theorem dX5_feed_13 : decode cX5_feed 13 = .ok (.ifCond .eq 34, 3) := by decide +kernel
theorem dX5_feed_16 : decode cX5_feed 16 = .ok (.iload_n 3, 1) := by decide +kernel
theorem dX5_feed_17 : decode cX5_feed 17 = .ok (.invokestatic 110, 3) := by decide +kernel
theorem dX5_feed_20 : decode cX5_feed 20 = .ok (.ifCond .eq 27, 3) := by decide +kernel
theorem dX5_feed_23 : decode cX5_feed 23 = .ok (.iload 4, 2) := by decide +kernel
theorem dX5_feed_25 : decode cX5_feed 25 = .ok (.invokestatic 110, 3) := by decide +kernel
theorem dX5_feed_28 : decode cX5_feed 28 = .ok (.ifCond .eq 19, 3) := by decide +kernel
theorem dX5_feed_31 : decode cX5_feed 31 = .ok (.iload 5, 2) := by decide +kernel
theorem dX5_feed_33 : decode cX5_feed 33 = .ok (.invokestatic 110, 3) := by decide +kernel
theorem dX5_feed_36 : decode cX5_feed 36 = .ok (.ifCond .eq 11, 3) := by decide +kernel
theorem dX5_feed_39 : decode cX5_feed 39 = .ok (.iload 6, 2) := by decide +kernel
theorem dX5_feed_41 : decode cX5_feed 41 = .ok (.invokestatic 110, 3) := by decide +kernel
theorem dX5_feed_44 : decode cX5_feed 44 = .ok (.ifCond .ne 6, 3) := by decide +kernel
theorem dX5_feed_47 : decode cX5_feed 47 = .ok (.bipush (-2), 2) := by decide +kernel
theorem dX5_feed_49 : decode cX5_feed 49 = .ok (.ireturn, 1) := by decide +kernel
theorem dX5_feed_50 : decode cX5_feed 50 = .ok (.aload_n 0, 1) := by decide +kernel
theorem dX5_feed_51 : decode cX5_feed 51 = .ok (.getfield 73, 3) := by decide +kernel
theorem dX5_feed_54 : decode cX5_feed 54 = .ok (.iload_n 1, 1) := by decide +kernel
theorem dX5_feed_55 : decode cX5_feed 55 = .ok (.iadd, 1) := by decide +kernel
theorem dX5_feed_56 : decode cX5_feed 56 = .ok (.sipush 160, 3) := by decide +kernel
theorem dX5_feed_59 : decode cX5_feed 59 = .ok (.if_icmp .le 6, 3) := by decide +kernel
theorem dX5_feed_62 : decode cX5_feed 62 = .ok (.bipush (-4), 2) := by decide +kernel
theorem dX5_feed_64 : decode cX5_feed 64 = .ok (.ireturn, 1) := by decide +kernel
theorem dX5_feed_65 : decode cX5_feed 65 = .ok (.iconst 0, 1) := by decide +kernel
theorem dX5_feed_66 : decode cX5_feed 66 = .ok (.istore 7, 2) := by decide +kernel
theorem dX5_feed_68 : decode cX5_feed 68 = .ok (.iload 7, 2) := by decide +kernel
theorem dX5_feed_70 : decode cX5_feed 70 = .ok (.iload_n 1, 1) := by decide +kernel
theorem dX5_feed_71 : decode cX5_feed 71 = .ok (.if_icmp .ge 71, 3) := by decide +kernel
theorem dX5_feed_74 : decode cX5_feed 74 = .ok (.aload_n 0, 1) := by decide +kernel
theorem dX5_feed_75 : decode cX5_feed 75 = .ok (.getfield 22, 3) := by decide +kernel
theorem dX5_feed_78 : decode cX5_feed 78 = .ok (.aload_n 0, 1) := by decide +kernel
theorem dX5_feed_79 : decode cX5_feed 79 = .ok (.getfield 73, 3) := by decide +kernel
theorem dX5_feed_82 : decode cX5_feed 82 = .ok (.iload 7, 2) := by decide +kernel
theorem dX5_feed_84 : decode cX5_feed 84 = .ok (.ifCond .ne 7, 3) := by decide +kernel
theorem dX5_feed_87 : decode cX5_feed 87 = .ok (.iload_n 2, 1) := by decide +kernel
theorem dX5_feed_88 : decode cX5_feed 88 = .ok (.goto 37, 3) := by decide +kernel
theorem dX5_feed_91 : decode cX5_feed 91 = .ok (.iload 7, 2) := by decide +kernel
theorem dX5_feed_93 : decode cX5_feed 93 = .ok (.iconst 1, 1) := by decide +kernel
theorem dX5_feed_94 : decode cX5_feed 94 = .ok (.if_icmp .ne 7, 3) := by decide +kernel
theorem dX5_feed_97 : decode cX5_feed 97 = .ok (.iload_n 3, 1) := by decide +kernel
theorem dX5_feed_98 : decode cX5_feed 98 = .ok (.goto 27, 3) := by decide +kernel
theorem dX5_feed_101 : decode cX5_feed 101 = .ok (.iload 7, 2) := by decide +kernel
theorem dX5_feed_103 : decode cX5_feed 103 = .ok (.iconst 2, 1) := by decide +kernel
theorem dX5_feed_104 : decode cX5_feed 104 = .ok (.if_icmp .ne 8, 3) := by decide +kernel
theorem dX5_feed_107 : decode cX5_feed 107 = .ok (.iload 4, 2) := by decide +kernel
theorem dX5_feed_109 : decode cX5_feed 109 = .ok (.goto 16, 3) := by decide +kernel
theorem dX5_feed_112 : decode cX5_feed 112 = .ok (.iload 7, 2) := by decide +kernel
theorem dX5_feed_114 : decode cX5_feed 114 = .ok (.iconst 3, 1) := by decide +kernel
theorem dX5_feed_115 : decode cX5_feed 115 = .ok (.if_icmp .ne 8, 3) := by decide +kernel
theorem dX5_feed_118 : decode cX5_feed 118 = .ok (.iload 5, 2) := by decide +kernel
theorem dX5_feed_120 : decode cX5_feed 120 = .ok (.goto 5, 3) := by decide +kernel
theorem dX5_feed_123 : decode cX5_feed 123 = .ok (.iload 6, 2) := by decide +kernel
theorem dX5_feed_125 : decode cX5_feed 125 = .ok (.iastore, 1) := by decide +kernel
theorem dX5_feed_126 : decode cX5_feed 126 = .ok (.aload_n 0, 1) := by decide +kernel
theorem dX5_feed_127 : decode cX5_feed 127 = .ok (.dup, 1) := by decide +kernel
theorem dX5_feed_128 : decode cX5_feed 128 = .ok (.getfield 73, 3) := by decide +kernel
theorem dX5_feed_131 : decode cX5_feed 131 = .ok (.iconst 1, 1) := by decide +kernel
theorem dX5_feed_132 : decode cX5_feed 132 = .ok (.iadd, 1) := by decide +kernel
theorem dX5_feed_133 : decode cX5_feed 133 = .ok (.putfield 73, 3) := by decide +kernel
theorem dX5_feed_136 : decode cX5_feed 136 = .ok (.iinc 7 1, 3) := by decide +kernel
theorem dX5_feed_139 : decode cX5_feed 139 = .ok (.goto (-71), 3) := by decide +kernel
theorem dX5_feed_142 : decode cX5_feed 142 = .ok (.aload_n 0, 1) := by decide +kernel
theorem dX5_feed_143 : decode cX5_feed 143 = .ok (.getfield 73, 3) := by decide +kernel
theorem dX5_feed_146 : decode cX5_feed 146 = .ok (.ireturn, 1) := by decide +kernel
theorem dX5_wordFrom_0 : decode cX5_wordFrom 0 = .ok (.iconst 0, 1) := by decide +kernel
theorem dX5_wordFrom_1 : decode cX5_wordFrom 1 = .ok (.istore_n 3, 1) := by decide +kernel
theorem dX5_wordFrom_2 : decode cX5_wordFrom 2 = .ok (.iload_n 3, 1) := by decide +kernel
theorem dX5_wordFrom_3 : decode cX5_wordFrom 3 = .ok (.bipush 12, 2) := by decide +kernel
theorem dX5_wordFrom_5 : decode cX5_wordFrom 5 = .ok (.if_icmp .ge 96, 3) := by decide +kernel
theorem dX5_wordFrom_8 : decode cX5_wordFrom 8 = .ok (.iload_n 2, 1) := by decide +kernel
theorem dX5_wordFrom_9 : decode cX5_wordFrom 9 = .ok (.iload_n 1, 1) := by decide +kernel
theorem dX5_wordFrom_10 : decode cX5_wordFrom 10 = .ok (.isub, 1) := by decide +kernel
theorem dX5_wordFrom_11 : decode cX5_wordFrom 11 = .ok (.bipush 8, 2) := by decide +kernel
theorem dX5_wordFrom_13 : decode cX5_wordFrom 13 = .ok (.if_icmp .gt 7, 3) := by decide +kernel
theorem dX5_wordFrom_16 : decode cX5_wordFrom 16 = .ok (.iconst 1, 1) := by decide +kernel
theorem dX5_wordFrom_17 : decode cX5_wordFrom 17 = .ok (.goto 4, 3) := by decide +kernel
theorem dX5_wordFrom_20 : decode cX5_wordFrom 20 = .ok (.iconst 0, 1) := by decide +kernel
theorem dX5_wordFrom_21 : decode cX5_wordFrom 21 = .ok (.istore 4, 2) := by decide +kernel
theorem dX5_wordFrom_23 : decode cX5_wordFrom 23 = .ok (.iconst 0, 1) := by decide +kernel
theorem dX5_wordFrom_24 : decode cX5_wordFrom 24 = .ok (.istore 5, 2) := by decide +kernel
theorem dX5_wordFrom_26 : decode cX5_wordFrom 26 = .ok (.iload 5, 2) := by decide +kernel
theorem dX5_wordFrom_28 : decode cX5_wordFrom 28 = .ok (.bipush 8, 2) := by decide +kernel
theorem dX5_wordFrom_30 : decode cX5_wordFrom 30 = .ok (.if_icmp .ge 58, 3) := by decide +kernel
theorem dX5_wordFrom_33 : decode cX5_wordFrom 33 = .ok (.iload 4, 2) := by decide +kernel
theorem dX5_wordFrom_35 : decode cX5_wordFrom 35 = .ok (.ifCond .eq 53, 3) := by decide +kernel
theorem dX5_wordFrom_38 : decode cX5_wordFrom 38 = .ok (.aload_n 0, 1) := by decide +kernel
theorem dX5_wordFrom_39 : decode cX5_wordFrom 39 = .ok (.getfield 49, 3) := by decide +kernel
theorem dX5_wordFrom_42 : decode cX5_wordFrom 42 = .ok (.bipush 8, 2) := by decide +kernel
theorem dX5_wordFrom_44 : decode cX5_wordFrom 44 = .ok (.iload_n 3, 1) := by decide +kernel
theorem dX5_wordFrom_45 : decode cX5_wordFrom 45 = .ok (.imul, 1) := by decide +kernel
theorem dX5_wordFrom_46 : decode cX5_wordFrom 46 = .ok (.iload 5, 2) := by decide +kernel
theorem dX5_wordFrom_48 : decode cX5_wordFrom 48 = .ok (.iadd, 1) := by decide +kernel
theorem dX5_wordFrom_49 : decode cX5_wordFrom 49 = .ok (.iaload, 1) := by decide +kernel
theorem dX5_wordFrom_50 : decode cX5_wordFrom 50 = .ok (.iload_n 1, 1) := by decide +kernel
theorem dX5_wordFrom_51 : decode cX5_wordFrom 51 = .ok (.iload 5, 2) := by decide +kernel
theorem dX5_wordFrom_53 : decode cX5_wordFrom 53 = .ok (.iadd, 1) := by decide +kernel
theorem dX5_wordFrom_54 : decode cX5_wordFrom 54 = .ok (.iload_n 2, 1) := by decide +kernel
theorem dX5_wordFrom_55 : decode cX5_wordFrom 55 = .ok (.if_icmp .ge 15, 3) := by decide +kernel
theorem dX5_wordFrom_58 : decode cX5_wordFrom 58 = .ok (.aload_n 0, 1) := by decide +kernel
theorem dX5_wordFrom_59 : decode cX5_wordFrom 59 = .ok (.getfield 22, 3) := by decide +kernel
theorem dX5_wordFrom_62 : decode cX5_wordFrom 62 = .ok (.iload_n 1, 1) := by decide +kernel
theorem dX5_wordFrom_63 : decode cX5_wordFrom 63 = .ok (.iload 5, 2) := by decide +kernel
theorem dX5_wordFrom_65 : decode cX5_wordFrom 65 = .ok (.iadd, 1) := by decide +kernel
theorem dX5_wordFrom_66 : decode cX5_wordFrom 66 = .ok (.iaload, 1) := by decide +kernel
theorem dX5_wordFrom_67 : decode cX5_wordFrom 67 = .ok (.goto 5, 3) := by decide +kernel
theorem dX5_wordFrom_70 : decode cX5_wordFrom 70 = .ok (.bipush 32, 2) := by decide +kernel
theorem dX5_wordFrom_72 : decode cX5_wordFrom 72 = .ok (.if_icmp .ne 7, 3) := by decide +kernel
theorem dX5_wordFrom_75 : decode cX5_wordFrom 75 = .ok (.iconst 1, 1) := by decide +kernel
theorem dX5_wordFrom_76 : decode cX5_wordFrom 76 = .ok (.goto 4, 3) := by decide +kernel
theorem dX5_wordFrom_79 : decode cX5_wordFrom 79 = .ok (.iconst 0, 1) := by decide +kernel
theorem dX5_wordFrom_80 : decode cX5_wordFrom 80 = .ok (.istore 4, 2) := by decide +kernel
theorem dX5_wordFrom_82 : decode cX5_wordFrom 82 = .ok (.iinc 5 1, 3) := by decide +kernel
theorem dX5_wordFrom_85 : decode cX5_wordFrom 85 = .ok (.goto (-59), 3) := by decide +kernel
theorem dX5_wordFrom_88 : decode cX5_wordFrom 88 = .ok (.iload 4, 2) := by decide +kernel
theorem dX5_wordFrom_90 : decode cX5_wordFrom 90 = .ok (.ifCond .eq 5, 3) := by decide +kernel
theorem dX5_wordFrom_93 : decode cX5_wordFrom 93 = .ok (.iload_n 3, 1) := by decide +kernel
theorem dX5_wordFrom_94 : decode cX5_wordFrom 94 = .ok (.ireturn, 1) := by decide +kernel
theorem dX5_wordFrom_95 : decode cX5_wordFrom 95 = .ok (.iinc 3 1, 3) := by decide +kernel
theorem dX5_wordFrom_98 : decode cX5_wordFrom 98 = .ok (.goto (-96), 3) := by decide +kernel
theorem dX5_wordFrom_101 : decode cX5_wordFrom 101 = .ok (.bipush 12, 2) := by decide +kernel
theorem dX5_wordFrom_103 : decode cX5_wordFrom 103 = .ok (.ireturn, 1) := by decide +kernel
theorem dX5_next_0 : decode cX5_next 0 = .ok (.aload_n 0, 1) := by decide +kernel
theorem dX5_next_1 : decode cX5_next 1 = .ok (.getfield 113, 3) := by decide +kernel
theorem dX5_next_4 : decode cX5_next 4 = .ok (.aload_n 0, 1) := by decide +kernel
theorem dX5_next_5 : decode cX5_next 5 = .ok (.getfield 73, 3) := by decide +kernel
theorem dX5_next_8 : decode cX5_next 8 = .ok (.if_icmp .ge 44, 3) := by decide +kernel
theorem dX5_next_11 : decode cX5_next 11 = .ok (.aload_n 0, 1) := by decide +kernel
theorem dX5_next_12 : decode cX5_next 12 = .ok (.getfield 22, 3) := by decide +kernel
theorem dX5_next_15 : decode cX5_next 15 = .ok (.aload_n 0, 1) := by decide +kernel
theorem dX5_next_16 : decode cX5_next 16 = .ok (.getfield 113, 3) := by decide +kernel
theorem dX5_next_19 : decode cX5_next 19 = .ok (.iaload, 1) := by decide +kernel
theorem dX5_next_20 : decode cX5_next 20 = .ok (.bipush 32, 2) := by decide +kernel
theorem dX5_next_22 : decode cX5_next 22 = .ok (.if_icmp .eq 17, 3) := by decide +kernel
theorem dX5_next_25 : decode cX5_next 25 = .ok (.aload_n 0, 1) := by decide +kernel
theorem dX5_next_26 : decode cX5_next 26 = .ok (.getfield 22, 3) := by decide +kernel
theorem dX5_next_29 : decode cX5_next 29 = .ok (.aload_n 0, 1) := by decide +kernel
theorem dX5_next_30 : decode cX5_next 30 = .ok (.getfield 113, 3) := by decide +kernel
theorem dX5_next_33 : decode cX5_next 33 = .ok (.iaload, 1) := by decide +kernel
theorem dX5_next_34 : decode cX5_next 34 = .ok (.bipush 10, 2) := by decide +kernel
theorem dX5_next_36 : decode cX5_next 36 = .ok (.if_icmp .ne 16, 3) := by decide +kernel
theorem dX5_next_39 : decode cX5_next 39 = .ok (.aload_n 0, 1) := by decide +kernel
theorem dX5_next_40 : decode cX5_next 40 = .ok (.dup, 1) := by decide +kernel
theorem dX5_next_41 : decode cX5_next 41 = .ok (.getfield 113, 3) := by decide +kernel
theorem dX5_next_44 : decode cX5_next 44 = .ok (.iconst 1, 1) := by decide +kernel
theorem dX5_next_45 : decode cX5_next 45 = .ok (.iadd, 1) := by decide +kernel
theorem dX5_next_46 : decode cX5_next 46 = .ok (.putfield 113, 3) := by decide +kernel
theorem dX5_next_49 : decode cX5_next 49 = .ok (.goto (-49), 3) := by decide +kernel
theorem dX5_next_52 : decode cX5_next 52 = .ok (.aload_n 0, 1) := by decide +kernel
theorem dX5_next_53 : decode cX5_next 53 = .ok (.aload_n 0, 1) := by decide +kernel
theorem dX5_next_54 : decode cX5_next 54 = .ok (.getfield 113, 3) := by decide +kernel
theorem dX5_next_57 : decode cX5_next 57 = .ok (.putfield 116, 3) := by decide +kernel
theorem dX5_next_60 : decode cX5_next 60 = .ok (.aload_n 0, 1) := by decide +kernel
theorem dX5_next_61 : decode cX5_next 61 = .ok (.iconst 0, 1) := by decide +kernel
theorem dX5_next_62 : decode cX5_next 62 = .ok (.putfield 119, 3) := by decide +kernel
theorem dX5_next_65 : decode cX5_next 65 = .ok (.aload_n 0, 1) := by decide +kernel
theorem dX5_next_66 : decode cX5_next 66 = .ok (.iconst 0, 1) := by decide +kernel
theorem dX5_next_67 : decode cX5_next 67 = .ok (.putfield 122, 3) := by decide +kernel
theorem dX5_next_70 : decode cX5_next 70 = .ok (.aload_n 0, 1) := by decide +kernel
theorem dX5_next_71 : decode cX5_next 71 = .ok (.getfield 113, 3) := by decide +kernel
theorem dX5_next_74 : decode cX5_next 74 = .ok (.aload_n 0, 1) := by decide +kernel
theorem dX5_next_75 : decode cX5_next 75 = .ok (.getfield 73, 3) := by decide +kernel
theorem dX5_next_78 : decode cX5_next 78 = .ok (.if_icmp .ne 4, 3) := by decide +kernel
theorem dX5_next_81 : decode cX5_next 81 = .ok (.return_, 1) := by decide +kernel
theorem dX5_next_82 : decode cX5_next 82 = .ok (.aload_n 0, 1) := by decide +kernel
theorem dX5_next_83 : decode cX5_next 83 = .ok (.getfield 22, 3) := by decide +kernel
theorem dX5_next_86 : decode cX5_next 86 = .ok (.aload_n 0, 1) := by decide +kernel
theorem dX5_next_87 : decode cX5_next 87 = .ok (.getfield 113, 3) := by decide +kernel
theorem dX5_next_90 : decode cX5_next 90 = .ok (.iaload, 1) := by decide +kernel
theorem dX5_next_91 : decode cX5_next 91 = .ok (.istore_n 1, 1) := by decide +kernel
theorem dX5_next_92 : decode cX5_next 92 = .ok (.iload_n 1, 1) := by decide +kernel
theorem dX5_next_93 : decode cX5_next 93 = .ok (.bipush 97, 2) := by decide +kernel
theorem dX5_next_95 : decode cX5_next 95 = .ok (.bipush 122, 2) := by decide +kernel
theorem dX5_next_97 : decode cX5_next 97 = .ok (.invokestatic 84, 3) := by decide +kernel
theorem dX5_next_100 : decode cX5_next 100 = .ok (.ifCond .eq 117, 3) := by decide +kernel
theorem dX5_next_103 : decode cX5_next 103 = .ok (.aload_n 0, 1) := by decide +kernel
theorem dX5_next_104 : decode cX5_next 104 = .ok (.getfield 113, 3) := by decide +kernel
theorem dX5_next_107 : decode cX5_next 107 = .ok (.aload_n 0, 1) := by decide +kernel
theorem dX5_next_108 : decode cX5_next 108 = .ok (.getfield 73, 3) := by decide +kernel
theorem dX5_next_111 : decode cX5_next 111 = .ok (.if_icmp .ge 35, 3) := by decide +kernel
theorem dX5_next_114 : decode cX5_next 114 = .ok (.aload_n 0, 1) := by decide +kernel
theorem dX5_next_115 : decode cX5_next 115 = .ok (.getfield 22, 3) := by decide +kernel
theorem dX5_next_118 : decode cX5_next 118 = .ok (.aload_n 0, 1) := by decide +kernel
theorem dX5_next_119 : decode cX5_next 119 = .ok (.getfield 113, 3) := by decide +kernel
theorem dX5_next_122 : decode cX5_next 122 = .ok (.iaload, 1) := by decide +kernel
theorem dX5_next_123 : decode cX5_next 123 = .ok (.bipush 97, 2) := by decide +kernel
theorem dX5_next_125 : decode cX5_next 125 = .ok (.bipush 122, 2) := by decide +kernel
theorem dX5_next_127 : decode cX5_next 127 = .ok (.invokestatic 84, 3) := by decide +kernel
theorem dX5_next_130 : decode cX5_next 130 = .ok (.ifCond .eq 16, 3) := by decide +kernel
theorem dX5_next_133 : decode cX5_next 133 = .ok (.aload_n 0, 1) := by decide +kernel
theorem dX5_next_134 : decode cX5_next 134 = .ok (.dup, 1) := by decide +kernel
theorem dX5_next_135 : decode cX5_next 135 = .ok (.getfield 113, 3) := by decide +kernel
theorem dX5_next_138 : decode cX5_next 138 = .ok (.iconst 1, 1) := by decide +kernel
theorem dX5_next_139 : decode cX5_next 139 = .ok (.iadd, 1) := by decide +kernel
theorem dX5_next_140 : decode cX5_next 140 = .ok (.putfield 113, 3) := by decide +kernel
theorem dX5_next_143 : decode cX5_next 143 = .ok (.goto (-40), 3) := by decide +kernel
theorem dX5_next_146 : decode cX5_next 146 = .ok (.aload_n 0, 1) := by decide +kernel
theorem dX5_next_147 : decode cX5_next 147 = .ok (.aload_n 0, 1) := by decide +kernel
theorem dX5_next_148 : decode cX5_next 148 = .ok (.getfield 116, 3) := by decide +kernel
theorem dX5_next_151 : decode cX5_next 151 = .ok (.aload_n 0, 1) := by decide +kernel
theorem dX5_next_152 : decode cX5_next 152 = .ok (.getfield 113, 3) := by decide +kernel
theorem dX5_next_155 : decode cX5_next 155 = .ok (.invokevirtual 125, 3) := by decide +kernel
theorem dX5_next_158 : decode cX5_next 158 = .ok (.istore_n 2, 1) := by decide +kernel
theorem dX5_next_159 : decode cX5_next 159 = .ok (.aload_n 0, 1) := by decide +kernel
theorem dX5_next_160 : decode cX5_next 160 = .ok (.iload_n 2, 1) := by decide +kernel
theorem dX5_next_161 : decode cX5_next 161 = .ok (.iconst 3, 1) := by decide +kernel
theorem dX5_next_162 : decode cX5_next 162 = .ok (.if_icmp .ge 7, 3) := by decide +kernel
theorem dX5_next_165 : decode cX5_next 165 = .ok (.iconst 3, 1) := by decide +kernel
theorem dX5_next_166 : decode cX5_next 166 = .ok (.goto 29, 3) := by decide +kernel
theorem dX5_next_169 : decode cX5_next 169 = .ok (.iload_n 2, 1) := by decide +kernel
theorem dX5_next_170 : decode cX5_next 170 = .ok (.bipush 9, 2) := by decide +kernel
theorem dX5_next_172 : decode cX5_next 172 = .ok (.if_icmp .ge 7, 3) := by decide +kernel
theorem dX5_next_175 : decode cX5_next 175 = .ok (.iconst 2, 1) := by decide +kernel
theorem dX5_next_176 : decode cX5_next 176 = .ok (.goto 19, 3) := by decide +kernel
theorem dX5_next_179 : decode cX5_next 179 = .ok (.iload_n 2, 1) := by decide +kernel
theorem dX5_next_180 : decode cX5_next 180 = .ok (.bipush 12, 2) := by decide +kernel
theorem dX5_next_182 : decode cX5_next 182 = .ok (.if_icmp .ne 7, 3) := by decide +kernel
theorem dX5_next_185 : decode cX5_next 185 = .ok (.iconst (-1), 1) := by decide +kernel
theorem dX5_next_186 : decode cX5_next 186 = .ok (.goto 9, 3) := by decide +kernel
theorem dX5_next_189 : decode cX5_next 189 = .ok (.iconst 4, 1) := by decide +kernel
theorem dX5_next_190 : decode cX5_next 190 = .ok (.iload_n 2, 1) := by decide +kernel
theorem dX5_next_191 : decode cX5_next 191 = .ok (.iadd, 1) := by decide +kernel
theorem dX5_next_192 : decode cX5_next 192 = .ok (.bipush 9, 2) := by decide +kernel
theorem dX5_next_194 : decode cX5_next 194 = .ok (.isub, 1) := by decide +kernel
theorem dX5_next_195 : decode cX5_next 195 = .ok (.putfield 119, 3) := by decide +kernel
theorem dX5_next_198 : decode cX5_next 198 = .ok (.aload_n 0, 1) := by decide +kernel
theorem dX5_next_199 : decode cX5_next 199 = .ok (.iload_n 2, 1) := by decide +kernel
theorem dX5_next_200 : decode cX5_next 200 = .ok (.iconst 3, 1) := by decide +kernel
theorem dX5_next_201 : decode cX5_next 201 = .ok (.if_icmp .ge 7, 3) := by decide +kernel
theorem dX5_next_204 : decode cX5_next 204 = .ok (.iload_n 2, 1) := by decide +kernel
theorem dX5_next_205 : decode cX5_next 205 = .ok (.goto 6, 3) := by decide +kernel
theorem dX5_next_208 : decode cX5_next 208 = .ok (.iload_n 2, 1) := by decide +kernel
theorem dX5_next_209 : decode cX5_next 209 = .ok (.iconst 3, 1) := by decide +kernel
theorem dX5_next_210 : decode cX5_next 210 = .ok (.isub, 1) := by decide +kernel
theorem dX5_next_211 : decode cX5_next 211 = .ok (.putfield 122, 3) := by decide +kernel
theorem dX5_next_214 : decode cX5_next 214 = .ok (.goto 189, 3) := by decide +kernel
theorem dX5_next_217 : decode cX5_next 217 = .ok (.iload_n 1, 1) := by decide +kernel
theorem dX5_next_218 : decode cX5_next 218 = .ok (.bipush 48, 2) := by decide +kernel
theorem dX5_next_220 : decode cX5_next 220 = .ok (.bipush 57, 2) := by decide +kernel
theorem dX5_next_222 : decode cX5_next 222 = .ok (.invokestatic 84, 3) := by decide +kernel
theorem dX5_next_225 : decode cX5_next 225 = .ok (.ifCond .eq 101, 3) := by decide +kernel
theorem dX5_next_228 : decode cX5_next 228 = .ok (.iconst 0, 1) := by decide +kernel
theorem dX5_next_229 : decode cX5_next 229 = .ok (.istore_n 2, 1) := by decide +kernel
theorem dX5_next_230 : decode cX5_next 230 = .ok (.aload_n 0, 1) := by decide +kernel
theorem dX5_next_231 : decode cX5_next 231 = .ok (.getfield 113, 3) := by decide +kernel
theorem dX5_next_234 : decode cX5_next 234 = .ok (.aload_n 0, 1) := by decide +kernel
theorem dX5_next_235 : decode cX5_next 235 = .ok (.getfield 73, 3) := by decide +kernel
theorem dX5_next_238 : decode cX5_next 238 = .ok (.if_icmp .ge 71, 3) := by decide +kernel
theorem dX5_next_241 : decode cX5_next 241 = .ok (.aload_n 0, 1) := by decide +kernel
theorem dX5_next_242 : decode cX5_next 242 = .ok (.getfield 22, 3) := by decide +kernel
theorem dX5_next_245 : decode cX5_next 245 = .ok (.aload_n 0, 1) := by decide +kernel
theorem dX5_next_246 : decode cX5_next 246 = .ok (.getfield 113, 3) := by decide +kernel
theorem dX5_next_249 : decode cX5_next 249 = .ok (.iaload, 1) := by decide +kernel
theorem dX5_next_250 : decode cX5_next 250 = .ok (.bipush 48, 2) := by decide +kernel
theorem dX5_next_252 : decode cX5_next 252 = .ok (.bipush 57, 2) := by decide +kernel
theorem dX5_next_254 : decode cX5_next 254 = .ok (.invokestatic 84, 3) := by decide +kernel
theorem dX5_next_257 : decode cX5_next 257 = .ok (.ifCond .eq 52, 3) := by decide +kernel
theorem dX5_next_260 : decode cX5_next 260 = .ok (.aload_n 0, 1) := by decide +kernel
theorem dX5_next_261 : decode cX5_next 261 = .ok (.iload_n 2, 1) := by decide +kernel
theorem dX5_next_262 : decode cX5_next 262 = .ok (.iconst 4, 1) := by decide +kernel
theorem dX5_next_263 : decode cX5_next 263 = .ok (.if_icmp .ge 26, 3) := by decide +kernel
theorem dX5_next_266 : decode cX5_next 266 = .ok (.bipush 10, 2) := by decide +kernel
theorem dX5_next_268 : decode cX5_next 268 = .ok (.aload_n 0, 1) := by decide +kernel
theorem dX5_next_269 : decode cX5_next 269 = .ok (.getfield 122, 3) := by decide +kernel
theorem dX5_next_272 : decode cX5_next 272 = .ok (.imul, 1) := by decide +kernel
theorem dX5_next_273 : decode cX5_next 273 = .ok (.aload_n 0, 1) := by decide +kernel
theorem dX5_next_274 : decode cX5_next 274 = .ok (.getfield 22, 3) := by decide +kernel
theorem dX5_next_277 : decode cX5_next 277 = .ok (.aload_n 0, 1) := by decide +kernel
theorem dX5_next_278 : decode cX5_next 278 = .ok (.getfield 113, 3) := by decide +kernel
theorem dX5_next_281 : decode cX5_next 281 = .ok (.iaload, 1) := by decide +kernel
theorem dX5_next_282 : decode cX5_next 282 = .ok (.iadd, 1) := by decide +kernel
theorem dX5_next_283 : decode cX5_next 283 = .ok (.bipush 48, 2) := by decide +kernel
theorem dX5_next_285 : decode cX5_next 285 = .ok (.isub, 1) := by decide +kernel
theorem dX5_next_286 : decode cX5_next 286 = .ok (.goto 4, 3) := by decide +kernel
theorem dX5_next_289 : decode cX5_next 289 = .ok (.iconst 0, 1) := by decide +kernel
theorem dX5_next_290 : decode cX5_next 290 = .ok (.putfield 122, 3) := by decide +kernel
theorem dX5_next_293 : decode cX5_next 293 = .ok (.iinc 2 1, 3) := by decide +kernel
theorem dX5_next_296 : decode cX5_next 296 = .ok (.aload_n 0, 1) := by decide +kernel
theorem dX5_next_297 : decode cX5_next 297 = .ok (.dup, 1) := by decide +kernel
theorem dX5_next_298 : decode cX5_next 298 = .ok (.getfield 113, 3) := by decide +kernel
theorem dX5_next_301 : decode cX5_next 301 = .ok (.iconst 1, 1) := by decide +kernel
theorem dX5_next_302 : decode cX5_next 302 = .ok (.iadd, 1) := by decide +kernel
theorem dX5_next_303 : decode cX5_next 303 = .ok (.putfield 113, 3) := by decide +kernel
theorem dX5_next_306 : decode cX5_next 306 = .ok (.goto (-76), 3) := by decide +kernel
theorem dX5_next_309 : decode cX5_next 309 = .ok (.aload_n 0, 1) := by decide +kernel
theorem dX5_next_310 : decode cX5_next 310 = .ok (.iload_n 2, 1) := by decide +kernel
theorem dX5_next_311 : decode cX5_next 311 = .ok (.iconst 4, 1) := by decide +kernel
theorem dX5_next_312 : decode cX5_next 312 = .ok (.if_icmp .le 7, 3) := by decide +kernel
theorem dX5_next_315 : decode cX5_next 315 = .ok (.iconst (-1), 1) := by decide +kernel
theorem dX5_next_316 : decode cX5_next 316 = .ok (.goto 4, 3) := by decide +kernel
theorem dX5_next_319 : decode cX5_next 319 = .ok (.iconst 1, 1) := by decide +kernel
theorem dX5_next_320 : decode cX5_next 320 = .ok (.putfield 119, 3) := by decide +kernel
theorem dX5_next_323 : decode cX5_next 323 = .ok (.goto 80, 3) := by decide +kernel
theorem dX5_next_326 : decode cX5_next 326 = .ok (.iload_n 1, 1) := by decide +kernel
theorem dX5_next_327 : decode cX5_next 327 = .ok (.bipush 40, 2) := by decide +kernel
theorem dX5_next_329 : decode cX5_next 329 = .ok (.if_icmp .eq 45, 3) := by decide +kernel
theorem dX5_next_332 : decode cX5_next 332 = .ok (.iload_n 1, 1) := by decide +kernel
theorem dX5_next_333 : decode cX5_next 333 = .ok (.bipush 41, 2) := by decide +kernel
theorem dX5_next_335 : decode cX5_next 335 = .ok (.if_icmp .eq 39, 3) := by decide +kernel
theorem dX5_next_338 : decode cX5_next 338 = .ok (.iload_n 1, 1) := by decide +kernel
theorem dX5_next_339 : decode cX5_next 339 = .ok (.bipush 59, 2) := by decide +kernel
theorem dX5_next_341 : decode cX5_next 341 = .ok (.if_icmp .eq 33, 3) := by decide +kernel
theorem dX5_next_344 : decode cX5_next 344 = .ok (.iload_n 1, 1) := by decide +kernel
theorem dX5_next_345 : decode cX5_next 345 = .ok (.bipush 43, 2) := by decide +kernel
theorem dX5_next_347 : decode cX5_next 347 = .ok (.if_icmp .eq 27, 3) := by decide +kernel
theorem dX5_next_350 : decode cX5_next 350 = .ok (.iload_n 1, 1) := by decide +kernel
theorem dX5_next_351 : decode cX5_next 351 = .ok (.bipush 45, 2) := by decide +kernel
theorem dX5_next_353 : decode cX5_next 353 = .ok (.if_icmp .eq 21, 3) := by decide +kernel
theorem dX5_next_356 : decode cX5_next 356 = .ok (.iload_n 1, 1) := by decide +kernel
theorem dX5_next_357 : decode cX5_next 357 = .ok (.bipush 42, 2) := by decide +kernel
theorem dX5_next_359 : decode cX5_next 359 = .ok (.if_icmp .eq 15, 3) := by decide +kernel
theorem dX5_next_362 : decode cX5_next 362 = .ok (.iload_n 1, 1) := by decide +kernel
theorem dX5_next_363 : decode cX5_next 363 = .ok (.bipush 60, 2) := by decide +kernel
theorem dX5_next_365 : decode cX5_next 365 = .ok (.if_icmp .eq 9, 3) := by decide +kernel
theorem dX5_next_368 : decode cX5_next 368 = .ok (.iload_n 1, 1) := by decide +kernel
theorem dX5_next_369 : decode cX5_next 369 = .ok (.bipush 61, 2) := by decide +kernel
theorem dX5_next_371 : decode cX5_next 371 = .ok (.if_icmp .ne 7, 3) := by decide +kernel
theorem dX5_next_374 : decode cX5_next 374 = .ok (.iconst 1, 1) := by decide +kernel
theorem dX5_next_375 : decode cX5_next 375 = .ok (.goto 4, 3) := by decide +kernel
theorem dX5_next_378 : decode cX5_next 378 = .ok (.iconst 0, 1) := by decide +kernel
theorem dX5_next_379 : decode cX5_next 379 = .ok (.istore_n 2, 1) := by decide +kernel
theorem dX5_next_380 : decode cX5_next 380 = .ok (.aload_n 0, 1) := by decide +kernel
theorem dX5_next_381 : decode cX5_next 381 = .ok (.iload_n 2, 1) := by decide +kernel
theorem dX5_next_382 : decode cX5_next 382 = .ok (.ifCond .eq 7, 3) := by decide +kernel
theorem dX5_next_385 : decode cX5_next 385 = .ok (.iload_n 1, 1) := by decide +kernel
theorem dX5_next_386 : decode cX5_next 386 = .ok (.goto 4, 3) := by decide +kernel
theorem dX5_next_389 : decode cX5_next 389 = .ok (.iconst (-1), 1) := by decide +kernel
theorem dX5_next_390 : decode cX5_next 390 = .ok (.putfield 119, 3) := by decide +kernel
theorem dX5_next_393 : decode cX5_next 393 = .ok (.aload_n 0, 1) := by decide +kernel
theorem dX5_next_394 : decode cX5_next 394 = .ok (.dup, 1) := by decide +kernel
theorem dX5_next_395 : decode cX5_next 395 = .ok (.getfield 113, 3) := by decide +kernel
theorem dX5_next_398 : decode cX5_next 398 = .ok (.iconst 1, 1) := by decide +kernel
theorem dX5_next_399 : decode cX5_next 399 = .ok (.iadd, 1) := by decide +kernel
theorem dX5_next_400 : decode cX5_next 400 = .ok (.putfield 113, 3) := by decide +kernel
theorem dX5_next_403 : decode cX5_next 403 = .ok (.return_, 1) := by decide +kernel
theorem dX5_rank_0 : decode cX5_rank 0 = .ok (.iload_n 0, 1) := by decide +kernel
theorem dX5_rank_1 : decode cX5_rank 1 = .ok (.ifCond .ne 7, 3) := by decide +kernel
theorem dX5_rank_4 : decode cX5_rank 4 = .ok (.iconst 0, 1) := by decide +kernel
theorem dX5_rank_5 : decode cX5_rank 5 = .ok (.goto 66, 3) := by decide +kernel
theorem dX5_rank_8 : decode cX5_rank 8 = .ok (.iload_n 0, 1) := by decide +kernel
theorem dX5_rank_9 : decode cX5_rank 9 = .ok (.bipush 11, 2) := by decide +kernel
theorem dX5_rank_11 : decode cX5_rank 11 = .ok (.if_icmp .ne 7, 3) := by decide +kernel
theorem dX5_rank_14 : decode cX5_rank 14 = .ok (.iconst 1, 1) := by decide +kernel
theorem dX5_rank_15 : decode cX5_rank 15 = .ok (.goto 56, 3) := by decide +kernel
theorem dX5_rank_18 : decode cX5_rank 18 = .ok (.iload_n 0, 1) := by decide +kernel
theorem dX5_rank_19 : decode cX5_rank 19 = .ok (.bipush 12, 2) := by decide +kernel
theorem dX5_rank_21 : decode cX5_rank 21 = .ok (.if_icmp .ne 7, 3) := by decide +kernel
theorem dX5_rank_24 : decode cX5_rank 24 = .ok (.iconst 2, 1) := by decide +kernel
theorem dX5_rank_25 : decode cX5_rank 25 = .ok (.goto 46, 3) := by decide +kernel
theorem dX5_rank_28 : decode cX5_rank 28 = .ok (.iload_n 0, 1) := by decide +kernel
theorem dX5_rank_29 : decode cX5_rank 29 = .ok (.bipush 13, 2) := by decide +kernel
theorem dX5_rank_31 : decode cX5_rank 31 = .ok (.if_icmp .ne 7, 3) := by decide +kernel
theorem dX5_rank_34 : decode cX5_rank 34 = .ok (.iconst 3, 1) := by decide +kernel
theorem dX5_rank_35 : decode cX5_rank 35 = .ok (.goto 36, 3) := by decide +kernel
theorem dX5_rank_38 : decode cX5_rank 38 = .ok (.iload_n 0, 1) := by decide +kernel
theorem dX5_rank_39 : decode cX5_rank 39 = .ok (.bipush 15, 2) := by decide +kernel
theorem dX5_rank_41 : decode cX5_rank 41 = .ok (.if_icmp .gt 7, 3) := by decide +kernel
theorem dX5_rank_44 : decode cX5_rank 44 = .ok (.iconst 4, 1) := by decide +kernel
theorem dX5_rank_45 : decode cX5_rank 45 = .ok (.goto 26, 3) := by decide +kernel
theorem dX5_rank_48 : decode cX5_rank 48 = .ok (.iload_n 0, 1) := by decide +kernel
theorem dX5_rank_49 : decode cX5_rank 49 = .ok (.bipush 17, 2) := by decide +kernel
theorem dX5_rank_51 : decode cX5_rank 51 = .ok (.if_icmp .gt 7, 3) := by decide +kernel
theorem dX5_rank_54 : decode cX5_rank 54 = .ok (.iconst 5, 1) := by decide +kernel
theorem dX5_rank_55 : decode cX5_rank 55 = .ok (.goto 16, 3) := by decide +kernel
theorem dX5_rank_58 : decode cX5_rank 58 = .ok (.iload_n 0, 1) := by decide +kernel
theorem dX5_rank_59 : decode cX5_rank 59 = .ok (.bipush 18, 2) := by decide +kernel
theorem dX5_rank_61 : decode cX5_rank 61 = .ok (.if_icmp .ne 8, 3) := by decide +kernel
theorem dX5_rank_64 : decode cX5_rank 64 = .ok (.bipush 6, 2) := by decide +kernel
theorem dX5_rank_66 : decode cX5_rank 66 = .ok (.goto 5, 3) := by decide +kernel
theorem dX5_rank_69 : decode cX5_rank 69 = .ok (.bipush 7, 2) := by decide +kernel
theorem dX5_rank_71 : decode cX5_rank 71 = .ok (.ireturn, 1) := by decide +kernel
theorem dX5_puts_0 : decode cX5_puts 0 = .ok (.aload_n 0, 1) := by decide +kernel
theorem dX5_puts_1 : decode cX5_puts 1 = .ok (.getfield 25, 3) := by decide +kernel
theorem dX5_puts_4 : decode cX5_puts 4 = .ok (.sipush 200, 3) := by decide +kernel
theorem dX5_puts_7 : decode cX5_puts 7 = .ok (.aload_n 0, 1) := by decide +kernel
theorem dX5_puts_8 : decode cX5_puts 8 = .ok (.getfield 94, 3) := by decide +kernel
theorem dX5_puts_11 : decode cX5_puts 11 = .ok (.imul, 1) := by decide +kernel
theorem dX5_puts_12 : decode cX5_puts 12 = .ok (.aload_n 0, 1) := by decide +kernel
theorem dX5_puts_13 : decode cX5_puts 13 = .ok (.getfield 129, 3) := by decide +kernel
theorem dX5_puts_16 : decode cX5_puts 16 = .ok (.iadd, 1) := by decide +kernel
theorem dX5_puts_17 : decode cX5_puts 17 = .ok (.iload_n 1, 1) := by decide +kernel
theorem dX5_puts_18 : decode cX5_puts 18 = .ok (.iastore, 1) := by decide +kernel
theorem dX5_puts_19 : decode cX5_puts 19 = .ok (.aload_n 0, 1) := by decide +kernel
theorem dX5_puts_20 : decode cX5_puts 20 = .ok (.dup, 1) := by decide +kernel
theorem dX5_puts_21 : decode cX5_puts 21 = .ok (.getfield 129, 3) := by decide +kernel
theorem dX5_puts_24 : decode cX5_puts 24 = .ok (.iconst 1, 1) := by decide +kernel
theorem dX5_puts_25 : decode cX5_puts 25 = .ok (.iadd, 1) := by decide +kernel
theorem dX5_puts_26 : decode cX5_puts 26 = .ok (.putfield 129, 3) := by decide +kernel
theorem dX5_puts_29 : decode cX5_puts 29 = .ok (.return_, 1) := by decide +kernel
theorem dX5_unwinds_0 : decode cX5_unwinds 0 = .ok (.aload_n 0, 1) := by decide +kernel
theorem dX5_unwinds_1 : decode cX5_unwinds 1 = .ok (.getfield 132, 3) := by decide +kernel
theorem dX5_unwinds_4 : decode cX5_unwinds 4 = .ok (.ifCond .le 75, 3) := by decide +kernel
theorem dX5_unwinds_7 : decode cX5_unwinds 7 = .ok (.aload_n 0, 1) := by decide +kernel
theorem dX5_unwinds_8 : decode cX5_unwinds 8 = .ok (.getfield 52, 3) := by decide +kernel
theorem dX5_unwinds_11 : decode cX5_unwinds 11 = .ok (.aload_n 0, 1) := by decide +kernel
theorem dX5_unwinds_12 : decode cX5_unwinds 12 = .ok (.getfield 132, 3) := by decide +kernel
theorem dX5_unwinds_15 : decode cX5_unwinds 15 = .ok (.iconst 1, 1) := by decide +kernel
theorem dX5_unwinds_16 : decode cX5_unwinds 16 = .ok (.isub, 1) := by decide +kernel
theorem dX5_unwinds_17 : decode cX5_unwinds 17 = .ok (.iaload, 1) := by decide +kernel
theorem dX5_unwinds_18 : decode cX5_unwinds 18 = .ok (.invokestatic 135, 3) := by decide +kernel
theorem dX5_unwinds_21 : decode cX5_unwinds 21 = .ok (.iload_n 1, 1) := by decide +kernel
theorem dX5_unwinds_22 : decode cX5_unwinds 22 = .ok (.if_icmp .lt 57, 3) := by decide +kernel
theorem dX5_unwinds_25 : decode cX5_unwinds 25 = .ok (.aload_n 0, 1) := by decide +kernel
theorem dX5_unwinds_26 : decode cX5_unwinds 26 = .ok (.dup, 1) := by decide +kernel
theorem dX5_unwinds_27 : decode cX5_unwinds 27 = .ok (.getfield 132, 3) := by decide +kernel
theorem dX5_unwinds_30 : decode cX5_unwinds 30 = .ok (.iconst 1, 1) := by decide +kernel
theorem dX5_unwinds_31 : decode cX5_unwinds 31 = .ok (.isub, 1) := by decide +kernel
theorem dX5_unwinds_32 : decode cX5_unwinds 32 = .ok (.putfield 132, 3) := by decide +kernel
theorem dX5_unwinds_35 : decode cX5_unwinds 35 = .ok (.aload_n 0, 1) := by decide +kernel
theorem dX5_unwinds_36 : decode cX5_unwinds 36 = .ok (.getfield 52, 3) := by decide +kernel
theorem dX5_unwinds_39 : decode cX5_unwinds 39 = .ok (.aload_n 0, 1) := by decide +kernel
theorem dX5_unwinds_40 : decode cX5_unwinds 40 = .ok (.getfield 132, 3) := by decide +kernel
theorem dX5_unwinds_43 : decode cX5_unwinds 43 = .ok (.iaload, 1) := by decide +kernel
theorem dX5_unwinds_44 : decode cX5_unwinds 44 = .ok (.istore_n 2, 1) := by decide +kernel
theorem dX5_unwinds_45 : decode cX5_unwinds 45 = .ok (.aload_n 0, 1) := by decide +kernel
theorem dX5_unwinds_46 : decode cX5_unwinds 46 = .ok (.dup, 1) := by decide +kernel
theorem dX5_unwinds_47 : decode cX5_unwinds 47 = .ok (.getfield 139, 3) := by decide +kernel
theorem dX5_unwinds_50 : decode cX5_unwinds 50 = .ok (.iload_n 2, 1) := by decide +kernel
theorem dX5_unwinds_51 : decode cX5_unwinds 51 = .ok (.bipush 13, 2) := by decide +kernel
theorem dX5_unwinds_53 : decode cX5_unwinds 53 = .ok (.if_icmp .eq 9, 3) := by decide +kernel
theorem dX5_unwinds_56 : decode cX5_unwinds 56 = .ok (.iload_n 2, 1) := by decide +kernel
theorem dX5_unwinds_57 : decode cX5_unwinds 57 = .ok (.bipush 19, 2) := by decide +kernel
theorem dX5_unwinds_59 : decode cX5_unwinds 59 = .ok (.if_icmp .ne 7, 3) := by decide +kernel
theorem dX5_unwinds_62 : decode cX5_unwinds 62 = .ok (.iconst 1, 1) := by decide +kernel
theorem dX5_unwinds_63 : decode cX5_unwinds 63 = .ok (.goto 4, 3) := by decide +kernel
theorem dX5_unwinds_66 : decode cX5_unwinds 66 = .ok (.iconst 0, 1) := by decide +kernel
theorem dX5_unwinds_67 : decode cX5_unwinds 67 = .ok (.isub, 1) := by decide +kernel
theorem dX5_unwinds_68 : decode cX5_unwinds 68 = .ok (.putfield 139, 3) := by decide +kernel
theorem dX5_unwinds_71 : decode cX5_unwinds 71 = .ok (.aload_n 0, 1) := by decide +kernel
theorem dX5_unwinds_72 : decode cX5_unwinds 72 = .ok (.iload_n 2, 1) := by decide +kernel
theorem dX5_unwinds_73 : decode cX5_unwinds 73 = .ok (.invokevirtual 142, 3) := by decide +kernel
theorem dX5_unwinds_76 : decode cX5_unwinds 76 = .ok (.goto (-76), 3) := by decide +kernel
theorem dX5_unwinds_79 : decode cX5_unwinds 79 = .ok (.return_, 1) := by decide +kernel
theorem dX5_holds_0 : decode cX5_holds 0 = .ok (.aload_n 0, 1) := by decide +kernel
theorem dX5_holds_1 : decode cX5_holds 1 = .ok (.getfield 52, 3) := by decide +kernel
theorem dX5_holds_4 : decode cX5_holds 4 = .ok (.aload_n 0, 1) := by decide +kernel
theorem dX5_holds_5 : decode cX5_holds 5 = .ok (.getfield 132, 3) := by decide +kernel
theorem dX5_holds_8 : decode cX5_holds 8 = .ok (.iload_n 1, 1) := by decide +kernel
theorem dX5_holds_9 : decode cX5_holds 9 = .ok (.iastore, 1) := by decide +kernel
theorem dX5_holds_10 : decode cX5_holds 10 = .ok (.aload_n 0, 1) := by decide +kernel
theorem dX5_holds_11 : decode cX5_holds 11 = .ok (.dup, 1) := by decide +kernel
theorem dX5_holds_12 : decode cX5_holds 12 = .ok (.getfield 132, 3) := by decide +kernel
theorem dX5_holds_15 : decode cX5_holds 15 = .ok (.iconst 1, 1) := by decide +kernel
theorem dX5_holds_16 : decode cX5_holds 16 = .ok (.iadd, 1) := by decide +kernel
theorem dX5_holds_17 : decode cX5_holds 17 = .ok (.putfield 132, 3) := by decide +kernel
theorem dX5_holds_20 : decode cX5_holds 20 = .ok (.return_, 1) := by decide +kernel
theorem dX5_opensOne_0 : decode cX5_opensOne 0 = .ok (.aload_n 0, 1) := by decide +kernel
theorem dX5_opensOne_1 : decode cX5_opensOne 1 = .ok (.getfield 139, 3) := by decide +kernel
theorem dX5_opensOne_4 : decode cX5_opensOne 4 = .ok (.iconst 5, 1) := by decide +kernel
theorem dX5_opensOne_5 : decode cX5_opensOne 5 = .ok (.if_icmp .ne 5, 3) := by decide +kernel
theorem dX5_opensOne_8 : decode cX5_opensOne 8 = .ok (.iconst 0, 1) := by decide +kernel
theorem dX5_opensOne_9 : decode cX5_opensOne 9 = .ok (.ireturn, 1) := by decide +kernel
theorem dX5_opensOne_10 : decode cX5_opensOne 10 = .ok (.aload_n 0, 1) := by decide +kernel
theorem dX5_opensOne_11 : decode cX5_opensOne 11 = .ok (.dup, 1) := by decide +kernel
theorem dX5_opensOne_12 : decode cX5_opensOne 12 = .ok (.getfield 139, 3) := by decide +kernel
theorem dX5_opensOne_15 : decode cX5_opensOne 15 = .ok (.iconst 1, 1) := by decide +kernel
theorem dX5_opensOne_16 : decode cX5_opensOne 16 = .ok (.iadd, 1) := by decide +kernel
theorem dX5_opensOne_17 : decode cX5_opensOne 17 = .ok (.putfield 139, 3) := by decide +kernel
theorem dX5_opensOne_20 : decode cX5_opensOne 20 = .ok (.aload_n 0, 1) := by decide +kernel
theorem dX5_opensOne_21 : decode cX5_opensOne 21 = .ok (.iload_n 1, 1) := by decide +kernel
theorem dX5_opensOne_22 : decode cX5_opensOne 22 = .ok (.invokevirtual 146, 3) := by decide +kernel
theorem dX5_opensOne_25 : decode cX5_opensOne 25 = .ok (.iconst 1, 1) := by decide +kernel
theorem dX5_opensOne_26 : decode cX5_opensOne 26 = .ok (.ireturn, 1) := by decide +kernel
theorem dX5_between_0 : decode cX5_between 0 = .ok (.aload_n 0, 1) := by decide +kernel
theorem dX5_between_1 : decode cX5_between 1 = .ok (.iload_n 1, 1) := by decide +kernel
theorem dX5_between_2 : decode cX5_between 2 = .ok (.invokestatic 135, 3) := by decide +kernel
theorem dX5_between_5 : decode cX5_between 5 = .ok (.iconst 4, 1) := by decide +kernel
theorem dX5_between_6 : decode cX5_between 6 = .ok (.if_icmp .ne 7, 3) := by decide +kernel
theorem dX5_between_9 : decode cX5_between 9 = .ok (.iconst 5, 1) := by decide +kernel
theorem dX5_between_10 : decode cX5_between 10 = .ok (.goto 7, 3) := by decide +kernel
theorem dX5_between_13 : decode cX5_between 13 = .ok (.iload_n 1, 1) := by decide +kernel
theorem dX5_between_14 : decode cX5_between 14 = .ok (.invokestatic 135, 3) := by decide +kernel
theorem dX5_between_17 : decode cX5_between 17 = .ok (.invokevirtual 149, 3) := by decide +kernel
theorem dX5_between_20 : decode cX5_between 20 = .ok (.iload_n 1, 1) := by decide +kernel
theorem dX5_between_21 : decode cX5_between 21 = .ok (.invokestatic 135, 3) := by decide +kernel
theorem dX5_between_24 : decode cX5_between 24 = .ok (.iconst 4, 1) := by decide +kernel
theorem dX5_between_25 : decode cX5_between 25 = .ok (.if_icmp .ne 30, 3) := by decide +kernel
theorem dX5_between_28 : decode cX5_between 28 = .ok (.aload_n 0, 1) := by decide +kernel
theorem dX5_between_29 : decode cX5_between 29 = .ok (.getfield 132, 3) := by decide +kernel
theorem dX5_between_32 : decode cX5_between 32 = .ok (.ifCond .le 23, 3) := by decide +kernel
theorem dX5_between_35 : decode cX5_between 35 = .ok (.aload_n 0, 1) := by decide +kernel
theorem dX5_between_36 : decode cX5_between 36 = .ok (.getfield 52, 3) := by decide +kernel
theorem dX5_between_39 : decode cX5_between 39 = .ok (.aload_n 0, 1) := by decide +kernel
theorem dX5_between_40 : decode cX5_between 40 = .ok (.getfield 132, 3) := by decide +kernel
theorem dX5_between_43 : decode cX5_between 43 = .ok (.iconst 1, 1) := by decide +kernel
theorem dX5_between_44 : decode cX5_between 44 = .ok (.isub, 1) := by decide +kernel
theorem dX5_between_45 : decode cX5_between 45 = .ok (.iaload, 1) := by decide +kernel
theorem dX5_between_46 : decode cX5_between 46 = .ok (.invokestatic 135, 3) := by decide +kernel
theorem dX5_between_49 : decode cX5_between 49 = .ok (.iconst 4, 1) := by decide +kernel
theorem dX5_between_50 : decode cX5_between 50 = .ok (.if_icmp .ne 5, 3) := by decide +kernel
theorem dX5_between_53 : decode cX5_between 53 = .ok (.iconst 0, 1) := by decide +kernel
theorem dX5_between_54 : decode cX5_between 54 = .ok (.ireturn, 1) := by decide +kernel
theorem dX5_between_55 : decode cX5_between 55 = .ok (.aload_n 0, 1) := by decide +kernel
theorem dX5_between_56 : decode cX5_between 56 = .ok (.iload_n 1, 1) := by decide +kernel
theorem dX5_between_57 : decode cX5_between 57 = .ok (.invokevirtual 146, 3) := by decide +kernel
theorem dX5_between_60 : decode cX5_between 60 = .ok (.iconst 1, 1) := by decide +kernel
theorem dX5_between_61 : decode cX5_between 61 = .ok (.ireturn, 1) := by decide +kernel
theorem dX5_signOf_0 : decode cX5_signOf 0 = .ok (.aload_n 0, 1) := by decide +kernel
theorem dX5_signOf_1 : decode cX5_signOf 1 = .ok (.getfield 119, 3) := by decide +kernel
theorem dX5_signOf_4 : decode cX5_signOf 4 = .ok (.iconst 4, 1) := by decide +kernel
theorem dX5_signOf_5 : decode cX5_signOf 5 = .ok (.if_icmp .ne 8, 3) := by decide +kernel
theorem dX5_signOf_8 : decode cX5_signOf 8 = .ok (.bipush 11, 2) := by decide +kernel
theorem dX5_signOf_10 : decode cX5_signOf 10 = .ok (.goto 87, 3) := by decide +kernel
theorem dX5_signOf_13 : decode cX5_signOf 13 = .ok (.aload_n 0, 1) := by decide +kernel
theorem dX5_signOf_14 : decode cX5_signOf 14 = .ok (.getfield 119, 3) := by decide +kernel
theorem dX5_signOf_17 : decode cX5_signOf 17 = .ok (.iconst 5, 1) := by decide +kernel
theorem dX5_signOf_18 : decode cX5_signOf 18 = .ok (.if_icmp .ne 8, 3) := by decide +kernel
theorem dX5_signOf_21 : decode cX5_signOf 21 = .ok (.bipush 12, 2) := by decide +kernel
theorem dX5_signOf_23 : decode cX5_signOf 23 = .ok (.goto 74, 3) := by decide +kernel
theorem dX5_signOf_26 : decode cX5_signOf 26 = .ok (.aload_n 0, 1) := by decide +kernel
theorem dX5_signOf_27 : decode cX5_signOf 27 = .ok (.getfield 119, 3) := by decide +kernel
theorem dX5_signOf_30 : decode cX5_signOf 30 = .ok (.bipush 60, 2) := by decide +kernel
theorem dX5_signOf_32 : decode cX5_signOf 32 = .ok (.if_icmp .ne 8, 3) := by decide +kernel
theorem dX5_signOf_35 : decode cX5_signOf 35 = .ok (.bipush 14, 2) := by decide +kernel
theorem dX5_signOf_37 : decode cX5_signOf 37 = .ok (.goto 60, 3) := by decide +kernel
theorem dX5_signOf_40 : decode cX5_signOf 40 = .ok (.aload_n 0, 1) := by decide +kernel
theorem dX5_signOf_41 : decode cX5_signOf 41 = .ok (.getfield 119, 3) := by decide +kernel
theorem dX5_signOf_44 : decode cX5_signOf 44 = .ok (.bipush 61, 2) := by decide +kernel
theorem dX5_signOf_46 : decode cX5_signOf 46 = .ok (.if_icmp .ne 8, 3) := by decide +kernel
theorem dX5_signOf_49 : decode cX5_signOf 49 = .ok (.bipush 15, 2) := by decide +kernel
theorem dX5_signOf_51 : decode cX5_signOf 51 = .ok (.goto 46, 3) := by decide +kernel
theorem dX5_signOf_54 : decode cX5_signOf 54 = .ok (.aload_n 0, 1) := by decide +kernel
theorem dX5_signOf_55 : decode cX5_signOf 55 = .ok (.getfield 119, 3) := by decide +kernel
theorem dX5_signOf_58 : decode cX5_signOf 58 = .ok (.bipush 43, 2) := by decide +kernel
theorem dX5_signOf_60 : decode cX5_signOf 60 = .ok (.if_icmp .ne 8, 3) := by decide +kernel
theorem dX5_signOf_63 : decode cX5_signOf 63 = .ok (.bipush 16, 2) := by decide +kernel
theorem dX5_signOf_65 : decode cX5_signOf 65 = .ok (.goto 32, 3) := by decide +kernel
theorem dX5_signOf_68 : decode cX5_signOf 68 = .ok (.aload_n 0, 1) := by decide +kernel
theorem dX5_signOf_69 : decode cX5_signOf 69 = .ok (.getfield 119, 3) := by decide +kernel
theorem dX5_signOf_72 : decode cX5_signOf 72 = .ok (.bipush 45, 2) := by decide +kernel
theorem dX5_signOf_74 : decode cX5_signOf 74 = .ok (.if_icmp .ne 8, 3) := by decide +kernel
theorem dX5_signOf_77 : decode cX5_signOf 77 = .ok (.bipush 17, 2) := by decide +kernel
theorem dX5_signOf_79 : decode cX5_signOf 79 = .ok (.goto 18, 3) := by decide +kernel
theorem dX5_signOf_82 : decode cX5_signOf 82 = .ok (.aload_n 0, 1) := by decide +kernel
theorem dX5_signOf_83 : decode cX5_signOf 83 = .ok (.getfield 119, 3) := by decide +kernel
theorem dX5_signOf_86 : decode cX5_signOf 86 = .ok (.bipush 42, 2) := by decide +kernel
theorem dX5_signOf_88 : decode cX5_signOf 88 = .ok (.if_icmp .ne 8, 3) := by decide +kernel
theorem dX5_signOf_91 : decode cX5_signOf 91 = .ok (.bipush 18, 2) := by decide +kernel
theorem dX5_signOf_93 : decode cX5_signOf 93 = .ok (.goto 4, 3) := by decide +kernel
theorem dX5_signOf_96 : decode cX5_signOf 96 = .ok (.iconst (-1), 1) := by decide +kernel
theorem dX5_signOf_97 : decode cX5_signOf 97 = .ok (.ireturn, 1) := by decide +kernel
theorem dX5_eRead_0 : decode cX5_eRead 0 = .ok (.aload_n 0, 1) := by decide +kernel
theorem dX5_eRead_1 : decode cX5_eRead 1 = .ok (.iconst 0, 1) := by decide +kernel
theorem dX5_eRead_2 : decode cX5_eRead 2 = .ok (.putfield 132, 3) := by decide +kernel
theorem dX5_eRead_5 : decode cX5_eRead 5 = .ok (.aload_n 0, 1) := by decide +kernel
theorem dX5_eRead_6 : decode cX5_eRead 6 = .ok (.iconst 0, 1) := by decide +kernel
theorem dX5_eRead_7 : decode cX5_eRead 7 = .ok (.putfield 139, 3) := by decide +kernel
theorem dX5_eRead_10 : decode cX5_eRead 10 = .ok (.iconst 1, 1) := by decide +kernel
theorem dX5_eRead_11 : decode cX5_eRead 11 = .ok (.istore_n 1, 1) := by decide +kernel
theorem dX5_eRead_12 : decode cX5_eRead 12 = .ok (.iconst 1, 1) := by decide +kernel
theorem dX5_eRead_13 : decode cX5_eRead 13 = .ok (.istore_n 2, 1) := by decide +kernel
theorem dX5_eRead_14 : decode cX5_eRead 14 = .ok (.aload_n 0, 1) := by decide +kernel
theorem dX5_eRead_15 : decode cX5_eRead 15 = .ok (.invokevirtual 152, 3) := by decide +kernel
theorem dX5_eRead_18 : decode cX5_eRead 18 = .ok (.iload_n 1, 1) := by decide +kernel
theorem dX5_eRead_19 : decode cX5_eRead 19 = .ok (.ifCond .eq 131, 3) := by decide +kernel
theorem dX5_eRead_22 : decode cX5_eRead 22 = .ok (.aload_n 0, 1) := by decide +kernel
theorem dX5_eRead_23 : decode cX5_eRead 23 = .ok (.getfield 119, 3) := by decide +kernel
theorem dX5_eRead_26 : decode cX5_eRead 26 = .ok (.iconst 1, 1) := by decide +kernel
theorem dX5_eRead_27 : decode cX5_eRead 27 = .ok (.if_icmp .eq 11, 3) := by decide +kernel
theorem dX5_eRead_30 : decode cX5_eRead 30 = .ok (.aload_n 0, 1) := by decide +kernel
theorem dX5_eRead_31 : decode cX5_eRead 31 = .ok (.getfield 119, 3) := by decide +kernel
theorem dX5_eRead_34 : decode cX5_eRead 34 = .ok (.iconst 2, 1) := by decide +kernel
theorem dX5_eRead_35 : decode cX5_eRead 35 = .ok (.if_icmp .ne 40, 3) := by decide +kernel
theorem dX5_eRead_38 : decode cX5_eRead 38 = .ok (.aload_n 0, 1) := by decide +kernel
theorem dX5_eRead_39 : decode cX5_eRead 39 = .ok (.aload_n 0, 1) := by decide +kernel
theorem dX5_eRead_40 : decode cX5_eRead 40 = .ok (.getfield 119, 3) := by decide +kernel
theorem dX5_eRead_43 : decode cX5_eRead 43 = .ok (.iconst 1, 1) := by decide +kernel
theorem dX5_eRead_44 : decode cX5_eRead 44 = .ok (.if_icmp .ne 13, 3) := by decide +kernel
theorem dX5_eRead_47 : decode cX5_eRead 47 = .ok (.ldc 155, 2) := by decide +kernel
theorem dX5_eRead_49 : decode cX5_eRead 49 = .ok (.aload_n 0, 1) := by decide +kernel
theorem dX5_eRead_50 : decode cX5_eRead 50 = .ok (.getfield 122, 3) := by decide +kernel
theorem dX5_eRead_53 : decode cX5_eRead 53 = .ok (.iadd, 1) := by decide +kernel
theorem dX5_eRead_54 : decode cX5_eRead 54 = .ok (.goto 7, 3) := by decide +kernel
theorem dX5_eRead_57 : decode cX5_eRead 57 = .ok (.aload_n 0, 1) := by decide +kernel
theorem dX5_eRead_58 : decode cX5_eRead 58 = .ok (.getfield 122, 3) := by decide +kernel
theorem dX5_eRead_61 : decode cX5_eRead 61 = .ok (.invokevirtual 142, 3) := by decide +kernel
theorem dX5_eRead_64 : decode cX5_eRead 64 = .ok (.aload_n 0, 1) := by decide +kernel
theorem dX5_eRead_65 : decode cX5_eRead 65 = .ok (.bipush 7, 2) := by decide +kernel
theorem dX5_eRead_67 : decode cX5_eRead 67 = .ok (.invokevirtual 149, 3) := by decide +kernel
theorem dX5_eRead_70 : decode cX5_eRead 70 = .ok (.iconst 0, 1) := by decide +kernel
theorem dX5_eRead_71 : decode cX5_eRead 71 = .ok (.istore_n 1, 1) := by decide +kernel
theorem dX5_eRead_72 : decode cX5_eRead 72 = .ok (.goto (-58), 3) := by decide +kernel
theorem dX5_eRead_75 : decode cX5_eRead 75 = .ok (.aload_n 0, 1) := by decide +kernel
theorem dX5_eRead_76 : decode cX5_eRead 76 = .ok (.getfield 119, 3) := by decide +kernel
theorem dX5_eRead_79 : decode cX5_eRead 79 = .ok (.bipush 6, 2) := by decide +kernel
theorem dX5_eRead_81 : decode cX5_eRead 81 = .ok (.if_icmp .ne 18, 3) := by decide +kernel
theorem dX5_eRead_84 : decode cX5_eRead 84 = .ok (.iload_n 2, 1) := by decide +kernel
theorem dX5_eRead_85 : decode cX5_eRead 85 = .ok (.ifCond .eq 14, 3) := by decide +kernel
theorem dX5_eRead_88 : decode cX5_eRead 88 = .ok (.aload_n 0, 1) := by decide +kernel
theorem dX5_eRead_89 : decode cX5_eRead 89 = .ok (.bipush 13, 2) := by decide +kernel
theorem dX5_eRead_91 : decode cX5_eRead 91 = .ok (.invokevirtual 156, 3) := by decide +kernel
theorem dX5_eRead_94 : decode cX5_eRead 94 = .ok (.ifCond .ne (-80), 3) := by decide +kernel
theorem dX5_eRead_97 : decode cX5_eRead 97 = .ok (.iconst 0, 1) := by decide +kernel
theorem dX5_eRead_98 : decode cX5_eRead 98 = .ok (.ireturn, 1) := by decide +kernel
theorem dX5_eRead_99 : decode cX5_eRead 99 = .ok (.aload_n 0, 1) := by decide +kernel
theorem dX5_eRead_100 : decode cX5_eRead 100 = .ok (.getfield 119, 3) := by decide +kernel
theorem dX5_eRead_103 : decode cX5_eRead 103 = .ok (.bipush 45, 2) := by decide +kernel
theorem dX5_eRead_105 : decode cX5_eRead 105 = .ok (.if_icmp .ne 19, 3) := by decide +kernel
theorem dX5_eRead_108 : decode cX5_eRead 108 = .ok (.aload_n 0, 1) := by decide +kernel
theorem dX5_eRead_109 : decode cX5_eRead 109 = .ok (.bipush 19, 2) := by decide +kernel
theorem dX5_eRead_111 : decode cX5_eRead 111 = .ok (.invokevirtual 156, 3) := by decide +kernel
theorem dX5_eRead_114 : decode cX5_eRead 114 = .ok (.ifCond .ne 5, 3) := by decide +kernel
theorem dX5_eRead_117 : decode cX5_eRead 117 = .ok (.iconst 0, 1) := by decide +kernel
theorem dX5_eRead_118 : decode cX5_eRead 118 = .ok (.ireturn, 1) := by decide +kernel
theorem dX5_eRead_119 : decode cX5_eRead 119 = .ok (.iconst 0, 1) := by decide +kernel
theorem dX5_eRead_120 : decode cX5_eRead 120 = .ok (.istore_n 2, 1) := by decide +kernel
theorem dX5_eRead_121 : decode cX5_eRead 121 = .ok (.goto (-107), 3) := by decide +kernel
theorem dX5_eRead_124 : decode cX5_eRead 124 = .ok (.aload_n 0, 1) := by decide +kernel
theorem dX5_eRead_125 : decode cX5_eRead 125 = .ok (.getfield 119, 3) := by decide +kernel
theorem dX5_eRead_128 : decode cX5_eRead 128 = .ok (.bipush 40, 2) := by decide +kernel
theorem dX5_eRead_130 : decode cX5_eRead 130 = .ok (.if_icmp .ne 18, 3) := by decide +kernel
theorem dX5_eRead_133 : decode cX5_eRead 133 = .ok (.aload_n 0, 1) := by decide +kernel
theorem dX5_eRead_134 : decode cX5_eRead 134 = .ok (.iconst 0, 1) := by decide +kernel
theorem dX5_eRead_135 : decode cX5_eRead 135 = .ok (.invokevirtual 156, 3) := by decide +kernel
theorem dX5_eRead_138 : decode cX5_eRead 138 = .ok (.ifCond .ne 5, 3) := by decide +kernel
theorem dX5_eRead_141 : decode cX5_eRead 141 = .ok (.iconst 0, 1) := by decide +kernel
theorem dX5_eRead_142 : decode cX5_eRead 142 = .ok (.ireturn, 1) := by decide +kernel
theorem dX5_eRead_143 : decode cX5_eRead 143 = .ok (.iconst 1, 1) := by decide +kernel
theorem dX5_eRead_144 : decode cX5_eRead 144 = .ok (.istore_n 2, 1) := by decide +kernel
theorem dX5_eRead_145 : decode cX5_eRead 145 = .ok (.goto (-131), 3) := by decide +kernel
theorem dX5_eRead_148 : decode cX5_eRead 148 = .ok (.iconst 0, 1) := by decide +kernel
theorem dX5_eRead_149 : decode cX5_eRead 149 = .ok (.ireturn, 1) := by decide +kernel
theorem dX5_eRead_150 : decode cX5_eRead 150 = .ok (.aload_n 0, 1) := by decide +kernel
theorem dX5_eRead_151 : decode cX5_eRead 151 = .ok (.getfield 119, 3) := by decide +kernel
theorem dX5_eRead_154 : decode cX5_eRead 154 = .ok (.bipush 59, 2) := by decide +kernel
theorem dX5_eRead_156 : decode cX5_eRead 156 = .ok (.if_icmp .ne 21, 3) := by decide +kernel
theorem dX5_eRead_159 : decode cX5_eRead 159 = .ok (.aload_n 0, 1) := by decide +kernel
theorem dX5_eRead_160 : decode cX5_eRead 160 = .ok (.iconst 1, 1) := by decide +kernel
theorem dX5_eRead_161 : decode cX5_eRead 161 = .ok (.invokevirtual 149, 3) := by decide +kernel
theorem dX5_eRead_164 : decode cX5_eRead 164 = .ok (.aload_n 0, 1) := by decide +kernel
theorem dX5_eRead_165 : decode cX5_eRead 165 = .ok (.getfield 132, 3) := by decide +kernel
theorem dX5_eRead_168 : decode cX5_eRead 168 = .ok (.ifCond .ne 7, 3) := by decide +kernel
theorem dX5_eRead_171 : decode cX5_eRead 171 = .ok (.iconst 1, 1) := by decide +kernel
theorem dX5_eRead_172 : decode cX5_eRead 172 = .ok (.goto 4, 3) := by decide +kernel
theorem dX5_eRead_175 : decode cX5_eRead 175 = .ok (.iconst 0, 1) := by decide +kernel
theorem dX5_eRead_176 : decode cX5_eRead 176 = .ok (.ireturn, 1) := by decide +kernel
theorem dX5_eRead_177 : decode cX5_eRead 177 = .ok (.aload_n 0, 1) := by decide +kernel
theorem dX5_eRead_178 : decode cX5_eRead 178 = .ok (.getfield 119, 3) := by decide +kernel
theorem dX5_eRead_181 : decode cX5_eRead 181 = .ok (.bipush 41, 2) := by decide +kernel
theorem dX5_eRead_183 : decode cX5_eRead 183 = .ok (.if_icmp .ne 46, 3) := by decide +kernel
theorem dX5_eRead_186 : decode cX5_eRead 186 = .ok (.aload_n 0, 1) := by decide +kernel
theorem dX5_eRead_187 : decode cX5_eRead 187 = .ok (.iconst 1, 1) := by decide +kernel
theorem dX5_eRead_188 : decode cX5_eRead 188 = .ok (.invokevirtual 149, 3) := by decide +kernel
theorem dX5_eRead_191 : decode cX5_eRead 191 = .ok (.aload_n 0, 1) := by decide +kernel
theorem dX5_eRead_192 : decode cX5_eRead 192 = .ok (.getfield 132, 3) := by decide +kernel
theorem dX5_eRead_195 : decode cX5_eRead 195 = .ok (.ifCond .ne 5, 3) := by decide +kernel
theorem dX5_eRead_198 : decode cX5_eRead 198 = .ok (.iconst 0, 1) := by decide +kernel
theorem dX5_eRead_199 : decode cX5_eRead 199 = .ok (.ireturn, 1) := by decide +kernel
theorem dX5_eRead_200 : decode cX5_eRead 200 = .ok (.aload_n 0, 1) := by decide +kernel
theorem dX5_eRead_201 : decode cX5_eRead 201 = .ok (.dup, 1) := by decide +kernel
theorem dX5_eRead_202 : decode cX5_eRead 202 = .ok (.getfield 132, 3) := by decide +kernel
theorem dX5_eRead_205 : decode cX5_eRead 205 = .ok (.iconst 1, 1) := by decide +kernel
theorem dX5_eRead_206 : decode cX5_eRead 206 = .ok (.isub, 1) := by decide +kernel
theorem dX5_eRead_207 : decode cX5_eRead 207 = .ok (.putfield 132, 3) := by decide +kernel
theorem dX5_eRead_210 : decode cX5_eRead 210 = .ok (.aload_n 0, 1) := by decide +kernel
theorem dX5_eRead_211 : decode cX5_eRead 211 = .ok (.dup, 1) := by decide +kernel
theorem dX5_eRead_212 : decode cX5_eRead 212 = .ok (.getfield 139, 3) := by decide +kernel
theorem dX5_eRead_215 : decode cX5_eRead 215 = .ok (.iconst 1, 1) := by decide +kernel
theorem dX5_eRead_216 : decode cX5_eRead 216 = .ok (.isub, 1) := by decide +kernel
theorem dX5_eRead_217 : decode cX5_eRead 217 = .ok (.putfield 139, 3) := by decide +kernel
theorem dX5_eRead_220 : decode cX5_eRead 220 = .ok (.aload_n 0, 1) := by decide +kernel
theorem dX5_eRead_221 : decode cX5_eRead 221 = .ok (.bipush 7, 2) := by decide +kernel
theorem dX5_eRead_223 : decode cX5_eRead 223 = .ok (.invokevirtual 149, 3) := by decide +kernel
theorem dX5_eRead_226 : decode cX5_eRead 226 = .ok (.goto (-212), 3) := by decide +kernel
theorem dX5_eRead_229 : decode cX5_eRead 229 = .ok (.aload_n 0, 1) := by decide +kernel
theorem dX5_eRead_230 : decode cX5_eRead 230 = .ok (.invokevirtual 159, 3) := by decide +kernel
theorem dX5_eRead_233 : decode cX5_eRead 233 = .ok (.istore_n 3, 1) := by decide +kernel
theorem dX5_eRead_234 : decode cX5_eRead 234 = .ok (.iload_n 3, 1) := by decide +kernel
theorem dX5_eRead_235 : decode cX5_eRead 235 = .ok (.iconst (-1), 1) := by decide +kernel
theorem dX5_eRead_236 : decode cX5_eRead 236 = .ok (.if_icmp .eq 11, 3) := by decide +kernel
theorem dX5_eRead_239 : decode cX5_eRead 239 = .ok (.aload_n 0, 1) := by decide +kernel
theorem dX5_eRead_240 : decode cX5_eRead 240 = .ok (.iload_n 3, 1) := by decide +kernel
theorem dX5_eRead_241 : decode cX5_eRead 241 = .ok (.invokevirtual 162, 3) := by decide +kernel
theorem dX5_eRead_244 : decode cX5_eRead 244 = .ok (.ifCond .ne 5, 3) := by decide +kernel
theorem dX5_eRead_247 : decode cX5_eRead 247 = .ok (.iconst 0, 1) := by decide +kernel
theorem dX5_eRead_248 : decode cX5_eRead 248 = .ok (.ireturn, 1) := by decide +kernel
theorem dX5_eRead_249 : decode cX5_eRead 249 = .ok (.iconst 1, 1) := by decide +kernel
theorem dX5_eRead_250 : decode cX5_eRead 250 = .ok (.istore_n 1, 1) := by decide +kernel
theorem dX5_eRead_251 : decode cX5_eRead 251 = .ok (.iload_n 3, 1) := by decide +kernel
theorem dX5_eRead_252 : decode cX5_eRead 252 = .ok (.bipush 12, 2) := by decide +kernel
theorem dX5_eRead_254 : decode cX5_eRead 254 = .ok (.if_icmp .gt 7, 3) := by decide +kernel
theorem dX5_eRead_257 : decode cX5_eRead 257 = .ok (.iconst 1, 1) := by decide +kernel
theorem dX5_eRead_258 : decode cX5_eRead 258 = .ok (.goto 4, 3) := by decide +kernel
theorem dX5_eRead_261 : decode cX5_eRead 261 = .ok (.iconst 0, 1) := by decide +kernel
theorem dX5_eRead_262 : decode cX5_eRead 262 = .ok (.istore_n 2, 1) := by decide +kernel
theorem dX5_eRead_263 : decode cX5_eRead 263 = .ok (.goto (-249), 3) := by decide +kernel
theorem dX5_text_0 : decode cX5_text 0 = .ok (.aload_n 0, 1) := by decide +kernel
theorem dX5_text_1 : decode cX5_text 1 = .ok (.getfield 94, 3) := by decide +kernel
theorem dX5_text_4 : decode cX5_text 4 = .ok (.bipush 6, 2) := by decide +kernel
theorem dX5_text_6 : decode cX5_text 6 = .ok (.if_icmp .ne 6, 3) := by decide +kernel
theorem dX5_text_9 : decode cX5_text 9 = .ok (.bipush (-4), 2) := by decide +kernel
theorem dX5_text_11 : decode cX5_text 11 = .ok (.ireturn, 1) := by decide +kernel
theorem dX5_text_12 : decode cX5_text 12 = .ok (.aload_n 0, 1) := by decide +kernel
theorem dX5_text_13 : decode cX5_text 13 = .ok (.iconst 0, 1) := by decide +kernel
theorem dX5_text_14 : decode cX5_text 14 = .ok (.putfield 113, 3) := by decide +kernel
theorem dX5_text_17 : decode cX5_text 17 = .ok (.aload_n 0, 1) := by decide +kernel
theorem dX5_text_18 : decode cX5_text 18 = .ok (.iconst 0, 1) := by decide +kernel
theorem dX5_text_19 : decode cX5_text 19 = .ok (.putfield 129, 3) := by decide +kernel
theorem dX5_text_22 : decode cX5_text 22 = .ok (.iconst 1, 1) := by decide +kernel
theorem dX5_text_23 : decode cX5_text 23 = .ok (.istore_n 1, 1) := by decide +kernel
theorem dX5_text_24 : decode cX5_text 24 = .ok (.iconst 0, 1) := by decide +kernel
theorem dX5_text_25 : decode cX5_text 25 = .ok (.istore_n 2, 1) := by decide +kernel
theorem dX5_text_26 : decode cX5_text 26 = .ok (.iload_n 2, 1) := by decide +kernel
theorem dX5_text_27 : decode cX5_text 27 = .ok (.iconst 3, 1) := by decide +kernel
theorem dX5_text_28 : decode cX5_text 28 = .ok (.if_icmp .ge 73, 3) := by decide +kernel
theorem dX5_text_31 : decode cX5_text 31 = .ok (.iload_n 1, 1) := by decide +kernel
theorem dX5_text_32 : decode cX5_text 32 = .ok (.ifCond .eq 69, 3) := by decide +kernel
theorem dX5_text_35 : decode cX5_text 35 = .ok (.aload_n 0, 1) := by decide +kernel
theorem dX5_text_36 : decode cX5_text 36 = .ok (.invokevirtual 152, 3) := by decide +kernel
theorem dX5_text_39 : decode cX5_text 39 = .ok (.aload_n 0, 1) := by decide +kernel
theorem dX5_text_40 : decode cX5_text 40 = .ok (.getfield 119, 3) := by decide +kernel
theorem dX5_text_43 : decode cX5_text 43 = .ok (.iconst 3, 1) := by decide +kernel
theorem dX5_text_44 : decode cX5_text 44 = .ok (.if_icmp .ne 15, 3) := by decide +kernel
theorem dX5_text_47 : decode cX5_text 47 = .ok (.aload_n 0, 1) := by decide +kernel
theorem dX5_text_48 : decode cX5_text 48 = .ok (.getfield 122, 3) := by decide +kernel
theorem dX5_text_51 : decode cX5_text 51 = .ok (.iload_n 2, 1) := by decide +kernel
theorem dX5_text_52 : decode cX5_text 52 = .ok (.if_icmp .ne 7, 3) := by decide +kernel
theorem dX5_text_55 : decode cX5_text 55 = .ok (.iconst 1, 1) := by decide +kernel
theorem dX5_text_56 : decode cX5_text 56 = .ok (.goto 4, 3) := by decide +kernel
theorem dX5_text_59 : decode cX5_text 59 = .ok (.iconst 0, 1) := by decide +kernel
theorem dX5_text_60 : decode cX5_text 60 = .ok (.istore_n 1, 1) := by decide +kernel
theorem dX5_text_61 : decode cX5_text 61 = .ok (.aload_n 0, 1) := by decide +kernel
theorem dX5_text_62 : decode cX5_text 62 = .ok (.getfield 28, 3) := by decide +kernel
theorem dX5_text_65 : decode cX5_text 65 = .ok (.iconst 4, 1) := by decide +kernel
theorem dX5_text_66 : decode cX5_text 66 = .ok (.aload_n 0, 1) := by decide +kernel
theorem dX5_text_67 : decode cX5_text 67 = .ok (.getfield 94, 3) := by decide +kernel
theorem dX5_text_70 : decode cX5_text 70 = .ok (.imul, 1) := by decide +kernel
theorem dX5_text_71 : decode cX5_text 71 = .ok (.iload_n 2, 1) := by decide +kernel
theorem dX5_text_72 : decode cX5_text 72 = .ok (.iadd, 1) := by decide +kernel
theorem dX5_text_73 : decode cX5_text 73 = .ok (.aload_n 0, 1) := by decide +kernel
theorem dX5_text_74 : decode cX5_text 74 = .ok (.getfield 129, 3) := by decide +kernel
theorem dX5_text_77 : decode cX5_text 77 = .ok (.iastore, 1) := by decide +kernel
theorem dX5_text_78 : decode cX5_text 78 = .ok (.iload_n 1, 1) := by decide +kernel
theorem dX5_text_79 : decode cX5_text 79 = .ok (.ifCond .eq 14, 3) := by decide +kernel
theorem dX5_text_82 : decode cX5_text 82 = .ok (.aload_n 0, 1) := by decide +kernel
theorem dX5_text_83 : decode cX5_text 83 = .ok (.invokevirtual 165, 3) := by decide +kernel
theorem dX5_text_86 : decode cX5_text 86 = .ok (.ifCond .eq 7, 3) := by decide +kernel
theorem dX5_text_89 : decode cX5_text 89 = .ok (.iconst 1, 1) := by decide +kernel
theorem dX5_text_90 : decode cX5_text 90 = .ok (.goto 4, 3) := by decide +kernel
theorem dX5_text_93 : decode cX5_text 93 = .ok (.iconst 0, 1) := by decide +kernel
theorem dX5_text_94 : decode cX5_text 94 = .ok (.istore_n 1, 1) := by decide +kernel
theorem dX5_text_95 : decode cX5_text 95 = .ok (.iinc 2 1, 3) := by decide +kernel
theorem dX5_text_98 : decode cX5_text 98 = .ok (.goto (-72), 3) := by decide +kernel
theorem dX5_text_101 : decode cX5_text 101 = .ok (.iload_n 1, 1) := by decide +kernel
theorem dX5_text_102 : decode cX5_text 102 = .ok (.ifCond .eq 20, 3) := by decide +kernel
theorem dX5_text_105 : decode cX5_text 105 = .ok (.aload_n 0, 1) := by decide +kernel
theorem dX5_text_106 : decode cX5_text 106 = .ok (.invokevirtual 152, 3) := by decide +kernel
theorem dX5_text_109 : decode cX5_text 109 = .ok (.aload_n 0, 1) := by decide +kernel
theorem dX5_text_110 : decode cX5_text 110 = .ok (.getfield 119, 3) := by decide +kernel
theorem dX5_text_113 : decode cX5_text 113 = .ok (.ifCond .ne 7, 3) := by decide +kernel
theorem dX5_text_116 : decode cX5_text 116 = .ok (.iconst 1, 1) := by decide +kernel
theorem dX5_text_117 : decode cX5_text 117 = .ok (.goto 4, 3) := by decide +kernel
theorem dX5_text_120 : decode cX5_text 120 = .ok (.iconst 0, 1) := by decide +kernel
theorem dX5_text_121 : decode cX5_text 121 = .ok (.istore_n 1, 1) := by decide +kernel
theorem dX5_text_122 : decode cX5_text 122 = .ok (.aload_n 0, 1) := by decide +kernel
theorem dX5_text_123 : decode cX5_text 123 = .ok (.getfield 28, 3) := by decide +kernel
theorem dX5_text_126 : decode cX5_text 126 = .ok (.iconst 4, 1) := by decide +kernel
theorem dX5_text_127 : decode cX5_text 127 = .ok (.aload_n 0, 1) := by decide +kernel
theorem dX5_text_128 : decode cX5_text 128 = .ok (.getfield 94, 3) := by decide +kernel
theorem dX5_text_131 : decode cX5_text 131 = .ok (.imul, 1) := by decide +kernel
theorem dX5_text_132 : decode cX5_text 132 = .ok (.iconst 3, 1) := by decide +kernel
theorem dX5_text_133 : decode cX5_text 133 = .ok (.iadd, 1) := by decide +kernel
theorem dX5_text_134 : decode cX5_text 134 = .ok (.aload_n 0, 1) := by decide +kernel
theorem dX5_text_135 : decode cX5_text 135 = .ok (.getfield 129, 3) := by decide +kernel
theorem dX5_text_138 : decode cX5_text 138 = .ok (.iastore, 1) := by decide +kernel
theorem dX5_text_139 : decode cX5_text 139 = .ok (.aload_n 0, 1) := by decide +kernel
theorem dX5_text_140 : decode cX5_text 140 = .ok (.iconst 0, 1) := by decide +kernel
theorem dX5_text_141 : decode cX5_text 141 = .ok (.putfield 73, 3) := by decide +kernel
theorem dX5_text_144 : decode cX5_text 144 = .ok (.iload_n 1, 1) := by decide +kernel
theorem dX5_text_145 : decode cX5_text 145 = .ok (.ifCond .ne 11, 3) := by decide +kernel
theorem dX5_text_148 : decode cX5_text 148 = .ok (.bipush (-100), 2) := by decide +kernel
theorem dX5_text_150 : decode cX5_text 150 = .ok (.aload_n 0, 1) := by decide +kernel
theorem dX5_text_151 : decode cX5_text 151 = .ok (.getfield 116, 3) := by decide +kernel
theorem dX5_text_154 : decode cX5_text 154 = .ok (.isub, 1) := by decide +kernel
theorem dX5_text_155 : decode cX5_text 155 = .ok (.ireturn, 1) := by decide +kernel
theorem dX5_text_156 : decode cX5_text 156 = .ok (.aload_n 0, 1) := by decide +kernel
theorem dX5_text_157 : decode cX5_text 157 = .ok (.dup, 1) := by decide +kernel
theorem dX5_text_158 : decode cX5_text 158 = .ok (.getfield 94, 3) := by decide +kernel
theorem dX5_text_161 : decode cX5_text 161 = .ok (.iconst 1, 1) := by decide +kernel
theorem dX5_text_162 : decode cX5_text 162 = .ok (.iadd, 1) := by decide +kernel
theorem dX5_text_163 : decode cX5_text 163 = .ok (.putfield 94, 3) := by decide +kernel
theorem dX5_text_166 : decode cX5_text 166 = .ok (.aload_n 0, 1) := by decide +kernel
theorem dX5_text_167 : decode cX5_text 167 = .ok (.getfield 94, 3) := by decide +kernel
theorem dX5_text_170 : decode cX5_text 170 = .ok (.iconst 1, 1) := by decide +kernel
theorem dX5_text_171 : decode cX5_text 171 = .ok (.isub, 1) := by decide +kernel
theorem dX5_text_172 : decode cX5_text 172 = .ok (.ireturn, 1) := by decide +kernel
theorem dX5_two_0 : decode cX5_two 0 = .ok (.iload_n 0, 1) := by decide +kernel
theorem dX5_two_1 : decode cX5_two 1 = .ok (.tableswitch 101 11 17 #[43, 57, 101, 71, 82, 93, 97], 43) := by decide +kernel
theorem dX5_two_44 : decode cX5_two 44 = .ok (.iload_n 1, 1) := by decide +kernel
theorem dX5_two_45 : decode cX5_two 45 = .ok (.ifCond .ne 7, 3) := by decide +kernel
theorem dX5_two_48 : decode cX5_two 48 = .ok (.iload_n 2, 1) := by decide +kernel
theorem dX5_two_49 : decode cX5_two 49 = .ok (.ifCond .eq 7, 3) := by decide +kernel
theorem dX5_two_52 : decode cX5_two 52 = .ok (.iconst 1, 1) := by decide +kernel
theorem dX5_two_53 : decode cX5_two 53 = .ok (.goto 4, 3) := by decide +kernel
theorem dX5_two_56 : decode cX5_two 56 = .ok (.iconst 0, 1) := by decide +kernel
theorem dX5_two_57 : decode cX5_two 57 = .ok (.ireturn, 1) := by decide +kernel
theorem dX5_two_58 : decode cX5_two 58 = .ok (.iload_n 1, 1) := by decide +kernel
theorem dX5_two_59 : decode cX5_two 59 = .ok (.ifCond .eq 11, 3) := by decide +kernel
theorem dX5_two_62 : decode cX5_two 62 = .ok (.iload_n 2, 1) := by decide +kernel
theorem dX5_two_63 : decode cX5_two 63 = .ok (.ifCond .eq 7, 3) := by decide +kernel
theorem dX5_two_66 : decode cX5_two 66 = .ok (.iconst 1, 1) := by decide +kernel
theorem dX5_two_67 : decode cX5_two 67 = .ok (.goto 4, 3) := by decide +kernel
theorem dX5_two_70 : decode cX5_two 70 = .ok (.iconst 0, 1) := by decide +kernel
theorem dX5_two_71 : decode cX5_two 71 = .ok (.ireturn, 1) := by decide +kernel
theorem dX5_two_72 : decode cX5_two 72 = .ok (.iload_n 1, 1) := by decide +kernel
theorem dX5_two_73 : decode cX5_two 73 = .ok (.iload_n 2, 1) := by decide +kernel
theorem dX5_two_74 : decode cX5_two 74 = .ok (.if_icmp .ge 7, 3) := by decide +kernel
theorem dX5_two_77 : decode cX5_two 77 = .ok (.iconst 1, 1) := by decide +kernel
theorem dX5_two_78 : decode cX5_two 78 = .ok (.goto 4, 3) := by decide +kernel
theorem dX5_two_81 : decode cX5_two 81 = .ok (.iconst 0, 1) := by decide +kernel
theorem dX5_two_82 : decode cX5_two 82 = .ok (.ireturn, 1) := by decide +kernel
theorem dX5_two_83 : decode cX5_two 83 = .ok (.iload_n 1, 1) := by decide +kernel
theorem dX5_two_84 : decode cX5_two 84 = .ok (.iload_n 2, 1) := by decide +kernel
theorem dX5_two_85 : decode cX5_two 85 = .ok (.if_icmp .ne 7, 3) := by decide +kernel
theorem dX5_two_88 : decode cX5_two 88 = .ok (.iconst 1, 1) := by decide +kernel
theorem dX5_two_89 : decode cX5_two 89 = .ok (.goto 4, 3) := by decide +kernel
theorem dX5_two_92 : decode cX5_two 92 = .ok (.iconst 0, 1) := by decide +kernel
theorem dX5_two_93 : decode cX5_two 93 = .ok (.ireturn, 1) := by decide +kernel
theorem dX5_two_94 : decode cX5_two 94 = .ok (.iload_n 1, 1) := by decide +kernel
theorem dX5_two_95 : decode cX5_two 95 = .ok (.iload_n 2, 1) := by decide +kernel
theorem dX5_two_96 : decode cX5_two 96 = .ok (.iadd, 1) := by decide +kernel
theorem dX5_two_97 : decode cX5_two 97 = .ok (.ireturn, 1) := by decide +kernel
theorem dX5_two_98 : decode cX5_two 98 = .ok (.iload_n 1, 1) := by decide +kernel
theorem dX5_two_99 : decode cX5_two 99 = .ok (.iload_n 2, 1) := by decide +kernel
theorem dX5_two_100 : decode cX5_two 100 = .ok (.isub, 1) := by decide +kernel
theorem dX5_two_101 : decode cX5_two 101 = .ok (.ireturn, 1) := by decide +kernel
theorem dX5_two_102 : decode cX5_two 102 = .ok (.iload_n 1, 1) := by decide +kernel
theorem dX5_two_103 : decode cX5_two 103 = .ok (.iload_n 2, 1) := by decide +kernel
theorem dX5_two_104 : decode cX5_two 104 = .ok (.imul, 1) := by decide +kernel
theorem dX5_two_105 : decode cX5_two 105 = .ok (.ireturn, 1) := by decide +kernel
theorem dX5_says_0 : decode cX5_says 0 = .ok (.iconst 0, 1) := by decide +kernel
theorem dX5_says_1 : decode cX5_says 1 = .ok (.istore_n 2, 1) := by decide +kernel
theorem dX5_says_2 : decode cX5_says 2 = .ok (.aload_n 0, 1) := by decide +kernel
theorem dX5_says_3 : decode cX5_says 3 = .ok (.getfield 28, 3) := by decide +kernel
theorem dX5_says_6 : decode cX5_says 6 = .ok (.iconst 4, 1) := by decide +kernel
theorem dX5_says_7 : decode cX5_says 7 = .ok (.aload_n 0, 1) := by decide +kernel
theorem dX5_says_8 : decode cX5_says 8 = .ok (.getfield 97, 3) := by decide +kernel
theorem dX5_says_11 : decode cX5_says 11 = .ok (.imul, 1) := by decide +kernel
theorem dX5_says_12 : decode cX5_says 12 = .ok (.iload_n 1, 1) := by decide +kernel
theorem dX5_says_13 : decode cX5_says 13 = .ok (.iadd, 1) := by decide +kernel
theorem dX5_says_14 : decode cX5_says 14 = .ok (.iaload, 1) := by decide +kernel
theorem dX5_says_15 : decode cX5_says 15 = .ok (.istore_n 3, 1) := by decide +kernel
theorem dX5_says_16 : decode cX5_says 16 = .ok (.iload_n 3, 1) := by decide +kernel
theorem dX5_says_17 : decode cX5_says 17 = .ok (.aload_n 0, 1) := by decide +kernel
theorem dX5_says_18 : decode cX5_says 18 = .ok (.getfield 28, 3) := by decide +kernel
theorem dX5_says_21 : decode cX5_says 21 = .ok (.iconst 4, 1) := by decide +kernel
theorem dX5_says_22 : decode cX5_says 22 = .ok (.aload_n 0, 1) := by decide +kernel
theorem dX5_says_23 : decode cX5_says 23 = .ok (.getfield 97, 3) := by decide +kernel
theorem dX5_says_26 : decode cX5_says 26 = .ok (.imul, 1) := by decide +kernel
theorem dX5_says_27 : decode cX5_says 27 = .ok (.iload_n 1, 1) := by decide +kernel
theorem dX5_says_28 : decode cX5_says 28 = .ok (.iadd, 1) := by decide +kernel
theorem dX5_says_29 : decode cX5_says 29 = .ok (.iconst 1, 1) := by decide +kernel
theorem dX5_says_30 : decode cX5_says 30 = .ok (.iadd, 1) := by decide +kernel
theorem dX5_says_31 : decode cX5_says 31 = .ok (.iaload, 1) := by decide +kernel
theorem dX5_says_32 : decode cX5_says 32 = .ok (.if_icmp .ge 165, 3) := by decide +kernel
theorem dX5_says_35 : decode cX5_says 35 = .ok (.aload_n 0, 1) := by decide +kernel
theorem dX5_says_36 : decode cX5_says 36 = .ok (.getfield 25, 3) := by decide +kernel
theorem dX5_says_39 : decode cX5_says 39 = .ok (.sipush 200, 3) := by decide +kernel
theorem dX5_says_42 : decode cX5_says 42 = .ok (.aload_n 0, 1) := by decide +kernel
theorem dX5_says_43 : decode cX5_says 43 = .ok (.getfield 97, 3) := by decide +kernel
theorem dX5_says_46 : decode cX5_says 46 = .ok (.imul, 1) := by decide +kernel
theorem dX5_says_47 : decode cX5_says 47 = .ok (.iload_n 3, 1) := by decide +kernel
theorem dX5_says_48 : decode cX5_says 48 = .ok (.iadd, 1) := by decide +kernel
theorem dX5_says_49 : decode cX5_says 49 = .ok (.iaload, 1) := by decide +kernel
theorem dX5_says_50 : decode cX5_says 50 = .ok (.istore 4, 2) := by decide +kernel
theorem dX5_says_52 : decode cX5_says 52 = .ok (.iload 4, 2) := by decide +kernel
theorem dX5_says_54 : decode cX5_says 54 = .ok (.ldc 155, 2) := by decide +kernel
theorem dX5_says_56 : decode cX5_says 56 = .ok (.if_icmp .ge 10, 3) := by decide +kernel
theorem dX5_says_59 : decode cX5_says 59 = .ok (.iload 4, 2) := by decide +kernel
theorem dX5_says_61 : decode cX5_says 61 = .ok (.bipush 11, 2) := by decide +kernel
theorem dX5_says_63 : decode cX5_says 63 = .ok (.if_icmp .ge 37, 3) := by decide +kernel
theorem dX5_says_66 : decode cX5_says 66 = .ok (.aload_n 0, 1) := by decide +kernel
theorem dX5_says_67 : decode cX5_says 67 = .ok (.getfield 55, 3) := by decide +kernel
theorem dX5_says_70 : decode cX5_says 70 = .ok (.iload_n 2, 1) := by decide +kernel
theorem dX5_says_71 : decode cX5_says 71 = .ok (.iload 4, 2) := by decide +kernel
theorem dX5_says_73 : decode cX5_says 73 = .ok (.bipush 11, 2) := by decide +kernel
theorem dX5_says_75 : decode cX5_says 75 = .ok (.if_icmp .ge 13, 3) := by decide +kernel
theorem dX5_says_78 : decode cX5_says 78 = .ok (.aload_n 0, 1) := by decide +kernel
theorem dX5_says_79 : decode cX5_says 79 = .ok (.getfield 58, 3) := by decide +kernel
theorem dX5_says_82 : decode cX5_says 82 = .ok (.iload 4, 2) := by decide +kernel
theorem dX5_says_84 : decode cX5_says 84 = .ok (.iaload, 1) := by decide +kernel
theorem dX5_says_85 : decode cX5_says 85 = .ok (.goto 8, 3) := by decide +kernel
theorem dX5_says_88 : decode cX5_says 88 = .ok (.iload 4, 2) := by decide +kernel
theorem dX5_says_90 : decode cX5_says 90 = .ok (.ldc 155, 2) := by decide +kernel
theorem dX5_says_92 : decode cX5_says 92 = .ok (.isub, 1) := by decide +kernel
theorem dX5_says_93 : decode cX5_says 93 = .ok (.iastore, 1) := by decide +kernel
theorem dX5_says_94 : decode cX5_says 94 = .ok (.iinc 2 1, 3) := by decide +kernel
theorem dX5_says_97 : decode cX5_says 97 = .ok (.goto 94, 3) := by decide +kernel
theorem dX5_says_100 : decode cX5_says 100 = .ok (.iload 4, 2) := by decide +kernel
theorem dX5_says_102 : decode cX5_says 102 = .ok (.bipush 13, 2) := by decide +kernel
theorem dX5_says_104 : decode cX5_says 104 = .ok (.if_icmp .ne 30, 3) := by decide +kernel
theorem dX5_says_107 : decode cX5_says 107 = .ok (.aload_n 0, 1) := by decide +kernel
theorem dX5_says_108 : decode cX5_says 108 = .ok (.getfield 55, 3) := by decide +kernel
theorem dX5_says_111 : decode cX5_says 111 = .ok (.iload_n 2, 1) := by decide +kernel
theorem dX5_says_112 : decode cX5_says 112 = .ok (.iconst 1, 1) := by decide +kernel
theorem dX5_says_113 : decode cX5_says 113 = .ok (.isub, 1) := by decide +kernel
theorem dX5_says_114 : decode cX5_says 114 = .ok (.aload_n 0, 1) := by decide +kernel
theorem dX5_says_115 : decode cX5_says 115 = .ok (.getfield 55, 3) := by decide +kernel
theorem dX5_says_118 : decode cX5_says 118 = .ok (.iload_n 2, 1) := by decide +kernel
theorem dX5_says_119 : decode cX5_says 119 = .ok (.iconst 1, 1) := by decide +kernel
theorem dX5_says_120 : decode cX5_says 120 = .ok (.isub, 1) := by decide +kernel
theorem dX5_says_121 : decode cX5_says 121 = .ok (.iaload, 1) := by decide +kernel
theorem dX5_says_122 : decode cX5_says 122 = .ok (.ifCond .ne 7, 3) := by decide +kernel
theorem dX5_says_125 : decode cX5_says 125 = .ok (.iconst 1, 1) := by decide +kernel
theorem dX5_says_126 : decode cX5_says 126 = .ok (.goto 4, 3) := by decide +kernel
theorem dX5_says_129 : decode cX5_says 129 = .ok (.iconst 0, 1) := by decide +kernel
theorem dX5_says_130 : decode cX5_says 130 = .ok (.iastore, 1) := by decide +kernel
theorem dX5_says_131 : decode cX5_says 131 = .ok (.goto 60, 3) := by decide +kernel
theorem dX5_says_134 : decode cX5_says 134 = .ok (.iload 4, 2) := by decide +kernel
theorem dX5_says_136 : decode cX5_says 136 = .ok (.bipush 19, 2) := by decide +kernel
theorem dX5_says_138 : decode cX5_says 138 = .ok (.if_icmp .ne 23, 3) := by decide +kernel
theorem dX5_says_141 : decode cX5_says 141 = .ok (.aload_n 0, 1) := by decide +kernel
theorem dX5_says_142 : decode cX5_says 142 = .ok (.getfield 55, 3) := by decide +kernel
theorem dX5_says_145 : decode cX5_says 145 = .ok (.iload_n 2, 1) := by decide +kernel
theorem dX5_says_146 : decode cX5_says 146 = .ok (.iconst 1, 1) := by decide +kernel
theorem dX5_says_147 : decode cX5_says 147 = .ok (.isub, 1) := by decide +kernel
theorem dX5_says_148 : decode cX5_says 148 = .ok (.aload_n 0, 1) := by decide +kernel
theorem dX5_says_149 : decode cX5_says 149 = .ok (.getfield 55, 3) := by decide +kernel
theorem dX5_says_152 : decode cX5_says 152 = .ok (.iload_n 2, 1) := by decide +kernel
theorem dX5_says_153 : decode cX5_says 153 = .ok (.iconst 1, 1) := by decide +kernel
theorem dX5_says_154 : decode cX5_says 154 = .ok (.isub, 1) := by decide +kernel
theorem dX5_says_155 : decode cX5_says 155 = .ok (.iaload, 1) := by decide +kernel
theorem dX5_says_156 : decode cX5_says 156 = .ok (.ineg, 1) := by decide +kernel
theorem dX5_says_157 : decode cX5_says 157 = .ok (.iastore, 1) := by decide +kernel
theorem dX5_says_158 : decode cX5_says 158 = .ok (.goto 33, 3) := by decide +kernel
theorem dX5_says_161 : decode cX5_says 161 = .ok (.iinc 2 (-1), 3) := by decide +kernel
theorem dX5_says_164 : decode cX5_says 164 = .ok (.aload_n 0, 1) := by decide +kernel
theorem dX5_says_165 : decode cX5_says 165 = .ok (.getfield 55, 3) := by decide +kernel
theorem dX5_says_168 : decode cX5_says 168 = .ok (.iload_n 2, 1) := by decide +kernel
theorem dX5_says_169 : decode cX5_says 169 = .ok (.iconst 1, 1) := by decide +kernel
theorem dX5_says_170 : decode cX5_says 170 = .ok (.isub, 1) := by decide +kernel
theorem dX5_says_171 : decode cX5_says 171 = .ok (.iload 4, 2) := by decide +kernel
theorem dX5_says_173 : decode cX5_says 173 = .ok (.aload_n 0, 1) := by decide +kernel
theorem dX5_says_174 : decode cX5_says 174 = .ok (.getfield 55, 3) := by decide +kernel
theorem dX5_says_177 : decode cX5_says 177 = .ok (.iload_n 2, 1) := by decide +kernel
theorem dX5_says_178 : decode cX5_says 178 = .ok (.iconst 1, 1) := by decide +kernel
theorem dX5_says_179 : decode cX5_says 179 = .ok (.isub, 1) := by decide +kernel
theorem dX5_says_180 : decode cX5_says 180 = .ok (.iaload, 1) := by decide +kernel
theorem dX5_says_181 : decode cX5_says 181 = .ok (.aload_n 0, 1) := by decide +kernel
theorem dX5_says_182 : decode cX5_says 182 = .ok (.getfield 55, 3) := by decide +kernel
theorem dX5_says_185 : decode cX5_says 185 = .ok (.iload_n 2, 1) := by decide +kernel
theorem dX5_says_186 : decode cX5_says 186 = .ok (.iaload, 1) := by decide +kernel
theorem dX5_says_187 : decode cX5_says 187 = .ok (.invokestatic 169, 3) := by decide +kernel
theorem dX5_says_190 : decode cX5_says 190 = .ok (.iastore, 1) := by decide +kernel
theorem dX5_says_191 : decode cX5_says 191 = .ok (.iinc 3 1, 3) := by decide +kernel
theorem dX5_says_194 : decode cX5_says 194 = .ok (.goto (-178), 3) := by decide +kernel
theorem dX5_says_197 : decode cX5_says 197 = .ok (.aload_n 0, 1) := by decide +kernel
theorem dX5_says_198 : decode cX5_says 198 = .ok (.getfield 55, 3) := by decide +kernel
theorem dX5_says_201 : decode cX5_says 201 = .ok (.iconst 0, 1) := by decide +kernel
theorem dX5_says_202 : decode cX5_says 202 = .ok (.iaload, 1) := by decide +kernel
theorem dX5_says_203 : decode cX5_says 203 = .ok (.ireturn, 1) := by decide +kernel
theorem dX5_force_0 : decode cX5_force 0 = .ok (.iload_n 1, 1) := by decide +kernel
theorem dX5_force_1 : decode cX5_force 1 = .ok (.iconst 0, 1) := by decide +kernel
theorem dX5_force_2 : decode cX5_force 2 = .ok (.aload_n 0, 1) := by decide +kernel
theorem dX5_force_3 : decode cX5_force 3 = .ok (.getfield 94, 3) := by decide +kernel
theorem dX5_force_6 : decode cX5_force 6 = .ok (.iconst 1, 1) := by decide +kernel
theorem dX5_force_7 : decode cX5_force 7 = .ok (.isub, 1) := by decide +kernel
theorem dX5_force_8 : decode cX5_force 8 = .ok (.invokestatic 84, 3) := by decide +kernel
theorem dX5_force_11 : decode cX5_force 11 = .ok (.ifCond .ne 6, 3) := by decide +kernel
theorem dX5_force_14 : decode cX5_force 14 = .ok (.bipush (-2), 2) := by decide +kernel
theorem dX5_force_16 : decode cX5_force 16 = .ok (.ireturn, 1) := by decide +kernel
theorem dX5_force_17 : decode cX5_force 17 = .ok (.aload_n 0, 1) := by decide +kernel
theorem dX5_force_18 : decode cX5_force 18 = .ok (.getfield 97, 3) := by decide +kernel
theorem dX5_force_21 : decode cX5_force 21 = .ok (.istore_n 2, 1) := by decide +kernel
theorem dX5_force_22 : decode cX5_force 22 = .ok (.aload_n 0, 1) := by decide +kernel
theorem dX5_force_23 : decode cX5_force 23 = .ok (.iload_n 1, 1) := by decide +kernel
theorem dX5_force_24 : decode cX5_force 24 = .ok (.putfield 97, 3) := by decide +kernel
theorem dX5_force_27 : decode cX5_force 27 = .ok (.iload_n 2, 1) := by decide +kernel
theorem dX5_force_28 : decode cX5_force 28 = .ok (.ireturn, 1) := by decide +kernel
theorem dX5_asksOf_0 : decode cX5_asksOf 0 = .ok (.aload_n 0, 1) := by decide +kernel
theorem dX5_asksOf_1 : decode cX5_asksOf 1 = .ok (.getfield 58, 3) := by decide +kernel
theorem dX5_asksOf_4 : decode cX5_asksOf 4 = .ok (.iconst 0, 1) := by decide +kernel
theorem dX5_asksOf_5 : decode cX5_asksOf 5 = .ok (.aload_n 0, 1) := by decide +kernel
theorem dX5_asksOf_6 : decode cX5_asksOf 6 = .ok (.getfield 16, 3) := by decide +kernel
theorem dX5_asksOf_9 : decode cX5_asksOf 9 = .ok (.iconst 3, 1) := by decide +kernel
theorem dX5_asksOf_10 : decode cX5_asksOf 10 = .ok (.iload_n 2, 1) := by decide +kernel
theorem dX5_asksOf_11 : decode cX5_asksOf 11 = .ok (.imul, 1) := by decide +kernel
theorem dX5_asksOf_12 : decode cX5_asksOf 12 = .ok (.iaload, 1) := by decide +kernel
theorem dX5_asksOf_13 : decode cX5_asksOf 13 = .ok (.iastore, 1) := by decide +kernel
theorem dX5_asksOf_14 : decode cX5_asksOf 14 = .ok (.aload_n 0, 1) := by decide +kernel
theorem dX5_asksOf_15 : decode cX5_asksOf 15 = .ok (.getfield 58, 3) := by decide +kernel
theorem dX5_asksOf_18 : decode cX5_asksOf 18 = .ok (.iconst 1, 1) := by decide +kernel
theorem dX5_asksOf_19 : decode cX5_asksOf 19 = .ok (.iconst 0, 1) := by decide +kernel
theorem dX5_asksOf_20 : decode cX5_asksOf 20 = .ok (.iastore, 1) := by decide +kernel
theorem dX5_asksOf_21 : decode cX5_asksOf 21 = .ok (.iload_n 3, 1) := by decide +kernel
theorem dX5_asksOf_22 : decode cX5_asksOf 22 = .ok (.iconst (-1), 1) := by decide +kernel
theorem dX5_asksOf_23 : decode cX5_asksOf 23 = .ok (.if_icmp .eq 17, 3) := by decide +kernel
theorem dX5_asksOf_26 : decode cX5_asksOf 26 = .ok (.aload_n 0, 1) := by decide +kernel
theorem dX5_asksOf_27 : decode cX5_asksOf 27 = .ok (.getfield 58, 3) := by decide +kernel
theorem dX5_asksOf_30 : decode cX5_asksOf 30 = .ok (.iconst 1, 1) := by decide +kernel
theorem dX5_asksOf_31 : decode cX5_asksOf 31 = .ok (.aload_n 0, 1) := by decide +kernel
theorem dX5_asksOf_32 : decode cX5_asksOf 32 = .ok (.getfield 19, 3) := by decide +kernel
theorem dX5_asksOf_35 : decode cX5_asksOf 35 = .ok (.iconst 2, 1) := by decide +kernel
theorem dX5_asksOf_36 : decode cX5_asksOf 36 = .ok (.iload_n 3, 1) := by decide +kernel
theorem dX5_asksOf_37 : decode cX5_asksOf 37 = .ok (.imul, 1) := by decide +kernel
theorem dX5_asksOf_38 : decode cX5_asksOf 38 = .ok (.iaload, 1) := by decide +kernel
theorem dX5_asksOf_39 : decode cX5_asksOf 39 = .ok (.iastore, 1) := by decide +kernel
theorem dX5_asksOf_40 : decode cX5_asksOf 40 = .ok (.aload_n 0, 1) := by decide +kernel
theorem dX5_asksOf_41 : decode cX5_asksOf 41 = .ok (.getfield 58, 3) := by decide +kernel
theorem dX5_asksOf_44 : decode cX5_asksOf 44 = .ok (.iconst 2, 1) := by decide +kernel
theorem dX5_asksOf_45 : decode cX5_asksOf 45 = .ok (.aload_n 0, 1) := by decide +kernel
theorem dX5_asksOf_46 : decode cX5_asksOf 46 = .ok (.invokevirtual 88, 3) := by decide +kernel
theorem dX5_asksOf_49 : decode cX5_asksOf 49 = .ok (.iastore, 1) := by decide +kernel
theorem dX5_asksOf_50 : decode cX5_asksOf 50 = .ok (.aload_n 0, 1) := by decide +kernel
theorem dX5_asksOf_51 : decode cX5_asksOf 51 = .ok (.getfield 58, 3) := by decide +kernel
theorem dX5_asksOf_54 : decode cX5_asksOf 54 = .ok (.iconst 3, 1) := by decide +kernel
theorem dX5_asksOf_55 : decode cX5_asksOf 55 = .ok (.aload_n 0, 1) := by decide +kernel
theorem dX5_asksOf_56 : decode cX5_asksOf 56 = .ok (.getfield 16, 3) := by decide +kernel
theorem dX5_asksOf_59 : decode cX5_asksOf 59 = .ok (.iconst 3, 1) := by decide +kernel
theorem dX5_asksOf_60 : decode cX5_asksOf 60 = .ok (.iload_n 2, 1) := by decide +kernel
theorem dX5_asksOf_61 : decode cX5_asksOf 61 = .ok (.imul, 1) := by decide +kernel
theorem dX5_asksOf_62 : decode cX5_asksOf 62 = .ok (.iconst 1, 1) := by decide +kernel
theorem dX5_asksOf_63 : decode cX5_asksOf 63 = .ok (.iadd, 1) := by decide +kernel
theorem dX5_asksOf_64 : decode cX5_asksOf 64 = .ok (.iaload, 1) := by decide +kernel
theorem dX5_asksOf_65 : decode cX5_asksOf 65 = .ok (.iconst 0, 1) := by decide +kernel
theorem dX5_asksOf_66 : decode cX5_asksOf 66 = .ok (.bipush 99, 2) := by decide +kernel
theorem dX5_asksOf_68 : decode cX5_asksOf 68 = .ok (.invokestatic 173, 3) := by decide +kernel
theorem dX5_asksOf_71 : decode cX5_asksOf 71 = .ok (.iastore, 1) := by decide +kernel
theorem dX5_asksOf_72 : decode cX5_asksOf 72 = .ok (.aload_n 0, 1) := by decide +kernel
theorem dX5_asksOf_73 : decode cX5_asksOf 73 = .ok (.getfield 58, 3) := by decide +kernel
theorem dX5_asksOf_76 : decode cX5_asksOf 76 = .ok (.iconst 4, 1) := by decide +kernel
theorem dX5_asksOf_77 : decode cX5_asksOf 77 = .ok (.aload_n 0, 1) := by decide +kernel
theorem dX5_asksOf_78 : decode cX5_asksOf 78 = .ok (.getfield 91, 3) := by decide +kernel
theorem dX5_asksOf_81 : decode cX5_asksOf 81 = .ok (.iastore, 1) := by decide +kernel
theorem dX5_asksOf_82 : decode cX5_asksOf 82 = .ok (.aload_n 0, 1) := by decide +kernel
theorem dX5_asksOf_83 : decode cX5_asksOf 83 = .ok (.getfield 58, 3) := by decide +kernel
theorem dX5_asksOf_86 : decode cX5_asksOf 86 = .ok (.iconst 5, 1) := by decide +kernel
theorem dX5_asksOf_87 : decode cX5_asksOf 87 = .ok (.aload_n 0, 1) := by decide +kernel
theorem dX5_asksOf_88 : decode cX5_asksOf 88 = .ok (.getfield 13, 3) := by decide +kernel
theorem dX5_asksOf_91 : decode cX5_asksOf 91 = .ok (.iload_n 2, 1) := by decide +kernel
theorem dX5_asksOf_92 : decode cX5_asksOf 92 = .ok (.iaload, 1) := by decide +kernel
theorem dX5_asksOf_93 : decode cX5_asksOf 93 = .ok (.iastore, 1) := by decide +kernel
theorem dX5_asksOf_94 : decode cX5_asksOf 94 = .ok (.aload_n 0, 1) := by decide +kernel
theorem dX5_asksOf_95 : decode cX5_asksOf 95 = .ok (.iload_n 1, 1) := by decide +kernel
theorem dX5_asksOf_96 : decode cX5_asksOf 96 = .ok (.invokevirtual 176, 3) := by decide +kernel
theorem dX5_asksOf_99 : decode cX5_asksOf 99 = .ok (.iload_n 1, 1) := by decide +kernel
theorem dX5_asksOf_100 : decode cX5_asksOf 100 = .ok (.iconst 2, 1) := by decide +kernel
theorem dX5_asksOf_101 : decode cX5_asksOf 101 = .ok (.if_icmp .ne 8, 3) := by decide +kernel
theorem dX5_asksOf_104 : decode cX5_asksOf 104 = .ok (.bipush (-99), 2) := by decide +kernel
theorem dX5_asksOf_106 : decode cX5_asksOf 106 = .ok (.goto 4, 3) := by decide +kernel
theorem dX5_asksOf_109 : decode cX5_asksOf 109 = .ok (.iconst 0, 1) := by decide +kernel
theorem dX5_asksOf_110 : decode cX5_asksOf 110 = .ok (.bipush 99, 2) := by decide +kernel
theorem dX5_asksOf_112 : decode cX5_asksOf 112 = .ok (.invokestatic 173, 3) := by decide +kernel
theorem dX5_asksOf_115 : decode cX5_asksOf 115 = .ok (.ireturn, 1) := by decide +kernel
theorem dX5_asks_0 : decode cX5_asks 0 = .ok (.iload_n 1, 1) := by decide +kernel
theorem dX5_asks_1 : decode cX5_asks 1 = .ok (.iconst 0, 1) := by decide +kernel
theorem dX5_asks_2 : decode cX5_asks 2 = .ok (.iconst 2, 1) := by decide +kernel
theorem dX5_asks_3 : decode cX5_asks 3 = .ok (.invokestatic 84, 3) := by decide +kernel
theorem dX5_asks_6 : decode cX5_asks 6 = .ok (.ifCond .eq 30, 3) := by decide +kernel
theorem dX5_asks_9 : decode cX5_asks 9 = .ok (.aload_n 0, 1) := by decide +kernel
theorem dX5_asks_10 : decode cX5_asks 10 = .ok (.iload_n 2, 1) := by decide +kernel
theorem dX5_asks_11 : decode cX5_asks 11 = .ok (.invokevirtual 179, 3) := by decide +kernel
theorem dX5_asks_14 : decode cX5_asks 14 = .ok (.ifCond .eq 22, 3) := by decide +kernel
theorem dX5_asks_17 : decode cX5_asks 17 = .ok (.iload_n 3, 1) := by decide +kernel
theorem dX5_asks_18 : decode cX5_asks 18 = .ok (.iconst (-1), 1) := by decide +kernel
theorem dX5_asks_19 : decode cX5_asks 19 = .ok (.iconst 5, 1) := by decide +kernel
theorem dX5_asks_20 : decode cX5_asks 20 = .ok (.invokestatic 84, 3) := by decide +kernel
theorem dX5_asks_23 : decode cX5_asks 23 = .ok (.ifCond .eq 13, 3) := by decide +kernel
theorem dX5_asks_26 : decode cX5_asks 26 = .ok (.aload_n 0, 1) := by decide +kernel
theorem dX5_asks_27 : decode cX5_asks 27 = .ok (.iload_n 1, 1) := by decide +kernel
theorem dX5_asks_28 : decode cX5_asks 28 = .ok (.iload_n 2, 1) := by decide +kernel
theorem dX5_asks_29 : decode cX5_asks 29 = .ok (.iload_n 3, 1) := by decide +kernel
theorem dX5_asks_30 : decode cX5_asks 30 = .ok (.invokevirtual 182, 3) := by decide +kernel
theorem dX5_asks_33 : decode cX5_asks 33 = .ok (.goto 6, 3) := by decide +kernel
theorem dX5_asks_36 : decode cX5_asks 36 = .ok (.sipush (-1000), 3) := by decide +kernel
theorem dX5_asks_39 : decode cX5_asks 39 = .ok (.ireturn, 1) := by decide +kernel
theorem dX5_person_0 : decode cX5_person 0 = .ok (.iload_n 1, 1) := by decide +kernel
theorem dX5_person_1 : decode cX5_person 1 = .ok (.iconst 0, 1) := by decide +kernel
theorem dX5_person_2 : decode cX5_person 2 = .ok (.bipush 59, 2) := by decide +kernel
theorem dX5_person_4 : decode cX5_person 4 = .ok (.invokestatic 84, 3) := by decide +kernel
theorem dX5_person_7 : decode cX5_person 7 = .ok (.ifCond .eq 13, 3) := by decide +kernel
theorem dX5_person_10 : decode cX5_person 10 = .ok (.iload_n 2, 1) := by decide +kernel
theorem dX5_person_11 : decode cX5_person 11 = .ok (.iconst 0, 1) := by decide +kernel
theorem dX5_person_12 : decode cX5_person 12 = .ok (.bipush 99, 2) := by decide +kernel
theorem dX5_person_14 : decode cX5_person 14 = .ok (.invokestatic 84, 3) := by decide +kernel
theorem dX5_person_17 : decode cX5_person 17 = .ok (.ifCond .ne 6, 3) := by decide +kernel
theorem dX5_person_20 : decode cX5_person 20 = .ok (.bipush (-2), 2) := by decide +kernel
theorem dX5_person_22 : decode cX5_person 22 = .ok (.ireturn, 1) := by decide +kernel
theorem dX5_person_23 : decode cX5_person 23 = .ok (.aload_n 0, 1) := by decide +kernel
theorem dX5_person_24 : decode cX5_person 24 = .ok (.getfield 81, 3) := by decide +kernel
theorem dX5_person_27 : decode cX5_person 27 = .ok (.bipush 6, 2) := by decide +kernel
theorem dX5_person_29 : decode cX5_person 29 = .ok (.if_icmp .ne 6, 3) := by decide +kernel
theorem dX5_person_32 : decode cX5_person 32 = .ok (.bipush (-4), 2) := by decide +kernel
theorem dX5_person_34 : decode cX5_person 34 = .ok (.ireturn, 1) := by decide +kernel
theorem dX5_person_35 : decode cX5_person 35 = .ok (.aload_n 0, 1) := by decide +kernel
theorem dX5_person_36 : decode cX5_person 36 = .ok (.getfield 7, 3) := by decide +kernel
theorem dX5_person_39 : decode cX5_person 39 = .ok (.aload_n 0, 1) := by decide +kernel
theorem dX5_person_40 : decode cX5_person 40 = .ok (.getfield 81, 3) := by decide +kernel
theorem dX5_person_43 : decode cX5_person 43 = .ok (.iload_n 1, 1) := by decide +kernel
theorem dX5_person_44 : decode cX5_person 44 = .ok (.bipush 10, 2) := by decide +kernel
theorem dX5_person_46 : decode cX5_person 46 = .ok (.idiv, 1) := by decide +kernel
theorem dX5_person_47 : decode cX5_person 47 = .ok (.iastore, 1) := by decide +kernel
theorem dX5_person_48 : decode cX5_person 48 = .ok (.aload_n 0, 1) := by decide +kernel
theorem dX5_person_49 : decode cX5_person 49 = .ok (.getfield 13, 3) := by decide +kernel
theorem dX5_person_52 : decode cX5_person 52 = .ok (.aload_n 0, 1) := by decide +kernel
theorem dX5_person_53 : decode cX5_person 53 = .ok (.getfield 81, 3) := by decide +kernel
theorem dX5_person_56 : decode cX5_person 56 = .ok (.iload_n 1, 1) := by decide +kernel
theorem dX5_person_57 : decode cX5_person 57 = .ok (.bipush 10, 2) := by decide +kernel
theorem dX5_person_59 : decode cX5_person 59 = .ok (.irem, 1) := by decide +kernel
theorem dX5_person_60 : decode cX5_person 60 = .ok (.iastore, 1) := by decide +kernel
theorem dX5_person_61 : decode cX5_person 61 = .ok (.aload_n 0, 1) := by decide +kernel
theorem dX5_person_62 : decode cX5_person 62 = .ok (.getfield 16, 3) := by decide +kernel
theorem dX5_person_65 : decode cX5_person 65 = .ok (.iconst 3, 1) := by decide +kernel
theorem dX5_person_66 : decode cX5_person 66 = .ok (.aload_n 0, 1) := by decide +kernel
theorem dX5_person_67 : decode cX5_person 67 = .ok (.getfield 81, 3) := by decide +kernel
theorem dX5_person_70 : decode cX5_person 70 = .ok (.imul, 1) := by decide +kernel
theorem dX5_person_71 : decode cX5_person 71 = .ok (.iload_n 2, 1) := by decide +kernel
theorem dX5_person_72 : decode cX5_person 72 = .ok (.iastore, 1) := by decide +kernel
theorem dX5_person_73 : decode cX5_person 73 = .ok (.aload_n 0, 1) := by decide +kernel
theorem dX5_person_74 : decode cX5_person 74 = .ok (.getfield 16, 3) := by decide +kernel
theorem dX5_person_77 : decode cX5_person 77 = .ok (.iconst 3, 1) := by decide +kernel
theorem dX5_person_78 : decode cX5_person 78 = .ok (.aload_n 0, 1) := by decide +kernel
theorem dX5_person_79 : decode cX5_person 79 = .ok (.getfield 81, 3) := by decide +kernel
theorem dX5_person_82 : decode cX5_person 82 = .ok (.imul, 1) := by decide +kernel
theorem dX5_person_83 : decode cX5_person 83 = .ok (.iconst 1, 1) := by decide +kernel
theorem dX5_person_84 : decode cX5_person 84 = .ok (.iadd, 1) := by decide +kernel
theorem dX5_person_85 : decode cX5_person 85 = .ok (.iconst 0, 1) := by decide +kernel
theorem dX5_person_86 : decode cX5_person 86 = .ok (.iastore, 1) := by decide +kernel
theorem dX5_person_87 : decode cX5_person 87 = .ok (.aload_n 0, 1) := by decide +kernel
theorem dX5_person_88 : decode cX5_person 88 = .ok (.getfield 16, 3) := by decide +kernel
theorem dX5_person_91 : decode cX5_person 91 = .ok (.iconst 3, 1) := by decide +kernel
theorem dX5_person_92 : decode cX5_person 92 = .ok (.aload_n 0, 1) := by decide +kernel
theorem dX5_person_93 : decode cX5_person 93 = .ok (.getfield 81, 3) := by decide +kernel
theorem dX5_person_96 : decode cX5_person 96 = .ok (.imul, 1) := by decide +kernel
theorem dX5_person_97 : decode cX5_person 97 = .ok (.iconst 2, 1) := by decide +kernel
theorem dX5_person_98 : decode cX5_person 98 = .ok (.iadd, 1) := by decide +kernel
theorem dX5_person_99 : decode cX5_person 99 = .ok (.iconst 0, 1) := by decide +kernel
theorem dX5_person_100 : decode cX5_person 100 = .ok (.iastore, 1) := by decide +kernel
theorem dX5_person_101 : decode cX5_person 101 = .ok (.aload_n 0, 1) := by decide +kernel
theorem dX5_person_102 : decode cX5_person 102 = .ok (.dup, 1) := by decide +kernel
theorem dX5_person_103 : decode cX5_person 103 = .ok (.getfield 81, 3) := by decide +kernel
theorem dX5_person_106 : decode cX5_person 106 = .ok (.iconst 1, 1) := by decide +kernel
theorem dX5_person_107 : decode cX5_person 107 = .ok (.iadd, 1) := by decide +kernel
theorem dX5_person_108 : decode cX5_person 108 = .ok (.putfield 81, 3) := by decide +kernel
theorem dX5_person_111 : decode cX5_person 111 = .ok (.aload_n 0, 1) := by decide +kernel
theorem dX5_person_112 : decode cX5_person 112 = .ok (.getfield 81, 3) := by decide +kernel
theorem dX5_person_115 : decode cX5_person 115 = .ok (.iconst 1, 1) := by decide +kernel
theorem dX5_person_116 : decode cX5_person 116 = .ok (.isub, 1) := by decide +kernel
theorem dX5_person_117 : decode cX5_person 117 = .ok (.ireturn, 1) := by decide +kernel
theorem dX5_put_0 : decode cX5_put 0 = .ok (.aload_n 0, 1) := by decide +kernel
theorem dX5_put_1 : decode cX5_put 1 = .ok (.iload_n 1, 1) := by decide +kernel
theorem dX5_put_2 : decode cX5_put 2 = .ok (.invokevirtual 179, 3) := by decide +kernel
theorem dX5_put_5 : decode cX5_put 5 = .ok (.ifCond .ne 6, 3) := by decide +kernel
theorem dX5_put_8 : decode cX5_put 8 = .ok (.bipush (-5), 2) := by decide +kernel
theorem dX5_put_10 : decode cX5_put 10 = .ok (.ireturn, 1) := by decide +kernel
theorem dX5_put_11 : decode cX5_put 11 = .ok (.iload_n 2, 1) := by decide +kernel
theorem dX5_put_12 : decode cX5_put 12 = .ok (.iconst 0, 1) := by decide +kernel
theorem dX5_put_13 : decode cX5_put 13 = .ok (.iconst 1, 1) := by decide +kernel
theorem dX5_put_14 : decode cX5_put 14 = .ok (.invokestatic 84, 3) := by decide +kernel
theorem dX5_put_17 : decode cX5_put 17 = .ok (.ifCond .eq 23, 3) := by decide +kernel
theorem dX5_put_20 : decode cX5_put 20 = .ok (.iload_n 3, 1) := by decide +kernel
theorem dX5_put_21 : decode cX5_put 21 = .ok (.iconst 0, 1) := by decide +kernel
theorem dX5_put_22 : decode cX5_put 22 = .ok (.iload_n 2, 1) := by decide +kernel
theorem dX5_put_23 : decode cX5_put 23 = .ok (.ifCond .ne 8, 3) := by decide +kernel
theorem dX5_put_26 : decode cX5_put 26 = .ok (.bipush 99, 2) := by decide +kernel
theorem dX5_put_28 : decode cX5_put 28 = .ok (.goto 6, 3) := by decide +kernel
theorem dX5_put_31 : decode cX5_put 31 = .ok (.sipush 9999, 3) := by decide +kernel
theorem dX5_put_34 : decode cX5_put 34 = .ok (.invokestatic 84, 3) := by decide +kernel
theorem dX5_put_37 : decode cX5_put 37 = .ok (.ifCond .ne 6, 3) := by decide +kernel
theorem dX5_put_40 : decode cX5_put 40 = .ok (.bipush (-7), 2) := by decide +kernel
theorem dX5_put_42 : decode cX5_put 42 = .ok (.ireturn, 1) := by decide +kernel
theorem dX5_put_43 : decode cX5_put 43 = .ok (.aload_n 0, 1) := by decide +kernel
theorem dX5_put_44 : decode cX5_put 44 = .ok (.getfield 16, 3) := by decide +kernel
theorem dX5_put_47 : decode cX5_put 47 = .ok (.iconst 3, 1) := by decide +kernel
theorem dX5_put_48 : decode cX5_put 48 = .ok (.iload_n 1, 1) := by decide +kernel
theorem dX5_put_49 : decode cX5_put 49 = .ok (.imul, 1) := by decide +kernel
theorem dX5_put_50 : decode cX5_put 50 = .ok (.iload_n 2, 1) := by decide +kernel
theorem dX5_put_51 : decode cX5_put 51 = .ok (.iadd, 1) := by decide +kernel
theorem dX5_put_52 : decode cX5_put 52 = .ok (.iaload, 1) := by decide +kernel
theorem dX5_put_53 : decode cX5_put 53 = .ok (.istore 4, 2) := by decide +kernel
theorem dX5_put_55 : decode cX5_put 55 = .ok (.aload_n 0, 1) := by decide +kernel
theorem dX5_put_56 : decode cX5_put 56 = .ok (.getfield 16, 3) := by decide +kernel
theorem dX5_put_59 : decode cX5_put 59 = .ok (.iconst 3, 1) := by decide +kernel
theorem dX5_put_60 : decode cX5_put 60 = .ok (.iload_n 1, 1) := by decide +kernel
theorem dX5_put_61 : decode cX5_put 61 = .ok (.imul, 1) := by decide +kernel
theorem dX5_put_62 : decode cX5_put 62 = .ok (.iload_n 2, 1) := by decide +kernel
theorem dX5_put_63 : decode cX5_put 63 = .ok (.iadd, 1) := by decide +kernel
theorem dX5_put_64 : decode cX5_put 64 = .ok (.iload_n 3, 1) := by decide +kernel
theorem dX5_put_65 : decode cX5_put 65 = .ok (.iastore, 1) := by decide +kernel
theorem dX5_put_66 : decode cX5_put 66 = .ok (.iload 4, 2) := by decide +kernel
theorem dX5_put_68 : decode cX5_put 68 = .ok (.ireturn, 1) := by decide +kernel
theorem dX5_takesOf_0 : decode cX5_takesOf 0 = .ok (.aload_n 0, 1) := by decide +kernel
theorem dX5_takesOf_1 : decode cX5_takesOf 1 = .ok (.iconst 0, 1) := by decide +kernel
theorem dX5_takesOf_2 : decode cX5_takesOf 2 = .ok (.iload_n 1, 1) := by decide +kernel
theorem dX5_takesOf_3 : decode cX5_takesOf 3 = .ok (.iconst (-1), 1) := by decide +kernel
theorem dX5_takesOf_4 : decode cX5_takesOf 4 = .ok (.invokevirtual 182, 3) := by decide +kernel
theorem dX5_takesOf_7 : decode cX5_takesOf 7 = .ok (.istore_n 2, 1) := by decide +kernel
theorem dX5_takesOf_8 : decode cX5_takesOf 8 = .ok (.aload_n 0, 1) := by decide +kernel
theorem dX5_takesOf_9 : decode cX5_takesOf 9 = .ok (.getfield 7, 3) := by decide +kernel
theorem dX5_takesOf_12 : decode cX5_takesOf 12 = .ok (.iload_n 1, 1) := by decide +kernel
theorem dX5_takesOf_13 : decode cX5_takesOf 13 = .ok (.iaload, 1) := by decide +kernel
theorem dX5_takesOf_14 : decode cX5_takesOf 14 = .ok (.tableswitch 74 1 5 #[34, 38, 49, 38, 71], 34) := by decide +kernel
theorem dX5_takesOf_48 : decode cX5_takesOf 48 = .ok (.iload_n 2, 1) := by decide +kernel
theorem dX5_takesOf_49 : decode cX5_takesOf 49 = .ok (.iconst 4, 1) := by decide +kernel
theorem dX5_takesOf_50 : decode cX5_takesOf 50 = .ok (.idiv, 1) := by decide +kernel
theorem dX5_takesOf_51 : decode cX5_takesOf 51 = .ok (.ireturn, 1) := by decide +kernel
theorem dX5_takesOf_52 : decode cX5_takesOf 52 = .ok (.iload_n 2, 1) := by decide +kernel
theorem dX5_takesOf_53 : decode cX5_takesOf 53 = .ok (.iconst 5, 1) := by decide +kernel
theorem dX5_takesOf_54 : decode cX5_takesOf 54 = .ok (.aload_n 0, 1) := by decide +kernel
theorem dX5_takesOf_55 : decode cX5_takesOf 55 = .ok (.getfield 13, 3) := by decide +kernel
theorem dX5_takesOf_58 : decode cX5_takesOf 58 = .ok (.iload_n 1, 1) := by decide +kernel
theorem dX5_takesOf_59 : decode cX5_takesOf 59 = .ok (.iaload, 1) := by decide +kernel
theorem dX5_takesOf_60 : decode cX5_takesOf 60 = .ok (.imul, 1) := by decide +kernel
theorem dX5_takesOf_61 : decode cX5_takesOf 61 = .ok (.iadd, 1) := by decide +kernel
theorem dX5_takesOf_62 : decode cX5_takesOf 62 = .ok (.ireturn, 1) := by decide +kernel
theorem dX5_takesOf_63 : decode cX5_takesOf 63 = .ok (.aload_n 0, 1) := by decide +kernel
theorem dX5_takesOf_64 : decode cX5_takesOf 64 = .ok (.getfield 91, 3) := by decide +kernel
theorem dX5_takesOf_67 : decode cX5_takesOf 67 = .ok (.iconst 2, 1) := by decide +kernel
theorem dX5_takesOf_68 : decode cX5_takesOf 68 = .ok (.irem, 1) := by decide +kernel
theorem dX5_takesOf_69 : decode cX5_takesOf 69 = .ok (.ifCond .ne 12, 3) := by decide +kernel
theorem dX5_takesOf_72 : decode cX5_takesOf 72 = .ok (.aload_n 0, 1) := by decide +kernel
theorem dX5_takesOf_73 : decode cX5_takesOf 73 = .ok (.getfield 13, 3) := by decide +kernel
theorem dX5_takesOf_76 : decode cX5_takesOf 76 = .ok (.iload_n 1, 1) := by decide +kernel
theorem dX5_takesOf_77 : decode cX5_takesOf 77 = .ok (.iaload, 1) := by decide +kernel
theorem dX5_takesOf_78 : decode cX5_takesOf 78 = .ok (.goto 6, 3) := by decide +kernel
theorem dX5_takesOf_81 : decode cX5_takesOf 81 = .ok (.iload_n 2, 1) := by decide +kernel
theorem dX5_takesOf_82 : decode cX5_takesOf 82 = .ok (.iconst 4, 1) := by decide +kernel
theorem dX5_takesOf_83 : decode cX5_takesOf 83 = .ok (.idiv, 1) := by decide +kernel
theorem dX5_takesOf_84 : decode cX5_takesOf 84 = .ok (.ireturn, 1) := by decide +kernel
theorem dX5_takesOf_85 : decode cX5_takesOf 85 = .ok (.bipush 99, 2) := by decide +kernel
theorem dX5_takesOf_87 : decode cX5_takesOf 87 = .ok (.ireturn, 1) := by decide +kernel
theorem dX5_takesOf_88 : decode cX5_takesOf 88 = .ok (.iload_n 2, 1) := by decide +kernel
theorem dX5_takesOf_89 : decode cX5_takesOf 89 = .ok (.ireturn, 1) := by decide +kernel
theorem dX5_soundsOf_0 : decode cX5_soundsOf 0 = .ok (.aload_n 0, 1) := by decide +kernel
theorem dX5_soundsOf_1 : decode cX5_soundsOf 1 = .ok (.iconst 1, 1) := by decide +kernel
theorem dX5_soundsOf_2 : decode cX5_soundsOf 2 = .ok (.iload_n 1, 1) := by decide +kernel
theorem dX5_soundsOf_3 : decode cX5_soundsOf 3 = .ok (.iload_n 2, 1) := by decide +kernel
theorem dX5_soundsOf_4 : decode cX5_soundsOf 4 = .ok (.invokevirtual 182, 3) := by decide +kernel
theorem dX5_soundsOf_7 : decode cX5_soundsOf 7 = .ok (.istore_n 3, 1) := by decide +kernel
theorem dX5_soundsOf_8 : decode cX5_soundsOf 8 = .ok (.aload_n 0, 1) := by decide +kernel
theorem dX5_soundsOf_9 : decode cX5_soundsOf 9 = .ok (.getfield 7, 3) := by decide +kernel
theorem dX5_soundsOf_12 : decode cX5_soundsOf 12 = .ok (.iload_n 1, 1) := by decide +kernel
theorem dX5_soundsOf_13 : decode cX5_soundsOf 13 = .ok (.iaload, 1) := by decide +kernel
theorem dX5_soundsOf_14 : decode cX5_soundsOf 14 = .ok (.tableswitch 52 1 4 #[30, 52, 39, 50], 30) := by decide +kernel
theorem dX5_soundsOf_44 : decode cX5_soundsOf 44 = .ok (.iload_n 3, 1) := by decide +kernel
theorem dX5_soundsOf_45 : decode cX5_soundsOf 45 = .ok (.aload_n 0, 1) := by decide +kernel
theorem dX5_soundsOf_46 : decode cX5_soundsOf 46 = .ok (.getfield 13, 3) := by decide +kernel
theorem dX5_soundsOf_49 : decode cX5_soundsOf 49 = .ok (.iload_n 1, 1) := by decide +kernel
theorem dX5_soundsOf_50 : decode cX5_soundsOf 50 = .ok (.iaload, 1) := by decide +kernel
theorem dX5_soundsOf_51 : decode cX5_soundsOf 51 = .ok (.iadd, 1) := by decide +kernel
theorem dX5_soundsOf_52 : decode cX5_soundsOf 52 = .ok (.ireturn, 1) := by decide +kernel
theorem dX5_soundsOf_53 : decode cX5_soundsOf 53 = .ok (.iconst 3, 1) := by decide +kernel
theorem dX5_soundsOf_54 : decode cX5_soundsOf 54 = .ok (.iload_n 3, 1) := by decide +kernel
theorem dX5_soundsOf_55 : decode cX5_soundsOf 55 = .ok (.aload_n 0, 1) := by decide +kernel
theorem dX5_soundsOf_56 : decode cX5_soundsOf 56 = .ok (.getfield 13, 3) := by decide +kernel
theorem dX5_soundsOf_59 : decode cX5_soundsOf 59 = .ok (.iload_n 1, 1) := by decide +kernel
theorem dX5_soundsOf_60 : decode cX5_soundsOf 60 = .ok (.iaload, 1) := by decide +kernel
theorem dX5_soundsOf_61 : decode cX5_soundsOf 61 = .ok (.iadd, 1) := by decide +kernel
theorem dX5_soundsOf_62 : decode cX5_soundsOf 62 = .ok (.imul, 1) := by decide +kernel
theorem dX5_soundsOf_63 : decode cX5_soundsOf 63 = .ok (.ireturn, 1) := by decide +kernel
theorem dX5_soundsOf_64 : decode cX5_soundsOf 64 = .ok (.iconst 0, 1) := by decide +kernel
theorem dX5_soundsOf_65 : decode cX5_soundsOf 65 = .ok (.ireturn, 1) := by decide +kernel
theorem dX5_soundsOf_66 : decode cX5_soundsOf 66 = .ok (.iload_n 3, 1) := by decide +kernel
theorem dX5_soundsOf_67 : decode cX5_soundsOf 67 = .ok (.ireturn, 1) := by decide +kernel
theorem dX5_costsOf_0 : decode cX5_costsOf 0 = .ok (.aload_n 0, 1) := by decide +kernel
theorem dX5_costsOf_1 : decode cX5_costsOf 1 = .ok (.iconst 2, 1) := by decide +kernel
theorem dX5_costsOf_2 : decode cX5_costsOf 2 = .ok (.iload_n 1, 1) := by decide +kernel
theorem dX5_costsOf_3 : decode cX5_costsOf 3 = .ok (.iload_n 2, 1) := by decide +kernel
theorem dX5_costsOf_4 : decode cX5_costsOf 4 = .ok (.invokevirtual 182, 3) := by decide +kernel
theorem dX5_costsOf_7 : decode cX5_costsOf 7 = .ok (.istore_n 3, 1) := by decide +kernel
theorem dX5_costsOf_8 : decode cX5_costsOf 8 = .ok (.aload_n 0, 1) := by decide +kernel
theorem dX5_costsOf_9 : decode cX5_costsOf 9 = .ok (.getfield 7, 3) := by decide +kernel
theorem dX5_costsOf_12 : decode cX5_costsOf 12 = .ok (.iload_n 1, 1) := by decide +kernel
theorem dX5_costsOf_13 : decode cX5_costsOf 13 = .ok (.iaload, 1) := by decide +kernel
theorem dX5_costsOf_14 : decode cX5_costsOf 14 = .ok (.tableswitch 47 2 5 #[30, 47, 34, 45], 30) := by decide +kernel
theorem dX5_costsOf_44 : decode cX5_costsOf 44 = .ok (.iconst 2, 1) := by decide +kernel
theorem dX5_costsOf_45 : decode cX5_costsOf 45 = .ok (.iload_n 3, 1) := by decide +kernel
theorem dX5_costsOf_46 : decode cX5_costsOf 46 = .ok (.imul, 1) := by decide +kernel
theorem dX5_costsOf_47 : decode cX5_costsOf 47 = .ok (.ireturn, 1) := by decide +kernel
theorem dX5_costsOf_48 : decode cX5_costsOf 48 = .ok (.iconst 2, 1) := by decide +kernel
theorem dX5_costsOf_49 : decode cX5_costsOf 49 = .ok (.iload_n 3, 1) := by decide +kernel
theorem dX5_costsOf_50 : decode cX5_costsOf 50 = .ok (.imul, 1) := by decide +kernel
theorem dX5_costsOf_51 : decode cX5_costsOf 51 = .ok (.aload_n 0, 1) := by decide +kernel
theorem dX5_costsOf_52 : decode cX5_costsOf 52 = .ok (.getfield 13, 3) := by decide +kernel
theorem dX5_costsOf_55 : decode cX5_costsOf 55 = .ok (.iload_n 1, 1) := by decide +kernel
theorem dX5_costsOf_56 : decode cX5_costsOf 56 = .ok (.iaload, 1) := by decide +kernel
theorem dX5_costsOf_57 : decode cX5_costsOf 57 = .ok (.isub, 1) := by decide +kernel
theorem dX5_costsOf_58 : decode cX5_costsOf 58 = .ok (.ireturn, 1) := by decide +kernel
theorem dX5_costsOf_59 : decode cX5_costsOf 59 = .ok (.iconst 0, 1) := by decide +kernel
theorem dX5_costsOf_60 : decode cX5_costsOf 60 = .ok (.ireturn, 1) := by decide +kernel
theorem dX5_costsOf_61 : decode cX5_costsOf 61 = .ok (.iload_n 3, 1) := by decide +kernel
theorem dX5_costsOf_62 : decode cX5_costsOf 62 = .ok (.ireturn, 1) := by decide +kernel
theorem dX5_theCoin_0 : decode cX5_theCoin 0 = .ok (.aload_n 0, 1) := by decide +kernel
theorem dX5_theCoin_1 : decode cX5_theCoin 1 = .ok (.iload_n 1, 1) := by decide +kernel
theorem dX5_theCoin_2 : decode cX5_theCoin 2 = .ok (.invokevirtual 185, 3) := by decide +kernel
theorem dX5_theCoin_5 : decode cX5_theCoin 5 = .ok (.istore_n 2, 1) := by decide +kernel
theorem dX5_theCoin_6 : decode cX5_theCoin 6 = .ok (.iconst (-1), 1) := by decide +kernel
theorem dX5_theCoin_7 : decode cX5_theCoin 7 = .ok (.istore_n 3, 1) := by decide +kernel
theorem dX5_theCoin_8 : decode cX5_theCoin 8 = .ok (.iconst 0, 1) := by decide +kernel
theorem dX5_theCoin_9 : decode cX5_theCoin 9 = .ok (.istore 4, 2) := by decide +kernel
theorem dX5_theCoin_11 : decode cX5_theCoin 11 = .ok (.iconst (-1), 1) := by decide +kernel
theorem dX5_theCoin_12 : decode cX5_theCoin 12 = .ok (.istore 5, 2) := by decide +kernel
theorem dX5_theCoin_14 : decode cX5_theCoin 14 = .ok (.iconst 0, 1) := by decide +kernel
theorem dX5_theCoin_15 : decode cX5_theCoin 15 = .ok (.istore 6, 2) := by decide +kernel
theorem dX5_theCoin_17 : decode cX5_theCoin 17 = .ok (.iconst 0, 1) := by decide +kernel
theorem dX5_theCoin_18 : decode cX5_theCoin 18 = .ok (.istore 7, 2) := by decide +kernel
theorem dX5_theCoin_20 : decode cX5_theCoin 20 = .ok (.iload 7, 2) := by decide +kernel
theorem dX5_theCoin_22 : decode cX5_theCoin 22 = .ok (.bipush 6, 2) := by decide +kernel
theorem dX5_theCoin_24 : decode cX5_theCoin 24 = .ok (.if_icmp .ge 133, 3) := by decide +kernel
theorem dX5_theCoin_27 : decode cX5_theCoin 27 = .ok (.aload_n 0, 1) := by decide +kernel
theorem dX5_theCoin_28 : decode cX5_theCoin 28 = .ok (.getfield 19, 3) := by decide +kernel
theorem dX5_theCoin_31 : decode cX5_theCoin 31 = .ok (.iconst 2, 1) := by decide +kernel
theorem dX5_theCoin_32 : decode cX5_theCoin 32 = .ok (.iload 7, 2) := by decide +kernel
theorem dX5_theCoin_34 : decode cX5_theCoin 34 = .ok (.imul, 1) := by decide +kernel
theorem dX5_theCoin_35 : decode cX5_theCoin 35 = .ok (.iconst 1, 1) := by decide +kernel
theorem dX5_theCoin_36 : decode cX5_theCoin 36 = .ok (.iadd, 1) := by decide +kernel
theorem dX5_theCoin_37 : decode cX5_theCoin 37 = .ok (.iaload, 1) := by decide +kernel
theorem dX5_theCoin_38 : decode cX5_theCoin 38 = .ok (.ifCond .le 113, 3) := by decide +kernel
theorem dX5_theCoin_41 : decode cX5_theCoin 41 = .ok (.aload_n 0, 1) := by decide +kernel
theorem dX5_theCoin_42 : decode cX5_theCoin 42 = .ok (.getfield 19, 3) := by decide +kernel
theorem dX5_theCoin_45 : decode cX5_theCoin 45 = .ok (.iconst 2, 1) := by decide +kernel
theorem dX5_theCoin_46 : decode cX5_theCoin 46 = .ok (.iload 7, 2) := by decide +kernel
theorem dX5_theCoin_48 : decode cX5_theCoin 48 = .ok (.imul, 1) := by decide +kernel
theorem dX5_theCoin_49 : decode cX5_theCoin 49 = .ok (.iaload, 1) := by decide +kernel
theorem dX5_theCoin_50 : decode cX5_theCoin 50 = .ok (.istore 8, 2) := by decide +kernel
theorem dX5_theCoin_52 : decode cX5_theCoin 52 = .ok (.iload 8, 2) := by decide +kernel
theorem dX5_theCoin_54 : decode cX5_theCoin 54 = .ok (.iload_n 2, 1) := by decide +kernel
theorem dX5_theCoin_55 : decode cX5_theCoin 55 = .ok (.if_icmp .gt 19, 3) := by decide +kernel
theorem dX5_theCoin_58 : decode cX5_theCoin 58 = .ok (.iload_n 3, 1) := by decide +kernel
theorem dX5_theCoin_59 : decode cX5_theCoin 59 = .ok (.iconst (-1), 1) := by decide +kernel
theorem dX5_theCoin_60 : decode cX5_theCoin 60 = .ok (.if_icmp .eq 10, 3) := by decide +kernel
theorem dX5_theCoin_63 : decode cX5_theCoin 63 = .ok (.iload 8, 2) := by decide +kernel
theorem dX5_theCoin_65 : decode cX5_theCoin 65 = .ok (.iload 4, 2) := by decide +kernel
theorem dX5_theCoin_67 : decode cX5_theCoin 67 = .ok (.if_icmp .le 7, 3) := by decide +kernel
theorem dX5_theCoin_70 : decode cX5_theCoin 70 = .ok (.iconst 1, 1) := by decide +kernel
theorem dX5_theCoin_71 : decode cX5_theCoin 71 = .ok (.goto 4, 3) := by decide +kernel
theorem dX5_theCoin_74 : decode cX5_theCoin 74 = .ok (.iconst 0, 1) := by decide +kernel
theorem dX5_theCoin_75 : decode cX5_theCoin 75 = .ok (.istore 9, 2) := by decide +kernel
theorem dX5_theCoin_77 : decode cX5_theCoin 77 = .ok (.iload 9, 2) := by decide +kernel
theorem dX5_theCoin_79 : decode cX5_theCoin 79 = .ok (.ifCond .eq 8, 3) := by decide +kernel
theorem dX5_theCoin_82 : decode cX5_theCoin 82 = .ok (.iload 7, 2) := by decide +kernel
theorem dX5_theCoin_84 : decode cX5_theCoin 84 = .ok (.goto 4, 3) := by decide +kernel
theorem dX5_theCoin_87 : decode cX5_theCoin 87 = .ok (.iload_n 3, 1) := by decide +kernel
theorem dX5_theCoin_88 : decode cX5_theCoin 88 = .ok (.istore_n 3, 1) := by decide +kernel
theorem dX5_theCoin_89 : decode cX5_theCoin 89 = .ok (.iload 9, 2) := by decide +kernel
theorem dX5_theCoin_91 : decode cX5_theCoin 91 = .ok (.ifCond .eq 8, 3) := by decide +kernel
theorem dX5_theCoin_94 : decode cX5_theCoin 94 = .ok (.iload 8, 2) := by decide +kernel
theorem dX5_theCoin_96 : decode cX5_theCoin 96 = .ok (.goto 5, 3) := by decide +kernel
theorem dX5_theCoin_99 : decode cX5_theCoin 99 = .ok (.iload 4, 2) := by decide +kernel
theorem dX5_theCoin_101 : decode cX5_theCoin 101 = .ok (.istore 4, 2) := by decide +kernel
theorem dX5_theCoin_103 : decode cX5_theCoin 103 = .ok (.iload 5, 2) := by decide +kernel
theorem dX5_theCoin_105 : decode cX5_theCoin 105 = .ok (.iconst (-1), 1) := by decide +kernel
theorem dX5_theCoin_106 : decode cX5_theCoin 106 = .ok (.if_icmp .eq 10, 3) := by decide +kernel
theorem dX5_theCoin_109 : decode cX5_theCoin 109 = .ok (.iload 8, 2) := by decide +kernel
theorem dX5_theCoin_111 : decode cX5_theCoin 111 = .ok (.iload 6, 2) := by decide +kernel
theorem dX5_theCoin_113 : decode cX5_theCoin 113 = .ok (.if_icmp .ge 7, 3) := by decide +kernel
theorem dX5_theCoin_116 : decode cX5_theCoin 116 = .ok (.iconst 1, 1) := by decide +kernel
theorem dX5_theCoin_117 : decode cX5_theCoin 117 = .ok (.goto 4, 3) := by decide +kernel
theorem dX5_theCoin_120 : decode cX5_theCoin 120 = .ok (.iconst 0, 1) := by decide +kernel
theorem dX5_theCoin_121 : decode cX5_theCoin 121 = .ok (.istore 10, 2) := by decide +kernel
theorem dX5_theCoin_123 : decode cX5_theCoin 123 = .ok (.iload 10, 2) := by decide +kernel
theorem dX5_theCoin_125 : decode cX5_theCoin 125 = .ok (.ifCond .eq 8, 3) := by decide +kernel
theorem dX5_theCoin_128 : decode cX5_theCoin 128 = .ok (.iload 7, 2) := by decide +kernel
theorem dX5_theCoin_130 : decode cX5_theCoin 130 = .ok (.goto 5, 3) := by decide +kernel
theorem dX5_theCoin_133 : decode cX5_theCoin 133 = .ok (.iload 5, 2) := by decide +kernel
theorem dX5_theCoin_135 : decode cX5_theCoin 135 = .ok (.istore 5, 2) := by decide +kernel
theorem dX5_theCoin_137 : decode cX5_theCoin 137 = .ok (.iload 10, 2) := by decide +kernel
theorem dX5_theCoin_139 : decode cX5_theCoin 139 = .ok (.ifCond .eq 8, 3) := by decide +kernel
theorem dX5_theCoin_142 : decode cX5_theCoin 142 = .ok (.iload 8, 2) := by decide +kernel
theorem dX5_theCoin_144 : decode cX5_theCoin 144 = .ok (.goto 5, 3) := by decide +kernel
theorem dX5_theCoin_147 : decode cX5_theCoin 147 = .ok (.iload 6, 2) := by decide +kernel
theorem dX5_theCoin_149 : decode cX5_theCoin 149 = .ok (.istore 6, 2) := by decide +kernel
theorem dX5_theCoin_151 : decode cX5_theCoin 151 = .ok (.iinc 7 1, 3) := by decide +kernel
theorem dX5_theCoin_154 : decode cX5_theCoin 154 = .ok (.goto (-134), 3) := by decide +kernel
theorem dX5_theCoin_157 : decode cX5_theCoin 157 = .ok (.iload_n 3, 1) := by decide +kernel
theorem dX5_theCoin_158 : decode cX5_theCoin 158 = .ok (.iconst (-1), 1) := by decide +kernel
theorem dX5_theCoin_159 : decode cX5_theCoin 159 = .ok (.if_icmp .ne 8, 3) := by decide +kernel
theorem dX5_theCoin_162 : decode cX5_theCoin 162 = .ok (.iload 5, 2) := by decide +kernel
theorem dX5_theCoin_164 : decode cX5_theCoin 164 = .ok (.goto 4, 3) := by decide +kernel
theorem dX5_theCoin_167 : decode cX5_theCoin 167 = .ok (.iload_n 3, 1) := by decide +kernel
theorem dX5_theCoin_168 : decode cX5_theCoin 168 = .ok (.ireturn, 1) := by decide +kernel
theorem dX5_told_0 : decode cX5_told 0 = .ok (.aload_n 0, 1) := by decide +kernel
theorem dX5_told_1 : decode cX5_told 1 = .ok (.iload_n 1, 1) := by decide +kernel
theorem dX5_told_2 : decode cX5_told 2 = .ok (.invokevirtual 179, 3) := by decide +kernel
theorem dX5_told_5 : decode cX5_told 5 = .ok (.ifCond .ne 6, 3) := by decide +kernel
theorem dX5_told_8 : decode cX5_told 8 = .ok (.bipush (-5), 2) := by decide +kernel
theorem dX5_told_10 : decode cX5_told 10 = .ok (.ireturn, 1) := by decide +kernel
theorem dX5_told_11 : decode cX5_told 11 = .ok (.iload_n 2, 1) := by decide +kernel
theorem dX5_told_12 : decode cX5_told 12 = .ok (.tableswitch 81 0 6 #[44, 44, 44, 55, 62, 69, 75], 44) := by decide +kernel
theorem dX5_told_56 : decode cX5_told 56 = .ok (.aload_n 0, 1) := by decide +kernel
theorem dX5_told_57 : decode cX5_told 57 = .ok (.getfield 16, 3) := by decide +kernel
theorem dX5_told_60 : decode cX5_told 60 = .ok (.iconst 3, 1) := by decide +kernel
theorem dX5_told_61 : decode cX5_told 61 = .ok (.iload_n 1, 1) := by decide +kernel
theorem dX5_told_62 : decode cX5_told 62 = .ok (.imul, 1) := by decide +kernel
theorem dX5_told_63 : decode cX5_told 63 = .ok (.iload_n 2, 1) := by decide +kernel
theorem dX5_told_64 : decode cX5_told 64 = .ok (.iadd, 1) := by decide +kernel
theorem dX5_told_65 : decode cX5_told 65 = .ok (.iaload, 1) := by decide +kernel
theorem dX5_told_66 : decode cX5_told 66 = .ok (.ireturn, 1) := by decide +kernel
theorem dX5_told_67 : decode cX5_told 67 = .ok (.aload_n 0, 1) := by decide +kernel
theorem dX5_told_68 : decode cX5_told 68 = .ok (.getfield 7, 3) := by decide +kernel
theorem dX5_told_71 : decode cX5_told 71 = .ok (.iload_n 1, 1) := by decide +kernel
theorem dX5_told_72 : decode cX5_told 72 = .ok (.iaload, 1) := by decide +kernel
theorem dX5_told_73 : decode cX5_told 73 = .ok (.ireturn, 1) := by decide +kernel
theorem dX5_told_74 : decode cX5_told 74 = .ok (.aload_n 0, 1) := by decide +kernel
theorem dX5_told_75 : decode cX5_told 75 = .ok (.getfield 13, 3) := by decide +kernel
theorem dX5_told_78 : decode cX5_told 78 = .ok (.iload_n 1, 1) := by decide +kernel
theorem dX5_told_79 : decode cX5_told 79 = .ok (.iaload, 1) := by decide +kernel
theorem dX5_told_80 : decode cX5_told 80 = .ok (.ireturn, 1) := by decide +kernel
theorem dX5_told_81 : decode cX5_told 81 = .ok (.aload_n 0, 1) := by decide +kernel
theorem dX5_told_82 : decode cX5_told 82 = .ok (.iload_n 1, 1) := by decide +kernel
theorem dX5_told_83 : decode cX5_told 83 = .ok (.invokevirtual 185, 3) := by decide +kernel
theorem dX5_told_86 : decode cX5_told 86 = .ok (.ireturn, 1) := by decide +kernel
theorem dX5_told_87 : decode cX5_told 87 = .ok (.aload_n 0, 1) := by decide +kernel
theorem dX5_told_88 : decode cX5_told 88 = .ok (.iload_n 1, 1) := by decide +kernel
theorem dX5_told_89 : decode cX5_told 89 = .ok (.invokevirtual 188, 3) := by decide +kernel
theorem dX5_told_92 : decode cX5_told 92 = .ok (.ireturn, 1) := by decide +kernel
theorem dX5_told_93 : decode cX5_told 93 = .ok (.bipush (-7), 2) := by decide +kernel
theorem dX5_told_95 : decode cX5_told 95 = .ok (.ireturn, 1) := by decide +kernel
theorem dX5_coin_0 : decode cX5_coin 0 = .ok (.aload_n 0, 1) := by decide +kernel
theorem dX5_coin_1 : decode cX5_coin 1 = .ok (.iload_n 1, 1) := by decide +kernel
theorem dX5_coin_2 : decode cX5_coin 2 = .ok (.invokevirtual 179, 3) := by decide +kernel
theorem dX5_coin_5 : decode cX5_coin 5 = .ok (.ifCond .ne 6, 3) := by decide +kernel
theorem dX5_coin_8 : decode cX5_coin 8 = .ok (.bipush (-5), 2) := by decide +kernel
theorem dX5_coin_10 : decode cX5_coin 10 = .ok (.ireturn, 1) := by decide +kernel
theorem dX5_coin_11 : decode cX5_coin 11 = .ok (.iload_n 2, 1) := by decide +kernel
theorem dX5_coin_12 : decode cX5_coin 12 = .ok (.invokestatic 103, 3) := by decide +kernel
theorem dX5_coin_15 : decode cX5_coin 15 = .ok (.ifCond .ne 6, 3) := by decide +kernel
theorem dX5_coin_18 : decode cX5_coin 18 = .ok (.bipush (-6), 2) := by decide +kernel
theorem dX5_coin_20 : decode cX5_coin 20 = .ok (.ireturn, 1) := by decide +kernel
theorem dX5_coin_21 : decode cX5_coin 21 = .ok (.iload_n 3, 1) := by decide +kernel
theorem dX5_coin_22 : decode cX5_coin 22 = .ok (.ifCond .ne 12, 3) := by decide +kernel
theorem dX5_coin_25 : decode cX5_coin 25 = .ok (.aload_n 0, 1) := by decide +kernel
theorem dX5_coin_26 : decode cX5_coin 26 = .ok (.iload_n 1, 1) := by decide +kernel
theorem dX5_coin_27 : decode cX5_coin 27 = .ok (.iload_n 2, 1) := by decide +kernel
theorem dX5_coin_28 : decode cX5_coin 28 = .ok (.invokevirtual 191, 3) := by decide +kernel
theorem dX5_coin_31 : decode cX5_coin 31 = .ok (.goto 23, 3) := by decide +kernel
theorem dX5_coin_34 : decode cX5_coin 34 = .ok (.iload_n 3, 1) := by decide +kernel
theorem dX5_coin_35 : decode cX5_coin 35 = .ok (.iconst 1, 1) := by decide +kernel
theorem dX5_coin_36 : decode cX5_coin 36 = .ok (.if_icmp .ne 16, 3) := by decide +kernel
theorem dX5_coin_39 : decode cX5_coin 39 = .ok (.sipush 1000, 3) := by decide +kernel
theorem dX5_coin_42 : decode cX5_coin 42 = .ok (.aload_n 0, 1) := by decide +kernel
theorem dX5_coin_43 : decode cX5_coin 43 = .ok (.iload_n 1, 1) := by decide +kernel
theorem dX5_coin_44 : decode cX5_coin 44 = .ok (.iload_n 2, 1) := by decide +kernel
theorem dX5_coin_45 : decode cX5_coin 45 = .ok (.invokevirtual 194, 3) := by decide +kernel
theorem dX5_coin_48 : decode cX5_coin 48 = .ok (.iadd, 1) := by decide +kernel
theorem dX5_coin_49 : decode cX5_coin 49 = .ok (.goto 5, 3) := by decide +kernel
theorem dX5_coin_52 : decode cX5_coin 52 = .ok (.bipush (-7), 2) := by decide +kernel
theorem dX5_coin_54 : decode cX5_coin 54 = .ok (.ireturn, 1) := by decide +kernel
theorem dX5_takesOne_0 : decode cX5_takesOne 0 = .ok (.aload_n 0, 1) := by decide +kernel
theorem dX5_takesOne_1 : decode cX5_takesOne 1 = .ok (.iload_n 1, 1) := by decide +kernel
theorem dX5_takesOne_2 : decode cX5_takesOne 2 = .ok (.invokevirtual 188, 3) := by decide +kernel
theorem dX5_takesOne_5 : decode cX5_takesOne 5 = .ok (.istore_n 2, 1) := by decide +kernel
theorem dX5_takesOne_6 : decode cX5_takesOne 6 = .ok (.iload_n 2, 1) := by decide +kernel
theorem dX5_takesOne_7 : decode cX5_takesOne 7 = .ok (.iconst (-1), 1) := by decide +kernel
theorem dX5_takesOne_8 : decode cX5_takesOne 8 = .ok (.if_icmp .eq 131, 3) := by decide +kernel
theorem dX5_takesOne_11 : decode cX5_takesOne 11 = .ok (.aload_n 0, 1) := by decide +kernel
theorem dX5_takesOne_12 : decode cX5_takesOne 12 = .ok (.iload_n 1, 1) := by decide +kernel
theorem dX5_takesOne_13 : decode cX5_takesOne 13 = .ok (.iload_n 2, 1) := by decide +kernel
theorem dX5_takesOne_14 : decode cX5_takesOne 14 = .ok (.invokevirtual 191, 3) := by decide +kernel
theorem dX5_takesOne_17 : decode cX5_takesOne 17 = .ok (.istore_n 3, 1) := by decide +kernel
theorem dX5_takesOne_18 : decode cX5_takesOne 18 = .ok (.aload_n 0, 1) := by decide +kernel
theorem dX5_takesOne_19 : decode cX5_takesOne 19 = .ok (.iload_n 1, 1) := by decide +kernel
theorem dX5_takesOne_20 : decode cX5_takesOne 20 = .ok (.iload_n 2, 1) := by decide +kernel
theorem dX5_takesOne_21 : decode cX5_takesOne 21 = .ok (.invokevirtual 194, 3) := by decide +kernel
theorem dX5_takesOne_24 : decode cX5_takesOne 24 = .ok (.istore 4, 2) := by decide +kernel
theorem dX5_takesOne_26 : decode cX5_takesOne 26 = .ok (.aload_n 0, 1) := by decide +kernel
theorem dX5_takesOne_27 : decode cX5_takesOne 27 = .ok (.getfield 19, 3) := by decide +kernel
theorem dX5_takesOne_30 : decode cX5_takesOne 30 = .ok (.iconst 2, 1) := by decide +kernel
theorem dX5_takesOne_31 : decode cX5_takesOne 31 = .ok (.iload_n 2, 1) := by decide +kernel
theorem dX5_takesOne_32 : decode cX5_takesOne 32 = .ok (.imul, 1) := by decide +kernel
theorem dX5_takesOne_33 : decode cX5_takesOne 33 = .ok (.iconst 1, 1) := by decide +kernel
theorem dX5_takesOne_34 : decode cX5_takesOne 34 = .ok (.iadd, 1) := by decide +kernel
theorem dX5_takesOne_35 : decode cX5_takesOne 35 = .ok (.dup2, 1) := by decide +kernel
theorem dX5_takesOne_36 : decode cX5_takesOne 36 = .ok (.iaload, 1) := by decide +kernel
theorem dX5_takesOne_37 : decode cX5_takesOne 37 = .ok (.iconst 1, 1) := by decide +kernel
theorem dX5_takesOne_38 : decode cX5_takesOne 38 = .ok (.isub, 1) := by decide +kernel
theorem dX5_takesOne_39 : decode cX5_takesOne 39 = .ok (.iastore, 1) := by decide +kernel
theorem dX5_takesOne_40 : decode cX5_takesOne 40 = .ok (.aload_n 0, 1) := by decide +kernel
theorem dX5_takesOne_41 : decode cX5_takesOne 41 = .ok (.getfield 16, 3) := by decide +kernel
theorem dX5_takesOne_44 : decode cX5_takesOne 44 = .ok (.iconst 3, 1) := by decide +kernel
theorem dX5_takesOne_45 : decode cX5_takesOne 45 = .ok (.iload_n 1, 1) := by decide +kernel
theorem dX5_takesOne_46 : decode cX5_takesOne 46 = .ok (.imul, 1) := by decide +kernel
theorem dX5_takesOne_47 : decode cX5_takesOne 47 = .ok (.iconst 1, 1) := by decide +kernel
theorem dX5_takesOne_48 : decode cX5_takesOne 48 = .ok (.iadd, 1) := by decide +kernel
theorem dX5_takesOne_49 : decode cX5_takesOne 49 = .ok (.aload_n 0, 1) := by decide +kernel
theorem dX5_takesOne_50 : decode cX5_takesOne 50 = .ok (.getfield 16, 3) := by decide +kernel
theorem dX5_takesOne_53 : decode cX5_takesOne 53 = .ok (.iconst 3, 1) := by decide +kernel
theorem dX5_takesOne_54 : decode cX5_takesOne 54 = .ok (.iload_n 1, 1) := by decide +kernel
theorem dX5_takesOne_55 : decode cX5_takesOne 55 = .ok (.imul, 1) := by decide +kernel
theorem dX5_takesOne_56 : decode cX5_takesOne 56 = .ok (.iconst 1, 1) := by decide +kernel
theorem dX5_takesOne_57 : decode cX5_takesOne 57 = .ok (.iadd, 1) := by decide +kernel
theorem dX5_takesOne_58 : decode cX5_takesOne 58 = .ok (.iaload, 1) := by decide +kernel
theorem dX5_takesOne_59 : decode cX5_takesOne 59 = .ok (.aload_n 0, 1) := by decide +kernel
theorem dX5_takesOne_60 : decode cX5_takesOne 60 = .ok (.getfield 19, 3) := by decide +kernel
theorem dX5_takesOne_63 : decode cX5_takesOne 63 = .ok (.iconst 2, 1) := by decide +kernel
theorem dX5_takesOne_64 : decode cX5_takesOne 64 = .ok (.iload_n 2, 1) := by decide +kernel
theorem dX5_takesOne_65 : decode cX5_takesOne 65 = .ok (.imul, 1) := by decide +kernel
theorem dX5_takesOne_66 : decode cX5_takesOne 66 = .ok (.iaload, 1) := by decide +kernel
theorem dX5_takesOne_67 : decode cX5_takesOne 67 = .ok (.iadd, 1) := by decide +kernel
theorem dX5_takesOne_68 : decode cX5_takesOne 68 = .ok (.iconst 0, 1) := by decide +kernel
theorem dX5_takesOne_69 : decode cX5_takesOne 69 = .ok (.sipush 9999, 3) := by decide +kernel
theorem dX5_takesOne_72 : decode cX5_takesOne 72 = .ok (.invokestatic 173, 3) := by decide +kernel
theorem dX5_takesOne_75 : decode cX5_takesOne 75 = .ok (.iastore, 1) := by decide +kernel
theorem dX5_takesOne_76 : decode cX5_takesOne 76 = .ok (.aload_n 0, 1) := by decide +kernel
theorem dX5_takesOne_77 : decode cX5_takesOne 77 = .ok (.getfield 16, 3) := by decide +kernel
theorem dX5_takesOne_80 : decode cX5_takesOne 80 = .ok (.iconst 3, 1) := by decide +kernel
theorem dX5_takesOne_81 : decode cX5_takesOne 81 = .ok (.iload_n 1, 1) := by decide +kernel
theorem dX5_takesOne_82 : decode cX5_takesOne 82 = .ok (.imul, 1) := by decide +kernel
theorem dX5_takesOne_83 : decode cX5_takesOne 83 = .ok (.iconst 2, 1) := by decide +kernel
theorem dX5_takesOne_84 : decode cX5_takesOne 84 = .ok (.iadd, 1) := by decide +kernel
theorem dX5_takesOne_85 : decode cX5_takesOne 85 = .ok (.iload_n 3, 1) := by decide +kernel
theorem dX5_takesOne_86 : decode cX5_takesOne 86 = .ok (.aload_n 0, 1) := by decide +kernel
theorem dX5_takesOne_87 : decode cX5_takesOne 87 = .ok (.getfield 16, 3) := by decide +kernel
theorem dX5_takesOne_90 : decode cX5_takesOne 90 = .ok (.iconst 3, 1) := by decide +kernel
theorem dX5_takesOne_91 : decode cX5_takesOne 91 = .ok (.iload_n 1, 1) := by decide +kernel
theorem dX5_takesOne_92 : decode cX5_takesOne 92 = .ok (.imul, 1) := by decide +kernel
theorem dX5_takesOne_93 : decode cX5_takesOne 93 = .ok (.iconst 2, 1) := by decide +kernel
theorem dX5_takesOne_94 : decode cX5_takesOne 94 = .ok (.iadd, 1) := by decide +kernel
theorem dX5_takesOne_95 : decode cX5_takesOne 95 = .ok (.iaload, 1) := by decide +kernel
theorem dX5_takesOne_96 : decode cX5_takesOne 96 = .ok (.if_icmp .le 7, 3) := by decide +kernel
theorem dX5_takesOne_99 : decode cX5_takesOne 99 = .ok (.iload_n 3, 1) := by decide +kernel
theorem dX5_takesOne_100 : decode cX5_takesOne 100 = .ok (.goto 13, 3) := by decide +kernel
theorem dX5_takesOne_103 : decode cX5_takesOne 103 = .ok (.aload_n 0, 1) := by decide +kernel
theorem dX5_takesOne_104 : decode cX5_takesOne 104 = .ok (.getfield 16, 3) := by decide +kernel
theorem dX5_takesOne_107 : decode cX5_takesOne 107 = .ok (.iconst 3, 1) := by decide +kernel
theorem dX5_takesOne_108 : decode cX5_takesOne 108 = .ok (.iload_n 1, 1) := by decide +kernel
theorem dX5_takesOne_109 : decode cX5_takesOne 109 = .ok (.imul, 1) := by decide +kernel
theorem dX5_takesOne_110 : decode cX5_takesOne 110 = .ok (.iconst 2, 1) := by decide +kernel
theorem dX5_takesOne_111 : decode cX5_takesOne 111 = .ok (.iadd, 1) := by decide +kernel
theorem dX5_takesOne_112 : decode cX5_takesOne 112 = .ok (.iaload, 1) := by decide +kernel
theorem dX5_takesOne_113 : decode cX5_takesOne 113 = .ok (.iastore, 1) := by decide +kernel
theorem dX5_takesOne_114 : decode cX5_takesOne 114 = .ok (.aload_n 0, 1) := by decide +kernel
theorem dX5_takesOne_115 : decode cX5_takesOne 115 = .ok (.getfield 16, 3) := by decide +kernel
theorem dX5_takesOne_118 : decode cX5_takesOne 118 = .ok (.iconst 3, 1) := by decide +kernel
theorem dX5_takesOne_119 : decode cX5_takesOne 119 = .ok (.iload_n 1, 1) := by decide +kernel
theorem dX5_takesOne_120 : decode cX5_takesOne 120 = .ok (.imul, 1) := by decide +kernel
theorem dX5_takesOne_121 : decode cX5_takesOne 121 = .ok (.aload_n 0, 1) := by decide +kernel
theorem dX5_takesOne_122 : decode cX5_takesOne 122 = .ok (.getfield 16, 3) := by decide +kernel
theorem dX5_takesOne_125 : decode cX5_takesOne 125 = .ok (.iconst 3, 1) := by decide +kernel
theorem dX5_takesOne_126 : decode cX5_takesOne 126 = .ok (.iload_n 1, 1) := by decide +kernel
theorem dX5_takesOne_127 : decode cX5_takesOne 127 = .ok (.imul, 1) := by decide +kernel
theorem dX5_takesOne_128 : decode cX5_takesOne 128 = .ok (.iaload, 1) := by decide +kernel
theorem dX5_takesOne_129 : decode cX5_takesOne 129 = .ok (.iload 4, 2) := by decide +kernel
theorem dX5_takesOne_131 : decode cX5_takesOne 131 = .ok (.isub, 1) := by decide +kernel
theorem dX5_takesOne_132 : decode cX5_takesOne 132 = .ok (.iconst 0, 1) := by decide +kernel
theorem dX5_takesOne_133 : decode cX5_takesOne 133 = .ok (.bipush 99, 2) := by decide +kernel
theorem dX5_takesOne_135 : decode cX5_takesOne 135 = .ok (.invokestatic 173, 3) := by decide +kernel
theorem dX5_takesOne_138 : decode cX5_takesOne 138 = .ok (.iastore, 1) := by decide +kernel
theorem dX5_takesOne_139 : decode cX5_takesOne 139 = .ok (.aload_n 0, 1) := by decide +kernel
theorem dX5_takesOne_140 : decode cX5_takesOne 140 = .ok (.aload_n 0, 1) := by decide +kernel
theorem dX5_takesOne_141 : decode cX5_takesOne 141 = .ok (.getfield 91, 3) := by decide +kernel
theorem dX5_takesOne_144 : decode cX5_takesOne 144 = .ok (.iconst 1, 1) := by decide +kernel
theorem dX5_takesOne_145 : decode cX5_takesOne 145 = .ok (.iadd, 1) := by decide +kernel
theorem dX5_takesOne_146 : decode cX5_takesOne 146 = .ok (.iconst 0, 1) := by decide +kernel
theorem dX5_takesOne_147 : decode cX5_takesOne 147 = .ok (.sipush 999, 3) := by decide +kernel
theorem dX5_takesOne_150 : decode cX5_takesOne 150 = .ok (.invokestatic 173, 3) := by decide +kernel
theorem dX5_takesOne_153 : decode cX5_takesOne 153 = .ok (.putfield 91, 3) := by decide +kernel
theorem dX5_takesOne_156 : decode cX5_takesOne 156 = .ok (.iload_n 2, 1) := by decide +kernel
theorem dX5_takesOne_157 : decode cX5_takesOne 157 = .ok (.ireturn, 1) := by decide +kernel
theorem dX5_turnOf_0 : decode cX5_turnOf 0 = .ok (.aload_n 0, 1) := by decide +kernel
theorem dX5_turnOf_1 : decode cX5_turnOf 1 = .ok (.aload_n 0, 1) := by decide +kernel
theorem dX5_turnOf_2 : decode cX5_turnOf 2 = .ok (.getfield 100, 3) := by decide +kernel
theorem dX5_turnOf_5 : decode cX5_turnOf 5 = .ok (.invokevirtual 197, 3) := by decide +kernel
theorem dX5_turnOf_8 : decode cX5_turnOf 8 = .ok (.istore_n 1, 1) := by decide +kernel
theorem dX5_turnOf_9 : decode cX5_turnOf 9 = .ok (.aload_n 0, 1) := by decide +kernel
theorem dX5_turnOf_10 : decode cX5_turnOf 10 = .ok (.aload_n 0, 1) := by decide +kernel
theorem dX5_turnOf_11 : decode cX5_turnOf 11 = .ok (.getfield 100, 3) := by decide +kernel
theorem dX5_turnOf_14 : decode cX5_turnOf 14 = .ok (.iconst 1, 1) := by decide +kernel
theorem dX5_turnOf_15 : decode cX5_turnOf 15 = .ok (.iadd, 1) := by decide +kernel
theorem dX5_turnOf_16 : decode cX5_turnOf 16 = .ok (.aload_n 0, 1) := by decide +kernel
theorem dX5_turnOf_17 : decode cX5_turnOf 17 = .ok (.getfield 81, 3) := by decide +kernel
theorem dX5_turnOf_20 : decode cX5_turnOf 20 = .ok (.if_icmp .ne 7, 3) := by decide +kernel
theorem dX5_turnOf_23 : decode cX5_turnOf 23 = .ok (.iconst 0, 1) := by decide +kernel
theorem dX5_turnOf_24 : decode cX5_turnOf 24 = .ok (.goto 9, 3) := by decide +kernel
theorem dX5_turnOf_27 : decode cX5_turnOf 27 = .ok (.aload_n 0, 1) := by decide +kernel
theorem dX5_turnOf_28 : decode cX5_turnOf 28 = .ok (.getfield 100, 3) := by decide +kernel
theorem dX5_turnOf_31 : decode cX5_turnOf 31 = .ok (.iconst 1, 1) := by decide +kernel
theorem dX5_turnOf_32 : decode cX5_turnOf 32 = .ok (.iadd, 1) := by decide +kernel
theorem dX5_turnOf_33 : decode cX5_turnOf 33 = .ok (.putfield 100, 3) := by decide +kernel
theorem dX5_turnOf_36 : decode cX5_turnOf 36 = .ok (.iload_n 1, 1) := by decide +kernel
theorem dX5_turnOf_37 : decode cX5_turnOf 37 = .ok (.ireturn, 1) := by decide +kernel
theorem dX5_isOver_0 : decode cX5_isOver 0 = .ok (.aload_n 0, 1) := by decide +kernel
theorem dX5_isOver_1 : decode cX5_isOver 1 = .ok (.getfield 81, 3) := by decide +kernel
theorem dX5_isOver_4 : decode cX5_isOver 4 = .ok (.ifCond .eq 10, 3) := by decide +kernel
theorem dX5_isOver_7 : decode cX5_isOver 7 = .ok (.aload_n 0, 1) := by decide +kernel
theorem dX5_isOver_8 : decode cX5_isOver 8 = .ok (.invokevirtual 88, 3) := by decide +kernel
theorem dX5_isOver_11 : decode cX5_isOver 11 = .ok (.ifCond .ne 7, 3) := by decide +kernel
theorem dX5_isOver_14 : decode cX5_isOver 14 = .ok (.iconst 1, 1) := by decide +kernel
theorem dX5_isOver_15 : decode cX5_isOver 15 = .ok (.goto 4, 3) := by decide +kernel
theorem dX5_isOver_18 : decode cX5_isOver 18 = .ok (.iconst 0, 1) := by decide +kernel
theorem dX5_isOver_19 : decode cX5_isOver 19 = .ok (.ireturn, 1) := by decide +kernel
theorem dX5_pass_0 : decode cX5_pass 0 = .ok (.aload_n 0, 1) := by decide +kernel
theorem dX5_pass_1 : decode cX5_pass 1 = .ok (.invokevirtual 200, 3) := by decide +kernel
theorem dX5_pass_4 : decode cX5_pass 4 = .ok (.ifCond .eq 8, 3) := by decide +kernel
theorem dX5_pass_7 : decode cX5_pass 7 = .ok (.bipush (-3), 2) := by decide +kernel
theorem dX5_pass_9 : decode cX5_pass 9 = .ok (.goto 7, 3) := by decide +kernel
theorem dX5_pass_12 : decode cX5_pass 12 = .ok (.aload_n 0, 1) := by decide +kernel
theorem dX5_pass_13 : decode cX5_pass 13 = .ok (.invokevirtual 203, 3) := by decide +kernel
theorem dX5_pass_16 : decode cX5_pass 16 = .ok (.ireturn, 1) := by decide +kernel
theorem dX5_hand_0 : decode cX5_hand 0 = .ok (.aload_n 0, 1) := by decide +kernel
theorem dX5_hand_1 : decode cX5_hand 1 = .ok (.iload_n 1, 1) := by decide +kernel
theorem dX5_hand_2 : decode cX5_hand 2 = .ok (.invokevirtual 179, 3) := by decide +kernel
theorem dX5_hand_5 : decode cX5_hand 5 = .ok (.ifCond .ne 6, 3) := by decide +kernel
theorem dX5_hand_8 : decode cX5_hand 8 = .ok (.bipush (-5), 2) := by decide +kernel
theorem dX5_hand_10 : decode cX5_hand 10 = .ok (.ireturn, 1) := by decide +kernel
theorem dX5_hand_11 : decode cX5_hand 11 = .ok (.aload_n 0, 1) := by decide +kernel
theorem dX5_hand_12 : decode cX5_hand 12 = .ok (.getfield 100, 3) := by decide +kernel
theorem dX5_hand_15 : decode cX5_hand 15 = .ok (.istore_n 2, 1) := by decide +kernel
theorem dX5_hand_16 : decode cX5_hand 16 = .ok (.aload_n 0, 1) := by decide +kernel
theorem dX5_hand_17 : decode cX5_hand 17 = .ok (.iload_n 1, 1) := by decide +kernel
theorem dX5_hand_18 : decode cX5_hand 18 = .ok (.putfield 100, 3) := by decide +kernel
theorem dX5_hand_21 : decode cX5_hand 21 = .ok (.iload_n 2, 1) := by decide +kernel
theorem dX5_hand_22 : decode cX5_hand 22 = .ok (.ireturn, 1) := by decide +kernel
theorem dX5_keeps_0 : decode cX5_keeps 0 = .ok (.iconst 0, 1) := by decide +kernel
theorem dX5_keeps_1 : decode cX5_keeps 1 = .ok (.istore_n 1, 1) := by decide +kernel
theorem dX5_keeps_2 : decode cX5_keeps 2 = .ok (.iload_n 1, 1) := by decide +kernel
theorem dX5_keeps_3 : decode cX5_keeps 3 = .ok (.bipush 18, 2) := by decide +kernel
theorem dX5_keeps_5 : decode cX5_keeps 5 = .ok (.if_icmp .ge 21, 3) := by decide +kernel
theorem dX5_keeps_8 : decode cX5_keeps 8 = .ok (.aload_n 0, 1) := by decide +kernel
theorem dX5_keeps_9 : decode cX5_keeps 9 = .ok (.getfield 61, 3) := by decide +kernel
theorem dX5_keeps_12 : decode cX5_keeps 12 = .ok (.iload_n 1, 1) := by decide +kernel
theorem dX5_keeps_13 : decode cX5_keeps 13 = .ok (.aload_n 0, 1) := by decide +kernel
theorem dX5_keeps_14 : decode cX5_keeps 14 = .ok (.getfield 16, 3) := by decide +kernel
theorem dX5_keeps_17 : decode cX5_keeps 17 = .ok (.iload_n 1, 1) := by decide +kernel
theorem dX5_keeps_18 : decode cX5_keeps 18 = .ok (.iaload, 1) := by decide +kernel
theorem dX5_keeps_19 : decode cX5_keeps 19 = .ok (.iastore, 1) := by decide +kernel
theorem dX5_keeps_20 : decode cX5_keeps 20 = .ok (.iinc 1 1, 3) := by decide +kernel
theorem dX5_keeps_23 : decode cX5_keeps 23 = .ok (.goto (-21), 3) := by decide +kernel
theorem dX5_keeps_26 : decode cX5_keeps 26 = .ok (.iconst 0, 1) := by decide +kernel
theorem dX5_keeps_27 : decode cX5_keeps 27 = .ok (.istore_n 1, 1) := by decide +kernel
theorem dX5_keeps_28 : decode cX5_keeps 28 = .ok (.iload_n 1, 1) := by decide +kernel
theorem dX5_keeps_29 : decode cX5_keeps 29 = .ok (.bipush 12, 2) := by decide +kernel
theorem dX5_keeps_31 : decode cX5_keeps 31 = .ok (.if_icmp .ge 24, 3) := by decide +kernel
theorem dX5_keeps_34 : decode cX5_keeps 34 = .ok (.aload_n 0, 1) := by decide +kernel
theorem dX5_keeps_35 : decode cX5_keeps 35 = .ok (.getfield 61, 3) := by decide +kernel
theorem dX5_keeps_38 : decode cX5_keeps 38 = .ok (.bipush 18, 2) := by decide +kernel
theorem dX5_keeps_40 : decode cX5_keeps 40 = .ok (.iload_n 1, 1) := by decide +kernel
theorem dX5_keeps_41 : decode cX5_keeps 41 = .ok (.iadd, 1) := by decide +kernel
theorem dX5_keeps_42 : decode cX5_keeps 42 = .ok (.aload_n 0, 1) := by decide +kernel
theorem dX5_keeps_43 : decode cX5_keeps 43 = .ok (.getfield 19, 3) := by decide +kernel
theorem dX5_keeps_46 : decode cX5_keeps 46 = .ok (.iload_n 1, 1) := by decide +kernel
theorem dX5_keeps_47 : decode cX5_keeps 47 = .ok (.iaload, 1) := by decide +kernel
theorem dX5_keeps_48 : decode cX5_keeps 48 = .ok (.iastore, 1) := by decide +kernel
theorem dX5_keeps_49 : decode cX5_keeps 49 = .ok (.iinc 1 1, 3) := by decide +kernel
theorem dX5_keeps_52 : decode cX5_keeps 52 = .ok (.goto (-24), 3) := by decide +kernel
theorem dX5_keeps_55 : decode cX5_keeps 55 = .ok (.aload_n 0, 1) := by decide +kernel
theorem dX5_keeps_56 : decode cX5_keeps 56 = .ok (.getfield 61, 3) := by decide +kernel
theorem dX5_keeps_59 : decode cX5_keeps 59 = .ok (.bipush 30, 2) := by decide +kernel
theorem dX5_keeps_61 : decode cX5_keeps 61 = .ok (.aload_n 0, 1) := by decide +kernel
theorem dX5_keeps_62 : decode cX5_keeps 62 = .ok (.getfield 100, 3) := by decide +kernel
theorem dX5_keeps_65 : decode cX5_keeps 65 = .ok (.iastore, 1) := by decide +kernel
theorem dX5_keeps_66 : decode cX5_keeps 66 = .ok (.aload_n 0, 1) := by decide +kernel
theorem dX5_keeps_67 : decode cX5_keeps 67 = .ok (.getfield 61, 3) := by decide +kernel
theorem dX5_keeps_70 : decode cX5_keeps 70 = .ok (.bipush 31, 2) := by decide +kernel
theorem dX5_keeps_72 : decode cX5_keeps 72 = .ok (.aload_n 0, 1) := by decide +kernel
theorem dX5_keeps_73 : decode cX5_keeps 73 = .ok (.getfield 91, 3) := by decide +kernel
theorem dX5_keeps_76 : decode cX5_keeps 76 = .ok (.iastore, 1) := by decide +kernel
theorem dX5_keeps_77 : decode cX5_keeps 77 = .ok (.return_, 1) := by decide +kernel
theorem dX5_lays_0 : decode cX5_lays 0 = .ok (.iconst 0, 1) := by decide +kernel
theorem dX5_lays_1 : decode cX5_lays 1 = .ok (.istore_n 1, 1) := by decide +kernel
theorem dX5_lays_2 : decode cX5_lays 2 = .ok (.iload_n 1, 1) := by decide +kernel
theorem dX5_lays_3 : decode cX5_lays 3 = .ok (.bipush 18, 2) := by decide +kernel
theorem dX5_lays_5 : decode cX5_lays 5 = .ok (.if_icmp .ge 21, 3) := by decide +kernel
theorem dX5_lays_8 : decode cX5_lays 8 = .ok (.aload_n 0, 1) := by decide +kernel
theorem dX5_lays_9 : decode cX5_lays 9 = .ok (.getfield 16, 3) := by decide +kernel
theorem dX5_lays_12 : decode cX5_lays 12 = .ok (.iload_n 1, 1) := by decide +kernel
theorem dX5_lays_13 : decode cX5_lays 13 = .ok (.aload_n 0, 1) := by decide +kernel
theorem dX5_lays_14 : decode cX5_lays 14 = .ok (.getfield 61, 3) := by decide +kernel
theorem dX5_lays_17 : decode cX5_lays 17 = .ok (.iload_n 1, 1) := by decide +kernel
theorem dX5_lays_18 : decode cX5_lays 18 = .ok (.iaload, 1) := by decide +kernel
theorem dX5_lays_19 : decode cX5_lays 19 = .ok (.iastore, 1) := by decide +kernel
theorem dX5_lays_20 : decode cX5_lays 20 = .ok (.iinc 1 1, 3) := by decide +kernel
theorem dX5_lays_23 : decode cX5_lays 23 = .ok (.goto (-21), 3) := by decide +kernel
theorem dX5_lays_26 : decode cX5_lays 26 = .ok (.iconst 0, 1) := by decide +kernel
theorem dX5_lays_27 : decode cX5_lays 27 = .ok (.istore_n 1, 1) := by decide +kernel
theorem dX5_lays_28 : decode cX5_lays 28 = .ok (.iload_n 1, 1) := by decide +kernel
theorem dX5_lays_29 : decode cX5_lays 29 = .ok (.bipush 12, 2) := by decide +kernel
theorem dX5_lays_31 : decode cX5_lays 31 = .ok (.if_icmp .ge 24, 3) := by decide +kernel
theorem dX5_lays_34 : decode cX5_lays 34 = .ok (.aload_n 0, 1) := by decide +kernel
theorem dX5_lays_35 : decode cX5_lays 35 = .ok (.getfield 19, 3) := by decide +kernel
theorem dX5_lays_38 : decode cX5_lays 38 = .ok (.iload_n 1, 1) := by decide +kernel
theorem dX5_lays_39 : decode cX5_lays 39 = .ok (.aload_n 0, 1) := by decide +kernel
theorem dX5_lays_40 : decode cX5_lays 40 = .ok (.getfield 61, 3) := by decide +kernel
theorem dX5_lays_43 : decode cX5_lays 43 = .ok (.bipush 18, 2) := by decide +kernel
theorem dX5_lays_45 : decode cX5_lays 45 = .ok (.iload_n 1, 1) := by decide +kernel
theorem dX5_lays_46 : decode cX5_lays 46 = .ok (.iadd, 1) := by decide +kernel
theorem dX5_lays_47 : decode cX5_lays 47 = .ok (.iaload, 1) := by decide +kernel
theorem dX5_lays_48 : decode cX5_lays 48 = .ok (.iastore, 1) := by decide +kernel
theorem dX5_lays_49 : decode cX5_lays 49 = .ok (.iinc 1 1, 3) := by decide +kernel
theorem dX5_lays_52 : decode cX5_lays 52 = .ok (.goto (-24), 3) := by decide +kernel
theorem dX5_lays_55 : decode cX5_lays 55 = .ok (.aload_n 0, 1) := by decide +kernel
theorem dX5_lays_56 : decode cX5_lays 56 = .ok (.aload_n 0, 1) := by decide +kernel
theorem dX5_lays_57 : decode cX5_lays 57 = .ok (.getfield 61, 3) := by decide +kernel
theorem dX5_lays_60 : decode cX5_lays 60 = .ok (.bipush 30, 2) := by decide +kernel
theorem dX5_lays_62 : decode cX5_lays 62 = .ok (.iaload, 1) := by decide +kernel
theorem dX5_lays_63 : decode cX5_lays 63 = .ok (.putfield 100, 3) := by decide +kernel
theorem dX5_lays_66 : decode cX5_lays 66 = .ok (.aload_n 0, 1) := by decide +kernel
theorem dX5_lays_67 : decode cX5_lays 67 = .ok (.aload_n 0, 1) := by decide +kernel
theorem dX5_lays_68 : decode cX5_lays 68 = .ok (.getfield 61, 3) := by decide +kernel
theorem dX5_lays_71 : decode cX5_lays 71 = .ok (.bipush 31, 2) := by decide +kernel
theorem dX5_lays_73 : decode cX5_lays 73 = .ok (.iaload, 1) := by decide +kernel
theorem dX5_lays_74 : decode cX5_lays 74 = .ok (.putfield 91, 3) := by decide +kernel
theorem dX5_lays_77 : decode cX5_lays 77 = .ok (.return_, 1) := by decide +kernel
theorem dX5_goes_0 : decode cX5_goes 0 = .ok (.iconst (-1), 1) := by decide +kernel
theorem dX5_goes_1 : decode cX5_goes 1 = .ok (.istore_n 2, 1) := by decide +kernel
theorem dX5_goes_2 : decode cX5_goes 2 = .ok (.iconst 0, 1) := by decide +kernel
theorem dX5_goes_3 : decode cX5_goes 3 = .ok (.istore_n 3, 1) := by decide +kernel
theorem dX5_goes_4 : decode cX5_goes 4 = .ok (.iload_n 3, 1) := by decide +kernel
theorem dX5_goes_5 : decode cX5_goes 5 = .ok (.iload_n 1, 1) := by decide +kernel
theorem dX5_goes_6 : decode cX5_goes 6 = .ok (.if_icmp .ge 26, 3) := by decide +kernel
theorem dX5_goes_9 : decode cX5_goes 9 = .ok (.aload_n 0, 1) := by decide +kernel
theorem dX5_goes_10 : decode cX5_goes 10 = .ok (.invokevirtual 200, 3) := by decide +kernel
theorem dX5_goes_13 : decode cX5_goes 13 = .ok (.ifCond .ne 19, 3) := by decide +kernel
theorem dX5_goes_16 : decode cX5_goes 16 = .ok (.aload_n 0, 1) := by decide +kernel
theorem dX5_goes_17 : decode cX5_goes 17 = .ok (.getfield 100, 3) := by decide +kernel
theorem dX5_goes_20 : decode cX5_goes 20 = .ok (.istore_n 2, 1) := by decide +kernel
theorem dX5_goes_21 : decode cX5_goes 21 = .ok (.aload_n 0, 1) := by decide +kernel
theorem dX5_goes_22 : decode cX5_goes 22 = .ok (.invokevirtual 203, 3) := by decide +kernel
theorem dX5_goes_25 : decode cX5_goes 25 = .ok (.pop, 1) := by decide +kernel
theorem dX5_goes_26 : decode cX5_goes 26 = .ok (.iinc 3 1, 3) := by decide +kernel
theorem dX5_goes_29 : decode cX5_goes 29 = .ok (.goto (-25), 3) := by decide +kernel
theorem dX5_goes_32 : decode cX5_goes 32 = .ok (.iload_n 2, 1) := by decide +kernel
theorem dX5_goes_33 : decode cX5_goes 33 = .ok (.ireturn, 1) := by decide +kernel
theorem dX5_run_0 : decode cX5_run 0 = .ok (.iload_n 2, 1) := by decide +kernel
theorem dX5_run_1 : decode cX5_run 1 = .ok (.bipush 10, 2) := by decide +kernel
