theorem dX0_init_0 : decode cX0_init 0 = .ok (.aload_n 0, 1) := by decide +kernel
theorem dX0_init_1 : decode cX0_init 1 = .ok (.invokespecial 3, 3) := by decide +kernel
theorem dX0_init_4 : decode cX0_init 4 = .ok (.aload_n 0, 1) := by decide +kernel
theorem dX0_init_5 : decode cX0_init 5 = .ok (.aload_n 1, 1) := by decide +kernel
theorem dX0_init_6 : decode cX0_init 6 = .ok (.putfield 9, 3) := by decide +kernel
theorem dX0_init_9 : decode cX0_init 9 = .ok (.aload_n 0, 1) := by decide +kernel
theorem dX0_init_10 : decode cX0_init 10 = .ok (.bipush 6, 2) := by decide +kernel
theorem dX0_init_12 : decode cX0_init 12 = .ok (.newarray .int, 2) := by decide +kernel
theorem dX0_init_14 : decode cX0_init 14 = .ok (.putfield 15, 3) := by decide +kernel
theorem dX0_init_17 : decode cX0_init 17 = .ok (.iconst 0, 1) := by decide +kernel
theorem dX0_init_18 : decode cX0_init 18 = .ok (.istore_n 2, 1) := by decide +kernel
theorem dX0_init_19 : decode cX0_init 19 = .ok (.iload_n 2, 1) := by decide +kernel
theorem dX0_init_20 : decode cX0_init 20 = .ok (.bipush 6, 2) := by decide +kernel
theorem dX0_init_22 : decode cX0_init 22 = .ok (.if_icmp .ge 18, 3) := by decide +kernel
theorem dX0_init_25 : decode cX0_init 25 = .ok (.aload_n 0, 1) := by decide +kernel
theorem dX0_init_26 : decode cX0_init 26 = .ok (.getfield 15, 3) := by decide +kernel
theorem dX0_init_29 : decode cX0_init 29 = .ok (.iload_n 2, 1) := by decide +kernel
theorem dX0_init_30 : decode cX0_init 30 = .ok (.iconst 1, 1) := by decide +kernel
theorem dX0_init_31 : decode cX0_init 31 = .ok (.iload_n 2, 1) := by decide +kernel
theorem dX0_init_32 : decode cX0_init 32 = .ok (.ishl, 1) := by decide +kernel
theorem dX0_init_33 : decode cX0_init 33 = .ok (.iastore, 1) := by decide +kernel
theorem dX0_init_34 : decode cX0_init 34 = .ok (.iinc 2 1, 3) := by decide +kernel
theorem dX0_init_37 : decode cX0_init 37 = .ok (.goto (-18), 3) := by decide +kernel
theorem dX0_init_40 : decode cX0_init 40 = .ok (.aload_n 0, 1) := by decide +kernel
theorem dX0_init_41 : decode cX0_init 41 = .ok (.bipush 6, 2) := by decide +kernel
theorem dX0_init_43 : decode cX0_init 43 = .ok (.newarray .int, 2) := by decide +kernel
theorem dX0_init_45 : decode cX0_init 45 = .ok (.putfield 19, 3) := by decide +kernel
theorem dX0_init_48 : decode cX0_init 48 = .ok (.aload_n 0, 1) := by decide +kernel
theorem dX0_init_49 : decode cX0_init 49 = .ok (.bipush 6, 2) := by decide +kernel
theorem dX0_init_51 : decode cX0_init 51 = .ok (.newarray .int, 2) := by decide +kernel
theorem dX0_init_53 : decode cX0_init 53 = .ok (.putfield 22, 3) := by decide +kernel
theorem dX0_init_56 : decode cX0_init 56 = .ok (.aload_n 0, 1) := by decide +kernel
theorem dX0_init_57 : decode cX0_init 57 = .ok (.bipush 6, 2) := by decide +kernel
theorem dX0_init_59 : decode cX0_init 59 = .ok (.newarray .int, 2) := by decide +kernel
theorem dX0_init_61 : decode cX0_init 61 = .ok (.putfield 25, 3) := by decide +kernel
theorem dX0_init_64 : decode cX0_init 64 = .ok (.aload_n 0, 1) := by decide +kernel
theorem dX0_init_65 : decode cX0_init 65 = .ok (.bipush 6, 2) := by decide +kernel
theorem dX0_init_67 : decode cX0_init 67 = .ok (.newarray .int, 2) := by decide +kernel
theorem dX0_init_69 : decode cX0_init 69 = .ok (.putfield 28, 3) := by decide +kernel
theorem dX0_init_72 : decode cX0_init 72 = .ok (.aload_n 0, 1) := by decide +kernel
theorem dX0_init_73 : decode cX0_init 73 = .ok (.bipush 6, 2) := by decide +kernel
theorem dX0_init_75 : decode cX0_init 75 = .ok (.newarray .int, 2) := by decide +kernel
theorem dX0_init_77 : decode cX0_init 77 = .ok (.putfield 31, 3) := by decide +kernel
theorem dX0_init_80 : decode cX0_init 80 = .ok (.aload_n 0, 1) := by decide +kernel
theorem dX0_init_81 : decode cX0_init 81 = .ok (.bipush 6, 2) := by decide +kernel
theorem dX0_init_83 : decode cX0_init 83 = .ok (.newarray .int, 2) := by decide +kernel
theorem dX0_init_85 : decode cX0_init 85 = .ok (.putfield 34, 3) := by decide +kernel
theorem dX0_init_88 : decode cX0_init 88 = .ok (.aload_n 0, 1) := by decide +kernel
theorem dX0_init_89 : decode cX0_init 89 = .ok (.bipush 6, 2) := by decide +kernel
theorem dX0_init_91 : decode cX0_init 91 = .ok (.newarray .int, 2) := by decide +kernel
theorem dX0_init_93 : decode cX0_init 93 = .ok (.putfield 37, 3) := by decide +kernel
theorem dX0_init_96 : decode cX0_init 96 = .ok (.return_, 1) := by decide +kernel
theorem dX0_become_0 : decode cX0_become 0 = .ok (.aload_n 1, 1) := by decide +kernel
theorem dX0_become_1 : decode cX0_become 1 = .ok (.getfield 15, 3) := by decide +kernel
theorem dX0_become_4 : decode cX0_become 4 = .ok (.iconst 0, 1) := by decide +kernel
theorem dX0_become_5 : decode cX0_become 5 = .ok (.aload_n 0, 1) := by decide +kernel
theorem dX0_become_6 : decode cX0_become 6 = .ok (.getfield 15, 3) := by decide +kernel
theorem dX0_become_9 : decode cX0_become 9 = .ok (.iconst 0, 1) := by decide +kernel
theorem dX0_become_10 : decode cX0_become 10 = .ok (.bipush 6, 2) := by decide +kernel
theorem dX0_become_12 : decode cX0_become 12 = .ok (.invokestatic 40, 3) := by decide +kernel
theorem dX0_become_15 : decode cX0_become 15 = .ok (.aload_n 1, 1) := by decide +kernel
theorem dX0_become_16 : decode cX0_become 16 = .ok (.getfield 19, 3) := by decide +kernel
theorem dX0_become_19 : decode cX0_become 19 = .ok (.iconst 0, 1) := by decide +kernel
theorem dX0_become_20 : decode cX0_become 20 = .ok (.aload_n 0, 1) := by decide +kernel
theorem dX0_become_21 : decode cX0_become 21 = .ok (.getfield 19, 3) := by decide +kernel
theorem dX0_become_24 : decode cX0_become 24 = .ok (.iconst 0, 1) := by decide +kernel
theorem dX0_become_25 : decode cX0_become 25 = .ok (.bipush 6, 2) := by decide +kernel
theorem dX0_become_27 : decode cX0_become 27 = .ok (.invokestatic 40, 3) := by decide +kernel
theorem dX0_become_30 : decode cX0_become 30 = .ok (.aload_n 1, 1) := by decide +kernel
theorem dX0_become_31 : decode cX0_become 31 = .ok (.getfield 22, 3) := by decide +kernel
theorem dX0_become_34 : decode cX0_become 34 = .ok (.iconst 0, 1) := by decide +kernel
theorem dX0_become_35 : decode cX0_become 35 = .ok (.aload_n 0, 1) := by decide +kernel
theorem dX0_become_36 : decode cX0_become 36 = .ok (.getfield 22, 3) := by decide +kernel
theorem dX0_become_39 : decode cX0_become 39 = .ok (.iconst 0, 1) := by decide +kernel
theorem dX0_become_40 : decode cX0_become 40 = .ok (.bipush 6, 2) := by decide +kernel
theorem dX0_become_42 : decode cX0_become 42 = .ok (.invokestatic 40, 3) := by decide +kernel
theorem dX0_become_45 : decode cX0_become 45 = .ok (.aload_n 1, 1) := by decide +kernel
theorem dX0_become_46 : decode cX0_become 46 = .ok (.getfield 25, 3) := by decide +kernel
theorem dX0_become_49 : decode cX0_become 49 = .ok (.iconst 0, 1) := by decide +kernel
theorem dX0_become_50 : decode cX0_become 50 = .ok (.aload_n 0, 1) := by decide +kernel
theorem dX0_become_51 : decode cX0_become 51 = .ok (.getfield 25, 3) := by decide +kernel
theorem dX0_become_54 : decode cX0_become 54 = .ok (.iconst 0, 1) := by decide +kernel
theorem dX0_become_55 : decode cX0_become 55 = .ok (.bipush 6, 2) := by decide +kernel
theorem dX0_become_57 : decode cX0_become 57 = .ok (.invokestatic 40, 3) := by decide +kernel
theorem dX0_become_60 : decode cX0_become 60 = .ok (.aload_n 1, 1) := by decide +kernel
theorem dX0_become_61 : decode cX0_become 61 = .ok (.getfield 28, 3) := by decide +kernel
theorem dX0_become_64 : decode cX0_become 64 = .ok (.iconst 0, 1) := by decide +kernel
theorem dX0_become_65 : decode cX0_become 65 = .ok (.aload_n 0, 1) := by decide +kernel
theorem dX0_become_66 : decode cX0_become 66 = .ok (.getfield 28, 3) := by decide +kernel
theorem dX0_become_69 : decode cX0_become 69 = .ok (.iconst 0, 1) := by decide +kernel
theorem dX0_become_70 : decode cX0_become 70 = .ok (.bipush 6, 2) := by decide +kernel
theorem dX0_become_72 : decode cX0_become 72 = .ok (.invokestatic 40, 3) := by decide +kernel
theorem dX0_become_75 : decode cX0_become 75 = .ok (.aload_n 1, 1) := by decide +kernel
theorem dX0_become_76 : decode cX0_become 76 = .ok (.getfield 31, 3) := by decide +kernel
theorem dX0_become_79 : decode cX0_become 79 = .ok (.iconst 0, 1) := by decide +kernel
theorem dX0_become_80 : decode cX0_become 80 = .ok (.aload_n 0, 1) := by decide +kernel
theorem dX0_become_81 : decode cX0_become 81 = .ok (.getfield 31, 3) := by decide +kernel
theorem dX0_become_84 : decode cX0_become 84 = .ok (.iconst 0, 1) := by decide +kernel
theorem dX0_become_85 : decode cX0_become 85 = .ok (.bipush 6, 2) := by decide +kernel
theorem dX0_become_87 : decode cX0_become 87 = .ok (.invokestatic 40, 3) := by decide +kernel
theorem dX0_become_90 : decode cX0_become 90 = .ok (.aload_n 1, 1) := by decide +kernel
theorem dX0_become_91 : decode cX0_become 91 = .ok (.getfield 34, 3) := by decide +kernel
theorem dX0_become_94 : decode cX0_become 94 = .ok (.iconst 0, 1) := by decide +kernel
theorem dX0_become_95 : decode cX0_become 95 = .ok (.aload_n 0, 1) := by decide +kernel
theorem dX0_become_96 : decode cX0_become 96 = .ok (.getfield 34, 3) := by decide +kernel
theorem dX0_become_99 : decode cX0_become 99 = .ok (.iconst 0, 1) := by decide +kernel
theorem dX0_become_100 : decode cX0_become 100 = .ok (.bipush 6, 2) := by decide +kernel
theorem dX0_become_102 : decode cX0_become 102 = .ok (.invokestatic 40, 3) := by decide +kernel
theorem dX0_become_105 : decode cX0_become 105 = .ok (.aload_n 0, 1) := by decide +kernel
theorem dX0_become_106 : decode cX0_become 106 = .ok (.aload_n 1, 1) := by decide +kernel
theorem dX0_become_107 : decode cX0_become 107 = .ok (.getfield 46, 3) := by decide +kernel
theorem dX0_become_110 : decode cX0_become 110 = .ok (.putfield 46, 3) := by decide +kernel
theorem dX0_become_113 : decode cX0_become 113 = .ok (.aload_n 0, 1) := by decide +kernel
theorem dX0_become_114 : decode cX0_become 114 = .ok (.aload_n 1, 1) := by decide +kernel
theorem dX0_become_115 : decode cX0_become 115 = .ok (.getfield 50, 3) := by decide +kernel
theorem dX0_become_118 : decode cX0_become 118 = .ok (.putfield 50, 3) := by decide +kernel
theorem dX0_become_121 : decode cX0_become 121 = .ok (.aload_n 0, 1) := by decide +kernel
theorem dX0_become_122 : decode cX0_become 122 = .ok (.aload_n 1, 1) := by decide +kernel
theorem dX0_become_123 : decode cX0_become 123 = .ok (.getfield 53, 3) := by decide +kernel
theorem dX0_become_126 : decode cX0_become 126 = .ok (.putfield 53, 3) := by decide +kernel
theorem dX0_become_129 : decode cX0_become 129 = .ok (.aload_n 0, 1) := by decide +kernel
theorem dX0_become_130 : decode cX0_become 130 = .ok (.aload_n 1, 1) := by decide +kernel
theorem dX0_become_131 : decode cX0_become 131 = .ok (.getfield 56, 3) := by decide +kernel
theorem dX0_become_134 : decode cX0_become 134 = .ok (.putfield 56, 3) := by decide +kernel
theorem dX0_become_137 : decode cX0_become 137 = .ok (.aload_n 0, 1) := by decide +kernel
theorem dX0_become_138 : decode cX0_become 138 = .ok (.aload_n 1, 1) := by decide +kernel
theorem dX0_become_139 : decode cX0_become 139 = .ok (.getfield 59, 3) := by decide +kernel
theorem dX0_become_142 : decode cX0_become 142 = .ok (.putfield 59, 3) := by decide +kernel
theorem dX0_become_145 : decode cX0_become 145 = .ok (.return_, 1) := by decide +kernel
theorem dX0_setInHat_0 : decode cX0_setInHat 0 = .ok (.aload_n 0, 1) := by decide +kernel
theorem dX0_setInHat_1 : decode cX0_setInHat 1 = .ok (.dup, 1) := by decide +kernel
theorem dX0_setInHat_2 : decode cX0_setInHat 2 = .ok (.getfield 50, 3) := by decide +kernel
theorem dX0_setInHat_5 : decode cX0_setInHat 5 = .ok (.iload_n 2, 1) := by decide +kernel
theorem dX0_setInHat_6 : decode cX0_setInHat 6 = .ok (.aload_n 0, 1) := by decide +kernel
theorem dX0_setInHat_7 : decode cX0_setInHat 7 = .ok (.getfield 19, 3) := by decide +kernel
theorem dX0_setInHat_10 : decode cX0_setInHat 10 = .ok (.iload_n 1, 1) := by decide +kernel
theorem dX0_setInHat_11 : decode cX0_setInHat 11 = .ok (.iaload, 1) := by decide +kernel
theorem dX0_setInHat_12 : decode cX0_setInHat 12 = .ok (.isub, 1) := by decide +kernel
theorem dX0_setInHat_13 : decode cX0_setInHat 13 = .ok (.iadd, 1) := by decide +kernel
theorem dX0_setInHat_14 : decode cX0_setInHat 14 = .ok (.putfield 50, 3) := by decide +kernel
theorem dX0_setInHat_17 : decode cX0_setInHat 17 = .ok (.aload_n 0, 1) := by decide +kernel
theorem dX0_setInHat_18 : decode cX0_setInHat 18 = .ok (.getfield 19, 3) := by decide +kernel
theorem dX0_setInHat_21 : decode cX0_setInHat 21 = .ok (.iload_n 1, 1) := by decide +kernel
theorem dX0_setInHat_22 : decode cX0_setInHat 22 = .ok (.iload_n 2, 1) := by decide +kernel
theorem dX0_setInHat_23 : decode cX0_setInHat 23 = .ok (.iastore, 1) := by decide +kernel
theorem dX0_setInHat_24 : decode cX0_setInHat 24 = .ok (.return_, 1) := by decide +kernel
theorem dX0_worthOfAll_0 : decode cX0_worthOfAll 0 = .ok (.iconst 0, 1) := by decide +kernel
theorem dX0_worthOfAll_1 : decode cX0_worthOfAll 1 = .ok (.istore_n 1, 1) := by decide +kernel
theorem dX0_worthOfAll_2 : decode cX0_worthOfAll 2 = .ok (.iconst 0, 1) := by decide +kernel
theorem dX0_worthOfAll_3 : decode cX0_worthOfAll 3 = .ok (.istore_n 2, 1) := by decide +kernel
theorem dX0_worthOfAll_4 : decode cX0_worthOfAll 4 = .ok (.iload_n 2, 1) := by decide +kernel
theorem dX0_worthOfAll_5 : decode cX0_worthOfAll 5 = .ok (.bipush 6, 2) := by decide +kernel
theorem dX0_worthOfAll_7 : decode cX0_worthOfAll 7 = .ok (.if_icmp .ge 25, 3) := by decide +kernel
theorem dX0_worthOfAll_10 : decode cX0_worthOfAll 10 = .ok (.iload_n 1, 1) := by decide +kernel
theorem dX0_worthOfAll_11 : decode cX0_worthOfAll 11 = .ok (.aload_n 0, 1) := by decide +kernel
theorem dX0_worthOfAll_12 : decode cX0_worthOfAll 12 = .ok (.getfield 15, 3) := by decide +kernel
theorem dX0_worthOfAll_15 : decode cX0_worthOfAll 15 = .ok (.iload_n 2, 1) := by decide +kernel
theorem dX0_worthOfAll_16 : decode cX0_worthOfAll 16 = .ok (.iaload, 1) := by decide +kernel
theorem dX0_worthOfAll_17 : decode cX0_worthOfAll 17 = .ok (.aload_n 0, 1) := by decide +kernel
theorem dX0_worthOfAll_18 : decode cX0_worthOfAll 18 = .ok (.getfield 19, 3) := by decide +kernel
theorem dX0_worthOfAll_21 : decode cX0_worthOfAll 21 = .ok (.iload_n 2, 1) := by decide +kernel
theorem dX0_worthOfAll_22 : decode cX0_worthOfAll 22 = .ok (.iaload, 1) := by decide +kernel
theorem dX0_worthOfAll_23 : decode cX0_worthOfAll 23 = .ok (.imul, 1) := by decide +kernel
theorem dX0_worthOfAll_24 : decode cX0_worthOfAll 24 = .ok (.iadd, 1) := by decide +kernel
theorem dX0_worthOfAll_25 : decode cX0_worthOfAll 25 = .ok (.istore_n 1, 1) := by decide +kernel
theorem dX0_worthOfAll_26 : decode cX0_worthOfAll 26 = .ok (.iinc 2 1, 3) := by decide +kernel
theorem dX0_worthOfAll_29 : decode cX0_worthOfAll 29 = .ok (.goto (-25), 3) := by decide +kernel
theorem dX0_worthOfAll_32 : decode cX0_worthOfAll 32 = .ok (.iload_n 1, 1) := by decide +kernel
theorem dX0_worthOfAll_33 : decode cX0_worthOfAll 33 = .ok (.ireturn, 1) := by decide +kernel
theorem dX0_comes_0 : decode cX0_comes 0 = .ok (.aload_n 0, 1) := by decide +kernel
theorem dX0_comes_1 : decode cX0_comes 1 = .ok (.getfield 46, 3) := by decide +kernel
theorem dX0_comes_4 : decode cX0_comes 4 = .ok (.istore_n 3, 1) := by decide +kernel
theorem dX0_comes_5 : decode cX0_comes 5 = .ok (.iload_n 3, 1) := by decide +kernel
theorem dX0_comes_6 : decode cX0_comes 6 = .ok (.ifCond .lt 9, 3) := by decide +kernel
theorem dX0_comes_9 : decode cX0_comes 9 = .ok (.iload_n 3, 1) := by decide +kernel
theorem dX0_comes_10 : decode cX0_comes 10 = .ok (.bipush 6, 2) := by decide +kernel
theorem dX0_comes_12 : decode cX0_comes 12 = .ok (.if_icmp .lt 6, 3) := by decide +kernel
theorem dX0_comes_15 : decode cX0_comes 15 = .ok (.bipush (-4), 2) := by decide +kernel
theorem dX0_comes_17 : decode cX0_comes 17 = .ok (.ireturn, 1) := by decide +kernel
theorem dX0_comes_18 : decode cX0_comes 18 = .ok (.aload_n 0, 1) := by decide +kernel
theorem dX0_comes_19 : decode cX0_comes 19 = .ok (.getfield 22, 3) := by decide +kernel
theorem dX0_comes_22 : decode cX0_comes 22 = .ok (.iload_n 3, 1) := by decide +kernel
theorem dX0_comes_23 : decode cX0_comes 23 = .ok (.iload_n 1, 1) := by decide +kernel
theorem dX0_comes_24 : decode cX0_comes 24 = .ok (.bipush 10, 2) := by decide +kernel
theorem dX0_comes_26 : decode cX0_comes 26 = .ok (.idiv, 1) := by decide +kernel
theorem dX0_comes_27 : decode cX0_comes 27 = .ok (.iastore, 1) := by decide +kernel
theorem dX0_comes_28 : decode cX0_comes 28 = .ok (.aload_n 0, 1) := by decide +kernel
theorem dX0_comes_29 : decode cX0_comes 29 = .ok (.getfield 25, 3) := by decide +kernel
theorem dX0_comes_32 : decode cX0_comes 32 = .ok (.iload_n 3, 1) := by decide +kernel
theorem dX0_comes_33 : decode cX0_comes 33 = .ok (.iload_n 1, 1) := by decide +kernel
theorem dX0_comes_34 : decode cX0_comes 34 = .ok (.bipush 10, 2) := by decide +kernel
theorem dX0_comes_36 : decode cX0_comes 36 = .ok (.irem, 1) := by decide +kernel
theorem dX0_comes_37 : decode cX0_comes 37 = .ok (.iastore, 1) := by decide +kernel
theorem dX0_comes_38 : decode cX0_comes 38 = .ok (.aload_n 0, 1) := by decide +kernel
theorem dX0_comes_39 : decode cX0_comes 39 = .ok (.getfield 28, 3) := by decide +kernel
theorem dX0_comes_42 : decode cX0_comes 42 = .ok (.iload_n 3, 1) := by decide +kernel
theorem dX0_comes_43 : decode cX0_comes 43 = .ok (.iload_n 2, 1) := by decide +kernel
theorem dX0_comes_44 : decode cX0_comes 44 = .ok (.iastore, 1) := by decide +kernel
theorem dX0_comes_45 : decode cX0_comes 45 = .ok (.aload_n 0, 1) := by decide +kernel
theorem dX0_comes_46 : decode cX0_comes 46 = .ok (.getfield 31, 3) := by decide +kernel
theorem dX0_comes_49 : decode cX0_comes 49 = .ok (.iload_n 3, 1) := by decide +kernel
theorem dX0_comes_50 : decode cX0_comes 50 = .ok (.iconst 0, 1) := by decide +kernel
theorem dX0_comes_51 : decode cX0_comes 51 = .ok (.iastore, 1) := by decide +kernel
theorem dX0_comes_52 : decode cX0_comes 52 = .ok (.aload_n 0, 1) := by decide +kernel
theorem dX0_comes_53 : decode cX0_comes 53 = .ok (.getfield 34, 3) := by decide +kernel
theorem dX0_comes_56 : decode cX0_comes 56 = .ok (.iload_n 3, 1) := by decide +kernel
theorem dX0_comes_57 : decode cX0_comes 57 = .ok (.iconst 0, 1) := by decide +kernel
theorem dX0_comes_58 : decode cX0_comes 58 = .ok (.iastore, 1) := by decide +kernel
theorem dX0_comes_59 : decode cX0_comes 59 = .ok (.aload_n 0, 1) := by decide +kernel
theorem dX0_comes_60 : decode cX0_comes 60 = .ok (.iload_n 3, 1) := by decide +kernel
theorem dX0_comes_61 : decode cX0_comes 61 = .ok (.iconst 1, 1) := by decide +kernel
theorem dX0_comes_62 : decode cX0_comes 62 = .ok (.iadd, 1) := by decide +kernel
theorem dX0_comes_63 : decode cX0_comes 63 = .ok (.putfield 46, 3) := by decide +kernel
theorem dX0_comes_66 : decode cX0_comes 66 = .ok (.iload_n 3, 1) := by decide +kernel
theorem dX0_comes_67 : decode cX0_comes 67 = .ok (.ireturn, 1) := by decide +kernel
theorem dX0_says_0 : decode cX0_says 0 = .ok (.aload_n 0, 1) := by decide +kernel
theorem dX0_says_1 : decode cX0_says 1 = .ok (.getfield 37, 3) := by decide +kernel
theorem dX0_says_4 : decode cX0_says 4 = .ok (.iconst 0, 1) := by decide +kernel
theorem dX0_says_5 : decode cX0_says 5 = .ok (.aload_n 0, 1) := by decide +kernel
theorem dX0_says_6 : decode cX0_says 6 = .ok (.getfield 28, 3) := by decide +kernel
theorem dX0_says_9 : decode cX0_says 9 = .ok (.iload_n 2, 1) := by decide +kernel
theorem dX0_says_10 : decode cX0_says 10 = .ok (.iaload, 1) := by decide +kernel
theorem dX0_says_11 : decode cX0_says 11 = .ok (.iastore, 1) := by decide +kernel
theorem dX0_says_12 : decode cX0_says 12 = .ok (.aload_n 0, 1) := by decide +kernel
theorem dX0_says_13 : decode cX0_says 13 = .ok (.getfield 37, 3) := by decide +kernel
theorem dX0_says_16 : decode cX0_says 16 = .ok (.iconst 1, 1) := by decide +kernel
theorem dX0_says_17 : decode cX0_says 17 = .ok (.iload_n 3, 1) := by decide +kernel
theorem dX0_says_18 : decode cX0_says 18 = .ok (.ifCond .ge 7, 3) := by decide +kernel
theorem dX0_says_21 : decode cX0_says 21 = .ok (.iconst 0, 1) := by decide +kernel
theorem dX0_says_22 : decode cX0_says 22 = .ok (.goto 9, 3) := by decide +kernel
theorem dX0_says_25 : decode cX0_says 25 = .ok (.aload_n 0, 1) := by decide +kernel
theorem dX0_says_26 : decode cX0_says 26 = .ok (.getfield 15, 3) := by decide +kernel
theorem dX0_says_29 : decode cX0_says 29 = .ok (.iload_n 3, 1) := by decide +kernel
theorem dX0_says_30 : decode cX0_says 30 = .ok (.iaload, 1) := by decide +kernel
theorem dX0_says_31 : decode cX0_says 31 = .ok (.iastore, 1) := by decide +kernel
theorem dX0_says_32 : decode cX0_says 32 = .ok (.aload_n 0, 1) := by decide +kernel
theorem dX0_says_33 : decode cX0_says 33 = .ok (.getfield 37, 3) := by decide +kernel
theorem dX0_says_36 : decode cX0_says 36 = .ok (.iconst 2, 1) := by decide +kernel
theorem dX0_says_37 : decode cX0_says 37 = .ok (.aload_n 0, 1) := by decide +kernel
theorem dX0_says_38 : decode cX0_says 38 = .ok (.getfield 50, 3) := by decide +kernel
theorem dX0_says_41 : decode cX0_says 41 = .ok (.iastore, 1) := by decide +kernel
theorem dX0_says_42 : decode cX0_says 42 = .ok (.aload_n 0, 1) := by decide +kernel
theorem dX0_says_43 : decode cX0_says 43 = .ok (.getfield 37, 3) := by decide +kernel
theorem dX0_says_46 : decode cX0_says 46 = .ok (.iconst 3, 1) := by decide +kernel
theorem dX0_says_47 : decode cX0_says 47 = .ok (.bipush 99, 2) := by decide +kernel
theorem dX0_says_49 : decode cX0_says 49 = .ok (.aload_n 0, 1) := by decide +kernel
theorem dX0_says_50 : decode cX0_says 50 = .ok (.getfield 31, 3) := by decide +kernel
theorem dX0_says_53 : decode cX0_says 53 = .ok (.iload_n 2, 1) := by decide +kernel
theorem dX0_says_54 : decode cX0_says 54 = .ok (.iaload, 1) := by decide +kernel
theorem dX0_says_55 : decode cX0_says 55 = .ok (.invokestatic 62, 3) := by decide +kernel
theorem dX0_says_58 : decode cX0_says 58 = .ok (.iastore, 1) := by decide +kernel
theorem dX0_says_59 : decode cX0_says 59 = .ok (.aload_n 0, 1) := by decide +kernel
theorem dX0_says_60 : decode cX0_says 60 = .ok (.getfield 37, 3) := by decide +kernel
theorem dX0_says_63 : decode cX0_says 63 = .ok (.iconst 4, 1) := by decide +kernel
theorem dX0_says_64 : decode cX0_says 64 = .ok (.aload_n 0, 1) := by decide +kernel
theorem dX0_says_65 : decode cX0_says 65 = .ok (.getfield 56, 3) := by decide +kernel
theorem dX0_says_68 : decode cX0_says 68 = .ok (.iastore, 1) := by decide +kernel
theorem dX0_says_69 : decode cX0_says 69 = .ok (.aload_n 0, 1) := by decide +kernel
theorem dX0_says_70 : decode cX0_says 70 = .ok (.getfield 37, 3) := by decide +kernel
theorem dX0_says_73 : decode cX0_says 73 = .ok (.iconst 5, 1) := by decide +kernel
theorem dX0_says_74 : decode cX0_says 74 = .ok (.aload_n 0, 1) := by decide +kernel
theorem dX0_says_75 : decode cX0_says 75 = .ok (.getfield 25, 3) := by decide +kernel
theorem dX0_says_78 : decode cX0_says 78 = .ok (.iload_n 2, 1) := by decide +kernel
theorem dX0_says_79 : decode cX0_says 79 = .ok (.iaload, 1) := by decide +kernel
theorem dX0_says_80 : decode cX0_says 80 = .ok (.iastore, 1) := by decide +kernel
theorem dX0_says_81 : decode cX0_says 81 = .ok (.iload_n 1, 1) := by decide +kernel
theorem dX0_says_82 : decode cX0_says 82 = .ok (.iconst 2, 1) := by decide +kernel
theorem dX0_says_83 : decode cX0_says 83 = .ok (.if_icmp .ne 8, 3) := by decide +kernel
theorem dX0_says_86 : decode cX0_says 86 = .ok (.bipush (-99), 2) := by decide +kernel
theorem dX0_says_88 : decode cX0_says 88 = .ok (.goto 4, 3) := by decide +kernel
theorem dX0_says_91 : decode cX0_says 91 = .ok (.iconst 0, 1) := by decide +kernel
theorem dX0_says_92 : decode cX0_says 92 = .ok (.istore 4, 2) := by decide +kernel
theorem dX0_says_94 : decode cX0_says 94 = .ok (.iload 4, 2) := by decide +kernel
theorem dX0_says_96 : decode cX0_says 96 = .ok (.bipush 99, 2) := by decide +kernel
theorem dX0_says_98 : decode cX0_says 98 = .ok (.aload_n 0, 1) := by decide +kernel
theorem dX0_says_99 : decode cX0_says 99 = .ok (.getfield 9, 3) := by decide +kernel
theorem dX0_says_102 : decode cX0_says 102 = .ok (.aload_n 0, 1) := by decide +kernel
theorem dX0_says_103 : decode cX0_says 103 = .ok (.getfield 59, 3) := by decide +kernel
theorem dX0_says_106 : decode cX0_says 106 = .ok (.iload_n 1, 1) := by decide +kernel
theorem dX0_says_107 : decode cX0_says 107 = .ok (.aload_n 0, 1) := by decide +kernel
theorem dX0_says_108 : decode cX0_says 108 = .ok (.getfield 37, 3) := by decide +kernel
theorem dX0_says_111 : decode cX0_says 111 = .ok (.invokevirtual 68, 3) := by decide +kernel
theorem dX0_says_114 : decode cX0_says 114 = .ok (.invokestatic 62, 3) := by decide +kernel
theorem dX0_says_117 : decode cX0_says 117 = .ok (.invokestatic 74, 3) := by decide +kernel
theorem dX0_says_120 : decode cX0_says 120 = .ok (.ireturn, 1) := by decide +kernel
theorem dX0_takes_0 : decode cX0_takes 0 = .ok (.aload_n 0, 1) := by decide +kernel
theorem dX0_takes_1 : decode cX0_takes 1 = .ok (.getfield 22, 3) := by decide +kernel
theorem dX0_takes_4 : decode cX0_takes 4 = .ok (.iload_n 1, 1) := by decide +kernel
theorem dX0_takes_5 : decode cX0_takes 5 = .ok (.iaload, 1) := by decide +kernel
theorem dX0_takes_6 : decode cX0_takes 6 = .ok (.tableswitch 92 1 5 #[34, 44, 61, 44, 89], 34) := by decide +kernel
theorem dX0_takes_40 : decode cX0_takes 40 = .ok (.aload_n 0, 1) := by decide +kernel
theorem dX0_takes_41 : decode cX0_takes 41 = .ok (.iconst 0, 1) := by decide +kernel
theorem dX0_takes_42 : decode cX0_takes 42 = .ok (.iload_n 1, 1) := by decide +kernel
theorem dX0_takes_43 : decode cX0_takes 43 = .ok (.iconst (-1), 1) := by decide +kernel
theorem dX0_takes_44 : decode cX0_takes 44 = .ok (.invokevirtual 77, 3) := by decide +kernel
theorem dX0_takes_47 : decode cX0_takes 47 = .ok (.iconst 4, 1) := by decide +kernel
theorem dX0_takes_48 : decode cX0_takes 48 = .ok (.idiv, 1) := by decide +kernel
theorem dX0_takes_49 : decode cX0_takes 49 = .ok (.ireturn, 1) := by decide +kernel
theorem dX0_takes_50 : decode cX0_takes 50 = .ok (.aload_n 0, 1) := by decide +kernel
theorem dX0_takes_51 : decode cX0_takes 51 = .ok (.iconst 0, 1) := by decide +kernel
theorem dX0_takes_52 : decode cX0_takes 52 = .ok (.iload_n 1, 1) := by decide +kernel
theorem dX0_takes_53 : decode cX0_takes 53 = .ok (.iconst (-1), 1) := by decide +kernel
theorem dX0_takes_54 : decode cX0_takes 54 = .ok (.invokevirtual 77, 3) := by decide +kernel
theorem dX0_takes_57 : decode cX0_takes 57 = .ok (.iconst 5, 1) := by decide +kernel
theorem dX0_takes_58 : decode cX0_takes 58 = .ok (.aload_n 0, 1) := by decide +kernel
theorem dX0_takes_59 : decode cX0_takes 59 = .ok (.getfield 25, 3) := by decide +kernel
theorem dX0_takes_62 : decode cX0_takes 62 = .ok (.iload_n 1, 1) := by decide +kernel
theorem dX0_takes_63 : decode cX0_takes 63 = .ok (.iaload, 1) := by decide +kernel
theorem dX0_takes_64 : decode cX0_takes 64 = .ok (.imul, 1) := by decide +kernel
theorem dX0_takes_65 : decode cX0_takes 65 = .ok (.iadd, 1) := by decide +kernel
theorem dX0_takes_66 : decode cX0_takes 66 = .ok (.ireturn, 1) := by decide +kernel
theorem dX0_takes_67 : decode cX0_takes 67 = .ok (.aload_n 0, 1) := by decide +kernel
theorem dX0_takes_68 : decode cX0_takes 68 = .ok (.getfield 56, 3) := by decide +kernel
theorem dX0_takes_71 : decode cX0_takes 71 = .ok (.iconst 2, 1) := by decide +kernel
theorem dX0_takes_72 : decode cX0_takes 72 = .ok (.irem, 1) := by decide +kernel
theorem dX0_takes_73 : decode cX0_takes 73 = .ok (.ifCond .ne 12, 3) := by decide +kernel
theorem dX0_takes_76 : decode cX0_takes 76 = .ok (.aload_n 0, 1) := by decide +kernel
theorem dX0_takes_77 : decode cX0_takes 77 = .ok (.getfield 25, 3) := by decide +kernel
theorem dX0_takes_80 : decode cX0_takes 80 = .ok (.iload_n 1, 1) := by decide +kernel
theorem dX0_takes_81 : decode cX0_takes 81 = .ok (.iaload, 1) := by decide +kernel
theorem dX0_takes_82 : decode cX0_takes 82 = .ok (.goto 12, 3) := by decide +kernel
theorem dX0_takes_85 : decode cX0_takes 85 = .ok (.aload_n 0, 1) := by decide +kernel
theorem dX0_takes_86 : decode cX0_takes 86 = .ok (.iconst 0, 1) := by decide +kernel
theorem dX0_takes_87 : decode cX0_takes 87 = .ok (.iload_n 1, 1) := by decide +kernel
theorem dX0_takes_88 : decode cX0_takes 88 = .ok (.iconst (-1), 1) := by decide +kernel
theorem dX0_takes_89 : decode cX0_takes 89 = .ok (.invokevirtual 77, 3) := by decide +kernel
theorem dX0_takes_92 : decode cX0_takes 92 = .ok (.iconst 4, 1) := by decide +kernel
theorem dX0_takes_93 : decode cX0_takes 93 = .ok (.idiv, 1) := by decide +kernel
theorem dX0_takes_94 : decode cX0_takes 94 = .ok (.ireturn, 1) := by decide +kernel
theorem dX0_takes_95 : decode cX0_takes 95 = .ok (.bipush 99, 2) := by decide +kernel
theorem dX0_takes_97 : decode cX0_takes 97 = .ok (.ireturn, 1) := by decide +kernel
theorem dX0_takes_98 : decode cX0_takes 98 = .ok (.aload_n 0, 1) := by decide +kernel
theorem dX0_takes_99 : decode cX0_takes 99 = .ok (.iconst 0, 1) := by decide +kernel
theorem dX0_takes_100 : decode cX0_takes 100 = .ok (.iload_n 1, 1) := by decide +kernel
theorem dX0_takes_101 : decode cX0_takes 101 = .ok (.iconst (-1), 1) := by decide +kernel
theorem dX0_takes_102 : decode cX0_takes 102 = .ok (.invokevirtual 77, 3) := by decide +kernel
theorem dX0_takes_105 : decode cX0_takes 105 = .ok (.ireturn, 1) := by decide +kernel
theorem dX0_sounds_0 : decode cX0_sounds 0 = .ok (.aload_n 0, 1) := by decide +kernel
theorem dX0_sounds_1 : decode cX0_sounds 1 = .ok (.getfield 22, 3) := by decide +kernel
theorem dX0_sounds_4 : decode cX0_sounds 4 = .ok (.iload_n 1, 1) := by decide +kernel
theorem dX0_sounds_5 : decode cX0_sounds 5 = .ok (.iaload, 1) := by decide +kernel
theorem dX0_sounds_6 : decode cX0_sounds 6 = .ok (.tableswitch 64 1 4 #[30, 64, 45, 62], 30) := by decide +kernel
theorem dX0_sounds_36 : decode cX0_sounds 36 = .ok (.aload_n 0, 1) := by decide +kernel
theorem dX0_sounds_37 : decode cX0_sounds 37 = .ok (.iconst 1, 1) := by decide +kernel
theorem dX0_sounds_38 : decode cX0_sounds 38 = .ok (.iload_n 1, 1) := by decide +kernel
theorem dX0_sounds_39 : decode cX0_sounds 39 = .ok (.iload_n 2, 1) := by decide +kernel
theorem dX0_sounds_40 : decode cX0_sounds 40 = .ok (.invokevirtual 77, 3) := by decide +kernel
theorem dX0_sounds_43 : decode cX0_sounds 43 = .ok (.aload_n 0, 1) := by decide +kernel
theorem dX0_sounds_44 : decode cX0_sounds 44 = .ok (.getfield 25, 3) := by decide +kernel
theorem dX0_sounds_47 : decode cX0_sounds 47 = .ok (.iload_n 1, 1) := by decide +kernel
theorem dX0_sounds_48 : decode cX0_sounds 48 = .ok (.iaload, 1) := by decide +kernel
theorem dX0_sounds_49 : decode cX0_sounds 49 = .ok (.iadd, 1) := by decide +kernel
theorem dX0_sounds_50 : decode cX0_sounds 50 = .ok (.ireturn, 1) := by decide +kernel
theorem dX0_sounds_51 : decode cX0_sounds 51 = .ok (.iconst 3, 1) := by decide +kernel
theorem dX0_sounds_52 : decode cX0_sounds 52 = .ok (.aload_n 0, 1) := by decide +kernel
theorem dX0_sounds_53 : decode cX0_sounds 53 = .ok (.iconst 1, 1) := by decide +kernel
theorem dX0_sounds_54 : decode cX0_sounds 54 = .ok (.iload_n 1, 1) := by decide +kernel
theorem dX0_sounds_55 : decode cX0_sounds 55 = .ok (.iload_n 2, 1) := by decide +kernel
theorem dX0_sounds_56 : decode cX0_sounds 56 = .ok (.invokevirtual 77, 3) := by decide +kernel
theorem dX0_sounds_59 : decode cX0_sounds 59 = .ok (.aload_n 0, 1) := by decide +kernel
theorem dX0_sounds_60 : decode cX0_sounds 60 = .ok (.getfield 25, 3) := by decide +kernel
theorem dX0_sounds_63 : decode cX0_sounds 63 = .ok (.iload_n 1, 1) := by decide +kernel
theorem dX0_sounds_64 : decode cX0_sounds 64 = .ok (.iaload, 1) := by decide +kernel
theorem dX0_sounds_65 : decode cX0_sounds 65 = .ok (.iadd, 1) := by decide +kernel
theorem dX0_sounds_66 : decode cX0_sounds 66 = .ok (.imul, 1) := by decide +kernel
theorem dX0_sounds_67 : decode cX0_sounds 67 = .ok (.ireturn, 1) := by decide +kernel
theorem dX0_sounds_68 : decode cX0_sounds 68 = .ok (.iconst 0, 1) := by decide +kernel
theorem dX0_sounds_69 : decode cX0_sounds 69 = .ok (.ireturn, 1) := by decide +kernel
theorem dX0_sounds_70 : decode cX0_sounds 70 = .ok (.aload_n 0, 1) := by decide +kernel
theorem dX0_sounds_71 : decode cX0_sounds 71 = .ok (.iconst 1, 1) := by decide +kernel
theorem dX0_sounds_72 : decode cX0_sounds 72 = .ok (.iload_n 1, 1) := by decide +kernel
theorem dX0_sounds_73 : decode cX0_sounds 73 = .ok (.iload_n 2, 1) := by decide +kernel
theorem dX0_sounds_74 : decode cX0_sounds 74 = .ok (.invokevirtual 77, 3) := by decide +kernel
theorem dX0_sounds_77 : decode cX0_sounds 77 = .ok (.ireturn, 1) := by decide +kernel
theorem dX0_costs_0 : decode cX0_costs 0 = .ok (.aload_n 0, 1) := by decide +kernel
theorem dX0_costs_1 : decode cX0_costs 1 = .ok (.getfield 22, 3) := by decide +kernel
theorem dX0_costs_4 : decode cX0_costs 4 = .ok (.iload_n 1, 1) := by decide +kernel
theorem dX0_costs_5 : decode cX0_costs 5 = .ok (.iaload, 1) := by decide +kernel
theorem dX0_costs_6 : decode cX0_costs 6 = .ok (.tableswitch 59 2 5 #[30, 59, 40, 57], 30) := by decide +kernel
theorem dX0_costs_36 : decode cX0_costs 36 = .ok (.iconst 2, 1) := by decide +kernel
theorem dX0_costs_37 : decode cX0_costs 37 = .ok (.aload_n 0, 1) := by decide +kernel
theorem dX0_costs_38 : decode cX0_costs 38 = .ok (.iconst 2, 1) := by decide +kernel
theorem dX0_costs_39 : decode cX0_costs 39 = .ok (.iload_n 1, 1) := by decide +kernel
theorem dX0_costs_40 : decode cX0_costs 40 = .ok (.iload_n 2, 1) := by decide +kernel
theorem dX0_costs_41 : decode cX0_costs 41 = .ok (.invokevirtual 77, 3) := by decide +kernel
theorem dX0_costs_44 : decode cX0_costs 44 = .ok (.imul, 1) := by decide +kernel
theorem dX0_costs_45 : decode cX0_costs 45 = .ok (.ireturn, 1) := by decide +kernel
theorem dX0_costs_46 : decode cX0_costs 46 = .ok (.iconst 2, 1) := by decide +kernel
theorem dX0_costs_47 : decode cX0_costs 47 = .ok (.aload_n 0, 1) := by decide +kernel
theorem dX0_costs_48 : decode cX0_costs 48 = .ok (.iconst 2, 1) := by decide +kernel
theorem dX0_costs_49 : decode cX0_costs 49 = .ok (.iload_n 1, 1) := by decide +kernel
theorem dX0_costs_50 : decode cX0_costs 50 = .ok (.iload_n 2, 1) := by decide +kernel
theorem dX0_costs_51 : decode cX0_costs 51 = .ok (.invokevirtual 77, 3) := by decide +kernel
theorem dX0_costs_54 : decode cX0_costs 54 = .ok (.imul, 1) := by decide +kernel
theorem dX0_costs_55 : decode cX0_costs 55 = .ok (.aload_n 0, 1) := by decide +kernel
theorem dX0_costs_56 : decode cX0_costs 56 = .ok (.getfield 25, 3) := by decide +kernel
theorem dX0_costs_59 : decode cX0_costs 59 = .ok (.iload_n 1, 1) := by decide +kernel
theorem dX0_costs_60 : decode cX0_costs 60 = .ok (.iaload, 1) := by decide +kernel
theorem dX0_costs_61 : decode cX0_costs 61 = .ok (.isub, 1) := by decide +kernel
theorem dX0_costs_62 : decode cX0_costs 62 = .ok (.ireturn, 1) := by decide +kernel
theorem dX0_costs_63 : decode cX0_costs 63 = .ok (.iconst 0, 1) := by decide +kernel
theorem dX0_costs_64 : decode cX0_costs 64 = .ok (.ireturn, 1) := by decide +kernel
theorem dX0_costs_65 : decode cX0_costs 65 = .ok (.aload_n 0, 1) := by decide +kernel
theorem dX0_costs_66 : decode cX0_costs 66 = .ok (.iconst 2, 1) := by decide +kernel
theorem dX0_costs_67 : decode cX0_costs 67 = .ok (.iload_n 1, 1) := by decide +kernel
theorem dX0_costs_68 : decode cX0_costs 68 = .ok (.iload_n 2, 1) := by decide +kernel
theorem dX0_costs_69 : decode cX0_costs 69 = .ok (.invokevirtual 77, 3) := by decide +kernel
theorem dX0_costs_72 : decode cX0_costs 72 = .ok (.ireturn, 1) := by decide +kernel
theorem dX0_coinUpTo_0 : decode cX0_coinUpTo 0 = .ok (.iconst (-1), 1) := by decide +kernel
theorem dX0_coinUpTo_1 : decode cX0_coinUpTo 1 = .ok (.istore_n 2, 1) := by decide +kernel
theorem dX0_coinUpTo_2 : decode cX0_coinUpTo 2 = .ok (.iconst (-1), 1) := by decide +kernel
theorem dX0_coinUpTo_3 : decode cX0_coinUpTo 3 = .ok (.istore_n 3, 1) := by decide +kernel
theorem dX0_coinUpTo_4 : decode cX0_coinUpTo 4 = .ok (.iconst 0, 1) := by decide +kernel
theorem dX0_coinUpTo_5 : decode cX0_coinUpTo 5 = .ok (.istore 4, 2) := by decide +kernel
theorem dX0_coinUpTo_7 : decode cX0_coinUpTo 7 = .ok (.iload 4, 2) := by decide +kernel
theorem dX0_coinUpTo_9 : decode cX0_coinUpTo 9 = .ok (.bipush 6, 2) := by decide +kernel
theorem dX0_coinUpTo_11 : decode cX0_coinUpTo 11 = .ok (.if_icmp .ge 76, 3) := by decide +kernel
theorem dX0_coinUpTo_14 : decode cX0_coinUpTo 14 = .ok (.aload_n 0, 1) := by decide +kernel
theorem dX0_coinUpTo_15 : decode cX0_coinUpTo 15 = .ok (.getfield 19, 3) := by decide +kernel
theorem dX0_coinUpTo_18 : decode cX0_coinUpTo 18 = .ok (.iload 4, 2) := by decide +kernel
theorem dX0_coinUpTo_20 : decode cX0_coinUpTo 20 = .ok (.iaload, 1) := by decide +kernel
theorem dX0_coinUpTo_21 : decode cX0_coinUpTo 21 = .ok (.ifCond .le 60, 3) := by decide +kernel
theorem dX0_coinUpTo_24 : decode cX0_coinUpTo 24 = .ok (.aload_n 0, 1) := by decide +kernel
theorem dX0_coinUpTo_25 : decode cX0_coinUpTo 25 = .ok (.getfield 15, 3) := by decide +kernel
theorem dX0_coinUpTo_28 : decode cX0_coinUpTo 28 = .ok (.iload 4, 2) := by decide +kernel
theorem dX0_coinUpTo_30 : decode cX0_coinUpTo 30 = .ok (.iaload, 1) := by decide +kernel
theorem dX0_coinUpTo_31 : decode cX0_coinUpTo 31 = .ok (.iload_n 1, 1) := by decide +kernel
theorem dX0_coinUpTo_32 : decode cX0_coinUpTo 32 = .ok (.if_icmp .gt 26, 3) := by decide +kernel
theorem dX0_coinUpTo_35 : decode cX0_coinUpTo 35 = .ok (.iload_n 2, 1) := by decide +kernel
theorem dX0_coinUpTo_36 : decode cX0_coinUpTo 36 = .ok (.ifCond .lt 19, 3) := by decide +kernel
theorem dX0_coinUpTo_39 : decode cX0_coinUpTo 39 = .ok (.aload_n 0, 1) := by decide +kernel
theorem dX0_coinUpTo_40 : decode cX0_coinUpTo 40 = .ok (.getfield 15, 3) := by decide +kernel
theorem dX0_coinUpTo_43 : decode cX0_coinUpTo 43 = .ok (.iload 4, 2) := by decide +kernel
theorem dX0_coinUpTo_45 : decode cX0_coinUpTo 45 = .ok (.iaload, 1) := by decide +kernel
theorem dX0_coinUpTo_46 : decode cX0_coinUpTo 46 = .ok (.aload_n 0, 1) := by decide +kernel
theorem dX0_coinUpTo_47 : decode cX0_coinUpTo 47 = .ok (.getfield 15, 3) := by decide +kernel
theorem dX0_coinUpTo_50 : decode cX0_coinUpTo 50 = .ok (.iload_n 2, 1) := by decide +kernel
theorem dX0_coinUpTo_51 : decode cX0_coinUpTo 51 = .ok (.iaload, 1) := by decide +kernel
theorem dX0_coinUpTo_52 : decode cX0_coinUpTo 52 = .ok (.if_icmp .le 6, 3) := by decide +kernel
theorem dX0_coinUpTo_55 : decode cX0_coinUpTo 55 = .ok (.iload 4, 2) := by decide +kernel
theorem dX0_coinUpTo_57 : decode cX0_coinUpTo 57 = .ok (.istore_n 2, 1) := by decide +kernel
theorem dX0_coinUpTo_58 : decode cX0_coinUpTo 58 = .ok (.iload_n 3, 1) := by decide +kernel
theorem dX0_coinUpTo_59 : decode cX0_coinUpTo 59 = .ok (.ifCond .lt 19, 3) := by decide +kernel
theorem dX0_coinUpTo_62 : decode cX0_coinUpTo 62 = .ok (.aload_n 0, 1) := by decide +kernel
theorem dX0_coinUpTo_63 : decode cX0_coinUpTo 63 = .ok (.getfield 15, 3) := by decide +kernel
theorem dX0_coinUpTo_66 : decode cX0_coinUpTo 66 = .ok (.iload 4, 2) := by decide +kernel
theorem dX0_coinUpTo_68 : decode cX0_coinUpTo 68 = .ok (.iaload, 1) := by decide +kernel
theorem dX0_coinUpTo_69 : decode cX0_coinUpTo 69 = .ok (.aload_n 0, 1) := by decide +kernel
theorem dX0_coinUpTo_70 : decode cX0_coinUpTo 70 = .ok (.getfield 15, 3) := by decide +kernel
theorem dX0_coinUpTo_73 : decode cX0_coinUpTo 73 = .ok (.iload_n 3, 1) := by decide +kernel
theorem dX0_coinUpTo_74 : decode cX0_coinUpTo 74 = .ok (.iaload, 1) := by decide +kernel
theorem dX0_coinUpTo_75 : decode cX0_coinUpTo 75 = .ok (.if_icmp .ge 6, 3) := by decide +kernel
theorem dX0_coinUpTo_78 : decode cX0_coinUpTo 78 = .ok (.iload 4, 2) := by decide +kernel
theorem dX0_coinUpTo_80 : decode cX0_coinUpTo 80 = .ok (.istore_n 3, 1) := by decide +kernel
theorem dX0_coinUpTo_81 : decode cX0_coinUpTo 81 = .ok (.iinc 4 1, 3) := by decide +kernel
theorem dX0_coinUpTo_84 : decode cX0_coinUpTo 84 = .ok (.goto (-77), 3) := by decide +kernel
theorem dX0_coinUpTo_87 : decode cX0_coinUpTo 87 = .ok (.iload_n 2, 1) := by decide +kernel
theorem dX0_coinUpTo_88 : decode cX0_coinUpTo 88 = .ok (.ifCond .ge 7, 3) := by decide +kernel
theorem dX0_coinUpTo_91 : decode cX0_coinUpTo 91 = .ok (.iload_n 3, 1) := by decide +kernel
theorem dX0_coinUpTo_92 : decode cX0_coinUpTo 92 = .ok (.goto 4, 3) := by decide +kernel
theorem dX0_coinUpTo_95 : decode cX0_coinUpTo 95 = .ok (.iload_n 2, 1) := by decide +kernel
theorem dX0_coinUpTo_96 : decode cX0_coinUpTo 96 = .ok (.ireturn, 1) := by decide +kernel
theorem dX0_take_0 : decode cX0_take 0 = .ok (.aload_n 0, 1) := by decide +kernel
theorem dX0_take_1 : decode cX0_take 1 = .ok (.aload_n 0, 1) := by decide +kernel
theorem dX0_take_2 : decode cX0_take 2 = .ok (.iload_n 1, 1) := by decide +kernel
theorem dX0_take_3 : decode cX0_take 3 = .ok (.invokevirtual 81, 3) := by decide +kernel
theorem dX0_take_6 : decode cX0_take 6 = .ok (.invokevirtual 85, 3) := by decide +kernel
theorem dX0_take_9 : decode cX0_take 9 = .ok (.istore_n 2, 1) := by decide +kernel
theorem dX0_take_10 : decode cX0_take 10 = .ok (.iload_n 2, 1) := by decide +kernel
theorem dX0_take_11 : decode cX0_take 11 = .ok (.ifCond .lt 96, 3) := by decide +kernel
theorem dX0_take_14 : decode cX0_take 14 = .ok (.aload_n 0, 1) := by decide +kernel
theorem dX0_take_15 : decode cX0_take 15 = .ok (.iload_n 1, 1) := by decide +kernel
theorem dX0_take_16 : decode cX0_take 16 = .ok (.iload_n 2, 1) := by decide +kernel
theorem dX0_take_17 : decode cX0_take 17 = .ok (.invokevirtual 88, 3) := by decide +kernel
theorem dX0_take_20 : decode cX0_take 20 = .ok (.istore_n 3, 1) := by decide +kernel
theorem dX0_take_21 : decode cX0_take 21 = .ok (.aload_n 0, 1) := by decide +kernel
theorem dX0_take_22 : decode cX0_take 22 = .ok (.iload_n 1, 1) := by decide +kernel
theorem dX0_take_23 : decode cX0_take 23 = .ok (.iload_n 2, 1) := by decide +kernel
theorem dX0_take_24 : decode cX0_take 24 = .ok (.invokevirtual 91, 3) := by decide +kernel
theorem dX0_take_27 : decode cX0_take 27 = .ok (.istore 4, 2) := by decide +kernel
theorem dX0_take_29 : decode cX0_take 29 = .ok (.aload_n 0, 1) := by decide +kernel
theorem dX0_take_30 : decode cX0_take 30 = .ok (.iload_n 2, 1) := by decide +kernel
theorem dX0_take_31 : decode cX0_take 31 = .ok (.aload_n 0, 1) := by decide +kernel
theorem dX0_take_32 : decode cX0_take 32 = .ok (.getfield 19, 3) := by decide +kernel
theorem dX0_take_35 : decode cX0_take 35 = .ok (.iload_n 2, 1) := by decide +kernel
theorem dX0_take_36 : decode cX0_take 36 = .ok (.iaload, 1) := by decide +kernel
theorem dX0_take_37 : decode cX0_take 37 = .ok (.iconst 1, 1) := by decide +kernel
theorem dX0_take_38 : decode cX0_take 38 = .ok (.isub, 1) := by decide +kernel
theorem dX0_take_39 : decode cX0_take 39 = .ok (.invokevirtual 94, 3) := by decide +kernel
theorem dX0_take_42 : decode cX0_take 42 = .ok (.aload_n 0, 1) := by decide +kernel
theorem dX0_take_43 : decode cX0_take 43 = .ok (.getfield 31, 3) := by decide +kernel
theorem dX0_take_46 : decode cX0_take 46 = .ok (.iload_n 1, 1) := by decide +kernel
theorem dX0_take_47 : decode cX0_take 47 = .ok (.sipush 9999, 3) := by decide +kernel
theorem dX0_take_50 : decode cX0_take 50 = .ok (.aload_n 0, 1) := by decide +kernel
theorem dX0_take_51 : decode cX0_take 51 = .ok (.getfield 31, 3) := by decide +kernel
theorem dX0_take_54 : decode cX0_take 54 = .ok (.iload_n 1, 1) := by decide +kernel
theorem dX0_take_55 : decode cX0_take 55 = .ok (.iaload, 1) := by decide +kernel
theorem dX0_take_56 : decode cX0_take 56 = .ok (.aload_n 0, 1) := by decide +kernel
theorem dX0_take_57 : decode cX0_take 57 = .ok (.getfield 15, 3) := by decide +kernel
theorem dX0_take_60 : decode cX0_take 60 = .ok (.iload_n 2, 1) := by decide +kernel
theorem dX0_take_61 : decode cX0_take 61 = .ok (.iaload, 1) := by decide +kernel
theorem dX0_take_62 : decode cX0_take 62 = .ok (.iadd, 1) := by decide +kernel
theorem dX0_take_63 : decode cX0_take 63 = .ok (.invokestatic 62, 3) := by decide +kernel
theorem dX0_take_66 : decode cX0_take 66 = .ok (.iastore, 1) := by decide +kernel
theorem dX0_take_67 : decode cX0_take 67 = .ok (.aload_n 0, 1) := by decide +kernel
theorem dX0_take_68 : decode cX0_take 68 = .ok (.getfield 34, 3) := by decide +kernel
theorem dX0_take_71 : decode cX0_take 71 = .ok (.iload_n 1, 1) := by decide +kernel
theorem dX0_take_72 : decode cX0_take 72 = .ok (.aload_n 0, 1) := by decide +kernel
theorem dX0_take_73 : decode cX0_take 73 = .ok (.getfield 34, 3) := by decide +kernel
theorem dX0_take_76 : decode cX0_take 76 = .ok (.iload_n 1, 1) := by decide +kernel
theorem dX0_take_77 : decode cX0_take 77 = .ok (.iaload, 1) := by decide +kernel
theorem dX0_take_78 : decode cX0_take 78 = .ok (.iload_n 3, 1) := by decide +kernel
theorem dX0_take_79 : decode cX0_take 79 = .ok (.invokestatic 74, 3) := by decide +kernel
theorem dX0_take_82 : decode cX0_take 82 = .ok (.iastore, 1) := by decide +kernel
theorem dX0_take_83 : decode cX0_take 83 = .ok (.aload_n 0, 1) := by decide +kernel
theorem dX0_take_84 : decode cX0_take 84 = .ok (.getfield 28, 3) := by decide +kernel
theorem dX0_take_87 : decode cX0_take 87 = .ok (.iload_n 1, 1) := by decide +kernel
theorem dX0_take_88 : decode cX0_take 88 = .ok (.iconst 0, 1) := by decide +kernel
theorem dX0_take_89 : decode cX0_take 89 = .ok (.bipush 99, 2) := by decide +kernel
theorem dX0_take_91 : decode cX0_take 91 = .ok (.aload_n 0, 1) := by decide +kernel
theorem dX0_take_92 : decode cX0_take 92 = .ok (.getfield 28, 3) := by decide +kernel
theorem dX0_take_95 : decode cX0_take 95 = .ok (.iload_n 1, 1) := by decide +kernel
theorem dX0_take_96 : decode cX0_take 96 = .ok (.iaload, 1) := by decide +kernel
theorem dX0_take_97 : decode cX0_take 97 = .ok (.iload 4, 2) := by decide +kernel
theorem dX0_take_99 : decode cX0_take 99 = .ok (.isub, 1) := by decide +kernel
theorem dX0_take_100 : decode cX0_take 100 = .ok (.invokestatic 62, 3) := by decide +kernel
theorem dX0_take_103 : decode cX0_take 103 = .ok (.invokestatic 74, 3) := by decide +kernel
theorem dX0_take_106 : decode cX0_take 106 = .ok (.iastore, 1) := by decide +kernel
theorem dX0_take_107 : decode cX0_take 107 = .ok (.aload_n 0, 1) := by decide +kernel
theorem dX0_take_108 : decode cX0_take 108 = .ok (.sipush 999, 3) := by decide +kernel
theorem dX0_take_111 : decode cX0_take 111 = .ok (.aload_n 0, 1) := by decide +kernel
theorem dX0_take_112 : decode cX0_take 112 = .ok (.getfield 56, 3) := by decide +kernel
theorem dX0_take_115 : decode cX0_take 115 = .ok (.iconst 1, 1) := by decide +kernel
theorem dX0_take_116 : decode cX0_take 116 = .ok (.iadd, 1) := by decide +kernel
theorem dX0_take_117 : decode cX0_take 117 = .ok (.invokestatic 62, 3) := by decide +kernel
theorem dX0_take_120 : decode cX0_take 120 = .ok (.putfield 56, 3) := by decide +kernel
theorem dX0_take_123 : decode cX0_take 123 = .ok (.iload_n 2, 1) := by decide +kernel
theorem dX0_take_124 : decode cX0_take 124 = .ok (.ireturn, 1) := by decide +kernel
theorem dX0_goOn_0 : decode cX0_goOn 0 = .ok (.aload_n 0, 1) := by decide +kernel
theorem dX0_goOn_1 : decode cX0_goOn 1 = .ok (.getfield 46, 3) := by decide +kernel
theorem dX0_goOn_4 : decode cX0_goOn 4 = .ok (.ifCond .ne 5, 3) := by decide +kernel
theorem dX0_goOn_7 : decode cX0_goOn 7 = .ok (.iconst (-1), 1) := by decide +kernel
theorem dX0_goOn_8 : decode cX0_goOn 8 = .ok (.ireturn, 1) := by decide +kernel
theorem dX0_goOn_9 : decode cX0_goOn 9 = .ok (.aload_n 0, 1) := by decide +kernel
theorem dX0_goOn_10 : decode cX0_goOn 10 = .ok (.aload_n 0, 1) := by decide +kernel
theorem dX0_goOn_11 : decode cX0_goOn 11 = .ok (.getfield 53, 3) := by decide +kernel
theorem dX0_goOn_14 : decode cX0_goOn 14 = .ok (.invokevirtual 98, 3) := by decide +kernel
theorem dX0_goOn_17 : decode cX0_goOn 17 = .ok (.istore_n 1, 1) := by decide +kernel
theorem dX0_goOn_18 : decode cX0_goOn 18 = .ok (.aload_n 0, 1) := by decide +kernel
theorem dX0_goOn_19 : decode cX0_goOn 19 = .ok (.aload_n 0, 1) := by decide +kernel
theorem dX0_goOn_20 : decode cX0_goOn 20 = .ok (.getfield 53, 3) := by decide +kernel
theorem dX0_goOn_23 : decode cX0_goOn 23 = .ok (.iconst 1, 1) := by decide +kernel
theorem dX0_goOn_24 : decode cX0_goOn 24 = .ok (.iadd, 1) := by decide +kernel
theorem dX0_goOn_25 : decode cX0_goOn 25 = .ok (.aload_n 0, 1) := by decide +kernel
theorem dX0_goOn_26 : decode cX0_goOn 26 = .ok (.getfield 46, 3) := by decide +kernel
theorem dX0_goOn_29 : decode cX0_goOn 29 = .ok (.if_icmp .ge 12, 3) := by decide +kernel
theorem dX0_goOn_32 : decode cX0_goOn 32 = .ok (.aload_n 0, 1) := by decide +kernel
theorem dX0_goOn_33 : decode cX0_goOn 33 = .ok (.getfield 53, 3) := by decide +kernel
theorem dX0_goOn_36 : decode cX0_goOn 36 = .ok (.iconst 1, 1) := by decide +kernel
theorem dX0_goOn_37 : decode cX0_goOn 37 = .ok (.iadd, 1) := by decide +kernel
theorem dX0_goOn_38 : decode cX0_goOn 38 = .ok (.goto 4, 3) := by decide +kernel
theorem dX0_goOn_41 : decode cX0_goOn 41 = .ok (.iconst 0, 1) := by decide +kernel
theorem dX0_goOn_42 : decode cX0_goOn 42 = .ok (.putfield 53, 3) := by decide +kernel
theorem dX0_goOn_45 : decode cX0_goOn 45 = .ok (.iload_n 1, 1) := by decide +kernel
theorem dX0_goOn_46 : decode cX0_goOn 46 = .ok (.ireturn, 1) := by decide +kernel
theorem dX0_goWhileCoins_0 : decode cX0_goWhileCoins 0 = .ok (.iconst (-1), 1) := by decide +kernel
theorem dX0_goWhileCoins_1 : decode cX0_goWhileCoins 1 = .ok (.istore_n 2, 1) := by decide +kernel
theorem dX0_goWhileCoins_2 : decode cX0_goWhileCoins 2 = .ok (.iconst 0, 1) := by decide +kernel
theorem dX0_goWhileCoins_3 : decode cX0_goWhileCoins 3 = .ok (.istore_n 3, 1) := by decide +kernel
theorem dX0_goWhileCoins_4 : decode cX0_goWhileCoins 4 = .ok (.iload_n 3, 1) := by decide +kernel
theorem dX0_goWhileCoins_5 : decode cX0_goWhileCoins 5 = .ok (.iload_n 1, 1) := by decide +kernel
theorem dX0_goWhileCoins_6 : decode cX0_goWhileCoins 6 = .ok (.if_icmp .ge 33, 3) := by decide +kernel
theorem dX0_goWhileCoins_9 : decode cX0_goWhileCoins 9 = .ok (.aload_n 0, 1) := by decide +kernel
theorem dX0_goWhileCoins_10 : decode cX0_goWhileCoins 10 = .ok (.getfield 46, 3) := by decide +kernel
theorem dX0_goWhileCoins_13 : decode cX0_goWhileCoins 13 = .ok (.ifCond .le 26, 3) := by decide +kernel
theorem dX0_goWhileCoins_16 : decode cX0_goWhileCoins 16 = .ok (.aload_n 0, 1) := by decide +kernel
theorem dX0_goWhileCoins_17 : decode cX0_goWhileCoins 17 = .ok (.getfield 50, 3) := by decide +kernel
theorem dX0_goWhileCoins_20 : decode cX0_goWhileCoins 20 = .ok (.ifCond .le 19, 3) := by decide +kernel
theorem dX0_goWhileCoins_23 : decode cX0_goWhileCoins 23 = .ok (.aload_n 0, 1) := by decide +kernel
theorem dX0_goWhileCoins_24 : decode cX0_goWhileCoins 24 = .ok (.getfield 53, 3) := by decide +kernel
theorem dX0_goWhileCoins_27 : decode cX0_goWhileCoins 27 = .ok (.istore_n 2, 1) := by decide +kernel
theorem dX0_goWhileCoins_28 : decode cX0_goWhileCoins 28 = .ok (.aload_n 0, 1) := by decide +kernel
theorem dX0_goWhileCoins_29 : decode cX0_goWhileCoins 29 = .ok (.invokevirtual 101, 3) := by decide +kernel
theorem dX0_goWhileCoins_32 : decode cX0_goWhileCoins 32 = .ok (.pop, 1) := by decide +kernel
theorem dX0_goWhileCoins_33 : decode cX0_goWhileCoins 33 = .ok (.iinc 3 1, 3) := by decide +kernel
theorem dX0_goWhileCoins_36 : decode cX0_goWhileCoins 36 = .ok (.goto (-32), 3) := by decide +kernel
theorem dX0_goWhileCoins_39 : decode cX0_goWhileCoins 39 = .ok (.iload_n 2, 1) := by decide +kernel
theorem dX0_goWhileCoins_40 : decode cX0_goWhileCoins 40 = .ok (.ireturn, 1) := by decide +kernel
theorem dX1_init_0 : decode cX1_init 0 = .ok (.aload_n 0, 1) := by decide +kernel
theorem dX1_init_1 : decode cX1_init 1 = .ok (.invokespecial 3, 3) := by decide +kernel
theorem dX1_init_4 : decode cX1_init 4 = .ok (.aload_n 0, 1) := by decide +kernel
theorem dX1_init_5 : decode cX1_init 5 = .ok (.iconst 4, 1) := by decide +kernel
theorem dX1_init_6 : decode cX1_init 6 = .ok (.newarray .int, 2) := by decide +kernel
theorem dX1_init_8 : decode cX1_init 8 = .ok (.putfield 9, 3) := by decide +kernel
theorem dX1_init_11 : decode cX1_init 11 = .ok (.aload_n 0, 1) := by decide +kernel
theorem dX1_init_12 : decode cX1_init 12 = .ok (.iconst 4, 1) := by decide +kernel
theorem dX1_init_13 : decode cX1_init 13 = .ok (.newarray .int, 2) := by decide +kernel
theorem dX1_init_15 : decode cX1_init 15 = .ok (.putfield 15, 3) := by decide +kernel
theorem dX1_init_18 : decode cX1_init 18 = .ok (.aload_n 0, 1) := by decide +kernel
theorem dX1_init_19 : decode cX1_init 19 = .ok (.iconst 4, 1) := by decide +kernel
theorem dX1_init_20 : decode cX1_init 20 = .ok (.bipush 40, 2) := by decide +kernel
theorem dX1_init_22 : decode cX1_init 22 = .ok (.multianewarray 18 2, 4) := by decide +kernel
theorem dX1_init_26 : decode cX1_init 26 = .ok (.putfield 20, 3) := by decide +kernel
theorem dX1_init_29 : decode cX1_init 29 = .ok (.iconst 0, 1) := by decide +kernel
theorem dX1_init_30 : decode cX1_init 30 = .ok (.istore_n 1, 1) := by decide +kernel
theorem dX1_init_31 : decode cX1_init 31 = .ok (.iload_n 1, 1) := by decide +kernel
theorem dX1_init_32 : decode cX1_init 32 = .ok (.iconst 4, 1) := by decide +kernel
theorem dX1_init_33 : decode cX1_init 33 = .ok (.if_icmp .ge 16, 3) := by decide +kernel
theorem dX1_init_36 : decode cX1_init 36 = .ok (.aload_n 0, 1) := by decide +kernel
theorem dX1_init_37 : decode cX1_init 37 = .ok (.getfield 9, 3) := by decide +kernel
theorem dX1_init_40 : decode cX1_init 40 = .ok (.iload_n 1, 1) := by decide +kernel
theorem dX1_init_41 : decode cX1_init 41 = .ok (.iconst (-1), 1) := by decide +kernel
theorem dX1_init_42 : decode cX1_init 42 = .ok (.iastore, 1) := by decide +kernel
theorem dX1_init_43 : decode cX1_init 43 = .ok (.iinc 1 1, 3) := by decide +kernel
theorem dX1_init_46 : decode cX1_init 46 = .ok (.goto (-15), 3) := by decide +kernel
theorem dX1_init_49 : decode cX1_init 49 = .ok (.return_, 1) := by decide +kernel
theorem dX1_isMissing_0 : decode cX1_isMissing 0 = .ok (.aload_n 0, 1) := by decide +kernel
theorem dX1_isMissing_1 : decode cX1_isMissing 1 = .ok (.getfield 9, 3) := by decide +kernel
theorem dX1_isMissing_4 : decode cX1_isMissing 4 = .ok (.iload_n 1, 1) := by decide +kernel
theorem dX1_isMissing_5 : decode cX1_isMissing 5 = .ok (.iaload, 1) := by decide +kernel
theorem dX1_isMissing_6 : decode cX1_isMissing 6 = .ok (.ifCond .ge 7, 3) := by decide +kernel
theorem dX1_isMissing_9 : decode cX1_isMissing 9 = .ok (.iconst 1, 1) := by decide +kernel
theorem dX1_isMissing_10 : decode cX1_isMissing 10 = .ok (.goto 4, 3) := by decide +kernel
theorem dX1_isMissing_13 : decode cX1_isMissing 13 = .ok (.iconst 0, 1) := by decide +kernel
theorem dX1_isMissing_14 : decode cX1_isMissing 14 = .ok (.ireturn, 1) := by decide +kernel
theorem dX1_become_0 : decode cX1_become 0 = .ok (.aload_n 0, 1) := by decide +kernel
theorem dX1_become_1 : decode cX1_become 1 = .ok (.getfield 9, 3) := by decide +kernel
theorem dX1_become_4 : decode cX1_become 4 = .ok (.iload_n 1, 1) := by decide +kernel
theorem dX1_become_5 : decode cX1_become 5 = .ok (.iload_n 2, 1) := by decide +kernel
theorem dX1_become_6 : decode cX1_become 6 = .ok (.iastore, 1) := by decide +kernel
theorem dX1_become_7 : decode cX1_become 7 = .ok (.aload_n 0, 1) := by decide +kernel
theorem dX1_become_8 : decode cX1_become 8 = .ok (.getfield 15, 3) := by decide +kernel
theorem dX1_become_11 : decode cX1_become 11 = .ok (.iload_n 1, 1) := by decide +kernel
theorem dX1_become_12 : decode cX1_become 12 = .ok (.iload_n 3, 1) := by decide +kernel
theorem dX1_become_13 : decode cX1_become 13 = .ok (.iastore, 1) := by decide +kernel
theorem dX1_become_14 : decode cX1_become 14 = .ok (.iconst 0, 1) := by decide +kernel
theorem dX1_become_15 : decode cX1_become 15 = .ok (.istore 4, 2) := by decide +kernel
theorem dX1_become_17 : decode cX1_become 17 = .ok (.iload 4, 2) := by decide +kernel
theorem dX1_become_19 : decode cX1_become 19 = .ok (.bipush 40, 2) := by decide +kernel
theorem dX1_become_21 : decode cX1_become 21 = .ok (.if_icmp .ge 19, 3) := by decide +kernel
theorem dX1_become_24 : decode cX1_become 24 = .ok (.aload_n 0, 1) := by decide +kernel
theorem dX1_become_25 : decode cX1_become 25 = .ok (.getfield 20, 3) := by decide +kernel
theorem dX1_become_28 : decode cX1_become 28 = .ok (.iload_n 1, 1) := by decide +kernel
theorem dX1_become_29 : decode cX1_become 29 = .ok (.aaload, 1) := by decide +kernel
theorem dX1_become_30 : decode cX1_become 30 = .ok (.iload 4, 2) := by decide +kernel
theorem dX1_become_32 : decode cX1_become 32 = .ok (.iconst 0, 1) := by decide +kernel
theorem dX1_become_33 : decode cX1_become 33 = .ok (.iastore, 1) := by decide +kernel
theorem dX1_become_34 : decode cX1_become 34 = .ok (.iinc 4 1, 3) := by decide +kernel
theorem dX1_become_37 : decode cX1_become 37 = .ok (.goto (-20), 3) := by decide +kernel
theorem dX1_become_40 : decode cX1_become 40 = .ok (.return_, 1) := by decide +kernel
theorem dX1_store_0 : decode cX1_store 0 = .ok (.aload_n 0, 1) := by decide +kernel
theorem dX1_store_1 : decode cX1_store 1 = .ok (.getfield 9, 3) := by decide +kernel
theorem dX1_store_4 : decode cX1_store 4 = .ok (.iload_n 1, 1) := by decide +kernel
theorem dX1_store_5 : decode cX1_store 5 = .ok (.iaload, 1) := by decide +kernel
theorem dX1_store_6 : decode cX1_store 6 = .ok (.lookupswitch 52 #[(0, 26), (1, 39)], 26) := by decide +kernel
theorem dX1_store_32 : decode cX1_store 32 = .ok (.aload_n 0, 1) := by decide +kernel
theorem dX1_store_33 : decode cX1_store 33 = .ok (.getfield 20, 3) := by decide +kernel
theorem dX1_store_36 : decode cX1_store 36 = .ok (.iload_n 1, 1) := by decide +kernel
theorem dX1_store_37 : decode cX1_store 37 = .ok (.aaload, 1) := by decide +kernel
theorem dX1_store_38 : decode cX1_store 38 = .ok (.iload_n 2, 1) := by decide +kernel
theorem dX1_store_39 : decode cX1_store 39 = .ok (.iload_n 3, 1) := by decide +kernel
theorem dX1_store_40 : decode cX1_store 40 = .ok (.i2b, 1) := by decide +kernel
theorem dX1_store_41 : decode cX1_store 41 = .ok (.iastore, 1) := by decide +kernel
theorem dX1_store_42 : decode cX1_store 42 = .ok (.goto 25, 3) := by decide +kernel
theorem dX1_store_45 : decode cX1_store 45 = .ok (.aload_n 0, 1) := by decide +kernel
theorem dX1_store_46 : decode cX1_store 46 = .ok (.getfield 20, 3) := by decide +kernel
theorem dX1_store_49 : decode cX1_store 49 = .ok (.iload_n 1, 1) := by decide +kernel
theorem dX1_store_50 : decode cX1_store 50 = .ok (.aaload, 1) := by decide +kernel
theorem dX1_store_51 : decode cX1_store 51 = .ok (.iload_n 2, 1) := by decide +kernel
theorem dX1_store_52 : decode cX1_store 52 = .ok (.iload_n 3, 1) := by decide +kernel
theorem dX1_store_53 : decode cX1_store 53 = .ok (.i2s, 1) := by decide +kernel
theorem dX1_store_54 : decode cX1_store 54 = .ok (.iastore, 1) := by decide +kernel
theorem dX1_store_55 : decode cX1_store 55 = .ok (.goto 12, 3) := by decide +kernel
theorem dX1_store_58 : decode cX1_store 58 = .ok (.aload_n 0, 1) := by decide +kernel
theorem dX1_store_59 : decode cX1_store 59 = .ok (.getfield 20, 3) := by decide +kernel
theorem dX1_store_62 : decode cX1_store 62 = .ok (.iload_n 1, 1) := by decide +kernel
theorem dX1_store_63 : decode cX1_store 63 = .ok (.aaload, 1) := by decide +kernel
theorem dX1_store_64 : decode cX1_store 64 = .ok (.iload_n 2, 1) := by decide +kernel
theorem dX1_store_65 : decode cX1_store 65 = .ok (.iload_n 3, 1) := by decide +kernel
theorem dX1_store_66 : decode cX1_store 66 = .ok (.iastore, 1) := by decide +kernel
theorem dX1_store_67 : decode cX1_store 67 = .ok (.return_, 1) := by decide +kernel
theorem dX1_refusalToTell_0 : decode cX1_refusalToTell 0 = .ok (.iload_n 1, 1) := by decide +kernel
theorem dX1_refusalToTell_1 : decode cX1_refusalToTell 1 = .ok (.invokestatic 23, 3) := by decide +kernel
theorem dX1_refusalToTell_4 : decode cX1_refusalToTell 4 = .ok (.ifCond .ne 6, 3) := by decide +kernel
theorem dX1_refusalToTell_7 : decode cX1_refusalToTell 7 = .ok (.bipush (-2), 2) := by decide +kernel
theorem dX1_refusalToTell_9 : decode cX1_refusalToTell 9 = .ok (.ireturn, 1) := by decide +kernel
theorem dX1_refusalToTell_10 : decode cX1_refusalToTell 10 = .ok (.aload_n 0, 1) := by decide +kernel
theorem dX1_refusalToTell_11 : decode cX1_refusalToTell 11 = .ok (.iload_n 1, 1) := by decide +kernel
theorem dX1_refusalToTell_12 : decode cX1_refusalToTell 12 = .ok (.invokevirtual 27, 3) := by decide +kernel
theorem dX1_refusalToTell_15 : decode cX1_refusalToTell 15 = .ok (.ifCond .eq 6, 3) := by decide +kernel
theorem dX1_refusalToTell_18 : decode cX1_refusalToTell 18 = .ok (.bipush (-11), 2) := by decide +kernel
theorem dX1_refusalToTell_20 : decode cX1_refusalToTell 20 = .ok (.ireturn, 1) := by decide +kernel
theorem dX1_refusalToTell_21 : decode cX1_refusalToTell 21 = .ok (.aload_n 0, 1) := by decide +kernel
theorem dX1_refusalToTell_22 : decode cX1_refusalToTell 22 = .ok (.getfield 15, 3) := by decide +kernel
theorem dX1_refusalToTell_25 : decode cX1_refusalToTell 25 = .ok (.iload_n 1, 1) := by decide +kernel
theorem dX1_refusalToTell_26 : decode cX1_refusalToTell 26 = .ok (.iaload, 1) := by decide +kernel
theorem dX1_refusalToTell_27 : decode cX1_refusalToTell 27 = .ok (.bipush 30, 2) := by decide +kernel
theorem dX1_refusalToTell_29 : decode cX1_refusalToTell 29 = .ok (.if_icmp .le 8, 3) := by decide +kernel
theorem dX1_refusalToTell_32 : decode cX1_refusalToTell 32 = .ok (.bipush (-2), 2) := by decide +kernel
theorem dX1_refusalToTell_34 : decode cX1_refusalToTell 34 = .ok (.goto 4, 3) := by decide +kernel
theorem dX1_refusalToTell_37 : decode cX1_refusalToTell 37 = .ok (.iconst 0, 1) := by decide +kernel
theorem dX1_refusalToTell_38 : decode cX1_refusalToTell 38 = .ok (.ireturn, 1) := by decide +kernel
theorem dX2_init_0 : decode cX2_init 0 = .ok (.aload_n 0, 1) := by decide +kernel
theorem dX2_init_1 : decode cX2_init 1 = .ok (.invokespecial 3, 3) := by decide +kernel
theorem dX2_init_4 : decode cX2_init 4 = .ok (.aload_n 0, 1) := by decide +kernel
theorem dX2_init_5 : decode cX2_init 5 = .ok (.sipush 160, 3) := by decide +kernel
theorem dX2_init_8 : decode cX2_init 8 = .ok (.newarray .int, 2) := by decide +kernel
theorem dX2_init_10 : decode cX2_init 10 = .ok (.putfield 9, 3) := by decide +kernel
theorem dX2_init_13 : decode cX2_init 13 = .ok (.aload_n 0, 1) := by decide +kernel
theorem dX2_init_14 : decode cX2_init 14 = .ok (.aload_n 0, 1) := by decide +kernel
theorem dX2_init_15 : decode cX2_init 15 = .ok (.getfield 9, 3) := by decide +kernel
theorem dX2_init_18 : decode cX2_init 18 = .ok (.putfield 15, 3) := by decide +kernel
theorem dX2_init_21 : decode cX2_init 21 = .ok (.return_, 1) := by decide +kernel
theorem dX2_add_0 : decode cX2_add 0 = .ok (.aload_n 0, 1) := by decide +kernel
theorem dX2_add_1 : decode cX2_add 1 = .ok (.getfield 18, 3) := by decide +kernel
theorem dX2_add_4 : decode cX2_add 4 = .ok (.sipush 160, 3) := by decide +kernel
theorem dX2_add_7 : decode cX2_add 7 = .ok (.if_icmp .ge 23, 3) := by decide +kernel
theorem dX2_add_10 : decode cX2_add 10 = .ok (.aload_n 0, 1) := by decide +kernel
theorem dX2_add_11 : decode cX2_add 11 = .ok (.getfield 9, 3) := by decide +kernel
theorem dX2_add_14 : decode cX2_add 14 = .ok (.aload_n 0, 1) := by decide +kernel
theorem dX2_add_15 : decode cX2_add 15 = .ok (.getfield 18, 3) := by decide +kernel
theorem dX2_add_18 : decode cX2_add 18 = .ok (.iload_n 1, 1) := by decide +kernel
theorem dX2_add_19 : decode cX2_add 19 = .ok (.iastore, 1) := by decide +kernel
theorem dX2_add_20 : decode cX2_add 20 = .ok (.aload_n 0, 1) := by decide +kernel
theorem dX2_add_21 : decode cX2_add 21 = .ok (.dup, 1) := by decide +kernel
theorem dX2_add_22 : decode cX2_add 22 = .ok (.getfield 18, 3) := by decide +kernel
theorem dX2_add_25 : decode cX2_add 25 = .ok (.iconst 1, 1) := by decide +kernel
theorem dX2_add_26 : decode cX2_add 26 = .ok (.iadd, 1) := by decide +kernel
theorem dX2_add_27 : decode cX2_add 27 = .ok (.putfield 18, 3) := by decide +kernel
theorem dX2_add_30 : decode cX2_add 30 = .ok (.return_, 1) := by decide +kernel
theorem dX2_read_0 : decode cX2_read 0 = .ok (.aload_n 0, 1) := by decide +kernel
theorem dX2_read_1 : decode cX2_read 1 = .ok (.aload_n 1, 1) := by decide +kernel
theorem dX2_read_2 : decode cX2_read 2 = .ok (.putfield 15, 3) := by decide +kernel
theorem dX2_read_5 : decode cX2_read 5 = .ok (.aload_n 0, 1) := by decide +kernel
theorem dX2_read_6 : decode cX2_read 6 = .ok (.iconst 0, 1) := by decide +kernel
theorem dX2_read_7 : decode cX2_read 7 = .ok (.putfield 22, 3) := by decide +kernel
theorem dX2_read_10 : decode cX2_read 10 = .ok (.aload_n 0, 1) := by decide +kernel
theorem dX2_read_11 : decode cX2_read 11 = .ok (.iconst 0, 1) := by decide +kernel
theorem dX2_read_12 : decode cX2_read 12 = .ok (.putfield 25, 3) := by decide +kernel
theorem dX2_read_15 : decode cX2_read 15 = .ok (.aload_n 0, 1) := by decide +kernel
theorem dX2_read_16 : decode cX2_read 16 = .ok (.iconst (-1), 1) := by decide +kernel
theorem dX2_read_17 : decode cX2_read 17 = .ok (.putfield 28, 3) := by decide +kernel
theorem dX2_read_20 : decode cX2_read 20 = .ok (.aload_n 0, 1) := by decide +kernel
theorem dX2_read_21 : decode cX2_read 21 = .ok (.invokevirtual 31, 3) := by decide +kernel
theorem dX2_read_24 : decode cX2_read 24 = .ok (.iconst 0, 1) := by decide +kernel
theorem dX2_read_25 : decode cX2_read 25 = .ok (.istore_n 3, 1) := by decide +kernel
theorem dX2_read_26 : decode cX2_read 26 = .ok (.iload_n 3, 1) := by decide +kernel
theorem dX2_read_27 : decode cX2_read 27 = .ok (.iconst 3, 1) := by decide +kernel
theorem dX2_read_28 : decode cX2_read 28 = .ok (.if_icmp .ge 42, 3) := by decide +kernel
theorem dX2_read_31 : decode cX2_read 31 = .ok (.iload_n 3, 1) := by decide +kernel
theorem dX2_read_32 : decode cX2_read 32 = .ok (.aload_n 2, 1) := by decide +kernel
theorem dX2_read_33 : decode cX2_read 33 = .ok (.arraylength, 1) := by decide +kernel
theorem dX2_read_34 : decode cX2_read 34 = .ok (.if_icmp .ge 36, 3) := by decide +kernel
theorem dX2_read_37 : decode cX2_read 37 = .ok (.aload_n 0, 1) := by decide +kernel
theorem dX2_read_38 : decode cX2_read 38 = .ok (.bipush (-22), 2) := by decide +kernel
theorem dX2_read_40 : decode cX2_read 40 = .ok (.iload_n 3, 1) := by decide +kernel
theorem dX2_read_41 : decode cX2_read 41 = .ok (.isub, 1) := by decide +kernel
theorem dX2_read_42 : decode cX2_read 42 = .ok (.invokevirtual 34, 3) := by decide +kernel
theorem dX2_read_45 : decode cX2_read 45 = .ok (.aload_n 0, 1) := by decide +kernel
theorem dX2_read_46 : decode cX2_read 46 = .ok (.iconst 0, 1) := by decide +kernel
theorem dX2_read_47 : decode cX2_read 47 = .ok (.iconst 0, 1) := by decide +kernel
theorem dX2_read_48 : decode cX2_read 48 = .ok (.invokestatic 38, 3) := by decide +kernel
theorem dX2_read_51 : decode cX2_read 51 = .ok (.aload_n 0, 1) := by decide +kernel
theorem dX2_read_52 : decode cX2_read 52 = .ok (.bipush (-18), 2) := by decide +kernel
theorem dX2_read_54 : decode cX2_read 54 = .ok (.invokevirtual 34, 3) := by decide +kernel
theorem dX2_read_57 : decode cX2_read 57 = .ok (.aload_n 2, 1) := by decide +kernel
theorem dX2_read_58 : decode cX2_read 58 = .ok (.iload_n 3, 1) := by decide +kernel
theorem dX2_read_59 : decode cX2_read 59 = .ok (.aload_n 0, 1) := by decide +kernel
theorem dX2_read_60 : decode cX2_read 60 = .ok (.getfield 22, 3) := by decide +kernel
theorem dX2_read_63 : decode cX2_read 63 = .ok (.iastore, 1) := by decide +kernel
theorem dX2_read_64 : decode cX2_read 64 = .ok (.iinc 3 1, 3) := by decide +kernel
theorem dX2_read_67 : decode cX2_read 67 = .ok (.goto (-41), 3) := by decide +kernel
theorem dX2_read_70 : decode cX2_read 70 = .ok (.aload_n 0, 1) := by decide +kernel
theorem dX2_read_71 : decode cX2_read 71 = .ok (.getfield 42, 3) := by decide +kernel
theorem dX2_read_74 : decode cX2_read 74 = .ok (.bipush (-20), 2) := by decide +kernel
theorem dX2_read_76 : decode cX2_read 76 = .ok (.if_icmp .eq 7, 3) := by decide +kernel
theorem dX2_read_79 : decode cX2_read 79 = .ok (.aload_n 0, 1) := by decide +kernel
theorem dX2_read_80 : decode cX2_read 80 = .ok (.invokevirtual 45, 3) := by decide +kernel
theorem dX2_read_83 : decode cX2_read 83 = .ok (.aload_n 0, 1) := by decide +kernel
theorem dX2_read_84 : decode cX2_read 84 = .ok (.getfield 28, 3) := by decide +kernel
theorem dX2_read_87 : decode cX2_read 87 = .ok (.ireturn, 1) := by decide +kernel
theorem dX2_must_0 : decode cX2_must 0 = .ok (.aload_n 0, 1) := by decide +kernel
theorem dX2_must_1 : decode cX2_must 1 = .ok (.getfield 42, 3) := by decide +kernel
theorem dX2_must_4 : decode cX2_must 4 = .ok (.iload_n 1, 1) := by decide +kernel
theorem dX2_must_5 : decode cX2_must 5 = .ok (.if_icmp .ne 10, 3) := by decide +kernel
theorem dX2_must_8 : decode cX2_must 8 = .ok (.aload_n 0, 1) := by decide +kernel
theorem dX2_must_9 : decode cX2_must 9 = .ok (.invokevirtual 31, 3) := by decide +kernel
theorem dX2_must_12 : decode cX2_must 12 = .ok (.goto 7, 3) := by decide +kernel
theorem dX2_must_15 : decode cX2_must 15 = .ok (.aload_n 0, 1) := by decide +kernel
theorem dX2_must_16 : decode cX2_must 16 = .ok (.invokevirtual 45, 3) := by decide +kernel
theorem dX2_must_19 : decode cX2_must 19 = .ok (.return_, 1) := by decide +kernel
theorem dX2_refuse_0 : decode cX2_refuse 0 = .ok (.aload_n 0, 1) := by decide +kernel
theorem dX2_refuse_1 : decode cX2_refuse 1 = .ok (.getfield 28, 3) := by decide +kernel
theorem dX2_refuse_4 : decode cX2_refuse 4 = .ok (.ifCond .ge 11, 3) := by decide +kernel
theorem dX2_refuse_7 : decode cX2_refuse 7 = .ok (.aload_n 0, 1) := by decide +kernel
theorem dX2_refuse_8 : decode cX2_refuse 8 = .ok (.aload_n 0, 1) := by decide +kernel
theorem dX2_refuse_9 : decode cX2_refuse 9 = .ok (.getfield 48, 3) := by decide +kernel
theorem dX2_refuse_12 : decode cX2_refuse 12 = .ok (.putfield 28, 3) := by decide +kernel
theorem dX2_refuse_15 : decode cX2_refuse 15 = .ok (.aload_n 0, 1) := by decide +kernel
theorem dX2_refuse_16 : decode cX2_refuse 16 = .ok (.bipush (-21), 2) := by decide +kernel
theorem dX2_refuse_18 : decode cX2_refuse 18 = .ok (.putfield 42, 3) := by decide +kernel
theorem dX2_refuse_21 : decode cX2_refuse 21 = .ok (.return_, 1) := by decide +kernel
theorem dX2_write_0 : decode cX2_write 0 = .ok (.aload_n 0, 1) := by decide +kernel
theorem dX2_write_1 : decode cX2_write 1 = .ok (.getfield 22, 3) := by decide +kernel
theorem dX2_write_4 : decode cX2_write 4 = .ok (.aload_n 0, 1) := by decide +kernel
theorem dX2_write_5 : decode cX2_write 5 = .ok (.getfield 15, 3) := by decide +kernel
theorem dX2_write_8 : decode cX2_write 8 = .ok (.arraylength, 1) := by decide +kernel
theorem dX2_write_9 : decode cX2_write 9 = .ok (.if_icmp .ge 23, 3) := by decide +kernel
theorem dX2_write_12 : decode cX2_write 12 = .ok (.aload_n 0, 1) := by decide +kernel
theorem dX2_write_13 : decode cX2_write 13 = .ok (.getfield 15, 3) := by decide +kernel
theorem dX2_write_16 : decode cX2_write 16 = .ok (.aload_n 0, 1) := by decide +kernel
theorem dX2_write_17 : decode cX2_write 17 = .ok (.getfield 22, 3) := by decide +kernel
theorem dX2_write_20 : decode cX2_write 20 = .ok (.iload_n 1, 1) := by decide +kernel
theorem dX2_write_21 : decode cX2_write 21 = .ok (.iastore, 1) := by decide +kernel
theorem dX2_write_22 : decode cX2_write 22 = .ok (.aload_n 0, 1) := by decide +kernel
theorem dX2_write_23 : decode cX2_write 23 = .ok (.dup, 1) := by decide +kernel
theorem dX2_write_24 : decode cX2_write 24 = .ok (.getfield 22, 3) := by decide +kernel
theorem dX2_write_27 : decode cX2_write 27 = .ok (.iconst 1, 1) := by decide +kernel
theorem dX2_write_28 : decode cX2_write 28 = .ok (.iadd, 1) := by decide +kernel
theorem dX2_write_29 : decode cX2_write 29 = .ok (.putfield 22, 3) := by decide +kernel
theorem dX2_write_32 : decode cX2_write 32 = .ok (.return_, 1) := by decide +kernel
theorem dX2_readPart_0 : decode cX2_readPart 0 = .ok (.aload_n 0, 1) := by decide +kernel
theorem dX2_readPart_1 : decode cX2_readPart 1 = .ok (.getfield 42, 3) := by decide +kernel
theorem dX2_readPart_4 : decode cX2_readPart 4 = .ok (.istore_n 3, 1) := by decide +kernel
theorem dX2_readPart_5 : decode cX2_readPart 5 = .ok (.iload_n 1, 1) := by decide +kernel
theorem dX2_readPart_6 : decode cX2_readPart 6 = .ok (.iconst 2, 1) := by decide +kernel
theorem dX2_readPart_7 : decode cX2_readPart 7 = .ok (.if_icmp .ne 9, 3) := by decide +kernel
theorem dX2_readPart_10 : decode cX2_readPart 10 = .ok (.iload_n 3, 1) := by decide +kernel
theorem dX2_readPart_11 : decode cX2_readPart 11 = .ok (.bipush (-9), 2) := by decide +kernel
theorem dX2_readPart_13 : decode cX2_readPart 13 = .ok (.if_icmp .eq 14, 3) := by decide +kernel
theorem dX2_readPart_16 : decode cX2_readPart 16 = .ok (.iload_n 1, 1) := by decide +kernel
theorem dX2_readPart_17 : decode cX2_readPart 17 = .ok (.iconst 5, 1) := by decide +kernel
theorem dX2_readPart_18 : decode cX2_readPart 18 = .ok (.if_icmp .ne 45, 3) := by decide +kernel
theorem dX2_readPart_21 : decode cX2_readPart 21 = .ok (.iload_n 3, 1) := by decide +kernel
theorem dX2_readPart_22 : decode cX2_readPart 22 = .ok (.bipush (-13), 2) := by decide +kernel
theorem dX2_readPart_24 : decode cX2_readPart 24 = .ok (.if_icmp .ne 39, 3) := by decide +kernel
theorem dX2_readPart_27 : decode cX2_readPart 27 = .ok (.aload_n 0, 1) := by decide +kernel
theorem dX2_readPart_28 : decode cX2_readPart 28 = .ok (.iload_n 2, 1) := by decide +kernel
theorem dX2_readPart_29 : decode cX2_readPart 29 = .ok (.invokevirtual 51, 3) := by decide +kernel
theorem dX2_readPart_32 : decode cX2_readPart 32 = .ok (.ifCond .eq 189, 3) := by decide +kernel
theorem dX2_readPart_35 : decode cX2_readPart 35 = .ok (.aload_n 0, 1) := by decide +kernel
theorem dX2_readPart_36 : decode cX2_readPart 36 = .ok (.iload_n 1, 1) := by decide +kernel
theorem dX2_readPart_37 : decode cX2_readPart 37 = .ok (.iload_n 2, 1) := by decide +kernel
theorem dX2_readPart_38 : decode cX2_readPart 38 = .ok (.iconst 1, 1) := by decide +kernel
theorem dX2_readPart_39 : decode cX2_readPart 39 = .ok (.iadd, 1) := by decide +kernel
theorem dX2_readPart_40 : decode cX2_readPart 40 = .ok (.invokestatic 38, 3) := by decide +kernel
theorem dX2_readPart_43 : decode cX2_readPart 43 = .ok (.aload_n 0, 1) := by decide +kernel
theorem dX2_readPart_44 : decode cX2_readPart 44 = .ok (.iload_n 3, 1) := by decide +kernel
theorem dX2_readPart_45 : decode cX2_readPart 45 = .ok (.bipush (-9), 2) := by decide +kernel
theorem dX2_readPart_47 : decode cX2_readPart 47 = .ok (.if_icmp .ne 8, 3) := by decide +kernel
theorem dX2_readPart_50 : decode cX2_readPart 50 = .ok (.bipush (-9), 2) := by decide +kernel
theorem dX2_readPart_52 : decode cX2_readPart 52 = .ok (.goto 5, 3) := by decide +kernel
theorem dX2_readPart_55 : decode cX2_readPart 55 = .ok (.bipush (-15), 2) := by decide +kernel
theorem dX2_readPart_57 : decode cX2_readPart 57 = .ok (.invokevirtual 55, 3) := by decide +kernel
theorem dX2_readPart_60 : decode cX2_readPart 60 = .ok (.goto 161, 3) := by decide +kernel
theorem dX2_readPart_63 : decode cX2_readPart 63 = .ok (.iload_n 1, 1) := by decide +kernel
theorem dX2_readPart_64 : decode cX2_readPart 64 = .ok (.iconst 5, 1) := by decide +kernel
theorem dX2_readPart_65 : decode cX2_readPart 65 = .ok (.if_icmp .ge 79, 3) := by decide +kernel
theorem dX2_readPart_68 : decode cX2_readPart 68 = .ok (.aload_n 0, 1) := by decide +kernel
theorem dX2_readPart_69 : decode cX2_readPart 69 = .ok (.iload_n 1, 1) := by decide +kernel
theorem dX2_readPart_70 : decode cX2_readPart 70 = .ok (.iconst 1, 1) := by decide +kernel
theorem dX2_readPart_71 : decode cX2_readPart 71 = .ok (.iadd, 1) := by decide +kernel
theorem dX2_readPart_72 : decode cX2_readPart 72 = .ok (.iload_n 2, 1) := by decide +kernel
theorem dX2_readPart_73 : decode cX2_readPart 73 = .ok (.invokestatic 38, 3) := by decide +kernel
theorem dX2_readPart_76 : decode cX2_readPart 76 = .ok (.iload_n 1, 1) := by decide +kernel
theorem dX2_readPart_77 : decode cX2_readPart 77 = .ok (.iconst 2, 1) := by decide +kernel
theorem dX2_readPart_78 : decode cX2_readPart 78 = .ok (.if_icmp .ne 7, 3) := by decide +kernel
theorem dX2_readPart_81 : decode cX2_readPart 81 = .ok (.iconst 1, 1) := by decide +kernel
theorem dX2_readPart_82 : decode cX2_readPart 82 = .ok (.goto 6, 3) := by decide +kernel
theorem dX2_readPart_85 : decode cX2_readPart 85 = .ok (.sipush 160, 3) := by decide +kernel
theorem dX2_readPart_88 : decode cX2_readPart 88 = .ok (.istore 4, 2) := by decide +kernel
theorem dX2_readPart_90 : decode cX2_readPart 90 = .ok (.iconst 0, 1) := by decide +kernel
theorem dX2_readPart_91 : decode cX2_readPart 91 = .ok (.istore 5, 2) := by decide +kernel
theorem dX2_readPart_93 : decode cX2_readPart 93 = .ok (.iload 5, 2) := by decide +kernel
theorem dX2_readPart_95 : decode cX2_readPart 95 = .ok (.iload 4, 2) := by decide +kernel
theorem dX2_readPart_97 : decode cX2_readPart 97 = .ok (.if_icmp .ge 44, 3) := by decide +kernel
theorem dX2_readPart_100 : decode cX2_readPart 100 = .ok (.aload_n 0, 1) := by decide +kernel
theorem dX2_readPart_101 : decode cX2_readPart 101 = .ok (.getfield 42, 3) := by decide +kernel
theorem dX2_readPart_104 : decode cX2_readPart 104 = .ok (.invokestatic 58, 3) := by decide +kernel
theorem dX2_readPart_107 : decode cX2_readPart 107 = .ok (.iload_n 1, 1) := by decide +kernel
theorem dX2_readPart_108 : decode cX2_readPart 108 = .ok (.if_icmp .ne 33, 3) := by decide +kernel
theorem dX2_readPart_111 : decode cX2_readPart 111 = .ok (.aload_n 0, 1) := by decide +kernel
theorem dX2_readPart_112 : decode cX2_readPart 112 = .ok (.getfield 42, 3) := by decide +kernel
theorem dX2_readPart_115 : decode cX2_readPart 115 = .ok (.istore 6, 2) := by decide +kernel
theorem dX2_readPart_117 : decode cX2_readPart 117 = .ok (.aload_n 0, 1) := by decide +kernel
theorem dX2_readPart_118 : decode cX2_readPart 118 = .ok (.invokevirtual 31, 3) := by decide +kernel
theorem dX2_readPart_121 : decode cX2_readPart 121 = .ok (.aload_n 0, 1) := by decide +kernel
theorem dX2_readPart_122 : decode cX2_readPart 122 = .ok (.iload_n 1, 1) := by decide +kernel
theorem dX2_readPart_123 : decode cX2_readPart 123 = .ok (.iconst 1, 1) := by decide +kernel
theorem dX2_readPart_124 : decode cX2_readPart 124 = .ok (.iadd, 1) := by decide +kernel
theorem dX2_readPart_125 : decode cX2_readPart 125 = .ok (.iload_n 2, 1) := by decide +kernel
theorem dX2_readPart_126 : decode cX2_readPart 126 = .ok (.invokestatic 38, 3) := by decide +kernel
theorem dX2_readPart_129 : decode cX2_readPart 129 = .ok (.aload_n 0, 1) := by decide +kernel
theorem dX2_readPart_130 : decode cX2_readPart 130 = .ok (.iload 6, 2) := by decide +kernel
theorem dX2_readPart_132 : decode cX2_readPart 132 = .ok (.invokevirtual 55, 3) := by decide +kernel
theorem dX2_readPart_135 : decode cX2_readPart 135 = .ok (.iinc 5 1, 3) := by decide +kernel
theorem dX2_readPart_138 : decode cX2_readPart 138 = .ok (.goto (-45), 3) := by decide +kernel
theorem dX2_readPart_141 : decode cX2_readPart 141 = .ok (.goto 80, 3) := by decide +kernel
theorem dX2_readPart_144 : decode cX2_readPart 144 = .ok (.iload_n 3, 1) := by decide +kernel
theorem dX2_readPart_145 : decode cX2_readPart 145 = .ok (.bipush (-16), 2) := by decide +kernel
theorem dX2_readPart_147 : decode cX2_readPart 147 = .ok (.if_icmp .ne 28, 3) := by decide +kernel
theorem dX2_readPart_150 : decode cX2_readPart 150 = .ok (.aload_n 0, 1) := by decide +kernel
theorem dX2_readPart_151 : decode cX2_readPart 151 = .ok (.iload_n 2, 1) := by decide +kernel
theorem dX2_readPart_152 : decode cX2_readPart 152 = .ok (.invokevirtual 51, 3) := by decide +kernel
theorem dX2_readPart_155 : decode cX2_readPart 155 = .ok (.ifCond .eq 66, 3) := by decide +kernel
theorem dX2_readPart_158 : decode cX2_readPart 158 = .ok (.aload_n 0, 1) := by decide +kernel
theorem dX2_readPart_159 : decode cX2_readPart 159 = .ok (.iconst 0, 1) := by decide +kernel
theorem dX2_readPart_160 : decode cX2_readPart 160 = .ok (.iload_n 2, 1) := by decide +kernel
theorem dX2_readPart_161 : decode cX2_readPart 161 = .ok (.iconst 1, 1) := by decide +kernel
theorem dX2_readPart_162 : decode cX2_readPart 162 = .ok (.iadd, 1) := by decide +kernel
theorem dX2_readPart_163 : decode cX2_readPart 163 = .ok (.invokestatic 38, 3) := by decide +kernel
theorem dX2_readPart_166 : decode cX2_readPart 166 = .ok (.aload_n 0, 1) := by decide +kernel
theorem dX2_readPart_167 : decode cX2_readPart 167 = .ok (.bipush (-17), 2) := by decide +kernel
theorem dX2_readPart_169 : decode cX2_readPart 169 = .ok (.invokevirtual 34, 3) := by decide +kernel
theorem dX2_readPart_172 : decode cX2_readPart 172 = .ok (.goto 49, 3) := by decide +kernel
theorem dX2_readPart_175 : decode cX2_readPart 175 = .ok (.iload_n 3, 1) := by decide +kernel
theorem dX2_readPart_176 : decode cX2_readPart 176 = .ok (.bipush (-19), 2) := by decide +kernel
theorem dX2_readPart_178 : decode cX2_readPart 178 = .ok (.if_icmp .eq 14, 3) := by decide +kernel
theorem dX2_readPart_181 : decode cX2_readPart 181 = .ok (.iload_n 3, 1) := by decide +kernel
theorem dX2_readPart_182 : decode cX2_readPart 182 = .ok (.iconst (-1), 1) := by decide +kernel
theorem dX2_readPart_183 : decode cX2_readPart 183 = .ok (.if_icmp .gt 34, 3) := by decide +kernel
theorem dX2_readPart_186 : decode cX2_readPart 186 = .ok (.iload_n 3, 1) := by decide +kernel
theorem dX2_readPart_187 : decode cX2_readPart 187 = .ok (.bipush (-6), 2) := by decide +kernel
theorem dX2_readPart_189 : decode cX2_readPart 189 = .ok (.if_icmp .lt 28, 3) := by decide +kernel
theorem dX2_readPart_192 : decode cX2_readPart 192 = .ok (.aload_n 0, 1) := by decide +kernel
theorem dX2_readPart_193 : decode cX2_readPart 193 = .ok (.iload_n 3, 1) := by decide +kernel
theorem dX2_readPart_194 : decode cX2_readPart 194 = .ok (.bipush (-19), 2) := by decide +kernel
theorem dX2_readPart_196 : decode cX2_readPart 196 = .ok (.if_icmp .ne 10, 3) := by decide +kernel
theorem dX2_readPart_199 : decode cX2_readPart 199 = .ok (.aload_n 0, 1) := by decide +kernel
theorem dX2_readPart_200 : decode cX2_readPart 200 = .ok (.getfield 62, 3) := by decide +kernel
theorem dX2_readPart_203 : decode cX2_readPart 203 = .ok (.goto 4, 3) := by decide +kernel
theorem dX2_readPart_206 : decode cX2_readPart 206 = .ok (.iload_n 3, 1) := by decide +kernel
theorem dX2_readPart_207 : decode cX2_readPart 207 = .ok (.invokevirtual 55, 3) := by decide +kernel
theorem dX2_readPart_210 : decode cX2_readPart 210 = .ok (.aload_n 0, 1) := by decide +kernel
theorem dX2_readPart_211 : decode cX2_readPart 211 = .ok (.invokevirtual 31, 3) := by decide +kernel
theorem dX2_readPart_214 : decode cX2_readPart 214 = .ok (.goto 7, 3) := by decide +kernel
theorem dX2_readPart_217 : decode cX2_readPart 217 = .ok (.aload_n 0, 1) := by decide +kernel
theorem dX2_readPart_218 : decode cX2_readPart 218 = .ok (.invokevirtual 45, 3) := by decide +kernel
theorem dX2_readPart_221 : decode cX2_readPart 221 = .ok (.return_, 1) := by decide +kernel
theorem dX2_opens_0 : decode cX2_opens 0 = .ok (.iload_n 1, 1) := by decide +kernel
theorem dX2_opens_1 : decode cX2_opens 1 = .ok (.iconst 5, 1) := by decide +kernel
theorem dX2_opens_2 : decode cX2_opens 2 = .ok (.if_icmp .lt 9, 3) := by decide +kernel
theorem dX2_opens_5 : decode cX2_opens 5 = .ok (.aload_n 0, 1) := by decide +kernel
theorem dX2_opens_6 : decode cX2_opens 6 = .ok (.invokevirtual 45, 3) := by decide +kernel
theorem dX2_opens_9 : decode cX2_opens 9 = .ok (.iconst 0, 1) := by decide +kernel
theorem dX2_opens_10 : decode cX2_opens 10 = .ok (.ireturn, 1) := by decide +kernel
theorem dX2_opens_11 : decode cX2_opens 11 = .ok (.aload_n 0, 1) := by decide +kernel
theorem dX2_opens_12 : decode cX2_opens 12 = .ok (.invokevirtual 31, 3) := by decide +kernel
theorem dX2_opens_15 : decode cX2_opens 15 = .ok (.iconst 1, 1) := by decide +kernel
theorem dX2_opens_16 : decode cX2_opens 16 = .ok (.ireturn, 1) := by decide +kernel
theorem dX2_levelOf_0 : decode cX2_levelOf 0 = .ok (.iload_n 0, 1) := by decide +kernel
theorem dX2_levelOf_1 : decode cX2_levelOf 1 = .ok (.tableswitch 57 (-14) (-7) #[55, 53, 53, 51, 51, 57, 49, 47], 47) := by decide +kernel
theorem dX2_levelOf_48 : decode cX2_levelOf 48 = .ok (.iconst 0, 1) := by decide +kernel
theorem dX2_levelOf_49 : decode cX2_levelOf 49 = .ok (.ireturn, 1) := by decide +kernel
theorem dX2_levelOf_50 : decode cX2_levelOf 50 = .ok (.iconst 1, 1) := by decide +kernel
theorem dX2_levelOf_51 : decode cX2_levelOf 51 = .ok (.ireturn, 1) := by decide +kernel
theorem dX2_levelOf_52 : decode cX2_levelOf 52 = .ok (.iconst 2, 1) := by decide +kernel
theorem dX2_levelOf_53 : decode cX2_levelOf 53 = .ok (.ireturn, 1) := by decide +kernel
theorem dX2_levelOf_54 : decode cX2_levelOf 54 = .ok (.iconst 3, 1) := by decide +kernel
theorem dX2_levelOf_55 : decode cX2_levelOf 55 = .ok (.ireturn, 1) := by decide +kernel
theorem dX2_levelOf_56 : decode cX2_levelOf 56 = .ok (.iconst 4, 1) := by decide +kernel
theorem dX2_levelOf_57 : decode cX2_levelOf 57 = .ok (.ireturn, 1) := by decide +kernel
theorem dX2_levelOf_58 : decode cX2_levelOf 58 = .ok (.iconst (-1), 1) := by decide +kernel
theorem dX2_levelOf_59 : decode cX2_levelOf 59 = .ok (.ireturn, 1) := by decide +kernel
theorem dX2_step_0 : decode cX2_step 0 = .ok (.aload_n 0, 1) := by decide +kernel
theorem dX2_step_1 : decode cX2_step 1 = .ok (.getfield 28, 3) := by decide +kernel
theorem dX2_step_4 : decode cX2_step 4 = .ok (.ifCond .lt 4, 3) := by decide +kernel
theorem dX2_step_7 : decode cX2_step 7 = .ok (.return_, 1) := by decide +kernel
theorem dX2_step_8 : decode cX2_step 8 = .ok (.aload_n 0, 1) := by decide +kernel
theorem dX2_step_9 : decode cX2_step 9 = .ok (.getfield 25, 3) := by decide +kernel
theorem dX2_step_12 : decode cX2_step 12 = .ok (.aload_n 0, 1) := by decide +kernel
theorem dX2_step_13 : decode cX2_step 13 = .ok (.getfield 18, 3) := by decide +kernel
theorem dX2_step_16 : decode cX2_step 16 = .ok (.if_icmp .ge 44, 3) := by decide +kernel
theorem dX2_step_19 : decode cX2_step 19 = .ok (.aload_n 0, 1) := by decide +kernel
theorem dX2_step_20 : decode cX2_step 20 = .ok (.getfield 9, 3) := by decide +kernel
theorem dX2_step_23 : decode cX2_step 23 = .ok (.aload_n 0, 1) := by decide +kernel
theorem dX2_step_24 : decode cX2_step 24 = .ok (.getfield 25, 3) := by decide +kernel
theorem dX2_step_27 : decode cX2_step 27 = .ok (.iaload, 1) := by decide +kernel
theorem dX2_step_28 : decode cX2_step 28 = .ok (.bipush 32, 2) := by decide +kernel
theorem dX2_step_30 : decode cX2_step 30 = .ok (.if_icmp .eq 17, 3) := by decide +kernel
theorem dX2_step_33 : decode cX2_step 33 = .ok (.aload_n 0, 1) := by decide +kernel
theorem dX2_step_34 : decode cX2_step 34 = .ok (.getfield 9, 3) := by decide +kernel
theorem dX2_step_37 : decode cX2_step 37 = .ok (.aload_n 0, 1) := by decide +kernel
theorem dX2_step_38 : decode cX2_step 38 = .ok (.getfield 25, 3) := by decide +kernel
theorem dX2_step_41 : decode cX2_step 41 = .ok (.iaload, 1) := by decide +kernel
theorem dX2_step_42 : decode cX2_step 42 = .ok (.bipush 10, 2) := by decide +kernel
theorem dX2_step_44 : decode cX2_step 44 = .ok (.if_icmp .ne 16, 3) := by decide +kernel
theorem dX2_step_47 : decode cX2_step 47 = .ok (.aload_n 0, 1) := by decide +kernel
theorem dX2_step_48 : decode cX2_step 48 = .ok (.dup, 1) := by decide +kernel
theorem dX2_step_49 : decode cX2_step 49 = .ok (.getfield 25, 3) := by decide +kernel
theorem dX2_step_52 : decode cX2_step 52 = .ok (.iconst 1, 1) := by decide +kernel
theorem dX2_step_53 : decode cX2_step 53 = .ok (.iadd, 1) := by decide +kernel
theorem dX2_step_54 : decode cX2_step 54 = .ok (.putfield 25, 3) := by decide +kernel
theorem dX2_step_57 : decode cX2_step 57 = .ok (.goto (-49), 3) := by decide +kernel
theorem dX2_step_60 : decode cX2_step 60 = .ok (.aload_n 0, 1) := by decide +kernel
theorem dX2_step_61 : decode cX2_step 61 = .ok (.aload_n 0, 1) := by decide +kernel
theorem dX2_step_62 : decode cX2_step 62 = .ok (.getfield 25, 3) := by decide +kernel
theorem dX2_step_65 : decode cX2_step 65 = .ok (.putfield 48, 3) := by decide +kernel
theorem dX2_step_68 : decode cX2_step 68 = .ok (.aload_n 0, 1) := by decide +kernel
theorem dX2_step_69 : decode cX2_step 69 = .ok (.getfield 25, 3) := by decide +kernel
theorem dX2_step_72 : decode cX2_step 72 = .ok (.aload_n 0, 1) := by decide +kernel
theorem dX2_step_73 : decode cX2_step 73 = .ok (.getfield 18, 3) := by decide +kernel
theorem dX2_step_76 : decode cX2_step 76 = .ok (.if_icmp .lt 12, 3) := by decide +kernel
theorem dX2_step_79 : decode cX2_step 79 = .ok (.aload_n 0, 1) := by decide +kernel
theorem dX2_step_80 : decode cX2_step 80 = .ok (.bipush (-20), 2) := by decide +kernel
theorem dX2_step_82 : decode cX2_step 82 = .ok (.putfield 42, 3) := by decide +kernel
theorem dX2_step_85 : decode cX2_step 85 = .ok (.goto 81, 3) := by decide +kernel
theorem dX2_step_88 : decode cX2_step 88 = .ok (.aload_n 0, 1) := by decide +kernel
theorem dX2_step_89 : decode cX2_step 89 = .ok (.getfield 9, 3) := by decide +kernel
theorem dX2_step_92 : decode cX2_step 92 = .ok (.aload_n 0, 1) := by decide +kernel
theorem dX2_step_93 : decode cX2_step 93 = .ok (.getfield 25, 3) := by decide +kernel
theorem dX2_step_96 : decode cX2_step 96 = .ok (.iaload, 1) := by decide +kernel
theorem dX2_step_97 : decode cX2_step 97 = .ok (.invokestatic 65, 3) := by decide +kernel
theorem dX2_step_100 : decode cX2_step 100 = .ok (.ifCond .eq 14, 3) := by decide +kernel
theorem dX2_step_103 : decode cX2_step 103 = .ok (.aload_n 0, 1) := by decide +kernel
theorem dX2_step_104 : decode cX2_step 104 = .ok (.aload_n 0, 1) := by decide +kernel
theorem dX2_step_105 : decode cX2_step 105 = .ok (.invokevirtual 68, 3) := by decide +kernel
theorem dX2_step_108 : decode cX2_step 108 = .ok (.putfield 42, 3) := by decide +kernel
theorem dX2_step_111 : decode cX2_step 111 = .ok (.goto 55, 3) := by decide +kernel
theorem dX2_step_114 : decode cX2_step 114 = .ok (.aload_n 0, 1) := by decide +kernel
theorem dX2_step_115 : decode cX2_step 115 = .ok (.getfield 9, 3) := by decide +kernel
theorem dX2_step_118 : decode cX2_step 118 = .ok (.aload_n 0, 1) := by decide +kernel
theorem dX2_step_119 : decode cX2_step 119 = .ok (.getfield 25, 3) := by decide +kernel
theorem dX2_step_122 : decode cX2_step 122 = .ok (.iaload, 1) := by decide +kernel
theorem dX2_step_123 : decode cX2_step 123 = .ok (.invokestatic 72, 3) := by decide +kernel
theorem dX2_step_126 : decode cX2_step 126 = .ok (.ifCond .eq 14, 3) := by decide +kernel
theorem dX2_step_129 : decode cX2_step 129 = .ok (.aload_n 0, 1) := by decide +kernel
theorem dX2_step_130 : decode cX2_step 130 = .ok (.aload_n 0, 1) := by decide +kernel
theorem dX2_step_131 : decode cX2_step 131 = .ok (.invokevirtual 75, 3) := by decide +kernel
theorem dX2_step_134 : decode cX2_step 134 = .ok (.putfield 42, 3) := by decide +kernel
theorem dX2_step_137 : decode cX2_step 137 = .ok (.goto 29, 3) := by decide +kernel
theorem dX2_step_140 : decode cX2_step 140 = .ok (.aload_n 0, 1) := by decide +kernel
theorem dX2_step_141 : decode cX2_step 141 = .ok (.aload_n 0, 1) := by decide +kernel
theorem dX2_step_142 : decode cX2_step 142 = .ok (.getfield 9, 3) := by decide +kernel
theorem dX2_step_145 : decode cX2_step 145 = .ok (.aload_n 0, 1) := by decide +kernel
theorem dX2_step_146 : decode cX2_step 146 = .ok (.getfield 25, 3) := by decide +kernel
theorem dX2_step_149 : decode cX2_step 149 = .ok (.iaload, 1) := by decide +kernel
theorem dX2_step_150 : decode cX2_step 150 = .ok (.invokestatic 78, 3) := by decide +kernel
theorem dX2_step_153 : decode cX2_step 153 = .ok (.putfield 42, 3) := by decide +kernel
theorem dX2_step_156 : decode cX2_step 156 = .ok (.aload_n 0, 1) := by decide +kernel
theorem dX2_step_157 : decode cX2_step 157 = .ok (.dup, 1) := by decide +kernel
theorem dX2_step_158 : decode cX2_step 158 = .ok (.getfield 25, 3) := by decide +kernel
theorem dX2_step_161 : decode cX2_step 161 = .ok (.iconst 1, 1) := by decide +kernel
theorem dX2_step_162 : decode cX2_step 162 = .ok (.iadd, 1) := by decide +kernel
theorem dX2_step_163 : decode cX2_step 163 = .ok (.putfield 25, 3) := by decide +kernel
theorem dX2_step_166 : decode cX2_step 166 = .ok (.return_, 1) := by decide +kernel
theorem dX2_stepOverWord_0 : decode cX2_stepOverWord 0 = .ok (.aload_n 0, 1) := by decide +kernel
theorem dX2_stepOverWord_1 : decode cX2_stepOverWord 1 = .ok (.getfield 25, 3) := by decide +kernel
theorem dX2_stepOverWord_4 : decode cX2_stepOverWord 4 = .ok (.aload_n 0, 1) := by decide +kernel
theorem dX2_stepOverWord_5 : decode cX2_stepOverWord 5 = .ok (.getfield 18, 3) := by decide +kernel
theorem dX2_stepOverWord_8 : decode cX2_stepOverWord 8 = .ok (.if_icmp .ge 31, 3) := by decide +kernel
theorem dX2_stepOverWord_11 : decode cX2_stepOverWord 11 = .ok (.aload_n 0, 1) := by decide +kernel
theorem dX2_stepOverWord_12 : decode cX2_stepOverWord 12 = .ok (.getfield 9, 3) := by decide +kernel
theorem dX2_stepOverWord_15 : decode cX2_stepOverWord 15 = .ok (.aload_n 0, 1) := by decide +kernel
theorem dX2_stepOverWord_16 : decode cX2_stepOverWord 16 = .ok (.getfield 25, 3) := by decide +kernel
theorem dX2_stepOverWord_19 : decode cX2_stepOverWord 19 = .ok (.iaload, 1) := by decide +kernel
theorem dX2_stepOverWord_20 : decode cX2_stepOverWord 20 = .ok (.invokestatic 65, 3) := by decide +kernel
theorem dX2_stepOverWord_23 : decode cX2_stepOverWord 23 = .ok (.ifCond .eq 16, 3) := by decide +kernel
theorem dX2_stepOverWord_26 : decode cX2_stepOverWord 26 = .ok (.aload_n 0, 1) := by decide +kernel
theorem dX2_stepOverWord_27 : decode cX2_stepOverWord 27 = .ok (.dup, 1) := by decide +kernel
theorem dX2_stepOverWord_28 : decode cX2_stepOverWord 28 = .ok (.getfield 25, 3) := by decide +kernel
theorem dX2_stepOverWord_31 : decode cX2_stepOverWord 31 = .ok (.iconst 1, 1) := by decide +kernel
theorem dX2_stepOverWord_32 : decode cX2_stepOverWord 32 = .ok (.iadd, 1) := by decide +kernel
theorem dX2_stepOverWord_33 : decode cX2_stepOverWord 33 = .ok (.putfield 25, 3) := by decide +kernel
theorem dX2_stepOverWord_36 : decode cX2_stepOverWord 36 = .ok (.goto (-36), 3) := by decide +kernel
theorem dX2_stepOverWord_39 : decode cX2_stepOverWord 39 = .ok (.iconst (-1), 1) := by decide +kernel
theorem dX2_stepOverWord_40 : decode cX2_stepOverWord 40 = .ok (.istore_n 1, 1) := by decide +kernel
theorem dX2_stepOverWord_41 : decode cX2_stepOverWord 41 = .ok (.iload_n 1, 1) := by decide +kernel
theorem dX2_stepOverWord_42 : decode cX2_stepOverWord 42 = .ok (.bipush (-24), 2) := by decide +kernel
theorem dX2_stepOverWord_44 : decode cX2_stepOverWord 44 = .ok (.if_icmp .lt 22, 3) := by decide +kernel
theorem dX2_stepOverWord_47 : decode cX2_stepOverWord 47 = .ok (.aload_n 0, 1) := by decide +kernel
theorem dX2_stepOverWord_48 : decode cX2_stepOverWord 48 = .ok (.iload_n 1, 1) := by decide +kernel
theorem dX2_stepOverWord_49 : decode cX2_stepOverWord 49 = .ok (.invokestatic 81, 3) := by decide +kernel
theorem dX2_stepOverWord_52 : decode cX2_stepOverWord 52 = .ok (.invokevirtual 85, 3) := by decide +kernel
theorem dX2_stepOverWord_55 : decode cX2_stepOverWord 55 = .ok (.ifCond .eq 5, 3) := by decide +kernel
theorem dX2_stepOverWord_58 : decode cX2_stepOverWord 58 = .ok (.iload_n 1, 1) := by decide +kernel
theorem dX2_stepOverWord_59 : decode cX2_stepOverWord 59 = .ok (.ireturn, 1) := by decide +kernel
theorem dX2_stepOverWord_60 : decode cX2_stepOverWord 60 = .ok (.iinc 1 (-1), 3) := by decide +kernel
theorem dX2_stepOverWord_63 : decode cX2_stepOverWord 63 = .ok (.goto (-22), 3) := by decide +kernel
theorem dX2_stepOverWord_66 : decode cX2_stepOverWord 66 = .ok (.bipush (-21), 2) := by decide +kernel
theorem dX2_stepOverWord_68 : decode cX2_stepOverWord 68 = .ok (.ireturn, 1) := by decide +kernel
theorem dX2_stands_0 : decode cX2_stands 0 = .ok (.aload_n 1, 1) := by decide +kernel
theorem dX2_stands_1 : decode cX2_stands 1 = .ok (.invokevirtual 89, 3) := by decide +kernel
theorem dX2_stands_4 : decode cX2_stands 4 = .ok (.aload_n 0, 1) := by decide +kernel
theorem dX2_stands_5 : decode cX2_stands 5 = .ok (.getfield 25, 3) := by decide +kernel
theorem dX2_stands_8 : decode cX2_stands 8 = .ok (.aload_n 0, 1) := by decide +kernel
theorem dX2_stands_9 : decode cX2_stands 9 = .ok (.getfield 48, 3) := by decide +kernel
theorem dX2_stands_12 : decode cX2_stands 12 = .ok (.isub, 1) := by decide +kernel
theorem dX2_stands_13 : decode cX2_stands 13 = .ok (.if_icmp .eq 5, 3) := by decide +kernel
theorem dX2_stands_16 : decode cX2_stands 16 = .ok (.iconst 0, 1) := by decide +kernel
theorem dX2_stands_17 : decode cX2_stands 17 = .ok (.ireturn, 1) := by decide +kernel
theorem dX2_stands_18 : decode cX2_stands 18 = .ok (.iconst 0, 1) := by decide +kernel
theorem dX2_stands_19 : decode cX2_stands 19 = .ok (.istore_n 2, 1) := by decide +kernel
theorem dX2_stands_20 : decode cX2_stands 20 = .ok (.iload_n 2, 1) := by decide +kernel
theorem dX2_stands_21 : decode cX2_stands 21 = .ok (.aload_n 1, 1) := by decide +kernel
theorem dX2_stands_22 : decode cX2_stands 22 = .ok (.invokevirtual 89, 3) := by decide +kernel
theorem dX2_stands_25 : decode cX2_stands 25 = .ok (.if_icmp .ge 30, 3) := by decide +kernel
theorem dX2_stands_28 : decode cX2_stands 28 = .ok (.aload_n 1, 1) := by decide +kernel
theorem dX2_stands_29 : decode cX2_stands 29 = .ok (.iload_n 2, 1) := by decide +kernel
theorem dX2_stands_30 : decode cX2_stands 30 = .ok (.invokevirtual 94, 3) := by decide +kernel
theorem dX2_stands_33 : decode cX2_stands 33 = .ok (.aload_n 0, 1) := by decide +kernel
theorem dX2_stands_34 : decode cX2_stands 34 = .ok (.getfield 9, 3) := by decide +kernel
theorem dX2_stands_37 : decode cX2_stands 37 = .ok (.aload_n 0, 1) := by decide +kernel
theorem dX2_stands_38 : decode cX2_stands 38 = .ok (.getfield 48, 3) := by decide +kernel
theorem dX2_stands_41 : decode cX2_stands 41 = .ok (.iload_n 2, 1) := by decide +kernel
theorem dX2_stands_42 : decode cX2_stands 42 = .ok (.iadd, 1) := by decide +kernel
theorem dX2_stands_43 : decode cX2_stands 43 = .ok (.iaload, 1) := by decide +kernel
theorem dX2_stands_44 : decode cX2_stands 44 = .ok (.if_icmp .eq 5, 3) := by decide +kernel
theorem dX2_stands_47 : decode cX2_stands 47 = .ok (.iconst 0, 1) := by decide +kernel
theorem dX2_stands_48 : decode cX2_stands 48 = .ok (.ireturn, 1) := by decide +kernel
theorem dX2_stands_49 : decode cX2_stands 49 = .ok (.iinc 2 1, 3) := by decide +kernel
theorem dX2_stands_52 : decode cX2_stands 52 = .ok (.goto (-32), 3) := by decide +kernel
theorem dX2_stands_55 : decode cX2_stands 55 = .ok (.iconst 1, 1) := by decide +kernel
theorem dX2_stands_56 : decode cX2_stands 56 = .ok (.ireturn, 1) := by decide +kernel
theorem dX2_wordOf_0 : decode cX2_wordOf 0 = .ok (.iload_n 0, 1) := by decide +kernel
theorem dX2_wordOf_1 : decode cX2_wordOf 1 = .ok (.tableswitch 147 (-24) (-1) #[144, 141, 138, 147, 147, 147, 147, 147, 147, 147, 147, 147, 147, 147, 147, 135, 132, 129, 126, 123, 120, 117, 114, 111], 111) := by decide +kernel
theorem dX2_wordOf_112 : decode cX2_wordOf 112 = .ok (.ldc 98, 2) := by decide +kernel
theorem dX2_wordOf_114 : decode cX2_wordOf 114 = .ok (.areturn, 1) := by decide +kernel
theorem dX2_wordOf_115 : decode cX2_wordOf 115 = .ok (.ldc 100, 2) := by decide +kernel
theorem dX2_wordOf_117 : decode cX2_wordOf 117 = .ok (.areturn, 1) := by decide +kernel
theorem dX2_wordOf_118 : decode cX2_wordOf 118 = .ok (.ldc 102, 2) := by decide +kernel
theorem dX2_wordOf_120 : decode cX2_wordOf 120 = .ok (.areturn, 1) := by decide +kernel
theorem dX2_wordOf_121 : decode cX2_wordOf 121 = .ok (.ldc 104, 2) := by decide +kernel
theorem dX2_wordOf_123 : decode cX2_wordOf 123 = .ok (.areturn, 1) := by decide +kernel
theorem dX2_wordOf_124 : decode cX2_wordOf 124 = .ok (.ldc 106, 2) := by decide +kernel
theorem dX2_wordOf_126 : decode cX2_wordOf 126 = .ok (.areturn, 1) := by decide +kernel
theorem dX2_wordOf_127 : decode cX2_wordOf 127 = .ok (.ldc 108, 2) := by decide +kernel
theorem dX2_wordOf_129 : decode cX2_wordOf 129 = .ok (.areturn, 1) := by decide +kernel
theorem dX2_wordOf_130 : decode cX2_wordOf 130 = .ok (.ldc 110, 2) := by decide +kernel
theorem dX2_wordOf_132 : decode cX2_wordOf 132 = .ok (.areturn, 1) := by decide +kernel
theorem dX2_wordOf_133 : decode cX2_wordOf 133 = .ok (.ldc 112, 2) := by decide +kernel
theorem dX2_wordOf_135 : decode cX2_wordOf 135 = .ok (.areturn, 1) := by decide +kernel
theorem dX2_wordOf_136 : decode cX2_wordOf 136 = .ok (.ldc 114, 2) := by decide +kernel
theorem dX2_wordOf_138 : decode cX2_wordOf 138 = .ok (.areturn, 1) := by decide +kernel
theorem dX2_wordOf_139 : decode cX2_wordOf 139 = .ok (.ldc 116, 2) := by decide +kernel
theorem dX2_wordOf_141 : decode cX2_wordOf 141 = .ok (.areturn, 1) := by decide +kernel
theorem dX2_wordOf_142 : decode cX2_wordOf 142 = .ok (.ldc 118, 2) := by decide +kernel
theorem dX2_wordOf_144 : decode cX2_wordOf 144 = .ok (.areturn, 1) := by decide +kernel
theorem dX2_wordOf_145 : decode cX2_wordOf 145 = .ok (.ldc 120, 2) := by decide +kernel
theorem dX2_wordOf_147 : decode cX2_wordOf 147 = .ok (.areturn, 1) := by decide +kernel
theorem dX2_wordOf_148 : decode cX2_wordOf 148 = .ok (.ldc 122, 2) := by decide +kernel
theorem dX2_wordOf_150 : decode cX2_wordOf 150 = .ok (.areturn, 1) := by decide +kernel
theorem dX2_stepOverNumber_0 : decode cX2_stepOverNumber 0 = .ok (.aload_n 0, 1) := by decide +kernel
theorem dX2_stepOverNumber_1 : decode cX2_stepOverNumber 1 = .ok (.iconst 0, 1) := by decide +kernel
theorem dX2_stepOverNumber_2 : decode cX2_stepOverNumber 2 = .ok (.putfield 62, 3) := by decide +kernel
theorem dX2_stepOverNumber_5 : decode cX2_stepOverNumber 5 = .ok (.aload_n 0, 1) := by decide +kernel
theorem dX2_stepOverNumber_6 : decode cX2_stepOverNumber 6 = .ok (.getfield 25, 3) := by decide +kernel
theorem dX2_stepOverNumber_9 : decode cX2_stepOverNumber 9 = .ok (.aload_n 0, 1) := by decide +kernel
theorem dX2_stepOverNumber_10 : decode cX2_stepOverNumber 10 = .ok (.getfield 18, 3) := by decide +kernel
theorem dX2_stepOverNumber_13 : decode cX2_stepOverNumber 13 = .ok (.if_icmp .ge 55, 3) := by decide +kernel
theorem dX2_stepOverNumber_16 : decode cX2_stepOverNumber 16 = .ok (.aload_n 0, 1) := by decide +kernel
theorem dX2_stepOverNumber_17 : decode cX2_stepOverNumber 17 = .ok (.getfield 9, 3) := by decide +kernel
theorem dX2_stepOverNumber_20 : decode cX2_stepOverNumber 20 = .ok (.aload_n 0, 1) := by decide +kernel
theorem dX2_stepOverNumber_21 : decode cX2_stepOverNumber 21 = .ok (.getfield 25, 3) := by decide +kernel
theorem dX2_stepOverNumber_24 : decode cX2_stepOverNumber 24 = .ok (.iaload, 1) := by decide +kernel
theorem dX2_stepOverNumber_25 : decode cX2_stepOverNumber 25 = .ok (.invokestatic 72, 3) := by decide +kernel
theorem dX2_stepOverNumber_28 : decode cX2_stepOverNumber 28 = .ok (.ifCond .eq 40, 3) := by decide +kernel
theorem dX2_stepOverNumber_31 : decode cX2_stepOverNumber 31 = .ok (.aload_n 0, 1) := by decide +kernel
theorem dX2_stepOverNumber_32 : decode cX2_stepOverNumber 32 = .ok (.aload_n 0, 1) := by decide +kernel
theorem dX2_stepOverNumber_33 : decode cX2_stepOverNumber 33 = .ok (.getfield 62, 3) := by decide +kernel
theorem dX2_stepOverNumber_36 : decode cX2_stepOverNumber 36 = .ok (.bipush 10, 2) := by decide +kernel
theorem dX2_stepOverNumber_38 : decode cX2_stepOverNumber 38 = .ok (.imul, 1) := by decide +kernel
theorem dX2_stepOverNumber_39 : decode cX2_stepOverNumber 39 = .ok (.aload_n 0, 1) := by decide +kernel
theorem dX2_stepOverNumber_40 : decode cX2_stepOverNumber 40 = .ok (.getfield 9, 3) := by decide +kernel
theorem dX2_stepOverNumber_43 : decode cX2_stepOverNumber 43 = .ok (.aload_n 0, 1) := by decide +kernel
theorem dX2_stepOverNumber_44 : decode cX2_stepOverNumber 44 = .ok (.getfield 25, 3) := by decide +kernel
theorem dX2_stepOverNumber_47 : decode cX2_stepOverNumber 47 = .ok (.iaload, 1) := by decide +kernel
theorem dX2_stepOverNumber_48 : decode cX2_stepOverNumber 48 = .ok (.iadd, 1) := by decide +kernel
theorem dX2_stepOverNumber_49 : decode cX2_stepOverNumber 49 = .ok (.bipush 48, 2) := by decide +kernel
theorem dX2_stepOverNumber_51 : decode cX2_stepOverNumber 51 = .ok (.isub, 1) := by decide +kernel
theorem dX2_stepOverNumber_52 : decode cX2_stepOverNumber 52 = .ok (.putfield 62, 3) := by decide +kernel
theorem dX2_stepOverNumber_55 : decode cX2_stepOverNumber 55 = .ok (.aload_n 0, 1) := by decide +kernel
theorem dX2_stepOverNumber_56 : decode cX2_stepOverNumber 56 = .ok (.dup, 1) := by decide +kernel
theorem dX2_stepOverNumber_57 : decode cX2_stepOverNumber 57 = .ok (.getfield 25, 3) := by decide +kernel
theorem dX2_stepOverNumber_60 : decode cX2_stepOverNumber 60 = .ok (.iconst 1, 1) := by decide +kernel
theorem dX2_stepOverNumber_61 : decode cX2_stepOverNumber 61 = .ok (.iadd, 1) := by decide +kernel
theorem dX2_stepOverNumber_62 : decode cX2_stepOverNumber 62 = .ok (.putfield 25, 3) := by decide +kernel
theorem dX2_stepOverNumber_65 : decode cX2_stepOverNumber 65 = .ok (.goto (-60), 3) := by decide +kernel
theorem dX2_stepOverNumber_68 : decode cX2_stepOverNumber 68 = .ok (.aload_n 0, 1) := by decide +kernel
theorem dX2_stepOverNumber_69 : decode cX2_stepOverNumber 69 = .ok (.getfield 25, 3) := by decide +kernel
theorem dX2_stepOverNumber_72 : decode cX2_stepOverNumber 72 = .ok (.aload_n 0, 1) := by decide +kernel
theorem dX2_stepOverNumber_73 : decode cX2_stepOverNumber 73 = .ok (.getfield 48, 3) := by decide +kernel
theorem dX2_stepOverNumber_76 : decode cX2_stepOverNumber 76 = .ok (.isub, 1) := by decide +kernel
theorem dX2_stepOverNumber_77 : decode cX2_stepOverNumber 77 = .ok (.iconst 4, 1) := by decide +kernel
theorem dX2_stepOverNumber_78 : decode cX2_stepOverNumber 78 = .ok (.if_icmp .le 8, 3) := by decide +kernel
theorem dX2_stepOverNumber_81 : decode cX2_stepOverNumber 81 = .ok (.bipush (-21), 2) := by decide +kernel
theorem dX2_stepOverNumber_83 : decode cX2_stepOverNumber 83 = .ok (.goto 5, 3) := by decide +kernel
theorem dX2_stepOverNumber_86 : decode cX2_stepOverNumber 86 = .ok (.bipush (-19), 2) := by decide +kernel
theorem dX2_stepOverNumber_88 : decode cX2_stepOverNumber 88 = .ok (.ireturn, 1) := by decide +kernel
theorem dX2_signOf_0 : decode cX2_signOf 0 = .ok (.iload_n 0, 1) := by decide +kernel
theorem dX2_signOf_1 : decode cX2_signOf 1 = .ok (.tableswitch 127 40 61 #[103, 106, 118, 112, 127, 115, 127, 127, 127, 127, 127, 127, 127, 127, 127, 127, 127, 127, 127, 109, 121, 124], 103) := by decide +kernel
theorem dX2_signOf_104 : decode cX2_signOf 104 = .ok (.bipush (-16), 2) := by decide +kernel
theorem dX2_signOf_106 : decode cX2_signOf 106 = .ok (.ireturn, 1) := by decide +kernel
theorem dX2_signOf_107 : decode cX2_signOf 107 = .ok (.bipush (-17), 2) := by decide +kernel
theorem dX2_signOf_109 : decode cX2_signOf 109 = .ok (.ireturn, 1) := by decide +kernel
theorem dX2_signOf_110 : decode cX2_signOf 110 = .ok (.bipush (-18), 2) := by decide +kernel
theorem dX2_signOf_112 : decode cX2_signOf 112 = .ok (.ireturn, 1) := by decide +kernel
theorem dX2_signOf_113 : decode cX2_signOf 113 = .ok (.bipush (-12), 2) := by decide +kernel
theorem dX2_signOf_115 : decode cX2_signOf 115 = .ok (.ireturn, 1) := by decide +kernel
theorem dX2_signOf_116 : decode cX2_signOf 116 = .ok (.bipush (-13), 2) := by decide +kernel
theorem dX2_signOf_118 : decode cX2_signOf 118 = .ok (.ireturn, 1) := by decide +kernel
theorem dX2_signOf_119 : decode cX2_signOf 119 = .ok (.bipush (-14), 2) := by decide +kernel
theorem dX2_signOf_121 : decode cX2_signOf 121 = .ok (.ireturn, 1) := by decide +kernel
theorem dX2_signOf_122 : decode cX2_signOf 122 = .ok (.bipush (-10), 2) := by decide +kernel
theorem dX2_signOf_124 : decode cX2_signOf 124 = .ok (.ireturn, 1) := by decide +kernel
theorem dX2_signOf_125 : decode cX2_signOf 125 = .ok (.bipush (-11), 2) := by decide +kernel
theorem dX2_signOf_127 : decode cX2_signOf 127 = .ok (.ireturn, 1) := by decide +kernel
theorem dX2_signOf_128 : decode cX2_signOf 128 = .ok (.bipush (-21), 2) := by decide +kernel
theorem dX2_signOf_130 : decode cX2_signOf 130 = .ok (.ireturn, 1) := by decide +kernel
theorem dX2_isLetter_0 : decode cX2_isLetter 0 = .ok (.iload_n 0, 1) := by decide +kernel
theorem dX2_isLetter_1 : decode cX2_isLetter 1 = .ok (.bipush 97, 2) := by decide +kernel
theorem dX2_isLetter_3 : decode cX2_isLetter 3 = .ok (.if_icmp .lt 13, 3) := by decide +kernel
theorem dX2_isLetter_6 : decode cX2_isLetter 6 = .ok (.iload_n 0, 1) := by decide +kernel
theorem dX2_isLetter_7 : decode cX2_isLetter 7 = .ok (.bipush 122, 2) := by decide +kernel
theorem dX2_isLetter_9 : decode cX2_isLetter 9 = .ok (.if_icmp .gt 7, 3) := by decide +kernel
theorem dX2_isLetter_12 : decode cX2_isLetter 12 = .ok (.iconst 1, 1) := by decide +kernel
theorem dX2_isLetter_13 : decode cX2_isLetter 13 = .ok (.goto 4, 3) := by decide +kernel
theorem dX2_isLetter_16 : decode cX2_isLetter 16 = .ok (.iconst 0, 1) := by decide +kernel
theorem dX2_isLetter_17 : decode cX2_isLetter 17 = .ok (.ireturn, 1) := by decide +kernel
theorem dX2_isDigit_0 : decode cX2_isDigit 0 = .ok (.iload_n 0, 1) := by decide +kernel
theorem dX2_isDigit_1 : decode cX2_isDigit 1 = .ok (.bipush 48, 2) := by decide +kernel
theorem dX2_isDigit_3 : decode cX2_isDigit 3 = .ok (.if_icmp .lt 13, 3) := by decide +kernel
theorem dX2_isDigit_6 : decode cX2_isDigit 6 = .ok (.iload_n 0, 1) := by decide +kernel
theorem dX2_isDigit_7 : decode cX2_isDigit 7 = .ok (.bipush 57, 2) := by decide +kernel
theorem dX2_isDigit_9 : decode cX2_isDigit 9 = .ok (.if_icmp .gt 7, 3) := by decide +kernel
theorem dX2_isDigit_12 : decode cX2_isDigit 12 = .ok (.iconst 1, 1) := by decide +kernel
theorem dX2_isDigit_13 : decode cX2_isDigit 13 = .ok (.goto 4, 3) := by decide +kernel
theorem dX2_isDigit_16 : decode cX2_isDigit 16 = .ok (.iconst 0, 1) := by decide +kernel
theorem dX2_isDigit_17 : decode cX2_isDigit 17 = .ok (.ireturn, 1) := by decide +kernel
theorem dX3_init_0 : decode cX3_init 0 = .ok (.aload_n 0, 1) := by decide +kernel
theorem dX3_init_1 : decode cX3_init 1 = .ok (.invokespecial 3, 3) := by decide +kernel
theorem dX3_init_4 : decode cX3_init 4 = .ok (.aload_n 0, 1) := by decide +kernel
theorem dX3_init_5 : decode cX3_init 5 = .ok (.bipush 6, 2) := by decide +kernel
theorem dX3_init_7 : decode cX3_init 7 = .ok (.sipush 160, 3) := by decide +kernel
theorem dX3_init_10 : decode cX3_init 10 = .ok (.multianewarray 9 2, 4) := by decide +kernel
theorem dX3_init_14 : decode cX3_init 14 = .ok (.putfield 11, 3) := by decide +kernel
theorem dX3_init_17 : decode cX3_init 17 = .ok (.aload_n 0, 1) := by decide +kernel
theorem dX3_init_18 : decode cX3_init 18 = .ok (.bipush 6, 2) := by decide +kernel
theorem dX3_init_20 : decode cX3_init 20 = .ok (.iconst 3, 1) := by decide +kernel
theorem dX3_init_21 : decode cX3_init 21 = .ok (.multianewarray 9 2, 4) := by decide +kernel
theorem dX3_init_25 : decode cX3_init 25 = .ok (.putfield 16, 3) := by decide +kernel
theorem dX3_init_28 : decode cX3_init 28 = .ok (.aload_n 0, 1) := by decide +kernel
theorem dX3_init_29 : decode cX3_init 29 = .ok (.bipush 40, 2) := by decide +kernel
theorem dX3_init_31 : decode cX3_init 31 = .ok (.newarray .int, 2) := by decide +kernel
theorem dX3_init_33 : decode cX3_init 33 = .ok (.putfield 19, 3) := by decide +kernel
theorem dX3_init_36 : decode cX3_init 36 = .ok (.aload_n 0, 1) := by decide +kernel
theorem dX3_init_37 : decode cX3_init 37 = .ok (.getfield 11, 3) := by decide +kernel
theorem dX3_init_40 : decode cX3_init 40 = .ok (.iconst 0, 1) := by decide +kernel
theorem dX3_init_41 : decode cX3_init 41 = .ok (.aaload, 1) := by decide +kernel
theorem dX3_init_42 : decode cX3_init 42 = .ok (.iconst 0, 1) := by decide +kernel
theorem dX3_init_43 : decode cX3_init 43 = .ok (.iconst (-1), 1) := by decide +kernel
theorem dX3_init_44 : decode cX3_init 44 = .ok (.iastore, 1) := by decide +kernel
theorem dX3_init_45 : decode cX3_init 45 = .ok (.aload_n 0, 1) := by decide +kernel
theorem dX3_init_46 : decode cX3_init 46 = .ok (.getfield 11, 3) := by decide +kernel
theorem dX3_init_49 : decode cX3_init 49 = .ok (.iconst 0, 1) := by decide +kernel
theorem dX3_init_50 : decode cX3_init 50 = .ok (.aaload, 1) := by decide +kernel
theorem dX3_init_51 : decode cX3_init 51 = .ok (.iconst 1, 1) := by decide +kernel
theorem dX3_init_52 : decode cX3_init 52 = .ok (.bipush (-2), 2) := by decide +kernel
theorem dX3_init_54 : decode cX3_init 54 = .ok (.iastore, 1) := by decide +kernel
theorem dX3_init_55 : decode cX3_init 55 = .ok (.aload_n 0, 1) := by decide +kernel
theorem dX3_init_56 : decode cX3_init 56 = .ok (.getfield 11, 3) := by decide +kernel
theorem dX3_init_59 : decode cX3_init 59 = .ok (.iconst 0, 1) := by decide +kernel
theorem dX3_init_60 : decode cX3_init 60 = .ok (.aaload, 1) := by decide +kernel
theorem dX3_init_61 : decode cX3_init 61 = .ok (.iconst 2, 1) := by decide +kernel
theorem dX3_init_62 : decode cX3_init 62 = .ok (.iconst 1, 1) := by decide +kernel
theorem dX3_init_63 : decode cX3_init 63 = .ok (.iastore, 1) := by decide +kernel
theorem dX3_init_64 : decode cX3_init 64 = .ok (.iconst 0, 1) := by decide +kernel
theorem dX3_init_65 : decode cX3_init 65 = .ok (.istore_n 1, 1) := by decide +kernel
theorem dX3_init_66 : decode cX3_init 66 = .ok (.iload_n 1, 1) := by decide +kernel
theorem dX3_init_67 : decode cX3_init 67 = .ok (.iconst 3, 1) := by decide +kernel
theorem dX3_init_68 : decode cX3_init 68 = .ok (.if_icmp .ge 20, 3) := by decide +kernel
theorem dX3_init_71 : decode cX3_init 71 = .ok (.aload_n 0, 1) := by decide +kernel
theorem dX3_init_72 : decode cX3_init 72 = .ok (.getfield 16, 3) := by decide +kernel
theorem dX3_init_75 : decode cX3_init 75 = .ok (.iconst 0, 1) := by decide +kernel
theorem dX3_init_76 : decode cX3_init 76 = .ok (.aaload, 1) := by decide +kernel
theorem dX3_init_77 : decode cX3_init 77 = .ok (.iload_n 1, 1) := by decide +kernel
theorem dX3_init_78 : decode cX3_init 78 = .ok (.iload_n 1, 1) := by decide +kernel
theorem dX3_init_79 : decode cX3_init 79 = .ok (.iconst 1, 1) := by decide +kernel
theorem dX3_init_80 : decode cX3_init 80 = .ok (.iadd, 1) := by decide +kernel
theorem dX3_init_81 : decode cX3_init 81 = .ok (.iastore, 1) := by decide +kernel
theorem dX3_init_82 : decode cX3_init 82 = .ok (.iinc 1 1, 3) := by decide +kernel
theorem dX3_init_85 : decode cX3_init 85 = .ok (.goto (-19), 3) := by decide +kernel
theorem dX3_init_88 : decode cX3_init 88 = .ok (.aload_n 0, 1) := by decide +kernel
theorem dX3_init_89 : decode cX3_init 89 = .ok (.iconst 1, 1) := by decide +kernel
theorem dX3_init_90 : decode cX3_init 90 = .ok (.putfield 23, 3) := by decide +kernel
theorem dX3_init_93 : decode cX3_init 93 = .ok (.return_, 1) := by decide +kernel
theorem dX3_value_0 : decode cX3_value 0 = .ok (.aload_n 0, 1) := by decide +kernel
theorem dX3_value_1 : decode cX3_value 1 = .ok (.getfield 11, 3) := by decide +kernel
theorem dX3_value_4 : decode cX3_value 4 = .ok (.iload_n 1, 1) := by decide +kernel
theorem dX3_value_5 : decode cX3_value 5 = .ok (.aaload, 1) := by decide +kernel
theorem dX3_value_6 : decode cX3_value 6 = .ok (.astore 4, 2) := by decide +kernel
theorem dX3_value_8 : decode cX3_value 8 = .ok (.aload_n 0, 1) := by decide +kernel
theorem dX3_value_9 : decode cX3_value 9 = .ok (.getfield 16, 3) := by decide +kernel
theorem dX3_value_12 : decode cX3_value 12 = .ok (.iload_n 1, 1) := by decide +kernel
theorem dX3_value_13 : decode cX3_value 13 = .ok (.aaload, 1) := by decide +kernel
theorem dX3_value_14 : decode cX3_value 14 = .ok (.iload_n 2, 1) := by decide +kernel
theorem dX3_value_15 : decode cX3_value 15 = .ok (.iaload, 1) := by decide +kernel
theorem dX3_value_16 : decode cX3_value 16 = .ok (.istore 5, 2) := by decide +kernel
theorem dX3_value_18 : decode cX3_value 18 = .ok (.iconst (-1), 1) := by decide +kernel
theorem dX3_value_19 : decode cX3_value 19 = .ok (.istore 6, 2) := by decide +kernel
theorem dX3_value_21 : decode cX3_value 21 = .ok (.iload_n 2, 1) := by decide +kernel
theorem dX3_value_22 : decode cX3_value 22 = .ok (.ifCond .ne 7, 3) := by decide +kernel
theorem dX3_value_25 : decode cX3_value 25 = .ok (.iconst 0, 1) := by decide +kernel
theorem dX3_value_26 : decode cX3_value 26 = .ok (.goto 13, 3) := by decide +kernel
theorem dX3_value_29 : decode cX3_value 29 = .ok (.aload_n 0, 1) := by decide +kernel
theorem dX3_value_30 : decode cX3_value 30 = .ok (.getfield 16, 3) := by decide +kernel
theorem dX3_value_33 : decode cX3_value 33 = .ok (.iload_n 1, 1) := by decide +kernel
theorem dX3_value_34 : decode cX3_value 34 = .ok (.aaload, 1) := by decide +kernel
theorem dX3_value_35 : decode cX3_value 35 = .ok (.iload_n 2, 1) := by decide +kernel
theorem dX3_value_36 : decode cX3_value 36 = .ok (.iconst 1, 1) := by decide +kernel
theorem dX3_value_37 : decode cX3_value 37 = .ok (.isub, 1) := by decide +kernel
theorem dX3_value_38 : decode cX3_value 38 = .ok (.iaload, 1) := by decide +kernel
theorem dX3_value_39 : decode cX3_value 39 = .ok (.istore 7, 2) := by decide +kernel
theorem dX3_value_41 : decode cX3_value 41 = .ok (.iload 7, 2) := by decide +kernel
theorem dX3_value_43 : decode cX3_value 43 = .ok (.iload 5, 2) := by decide +kernel
theorem dX3_value_45 : decode cX3_value 45 = .ok (.if_icmp .ge 160, 3) := by decide +kernel
theorem dX3_value_48 : decode cX3_value 48 = .ok (.aload 4, 2) := by decide +kernel
theorem dX3_value_50 : decode cX3_value 50 = .ok (.iload 7, 2) := by decide +kernel
theorem dX3_value_52 : decode cX3_value 52 = .ok (.iaload, 1) := by decide +kernel
theorem dX3_value_53 : decode cX3_value 53 = .ok (.istore 8, 2) := by decide +kernel
theorem dX3_value_55 : decode cX3_value 55 = .ok (.iload 8, 2) := by decide +kernel
theorem dX3_value_57 : decode cX3_value 57 = .ok (.bipush (-6), 2) := by decide +kernel
theorem dX3_value_59 : decode cX3_value 59 = .ok (.if_icmp .lt 41, 3) := by decide +kernel
theorem dX3_value_62 : decode cX3_value 62 = .ok (.iload 6, 2) := by decide +kernel
theorem dX3_value_64 : decode cX3_value 64 = .ok (.iconst 1, 1) := by decide +kernel
theorem dX3_value_65 : decode cX3_value 65 = .ok (.iadd, 1) := by decide +kernel
theorem dX3_value_66 : decode cX3_value 66 = .ok (.bipush 40, 2) := by decide +kernel
theorem dX3_value_68 : decode cX3_value 68 = .ok (.if_icmp .ge 131, 3) := by decide +kernel
theorem dX3_value_71 : decode cX3_value 71 = .ok (.iinc 6 1, 3) := by decide +kernel
theorem dX3_value_74 : decode cX3_value 74 = .ok (.aload_n 0, 1) := by decide +kernel
theorem dX3_value_75 : decode cX3_value 75 = .ok (.getfield 19, 3) := by decide +kernel
theorem dX3_value_78 : decode cX3_value 78 = .ok (.iload 6, 2) := by decide +kernel
theorem dX3_value_80 : decode cX3_value 80 = .ok (.iload 8, 2) := by decide +kernel
theorem dX3_value_82 : decode cX3_value 82 = .ok (.ifCond .lt 8, 3) := by decide +kernel
theorem dX3_value_85 : decode cX3_value 85 = .ok (.iload 8, 2) := by decide +kernel
theorem dX3_value_87 : decode cX3_value 87 = .ok (.goto 9, 3) := by decide +kernel
theorem dX3_value_90 : decode cX3_value 90 = .ok (.aload_n 3, 1) := by decide +kernel
theorem dX3_value_91 : decode cX3_value 91 = .ok (.iconst (-1), 1) := by decide +kernel
theorem dX3_value_92 : decode cX3_value 92 = .ok (.iload 8, 2) := by decide +kernel
theorem dX3_value_94 : decode cX3_value 94 = .ok (.isub, 1) := by decide +kernel
theorem dX3_value_95 : decode cX3_value 95 = .ok (.iaload, 1) := by decide +kernel
theorem dX3_value_96 : decode cX3_value 96 = .ok (.iastore, 1) := by decide +kernel
theorem dX3_value_97 : decode cX3_value 97 = .ok (.goto 102, 3) := by decide +kernel
theorem dX3_value_100 : decode cX3_value 100 = .ok (.iload 8, 2) := by decide +kernel
theorem dX3_value_102 : decode cX3_value 102 = .ok (.bipush (-15), 2) := by decide +kernel
theorem dX3_value_104 : decode cX3_value 104 = .ok (.if_icmp .eq 10, 3) := by decide +kernel
theorem dX3_value_107 : decode cX3_value 107 = .ok (.iload 8, 2) := by decide +kernel
theorem dX3_value_109 : decode cX3_value 109 = .ok (.bipush (-9), 2) := by decide +kernel
theorem dX3_value_111 : decode cX3_value 111 = .ok (.if_icmp .ne 51, 3) := by decide +kernel
theorem dX3_value_114 : decode cX3_value 114 = .ok (.iload 6, 2) := by decide +kernel
theorem dX3_value_116 : decode cX3_value 116 = .ok (.ifCond .lt 83, 3) := by decide +kernel
theorem dX3_value_119 : decode cX3_value 119 = .ok (.aload_n 0, 1) := by decide +kernel
theorem dX3_value_120 : decode cX3_value 120 = .ok (.getfield 19, 3) := by decide +kernel
theorem dX3_value_123 : decode cX3_value 123 = .ok (.iload 6, 2) := by decide +kernel
theorem dX3_value_125 : decode cX3_value 125 = .ok (.iload 8, 2) := by decide +kernel
theorem dX3_value_127 : decode cX3_value 127 = .ok (.bipush (-15), 2) := by decide +kernel
theorem dX3_value_129 : decode cX3_value 129 = .ok (.if_icmp .ne 14, 3) := by decide +kernel
theorem dX3_value_132 : decode cX3_value 132 = .ok (.aload_n 0, 1) := by decide +kernel
theorem dX3_value_133 : decode cX3_value 133 = .ok (.getfield 19, 3) := by decide +kernel
theorem dX3_value_136 : decode cX3_value 136 = .ok (.iload 6, 2) := by decide +kernel
theorem dX3_value_138 : decode cX3_value 138 = .ok (.iaload, 1) := by decide +kernel
theorem dX3_value_139 : decode cX3_value 139 = .ok (.ineg, 1) := by decide +kernel
theorem dX3_value_140 : decode cX3_value 140 = .ok (.goto 18, 3) := by decide +kernel
theorem dX3_value_143 : decode cX3_value 143 = .ok (.aload_n 0, 1) := by decide +kernel
theorem dX3_value_144 : decode cX3_value 144 = .ok (.getfield 19, 3) := by decide +kernel
theorem dX3_value_147 : decode cX3_value 147 = .ok (.iload 6, 2) := by decide +kernel
theorem dX3_value_149 : decode cX3_value 149 = .ok (.iaload, 1) := by decide +kernel
theorem dX3_value_150 : decode cX3_value 150 = .ok (.ifCond .ne 7, 3) := by decide +kernel
theorem dX3_value_153 : decode cX3_value 153 = .ok (.iconst 1, 1) := by decide +kernel
theorem dX3_value_154 : decode cX3_value 154 = .ok (.goto 4, 3) := by decide +kernel
theorem dX3_value_157 : decode cX3_value 157 = .ok (.iconst 0, 1) := by decide +kernel
theorem dX3_value_158 : decode cX3_value 158 = .ok (.iastore, 1) := by decide +kernel
theorem dX3_value_159 : decode cX3_value 159 = .ok (.goto 40, 3) := by decide +kernel
theorem dX3_value_162 : decode cX3_value 162 = .ok (.iload 6, 2) := by decide +kernel
theorem dX3_value_164 : decode cX3_value 164 = .ok (.iconst 1, 1) := by decide +kernel
theorem dX3_value_165 : decode cX3_value 165 = .ok (.if_icmp .lt 34, 3) := by decide +kernel
theorem dX3_value_168 : decode cX3_value 168 = .ok (.iinc 6 (-1), 3) := by decide +kernel
theorem dX3_value_171 : decode cX3_value 171 = .ok (.aload_n 0, 1) := by decide +kernel
theorem dX3_value_172 : decode cX3_value 172 = .ok (.getfield 19, 3) := by decide +kernel
theorem dX3_value_175 : decode cX3_value 175 = .ok (.iload 6, 2) := by decide +kernel
theorem dX3_value_177 : decode cX3_value 177 = .ok (.iload 8, 2) := by decide +kernel
theorem dX3_value_179 : decode cX3_value 179 = .ok (.aload_n 0, 1) := by decide +kernel
theorem dX3_value_180 : decode cX3_value 180 = .ok (.getfield 19, 3) := by decide +kernel
theorem dX3_value_183 : decode cX3_value 183 = .ok (.iload 6, 2) := by decide +kernel
theorem dX3_value_185 : decode cX3_value 185 = .ok (.iaload, 1) := by decide +kernel
theorem dX3_value_186 : decode cX3_value 186 = .ok (.aload_n 0, 1) := by decide +kernel
theorem dX3_value_187 : decode cX3_value 187 = .ok (.getfield 19, 3) := by decide +kernel
theorem dX3_value_190 : decode cX3_value 190 = .ok (.iload 6, 2) := by decide +kernel
theorem dX3_value_192 : decode cX3_value 192 = .ok (.iconst 1, 1) := by decide +kernel
theorem dX3_value_193 : decode cX3_value 193 = .ok (.iadd, 1) := by decide +kernel
theorem dX3_value_194 : decode cX3_value 194 = .ok (.iaload, 1) := by decide +kernel
theorem dX3_value_195 : decode cX3_value 195 = .ok (.invokestatic 27, 3) := by decide +kernel
theorem dX3_value_198 : decode cX3_value 198 = .ok (.iastore, 1) := by decide +kernel
theorem dX3_value_199 : decode cX3_value 199 = .ok (.iinc 7 1, 3) := by decide +kernel
theorem dX3_value_202 : decode cX3_value 202 = .ok (.goto (-161), 3) := by decide +kernel
theorem dX3_value_205 : decode cX3_value 205 = .ok (.iload 6, 2) := by decide +kernel
theorem dX3_value_207 : decode cX3_value 207 = .ok (.ifCond .lt 13, 3) := by decide +kernel
theorem dX3_value_210 : decode cX3_value 210 = .ok (.aload_n 0, 1) := by decide +kernel
theorem dX3_value_211 : decode cX3_value 211 = .ok (.getfield 19, 3) := by decide +kernel
theorem dX3_value_214 : decode cX3_value 214 = .ok (.iload 6, 2) := by decide +kernel
theorem dX3_value_216 : decode cX3_value 216 = .ok (.iaload, 1) := by decide +kernel
theorem dX3_value_217 : decode cX3_value 217 = .ok (.goto 4, 3) := by decide +kernel
theorem dX3_value_220 : decode cX3_value 220 = .ok (.iconst 0, 1) := by decide +kernel
theorem dX3_value_221 : decode cX3_value 221 = .ok (.ireturn, 1) := by decide +kernel
theorem dX3_joined_0 : decode cX3_joined 0 = .ok (.iload_n 0, 1) := by decide +kernel
theorem dX3_joined_1 : decode cX3_joined 1 = .ok (.tableswitch 101 (-13) (-7) #[97, 93, 82, 71, 101, 57, 43], 43) := by decide +kernel
theorem dX3_joined_44 : decode cX3_joined 44 = .ok (.iload_n 1, 1) := by decide +kernel
theorem dX3_joined_45 : decode cX3_joined 45 = .ok (.ifCond .ne 7, 3) := by decide +kernel
theorem dX3_joined_48 : decode cX3_joined 48 = .ok (.iload_n 2, 1) := by decide +kernel
theorem dX3_joined_49 : decode cX3_joined 49 = .ok (.ifCond .eq 7, 3) := by decide +kernel
theorem dX3_joined_52 : decode cX3_joined 52 = .ok (.iconst 1, 1) := by decide +kernel
theorem dX3_joined_53 : decode cX3_joined 53 = .ok (.goto 4, 3) := by decide +kernel
theorem dX3_joined_56 : decode cX3_joined 56 = .ok (.iconst 0, 1) := by decide +kernel
theorem dX3_joined_57 : decode cX3_joined 57 = .ok (.ireturn, 1) := by decide +kernel
theorem dX3_joined_58 : decode cX3_joined 58 = .ok (.iload_n 1, 1) := by decide +kernel
theorem dX3_joined_59 : decode cX3_joined 59 = .ok (.ifCond .eq 11, 3) := by decide +kernel
theorem dX3_joined_62 : decode cX3_joined 62 = .ok (.iload_n 2, 1) := by decide +kernel
theorem dX3_joined_63 : decode cX3_joined 63 = .ok (.ifCond .eq 7, 3) := by decide +kernel
theorem dX3_joined_66 : decode cX3_joined 66 = .ok (.iconst 1, 1) := by decide +kernel
theorem dX3_joined_67 : decode cX3_joined 67 = .ok (.goto 4, 3) := by decide +kernel
theorem dX3_joined_70 : decode cX3_joined 70 = .ok (.iconst 0, 1) := by decide +kernel
theorem dX3_joined_71 : decode cX3_joined 71 = .ok (.ireturn, 1) := by decide +kernel
theorem dX3_joined_72 : decode cX3_joined 72 = .ok (.iload_n 1, 1) := by decide +kernel
theorem dX3_joined_73 : decode cX3_joined 73 = .ok (.iload_n 2, 1) := by decide +kernel
theorem dX3_joined_74 : decode cX3_joined 74 = .ok (.if_icmp .ge 7, 3) := by decide +kernel
theorem dX3_joined_77 : decode cX3_joined 77 = .ok (.iconst 1, 1) := by decide +kernel
theorem dX3_joined_78 : decode cX3_joined 78 = .ok (.goto 4, 3) := by decide +kernel
theorem dX3_joined_81 : decode cX3_joined 81 = .ok (.iconst 0, 1) := by decide +kernel
theorem dX3_joined_82 : decode cX3_joined 82 = .ok (.ireturn, 1) := by decide +kernel
theorem dX3_joined_83 : decode cX3_joined 83 = .ok (.iload_n 1, 1) := by decide +kernel
theorem dX3_joined_84 : decode cX3_joined 84 = .ok (.iload_n 2, 1) := by decide +kernel
theorem dX3_joined_85 : decode cX3_joined 85 = .ok (.if_icmp .ne 7, 3) := by decide +kernel
theorem dX3_joined_88 : decode cX3_joined 88 = .ok (.iconst 1, 1) := by decide +kernel
theorem dX3_joined_89 : decode cX3_joined 89 = .ok (.goto 4, 3) := by decide +kernel
theorem dX3_joined_92 : decode cX3_joined 92 = .ok (.iconst 0, 1) := by decide +kernel
theorem dX3_joined_93 : decode cX3_joined 93 = .ok (.ireturn, 1) := by decide +kernel
theorem dX3_joined_94 : decode cX3_joined 94 = .ok (.iload_n 1, 1) := by decide +kernel
theorem dX3_joined_95 : decode cX3_joined 95 = .ok (.iload_n 2, 1) := by decide +kernel
theorem dX3_joined_96 : decode cX3_joined 96 = .ok (.iadd, 1) := by decide +kernel
theorem dX3_joined_97 : decode cX3_joined 97 = .ok (.ireturn, 1) := by decide +kernel
theorem dX3_joined_98 : decode cX3_joined 98 = .ok (.iload_n 1, 1) := by decide +kernel
theorem dX3_joined_99 : decode cX3_joined 99 = .ok (.iload_n 2, 1) := by decide +kernel
theorem dX3_joined_100 : decode cX3_joined 100 = .ok (.isub, 1) := by decide +kernel
theorem dX3_joined_101 : decode cX3_joined 101 = .ok (.ireturn, 1) := by decide +kernel
theorem dX3_joined_102 : decode cX3_joined 102 = .ok (.iload_n 1, 1) := by decide +kernel
theorem dX3_joined_103 : decode cX3_joined 103 = .ok (.iload_n 2, 1) := by decide +kernel
theorem dX3_joined_104 : decode cX3_joined 104 = .ok (.imul, 1) := by decide +kernel
theorem dX3_joined_105 : decode cX3_joined 105 = .ok (.ireturn, 1) := by decide +kernel
theorem dX4_init_0 : decode cX4_init 0 = .ok (.aload_n 0, 1) := by decide +kernel
theorem dX4_init_1 : decode cX4_init 1 = .ok (.invokespecial 1, 3) := by decide +kernel
theorem dX4_init_4 : decode cX4_init 4 = .ok (.aload_n 0, 1) := by decide +kernel
theorem dX4_init_5 : decode cX4_init 5 = .ok (.new 7, 3) := by decide +kernel
theorem dX4_init_8 : decode cX4_init 8 = .ok (.dup, 1) := by decide +kernel
theorem dX4_init_9 : decode cX4_init 9 = .ok (.invokespecial 9, 3) := by decide +kernel
theorem dX4_init_12 : decode cX4_init 12 = .ok (.putfield 10, 3) := by decide +kernel
theorem dX4_init_15 : decode cX4_init 15 = .ok (.aload_n 0, 1) := by decide +kernel
theorem dX4_init_16 : decode cX4_init 16 = .ok (.new 16, 3) := by decide +kernel
theorem dX4_init_19 : decode cX4_init 19 = .ok (.dup, 1) := by decide +kernel
theorem dX4_init_20 : decode cX4_init 20 = .ok (.invokespecial 18, 3) := by decide +kernel
theorem dX4_init_23 : decode cX4_init 23 = .ok (.putfield 19, 3) := by decide +kernel
theorem dX4_init_26 : decode cX4_init 26 = .ok (.aload_n 0, 1) := by decide +kernel
theorem dX4_init_27 : decode cX4_init 27 = .ok (.new 23, 3) := by decide +kernel
theorem dX4_init_30 : decode cX4_init 30 = .ok (.dup, 1) := by decide +kernel
theorem dX4_init_31 : decode cX4_init 31 = .ok (.aload_n 0, 1) := by decide +kernel
theorem dX4_init_32 : decode cX4_init 32 = .ok (.getfield 10, 3) := by decide +kernel
theorem dX4_init_35 : decode cX4_init 35 = .ok (.invokespecial 25, 3) := by decide +kernel
theorem dX4_init_38 : decode cX4_init 38 = .ok (.putfield 28, 3) := by decide +kernel
theorem dX4_init_41 : decode cX4_init 41 = .ok (.aload_n 0, 1) := by decide +kernel
theorem dX4_init_42 : decode cX4_init 42 = .ok (.new 23, 3) := by decide +kernel
theorem dX4_init_45 : decode cX4_init 45 = .ok (.dup, 1) := by decide +kernel
theorem dX4_init_46 : decode cX4_init 46 = .ok (.aload_n 0, 1) := by decide +kernel
theorem dX4_init_47 : decode cX4_init 47 = .ok (.getfield 10, 3) := by decide +kernel
theorem dX4_init_50 : decode cX4_init 50 = .ok (.invokespecial 25, 3) := by decide +kernel
theorem dX4_init_53 : decode cX4_init 53 = .ok (.putfield 32, 3) := by decide +kernel
theorem dX4_init_56 : decode cX4_init 56 = .ok (.aload_n 0, 1) := by decide +kernel
theorem dX4_init_57 : decode cX4_init 57 = .ok (.new 23, 3) := by decide +kernel
theorem dX4_init_60 : decode cX4_init 60 = .ok (.dup, 1) := by decide +kernel
theorem dX4_init_61 : decode cX4_init 61 = .ok (.aload_n 0, 1) := by decide +kernel
theorem dX4_init_62 : decode cX4_init 62 = .ok (.getfield 10, 3) := by decide +kernel
theorem dX4_init_65 : decode cX4_init 65 = .ok (.invokespecial 25, 3) := by decide +kernel
theorem dX4_init_68 : decode cX4_init 68 = .ok (.putfield 35, 3) := by decide +kernel
theorem dX4_init_71 : decode cX4_init 71 = .ok (.aload_n 0, 1) := by decide +kernel
theorem dX4_init_72 : decode cX4_init 72 = .ok (.iconst 0, 1) := by decide +kernel
theorem dX4_init_73 : decode cX4_init 73 = .ok (.putfield 38, 3) := by decide +kernel
theorem dX4_init_76 : decode cX4_init 76 = .ok (.aload_n 0, 1) := by decide +kernel
theorem dX4_init_77 : decode cX4_init 77 = .ok (.new 42, 3) := by decide +kernel
theorem dX4_init_80 : decode cX4_init 80 = .ok (.dup, 1) := by decide +kernel
theorem dX4_init_81 : decode cX4_init 81 = .ok (.invokespecial 44, 3) := by decide +kernel
theorem dX4_init_84 : decode cX4_init 84 = .ok (.putfield 45, 3) := by decide +kernel
theorem dX4_init_87 : decode cX4_init 87 = .ok (.aload_n 0, 1) := by decide +kernel
theorem dX4_init_88 : decode cX4_init 88 = .ok (.sipush 1000, 3) := by decide +kernel
theorem dX4_init_91 : decode cX4_init 91 = .ok (.newarray .int, 2) := by decide +kernel
theorem dX4_init_93 : decode cX4_init 93 = .ok (.putfield 49, 3) := by decide +kernel
theorem dX4_init_96 : decode cX4_init 96 = .ok (.aload_n 0, 1) := by decide +kernel
theorem dX4_init_97 : decode cX4_init 97 = .ok (.bipush 6, 2) := by decide +kernel
theorem dX4_init_99 : decode cX4_init 99 = .ok (.newarray .int, 2) := by decide +kernel
theorem dX4_init_101 : decode cX4_init 101 = .ok (.putfield 53, 3) := by decide +kernel
theorem dX4_init_104 : decode cX4_init 104 = .ok (.return_, 1) := by decide +kernel
theorem dX4_count_0 : decode cX4_count 0 = .ok (.iload_n 1, 1) := by decide +kernel
theorem dX4_count_1 : decode cX4_count 1 = .ok (.tableswitch 99 0 6 #[43, 51, 59, 67, 75, 83, 91], 43) := by decide +kernel
theorem dX4_count_44 : decode cX4_count 44 = .ok (.aload_n 0, 1) := by decide +kernel
theorem dX4_count_45 : decode cX4_count 45 = .ok (.getfield 28, 3) := by decide +kernel
theorem dX4_count_48 : decode cX4_count 48 = .ok (.getfield 56, 3) := by decide +kernel
theorem dX4_count_51 : decode cX4_count 51 = .ok (.ireturn, 1) := by decide +kernel
theorem dX4_count_52 : decode cX4_count 52 = .ok (.aload_n 0, 1) := by decide +kernel
theorem dX4_count_53 : decode cX4_count 53 = .ok (.getfield 28, 3) := by decide +kernel
theorem dX4_count_56 : decode cX4_count 56 = .ok (.getfield 60, 3) := by decide +kernel
theorem dX4_count_59 : decode cX4_count 59 = .ok (.ireturn, 1) := by decide +kernel
theorem dX4_count_60 : decode cX4_count 60 = .ok (.aload_n 0, 1) := by decide +kernel
theorem dX4_count_61 : decode cX4_count 61 = .ok (.getfield 28, 3) := by decide +kernel
theorem dX4_count_64 : decode cX4_count 64 = .ok (.getfield 63, 3) := by decide +kernel
theorem dX4_count_67 : decode cX4_count 67 = .ok (.ireturn, 1) := by decide +kernel
theorem dX4_count_68 : decode cX4_count 68 = .ok (.aload_n 0, 1) := by decide +kernel
theorem dX4_count_69 : decode cX4_count 69 = .ok (.getfield 10, 3) := by decide +kernel
theorem dX4_count_72 : decode cX4_count 72 = .ok (.getfield 66, 3) := by decide +kernel
theorem dX4_count_75 : decode cX4_count 75 = .ok (.ireturn, 1) := by decide +kernel
theorem dX4_count_76 : decode cX4_count 76 = .ok (.aload_n 0, 1) := by decide +kernel
theorem dX4_count_77 : decode cX4_count 77 = .ok (.getfield 28, 3) := by decide +kernel
theorem dX4_count_80 : decode cX4_count 80 = .ok (.getfield 69, 3) := by decide +kernel
theorem dX4_count_83 : decode cX4_count 83 = .ok (.ireturn, 1) := by decide +kernel
theorem dX4_count_84 : decode cX4_count 84 = .ok (.aload_n 0, 1) := by decide +kernel
theorem dX4_count_85 : decode cX4_count 85 = .ok (.getfield 19, 3) := by decide +kernel
theorem dX4_count_88 : decode cX4_count 88 = .ok (.getfield 72, 3) := by decide +kernel
theorem dX4_count_91 : decode cX4_count 91 = .ok (.ireturn, 1) := by decide +kernel
theorem dX4_count_92 : decode cX4_count 92 = .ok (.aload_n 0, 1) := by decide +kernel
theorem dX4_count_93 : decode cX4_count 93 = .ok (.getfield 28, 3) := by decide +kernel
theorem dX4_count_96 : decode cX4_count 96 = .ok (.getfield 73, 3) := by decide +kernel
theorem dX4_count_99 : decode cX4_count 99 = .ok (.ireturn, 1) := by decide +kernel
theorem dX4_count_100 : decode cX4_count 100 = .ok (.bipush (-2), 2) := by decide +kernel
theorem dX4_count_102 : decode cX4_count 102 = .ok (.ireturn, 1) := by decide +kernel
theorem dX4_fill_0 : decode cX4_fill 0 = .ok (.iload_n 1, 1) := by decide +kernel
theorem dX4_fill_1 : decode cX4_fill 1 = .ok (.invokestatic 76, 3) := by decide +kernel
theorem dX4_fill_4 : decode cX4_fill 4 = .ok (.ifCond .ne 6, 3) := by decide +kernel
theorem dX4_fill_7 : decode cX4_fill 7 = .ok (.bipush (-5), 2) := by decide +kernel
theorem dX4_fill_9 : decode cX4_fill 9 = .ok (.ireturn, 1) := by decide +kernel
theorem dX4_fill_10 : decode cX4_fill 10 = .ok (.iload_n 2, 1) := by decide +kernel
theorem dX4_fill_11 : decode cX4_fill 11 = .ok (.ifCond .lt 27, 3) := by decide +kernel
theorem dX4_fill_14 : decode cX4_fill 14 = .ok (.iload_n 2, 1) := by decide +kernel
theorem dX4_fill_15 : decode cX4_fill 15 = .ok (.iconst 1, 1) := by decide +kernel
theorem dX4_fill_16 : decode cX4_fill 16 = .ok (.if_icmp .gt 22, 3) := by decide +kernel
theorem dX4_fill_19 : decode cX4_fill 19 = .ok (.iload_n 3, 1) := by decide +kernel
theorem dX4_fill_20 : decode cX4_fill 20 = .ok (.ifCond .lt 18, 3) := by decide +kernel
theorem dX4_fill_23 : decode cX4_fill 23 = .ok (.iload_n 3, 1) := by decide +kernel
theorem dX4_fill_24 : decode cX4_fill 24 = .ok (.iload_n 2, 1) := by decide +kernel
theorem dX4_fill_25 : decode cX4_fill 25 = .ok (.ifCond .ne 8, 3) := by decide +kernel
theorem dX4_fill_28 : decode cX4_fill 28 = .ok (.bipush 99, 2) := by decide +kernel
theorem dX4_fill_30 : decode cX4_fill 30 = .ok (.goto 5, 3) := by decide +kernel
theorem dX4_fill_33 : decode cX4_fill 33 = .ok (.bipush 20, 2) := by decide +kernel
theorem dX4_fill_35 : decode cX4_fill 35 = .ok (.if_icmp .le 6, 3) := by decide +kernel
theorem dX4_fill_38 : decode cX4_fill 38 = .ok (.bipush (-7), 2) := by decide +kernel
theorem dX4_fill_40 : decode cX4_fill 40 = .ok (.ireturn, 1) := by decide +kernel
theorem dX4_fill_41 : decode cX4_fill 41 = .ok (.iload_n 2, 1) := by decide +kernel
theorem dX4_fill_42 : decode cX4_fill 42 = .ok (.ifCond .ne 15, 3) := by decide +kernel
theorem dX4_fill_45 : decode cX4_fill 45 = .ok (.aload_n 0, 1) := by decide +kernel
theorem dX4_fill_46 : decode cX4_fill 46 = .ok (.getfield 28, 3) := by decide +kernel
theorem dX4_fill_49 : decode cX4_fill 49 = .ok (.getfield 80, 3) := by decide +kernel
theorem dX4_fill_52 : decode cX4_fill 52 = .ok (.iload_n 1, 1) := by decide +kernel
theorem dX4_fill_53 : decode cX4_fill 53 = .ok (.iaload, 1) := by decide +kernel
theorem dX4_fill_54 : decode cX4_fill 54 = .ok (.goto 12, 3) := by decide +kernel
theorem dX4_fill_57 : decode cX4_fill 57 = .ok (.aload_n 0, 1) := by decide +kernel
theorem dX4_fill_58 : decode cX4_fill 58 = .ok (.getfield 28, 3) := by decide +kernel
theorem dX4_fill_61 : decode cX4_fill 61 = .ok (.getfield 83, 3) := by decide +kernel
theorem dX4_fill_64 : decode cX4_fill 64 = .ok (.iload_n 1, 1) := by decide +kernel
theorem dX4_fill_65 : decode cX4_fill 65 = .ok (.iaload, 1) := by decide +kernel
theorem dX4_fill_66 : decode cX4_fill 66 = .ok (.istore 4, 2) := by decide +kernel
theorem dX4_fill_68 : decode cX4_fill 68 = .ok (.iload_n 2, 1) := by decide +kernel
theorem dX4_fill_69 : decode cX4_fill 69 = .ok (.ifCond .ne 16, 3) := by decide +kernel
theorem dX4_fill_72 : decode cX4_fill 72 = .ok (.aload_n 0, 1) := by decide +kernel
theorem dX4_fill_73 : decode cX4_fill 73 = .ok (.getfield 28, 3) := by decide +kernel
theorem dX4_fill_76 : decode cX4_fill 76 = .ok (.getfield 80, 3) := by decide +kernel
theorem dX4_fill_79 : decode cX4_fill 79 = .ok (.iload_n 1, 1) := by decide +kernel
theorem dX4_fill_80 : decode cX4_fill 80 = .ok (.iload_n 3, 1) := by decide +kernel
theorem dX4_fill_81 : decode cX4_fill 81 = .ok (.iastore, 1) := by decide +kernel
theorem dX4_fill_82 : decode cX4_fill 82 = .ok (.goto 12, 3) := by decide +kernel
theorem dX4_fill_85 : decode cX4_fill 85 = .ok (.aload_n 0, 1) := by decide +kernel
theorem dX4_fill_86 : decode cX4_fill 86 = .ok (.getfield 28, 3) := by decide +kernel
theorem dX4_fill_89 : decode cX4_fill 89 = .ok (.iload_n 1, 1) := by decide +kernel
theorem dX4_fill_90 : decode cX4_fill 90 = .ok (.iload_n 3, 1) := by decide +kernel
theorem dX4_fill_91 : decode cX4_fill 91 = .ok (.invokevirtual 86, 3) := by decide +kernel
theorem dX4_fill_94 : decode cX4_fill 94 = .ok (.iload 4, 2) := by decide +kernel
theorem dX4_fill_96 : decode cX4_fill 96 = .ok (.ireturn, 1) := by decide +kernel
theorem dX4_hat_0 : decode cX4_hat 0 = .ok (.iload_n 2, 1) := by decide +kernel
theorem dX4_hat_1 : decode cX4_hat 1 = .ok (.iconst 2, 1) := by decide +kernel
theorem dX4_hat_2 : decode cX4_hat 2 = .ok (.if_icmp .ne 11, 3) := by decide +kernel
theorem dX4_hat_5 : decode cX4_hat 5 = .ok (.aload_n 0, 1) := by decide +kernel
theorem dX4_hat_6 : decode cX4_hat 6 = .ok (.getfield 28, 3) := by decide +kernel
theorem dX4_hat_9 : decode cX4_hat 9 = .ok (.invokevirtual 90, 3) := by decide +kernel
theorem dX4_hat_12 : decode cX4_hat 12 = .ok (.ireturn, 1) := by decide +kernel
theorem dX4_hat_13 : decode cX4_hat 13 = .ok (.iload_n 1, 1) := by decide +kernel
theorem dX4_hat_14 : decode cX4_hat 14 = .ok (.invokestatic 76, 3) := by decide +kernel
theorem dX4_hat_17 : decode cX4_hat 17 = .ok (.ifCond .ne 6, 3) := by decide +kernel
theorem dX4_hat_20 : decode cX4_hat 20 = .ok (.bipush (-5), 2) := by decide +kernel
theorem dX4_hat_22 : decode cX4_hat 22 = .ok (.ireturn, 1) := by decide +kernel
theorem dX4_hat_23 : decode cX4_hat 23 = .ok (.iload_n 2, 1) := by decide +kernel
theorem dX4_hat_24 : decode cX4_hat 24 = .ok (.ifCond .lt 8, 3) := by decide +kernel
theorem dX4_hat_27 : decode cX4_hat 27 = .ok (.iload_n 2, 1) := by decide +kernel
theorem dX4_hat_28 : decode cX4_hat 28 = .ok (.iconst 1, 1) := by decide +kernel
theorem dX4_hat_29 : decode cX4_hat 29 = .ok (.if_icmp .le 6, 3) := by decide +kernel
theorem dX4_hat_32 : decode cX4_hat 32 = .ok (.bipush (-7), 2) := by decide +kernel
theorem dX4_hat_34 : decode cX4_hat 34 = .ok (.ireturn, 1) := by decide +kernel
theorem dX4_hat_35 : decode cX4_hat 35 = .ok (.iload_n 2, 1) := by decide +kernel
theorem dX4_hat_36 : decode cX4_hat 36 = .ok (.ifCond .ne 15, 3) := by decide +kernel
theorem dX4_hat_39 : decode cX4_hat 39 = .ok (.aload_n 0, 1) := by decide +kernel
theorem dX4_hat_40 : decode cX4_hat 40 = .ok (.getfield 28, 3) := by decide +kernel
theorem dX4_hat_43 : decode cX4_hat 43 = .ok (.getfield 80, 3) := by decide +kernel
theorem dX4_hat_46 : decode cX4_hat 46 = .ok (.iload_n 1, 1) := by decide +kernel
theorem dX4_hat_47 : decode cX4_hat 47 = .ok (.iaload, 1) := by decide +kernel
theorem dX4_hat_48 : decode cX4_hat 48 = .ok (.goto 12, 3) := by decide +kernel
theorem dX4_hat_51 : decode cX4_hat 51 = .ok (.aload_n 0, 1) := by decide +kernel
theorem dX4_hat_52 : decode cX4_hat 52 = .ok (.getfield 28, 3) := by decide +kernel
theorem dX4_hat_55 : decode cX4_hat 55 = .ok (.getfield 83, 3) := by decide +kernel
theorem dX4_hat_58 : decode cX4_hat 58 = .ok (.iload_n 1, 1) := by decide +kernel
theorem dX4_hat_59 : decode cX4_hat 59 = .ok (.iaload, 1) := by decide +kernel
theorem dX4_hat_60 : decode cX4_hat 60 = .ok (.ireturn, 1) := by decide +kernel
theorem dX4_feed_0 : decode cX4_feed 0 = .ok (.iload_n 1, 1) := by decide +kernel
theorem dX4_feed_1 : decode cX4_feed 1 = .ok (.iconst 1, 1) := by decide +kernel
theorem dX4_feed_2 : decode cX4_feed 2 = .ok (.if_icmp .lt 46, 3) := by decide +kernel
theorem dX4_feed_5 : decode cX4_feed 5 = .ok (.iload_n 1, 1) := by decide +kernel
theorem dX4_feed_6 : decode cX4_feed 6 = .ok (.iconst 5, 1) := by decide +kernel
theorem dX4_feed_7 : decode cX4_feed 7 = .ok (.if_icmp .gt 41, 3) := by decide +kernel
theorem dX4_feed_10 : decode cX4_feed 10 = .ok (.iload_n 2, 1) := by decide +kernel
theorem dX4_feed_11 : decode cX4_feed 11 = .ok (.invokestatic 94, 3) := by decide +kernel
theorem dX4_feed_14 : decode cX4_feed 14 = .ok (.ifCond .eq 34, 3) := by decide +kernel
theorem dX4_feed_17 : decode cX4_feed 17 = .ok (.iload_n 3, 1) := by decide +kernel
theorem dX4_feed_18 : decode cX4_feed 18 = .ok (.invokestatic 94, 3) := by decide +kernel
theorem dX4_feed_21 : decode cX4_feed 21 = .ok (.ifCond .eq 27, 3) := by decide +kernel
theorem dX4_feed_24 : decode cX4_feed 24 = .ok (.iload 4, 2) := by decide +kernel
theorem dX4_feed_26 : decode cX4_feed 26 = .ok (.invokestatic 94, 3) := by decide +kernel
theorem dX4_feed_29 : decode cX4_feed 29 = .ok (.ifCond .eq 19, 3) := by decide +kernel
theorem dX4_feed_32 : decode cX4_feed 32 = .ok (.iload 5, 2) := by decide +kernel
theorem dX4_feed_34 : decode cX4_feed 34 = .ok (.invokestatic 94, 3) := by decide +kernel
theorem dX4_feed_37 : decode cX4_feed 37 = .ok (.ifCond .eq 11, 3) := by decide +kernel
theorem dX4_feed_40 : decode cX4_feed 40 = .ok (.iload 6, 2) := by decide +kernel
theorem dX4_feed_42 : decode cX4_feed 42 = .ok (.invokestatic 94, 3) := by decide +kernel
theorem dX4_feed_45 : decode cX4_feed 45 = .ok (.ifCond .ne 6, 3) := by decide +kernel
theorem dX4_feed_48 : decode cX4_feed 48 = .ok (.bipush (-2), 2) := by decide +kernel
theorem dX4_feed_50 : decode cX4_feed 50 = .ok (.ireturn, 1) := by decide +kernel
theorem dX4_feed_51 : decode cX4_feed 51 = .ok (.aload_n 0, 1) := by decide +kernel
theorem dX4_feed_52 : decode cX4_feed 52 = .ok (.getfield 19, 3) := by decide +kernel
theorem dX4_feed_55 : decode cX4_feed 55 = .ok (.getfield 72, 3) := by decide +kernel
theorem dX4_feed_58 : decode cX4_feed 58 = .ok (.iload_n 1, 1) := by decide +kernel
theorem dX4_feed_59 : decode cX4_feed 59 = .ok (.iadd, 1) := by decide +kernel
theorem dX4_feed_60 : decode cX4_feed 60 = .ok (.sipush 160, 3) := by decide +kernel
theorem dX4_feed_63 : decode cX4_feed 63 = .ok (.if_icmp .le 6, 3) := by decide +kernel
theorem dX4_feed_66 : decode cX4_feed 66 = .ok (.bipush (-4), 2) := by decide +kernel
theorem dX4_feed_68 : decode cX4_feed 68 = .ok (.ireturn, 1) := by decide +kernel
theorem dX4_feed_69 : decode cX4_feed 69 = .ok (.aload_n 0, 1) := by decide +kernel
theorem dX4_feed_70 : decode cX4_feed 70 = .ok (.getfield 19, 3) := by decide +kernel
theorem dX4_feed_73 : decode cX4_feed 73 = .ok (.iload_n 2, 1) := by decide +kernel
theorem dX4_feed_74 : decode cX4_feed 74 = .ok (.invokevirtual 97, 3) := by decide +kernel
theorem dX4_feed_77 : decode cX4_feed 77 = .ok (.iload_n 1, 1) := by decide +kernel
theorem dX4_feed_78 : decode cX4_feed 78 = .ok (.iconst 1, 1) := by decide +kernel
theorem dX4_feed_79 : decode cX4_feed 79 = .ok (.if_icmp .le 11, 3) := by decide +kernel
theorem dX4_feed_82 : decode cX4_feed 82 = .ok (.aload_n 0, 1) := by decide +kernel
theorem dX4_feed_83 : decode cX4_feed 83 = .ok (.getfield 19, 3) := by decide +kernel
theorem dX4_feed_86 : decode cX4_feed 86 = .ok (.iload_n 3, 1) := by decide +kernel
theorem dX4_feed_87 : decode cX4_feed 87 = .ok (.invokevirtual 97, 3) := by decide +kernel
theorem dX4_feed_90 : decode cX4_feed 90 = .ok (.iload_n 1, 1) := by decide +kernel
theorem dX4_feed_91 : decode cX4_feed 91 = .ok (.iconst 2, 1) := by decide +kernel
theorem dX4_feed_92 : decode cX4_feed 92 = .ok (.if_icmp .le 12, 3) := by decide +kernel
theorem dX4_feed_95 : decode cX4_feed 95 = .ok (.aload_n 0, 1) := by decide +kernel
theorem dX4_feed_96 : decode cX4_feed 96 = .ok (.getfield 19, 3) := by decide +kernel
theorem dX4_feed_99 : decode cX4_feed 99 = .ok (.iload 4, 2) := by decide +kernel
theorem dX4_feed_101 : decode cX4_feed 101 = .ok (.invokevirtual 97, 3) := by decide +kernel
theorem dX4_feed_104 : decode cX4_feed 104 = .ok (.iload_n 1, 1) := by decide +kernel
theorem dX4_feed_105 : decode cX4_feed 105 = .ok (.iconst 3, 1) := by decide +kernel
theorem dX4_feed_106 : decode cX4_feed 106 = .ok (.if_icmp .le 12, 3) := by decide +kernel
theorem dX4_feed_109 : decode cX4_feed 109 = .ok (.aload_n 0, 1) := by decide +kernel
theorem dX4_feed_110 : decode cX4_feed 110 = .ok (.getfield 19, 3) := by decide +kernel
theorem dX4_feed_113 : decode cX4_feed 113 = .ok (.iload 5, 2) := by decide +kernel
theorem dX4_feed_115 : decode cX4_feed 115 = .ok (.invokevirtual 97, 3) := by decide +kernel
theorem dX4_feed_118 : decode cX4_feed 118 = .ok (.iload_n 1, 1) := by decide +kernel
theorem dX4_feed_119 : decode cX4_feed 119 = .ok (.iconst 4, 1) := by decide +kernel
theorem dX4_feed_120 : decode cX4_feed 120 = .ok (.if_icmp .le 12, 3) := by decide +kernel
theorem dX4_feed_123 : decode cX4_feed 123 = .ok (.aload_n 0, 1) := by decide +kernel
theorem dX4_feed_124 : decode cX4_feed 124 = .ok (.getfield 19, 3) := by decide +kernel
theorem dX4_feed_127 : decode cX4_feed 127 = .ok (.iload 6, 2) := by decide +kernel
theorem dX4_feed_129 : decode cX4_feed 129 = .ok (.invokevirtual 97, 3) := by decide +kernel
theorem dX4_feed_132 : decode cX4_feed 132 = .ok (.aload_n 0, 1) := by decide +kernel
theorem dX4_feed_133 : decode cX4_feed 133 = .ok (.getfield 19, 3) := by decide +kernel
theorem dX4_feed_136 : decode cX4_feed 136 = .ok (.getfield 72, 3) := by decide +kernel
theorem dX4_feed_139 : decode cX4_feed 139 = .ok (.ireturn, 1) := by decide +kernel
theorem dX4_text_0 : decode cX4_text 0 = .ok (.aload_n 0, 1) := by decide +kernel
theorem dX4_text_1 : decode cX4_text 1 = .ok (.getfield 10, 3) := by decide +kernel
theorem dX4_text_4 : decode cX4_text 4 = .ok (.getfield 66, 3) := by decide +kernel
theorem dX4_text_7 : decode cX4_text 7 = .ok (.istore_n 1, 1) := by decide +kernel
theorem dX4_text_8 : decode cX4_text 8 = .ok (.iload_n 1, 1) := by decide +kernel
theorem dX4_text_9 : decode cX4_text 9 = .ok (.ifCond .lt 9, 3) := by decide +kernel
theorem dX4_text_12 : decode cX4_text 12 = .ok (.iload_n 1, 1) := by decide +kernel
theorem dX4_text_13 : decode cX4_text 13 = .ok (.bipush 6, 2) := by decide +kernel
theorem dX4_text_15 : decode cX4_text 15 = .ok (.if_icmp .lt 6, 3) := by decide +kernel
theorem dX4_text_18 : decode cX4_text 18 = .ok (.bipush (-4), 2) := by decide +kernel
theorem dX4_text_20 : decode cX4_text 20 = .ok (.ireturn, 1) := by decide +kernel
theorem dX4_text_21 : decode cX4_text 21 = .ok (.aload_n 0, 1) := by decide +kernel
theorem dX4_text_22 : decode cX4_text 22 = .ok (.getfield 19, 3) := by decide +kernel
theorem dX4_text_25 : decode cX4_text 25 = .ok (.aload_n 0, 1) := by decide +kernel
theorem dX4_text_26 : decode cX4_text 26 = .ok (.getfield 10, 3) := by decide +kernel
theorem dX4_text_29 : decode cX4_text 29 = .ok (.getfield 101, 3) := by decide +kernel
theorem dX4_text_32 : decode cX4_text 32 = .ok (.iload_n 1, 1) := by decide +kernel
theorem dX4_text_33 : decode cX4_text 33 = .ok (.aaload, 1) := by decide +kernel
theorem dX4_text_34 : decode cX4_text 34 = .ok (.aload_n 0, 1) := by decide +kernel
theorem dX4_text_35 : decode cX4_text 35 = .ok (.getfield 10, 3) := by decide +kernel
theorem dX4_text_38 : decode cX4_text 38 = .ok (.getfield 105, 3) := by decide +kernel
theorem dX4_text_41 : decode cX4_text 41 = .ok (.iload_n 1, 1) := by decide +kernel
theorem dX4_text_42 : decode cX4_text 42 = .ok (.aaload, 1) := by decide +kernel
theorem dX4_text_43 : decode cX4_text 43 = .ok (.invokevirtual 108, 3) := by decide +kernel
theorem dX4_text_46 : decode cX4_text 46 = .ok (.istore_n 2, 1) := by decide +kernel
theorem dX4_text_47 : decode cX4_text 47 = .ok (.aload_n 0, 1) := by decide +kernel
theorem dX4_text_48 : decode cX4_text 48 = .ok (.getfield 19, 3) := by decide +kernel
theorem dX4_text_51 : decode cX4_text 51 = .ok (.iconst 0, 1) := by decide +kernel
theorem dX4_text_52 : decode cX4_text 52 = .ok (.putfield 72, 3) := by decide +kernel
theorem dX4_text_55 : decode cX4_text 55 = .ok (.iload_n 2, 1) := by decide +kernel
theorem dX4_text_56 : decode cX4_text 56 = .ok (.ifCond .lt 8, 3) := by decide +kernel
theorem dX4_text_59 : decode cX4_text 59 = .ok (.bipush (-100), 2) := by decide +kernel
theorem dX4_text_61 : decode cX4_text 61 = .ok (.iload_n 2, 1) := by decide +kernel
theorem dX4_text_62 : decode cX4_text 62 = .ok (.isub, 1) := by decide +kernel
theorem dX4_text_63 : decode cX4_text 63 = .ok (.ireturn, 1) := by decide +kernel
theorem dX4_text_64 : decode cX4_text 64 = .ok (.aload_n 0, 1) := by decide +kernel
theorem dX4_text_65 : decode cX4_text 65 = .ok (.getfield 10, 3) := by decide +kernel
theorem dX4_text_68 : decode cX4_text 68 = .ok (.iload_n 1, 1) := by decide +kernel
theorem dX4_text_69 : decode cX4_text 69 = .ok (.iconst 1, 1) := by decide +kernel
theorem dX4_text_70 : decode cX4_text 70 = .ok (.iadd, 1) := by decide +kernel
theorem dX4_text_71 : decode cX4_text 71 = .ok (.putfield 66, 3) := by decide +kernel
theorem dX4_text_74 : decode cX4_text 74 = .ok (.iload_n 1, 1) := by decide +kernel
theorem dX4_text_75 : decode cX4_text 75 = .ok (.ireturn, 1) := by decide +kernel
theorem dX4_force_0 : decode cX4_force 0 = .ok (.iload_n 1, 1) := by decide +kernel
theorem dX4_force_1 : decode cX4_force 1 = .ok (.ifCond .lt 14, 3) := by decide +kernel
theorem dX4_force_4 : decode cX4_force 4 = .ok (.iload_n 1, 1) := by decide +kernel
theorem dX4_force_5 : decode cX4_force 5 = .ok (.aload_n 0, 1) := by decide +kernel
theorem dX4_force_6 : decode cX4_force 6 = .ok (.getfield 10, 3) := by decide +kernel
theorem dX4_force_9 : decode cX4_force 9 = .ok (.getfield 66, 3) := by decide +kernel
theorem dX4_force_12 : decode cX4_force 12 = .ok (.if_icmp .lt 6, 3) := by decide +kernel
theorem dX4_force_15 : decode cX4_force 15 = .ok (.bipush (-2), 2) := by decide +kernel
theorem dX4_force_17 : decode cX4_force 17 = .ok (.ireturn, 1) := by decide +kernel
theorem dX4_force_18 : decode cX4_force 18 = .ok (.aload_n 0, 1) := by decide +kernel
theorem dX4_force_19 : decode cX4_force 19 = .ok (.getfield 28, 3) := by decide +kernel
theorem dX4_force_22 : decode cX4_force 22 = .ok (.getfield 69, 3) := by decide +kernel
theorem dX4_force_25 : decode cX4_force 25 = .ok (.istore_n 2, 1) := by decide +kernel
theorem dX4_force_26 : decode cX4_force 26 = .ok (.aload_n 0, 1) := by decide +kernel
theorem dX4_force_27 : decode cX4_force 27 = .ok (.getfield 28, 3) := by decide +kernel
theorem dX4_force_30 : decode cX4_force 30 = .ok (.iload_n 1, 1) := by decide +kernel
theorem dX4_force_31 : decode cX4_force 31 = .ok (.putfield 69, 3) := by decide +kernel
theorem dX4_force_34 : decode cX4_force 34 = .ok (.iload_n 2, 1) := by decide +kernel
theorem dX4_force_35 : decode cX4_force 35 = .ok (.ireturn, 1) := by decide +kernel
theorem dX4_asks_0 : decode cX4_asks 0 = .ok (.iload_n 1, 1) := by decide +kernel
theorem dX4_asks_1 : decode cX4_asks 1 = .ok (.ifCond .lt 28, 3) := by decide +kernel
theorem dX4_asks_4 : decode cX4_asks 4 = .ok (.iload_n 1, 1) := by decide +kernel
theorem dX4_asks_5 : decode cX4_asks 5 = .ok (.iconst 3, 1) := by decide +kernel
theorem dX4_asks_6 : decode cX4_asks 6 = .ok (.if_icmp .ge 23, 3) := by decide +kernel
theorem dX4_asks_9 : decode cX4_asks 9 = .ok (.aload_n 0, 1) := by decide +kernel
theorem dX4_asks_10 : decode cX4_asks 10 = .ok (.iload_n 2, 1) := by decide +kernel
theorem dX4_asks_11 : decode cX4_asks 11 = .ok (.invokevirtual 112, 3) := by decide +kernel
theorem dX4_asks_14 : decode cX4_asks 14 = .ok (.ifCond .eq 15, 3) := by decide +kernel
theorem dX4_asks_17 : decode cX4_asks 17 = .ok (.iload_n 3, 1) := by decide +kernel
theorem dX4_asks_18 : decode cX4_asks 18 = .ok (.iconst (-1), 1) := by decide +kernel
theorem dX4_asks_19 : decode cX4_asks 19 = .ok (.if_icmp .eq 14, 3) := by decide +kernel
theorem dX4_asks_22 : decode cX4_asks 22 = .ok (.iload_n 3, 1) := by decide +kernel
theorem dX4_asks_23 : decode cX4_asks 23 = .ok (.invokestatic 76, 3) := by decide +kernel
theorem dX4_asks_26 : decode cX4_asks 26 = .ok (.ifCond .ne 7, 3) := by decide +kernel
theorem dX4_asks_29 : decode cX4_asks 29 = .ok (.sipush (-1000), 3) := by decide +kernel
theorem dX4_asks_32 : decode cX4_asks 32 = .ok (.ireturn, 1) := by decide +kernel
theorem dX4_asks_33 : decode cX4_asks 33 = .ok (.aload_n 0, 1) := by decide +kernel
theorem dX4_asks_34 : decode cX4_asks 34 = .ok (.getfield 28, 3) := by decide +kernel
theorem dX4_asks_37 : decode cX4_asks 37 = .ok (.iload_n 1, 1) := by decide +kernel
theorem dX4_asks_38 : decode cX4_asks 38 = .ok (.iload_n 2, 1) := by decide +kernel
theorem dX4_asks_39 : decode cX4_asks 39 = .ok (.iload_n 3, 1) := by decide +kernel
theorem dX4_asks_40 : decode cX4_asks 40 = .ok (.invokevirtual 115, 3) := by decide +kernel
theorem dX4_asks_43 : decode cX4_asks 43 = .ok (.ireturn, 1) := by decide +kernel
theorem dX4_person_0 : decode cX4_person 0 = .ok (.iload_n 1, 1) := by decide +kernel
theorem dX4_person_1 : decode cX4_person 1 = .ok (.ifCond .lt 19, 3) := by decide +kernel
theorem dX4_person_4 : decode cX4_person 4 = .ok (.iload_n 1, 1) := by decide +kernel
theorem dX4_person_5 : decode cX4_person 5 = .ok (.bipush 60, 2) := by decide +kernel
theorem dX4_person_7 : decode cX4_person 7 = .ok (.if_icmp .ge 13, 3) := by decide +kernel
theorem dX4_person_10 : decode cX4_person 10 = .ok (.iload_n 2, 1) := by decide +kernel
theorem dX4_person_11 : decode cX4_person 11 = .ok (.ifCond .lt 9, 3) := by decide +kernel
theorem dX4_person_14 : decode cX4_person 14 = .ok (.iload_n 2, 1) := by decide +kernel
theorem dX4_person_15 : decode cX4_person 15 = .ok (.bipush 99, 2) := by decide +kernel
theorem dX4_person_17 : decode cX4_person 17 = .ok (.if_icmp .le 6, 3) := by decide +kernel
theorem dX4_person_20 : decode cX4_person 20 = .ok (.bipush (-2), 2) := by decide +kernel
theorem dX4_person_22 : decode cX4_person 22 = .ok (.ireturn, 1) := by decide +kernel
theorem dX4_person_23 : decode cX4_person 23 = .ok (.aload_n 0, 1) := by decide +kernel
theorem dX4_person_24 : decode cX4_person 24 = .ok (.getfield 28, 3) := by decide +kernel
theorem dX4_person_27 : decode cX4_person 27 = .ok (.iload_n 1, 1) := by decide +kernel
theorem dX4_person_28 : decode cX4_person 28 = .ok (.iload_n 2, 1) := by decide +kernel
theorem dX4_person_29 : decode cX4_person 29 = .ok (.invokevirtual 119, 3) := by decide +kernel
theorem dX4_person_32 : decode cX4_person 32 = .ok (.ireturn, 1) := by decide +kernel
theorem dX4_put_0 : decode cX4_put 0 = .ok (.aload_n 0, 1) := by decide +kernel
theorem dX4_put_1 : decode cX4_put 1 = .ok (.iload_n 1, 1) := by decide +kernel
theorem dX4_put_2 : decode cX4_put 2 = .ok (.invokevirtual 112, 3) := by decide +kernel
theorem dX4_put_5 : decode cX4_put 5 = .ok (.ifCond .ne 6, 3) := by decide +kernel
theorem dX4_put_8 : decode cX4_put 8 = .ok (.bipush (-5), 2) := by decide +kernel
theorem dX4_put_10 : decode cX4_put 10 = .ok (.ireturn, 1) := by decide +kernel
theorem dX4_put_11 : decode cX4_put 11 = .ok (.iload_n 2, 1) := by decide +kernel
theorem dX4_put_12 : decode cX4_put 12 = .ok (.ifCond .lt 28, 3) := by decide +kernel
theorem dX4_put_15 : decode cX4_put 15 = .ok (.iload_n 2, 1) := by decide +kernel
theorem dX4_put_16 : decode cX4_put 16 = .ok (.iconst 1, 1) := by decide +kernel
theorem dX4_put_17 : decode cX4_put 17 = .ok (.if_icmp .gt 23, 3) := by decide +kernel
theorem dX4_put_20 : decode cX4_put 20 = .ok (.iload_n 3, 1) := by decide +kernel
theorem dX4_put_21 : decode cX4_put 21 = .ok (.ifCond .lt 19, 3) := by decide +kernel
theorem dX4_put_24 : decode cX4_put 24 = .ok (.iload_n 3, 1) := by decide +kernel
theorem dX4_put_25 : decode cX4_put 25 = .ok (.iload_n 2, 1) := by decide +kernel
theorem dX4_put_26 : decode cX4_put 26 = .ok (.ifCond .ne 8, 3) := by decide +kernel
theorem dX4_put_29 : decode cX4_put 29 = .ok (.bipush 99, 2) := by decide +kernel
theorem dX4_put_31 : decode cX4_put 31 = .ok (.goto 6, 3) := by decide +kernel
theorem dX4_put_34 : decode cX4_put 34 = .ok (.sipush 9999, 3) := by decide +kernel
theorem dX4_put_37 : decode cX4_put 37 = .ok (.if_icmp .le 6, 3) := by decide +kernel
theorem dX4_put_40 : decode cX4_put 40 = .ok (.bipush (-7), 2) := by decide +kernel
theorem dX4_put_42 : decode cX4_put 42 = .ok (.ireturn, 1) := by decide +kernel
theorem dX4_put_43 : decode cX4_put 43 = .ok (.iload_n 2, 1) := by decide +kernel
theorem dX4_put_44 : decode cX4_put 44 = .ok (.ifCond .ne 13, 3) := by decide +kernel
theorem dX4_put_47 : decode cX4_put 47 = .ok (.aload_n 0, 1) := by decide +kernel
theorem dX4_put_48 : decode cX4_put 48 = .ok (.getfield 28, 3) := by decide +kernel
theorem dX4_put_51 : decode cX4_put 51 = .ok (.getfield 123, 3) := by decide +kernel
theorem dX4_put_54 : decode cX4_put 54 = .ok (.goto 10, 3) := by decide +kernel
theorem dX4_put_57 : decode cX4_put 57 = .ok (.aload_n 0, 1) := by decide +kernel
theorem dX4_put_58 : decode cX4_put 58 = .ok (.getfield 28, 3) := by decide +kernel
theorem dX4_put_61 : decode cX4_put 61 = .ok (.getfield 126, 3) := by decide +kernel
theorem dX4_put_64 : decode cX4_put 64 = .ok (.astore 4, 2) := by decide +kernel
theorem dX4_put_66 : decode cX4_put 66 = .ok (.aload 4, 2) := by decide +kernel
theorem dX4_put_68 : decode cX4_put 68 = .ok (.iload_n 1, 1) := by decide +kernel
theorem dX4_put_69 : decode cX4_put 69 = .ok (.iaload, 1) := by decide +kernel
theorem dX4_put_70 : decode cX4_put 70 = .ok (.istore 5, 2) := by decide +kernel
theorem dX4_put_72 : decode cX4_put 72 = .ok (.aload 4, 2) := by decide +kernel
theorem dX4_put_74 : decode cX4_put 74 = .ok (.iload_n 1, 1) := by decide +kernel
theorem dX4_put_75 : decode cX4_put 75 = .ok (.iload_n 3, 1) := by decide +kernel
theorem dX4_put_76 : decode cX4_put 76 = .ok (.iastore, 1) := by decide +kernel
theorem dX4_put_77 : decode cX4_put 77 = .ok (.iload 5, 2) := by decide +kernel
theorem dX4_put_79 : decode cX4_put 79 = .ok (.ireturn, 1) := by decide +kernel
theorem dX4_told_0 : decode cX4_told 0 = .ok (.aload_n 0, 1) := by decide +kernel
theorem dX4_told_1 : decode cX4_told 1 = .ok (.iload_n 1, 1) := by decide +kernel
theorem dX4_told_2 : decode cX4_told 2 = .ok (.invokevirtual 112, 3) := by decide +kernel
theorem dX4_told_5 : decode cX4_told 5 = .ok (.ifCond .ne 6, 3) := by decide +kernel
theorem dX4_told_8 : decode cX4_told 8 = .ok (.bipush (-5), 2) := by decide +kernel
theorem dX4_told_10 : decode cX4_told 10 = .ok (.ireturn, 1) := by decide +kernel
theorem dX4_told_11 : decode cX4_told 11 = .ok (.iload_n 2, 1) := by decide +kernel
theorem dX4_told_12 : decode cX4_told 12 = .ok (.tableswitch 119 0 6 #[44, 54, 64, 74, 84, 94, 103], 44) := by decide +kernel
theorem dX4_told_56 : decode cX4_told 56 = .ok (.aload_n 0, 1) := by decide +kernel
theorem dX4_told_57 : decode cX4_told 57 = .ok (.getfield 28, 3) := by decide +kernel
theorem dX4_told_60 : decode cX4_told 60 = .ok (.getfield 123, 3) := by decide +kernel
theorem dX4_told_63 : decode cX4_told 63 = .ok (.iload_n 1, 1) := by decide +kernel
theorem dX4_told_64 : decode cX4_told 64 = .ok (.iaload, 1) := by decide +kernel
theorem dX4_told_65 : decode cX4_told 65 = .ok (.ireturn, 1) := by decide +kernel
theorem dX4_told_66 : decode cX4_told 66 = .ok (.aload_n 0, 1) := by decide +kernel
theorem dX4_told_67 : decode cX4_told 67 = .ok (.getfield 28, 3) := by decide +kernel
theorem dX4_told_70 : decode cX4_told 70 = .ok (.getfield 126, 3) := by decide +kernel
theorem dX4_told_73 : decode cX4_told 73 = .ok (.iload_n 1, 1) := by decide +kernel
theorem dX4_told_74 : decode cX4_told 74 = .ok (.iaload, 1) := by decide +kernel
theorem dX4_told_75 : decode cX4_told 75 = .ok (.ireturn, 1) := by decide +kernel
theorem dX4_told_76 : decode cX4_told 76 = .ok (.aload_n 0, 1) := by decide +kernel
theorem dX4_told_77 : decode cX4_told 77 = .ok (.getfield 28, 3) := by decide +kernel
theorem dX4_told_80 : decode cX4_told 80 = .ok (.getfield 129, 3) := by decide +kernel
theorem dX4_told_83 : decode cX4_told 83 = .ok (.iload_n 1, 1) := by decide +kernel
theorem dX4_told_84 : decode cX4_told 84 = .ok (.iaload, 1) := by decide +kernel
theorem dX4_told_85 : decode cX4_told 85 = .ok (.ireturn, 1) := by decide +kernel
theorem dX4_told_86 : decode cX4_told 86 = .ok (.aload_n 0, 1) := by decide +kernel
theorem dX4_told_87 : decode cX4_told 87 = .ok (.getfield 28, 3) := by decide +kernel
theorem dX4_told_90 : decode cX4_told 90 = .ok (.getfield 132, 3) := by decide +kernel
theorem dX4_told_93 : decode cX4_told 93 = .ok (.iload_n 1, 1) := by decide +kernel
theorem dX4_told_94 : decode cX4_told 94 = .ok (.iaload, 1) := by decide +kernel
theorem dX4_told_95 : decode cX4_told 95 = .ok (.ireturn, 1) := by decide +kernel
theorem dX4_told_96 : decode cX4_told 96 = .ok (.aload_n 0, 1) := by decide +kernel
theorem dX4_told_97 : decode cX4_told 97 = .ok (.getfield 28, 3) := by decide +kernel
theorem dX4_told_100 : decode cX4_told 100 = .ok (.getfield 135, 3) := by decide +kernel
theorem dX4_told_103 : decode cX4_told 103 = .ok (.iload_n 1, 1) := by decide +kernel
theorem dX4_told_104 : decode cX4_told 104 = .ok (.iaload, 1) := by decide +kernel
theorem dX4_told_105 : decode cX4_told 105 = .ok (.ireturn, 1) := by decide +kernel
theorem dX4_told_106 : decode cX4_told 106 = .ok (.aload_n 0, 1) := by decide +kernel
theorem dX4_told_107 : decode cX4_told 107 = .ok (.getfield 28, 3) := by decide +kernel
theorem dX4_told_110 : decode cX4_told 110 = .ok (.iload_n 1, 1) := by decide +kernel
theorem dX4_told_111 : decode cX4_told 111 = .ok (.invokevirtual 138, 3) := by decide +kernel
theorem dX4_told_114 : decode cX4_told 114 = .ok (.ireturn, 1) := by decide +kernel
theorem dX4_told_115 : decode cX4_told 115 = .ok (.aload_n 0, 1) := by decide +kernel
theorem dX4_told_116 : decode cX4_told 116 = .ok (.getfield 28, 3) := by decide +kernel
theorem dX4_told_119 : decode cX4_told 119 = .ok (.aload_n 0, 1) := by decide +kernel
theorem dX4_told_120 : decode cX4_told 120 = .ok (.getfield 28, 3) := by decide +kernel
theorem dX4_told_123 : decode cX4_told 123 = .ok (.iload_n 1, 1) := by decide +kernel
theorem dX4_told_124 : decode cX4_told 124 = .ok (.invokevirtual 138, 3) := by decide +kernel
theorem dX4_told_127 : decode cX4_told 127 = .ok (.invokevirtual 142, 3) := by decide +kernel
theorem dX4_told_130 : decode cX4_told 130 = .ok (.ireturn, 1) := by decide +kernel
theorem dX4_told_131 : decode cX4_told 131 = .ok (.bipush (-7), 2) := by decide +kernel
theorem dX4_told_133 : decode cX4_told 133 = .ok (.ireturn, 1) := by decide +kernel
theorem dX4_coin_0 : decode cX4_coin 0 = .ok (.aload_n 0, 1) := by decide +kernel
theorem dX4_coin_1 : decode cX4_coin 1 = .ok (.iload_n 1, 1) := by decide +kernel
theorem dX4_coin_2 : decode cX4_coin 2 = .ok (.invokevirtual 112, 3) := by decide +kernel
theorem dX4_coin_5 : decode cX4_coin 5 = .ok (.ifCond .ne 6, 3) := by decide +kernel
theorem dX4_coin_8 : decode cX4_coin 8 = .ok (.bipush (-5), 2) := by decide +kernel
theorem dX4_coin_10 : decode cX4_coin 10 = .ok (.ireturn, 1) := by decide +kernel
theorem dX4_coin_11 : decode cX4_coin 11 = .ok (.iload_n 2, 1) := by decide +kernel
theorem dX4_coin_12 : decode cX4_coin 12 = .ok (.invokestatic 76, 3) := by decide +kernel
theorem dX4_coin_15 : decode cX4_coin 15 = .ok (.ifCond .ne 6, 3) := by decide +kernel
theorem dX4_coin_18 : decode cX4_coin 18 = .ok (.bipush (-6), 2) := by decide +kernel
theorem dX4_coin_20 : decode cX4_coin 20 = .ok (.ireturn, 1) := by decide +kernel
theorem dX4_coin_21 : decode cX4_coin 21 = .ok (.iload_n 3, 1) := by decide +kernel
theorem dX4_coin_22 : decode cX4_coin 22 = .ok (.ifCond .lt 8, 3) := by decide +kernel
theorem dX4_coin_25 : decode cX4_coin 25 = .ok (.iload_n 3, 1) := by decide +kernel
theorem dX4_coin_26 : decode cX4_coin 26 = .ok (.iconst 1, 1) := by decide +kernel
theorem dX4_coin_27 : decode cX4_coin 27 = .ok (.if_icmp .le 6, 3) := by decide +kernel
theorem dX4_coin_30 : decode cX4_coin 30 = .ok (.bipush (-7), 2) := by decide +kernel
theorem dX4_coin_32 : decode cX4_coin 32 = .ok (.ireturn, 1) := by decide +kernel
theorem dX4_coin_33 : decode cX4_coin 33 = .ok (.iload_n 3, 1) := by decide +kernel
theorem dX4_coin_34 : decode cX4_coin 34 = .ok (.ifCond .ne 15, 3) := by decide +kernel
theorem dX4_coin_37 : decode cX4_coin 37 = .ok (.aload_n 0, 1) := by decide +kernel
theorem dX4_coin_38 : decode cX4_coin 38 = .ok (.getfield 28, 3) := by decide +kernel
theorem dX4_coin_41 : decode cX4_coin 41 = .ok (.iload_n 1, 1) := by decide +kernel
theorem dX4_coin_42 : decode cX4_coin 42 = .ok (.iload_n 2, 1) := by decide +kernel
theorem dX4_coin_43 : decode cX4_coin 43 = .ok (.invokevirtual 145, 3) := by decide +kernel
theorem dX4_coin_46 : decode cX4_coin 46 = .ok (.goto 16, 3) := by decide +kernel
theorem dX4_coin_49 : decode cX4_coin 49 = .ok (.sipush 1000, 3) := by decide +kernel
theorem dX4_coin_52 : decode cX4_coin 52 = .ok (.aload_n 0, 1) := by decide +kernel
theorem dX4_coin_53 : decode cX4_coin 53 = .ok (.getfield 28, 3) := by decide +kernel
theorem dX4_coin_56 : decode cX4_coin 56 = .ok (.iload_n 1, 1) := by decide +kernel
theorem dX4_coin_57 : decode cX4_coin 57 = .ok (.iload_n 2, 1) := by decide +kernel
theorem dX4_coin_58 : decode cX4_coin 58 = .ok (.invokevirtual 148, 3) := by decide +kernel
theorem dX4_coin_61 : decode cX4_coin 61 = .ok (.iadd, 1) := by decide +kernel
theorem dX4_coin_62 : decode cX4_coin 62 = .ok (.ireturn, 1) := by decide +kernel
theorem dX4_pass_0 : decode cX4_pass 0 = .ok (.aload_n 0, 1) := by decide +kernel
theorem dX4_pass_1 : decode cX4_pass 1 = .ok (.getfield 28, 3) := by decide +kernel
theorem dX4_pass_4 : decode cX4_pass 4 = .ok (.getfield 56, 3) := by decide +kernel
theorem dX4_pass_7 : decode cX4_pass 7 = .ok (.ifCond .eq 13, 3) := by decide +kernel
theorem dX4_pass_10 : decode cX4_pass 10 = .ok (.aload_n 0, 1) := by decide +kernel
theorem dX4_pass_11 : decode cX4_pass 11 = .ok (.getfield 28, 3) := by decide +kernel
theorem dX4_pass_14 : decode cX4_pass 14 = .ok (.getfield 60, 3) := by decide +kernel
theorem dX4_pass_17 : decode cX4_pass 17 = .ok (.ifCond .ne 6, 3) := by decide +kernel
theorem dX4_pass_20 : decode cX4_pass 20 = .ok (.bipush (-3), 2) := by decide +kernel
theorem dX4_pass_22 : decode cX4_pass 22 = .ok (.ireturn, 1) := by decide +kernel
theorem dX4_pass_23 : decode cX4_pass 23 = .ok (.aload_n 0, 1) := by decide +kernel
theorem dX4_pass_24 : decode cX4_pass 24 = .ok (.getfield 28, 3) := by decide +kernel
theorem dX4_pass_27 : decode cX4_pass 27 = .ok (.invokevirtual 151, 3) := by decide +kernel
theorem dX4_pass_30 : decode cX4_pass 30 = .ok (.ireturn, 1) := by decide +kernel
theorem dX4_hand_0 : decode cX4_hand 0 = .ok (.aload_n 0, 1) := by decide +kernel
theorem dX4_hand_1 : decode cX4_hand 1 = .ok (.iload_n 1, 1) := by decide +kernel
theorem dX4_hand_2 : decode cX4_hand 2 = .ok (.invokevirtual 112, 3) := by decide +kernel
theorem dX4_hand_5 : decode cX4_hand 5 = .ok (.ifCond .ne 6, 3) := by decide +kernel
theorem dX4_hand_8 : decode cX4_hand 8 = .ok (.bipush (-5), 2) := by decide +kernel
theorem dX4_hand_10 : decode cX4_hand 10 = .ok (.ireturn, 1) := by decide +kernel
theorem dX4_hand_11 : decode cX4_hand 11 = .ok (.aload_n 0, 1) := by decide +kernel
theorem dX4_hand_12 : decode cX4_hand 12 = .ok (.getfield 28, 3) := by decide +kernel
theorem dX4_hand_15 : decode cX4_hand 15 = .ok (.getfield 73, 3) := by decide +kernel
theorem dX4_hand_18 : decode cX4_hand 18 = .ok (.istore_n 2, 1) := by decide +kernel
theorem dX4_hand_19 : decode cX4_hand 19 = .ok (.aload_n 0, 1) := by decide +kernel
theorem dX4_hand_20 : decode cX4_hand 20 = .ok (.getfield 28, 3) := by decide +kernel
theorem dX4_hand_23 : decode cX4_hand 23 = .ok (.iload_n 1, 1) := by decide +kernel
theorem dX4_hand_24 : decode cX4_hand 24 = .ok (.putfield 73, 3) := by decide +kernel
theorem dX4_hand_27 : decode cX4_hand 27 = .ok (.iload_n 2, 1) := by decide +kernel
theorem dX4_hand_28 : decode cX4_hand 28 = .ok (.ireturn, 1) := by decide +kernel
theorem dX4_run_0 : decode cX4_run 0 = .ok (.iload_n 1, 1) := by decide +kernel
theorem dX4_run_1 : decode cX4_run 1 = .ok (.ifCond .lt 17, 3) := by decide +kernel
theorem dX4_run_4 : decode cX4_run 4 = .ok (.iload_n 1, 1) := by decide +kernel
theorem dX4_run_5 : decode cX4_run 5 = .ok (.bipush 120, 2) := by decide +kernel
theorem dX4_run_7 : decode cX4_run 7 = .ok (.if_icmp .gt 11, 3) := by decide +kernel
theorem dX4_run_10 : decode cX4_run 10 = .ok (.aload_n 0, 1) := by decide +kernel
theorem dX4_run_11 : decode cX4_run 11 = .ok (.iload_n 2, 1) := by decide +kernel
theorem dX4_run_12 : decode cX4_run 12 = .ok (.invokevirtual 154, 3) := by decide +kernel
theorem dX4_run_15 : decode cX4_run 15 = .ok (.ifCond .ne 6, 3) := by decide +kernel
theorem dX4_run_18 : decode cX4_run 18 = .ok (.bipush (-2), 2) := by decide +kernel
theorem dX4_run_20 : decode cX4_run 20 = .ok (.ireturn, 1) := by decide +kernel
theorem dX4_run_21 : decode cX4_run 21 = .ok (.aload_n 0, 1) := by decide +kernel
theorem dX4_run_22 : decode cX4_run 22 = .ok (.getfield 32, 3) := by decide +kernel
theorem dX4_run_25 : decode cX4_run 25 = .ok (.aload_n 0, 1) := by decide +kernel
theorem dX4_run_26 : decode cX4_run 26 = .ok (.getfield 28, 3) := by decide +kernel
theorem dX4_run_29 : decode cX4_run 29 = .ok (.invokevirtual 157, 3) := by decide +kernel
theorem dX4_run_32 : decode cX4_run 32 = .ok (.aload_n 0, 1) := by decide +kernel
theorem dX4_run_33 : decode cX4_run 33 = .ok (.getfield 32, 3) := by decide +kernel
theorem dX4_run_36 : decode cX4_run 36 = .ok (.iload_n 1, 1) := by decide +kernel
theorem dX4_run_37 : decode cX4_run 37 = .ok (.invokevirtual 161, 3) := by decide +kernel
theorem dX4_run_40 : decode cX4_run 40 = .ok (.pop, 1) := by decide +kernel
theorem dX4_run_41 : decode cX4_run 41 = .ok (.iload_n 2, 1) := by decide +kernel
theorem dX4_run_42 : decode cX4_run 42 = .ok (.tableswitch 50 0 2 #[26, 34, 42], 26) := by decide +kernel
theorem dX4_run_68 : decode cX4_run 68 = .ok (.aload_n 0, 1) := by decide +kernel
theorem dX4_run_69 : decode cX4_run 69 = .ok (.getfield 32, 3) := by decide +kernel
theorem dX4_run_72 : decode cX4_run 72 = .ok (.getfield 60, 3) := by decide +kernel
theorem dX4_run_75 : decode cX4_run 75 = .ok (.ireturn, 1) := by decide +kernel
theorem dX4_run_76 : decode cX4_run 76 = .ok (.aload_n 0, 1) := by decide +kernel
theorem dX4_run_77 : decode cX4_run 77 = .ok (.getfield 32, 3) := by decide +kernel
theorem dX4_run_80 : decode cX4_run 80 = .ok (.invokevirtual 90, 3) := by decide +kernel
theorem dX4_run_83 : decode cX4_run 83 = .ok (.ireturn, 1) := by decide +kernel
theorem dX4_run_84 : decode cX4_run 84 = .ok (.aload_n 0, 1) := by decide +kernel
theorem dX4_run_85 : decode cX4_run 85 = .ok (.getfield 32, 3) := by decide +kernel
theorem dX4_run_88 : decode cX4_run 88 = .ok (.getfield 73, 3) := by decide +kernel
theorem dX4_run_91 : decode cX4_run 91 = .ok (.ireturn, 1) := by decide +kernel
theorem dX4_run_92 : decode cX4_run 92 = .ok (.iload_n 2, 1) := by decide +kernel
theorem dX4_run_93 : decode cX4_run 93 = .ok (.bipush 10, 2) := by decide +kernel
theorem dX4_run_95 : decode cX4_run 95 = .ok (.irem, 1) := by decide +kernel
theorem dX4_run_96 : decode cX4_run 96 = .ok (.istore_n 3, 1) := by decide +kernel
theorem dX4_run_97 : decode cX4_run 97 = .ok (.iload_n 2, 1) := by decide +kernel
theorem dX4_run_98 : decode cX4_run 98 = .ok (.bipush 10, 2) := by decide +kernel
theorem dX4_run_100 : decode cX4_run 100 = .ok (.idiv, 1) := by decide +kernel
theorem dX4_run_101 : decode cX4_run 101 = .ok (.lookupswitch 47 #[(1, 27), (2, 37)], 27) := by decide +kernel
theorem dX4_run_128 : decode cX4_run 128 = .ok (.aload_n 0, 1) := by decide +kernel
theorem dX4_run_129 : decode cX4_run 129 = .ok (.getfield 32, 3) := by decide +kernel
theorem dX4_run_132 : decode cX4_run 132 = .ok (.getfield 126, 3) := by decide +kernel
theorem dX4_run_135 : decode cX4_run 135 = .ok (.iload_n 3, 1) := by decide +kernel
theorem dX4_run_136 : decode cX4_run 136 = .ok (.iaload, 1) := by decide +kernel
theorem dX4_run_137 : decode cX4_run 137 = .ok (.ireturn, 1) := by decide +kernel
theorem dX4_run_138 : decode cX4_run 138 = .ok (.aload_n 0, 1) := by decide +kernel
theorem dX4_run_139 : decode cX4_run 139 = .ok (.getfield 32, 3) := by decide +kernel
theorem dX4_run_142 : decode cX4_run 142 = .ok (.getfield 123, 3) := by decide +kernel
theorem dX4_run_145 : decode cX4_run 145 = .ok (.iload_n 3, 1) := by decide +kernel
theorem dX4_run_146 : decode cX4_run 146 = .ok (.iaload, 1) := by decide +kernel
theorem dX4_run_147 : decode cX4_run 147 = .ok (.ireturn, 1) := by decide +kernel
theorem dX4_run_148 : decode cX4_run 148 = .ok (.aload_n 0, 1) := by decide +kernel
theorem dX4_run_149 : decode cX4_run 149 = .ok (.getfield 32, 3) := by decide +kernel
theorem dX4_run_152 : decode cX4_run 152 = .ok (.getfield 129, 3) := by decide +kernel
theorem dX4_run_155 : decode cX4_run 155 = .ok (.iload_n 3, 1) := by decide +kernel
theorem dX4_run_156 : decode cX4_run 156 = .ok (.iaload, 1) := by decide +kernel
theorem dX4_run_157 : decode cX4_run 157 = .ok (.ireturn, 1) := by decide +kernel
theorem dX4_isAskedOfRun_0 : decode cX4_isAskedOfRun 0 = .ok (.iload_n 1, 1) := by decide +kernel
theorem dX4_isAskedOfRun_1 : decode cX4_isAskedOfRun 1 = .ok (.ifCond .lt 8, 3) := by decide +kernel
theorem dX4_isAskedOfRun_4 : decode cX4_isAskedOfRun 4 = .ok (.iload_n 1, 1) := by decide +kernel
theorem dX4_isAskedOfRun_5 : decode cX4_isAskedOfRun 5 = .ok (.iconst 2, 1) := by decide +kernel
theorem dX4_isAskedOfRun_6 : decode cX4_isAskedOfRun 6 = .ok (.if_icmp .le 26, 3) := by decide +kernel
theorem dX4_isAskedOfRun_9 : decode cX4_isAskedOfRun 9 = .ok (.iload_n 1, 1) := by decide +kernel
theorem dX4_isAskedOfRun_10 : decode cX4_isAskedOfRun 10 = .ok (.bipush 10, 2) := by decide +kernel
theorem dX4_isAskedOfRun_12 : decode cX4_isAskedOfRun 12 = .ok (.if_icmp .lt 24, 3) := by decide +kernel
theorem dX4_isAskedOfRun_15 : decode cX4_isAskedOfRun 15 = .ok (.iload_n 1, 1) := by decide +kernel
theorem dX4_isAskedOfRun_16 : decode cX4_isAskedOfRun 16 = .ok (.bipush 40, 2) := by decide +kernel
theorem dX4_isAskedOfRun_18 : decode cX4_isAskedOfRun 18 = .ok (.if_icmp .ge 18, 3) := by decide +kernel
theorem dX4_isAskedOfRun_21 : decode cX4_isAskedOfRun 21 = .ok (.aload_n 0, 1) := by decide +kernel
theorem dX4_isAskedOfRun_22 : decode cX4_isAskedOfRun 22 = .ok (.iload_n 1, 1) := by decide +kernel
theorem dX4_isAskedOfRun_23 : decode cX4_isAskedOfRun 23 = .ok (.bipush 10, 2) := by decide +kernel
theorem dX4_isAskedOfRun_25 : decode cX4_isAskedOfRun 25 = .ok (.irem, 1) := by decide +kernel
theorem dX4_isAskedOfRun_26 : decode cX4_isAskedOfRun 26 = .ok (.invokevirtual 112, 3) := by decide +kernel
theorem dX4_isAskedOfRun_29 : decode cX4_isAskedOfRun 29 = .ok (.ifCond .eq 7, 3) := by decide +kernel
theorem dX4_isAskedOfRun_32 : decode cX4_isAskedOfRun 32 = .ok (.iconst 1, 1) := by decide +kernel
theorem dX4_isAskedOfRun_33 : decode cX4_isAskedOfRun 33 = .ok (.goto 4, 3) := by decide +kernel
theorem dX4_isAskedOfRun_36 : decode cX4_isAskedOfRun 36 = .ok (.iconst 0, 1) := by decide +kernel
theorem dX4_isAskedOfRun_37 : decode cX4_isAskedOfRun 37 = .ok (.ireturn, 1) := by decide +kernel
theorem dX4_end_0 : decode cX4_end 0 = .ok (.iload_n 1, 1) := by decide +kernel
theorem dX4_end_1 : decode cX4_end 1 = .ok (.ifCond .lt 8, 3) := by decide +kernel
theorem dX4_end_4 : decode cX4_end 4 = .ok (.iload_n 1, 1) := by decide +kernel
theorem dX4_end_5 : decode cX4_end 5 = .ok (.iconst 2, 1) := by decide +kernel
theorem dX4_end_6 : decode cX4_end 6 = .ok (.if_icmp .le 6, 3) := by decide +kernel
theorem dX4_end_9 : decode cX4_end 9 = .ok (.bipush (-2), 2) := by decide +kernel
theorem dX4_end_11 : decode cX4_end 11 = .ok (.ireturn, 1) := by decide +kernel
theorem dX4_end_12 : decode cX4_end 12 = .ok (.aload_n 0, 1) := by decide +kernel
theorem dX4_end_13 : decode cX4_end 13 = .ok (.getfield 32, 3) := by decide +kernel
theorem dX4_end_16 : decode cX4_end 16 = .ok (.aload_n 0, 1) := by decide +kernel
theorem dX4_end_17 : decode cX4_end 17 = .ok (.getfield 28, 3) := by decide +kernel
theorem dX4_end_20 : decode cX4_end 20 = .ok (.invokevirtual 157, 3) := by decide +kernel
theorem dX4_end_23 : decode cX4_end 23 = .ok (.aload_n 0, 1) := by decide +kernel
theorem dX4_end_24 : decode cX4_end 24 = .ok (.getfield 32, 3) := by decide +kernel
theorem dX4_end_27 : decode cX4_end 27 = .ok (.bipush 120, 2) := by decide +kernel
theorem dX4_end_29 : decode cX4_end 29 = .ok (.invokevirtual 161, 3) := by decide +kernel
theorem dX4_end_32 : decode cX4_end 32 = .ok (.istore_n 2, 1) := by decide +kernel
theorem dX4_end_33 : decode cX4_end 33 = .ok (.iload_n 1, 1) := by decide +kernel
theorem dX4_end_34 : decode cX4_end 34 = .ok (.lookupswitch 46 #[(0, 26), (1, 28)], 26) := by decide +kernel
theorem dX4_end_60 : decode cX4_end 60 = .ok (.iload_n 2, 1) := by decide +kernel
theorem dX4_end_61 : decode cX4_end 61 = .ok (.ireturn, 1) := by decide +kernel
theorem dX4_end_62 : decode cX4_end 62 = .ok (.aload_n 0, 1) := by decide +kernel
theorem dX4_end_63 : decode cX4_end 63 = .ok (.getfield 32, 3) := by decide +kernel
theorem dX4_end_66 : decode cX4_end 66 = .ok (.getfield 126, 3) := by decide +kernel
theorem dX4_end_69 : decode cX4_end 69 = .ok (.aload_n 0, 1) := by decide +kernel
theorem dX4_end_70 : decode cX4_end 70 = .ok (.getfield 32, 3) := by decide +kernel
theorem dX4_end_73 : decode cX4_end 73 = .ok (.getfield 56, 3) := by decide +kernel
theorem dX4_end_76 : decode cX4_end 76 = .ok (.invokestatic 164, 3) := by decide +kernel
theorem dX4_end_79 : decode cX4_end 79 = .ok (.ireturn, 1) := by decide +kernel
theorem dX4_end_80 : decode cX4_end 80 = .ok (.aload_n 0, 1) := by decide +kernel
theorem dX4_end_81 : decode cX4_end 81 = .ok (.getfield 32, 3) := by decide +kernel
theorem dX4_end_84 : decode cX4_end 84 = .ok (.getfield 129, 3) := by decide +kernel
theorem dX4_end_87 : decode cX4_end 87 = .ok (.aload_n 0, 1) := by decide +kernel
theorem dX4_end_88 : decode cX4_end 88 = .ok (.getfield 32, 3) := by decide +kernel
theorem dX4_end_91 : decode cX4_end 91 = .ok (.getfield 56, 3) := by decide +kernel
theorem dX4_end_94 : decode cX4_end 94 = .ok (.invokestatic 164, 3) := by decide +kernel
theorem dX4_end_97 : decode cX4_end 97 = .ok (.ireturn, 1) := by decide +kernel
theorem dX4_firstMost_0 : decode cX4_firstMost 0 = .ok (.iconst (-1), 1) := by decide +kernel
theorem dX4_firstMost_1 : decode cX4_firstMost 1 = .ok (.istore_n 2, 1) := by decide +kernel
theorem dX4_firstMost_2 : decode cX4_firstMost 2 = .ok (.iconst 0, 1) := by decide +kernel
theorem dX4_firstMost_3 : decode cX4_firstMost 3 = .ok (.istore_n 3, 1) := by decide +kernel
theorem dX4_firstMost_4 : decode cX4_firstMost 4 = .ok (.iload_n 3, 1) := by decide +kernel
theorem dX4_firstMost_5 : decode cX4_firstMost 5 = .ok (.iload_n 1, 1) := by decide +kernel
theorem dX4_firstMost_6 : decode cX4_firstMost 6 = .ok (.if_icmp .ge 30, 3) := by decide +kernel
theorem dX4_firstMost_9 : decode cX4_firstMost 9 = .ok (.iload_n 3, 1) := by decide +kernel
theorem dX4_firstMost_10 : decode cX4_firstMost 10 = .ok (.aload_n 0, 1) := by decide +kernel
theorem dX4_firstMost_11 : decode cX4_firstMost 11 = .ok (.arraylength, 1) := by decide +kernel
theorem dX4_firstMost_12 : decode cX4_firstMost 12 = .ok (.if_icmp .ge 24, 3) := by decide +kernel
theorem dX4_firstMost_15 : decode cX4_firstMost 15 = .ok (.iload_n 2, 1) := by decide +kernel
theorem dX4_firstMost_16 : decode cX4_firstMost 16 = .ok (.ifCond .lt 12, 3) := by decide +kernel
theorem dX4_firstMost_19 : decode cX4_firstMost 19 = .ok (.aload_n 0, 1) := by decide +kernel
theorem dX4_firstMost_20 : decode cX4_firstMost 20 = .ok (.iload_n 3, 1) := by decide +kernel
theorem dX4_firstMost_21 : decode cX4_firstMost 21 = .ok (.iaload, 1) := by decide +kernel
theorem dX4_firstMost_22 : decode cX4_firstMost 22 = .ok (.aload_n 0, 1) := by decide +kernel
theorem dX4_firstMost_23 : decode cX4_firstMost 23 = .ok (.iload_n 2, 1) := by decide +kernel
theorem dX4_firstMost_24 : decode cX4_firstMost 24 = .ok (.iaload, 1) := by decide +kernel
theorem dX4_firstMost_25 : decode cX4_firstMost 25 = .ok (.if_icmp .le 5, 3) := by decide +kernel
theorem dX4_firstMost_28 : decode cX4_firstMost 28 = .ok (.iload_n 3, 1) := by decide +kernel
theorem dX4_firstMost_29 : decode cX4_firstMost 29 = .ok (.istore_n 2, 1) := by decide +kernel
theorem dX4_firstMost_30 : decode cX4_firstMost 30 = .ok (.iinc 3 1, 3) := by decide +kernel
theorem dX4_firstMost_33 : decode cX4_firstMost 33 = .ok (.goto (-29), 3) := by decide +kernel
theorem dX4_firstMost_36 : decode cX4_firstMost 36 = .ok (.iload_n 2, 1) := by decide +kernel
theorem dX4_firstMost_37 : decode cX4_firstMost 37 = .ok (.ireturn, 1) := by decide +kernel
theorem dX4_first_0 : decode cX4_first 0 = .ok (.aload_n 0, 1) := by decide +kernel
theorem dX4_first_1 : decode cX4_first 1 = .ok (.iload_n 1, 1) := by decide +kernel
theorem dX4_first_2 : decode cX4_first 2 = .ok (.invokevirtual 112, 3) := by decide +kernel
theorem dX4_first_5 : decode cX4_first 5 = .ok (.ifCond .ne 6, 3) := by decide +kernel
theorem dX4_first_8 : decode cX4_first 8 = .ok (.bipush (-5), 2) := by decide +kernel
theorem dX4_first_10 : decode cX4_first 10 = .ok (.ireturn, 1) := by decide +kernel
theorem dX4_first_11 : decode cX4_first 11 = .ok (.iload_n 2, 1) := by decide +kernel
theorem dX4_first_12 : decode cX4_first 12 = .ok (.ifCond .lt 8, 3) := by decide +kernel
theorem dX4_first_15 : decode cX4_first 15 = .ok (.iload_n 2, 1) := by decide +kernel
theorem dX4_first_16 : decode cX4_first 16 = .ok (.iconst 1, 1) := by decide +kernel
theorem dX4_first_17 : decode cX4_first 17 = .ok (.if_icmp .le 6, 3) := by decide +kernel
theorem dX4_first_20 : decode cX4_first 20 = .ok (.bipush (-7), 2) := by decide +kernel
theorem dX4_first_22 : decode cX4_first 22 = .ok (.ireturn, 1) := by decide +kernel
theorem dX4_first_23 : decode cX4_first 23 = .ok (.iconst (-1), 1) := by decide +kernel
theorem dX4_first_24 : decode cX4_first 24 = .ok (.istore_n 3, 1) := by decide +kernel
theorem dX4_first_25 : decode cX4_first 25 = .ok (.iconst (-1), 1) := by decide +kernel
theorem dX4_first_26 : decode cX4_first 26 = .ok (.istore 4, 2) := by decide +kernel
theorem dX4_first_28 : decode cX4_first 28 = .ok (.iconst 0, 1) := by decide +kernel
theorem dX4_first_29 : decode cX4_first 29 = .ok (.istore 5, 2) := by decide +kernel
theorem dX4_first_31 : decode cX4_first 31 = .ok (.iload 5, 2) := by decide +kernel
theorem dX4_first_33 : decode cX4_first 33 = .ok (.aload_n 0, 1) := by decide +kernel
theorem dX4_first_34 : decode cX4_first 34 = .ok (.getfield 28, 3) := by decide +kernel
theorem dX4_first_37 : decode cX4_first 37 = .ok (.getfield 56, 3) := by decide +kernel
theorem dX4_first_40 : decode cX4_first 40 = .ok (.if_icmp .ge 67, 3) := by decide +kernel
theorem dX4_first_43 : decode cX4_first 43 = .ok (.aload_n 0, 1) := by decide +kernel
theorem dX4_first_44 : decode cX4_first 44 = .ok (.getfield 32, 3) := by decide +kernel
theorem dX4_first_47 : decode cX4_first 47 = .ok (.aload_n 0, 1) := by decide +kernel
theorem dX4_first_48 : decode cX4_first 48 = .ok (.getfield 28, 3) := by decide +kernel
theorem dX4_first_51 : decode cX4_first 51 = .ok (.invokevirtual 157, 3) := by decide +kernel
theorem dX4_first_54 : decode cX4_first 54 = .ok (.aload_n 0, 1) := by decide +kernel
theorem dX4_first_55 : decode cX4_first 55 = .ok (.getfield 32, 3) := by decide +kernel
theorem dX4_first_58 : decode cX4_first 58 = .ok (.iload 5, 2) := by decide +kernel
theorem dX4_first_60 : decode cX4_first 60 = .ok (.putfield 73, 3) := by decide +kernel
theorem dX4_first_63 : decode cX4_first 63 = .ok (.aload_n 0, 1) := by decide +kernel
theorem dX4_first_64 : decode cX4_first 64 = .ok (.getfield 32, 3) := by decide +kernel
theorem dX4_first_67 : decode cX4_first 67 = .ok (.bipush 120, 2) := by decide +kernel
theorem dX4_first_69 : decode cX4_first 69 = .ok (.invokevirtual 161, 3) := by decide +kernel
theorem dX4_first_72 : decode cX4_first 72 = .ok (.pop, 1) := by decide +kernel
theorem dX4_first_73 : decode cX4_first 73 = .ok (.aload_n 0, 1) := by decide +kernel
theorem dX4_first_74 : decode cX4_first 74 = .ok (.getfield 32, 3) := by decide +kernel
theorem dX4_first_77 : decode cX4_first 77 = .ok (.getfield 126, 3) := by decide +kernel
theorem dX4_first_80 : decode cX4_first 80 = .ok (.iload_n 1, 1) := by decide +kernel
theorem dX4_first_81 : decode cX4_first 81 = .ok (.iaload, 1) := by decide +kernel
theorem dX4_first_82 : decode cX4_first 82 = .ok (.iload 4, 2) := by decide +kernel
theorem dX4_first_84 : decode cX4_first 84 = .ok (.if_icmp .le 17, 3) := by decide +kernel
theorem dX4_first_87 : decode cX4_first 87 = .ok (.iload 5, 2) := by decide +kernel
theorem dX4_first_89 : decode cX4_first 89 = .ok (.istore_n 3, 1) := by decide +kernel
theorem dX4_first_90 : decode cX4_first 90 = .ok (.aload_n 0, 1) := by decide +kernel
theorem dX4_first_91 : decode cX4_first 91 = .ok (.getfield 32, 3) := by decide +kernel
theorem dX4_first_94 : decode cX4_first 94 = .ok (.getfield 126, 3) := by decide +kernel
theorem dX4_first_97 : decode cX4_first 97 = .ok (.iload_n 1, 1) := by decide +kernel
theorem dX4_first_98 : decode cX4_first 98 = .ok (.iaload, 1) := by decide +kernel
theorem dX4_first_99 : decode cX4_first 99 = .ok (.istore 4, 2) := by decide +kernel
theorem dX4_first_101 : decode cX4_first 101 = .ok (.iinc 5 1, 3) := by decide +kernel
theorem dX4_first_104 : decode cX4_first 104 = .ok (.goto (-73), 3) := by decide +kernel
theorem dX4_first_107 : decode cX4_first 107 = .ok (.iload_n 2, 1) := by decide +kernel
theorem dX4_first_108 : decode cX4_first 108 = .ok (.ifCond .ne 7, 3) := by decide +kernel
theorem dX4_first_111 : decode cX4_first 111 = .ok (.iload_n 3, 1) := by decide +kernel
theorem dX4_first_112 : decode cX4_first 112 = .ok (.goto 5, 3) := by decide +kernel
theorem dX4_first_115 : decode cX4_first 115 = .ok (.iload 4, 2) := by decide +kernel
theorem dX4_first_117 : decode cX4_first 117 = .ok (.ireturn, 1) := by decide +kernel
theorem dX4_vicar_0 : decode cX4_vicar 0 = .ok (.aload_n 0, 1) := by decide +kernel
theorem dX4_vicar_1 : decode cX4_vicar 1 = .ok (.iload_n 1, 1) := by decide +kernel
theorem dX4_vicar_2 : decode cX4_vicar 2 = .ok (.invokevirtual 112, 3) := by decide +kernel
theorem dX4_vicar_5 : decode cX4_vicar 5 = .ok (.ifCond .ne 6, 3) := by decide +kernel
theorem dX4_vicar_8 : decode cX4_vicar 8 = .ok (.bipush (-5), 2) := by decide +kernel
theorem dX4_vicar_10 : decode cX4_vicar 10 = .ok (.ireturn, 1) := by decide +kernel
theorem dX4_vicar_11 : decode cX4_vicar 11 = .ok (.iload_n 2, 1) := by decide +kernel
theorem dX4_vicar_12 : decode cX4_vicar 12 = .ok (.ifCond .lt 8, 3) := by decide +kernel
theorem dX4_vicar_15 : decode cX4_vicar 15 = .ok (.iload_n 2, 1) := by decide +kernel
theorem dX4_vicar_16 : decode cX4_vicar 16 = .ok (.iconst 1, 1) := by decide +kernel
theorem dX4_vicar_17 : decode cX4_vicar 17 = .ok (.if_icmp .le 6, 3) := by decide +kernel
theorem dX4_vicar_20 : decode cX4_vicar 20 = .ok (.bipush (-7), 2) := by decide +kernel
theorem dX4_vicar_22 : decode cX4_vicar 22 = .ok (.ireturn, 1) := by decide +kernel
theorem dX4_vicar_23 : decode cX4_vicar 23 = .ok (.iconst 0, 1) := by decide +kernel
theorem dX4_vicar_24 : decode cX4_vicar 24 = .ok (.istore_n 3, 1) := by decide +kernel
theorem dX4_vicar_25 : decode cX4_vicar 25 = .ok (.iload_n 3, 1) := by decide +kernel
theorem dX4_vicar_26 : decode cX4_vicar 26 = .ok (.bipush 6, 2) := by decide +kernel
theorem dX4_vicar_28 : decode cX4_vicar 28 = .ok (.if_icmp .ge 82, 3) := by decide +kernel
theorem dX4_vicar_31 : decode cX4_vicar 31 = .ok (.aload_n 0, 1) := by decide +kernel
theorem dX4_vicar_32 : decode cX4_vicar 32 = .ok (.getfield 28, 3) := by decide +kernel
theorem dX4_vicar_35 : decode cX4_vicar 35 = .ok (.getfield 83, 3) := by decide +kernel
theorem dX4_vicar_38 : decode cX4_vicar 38 = .ok (.iload_n 3, 1) := by decide +kernel
theorem dX4_vicar_39 : decode cX4_vicar 39 = .ok (.iaload, 1) := by decide +kernel
theorem dX4_vicar_40 : decode cX4_vicar 40 = .ok (.bipush 20, 2) := by decide +kernel
theorem dX4_vicar_42 : decode cX4_vicar 42 = .ok (.if_icmp .ge 62, 3) := by decide +kernel
theorem dX4_vicar_45 : decode cX4_vicar 45 = .ok (.aload_n 0, 1) := by decide +kernel
theorem dX4_vicar_46 : decode cX4_vicar 46 = .ok (.getfield 32, 3) := by decide +kernel
theorem dX4_vicar_49 : decode cX4_vicar 49 = .ok (.aload_n 0, 1) := by decide +kernel
theorem dX4_vicar_50 : decode cX4_vicar 50 = .ok (.getfield 28, 3) := by decide +kernel
theorem dX4_vicar_53 : decode cX4_vicar 53 = .ok (.invokevirtual 157, 3) := by decide +kernel
theorem dX4_vicar_56 : decode cX4_vicar 56 = .ok (.aload_n 0, 1) := by decide +kernel
theorem dX4_vicar_57 : decode cX4_vicar 57 = .ok (.getfield 32, 3) := by decide +kernel
theorem dX4_vicar_60 : decode cX4_vicar 60 = .ok (.iload_n 3, 1) := by decide +kernel
theorem dX4_vicar_61 : decode cX4_vicar 61 = .ok (.aload_n 0, 1) := by decide +kernel
theorem dX4_vicar_62 : decode cX4_vicar 62 = .ok (.getfield 28, 3) := by decide +kernel
theorem dX4_vicar_65 : decode cX4_vicar 65 = .ok (.getfield 83, 3) := by decide +kernel
theorem dX4_vicar_68 : decode cX4_vicar 68 = .ok (.iload_n 3, 1) := by decide +kernel
theorem dX4_vicar_69 : decode cX4_vicar 69 = .ok (.iaload, 1) := by decide +kernel
theorem dX4_vicar_70 : decode cX4_vicar 70 = .ok (.iconst 1, 1) := by decide +kernel
theorem dX4_vicar_71 : decode cX4_vicar 71 = .ok (.iadd, 1) := by decide +kernel
theorem dX4_vicar_72 : decode cX4_vicar 72 = .ok (.invokevirtual 86, 3) := by decide +kernel
theorem dX4_vicar_75 : decode cX4_vicar 75 = .ok (.aload_n 0, 1) := by decide +kernel
theorem dX4_vicar_76 : decode cX4_vicar 76 = .ok (.getfield 32, 3) := by decide +kernel
theorem dX4_vicar_79 : decode cX4_vicar 79 = .ok (.bipush 120, 2) := by decide +kernel
theorem dX4_vicar_81 : decode cX4_vicar 81 = .ok (.invokevirtual 161, 3) := by decide +kernel
theorem dX4_vicar_84 : decode cX4_vicar 84 = .ok (.iload_n 1, 1) := by decide +kernel
theorem dX4_vicar_85 : decode cX4_vicar 85 = .ok (.if_icmp .ne 19, 3) := by decide +kernel
theorem dX4_vicar_88 : decode cX4_vicar 88 = .ok (.iload_n 2, 1) := by decide +kernel
theorem dX4_vicar_89 : decode cX4_vicar 89 = .ok (.ifCond .ne 7, 3) := by decide +kernel
theorem dX4_vicar_92 : decode cX4_vicar 92 = .ok (.iload_n 3, 1) := by decide +kernel
theorem dX4_vicar_93 : decode cX4_vicar 93 = .ok (.goto 10, 3) := by decide +kernel
theorem dX4_vicar_96 : decode cX4_vicar 96 = .ok (.aload_n 0, 1) := by decide +kernel
theorem dX4_vicar_97 : decode cX4_vicar 97 = .ok (.getfield 32, 3) := by decide +kernel
theorem dX4_vicar_100 : decode cX4_vicar 100 = .ok (.getfield 73, 3) := by decide +kernel
theorem dX4_vicar_103 : decode cX4_vicar 103 = .ok (.ireturn, 1) := by decide +kernel
theorem dX4_vicar_104 : decode cX4_vicar 104 = .ok (.iinc 3 1, 3) := by decide +kernel
theorem dX4_vicar_107 : decode cX4_vicar 107 = .ok (.goto (-82), 3) := by decide +kernel
theorem dX4_vicar_110 : decode cX4_vicar 110 = .ok (.iconst (-1), 1) := by decide +kernel
theorem dX4_vicar_111 : decode cX4_vicar 111 = .ok (.ireturn, 1) := by decide +kernel
theorem dX4_seating_0 : decode cX4_seating 0 = .ok (.iload_n 1, 1) := by decide +kernel
theorem dX4_seating_1 : decode cX4_seating 1 = .ok (.ifCond .lt 8, 3) := by decide +kernel
theorem dX4_seating_4 : decode cX4_seating 4 = .ok (.iload_n 1, 1) := by decide +kernel
theorem dX4_seating_5 : decode cX4_seating 5 = .ok (.iconst 1, 1) := by decide +kernel
theorem dX4_seating_6 : decode cX4_seating 6 = .ok (.if_icmp .le 6, 3) := by decide +kernel
theorem dX4_seating_9 : decode cX4_seating 9 = .ok (.bipush (-2), 2) := by decide +kernel
theorem dX4_seating_11 : decode cX4_seating 11 = .ok (.ireturn, 1) := by decide +kernel
theorem dX4_seating_12 : decode cX4_seating 12 = .ok (.aload_n 0, 1) := by decide +kernel
theorem dX4_seating_13 : decode cX4_seating 13 = .ok (.getfield 28, 3) := by decide +kernel
theorem dX4_seating_16 : decode cX4_seating 16 = .ok (.getfield 56, 3) := by decide +kernel
theorem dX4_seating_19 : decode cX4_seating 19 = .ok (.ifCond .ne 5, 3) := by decide +kernel
theorem dX4_seating_22 : decode cX4_seating 22 = .ok (.iconst 0, 1) := by decide +kernel
theorem dX4_seating_23 : decode cX4_seating 23 = .ok (.ireturn, 1) := by decide +kernel
theorem dX4_seating_24 : decode cX4_seating 24 = .ok (.iconst 0, 1) := by decide +kernel
theorem dX4_seating_25 : decode cX4_seating 25 = .ok (.istore_n 2, 1) := by decide +kernel
theorem dX4_seating_26 : decode cX4_seating 26 = .ok (.iload_n 2, 1) := by decide +kernel
theorem dX4_seating_27 : decode cX4_seating 27 = .ok (.bipush 6, 2) := by decide +kernel
theorem dX4_seating_29 : decode cX4_seating 29 = .ok (.if_icmp .ge 16, 3) := by decide +kernel
theorem dX4_seating_32 : decode cX4_seating 32 = .ok (.aload_n 0, 1) := by decide +kernel
theorem dX4_seating_33 : decode cX4_seating 33 = .ok (.getfield 53, 3) := by decide +kernel
theorem dX4_seating_36 : decode cX4_seating 36 = .ok (.iload_n 2, 1) := by decide +kernel
theorem dX4_seating_37 : decode cX4_seating 37 = .ok (.iload_n 2, 1) := by decide +kernel
theorem dX4_seating_38 : decode cX4_seating 38 = .ok (.iastore, 1) := by decide +kernel
theorem dX4_seating_39 : decode cX4_seating 39 = .ok (.iinc 2 1, 3) := by decide +kernel
theorem dX4_seating_42 : decode cX4_seating 42 = .ok (.goto (-16), 3) := by decide +kernel
theorem dX4_seating_45 : decode cX4_seating 45 = .ok (.sipush 10000, 3) := by decide +kernel
theorem dX4_seating_48 : decode cX4_seating 48 = .ok (.istore_n 2, 1) := by decide +kernel
theorem dX4_seating_49 : decode cX4_seating 49 = .ok (.iconst 0, 1) := by decide +kernel
theorem dX4_seating_50 : decode cX4_seating 50 = .ok (.istore_n 3, 1) := by decide +kernel
theorem dX4_seating_51 : decode cX4_seating 51 = .ok (.iconst 1, 1) := by decide +kernel
theorem dX4_seating_52 : decode cX4_seating 52 = .ok (.istore 4, 2) := by decide +kernel
theorem dX4_seating_54 : decode cX4_seating 54 = .ok (.iconst 0, 1) := by decide +kernel
theorem dX4_seating_55 : decode cX4_seating 55 = .ok (.istore 5, 2) := by decide +kernel
theorem dX4_seating_57 : decode cX4_seating 57 = .ok (.iload 5, 2) := by decide +kernel
theorem dX4_seating_59 : decode cX4_seating 59 = .ok (.sipush 720, 3) := by decide +kernel
theorem dX4_seating_62 : decode cX4_seating 62 = .ok (.if_icmp .ge 44, 3) := by decide +kernel
theorem dX4_seating_65 : decode cX4_seating 65 = .ok (.iload 4, 2) := by decide +kernel
theorem dX4_seating_67 : decode cX4_seating 67 = .ok (.ifCond .eq 39, 3) := by decide +kernel
theorem dX4_seating_70 : decode cX4_seating 70 = .ok (.iload_n 2, 1) := by decide +kernel
theorem dX4_seating_71 : decode cX4_seating 71 = .ok (.ifCond .le 35, 3) := by decide +kernel
theorem dX4_seating_74 : decode cX4_seating 74 = .ok (.aload_n 0, 1) := by decide +kernel
theorem dX4_seating_75 : decode cX4_seating 75 = .ok (.invokevirtual 168, 3) := by decide +kernel
theorem dX4_seating_78 : decode cX4_seating 78 = .ok (.istore 6, 2) := by decide +kernel
theorem dX4_seating_80 : decode cX4_seating 80 = .ok (.iload 6, 2) := by decide +kernel
theorem dX4_seating_82 : decode cX4_seating 82 = .ok (.iload_n 2, 1) := by decide +kernel
theorem dX4_seating_83 : decode cX4_seating 83 = .ok (.if_icmp .ge 11, 3) := by decide +kernel
theorem dX4_seating_86 : decode cX4_seating 86 = .ok (.iload 6, 2) := by decide +kernel
theorem dX4_seating_88 : decode cX4_seating 88 = .ok (.istore_n 2, 1) := by decide +kernel
theorem dX4_seating_89 : decode cX4_seating 89 = .ok (.aload_n 0, 1) := by decide +kernel
theorem dX4_seating_90 : decode cX4_seating 90 = .ok (.invokevirtual 171, 3) := by decide +kernel
theorem dX4_seating_93 : decode cX4_seating 93 = .ok (.istore_n 3, 1) := by decide +kernel
theorem dX4_seating_94 : decode cX4_seating 94 = .ok (.aload_n 0, 1) := by decide +kernel
theorem dX4_seating_95 : decode cX4_seating 95 = .ok (.invokevirtual 174, 3) := by decide +kernel
theorem dX4_seating_98 : decode cX4_seating 98 = .ok (.istore 4, 2) := by decide +kernel
theorem dX4_seating_100 : decode cX4_seating 100 = .ok (.iinc 5 1, 3) := by decide +kernel
theorem dX4_seating_103 : decode cX4_seating 103 = .ok (.goto (-46), 3) := by decide +kernel
theorem dX4_seating_106 : decode cX4_seating 106 = .ok (.iload_n 1, 1) := by decide +kernel
theorem dX4_seating_107 : decode cX4_seating 107 = .ok (.ifCond .ne 7, 3) := by decide +kernel
theorem dX4_seating_110 : decode cX4_seating 110 = .ok (.iload_n 3, 1) := by decide +kernel
theorem dX4_seating_111 : decode cX4_seating 111 = .ok (.goto 4, 3) := by decide +kernel
theorem dX4_seating_114 : decode cX4_seating 114 = .ok (.iload_n 2, 1) := by decide +kernel
theorem dX4_seating_115 : decode cX4_seating 115 = .ok (.ireturn, 1) := by decide +kernel
theorem dX4_differByOrder_0 : decode cX4_differByOrder 0 = .ok (.aload_n 0, 1) := by decide +kernel
theorem dX4_differByOrder_1 : decode cX4_differByOrder 1 = .ok (.getfield 32, 3) := by decide +kernel
theorem dX4_differByOrder_4 : decode cX4_differByOrder 4 = .ok (.aload_n 0, 1) := by decide +kernel
theorem dX4_differByOrder_5 : decode cX4_differByOrder 5 = .ok (.getfield 28, 3) := by decide +kernel
theorem dX4_differByOrder_8 : decode cX4_differByOrder 8 = .ok (.invokevirtual 157, 3) := by decide +kernel
theorem dX4_differByOrder_11 : decode cX4_differByOrder 11 = .ok (.aload_n 0, 1) := by decide +kernel
theorem dX4_differByOrder_12 : decode cX4_differByOrder 12 = .ok (.getfield 32, 3) := by decide +kernel
theorem dX4_differByOrder_15 : decode cX4_differByOrder 15 = .ok (.getfield 56, 3) := by decide +kernel
theorem dX4_differByOrder_18 : decode cX4_differByOrder 18 = .ok (.istore_n 1, 1) := by decide +kernel
theorem dX4_differByOrder_19 : decode cX4_differByOrder 19 = .ok (.iconst 0, 1) := by decide +kernel
theorem dX4_differByOrder_20 : decode cX4_differByOrder 20 = .ok (.istore_n 2, 1) := by decide +kernel
theorem dX4_differByOrder_21 : decode cX4_differByOrder 21 = .ok (.iconst 0, 1) := by decide +kernel
theorem dX4_differByOrder_22 : decode cX4_differByOrder 22 = .ok (.istore_n 3, 1) := by decide +kernel
theorem dX4_differByOrder_23 : decode cX4_differByOrder 23 = .ok (.iload_n 3, 1) := by decide +kernel
theorem dX4_differByOrder_24 : decode cX4_differByOrder 24 = .ok (.bipush 120, 2) := by decide +kernel
theorem dX4_differByOrder_26 : decode cX4_differByOrder 26 = .ok (.if_icmp .ge 48, 3) := by decide +kernel
theorem dX4_differByOrder_29 : decode cX4_differByOrder 29 = .ok (.aload_n 0, 1) := by decide +kernel
theorem dX4_differByOrder_30 : decode cX4_differByOrder 30 = .ok (.getfield 32, 3) := by decide +kernel
theorem dX4_differByOrder_33 : decode cX4_differByOrder 33 = .ok (.getfield 60, 3) := by decide +kernel
theorem dX4_differByOrder_36 : decode cX4_differByOrder 36 = .ok (.ifCond .le 38, 3) := by decide +kernel
theorem dX4_differByOrder_39 : decode cX4_differByOrder 39 = .ok (.aload_n 0, 1) := by decide +kernel
theorem dX4_differByOrder_40 : decode cX4_differByOrder 40 = .ok (.getfield 32, 3) := by decide +kernel
theorem dX4_differByOrder_43 : decode cX4_differByOrder 43 = .ok (.aload_n 0, 1) := by decide +kernel
theorem dX4_differByOrder_44 : decode cX4_differByOrder 44 = .ok (.getfield 53, 3) := by decide +kernel
theorem dX4_differByOrder_47 : decode cX4_differByOrder 47 = .ok (.iload_n 2, 1) := by decide +kernel
theorem dX4_differByOrder_48 : decode cX4_differByOrder 48 = .ok (.iaload, 1) := by decide +kernel
theorem dX4_differByOrder_49 : decode cX4_differByOrder 49 = .ok (.invokevirtual 178, 3) := by decide +kernel
theorem dX4_differByOrder_52 : decode cX4_differByOrder 52 = .ok (.pop, 1) := by decide +kernel
theorem dX4_differByOrder_53 : decode cX4_differByOrder 53 = .ok (.iload_n 2, 1) := by decide +kernel
theorem dX4_differByOrder_54 : decode cX4_differByOrder 54 = .ok (.iconst 1, 1) := by decide +kernel
theorem dX4_differByOrder_55 : decode cX4_differByOrder 55 = .ok (.iadd, 1) := by decide +kernel
theorem dX4_differByOrder_56 : decode cX4_differByOrder 56 = .ok (.iload_n 1, 1) := by decide +kernel
theorem dX4_differByOrder_57 : decode cX4_differByOrder 57 = .ok (.if_icmp .ge 9, 3) := by decide +kernel
theorem dX4_differByOrder_60 : decode cX4_differByOrder 60 = .ok (.iload_n 2, 1) := by decide +kernel
theorem dX4_differByOrder_61 : decode cX4_differByOrder 61 = .ok (.iconst 1, 1) := by decide +kernel
theorem dX4_differByOrder_62 : decode cX4_differByOrder 62 = .ok (.iadd, 1) := by decide +kernel
theorem dX4_differByOrder_63 : decode cX4_differByOrder 63 = .ok (.goto 4, 3) := by decide +kernel
theorem dX4_differByOrder_66 : decode cX4_differByOrder 66 = .ok (.iconst 0, 1) := by decide +kernel
theorem dX4_differByOrder_67 : decode cX4_differByOrder 67 = .ok (.istore_n 2, 1) := by decide +kernel
theorem dX4_differByOrder_68 : decode cX4_differByOrder 68 = .ok (.iinc 3 1, 3) := by decide +kernel
theorem dX4_differByOrder_71 : decode cX4_differByOrder 71 = .ok (.goto (-48), 3) := by decide +kernel
theorem dX4_differByOrder_74 : decode cX4_differByOrder 74 = .ok (.aload_n 0, 1) := by decide +kernel
theorem dX4_differByOrder_75 : decode cX4_differByOrder 75 = .ok (.getfield 32, 3) := by decide +kernel
theorem dX4_differByOrder_78 : decode cX4_differByOrder 78 = .ok (.getfield 126, 3) := by decide +kernel
theorem dX4_differByOrder_81 : decode cX4_differByOrder 81 = .ok (.iconst 0, 1) := by decide +kernel
theorem dX4_differByOrder_82 : decode cX4_differByOrder 82 = .ok (.iaload, 1) := by decide +kernel
theorem dX4_differByOrder_83 : decode cX4_differByOrder 83 = .ok (.istore_n 3, 1) := by decide +kernel
theorem dX4_differByOrder_84 : decode cX4_differByOrder 84 = .ok (.iload_n 3, 1) := by decide +kernel
theorem dX4_differByOrder_85 : decode cX4_differByOrder 85 = .ok (.istore 4, 2) := by decide +kernel
theorem dX4_differByOrder_87 : decode cX4_differByOrder 87 = .ok (.iconst 1, 1) := by decide +kernel
theorem dX4_differByOrder_88 : decode cX4_differByOrder 88 = .ok (.istore 5, 2) := by decide +kernel
theorem dX4_differByOrder_90 : decode cX4_differByOrder 90 = .ok (.iload 5, 2) := by decide +kernel
theorem dX4_differByOrder_92 : decode cX4_differByOrder 92 = .ok (.iload_n 1, 1) := by decide +kernel
theorem dX4_differByOrder_93 : decode cX4_differByOrder 93 = .ok (.if_icmp .ge 41, 3) := by decide +kernel
theorem dX4_differByOrder_96 : decode cX4_differByOrder 96 = .ok (.iload_n 3, 1) := by decide +kernel
theorem dX4_differByOrder_97 : decode cX4_differByOrder 97 = .ok (.aload_n 0, 1) := by decide +kernel
theorem dX4_differByOrder_98 : decode cX4_differByOrder 98 = .ok (.getfield 32, 3) := by decide +kernel
theorem dX4_differByOrder_101 : decode cX4_differByOrder 101 = .ok (.getfield 126, 3) := by decide +kernel
theorem dX4_differByOrder_104 : decode cX4_differByOrder 104 = .ok (.iload 5, 2) := by decide +kernel
theorem dX4_differByOrder_106 : decode cX4_differByOrder 106 = .ok (.iaload, 1) := by decide +kernel
theorem dX4_differByOrder_107 : decode cX4_differByOrder 107 = .ok (.invokestatic 181, 3) := by decide +kernel
theorem dX4_differByOrder_110 : decode cX4_differByOrder 110 = .ok (.istore_n 3, 1) := by decide +kernel
theorem dX4_differByOrder_111 : decode cX4_differByOrder 111 = .ok (.iload 4, 2) := by decide +kernel
theorem dX4_differByOrder_113 : decode cX4_differByOrder 113 = .ok (.aload_n 0, 1) := by decide +kernel
theorem dX4_differByOrder_114 : decode cX4_differByOrder 114 = .ok (.getfield 32, 3) := by decide +kernel
theorem dX4_differByOrder_117 : decode cX4_differByOrder 117 = .ok (.getfield 126, 3) := by decide +kernel
theorem dX4_differByOrder_120 : decode cX4_differByOrder 120 = .ok (.iload 5, 2) := by decide +kernel
theorem dX4_differByOrder_122 : decode cX4_differByOrder 122 = .ok (.iaload, 1) := by decide +kernel
theorem dX4_differByOrder_123 : decode cX4_differByOrder 123 = .ok (.invokestatic 186, 3) := by decide +kernel
theorem dX4_differByOrder_126 : decode cX4_differByOrder 126 = .ok (.istore 4, 2) := by decide +kernel
theorem dX4_differByOrder_128 : decode cX4_differByOrder 128 = .ok (.iinc 5 1, 3) := by decide +kernel
theorem dX4_differByOrder_131 : decode cX4_differByOrder 131 = .ok (.goto (-41), 3) := by decide +kernel
theorem dX4_differByOrder_134 : decode cX4_differByOrder 134 = .ok (.iload_n 3, 1) := by decide +kernel
theorem dX4_differByOrder_135 : decode cX4_differByOrder 135 = .ok (.iload 4, 2) := by decide +kernel
theorem dX4_differByOrder_137 : decode cX4_differByOrder 137 = .ok (.isub, 1) := by decide +kernel
theorem dX4_differByOrder_138 : decode cX4_differByOrder 138 = .ok (.ireturn, 1) := by decide +kernel
theorem dX4_digitsOfOrder_0 : decode cX4_digitsOfOrder 0 = .ok (.iconst 0, 1) := by decide +kernel
theorem dX4_digitsOfOrder_1 : decode cX4_digitsOfOrder 1 = .ok (.istore_n 1, 1) := by decide +kernel
theorem dX4_digitsOfOrder_2 : decode cX4_digitsOfOrder 2 = .ok (.iconst 0, 1) := by decide +kernel
theorem dX4_digitsOfOrder_3 : decode cX4_digitsOfOrder 3 = .ok (.istore_n 2, 1) := by decide +kernel
theorem dX4_digitsOfOrder_4 : decode cX4_digitsOfOrder 4 = .ok (.iload_n 2, 1) := by decide +kernel
theorem dX4_digitsOfOrder_5 : decode cX4_digitsOfOrder 5 = .ok (.aload_n 0, 1) := by decide +kernel
theorem dX4_digitsOfOrder_6 : decode cX4_digitsOfOrder 6 = .ok (.getfield 28, 3) := by decide +kernel
theorem dX4_digitsOfOrder_9 : decode cX4_digitsOfOrder 9 = .ok (.getfield 56, 3) := by decide +kernel
theorem dX4_digitsOfOrder_12 : decode cX4_digitsOfOrder 12 = .ok (.if_icmp .ge 23, 3) := by decide +kernel
theorem dX4_digitsOfOrder_15 : decode cX4_digitsOfOrder 15 = .ok (.iload_n 1, 1) := by decide +kernel
theorem dX4_digitsOfOrder_16 : decode cX4_digitsOfOrder 16 = .ok (.bipush 10, 2) := by decide +kernel
theorem dX4_digitsOfOrder_18 : decode cX4_digitsOfOrder 18 = .ok (.imul, 1) := by decide +kernel
theorem dX4_digitsOfOrder_19 : decode cX4_digitsOfOrder 19 = .ok (.aload_n 0, 1) := by decide +kernel
theorem dX4_digitsOfOrder_20 : decode cX4_digitsOfOrder 20 = .ok (.getfield 53, 3) := by decide +kernel
theorem dX4_digitsOfOrder_23 : decode cX4_digitsOfOrder 23 = .ok (.iload_n 2, 1) := by decide +kernel
theorem dX4_digitsOfOrder_24 : decode cX4_digitsOfOrder 24 = .ok (.iaload, 1) := by decide +kernel
theorem dX4_digitsOfOrder_25 : decode cX4_digitsOfOrder 25 = .ok (.iadd, 1) := by decide +kernel
theorem dX4_digitsOfOrder_26 : decode cX4_digitsOfOrder 26 = .ok (.iconst 1, 1) := by decide +kernel
theorem dX4_digitsOfOrder_27 : decode cX4_digitsOfOrder 27 = .ok (.iadd, 1) := by decide +kernel
theorem dX4_digitsOfOrder_28 : decode cX4_digitsOfOrder 28 = .ok (.istore_n 1, 1) := by decide +kernel
theorem dX4_digitsOfOrder_29 : decode cX4_digitsOfOrder 29 = .ok (.iinc 2 1, 3) := by decide +kernel
theorem dX4_digitsOfOrder_32 : decode cX4_digitsOfOrder 32 = .ok (.goto (-28), 3) := by decide +kernel
theorem dX4_digitsOfOrder_35 : decode cX4_digitsOfOrder 35 = .ok (.iload_n 1, 1) := by decide +kernel
theorem dX4_digitsOfOrder_36 : decode cX4_digitsOfOrder 36 = .ok (.ireturn, 1) := by decide +kernel
theorem dX4_nextOrder_0 : decode cX4_nextOrder 0 = .ok (.aload_n 0, 1) := by decide +kernel
theorem dX4_nextOrder_1 : decode cX4_nextOrder 1 = .ok (.getfield 28, 3) := by decide +kernel
theorem dX4_nextOrder_4 : decode cX4_nextOrder 4 = .ok (.getfield 56, 3) := by decide +kernel
theorem dX4_nextOrder_7 : decode cX4_nextOrder 7 = .ok (.istore_n 1, 1) := by decide +kernel
theorem dX4_nextOrder_8 : decode cX4_nextOrder 8 = .ok (.iload_n 1, 1) := by decide +kernel
theorem dX4_nextOrder_9 : decode cX4_nextOrder 9 = .ok (.iconst 2, 1) := by decide +kernel
theorem dX4_nextOrder_10 : decode cX4_nextOrder 10 = .ok (.isub, 1) := by decide +kernel
theorem dX4_nextOrder_11 : decode cX4_nextOrder 11 = .ok (.istore_n 2, 1) := by decide +kernel
theorem dX4_nextOrder_12 : decode cX4_nextOrder 12 = .ok (.iconst 0, 1) := by decide +kernel
theorem dX4_nextOrder_13 : decode cX4_nextOrder 13 = .ok (.istore_n 3, 1) := by decide +kernel
theorem dX4_nextOrder_14 : decode cX4_nextOrder 14 = .ok (.iload_n 3, 1) := by decide +kernel
theorem dX4_nextOrder_15 : decode cX4_nextOrder 15 = .ok (.bipush 6, 2) := by decide +kernel
theorem dX4_nextOrder_17 : decode cX4_nextOrder 17 = .ok (.if_icmp .ge 33, 3) := by decide +kernel
theorem dX4_nextOrder_20 : decode cX4_nextOrder 20 = .ok (.iload_n 2, 1) := by decide +kernel
theorem dX4_nextOrder_21 : decode cX4_nextOrder 21 = .ok (.ifCond .lt 29, 3) := by decide +kernel
theorem dX4_nextOrder_24 : decode cX4_nextOrder 24 = .ok (.aload_n 0, 1) := by decide +kernel
theorem dX4_nextOrder_25 : decode cX4_nextOrder 25 = .ok (.getfield 53, 3) := by decide +kernel
theorem dX4_nextOrder_28 : decode cX4_nextOrder 28 = .ok (.iload_n 2, 1) := by decide +kernel
theorem dX4_nextOrder_29 : decode cX4_nextOrder 29 = .ok (.iaload, 1) := by decide +kernel
theorem dX4_nextOrder_30 : decode cX4_nextOrder 30 = .ok (.aload_n 0, 1) := by decide +kernel
theorem dX4_nextOrder_31 : decode cX4_nextOrder 31 = .ok (.getfield 53, 3) := by decide +kernel
theorem dX4_nextOrder_34 : decode cX4_nextOrder 34 = .ok (.iload_n 2, 1) := by decide +kernel
theorem dX4_nextOrder_35 : decode cX4_nextOrder 35 = .ok (.iconst 1, 1) := by decide +kernel
theorem dX4_nextOrder_36 : decode cX4_nextOrder 36 = .ok (.iadd, 1) := by decide +kernel
theorem dX4_nextOrder_37 : decode cX4_nextOrder 37 = .ok (.iaload, 1) := by decide +kernel
theorem dX4_nextOrder_38 : decode cX4_nextOrder 38 = .ok (.if_icmp .le 12, 3) := by decide +kernel
theorem dX4_nextOrder_41 : decode cX4_nextOrder 41 = .ok (.iinc 2 (-1), 3) := by decide +kernel
theorem dX4_nextOrder_44 : decode cX4_nextOrder 44 = .ok (.iinc 3 1, 3) := by decide +kernel
theorem dX4_nextOrder_47 : decode cX4_nextOrder 47 = .ok (.goto (-33), 3) := by decide +kernel
theorem dX4_nextOrder_50 : decode cX4_nextOrder 50 = .ok (.iload_n 2, 1) := by decide +kernel
theorem dX4_nextOrder_51 : decode cX4_nextOrder 51 = .ok (.ifCond .ge 5, 3) := by decide +kernel
theorem dX4_nextOrder_54 : decode cX4_nextOrder 54 = .ok (.iconst 0, 1) := by decide +kernel
theorem dX4_nextOrder_55 : decode cX4_nextOrder 55 = .ok (.ireturn, 1) := by decide +kernel
theorem dX4_nextOrder_56 : decode cX4_nextOrder 56 = .ok (.iload_n 1, 1) := by decide +kernel
theorem dX4_nextOrder_57 : decode cX4_nextOrder 57 = .ok (.iconst 1, 1) := by decide +kernel
theorem dX4_nextOrder_58 : decode cX4_nextOrder 58 = .ok (.isub, 1) := by decide +kernel
theorem dX4_nextOrder_59 : decode cX4_nextOrder 59 = .ok (.istore_n 3, 1) := by decide +kernel
theorem dX4_nextOrder_60 : decode cX4_nextOrder 60 = .ok (.iconst 0, 1) := by decide +kernel
theorem dX4_nextOrder_61 : decode cX4_nextOrder 61 = .ok (.istore 4, 2) := by decide +kernel
theorem dX4_nextOrder_63 : decode cX4_nextOrder 63 = .ok (.iload 4, 2) := by decide +kernel
theorem dX4_nextOrder_65 : decode cX4_nextOrder 65 = .ok (.bipush 6, 2) := by decide +kernel
theorem dX4_nextOrder_67 : decode cX4_nextOrder 67 = .ok (.if_icmp .ge 34, 3) := by decide +kernel
theorem dX4_nextOrder_70 : decode cX4_nextOrder 70 = .ok (.iload_n 3, 1) := by decide +kernel
theorem dX4_nextOrder_71 : decode cX4_nextOrder 71 = .ok (.iload_n 2, 1) := by decide +kernel
theorem dX4_nextOrder_72 : decode cX4_nextOrder 72 = .ok (.iconst 1, 1) := by decide +kernel
theorem dX4_nextOrder_73 : decode cX4_nextOrder 73 = .ok (.iadd, 1) := by decide +kernel
theorem dX4_nextOrder_74 : decode cX4_nextOrder 74 = .ok (.if_icmp .le 27, 3) := by decide +kernel
theorem dX4_nextOrder_77 : decode cX4_nextOrder 77 = .ok (.aload_n 0, 1) := by decide +kernel
theorem dX4_nextOrder_78 : decode cX4_nextOrder 78 = .ok (.getfield 53, 3) := by decide +kernel
theorem dX4_nextOrder_81 : decode cX4_nextOrder 81 = .ok (.iload_n 3, 1) := by decide +kernel
theorem dX4_nextOrder_82 : decode cX4_nextOrder 82 = .ok (.iaload, 1) := by decide +kernel
theorem dX4_nextOrder_83 : decode cX4_nextOrder 83 = .ok (.aload_n 0, 1) := by decide +kernel
theorem dX4_nextOrder_84 : decode cX4_nextOrder 84 = .ok (.getfield 53, 3) := by decide +kernel
theorem dX4_nextOrder_87 : decode cX4_nextOrder 87 = .ok (.iload_n 2, 1) := by decide +kernel
theorem dX4_nextOrder_88 : decode cX4_nextOrder 88 = .ok (.iaload, 1) := by decide +kernel
theorem dX4_nextOrder_89 : decode cX4_nextOrder 89 = .ok (.if_icmp .ge 12, 3) := by decide +kernel
theorem dX4_nextOrder_92 : decode cX4_nextOrder 92 = .ok (.iinc 3 (-1), 3) := by decide +kernel
theorem dX4_nextOrder_95 : decode cX4_nextOrder 95 = .ok (.iinc 4 1, 3) := by decide +kernel
theorem dX4_nextOrder_98 : decode cX4_nextOrder 98 = .ok (.goto (-35), 3) := by decide +kernel
theorem dX4_nextOrder_101 : decode cX4_nextOrder 101 = .ok (.aload_n 0, 1) := by decide +kernel
theorem dX4_nextOrder_102 : decode cX4_nextOrder 102 = .ok (.iload_n 2, 1) := by decide +kernel
theorem dX4_nextOrder_103 : decode cX4_nextOrder 103 = .ok (.iload_n 3, 1) := by decide +kernel
theorem dX4_nextOrder_104 : decode cX4_nextOrder 104 = .ok (.invokevirtual 189, 3) := by decide +kernel
theorem dX4_nextOrder_107 : decode cX4_nextOrder 107 = .ok (.iconst 1, 1) := by decide +kernel
theorem dX4_nextOrder_108 : decode cX4_nextOrder 108 = .ok (.istore 4, 2) := by decide +kernel
theorem dX4_nextOrder_110 : decode cX4_nextOrder 110 = .ok (.iload_n 2, 1) := by decide +kernel
theorem dX4_nextOrder_111 : decode cX4_nextOrder 111 = .ok (.iload 4, 2) := by decide +kernel
theorem dX4_nextOrder_113 : decode cX4_nextOrder 113 = .ok (.iadd, 1) := by decide +kernel
theorem dX4_nextOrder_114 : decode cX4_nextOrder 114 = .ok (.iload_n 1, 1) := by decide +kernel
theorem dX4_nextOrder_115 : decode cX4_nextOrder 115 = .ok (.iload 4, 2) := by decide +kernel
theorem dX4_nextOrder_117 : decode cX4_nextOrder 117 = .ok (.isub, 1) := by decide +kernel
theorem dX4_nextOrder_118 : decode cX4_nextOrder 118 = .ok (.if_icmp .ge 21, 3) := by decide +kernel
theorem dX4_nextOrder_121 : decode cX4_nextOrder 121 = .ok (.aload_n 0, 1) := by decide +kernel
theorem dX4_nextOrder_122 : decode cX4_nextOrder 122 = .ok (.iload_n 2, 1) := by decide +kernel
theorem dX4_nextOrder_123 : decode cX4_nextOrder 123 = .ok (.iload 4, 2) := by decide +kernel
theorem dX4_nextOrder_125 : decode cX4_nextOrder 125 = .ok (.iadd, 1) := by decide +kernel
theorem dX4_nextOrder_126 : decode cX4_nextOrder 126 = .ok (.iload_n 1, 1) := by decide +kernel
theorem dX4_nextOrder_127 : decode cX4_nextOrder 127 = .ok (.iload 4, 2) := by decide +kernel
theorem dX4_nextOrder_129 : decode cX4_nextOrder 129 = .ok (.isub, 1) := by decide +kernel
theorem dX4_nextOrder_130 : decode cX4_nextOrder 130 = .ok (.invokevirtual 189, 3) := by decide +kernel
theorem dX4_nextOrder_133 : decode cX4_nextOrder 133 = .ok (.iinc 4 1, 3) := by decide +kernel
theorem dX4_nextOrder_136 : decode cX4_nextOrder 136 = .ok (.goto (-26), 3) := by decide +kernel
theorem dX4_nextOrder_139 : decode cX4_nextOrder 139 = .ok (.iconst 1, 1) := by decide +kernel
theorem dX4_nextOrder_140 : decode cX4_nextOrder 140 = .ok (.ireturn, 1) := by decide +kernel
theorem dX4_swapInOrder_0 : decode cX4_swapInOrder 0 = .ok (.aload_n 0, 1) := by decide +kernel
theorem dX4_swapInOrder_1 : decode cX4_swapInOrder 1 = .ok (.getfield 53, 3) := by decide +kernel
theorem dX4_swapInOrder_4 : decode cX4_swapInOrder 4 = .ok (.iload_n 1, 1) := by decide +kernel
theorem dX4_swapInOrder_5 : decode cX4_swapInOrder 5 = .ok (.iaload, 1) := by decide +kernel
theorem dX4_swapInOrder_6 : decode cX4_swapInOrder 6 = .ok (.istore_n 3, 1) := by decide +kernel
theorem dX4_swapInOrder_7 : decode cX4_swapInOrder 7 = .ok (.aload_n 0, 1) := by decide +kernel
theorem dX4_swapInOrder_8 : decode cX4_swapInOrder 8 = .ok (.getfield 53, 3) := by decide +kernel
theorem dX4_swapInOrder_11 : decode cX4_swapInOrder 11 = .ok (.iload_n 1, 1) := by decide +kernel
theorem dX4_swapInOrder_12 : decode cX4_swapInOrder 12 = .ok (.aload_n 0, 1) := by decide +kernel
theorem dX4_swapInOrder_13 : decode cX4_swapInOrder 13 = .ok (.getfield 53, 3) := by decide +kernel
theorem dX4_swapInOrder_16 : decode cX4_swapInOrder 16 = .ok (.iload_n 2, 1) := by decide +kernel
theorem dX4_swapInOrder_17 : decode cX4_swapInOrder 17 = .ok (.iaload, 1) := by decide +kernel
theorem dX4_swapInOrder_18 : decode cX4_swapInOrder 18 = .ok (.iastore, 1) := by decide +kernel
theorem dX4_swapInOrder_19 : decode cX4_swapInOrder 19 = .ok (.aload_n 0, 1) := by decide +kernel
theorem dX4_swapInOrder_20 : decode cX4_swapInOrder 20 = .ok (.getfield 53, 3) := by decide +kernel
theorem dX4_swapInOrder_23 : decode cX4_swapInOrder 23 = .ok (.iload_n 2, 1) := by decide +kernel
theorem dX4_swapInOrder_24 : decode cX4_swapInOrder 24 = .ok (.iload_n 3, 1) := by decide +kernel
theorem dX4_swapInOrder_25 : decode cX4_swapInOrder 25 = .ok (.iastore, 1) := by decide +kernel
theorem dX4_swapInOrder_26 : decode cX4_swapInOrder 26 = .ok (.return_, 1) := by decide +kernel
theorem dX4_ways_0 : decode cX4_ways 0 = .ok (.iload_n 1, 1) := by decide +kernel
theorem dX4_ways_1 : decode cX4_ways 1 = .ok (.ifCond .lt 10, 3) := by decide +kernel
theorem dX4_ways_4 : decode cX4_ways 4 = .ok (.iload_n 1, 1) := by decide +kernel
theorem dX4_ways_5 : decode cX4_ways 5 = .ok (.sipush 999, 3) := by decide +kernel
theorem dX4_ways_8 : decode cX4_ways 8 = .ok (.if_icmp .le 6, 3) := by decide +kernel
theorem dX4_ways_11 : decode cX4_ways 11 = .ok (.bipush (-2), 2) := by decide +kernel
theorem dX4_ways_13 : decode cX4_ways 13 = .ok (.ireturn, 1) := by decide +kernel
theorem dX4_ways_14 : decode cX4_ways 14 = .ok (.iconst 0, 1) := by decide +kernel
theorem dX4_ways_15 : decode cX4_ways 15 = .ok (.istore_n 2, 1) := by decide +kernel
theorem dX4_ways_16 : decode cX4_ways 16 = .ok (.iload_n 2, 1) := by decide +kernel
theorem dX4_ways_17 : decode cX4_ways 17 = .ok (.iload_n 1, 1) := by decide +kernel
theorem dX4_ways_18 : decode cX4_ways 18 = .ok (.if_icmp .gt 16, 3) := by decide +kernel
theorem dX4_ways_21 : decode cX4_ways 21 = .ok (.aload_n 0, 1) := by decide +kernel
theorem dX4_ways_22 : decode cX4_ways 22 = .ok (.getfield 49, 3) := by decide +kernel
theorem dX4_ways_25 : decode cX4_ways 25 = .ok (.iload_n 2, 1) := by decide +kernel
theorem dX4_ways_26 : decode cX4_ways 26 = .ok (.iconst 0, 1) := by decide +kernel
theorem dX4_ways_27 : decode cX4_ways 27 = .ok (.iastore, 1) := by decide +kernel
theorem dX4_ways_28 : decode cX4_ways 28 = .ok (.iinc 2 1, 3) := by decide +kernel
theorem dX4_ways_31 : decode cX4_ways 31 = .ok (.goto (-15), 3) := by decide +kernel
theorem dX4_ways_34 : decode cX4_ways 34 = .ok (.aload_n 0, 1) := by decide +kernel
theorem dX4_ways_35 : decode cX4_ways 35 = .ok (.getfield 49, 3) := by decide +kernel
theorem dX4_ways_38 : decode cX4_ways 38 = .ok (.iconst 0, 1) := by decide +kernel
theorem dX4_ways_39 : decode cX4_ways 39 = .ok (.iconst 1, 1) := by decide +kernel
theorem dX4_ways_40 : decode cX4_ways 40 = .ok (.iastore, 1) := by decide +kernel
theorem dX4_ways_41 : decode cX4_ways 41 = .ok (.iconst 0, 1) := by decide +kernel
theorem dX4_ways_42 : decode cX4_ways 42 = .ok (.istore_n 2, 1) := by decide +kernel
theorem dX4_ways_43 : decode cX4_ways 43 = .ok (.iload_n 2, 1) := by decide +kernel
theorem dX4_ways_44 : decode cX4_ways 44 = .ok (.bipush 6, 2) := by decide +kernel
theorem dX4_ways_46 : decode cX4_ways 46 = .ok (.if_icmp .ge 32, 3) := by decide +kernel
theorem dX4_ways_49 : decode cX4_ways 49 = .ok (.aload_n 0, 1) := by decide +kernel
theorem dX4_ways_50 : decode cX4_ways 50 = .ok (.aload_n 0, 1) := by decide +kernel
theorem dX4_ways_51 : decode cX4_ways 51 = .ok (.getfield 28, 3) := by decide +kernel
theorem dX4_ways_54 : decode cX4_ways 54 = .ok (.getfield 80, 3) := by decide +kernel
theorem dX4_ways_57 : decode cX4_ways 57 = .ok (.iload_n 2, 1) := by decide +kernel
theorem dX4_ways_58 : decode cX4_ways 58 = .ok (.iaload, 1) := by decide +kernel
theorem dX4_ways_59 : decode cX4_ways 59 = .ok (.aload_n 0, 1) := by decide +kernel
theorem dX4_ways_60 : decode cX4_ways 60 = .ok (.getfield 28, 3) := by decide +kernel
theorem dX4_ways_63 : decode cX4_ways 63 = .ok (.getfield 83, 3) := by decide +kernel
theorem dX4_ways_66 : decode cX4_ways 66 = .ok (.iload_n 2, 1) := by decide +kernel
theorem dX4_ways_67 : decode cX4_ways 67 = .ok (.iaload, 1) := by decide +kernel
theorem dX4_ways_68 : decode cX4_ways 68 = .ok (.iload_n 1, 1) := by decide +kernel
theorem dX4_ways_69 : decode cX4_ways 69 = .ok (.invokevirtual 192, 3) := by decide +kernel
theorem dX4_ways_72 : decode cX4_ways 72 = .ok (.iinc 2 1, 3) := by decide +kernel
theorem dX4_ways_75 : decode cX4_ways 75 = .ok (.goto (-32), 3) := by decide +kernel
theorem dX4_ways_78 : decode cX4_ways 78 = .ok (.aload_n 0, 1) := by decide +kernel
theorem dX4_ways_79 : decode cX4_ways 79 = .ok (.getfield 49, 3) := by decide +kernel
theorem dX4_ways_82 : decode cX4_ways 82 = .ok (.iload_n 1, 1) := by decide +kernel
theorem dX4_ways_83 : decode cX4_ways 83 = .ok (.iaload, 1) := by decide +kernel
theorem dX4_ways_84 : decode cX4_ways 84 = .ok (.ireturn, 1) := by decide +kernel
theorem dX4_makeMoreWays_0 : decode cX4_makeMoreWays 0 = .ok (.iload_n 3, 1) := by decide +kernel
theorem dX4_makeMoreWays_1 : decode cX4_makeMoreWays 1 = .ok (.istore 4, 2) := by decide +kernel
theorem dX4_makeMoreWays_3 : decode cX4_makeMoreWays 3 = .ok (.iload 4, 2) := by decide +kernel
theorem dX4_makeMoreWays_5 : decode cX4_makeMoreWays 5 = .ok (.ifCond .lt 73, 3) := by decide +kernel
theorem dX4_makeMoreWays_8 : decode cX4_makeMoreWays 8 = .ok (.aload_n 0, 1) := by decide +kernel
theorem dX4_makeMoreWays_9 : decode cX4_makeMoreWays 9 = .ok (.getfield 49, 3) := by decide +kernel
theorem dX4_makeMoreWays_12 : decode cX4_makeMoreWays 12 = .ok (.iload 4, 2) := by decide +kernel
theorem dX4_makeMoreWays_14 : decode cX4_makeMoreWays 14 = .ok (.iaload, 1) := by decide +kernel
theorem dX4_makeMoreWays_15 : decode cX4_makeMoreWays 15 = .ok (.istore 5, 2) := by decide +kernel
theorem dX4_makeMoreWays_17 : decode cX4_makeMoreWays 17 = .ok (.iconst 1, 1) := by decide +kernel
theorem dX4_makeMoreWays_18 : decode cX4_makeMoreWays 18 = .ok (.istore 6, 2) := by decide +kernel
theorem dX4_makeMoreWays_20 : decode cX4_makeMoreWays 20 = .ok (.iload 6, 2) := by decide +kernel
theorem dX4_makeMoreWays_22 : decode cX4_makeMoreWays 22 = .ok (.iload_n 2, 1) := by decide +kernel
theorem dX4_makeMoreWays_23 : decode cX4_makeMoreWays 23 = .ok (.if_icmp .gt 49, 3) := by decide +kernel
theorem dX4_makeMoreWays_26 : decode cX4_makeMoreWays 26 = .ok (.iload 6, 2) := by decide +kernel
theorem dX4_makeMoreWays_28 : decode cX4_makeMoreWays 28 = .ok (.iload_n 1, 1) := by decide +kernel
theorem dX4_makeMoreWays_29 : decode cX4_makeMoreWays 29 = .ok (.imul, 1) := by decide +kernel
theorem dX4_makeMoreWays_30 : decode cX4_makeMoreWays 30 = .ok (.iload 4, 2) := by decide +kernel
theorem dX4_makeMoreWays_32 : decode cX4_makeMoreWays 32 = .ok (.if_icmp .gt 40, 3) := by decide +kernel
theorem dX4_makeMoreWays_35 : decode cX4_makeMoreWays 35 = .ok (.aload_n 0, 1) := by decide +kernel
theorem dX4_makeMoreWays_36 : decode cX4_makeMoreWays 36 = .ok (.getfield 49, 3) := by decide +kernel
theorem dX4_makeMoreWays_39 : decode cX4_makeMoreWays 39 = .ok (.iload 4, 2) := by decide +kernel
theorem dX4_makeMoreWays_41 : decode cX4_makeMoreWays 41 = .ok (.dup2, 1) := by decide +kernel
theorem dX4_makeMoreWays_42 : decode cX4_makeMoreWays 42 = .ok (.iaload, 1) := by decide +kernel
theorem dX4_makeMoreWays_43 : decode cX4_makeMoreWays 43 = .ok (.iload_n 1, 1) := by decide +kernel
theorem dX4_makeMoreWays_44 : decode cX4_makeMoreWays 44 = .ok (.ifCond .ne 8, 3) := by decide +kernel
theorem dX4_makeMoreWays_47 : decode cX4_makeMoreWays 47 = .ok (.iload 5, 2) := by decide +kernel
theorem dX4_makeMoreWays_49 : decode cX4_makeMoreWays 49 = .ok (.goto 15, 3) := by decide +kernel
theorem dX4_makeMoreWays_52 : decode cX4_makeMoreWays 52 = .ok (.aload_n 0, 1) := by decide +kernel
theorem dX4_makeMoreWays_53 : decode cX4_makeMoreWays 53 = .ok (.getfield 49, 3) := by decide +kernel
theorem dX4_makeMoreWays_56 : decode cX4_makeMoreWays 56 = .ok (.iload 4, 2) := by decide +kernel
theorem dX4_makeMoreWays_58 : decode cX4_makeMoreWays 58 = .ok (.iload 6, 2) := by decide +kernel
theorem dX4_makeMoreWays_60 : decode cX4_makeMoreWays 60 = .ok (.iload_n 1, 1) := by decide +kernel
theorem dX4_makeMoreWays_61 : decode cX4_makeMoreWays 61 = .ok (.imul, 1) := by decide +kernel
theorem dX4_makeMoreWays_62 : decode cX4_makeMoreWays 62 = .ok (.isub, 1) := by decide +kernel
theorem dX4_makeMoreWays_63 : decode cX4_makeMoreWays 63 = .ok (.iaload, 1) := by decide +kernel
theorem dX4_makeMoreWays_64 : decode cX4_makeMoreWays 64 = .ok (.iadd, 1) := by decide +kernel
theorem dX4_makeMoreWays_65 : decode cX4_makeMoreWays 65 = .ok (.iastore, 1) := by decide +kernel
theorem dX4_makeMoreWays_66 : decode cX4_makeMoreWays 66 = .ok (.iinc 6 1, 3) := by decide +kernel
theorem dX4_makeMoreWays_69 : decode cX4_makeMoreWays 69 = .ok (.goto (-49), 3) := by decide +kernel
theorem dX4_makeMoreWays_72 : decode cX4_makeMoreWays 72 = .ok (.iinc 4 (-1), 3) := by decide +kernel
theorem dX4_makeMoreWays_75 : decode cX4_makeMoreWays 75 = .ok (.goto (-72), 3) := by decide +kernel
theorem dX4_makeMoreWays_78 : decode cX4_makeMoreWays 78 = .ok (.return_, 1) := by decide +kernel
theorem dX4_share_0 : decode cX4_share 0 = .ok (.aload_n 0, 1) := by decide +kernel
theorem dX4_share_1 : decode cX4_share 1 = .ok (.iload_n 1, 1) := by decide +kernel
theorem dX4_share_2 : decode cX4_share 2 = .ok (.invokevirtual 112, 3) := by decide +kernel
theorem dX4_share_5 : decode cX4_share 5 = .ok (.ifCond .eq 12, 3) := by decide +kernel
theorem dX4_share_8 : decode cX4_share 8 = .ok (.iload_n 2, 1) := by decide +kernel
theorem dX4_share_9 : decode cX4_share 9 = .ok (.ifCond .lt 8, 3) := by decide +kernel
theorem dX4_share_12 : decode cX4_share 12 = .ok (.iload_n 2, 1) := by decide +kernel
theorem dX4_share_13 : decode cX4_share 13 = .ok (.iconst 1, 1) := by decide +kernel
theorem dX4_share_14 : decode cX4_share 14 = .ok (.if_icmp .le 7, 3) := by decide +kernel
theorem dX4_share_17 : decode cX4_share 17 = .ok (.ldc2_w 196, 3) := by decide +kernel
theorem dX4_share_20 : decode cX4_share 20 = .ok (.lreturn, 1) := by decide +kernel
theorem dX4_share_21 : decode cX4_share 21 = .ok (.aload_n 0, 1) := by decide +kernel
theorem dX4_share_22 : decode cX4_share 22 = .ok (.getfield 28, 3) := by decide +kernel
theorem dX4_share_25 : decode cX4_share 25 = .ok (.invokevirtual 90, 3) := by decide +kernel
theorem dX4_share_28 : decode cX4_share 28 = .ok (.istore_n 3, 1) := by decide +kernel
theorem dX4_share_29 : decode cX4_share 29 = .ok (.iconst 0, 1) := by decide +kernel
theorem dX4_share_30 : decode cX4_share 30 = .ok (.istore 4, 2) := by decide +kernel
theorem dX4_share_32 : decode cX4_share 32 = .ok (.iload 4, 2) := by decide +kernel
theorem dX4_share_34 : decode cX4_share 34 = .ok (.aload_n 0, 1) := by decide +kernel
theorem dX4_share_35 : decode cX4_share 35 = .ok (.getfield 28, 3) := by decide +kernel
theorem dX4_share_38 : decode cX4_share 38 = .ok (.getfield 56, 3) := by decide +kernel
theorem dX4_share_41 : decode cX4_share 41 = .ok (.if_icmp .ge 22, 3) := by decide +kernel
theorem dX4_share_44 : decode cX4_share 44 = .ok (.iload_n 3, 1) := by decide +kernel
theorem dX4_share_45 : decode cX4_share 45 = .ok (.aload_n 0, 1) := by decide +kernel
theorem dX4_share_46 : decode cX4_share 46 = .ok (.getfield 28, 3) := by decide +kernel
theorem dX4_share_49 : decode cX4_share 49 = .ok (.getfield 126, 3) := by decide +kernel
theorem dX4_share_52 : decode cX4_share 52 = .ok (.iload 4, 2) := by decide +kernel
theorem dX4_share_54 : decode cX4_share 54 = .ok (.iaload, 1) := by decide +kernel
theorem dX4_share_55 : decode cX4_share 55 = .ok (.iadd, 1) := by decide +kernel
theorem dX4_share_56 : decode cX4_share 56 = .ok (.istore_n 3, 1) := by decide +kernel
theorem dX4_share_57 : decode cX4_share 57 = .ok (.iinc 4 1, 3) := by decide +kernel
theorem dX4_share_60 : decode cX4_share 60 = .ok (.goto (-28), 3) := by decide +kernel
theorem dX4_share_63 : decode cX4_share 63 = .ok (.aload_n 0, 1) := by decide +kernel
theorem dX4_share_64 : decode cX4_share 64 = .ok (.getfield 28, 3) := by decide +kernel
theorem dX4_share_67 : decode cX4_share 67 = .ok (.getfield 126, 3) := by decide +kernel
theorem dX4_share_70 : decode cX4_share 70 = .ok (.iload_n 1, 1) := by decide +kernel
theorem dX4_share_71 : decode cX4_share 71 = .ok (.iaload, 1) := by decide +kernel
theorem dX4_share_72 : decode cX4_share 72 = .ok (.iload_n 3, 1) := by decide +kernel
theorem dX4_share_73 : decode cX4_share 73 = .ok (.iload_n 2, 1) := by decide +kernel
theorem dX4_share_74 : decode cX4_share 74 = .ok (.invokestatic 198, 3) := by decide +kernel
theorem dX4_share_77 : decode cX4_share 77 = .ok (.lreturn, 1) := by decide +kernel
theorem dX4_inLowestTerms_0 : decode cX4_inLowestTerms 0 = .ok (.iload_n 1, 1) := by decide +kernel
theorem dX4_inLowestTerms_1 : decode cX4_inLowestTerms 1 = .ok (.istore_n 3, 1) := by decide +kernel
theorem dX4_inLowestTerms_2 : decode cX4_inLowestTerms 2 = .ok (.iload_n 0, 1) := by decide +kernel
theorem dX4_inLowestTerms_3 : decode cX4_inLowestTerms 3 = .ok (.istore 4, 2) := by decide +kernel
theorem dX4_inLowestTerms_5 : decode cX4_inLowestTerms 5 = .ok (.iconst 0, 1) := by decide +kernel
theorem dX4_inLowestTerms_6 : decode cX4_inLowestTerms 6 = .ok (.istore 5, 2) := by decide +kernel
theorem dX4_inLowestTerms_8 : decode cX4_inLowestTerms 8 = .ok (.iload 5, 2) := by decide +kernel
theorem dX4_inLowestTerms_10 : decode cX4_inLowestTerms 10 = .ok (.bipush 100, 2) := by decide +kernel
theorem dX4_inLowestTerms_12 : decode cX4_inLowestTerms 12 = .ok (.if_icmp .ge 27, 3) := by decide +kernel
theorem dX4_inLowestTerms_15 : decode cX4_inLowestTerms 15 = .ok (.iload 4, 2) := by decide +kernel
theorem dX4_inLowestTerms_17 : decode cX4_inLowestTerms 17 = .ok (.ifCond .eq 22, 3) := by decide +kernel
theorem dX4_inLowestTerms_20 : decode cX4_inLowestTerms 20 = .ok (.iload_n 3, 1) := by decide +kernel
theorem dX4_inLowestTerms_21 : decode cX4_inLowestTerms 21 = .ok (.iload 4, 2) := by decide +kernel
theorem dX4_inLowestTerms_23 : decode cX4_inLowestTerms 23 = .ok (.irem, 1) := by decide +kernel
theorem dX4_inLowestTerms_24 : decode cX4_inLowestTerms 24 = .ok (.istore 6, 2) := by decide +kernel
theorem dX4_inLowestTerms_26 : decode cX4_inLowestTerms 26 = .ok (.iload 4, 2) := by decide +kernel
theorem dX4_inLowestTerms_28 : decode cX4_inLowestTerms 28 = .ok (.istore_n 3, 1) := by decide +kernel
theorem dX4_inLowestTerms_29 : decode cX4_inLowestTerms 29 = .ok (.iload 6, 2) := by decide +kernel
theorem dX4_inLowestTerms_31 : decode cX4_inLowestTerms 31 = .ok (.istore 4, 2) := by decide +kernel
theorem dX4_inLowestTerms_33 : decode cX4_inLowestTerms 33 = .ok (.iinc 5 1, 3) := by decide +kernel
theorem dX4_inLowestTerms_36 : decode cX4_inLowestTerms 36 = .ok (.goto (-28), 3) := by decide +kernel
theorem dX4_inLowestTerms_39 : decode cX4_inLowestTerms 39 = .ok (.iload_n 3, 1) := by decide +kernel
theorem dX4_inLowestTerms_40 : decode cX4_inLowestTerms 40 = .ok (.ifCond .eq 7, 3) := by decide +kernel
theorem dX4_inLowestTerms_43 : decode cX4_inLowestTerms 43 = .ok (.iload_n 1, 1) := by decide +kernel
theorem dX4_inLowestTerms_44 : decode cX4_inLowestTerms 44 = .ok (.ifCond .ne 7, 3) := by decide +kernel
theorem dX4_inLowestTerms_47 : decode cX4_inLowestTerms 47 = .ok (.ldc2_w 196, 3) := by decide +kernel
theorem dX4_inLowestTerms_50 : decode cX4_inLowestTerms 50 = .ok (.lreturn, 1) := by decide +kernel
theorem dX4_inLowestTerms_51 : decode cX4_inLowestTerms 51 = .ok (.iload_n 2, 1) := by decide +kernel
theorem dX4_inLowestTerms_52 : decode cX4_inLowestTerms 52 = .ok (.ifCond .ne 10, 3) := by decide +kernel
theorem dX4_inLowestTerms_55 : decode cX4_inLowestTerms 55 = .ok (.iload_n 0, 1) := by decide +kernel
theorem dX4_inLowestTerms_56 : decode cX4_inLowestTerms 56 = .ok (.iload_n 3, 1) := by decide +kernel
theorem dX4_inLowestTerms_57 : decode cX4_inLowestTerms 57 = .ok (.idiv, 1) := by decide +kernel
theorem dX4_inLowestTerms_58 : decode cX4_inLowestTerms 58 = .ok (.i2l, 1) := by decide +kernel
theorem dX4_inLowestTerms_59 : decode cX4_inLowestTerms 59 = .ok (.goto 7, 3) := by decide +kernel
theorem dX4_inLowestTerms_62 : decode cX4_inLowestTerms 62 = .ok (.iload_n 1, 1) := by decide +kernel
theorem dX4_inLowestTerms_63 : decode cX4_inLowestTerms 63 = .ok (.iload_n 3, 1) := by decide +kernel
theorem dX4_inLowestTerms_64 : decode cX4_inLowestTerms 64 = .ok (.idiv, 1) := by decide +kernel
theorem dX4_inLowestTerms_65 : decode cX4_inLowestTerms 65 = .ok (.i2l, 1) := by decide +kernel
theorem dX4_inLowestTerms_66 : decode cX4_inLowestTerms 66 = .ok (.lreturn, 1) := by decide +kernel
theorem dX4_judge_0 : decode cX4_judge 0 = .ok (.aload_n 0, 1) := by decide +kernel
theorem dX4_judge_1 : decode cX4_judge 1 = .ok (.getfield 45, 3) := by decide +kernel
theorem dX4_judge_4 : decode cX4_judge 4 = .ok (.iload_n 1, 1) := by decide +kernel
theorem dX4_judge_5 : decode cX4_judge 5 = .ok (.invokevirtual 202, 3) := by decide +kernel
theorem dX4_judge_8 : decode cX4_judge 8 = .ok (.istore_n 2, 1) := by decide +kernel
theorem dX4_judge_9 : decode cX4_judge 9 = .ok (.iload_n 2, 1) := by decide +kernel
theorem dX4_judge_10 : decode cX4_judge 10 = .ok (.ifCond .eq 5, 3) := by decide +kernel
theorem dX4_judge_13 : decode cX4_judge 13 = .ok (.iload_n 2, 1) := by decide +kernel
theorem dX4_judge_14 : decode cX4_judge 14 = .ok (.ireturn, 1) := by decide +kernel
theorem dX4_judge_15 : decode cX4_judge 15 = .ok (.aload_n 0, 1) := by decide +kernel
theorem dX4_judge_16 : decode cX4_judge 16 = .ok (.getfield 32, 3) := by decide +kernel
theorem dX4_judge_19 : decode cX4_judge 19 = .ok (.aload_n 0, 1) := by decide +kernel
theorem dX4_judge_20 : decode cX4_judge 20 = .ok (.getfield 28, 3) := by decide +kernel
theorem dX4_judge_23 : decode cX4_judge 23 = .ok (.invokevirtual 157, 3) := by decide +kernel
theorem dX4_judge_26 : decode cX4_judge 26 = .ok (.aload_n 0, 1) := by decide +kernel
theorem dX4_judge_27 : decode cX4_judge 27 = .ok (.iload_n 1, 1) := by decide +kernel
theorem dX4_judge_28 : decode cX4_judge 28 = .ok (.invokevirtual 205, 3) := by decide +kernel
theorem dX4_judge_31 : decode cX4_judge 31 = .ok (.ireturn, 1) := by decide +kernel
theorem dX4_otherwise_0 : decode cX4_otherwise 0 = .ok (.iconst 0, 1) := by decide +kernel
theorem dX4_otherwise_1 : decode cX4_otherwise 1 = .ok (.istore_n 2, 1) := by decide +kernel
theorem dX4_otherwise_2 : decode cX4_otherwise 2 = .ok (.iload_n 2, 1) := by decide +kernel
theorem dX4_otherwise_3 : decode cX4_otherwise 3 = .ok (.aload_n 0, 1) := by decide +kernel
theorem dX4_otherwise_4 : decode cX4_otherwise 4 = .ok (.getfield 45, 3) := by decide +kernel
theorem dX4_otherwise_7 : decode cX4_otherwise 7 = .ok (.getfield 208, 3) := by decide +kernel
theorem dX4_otherwise_10 : decode cX4_otherwise 10 = .ok (.iload_n 1, 1) := by decide +kernel
theorem dX4_otherwise_11 : decode cX4_otherwise 11 = .ok (.iaload, 1) := by decide +kernel
theorem dX4_otherwise_12 : decode cX4_otherwise 12 = .ok (.if_icmp .ge 34, 3) := by decide +kernel
theorem dX4_otherwise_15 : decode cX4_otherwise 15 = .ok (.aload_n 0, 1) := by decide +kernel
theorem dX4_otherwise_16 : decode cX4_otherwise 16 = .ok (.getfield 32, 3) := by decide +kernel
theorem dX4_otherwise_19 : decode cX4_otherwise 19 = .ok (.invokevirtual 151, 3) := by decide +kernel
theorem dX4_otherwise_22 : decode cX4_otherwise 22 = .ok (.iconst 1, 1) := by decide +kernel
theorem dX4_otherwise_23 : decode cX4_otherwise 23 = .ok (.iadd, 1) := by decide +kernel
theorem dX4_otherwise_24 : decode cX4_otherwise 24 = .ok (.aload_n 0, 1) := by decide +kernel
theorem dX4_otherwise_25 : decode cX4_otherwise 25 = .ok (.getfield 45, 3) := by decide +kernel
theorem dX4_otherwise_28 : decode cX4_otherwise 28 = .ok (.getfield 211, 3) := by decide +kernel
theorem dX4_otherwise_31 : decode cX4_otherwise 31 = .ok (.iload_n 1, 1) := by decide +kernel
theorem dX4_otherwise_32 : decode cX4_otherwise 32 = .ok (.aaload, 1) := by decide +kernel
theorem dX4_otherwise_33 : decode cX4_otherwise 33 = .ok (.iload_n 2, 1) := by decide +kernel
theorem dX4_otherwise_34 : decode cX4_otherwise 34 = .ok (.iaload, 1) := by decide +kernel
theorem dX4_otherwise_35 : decode cX4_otherwise 35 = .ok (.if_icmp .eq 5, 3) := by decide +kernel
theorem dX4_otherwise_38 : decode cX4_otherwise 38 = .ok (.iload_n 2, 1) := by decide +kernel
theorem dX4_otherwise_39 : decode cX4_otherwise 39 = .ok (.ireturn, 1) := by decide +kernel
theorem dX4_otherwise_40 : decode cX4_otherwise 40 = .ok (.iinc 2 1, 3) := by decide +kernel
theorem dX4_otherwise_43 : decode cX4_otherwise 43 = .ok (.goto (-41), 3) := by decide +kernel
theorem dX4_otherwise_46 : decode cX4_otherwise 46 = .ok (.iconst (-1), 1) := by decide +kernel
theorem dX4_otherwise_47 : decode cX4_otherwise 47 = .ok (.ireturn, 1) := by decide +kernel
theorem dX4_kinds_0 : decode cX4_kinds 0 = .ok (.aload_n 0, 1) := by decide +kernel
theorem dX4_kinds_1 : decode cX4_kinds 1 = .ok (.iload_n 1, 1) := by decide +kernel
theorem dX4_kinds_2 : decode cX4_kinds 2 = .ok (.aload_n 0, 1) := by decide +kernel
theorem dX4_kinds_3 : decode cX4_kinds 3 = .ok (.iload_n 2, 1) := by decide +kernel
theorem dX4_kinds_4 : decode cX4_kinds 4 = .ok (.invokevirtual 112, 3) := by decide +kernel
theorem dX4_kinds_7 : decode cX4_kinds 7 = .ok (.iload_n 3, 1) := by decide +kernel
theorem dX4_kinds_8 : decode cX4_kinds 8 = .ok (.invokevirtual 214, 3) := by decide +kernel
theorem dX4_kinds_11 : decode cX4_kinds 11 = .ok (.istore 4, 2) := by decide +kernel
theorem dX4_kinds_13 : decode cX4_kinds 13 = .ok (.iload 4, 2) := by decide +kernel
theorem dX4_kinds_15 : decode cX4_kinds 15 = .ok (.ifCond .eq 6, 3) := by decide +kernel
theorem dX4_kinds_18 : decode cX4_kinds 18 = .ok (.iload 4, 2) := by decide +kernel
theorem dX4_kinds_20 : decode cX4_kinds 20 = .ok (.ireturn, 1) := by decide +kernel
theorem dX4_kinds_21 : decode cX4_kinds 21 = .ok (.iconst 0, 1) := by decide +kernel
theorem dX4_kinds_22 : decode cX4_kinds 22 = .ok (.istore 5, 2) := by decide +kernel
theorem dX4_kinds_24 : decode cX4_kinds 24 = .ok (.iconst 0, 1) := by decide +kernel
theorem dX4_kinds_25 : decode cX4_kinds 25 = .ok (.istore 6, 2) := by decide +kernel
theorem dX4_kinds_27 : decode cX4_kinds 27 = .ok (.iload 6, 2) := by decide +kernel
theorem dX4_kinds_29 : decode cX4_kinds 29 = .ok (.iload_n 3, 1) := by decide +kernel
theorem dX4_kinds_30 : decode cX4_kinds 30 = .ok (.ifCond .ne 8, 3) := by decide +kernel
theorem dX4_kinds_33 : decode cX4_kinds 33 = .ok (.bipush 6, 2) := by decide +kernel
theorem dX4_kinds_35 : decode cX4_kinds 35 = .ok (.goto 5, 3) := by decide +kernel
theorem dX4_kinds_38 : decode cX4_kinds 38 = .ok (.bipush 10, 2) := by decide +kernel
theorem dX4_kinds_40 : decode cX4_kinds 40 = .ok (.if_icmp .ge 66, 3) := by decide +kernel
theorem dX4_kinds_43 : decode cX4_kinds 43 = .ok (.aload_n 0, 1) := by decide +kernel
theorem dX4_kinds_44 : decode cX4_kinds 44 = .ok (.getfield 32, 3) := by decide +kernel
theorem dX4_kinds_47 : decode cX4_kinds 47 = .ok (.aload_n 0, 1) := by decide +kernel
theorem dX4_kinds_48 : decode cX4_kinds 48 = .ok (.getfield 28, 3) := by decide +kernel
theorem dX4_kinds_51 : decode cX4_kinds 51 = .ok (.invokevirtual 157, 3) := by decide +kernel
theorem dX4_kinds_54 : decode cX4_kinds 54 = .ok (.iload_n 3, 1) := by decide +kernel
theorem dX4_kinds_55 : decode cX4_kinds 55 = .ok (.ifCond .ne 17, 3) := by decide +kernel
theorem dX4_kinds_58 : decode cX4_kinds 58 = .ok (.aload_n 0, 1) := by decide +kernel
theorem dX4_kinds_59 : decode cX4_kinds 59 = .ok (.getfield 32, 3) := by decide +kernel
theorem dX4_kinds_62 : decode cX4_kinds 62 = .ok (.getfield 132, 3) := by decide +kernel
theorem dX4_kinds_65 : decode cX4_kinds 65 = .ok (.iload_n 2, 1) := by decide +kernel
theorem dX4_kinds_66 : decode cX4_kinds 66 = .ok (.iload 6, 2) := by decide +kernel
theorem dX4_kinds_68 : decode cX4_kinds 68 = .ok (.iastore, 1) := by decide +kernel
theorem dX4_kinds_69 : decode cX4_kinds 69 = .ok (.goto 14, 3) := by decide +kernel
theorem dX4_kinds_72 : decode cX4_kinds 72 = .ok (.aload_n 0, 1) := by decide +kernel
theorem dX4_kinds_73 : decode cX4_kinds 73 = .ok (.getfield 32, 3) := by decide +kernel
theorem dX4_kinds_76 : decode cX4_kinds 76 = .ok (.getfield 135, 3) := by decide +kernel
theorem dX4_kinds_79 : decode cX4_kinds 79 = .ok (.iload_n 2, 1) := by decide +kernel
theorem dX4_kinds_80 : decode cX4_kinds 80 = .ok (.iload 6, 2) := by decide +kernel
theorem dX4_kinds_82 : decode cX4_kinds 82 = .ok (.iastore, 1) := by decide +kernel
theorem dX4_kinds_83 : decode cX4_kinds 83 = .ok (.aload_n 0, 1) := by decide +kernel
theorem dX4_kinds_84 : decode cX4_kinds 84 = .ok (.iload_n 1, 1) := by decide +kernel
theorem dX4_kinds_85 : decode cX4_kinds 85 = .ok (.invokevirtual 205, 3) := by decide +kernel
theorem dX4_kinds_88 : decode cX4_kinds 88 = .ok (.ifCond .ge 12, 3) := by decide +kernel
theorem dX4_kinds_91 : decode cX4_kinds 91 = .ok (.iload 5, 2) := by decide +kernel
theorem dX4_kinds_93 : decode cX4_kinds 93 = .ok (.iconst 1, 1) := by decide +kernel
theorem dX4_kinds_94 : decode cX4_kinds 94 = .ok (.iload 6, 2) := by decide +kernel
theorem dX4_kinds_96 : decode cX4_kinds 96 = .ok (.ishl, 1) := by decide +kernel
theorem dX4_kinds_97 : decode cX4_kinds 97 = .ok (.ior, 1) := by decide +kernel
theorem dX4_kinds_98 : decode cX4_kinds 98 = .ok (.istore 5, 2) := by decide +kernel
theorem dX4_kinds_100 : decode cX4_kinds 100 = .ok (.iinc 6 1, 3) := by decide +kernel
theorem dX4_kinds_103 : decode cX4_kinds 103 = .ok (.goto (-76), 3) := by decide +kernel
theorem dX4_kinds_106 : decode cX4_kinds 106 = .ok (.iload 5, 2) := by decide +kernel
theorem dX4_kinds_108 : decode cX4_kinds 108 = .ok (.ireturn, 1) := by decide +kernel
theorem dX4_refusalOfOne_0 : decode cX4_refusalOfOne 0 = .ok (.aload_n 0, 1) := by decide +kernel
theorem dX4_refusalOfOne_1 : decode cX4_refusalOfOne 1 = .ok (.getfield 45, 3) := by decide +kernel
theorem dX4_refusalOfOne_4 : decode cX4_refusalOfOne 4 = .ok (.iload_n 1, 1) := by decide +kernel
theorem dX4_refusalOfOne_5 : decode cX4_refusalOfOne 5 = .ok (.invokevirtual 202, 3) := by decide +kernel
theorem dX4_refusalOfOne_8 : decode cX4_refusalOfOne 8 = .ok (.istore 4, 2) := by decide +kernel
theorem dX4_refusalOfOne_10 : decode cX4_refusalOfOne 10 = .ok (.iload 4, 2) := by decide +kernel
theorem dX4_refusalOfOne_12 : decode cX4_refusalOfOne 12 = .ok (.ifCond .eq 6, 3) := by decide +kernel
theorem dX4_refusalOfOne_15 : decode cX4_refusalOfOne 15 = .ok (.iload 4, 2) := by decide +kernel
theorem dX4_refusalOfOne_17 : decode cX4_refusalOfOne 17 = .ok (.ireturn, 1) := by decide +kernel
theorem dX4_refusalOfOne_18 : decode cX4_refusalOfOne 18 = .ok (.iload_n 2, 1) := by decide +kernel
theorem dX4_refusalOfOne_19 : decode cX4_refusalOfOne 19 = .ok (.ifCond .ne 6, 3) := by decide +kernel
theorem dX4_refusalOfOne_22 : decode cX4_refusalOfOne 22 = .ok (.bipush (-5), 2) := by decide +kernel
theorem dX4_refusalOfOne_24 : decode cX4_refusalOfOne 24 = .ok (.ireturn, 1) := by decide +kernel
theorem dX4_refusalOfOne_25 : decode cX4_refusalOfOne 25 = .ok (.iload_n 3, 1) := by decide +kernel
theorem dX4_refusalOfOne_26 : decode cX4_refusalOfOne 26 = .ok (.ifCond .lt 8, 3) := by decide +kernel
theorem dX4_refusalOfOne_29 : decode cX4_refusalOfOne 29 = .ok (.iload_n 3, 1) := by decide +kernel
theorem dX4_refusalOfOne_30 : decode cX4_refusalOfOne 30 = .ok (.iconst 1, 1) := by decide +kernel
theorem dX4_refusalOfOne_31 : decode cX4_refusalOfOne 31 = .ok (.if_icmp .le 8, 3) := by decide +kernel
theorem dX4_refusalOfOne_34 : decode cX4_refusalOfOne 34 = .ok (.bipush (-7), 2) := by decide +kernel
theorem dX4_refusalOfOne_36 : decode cX4_refusalOfOne 36 = .ok (.goto 4, 3) := by decide +kernel
theorem dX4_refusalOfOne_39 : decode cX4_refusalOfOne 39 = .ok (.iconst 0, 1) := by decide +kernel
theorem dX4_refusalOfOne_40 : decode cX4_refusalOfOne 40 = .ok (.ireturn, 1) := by decide +kernel
theorem dX4_prides_0 : decode cX4_prides 0 = .ok (.aload_n 0, 1) := by decide +kernel
theorem dX4_prides_1 : decode cX4_prides 1 = .ok (.iload_n 1, 1) := by decide +kernel
theorem dX4_prides_2 : decode cX4_prides 2 = .ok (.aload_n 0, 1) := by decide +kernel
theorem dX4_prides_3 : decode cX4_prides 3 = .ok (.iload_n 2, 1) := by decide +kernel
theorem dX4_prides_4 : decode cX4_prides 4 = .ok (.invokevirtual 112, 3) := by decide +kernel
theorem dX4_prides_7 : decode cX4_prides 7 = .ok (.iload_n 3, 1) := by decide +kernel
theorem dX4_prides_8 : decode cX4_prides 8 = .ok (.invokevirtual 214, 3) := by decide +kernel
theorem dX4_prides_11 : decode cX4_prides 11 = .ok (.istore 4, 2) := by decide +kernel
theorem dX4_prides_13 : decode cX4_prides 13 = .ok (.iload 4, 2) := by decide +kernel
theorem dX4_prides_15 : decode cX4_prides 15 = .ok (.ifCond .eq 6, 3) := by decide +kernel
theorem dX4_prides_18 : decode cX4_prides 18 = .ok (.iload 4, 2) := by decide +kernel
theorem dX4_prides_20 : decode cX4_prides 20 = .ok (.ireturn, 1) := by decide +kernel
theorem dX4_prides_21 : decode cX4_prides 21 = .ok (.iconst 0, 1) := by decide +kernel
theorem dX4_prides_22 : decode cX4_prides 22 = .ok (.istore 5, 2) := by decide +kernel
theorem dX4_prides_24 : decode cX4_prides 24 = .ok (.iconst (-1), 1) := by decide +kernel
theorem dX4_prides_25 : decode cX4_prides 25 = .ok (.istore 6, 2) := by decide +kernel
theorem dX4_prides_27 : decode cX4_prides 27 = .ok (.bipush 99, 2) := by decide +kernel
theorem dX4_prides_29 : decode cX4_prides 29 = .ok (.istore 7, 2) := by decide +kernel
theorem dX4_prides_31 : decode cX4_prides 31 = .ok (.iload 7, 2) := by decide +kernel
theorem dX4_prides_33 : decode cX4_prides 33 = .ok (.ifCond .lt 46, 3) := by decide +kernel
theorem dX4_prides_36 : decode cX4_prides 36 = .ok (.aload_n 0, 1) := by decide +kernel
theorem dX4_prides_37 : decode cX4_prides 37 = .ok (.getfield 32, 3) := by decide +kernel
theorem dX4_prides_40 : decode cX4_prides 40 = .ok (.aload_n 0, 1) := by decide +kernel
theorem dX4_prides_41 : decode cX4_prides 41 = .ok (.getfield 28, 3) := by decide +kernel
theorem dX4_prides_44 : decode cX4_prides 44 = .ok (.invokevirtual 157, 3) := by decide +kernel
theorem dX4_prides_47 : decode cX4_prides 47 = .ok (.aload_n 0, 1) := by decide +kernel
theorem dX4_prides_48 : decode cX4_prides 48 = .ok (.getfield 32, 3) := by decide +kernel
theorem dX4_prides_51 : decode cX4_prides 51 = .ok (.getfield 123, 3) := by decide +kernel
theorem dX4_prides_54 : decode cX4_prides 54 = .ok (.iload_n 2, 1) := by decide +kernel
theorem dX4_prides_55 : decode cX4_prides 55 = .ok (.iload 7, 2) := by decide +kernel
theorem dX4_prides_57 : decode cX4_prides 57 = .ok (.iastore, 1) := by decide +kernel
theorem dX4_prides_58 : decode cX4_prides 58 = .ok (.aload_n 0, 1) := by decide +kernel
theorem dX4_prides_59 : decode cX4_prides 59 = .ok (.iload_n 1, 1) := by decide +kernel
theorem dX4_prides_60 : decode cX4_prides 60 = .ok (.invokevirtual 205, 3) := by decide +kernel
theorem dX4_prides_63 : decode cX4_prides 63 = .ok (.ifCond .ge 10, 3) := by decide +kernel
theorem dX4_prides_66 : decode cX4_prides 66 = .ok (.iinc 5 1, 3) := by decide +kernel
theorem dX4_prides_69 : decode cX4_prides 69 = .ok (.iload 7, 2) := by decide +kernel
theorem dX4_prides_71 : decode cX4_prides 71 = .ok (.istore 6, 2) := by decide +kernel
theorem dX4_prides_73 : decode cX4_prides 73 = .ok (.iinc 7 (-1), 3) := by decide +kernel
theorem dX4_prides_76 : decode cX4_prides 76 = .ok (.goto (-45), 3) := by decide +kernel
theorem dX4_prides_79 : decode cX4_prides 79 = .ok (.iload_n 3, 1) := by decide +kernel
theorem dX4_prides_80 : decode cX4_prides 80 = .ok (.ifCond .ne 8, 3) := by decide +kernel
theorem dX4_prides_83 : decode cX4_prides 83 = .ok (.iload 5, 2) := by decide +kernel
theorem dX4_prides_85 : decode cX4_prides 85 = .ok (.goto 5, 3) := by decide +kernel
theorem dX4_prides_88 : decode cX4_prides 88 = .ok (.iload 6, 2) := by decide +kernel
theorem dX4_prides_90 : decode cX4_prides 90 = .ok (.ireturn, 1) := by decide +kernel
theorem dX4_hats_0 : decode cX4_hats 0 = .ok (.aload_n 0, 1) := by decide +kernel
theorem dX4_hats_1 : decode cX4_hats 1 = .ok (.iload_n 1, 1) := by decide +kernel
theorem dX4_hats_2 : decode cX4_hats 2 = .ok (.iload_n 2, 1) := by decide +kernel
theorem dX4_hats_3 : decode cX4_hats 3 = .ok (.invokestatic 76, 3) := by decide +kernel
theorem dX4_hats_6 : decode cX4_hats 6 = .ok (.iload_n 3, 1) := by decide +kernel
theorem dX4_hats_7 : decode cX4_hats 7 = .ok (.invokevirtual 214, 3) := by decide +kernel
theorem dX4_hats_10 : decode cX4_hats 10 = .ok (.istore 4, 2) := by decide +kernel
theorem dX4_hats_12 : decode cX4_hats 12 = .ok (.iload 4, 2) := by decide +kernel
theorem dX4_hats_14 : decode cX4_hats 14 = .ok (.ifCond .eq 6, 3) := by decide +kernel
theorem dX4_hats_17 : decode cX4_hats 17 = .ok (.iload 4, 2) := by decide +kernel
theorem dX4_hats_19 : decode cX4_hats 19 = .ok (.ireturn, 1) := by decide +kernel
theorem dX4_hats_20 : decode cX4_hats 20 = .ok (.iconst 0, 1) := by decide +kernel
theorem dX4_hats_21 : decode cX4_hats 21 = .ok (.istore 5, 2) := by decide +kernel
theorem dX4_hats_23 : decode cX4_hats 23 = .ok (.iconst (-1), 1) := by decide +kernel
theorem dX4_hats_24 : decode cX4_hats 24 = .ok (.istore 6, 2) := by decide +kernel
theorem dX4_hats_26 : decode cX4_hats 26 = .ok (.bipush 20, 2) := by decide +kernel
theorem dX4_hats_28 : decode cX4_hats 28 = .ok (.istore 7, 2) := by decide +kernel
theorem dX4_hats_30 : decode cX4_hats 30 = .ok (.iload 7, 2) := by decide +kernel
theorem dX4_hats_32 : decode cX4_hats 32 = .ok (.ifCond .lt 45, 3) := by decide +kernel
theorem dX4_hats_35 : decode cX4_hats 35 = .ok (.aload_n 0, 1) := by decide +kernel
theorem dX4_hats_36 : decode cX4_hats 36 = .ok (.getfield 32, 3) := by decide +kernel
theorem dX4_hats_39 : decode cX4_hats 39 = .ok (.aload_n 0, 1) := by decide +kernel
theorem dX4_hats_40 : decode cX4_hats 40 = .ok (.getfield 28, 3) := by decide +kernel
theorem dX4_hats_43 : decode cX4_hats 43 = .ok (.invokevirtual 157, 3) := by decide +kernel
theorem dX4_hats_46 : decode cX4_hats 46 = .ok (.aload_n 0, 1) := by decide +kernel
theorem dX4_hats_47 : decode cX4_hats 47 = .ok (.getfield 32, 3) := by decide +kernel
theorem dX4_hats_50 : decode cX4_hats 50 = .ok (.iload_n 2, 1) := by decide +kernel
theorem dX4_hats_51 : decode cX4_hats 51 = .ok (.iload 7, 2) := by decide +kernel
theorem dX4_hats_53 : decode cX4_hats 53 = .ok (.invokevirtual 86, 3) := by decide +kernel
theorem dX4_hats_56 : decode cX4_hats 56 = .ok (.aload_n 0, 1) := by decide +kernel
theorem dX4_hats_57 : decode cX4_hats 57 = .ok (.iload_n 1, 1) := by decide +kernel
theorem dX4_hats_58 : decode cX4_hats 58 = .ok (.invokevirtual 205, 3) := by decide +kernel
theorem dX4_hats_61 : decode cX4_hats 61 = .ok (.ifCond .ge 10, 3) := by decide +kernel
theorem dX4_hats_64 : decode cX4_hats 64 = .ok (.iinc 5 1, 3) := by decide +kernel
theorem dX4_hats_67 : decode cX4_hats 67 = .ok (.iload 7, 2) := by decide +kernel
theorem dX4_hats_69 : decode cX4_hats 69 = .ok (.istore 6, 2) := by decide +kernel
theorem dX4_hats_71 : decode cX4_hats 71 = .ok (.iinc 7 (-1), 3) := by decide +kernel
theorem dX4_hats_74 : decode cX4_hats 74 = .ok (.goto (-44), 3) := by decide +kernel
theorem dX4_hats_77 : decode cX4_hats 77 = .ok (.iload_n 3, 1) := by decide +kernel
theorem dX4_hats_78 : decode cX4_hats 78 = .ok (.ifCond .ne 8, 3) := by decide +kernel
theorem dX4_hats_81 : decode cX4_hats 81 = .ok (.iload 5, 2) := by decide +kernel
theorem dX4_hats_83 : decode cX4_hats 83 = .ok (.goto 5, 3) := by decide +kernel
theorem dX4_hats_86 : decode cX4_hats 86 = .ok (.iload 6, 2) := by decide +kernel
theorem dX4_hats_88 : decode cX4_hats 88 = .ok (.ireturn, 1) := by decide +kernel
theorem dX4_starts_0 : decode cX4_starts 0 = .ok (.aload_n 0, 1) := by decide +kernel
theorem dX4_starts_1 : decode cX4_starts 1 = .ok (.getfield 45, 3) := by decide +kernel
theorem dX4_starts_4 : decode cX4_starts 4 = .ok (.iload_n 1, 1) := by decide +kernel
theorem dX4_starts_5 : decode cX4_starts 5 = .ok (.invokevirtual 202, 3) := by decide +kernel
theorem dX4_starts_8 : decode cX4_starts 8 = .ok (.istore_n 2, 1) := by decide +kernel
theorem dX4_starts_9 : decode cX4_starts 9 = .ok (.iload_n 2, 1) := by decide +kernel
theorem dX4_starts_10 : decode cX4_starts 10 = .ok (.ifCond .eq 5, 3) := by decide +kernel
theorem dX4_starts_13 : decode cX4_starts 13 = .ok (.iload_n 2, 1) := by decide +kernel
theorem dX4_starts_14 : decode cX4_starts 14 = .ok (.ireturn, 1) := by decide +kernel
theorem dX4_starts_15 : decode cX4_starts 15 = .ok (.iconst 0, 1) := by decide +kernel
theorem dX4_starts_16 : decode cX4_starts 16 = .ok (.istore_n 3, 1) := by decide +kernel
theorem dX4_starts_17 : decode cX4_starts 17 = .ok (.iconst 0, 1) := by decide +kernel
theorem dX4_starts_18 : decode cX4_starts 18 = .ok (.istore 4, 2) := by decide +kernel
theorem dX4_starts_20 : decode cX4_starts 20 = .ok (.iload 4, 2) := by decide +kernel
theorem dX4_starts_22 : decode cX4_starts 22 = .ok (.aload_n 0, 1) := by decide +kernel
theorem dX4_starts_23 : decode cX4_starts 23 = .ok (.getfield 28, 3) := by decide +kernel
theorem dX4_starts_26 : decode cX4_starts 26 = .ok (.getfield 56, 3) := by decide +kernel
theorem dX4_starts_29 : decode cX4_starts 29 = .ok (.if_icmp .ge 44, 3) := by decide +kernel
theorem dX4_starts_32 : decode cX4_starts 32 = .ok (.aload_n 0, 1) := by decide +kernel
theorem dX4_starts_33 : decode cX4_starts 33 = .ok (.getfield 32, 3) := by decide +kernel
theorem dX4_starts_36 : decode cX4_starts 36 = .ok (.aload_n 0, 1) := by decide +kernel
theorem dX4_starts_37 : decode cX4_starts 37 = .ok (.getfield 28, 3) := by decide +kernel
theorem dX4_starts_40 : decode cX4_starts 40 = .ok (.invokevirtual 157, 3) := by decide +kernel
theorem dX4_starts_43 : decode cX4_starts 43 = .ok (.aload_n 0, 1) := by decide +kernel
theorem dX4_starts_44 : decode cX4_starts 44 = .ok (.getfield 32, 3) := by decide +kernel
theorem dX4_starts_47 : decode cX4_starts 47 = .ok (.iload 4, 2) := by decide +kernel
theorem dX4_starts_49 : decode cX4_starts 49 = .ok (.putfield 73, 3) := by decide +kernel
theorem dX4_starts_52 : decode cX4_starts 52 = .ok (.aload_n 0, 1) := by decide +kernel
theorem dX4_starts_53 : decode cX4_starts 53 = .ok (.iload_n 1, 1) := by decide +kernel
theorem dX4_starts_54 : decode cX4_starts 54 = .ok (.invokevirtual 205, 3) := by decide +kernel
theorem dX4_starts_57 : decode cX4_starts 57 = .ok (.ifCond .ge 10, 3) := by decide +kernel
theorem dX4_starts_60 : decode cX4_starts 60 = .ok (.iload_n 3, 1) := by decide +kernel
theorem dX4_starts_61 : decode cX4_starts 61 = .ok (.iconst 1, 1) := by decide +kernel
theorem dX4_starts_62 : decode cX4_starts 62 = .ok (.iload 4, 2) := by decide +kernel
theorem dX4_starts_64 : decode cX4_starts 64 = .ok (.ishl, 1) := by decide +kernel
theorem dX4_starts_65 : decode cX4_starts 65 = .ok (.ior, 1) := by decide +kernel
theorem dX4_starts_66 : decode cX4_starts 66 = .ok (.istore_n 3, 1) := by decide +kernel
theorem dX4_starts_67 : decode cX4_starts 67 = .ok (.iinc 4 1, 3) := by decide +kernel
theorem dX4_starts_70 : decode cX4_starts 70 = .ok (.goto (-50), 3) := by decide +kernel
theorem dX4_starts_73 : decode cX4_starts 73 = .ok (.iload_n 3, 1) := by decide +kernel
theorem dX4_starts_74 : decode cX4_starts 74 = .ok (.ireturn, 1) := by decide +kernel
theorem dX4_laws_0 : decode cX4_laws 0 = .ok (.aload_n 0, 1) := by decide +kernel
theorem dX4_laws_1 : decode cX4_laws 1 = .ok (.getfield 45, 3) := by decide +kernel
theorem dX4_laws_4 : decode cX4_laws 4 = .ok (.iload_n 1, 1) := by decide +kernel
theorem dX4_laws_5 : decode cX4_laws 5 = .ok (.invokevirtual 202, 3) := by decide +kernel
theorem dX4_laws_8 : decode cX4_laws 8 = .ok (.istore_n 2, 1) := by decide +kernel
theorem dX4_laws_9 : decode cX4_laws 9 = .ok (.iload_n 2, 1) := by decide +kernel
theorem dX4_laws_10 : decode cX4_laws 10 = .ok (.ifCond .eq 5, 3) := by decide +kernel
theorem dX4_laws_13 : decode cX4_laws 13 = .ok (.iload_n 2, 1) := by decide +kernel
theorem dX4_laws_14 : decode cX4_laws 14 = .ok (.ireturn, 1) := by decide +kernel
theorem dX4_laws_15 : decode cX4_laws 15 = .ok (.iconst 0, 1) := by decide +kernel
theorem dX4_laws_16 : decode cX4_laws 16 = .ok (.istore_n 3, 1) := by decide +kernel
theorem dX4_laws_17 : decode cX4_laws 17 = .ok (.iconst 0, 1) := by decide +kernel
theorem dX4_laws_18 : decode cX4_laws 18 = .ok (.istore 4, 2) := by decide +kernel
theorem dX4_laws_20 : decode cX4_laws 20 = .ok (.iload 4, 2) := by decide +kernel
theorem dX4_laws_22 : decode cX4_laws 22 = .ok (.aload_n 0, 1) := by decide +kernel
theorem dX4_laws_23 : decode cX4_laws 23 = .ok (.getfield 10, 3) := by decide +kernel
theorem dX4_laws_26 : decode cX4_laws 26 = .ok (.getfield 66, 3) := by decide +kernel
theorem dX4_laws_29 : decode cX4_laws 29 = .ok (.if_icmp .ge 44, 3) := by decide +kernel
theorem dX4_laws_32 : decode cX4_laws 32 = .ok (.aload_n 0, 1) := by decide +kernel
theorem dX4_laws_33 : decode cX4_laws 33 = .ok (.getfield 32, 3) := by decide +kernel
theorem dX4_laws_36 : decode cX4_laws 36 = .ok (.aload_n 0, 1) := by decide +kernel
theorem dX4_laws_37 : decode cX4_laws 37 = .ok (.getfield 28, 3) := by decide +kernel
theorem dX4_laws_40 : decode cX4_laws 40 = .ok (.invokevirtual 157, 3) := by decide +kernel
theorem dX4_laws_43 : decode cX4_laws 43 = .ok (.aload_n 0, 1) := by decide +kernel
theorem dX4_laws_44 : decode cX4_laws 44 = .ok (.getfield 32, 3) := by decide +kernel
theorem dX4_laws_47 : decode cX4_laws 47 = .ok (.iload 4, 2) := by decide +kernel
theorem dX4_laws_49 : decode cX4_laws 49 = .ok (.putfield 69, 3) := by decide +kernel
theorem dX4_laws_52 : decode cX4_laws 52 = .ok (.aload_n 0, 1) := by decide +kernel
theorem dX4_laws_53 : decode cX4_laws 53 = .ok (.iload_n 1, 1) := by decide +kernel
theorem dX4_laws_54 : decode cX4_laws 54 = .ok (.invokevirtual 205, 3) := by decide +kernel
theorem dX4_laws_57 : decode cX4_laws 57 = .ok (.ifCond .ge 10, 3) := by decide +kernel
theorem dX4_laws_60 : decode cX4_laws 60 = .ok (.iload_n 3, 1) := by decide +kernel
theorem dX4_laws_61 : decode cX4_laws 61 = .ok (.iconst 1, 1) := by decide +kernel
theorem dX4_laws_62 : decode cX4_laws 62 = .ok (.iload 4, 2) := by decide +kernel
theorem dX4_laws_64 : decode cX4_laws 64 = .ok (.ishl, 1) := by decide +kernel
theorem dX4_laws_65 : decode cX4_laws 65 = .ok (.ior, 1) := by decide +kernel
theorem dX4_laws_66 : decode cX4_laws 66 = .ok (.istore_n 3, 1) := by decide +kernel
theorem dX4_laws_67 : decode cX4_laws 67 = .ok (.iinc 4 1, 3) := by decide +kernel
theorem dX4_laws_70 : decode cX4_laws 70 = .ok (.goto (-50), 3) := by decide +kernel
theorem dX4_laws_73 : decode cX4_laws 73 = .ok (.iload_n 3, 1) := by decide +kernel
theorem dX4_laws_74 : decode cX4_laws 74 = .ok (.ireturn, 1) := by decide +kernel
theorem dX4_film_0 : decode cX4_film 0 = .ok (.iload_n 1, 1) := by decide +kernel
theorem dX4_film_1 : decode cX4_film 1 = .ok (.invokestatic 218, 3) := by decide +kernel
theorem dX4_film_4 : decode cX4_film 4 = .ok (.ifCond .ne 6, 3) := by decide +kernel
theorem dX4_film_7 : decode cX4_film 7 = .ok (.bipush (-2), 2) := by decide +kernel
theorem dX4_film_9 : decode cX4_film 9 = .ok (.ireturn, 1) := by decide +kernel
theorem dX4_film_10 : decode cX4_film 10 = .ok (.iload_n 2, 1) := by decide +kernel
theorem dX4_film_11 : decode cX4_film 11 = .ok (.ifCond .lt 9, 3) := by decide +kernel
theorem dX4_film_14 : decode cX4_film 14 = .ok (.iload_n 2, 1) := by decide +kernel
theorem dX4_film_15 : decode cX4_film 15 = .ok (.bipush 30, 2) := by decide +kernel
theorem dX4_film_17 : decode cX4_film 17 = .ok (.if_icmp .le 6, 3) := by decide +kernel
theorem dX4_film_20 : decode cX4_film 20 = .ok (.bipush (-7), 2) := by decide +kernel
theorem dX4_film_22 : decode cX4_film 22 = .ok (.ireturn, 1) := by decide +kernel
theorem dX4_film_23 : decode cX4_film 23 = .ok (.aload_n 0, 1) := by decide +kernel
theorem dX4_film_24 : decode cX4_film 24 = .ok (.getfield 45, 3) := by decide +kernel
theorem dX4_film_27 : decode cX4_film 27 = .ok (.iload_n 1, 1) := by decide +kernel
theorem dX4_film_28 : decode cX4_film 28 = .ok (.iconst 0, 1) := by decide +kernel
theorem dX4_film_29 : decode cX4_film 29 = .ok (.iload_n 2, 1) := by decide +kernel
theorem dX4_film_30 : decode cX4_film 30 = .ok (.invokevirtual 221, 3) := by decide +kernel
theorem dX4_film_33 : decode cX4_film 33 = .ok (.aload_n 0, 1) := by decide +kernel
theorem dX4_film_34 : decode cX4_film 34 = .ok (.getfield 32, 3) := by decide +kernel
theorem dX4_film_37 : decode cX4_film 37 = .ok (.aload_n 0, 1) := by decide +kernel
theorem dX4_film_38 : decode cX4_film 38 = .ok (.getfield 28, 3) := by decide +kernel
theorem dX4_film_41 : decode cX4_film 41 = .ok (.invokevirtual 157, 3) := by decide +kernel
theorem dX4_film_44 : decode cX4_film 44 = .ok (.iconst 0, 1) := by decide +kernel
theorem dX4_film_45 : decode cX4_film 45 = .ok (.istore_n 3, 1) := by decide +kernel
theorem dX4_film_46 : decode cX4_film 46 = .ok (.iload_n 3, 1) := by decide +kernel
theorem dX4_film_47 : decode cX4_film 47 = .ok (.iload_n 2, 1) := by decide +kernel
theorem dX4_film_48 : decode cX4_film 48 = .ok (.if_icmp .ge 29, 3) := by decide +kernel
theorem dX4_film_51 : decode cX4_film 51 = .ok (.aload_n 0, 1) := by decide +kernel
theorem dX4_film_52 : decode cX4_film 52 = .ok (.getfield 45, 3) := by decide +kernel
theorem dX4_film_55 : decode cX4_film 55 = .ok (.getfield 211, 3) := by decide +kernel
theorem dX4_film_58 : decode cX4_film 58 = .ok (.iload_n 1, 1) := by decide +kernel
theorem dX4_film_59 : decode cX4_film 59 = .ok (.aaload, 1) := by decide +kernel
theorem dX4_film_60 : decode cX4_film 60 = .ok (.iload_n 3, 1) := by decide +kernel
theorem dX4_film_61 : decode cX4_film 61 = .ok (.aload_n 0, 1) := by decide +kernel
theorem dX4_film_62 : decode cX4_film 62 = .ok (.getfield 32, 3) := by decide +kernel
theorem dX4_film_65 : decode cX4_film 65 = .ok (.invokevirtual 151, 3) := by decide +kernel
theorem dX4_film_68 : decode cX4_film 68 = .ok (.iconst 1, 1) := by decide +kernel
theorem dX4_film_69 : decode cX4_film 69 = .ok (.iadd, 1) := by decide +kernel
theorem dX4_film_70 : decode cX4_film 70 = .ok (.iastore, 1) := by decide +kernel
theorem dX4_film_71 : decode cX4_film 71 = .ok (.iinc 3 1, 3) := by decide +kernel
theorem dX4_film_74 : decode cX4_film 74 = .ok (.goto (-28), 3) := by decide +kernel
theorem dX4_film_77 : decode cX4_film 77 = .ok (.iload_n 2, 1) := by decide +kernel
theorem dX4_film_78 : decode cX4_film 78 = .ok (.ireturn, 1) := by decide +kernel
theorem dX4_drawn_0 : decode cX4_drawn 0 = .ok (.iload_n 1, 1) := by decide +kernel
theorem dX4_drawn_1 : decode cX4_drawn 1 = .ok (.ifCond .lt 28, 3) := by decide +kernel
theorem dX4_drawn_4 : decode cX4_drawn 4 = .ok (.iload_n 1, 1) := by decide +kernel
theorem dX4_drawn_5 : decode cX4_drawn 5 = .ok (.ldc 223, 2) := by decide +kernel
theorem dX4_drawn_7 : decode cX4_drawn 7 = .ok (.if_icmp .gt 22, 3) := by decide +kernel
theorem dX4_drawn_10 : decode cX4_drawn 10 = .ok (.iload_n 2, 1) := by decide +kernel
theorem dX4_drawn_11 : decode cX4_drawn 11 = .ok (.ifCond .lt 18, 3) := by decide +kernel
theorem dX4_drawn_14 : decode cX4_drawn 14 = .ok (.iload_n 2, 1) := by decide +kernel
theorem dX4_drawn_15 : decode cX4_drawn 15 = .ok (.bipush 30, 2) := by decide +kernel
theorem dX4_drawn_17 : decode cX4_drawn 17 = .ok (.if_icmp .gt 12, 3) := by decide +kernel
theorem dX4_drawn_20 : decode cX4_drawn 20 = .ok (.iload_n 3, 1) := by decide +kernel
theorem dX4_drawn_21 : decode cX4_drawn 21 = .ok (.ifCond .lt 8, 3) := by decide +kernel
theorem dX4_drawn_24 : decode cX4_drawn 24 = .ok (.iload_n 3, 1) := by decide +kernel
theorem dX4_drawn_25 : decode cX4_drawn 25 = .ok (.iconst 1, 1) := by decide +kernel
theorem dX4_drawn_26 : decode cX4_drawn 26 = .ok (.if_icmp .le 6, 3) := by decide +kernel
theorem dX4_drawn_29 : decode cX4_drawn 29 = .ok (.bipush (-2), 2) := by decide +kernel
theorem dX4_drawn_31 : decode cX4_drawn 31 = .ok (.ireturn, 1) := by decide +kernel
theorem dX4_drawn_32 : decode cX4_drawn 32 = .ok (.aload_n 0, 1) := by decide +kernel
theorem dX4_drawn_33 : decode cX4_drawn 33 = .ok (.iload_n 1, 1) := by decide +kernel
theorem dX4_drawn_34 : decode cX4_drawn 34 = .ok (.iload_n 2, 1) := by decide +kernel
theorem dX4_drawn_35 : decode cX4_drawn 35 = .ok (.invokevirtual 224, 3) := by decide +kernel
theorem dX4_drawn_38 : decode cX4_drawn 38 = .ok (.aload_n 0, 1) := by decide +kernel
theorem dX4_drawn_39 : decode cX4_drawn 39 = .ok (.getfield 32, 3) := by decide +kernel
theorem dX4_drawn_42 : decode cX4_drawn 42 = .ok (.bipush 120, 2) := by decide +kernel
theorem dX4_drawn_44 : decode cX4_drawn 44 = .ok (.invokevirtual 161, 3) := by decide +kernel
theorem dX4_drawn_47 : decode cX4_drawn 47 = .ok (.istore 4, 2) := by decide +kernel
theorem dX4_drawn_49 : decode cX4_drawn 49 = .ok (.iload_n 3, 1) := by decide +kernel
theorem dX4_drawn_50 : decode cX4_drawn 50 = .ok (.iconst 1, 1) := by decide +kernel
theorem dX4_drawn_51 : decode cX4_drawn 51 = .ok (.if_icmp .ne 6, 3) := by decide +kernel
theorem dX4_drawn_54 : decode cX4_drawn 54 = .ok (.iload 4, 2) := by decide +kernel
theorem dX4_drawn_56 : decode cX4_drawn 56 = .ok (.ireturn, 1) := by decide +kernel
theorem dX4_drawn_57 : decode cX4_drawn 57 = .ok (.aload_n 0, 1) := by decide +kernel
theorem dX4_drawn_58 : decode cX4_drawn 58 = .ok (.getfield 32, 3) := by decide +kernel
theorem dX4_drawn_61 : decode cX4_drawn 61 = .ok (.getfield 126, 3) := by decide +kernel
theorem dX4_drawn_64 : decode cX4_drawn 64 = .ok (.aload_n 0, 1) := by decide +kernel
theorem dX4_drawn_65 : decode cX4_drawn 65 = .ok (.getfield 32, 3) := by decide +kernel
theorem dX4_drawn_68 : decode cX4_drawn 68 = .ok (.getfield 56, 3) := by decide +kernel
theorem dX4_drawn_71 : decode cX4_drawn 71 = .ok (.invokestatic 164, 3) := by decide +kernel
theorem dX4_drawn_74 : decode cX4_drawn 74 = .ok (.istore 5, 2) := by decide +kernel
theorem dX4_drawn_76 : decode cX4_drawn 76 = .ok (.iload 5, 2) := by decide +kernel
theorem dX4_drawn_78 : decode cX4_drawn 78 = .ok (.ifCond .ge 7, 3) := by decide +kernel
theorem dX4_drawn_81 : decode cX4_drawn 81 = .ok (.iconst 0, 1) := by decide +kernel
theorem dX4_drawn_82 : decode cX4_drawn 82 = .ok (.goto 13, 3) := by decide +kernel
theorem dX4_drawn_85 : decode cX4_drawn 85 = .ok (.aload_n 0, 1) := by decide +kernel
theorem dX4_drawn_86 : decode cX4_drawn 86 = .ok (.getfield 32, 3) := by decide +kernel
theorem dX4_drawn_89 : decode cX4_drawn 89 = .ok (.getfield 126, 3) := by decide +kernel
theorem dX4_drawn_92 : decode cX4_drawn 92 = .ok (.iload 5, 2) := by decide +kernel
theorem dX4_drawn_94 : decode cX4_drawn 94 = .ok (.iaload, 1) := by decide +kernel
theorem dX4_drawn_95 : decode cX4_drawn 95 = .ok (.ireturn, 1) := by decide +kernel
theorem dX4_putLots_0 : decode cX4_putLots 0 = .ok (.aload_n 0, 1) := by decide +kernel
theorem dX4_putLots_1 : decode cX4_putLots 1 = .ok (.getfield 32, 3) := by decide +kernel
theorem dX4_putLots_4 : decode cX4_putLots 4 = .ok (.aload_n 0, 1) := by decide +kernel
theorem dX4_putLots_5 : decode cX4_putLots 5 = .ok (.getfield 28, 3) := by decide +kernel
theorem dX4_putLots_8 : decode cX4_putLots 8 = .ok (.invokevirtual 157, 3) := by decide +kernel
theorem dX4_putLots_11 : decode cX4_putLots 11 = .ok (.iload_n 1, 1) := by decide +kernel
theorem dX4_putLots_12 : decode cX4_putLots 12 = .ok (.iconst 1, 1) := by decide +kernel
theorem dX4_putLots_13 : decode cX4_putLots 13 = .ok (.iadd, 1) := by decide +kernel
theorem dX4_putLots_14 : decode cX4_putLots 14 = .ok (.i2l, 1) := by decide +kernel
theorem dX4_putLots_15 : decode cX4_putLots 15 = .ok (.lstore_n 3, 1) := by decide +kernel
theorem dX4_putLots_16 : decode cX4_putLots 16 = .ok (.iconst 0, 1) := by decide +kernel
theorem dX4_putLots_17 : decode cX4_putLots 17 = .ok (.istore 5, 2) := by decide +kernel
theorem dX4_putLots_19 : decode cX4_putLots 19 = .ok (.iload 5, 2) := by decide +kernel
theorem dX4_putLots_21 : decode cX4_putLots 21 = .ok (.iload_n 2, 1) := by decide +kernel
theorem dX4_putLots_22 : decode cX4_putLots 22 = .ok (.if_icmp .ge 53, 3) := by decide +kernel
theorem dX4_putLots_25 : decode cX4_putLots 25 = .ok (.lload_n 3, 1) := by decide +kernel
theorem dX4_putLots_26 : decode cX4_putLots 26 = .ok (.ldc2_w 227, 3) := by decide +kernel
