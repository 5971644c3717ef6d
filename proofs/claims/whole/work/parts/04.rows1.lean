theorem dX0_init_0 : decode cX0_init 0 = .ok (.aload_n 0, 1) := by decide +kernel
theorem dX0_init_1 : decode cX0_init 1 = .ok (.invokespecial 3, 3) := by decide +kernel
theorem dX0_init_4 : decode cX0_init 4 = .ok (.aload_n 0, 1) := by decide +kernel
theorem dX0_init_5 : decode cX0_init 5 = .ok (.aload_n 1, 1) := by decide +kernel
theorem dX0_init_6 : decode cX0_init 6 = .ok (.putfield 9, 3) := by decide +kernel
theorem dX0_init_9 : decode cX0_init 9 = .ok (.aload_n 0, 1) := by decide +kernel
theorem dX0_init_10 : decode cX0_init 10 = .ok (.bipush 6, 2) := by decide +kernel
theorem dX0_init_12 : decode cX0_init 12 = .ok (.newarray .int, 2) := by decide +kernel
theorem dX0_init_14 : decode cX0_init 14 = .ok (.putfield 15, 3) := by decide +kernel
theorem dX0_init_17 : decode cX0_init 17 = .ok (.iconst 0, 1) := by decide +kernel
theorem dX0_init_18 : decode cX0_init 18 = .ok (.istore_n 2, 1) := by decide +kernel
theorem dX0_init_19 : decode cX0_init 19 = .ok (.iload_n 2, 1) := by decide +kernel
theorem dX0_init_20 : decode cX0_init 20 = .ok (.bipush 6, 2) := by decide +kernel
theorem dX0_init_22 : decode cX0_init 22 = .ok (.if_icmp .ge 18, 3) := by decide +kernel
theorem dX0_init_25 : decode cX0_init 25 = .ok (.aload_n 0, 1) := by decide +kernel
theorem dX0_init_26 : decode cX0_init 26 = .ok (.getfield 15, 3) := by decide +kernel
theorem dX0_init_29 : decode cX0_init 29 = .ok (.iload_n 2, 1) := by decide +kernel
theorem dX0_init_30 : decode cX0_init 30 = .ok (.iconst 1, 1) := by decide +kernel
theorem dX0_init_31 : decode cX0_init 31 = .ok (.iload_n 2, 1) := by decide +kernel
theorem dX0_init_32 : decode cX0_init 32 = .ok (.ishl, 1) := by decide +kernel
theorem dX0_init_33 : decode cX0_init 33 = .ok (.iastore, 1) := by decide +kernel
theorem dX0_init_34 : decode cX0_init 34 = .ok (.iinc 2 1, 3) := by decide +kernel
theorem dX0_init_37 : decode cX0_init 37 = .ok (.goto (-18), 3) := by decide +kernel
theorem dX0_init_40 : decode cX0_init 40 = .ok (.aload_n 0, 1) := by decide +kernel
theorem dX0_init_41 : decode cX0_init 41 = .ok (.bipush 6, 2) := by decide +kernel
theorem dX0_init_43 : decode cX0_init 43 = .ok (.newarray .int, 2) := by decide +kernel
theorem dX0_init_45 : decode cX0_init 45 = .ok (.putfield 19, 3) := by decide +kernel
theorem dX0_init_48 : decode cX0_init 48 = .ok (.aload_n 0, 1) := by decide +kernel
theorem dX0_init_49 : decode cX0_init 49 = .ok (.bipush 6, 2) := by decide +kernel
theorem dX0_init_51 : decode cX0_init 51 = .ok (.newarray .int, 2) := by decide +kernel
theorem dX0_init_53 : decode cX0_init 53 = .ok (.putfield 22, 3) := by decide +kernel
theorem dX0_init_56 : decode cX0_init 56 = .ok (.aload_n 0, 1) := by decide +kernel
theorem dX0_init_57 : decode cX0_init 57 = .ok (.bipush 6, 2) := by decide +kernel
theorem dX0_init_59 : decode cX0_init 59 = .ok (.newarray .int, 2) := by decide +kernel
theorem dX0_init_61 : decode cX0_init 61 = .ok (.putfield 25, 3) := by decide +kernel
theorem dX0_init_64 : decode cX0_init 64 = .ok (.aload_n 0, 1) := by decide +kernel
theorem dX0_init_65 : decode cX0_init 65 = .ok (.bipush 6, 2) := by decide +kernel
theorem dX0_init_67 : decode cX0_init 67 = .ok (.newarray .int, 2) := by decide +kernel
theorem dX0_init_69 : decode cX0_init 69 = .ok (.putfield 28, 3) := by decide +kernel
theorem dX0_init_72 : decode cX0_init 72 = .ok (.aload_n 0, 1) := by decide +kernel
theorem dX0_init_73 : decode cX0_init 73 = .ok (.bipush 6, 2) := by decide +kernel
theorem dX0_init_75 : decode cX0_init 75 = .ok (.newarray .int, 2) := by decide +kernel
theorem dX0_init_77 : decode cX0_init 77 = .ok (.putfield 31, 3) := by decide +kernel
theorem dX0_init_80 : decode cX0_init 80 = .ok (.aload_n 0, 1) := by decide +kernel
theorem dX0_init_81 : decode cX0_init 81 = .ok (.bipush 6, 2) := by decide +kernel
theorem dX0_init_83 : decode cX0_init 83 = .ok (.newarray .int, 2) := by decide +kernel
theorem dX0_init_85 : decode cX0_init 85 = .ok (.putfield 34, 3) := by decide +kernel
theorem dX0_init_88 : decode cX0_init 88 = .ok (.aload_n 0, 1) := by decide +kernel
theorem dX0_init_89 : decode cX0_init 89 = .ok (.bipush 6, 2) := by decide +kernel
theorem dX0_init_91 : decode cX0_init 91 = .ok (.newarray .int, 2) := by decide +kernel
theorem dX0_init_93 : decode cX0_init 93 = .ok (.putfield 37, 3) := by decide +kernel
theorem dX0_init_96 : decode cX0_init 96 = .ok (.return_, 1) := by decide +kernel
theorem dX0_become_0 : decode cX0_become 0 = .ok (.aload_n 1, 1) := by decide +kernel
theorem dX0_become_1 : decode cX0_become 1 = .ok (.getfield 15, 3) := by decide +kernel
theorem dX0_become_4 : decode cX0_become 4 = .ok (.iconst 0, 1) := by decide +kernel
theorem dX0_become_5 : decode cX0_become 5 = .ok (.aload_n 0, 1) := by decide +kernel
theorem dX0_become_6 : decode cX0_become 6 = .ok (.getfield 15, 3) := by decide +kernel
theorem dX0_become_9 : decode cX0_become 9 = .ok (.iconst 0, 1) := by decide +kernel
theorem dX0_become_10 : decode cX0_become 10 = .ok (.bipush 6, 2) := by decide +kernel
theorem dX0_become_12 : decode cX0_become 12 = .ok (.invokestatic 40, 3) := by decide +kernel
theorem dX0_become_15 : decode cX0_become 15 = .ok (.aload_n 1, 1) := by decide +kernel
theorem dX0_become_16 : decode cX0_become 16 = .ok (.getfield 19, 3) := by decide +kernel
theorem dX0_become_19 : decode cX0_become 19 = .ok (.iconst 0, 1) := by decide +kernel
theorem dX0_become_20 : decode cX0_become 20 = .ok (.aload_n 0, 1) := by decide +kernel
theorem dX0_become_21 : decode cX0_become 21 = .ok (.getfield 19, 3) := by decide +kernel
theorem dX0_become_24 : decode cX0_become 24 = .ok (.iconst 0, 1) := by decide +kernel
theorem dX0_become_25 : decode cX0_become 25 = .ok (.bipush 6, 2) := by decide +kernel
theorem dX0_become_27 : decode cX0_become 27 = .ok (.invokestatic 40, 3) := by decide +kernel
theorem dX0_become_30 : decode cX0_become 30 = .ok (.aload_n 1, 1) := by decide +kernel
theorem dX0_become_31 : decode cX0_become 31 = .ok (.getfield 22, 3) := by decide +kernel
theorem dX0_become_34 : decode cX0_become 34 = .ok (.iconst 0, 1) := by decide +kernel
theorem dX0_become_35 : decode cX0_become 35 = .ok (.aload_n 0, 1) := by decide +kernel
theorem dX0_become_36 : decode cX0_become 36 = .ok (.getfield 22, 3) := by decide +kernel
theorem dX0_become_39 : decode cX0_become 39 = .ok (.iconst 0, 1) := by decide +kernel
theorem dX0_become_40 : decode cX0_become 40 = .ok (.bipush 6, 2) := by decide +kernel
theorem dX0_become_42 : decode cX0_become 42 = .ok (.invokestatic 40, 3) := by decide +kernel
theorem dX0_become_45 : decode cX0_become 45 = .ok (.aload_n 1, 1) := by decide +kernel
theorem dX0_become_46 : decode cX0_become 46 = .ok (.getfield 25, 3) := by decide +kernel
theorem dX0_become_49 : decode cX0_become 49 = .ok (.iconst 0, 1) := by decide +kernel
theorem dX0_become_50 : decode cX0_become 50 = .ok (.aload_n 0, 1) := by decide +kernel
theorem dX0_become_51 : decode cX0_become 51 = .ok (.getfield 25, 3) := by decide +kernel
theorem dX0_become_54 : decode cX0_become 54 = .ok (.iconst 0, 1) := by decide +kernel
theorem dX0_become_55 : decode cX0_become 55 = .ok (.bipush 6, 2) := by decide +kernel
theorem dX0_become_57 : decode cX0_become 57 = .ok (.invokestatic 40, 3) := by decide +kernel
theorem dX0_become_60 : decode cX0_become 60 = .ok (.aload_n 1, 1) := by decide +kernel
theorem dX0_become_61 : decode cX0_become 61 = .ok (.getfield 28, 3) := by decide +kernel
theorem dX0_become_64 : decode cX0_become 64 = .ok (.iconst 0, 1) := by decide +kernel
theorem dX0_become_65 : decode cX0_become 65 = .ok (.aload_n 0, 1) := by decide +kernel
theorem dX0_become_66 : decode cX0_become 66 = .ok (.getfield 28, 3) := by decide +kernel
theorem dX0_become_69 : decode cX0_become 69 = .ok (.iconst 0, 1) := by decide +kernel
theorem dX0_become_70 : decode cX0_become 70 = .ok (.bipush 6, 2) := by decide +kernel
theorem dX0_become_72 : decode cX0_become 72 = .ok (.invokestatic 40, 3) := by decide +kernel
theorem dX0_become_75 : decode cX0_become 75 = .ok (.aload_n 1, 1) := by decide +kernel
theorem dX0_become_76 : decode cX0_become 76 = .ok (.getfield 31, 3) := by decide +kernel
theorem dX0_become_79 : decode cX0_become 79 = .ok (.iconst 0, 1) := by decide +kernel
theorem dX0_become_80 : decode cX0_become 80 = .ok (.aload_n 0, 1) := by decide +kernel
theorem dX0_become_81 : decode cX0_become 81 = .ok (.getfield 31, 3) := by decide +kernel
theorem dX0_become_84 : decode cX0_become 84 = .ok (.iconst 0, 1) := by decide +kernel
theorem dX0_become_85 : decode cX0_become 85 = .ok (.bipush 6, 2) := by decide +kernel
theorem dX0_become_87 : decode cX0_become 87 = .ok (.invokestatic 40, 3) := by decide +kernel
theorem dX0_become_90 : decode cX0_become 90 = .ok (.aload_n 1, 1) := by decide +kernel
theorem dX0_become_91 : decode cX0_become 91 = .ok (.getfield 34, 3) := by decide +kernel
theorem dX0_become_94 : decode cX0_become 94 = .ok (.iconst 0, 1) := by decide +kernel
theorem dX0_become_95 : decode cX0_become 95 = .ok (.aload_n 0, 1) := by decide +kernel
theorem dX0_become_96 : decode cX0_become 96 = .ok (.getfield 34, 3) := by decide +kernel
theorem dX0_become_99 : decode cX0_become 99 = .ok (.iconst 0, 1) := by decide +kernel
theorem dX0_become_100 : decode cX0_become 100 = .ok (.bipush 6, 2) := by decide +kernel
theorem dX0_become_102 : decode cX0_become 102 = .ok (.invokestatic 40, 3) := by decide +kernel
theorem dX0_become_105 : decode cX0_become 105 = .ok (.aload_n 0, 1) := by decide +kernel
theorem dX0_become_106 : decode cX0_become 106 = .ok (.aload_n 1, 1) := by decide +kernel
theorem dX0_become_107 : decode cX0_become 107 = .ok (.getfield 46, 3) := by decide +kernel
theorem dX0_become_110 : decode cX0_become 110 = .ok (.putfield 46, 3) := by decide +kernel
theorem dX0_become_113 : decode cX0_become 113 = .ok (.aload_n 0, 1) := by decide +kernel
theorem dX0_become_114 : decode cX0_become 114 = .ok (.aload_n 1, 1) := by decide +kernel
theorem dX0_become_115 : decode cX0_become 115 = .ok (.getfield 50, 3) := by decide +kernel
theorem dX0_become_118 : decode cX0_become 118 = .ok (.putfield 50, 3) := by decide +kernel
theorem dX0_become_121 : decode cX0_become 121 = .ok (.aload_n 0, 1) := by decide +kernel
theorem dX0_become_122 : decode cX0_become 122 = .ok (.aload_n 1, 1) := by decide +kernel
theorem dX0_become_123 : decode cX0_become 123 = .ok (.getfield 53, 3) := by decide +kernel
theorem dX0_become_126 : decode cX0_become 126 = .ok (.putfield 53, 3) := by decide +kernel
theorem dX0_become_129 : decode cX0_become 129 = .ok (.aload_n 0, 1) := by decide +kernel
theorem dX0_become_130 : decode cX0_become 130 = .ok (.aload_n 1, 1) := by decide +kernel
theorem dX0_become_131 : decode cX0_become 131 = .ok (.getfield 56, 3) := by decide +kernel
theorem dX0_become_134 : decode cX0_become 134 = .ok (.putfield 56, 3) := by decide +kernel
theorem dX0_become_137 : decode cX0_become 137 = .ok (.aload_n 0, 1) := by decide +kernel
theorem dX0_become_138 : decode cX0_become 138 = .ok (.aload_n 1, 1) := by decide +kernel
theorem dX0_become_139 : decode cX0_become 139 = .ok (.getfield 59, 3) := by decide +kernel
theorem dX0_become_142 : decode cX0_become 142 = .ok (.putfield 59, 3) := by decide +kernel
theorem dX0_become_145 : decode cX0_become 145 = .ok (.return_, 1) := by decide +kernel
theorem dX0_setInHat_0 : decode cX0_setInHat 0 = .ok (.aload_n 0, 1) := by decide +kernel
theorem dX0_setInHat_1 : decode cX0_setInHat 1 = .ok (.dup, 1) := by decide +kernel
theorem dX0_setInHat_2 : decode cX0_setInHat 2 = .ok (.getfield 50, 3) := by decide +kernel
theorem dX0_setInHat_5 : decode cX0_setInHat 5 = .ok (.iload_n 2, 1) := by decide +kernel
theorem dX0_setInHat_6 : decode cX0_setInHat 6 = .ok (.aload_n 0, 1) := by decide +kernel
theorem dX0_setInHat_7 : decode cX0_setInHat 7 = .ok (.getfield 19, 3) := by decide +kernel
theorem dX0_setInHat_10 : decode cX0_setInHat 10 = .ok (.iload_n 1, 1) := by decide +kernel
theorem dX0_setInHat_11 : decode cX0_setInHat 11 = .ok (.iaload, 1) := by decide +kernel
theorem dX0_setInHat_12 : decode cX0_setInHat 12 = .ok (.isub, 1) := by decide +kernel
theorem dX0_setInHat_13 : decode cX0_setInHat 13 = .ok (.iadd, 1) := by decide +kernel
theorem dX0_setInHat_14 : decode cX0_setInHat 14 = .ok (.putfield 50, 3) := by decide +kernel
theorem dX0_setInHat_17 : decode cX0_setInHat 17 = .ok (.aload_n 0, 1) := by decide +kernel
theorem dX0_setInHat_18 : decode cX0_setInHat 18 = .ok (.getfield 19, 3) := by decide +kernel
theorem dX0_setInHat_21 : decode cX0_setInHat 21 = .ok (.iload_n 1, 1) := by decide +kernel
theorem dX0_setInHat_22 : decode cX0_setInHat 22 = .ok (.iload_n 2, 1) := by decide +kernel
theorem dX0_setInHat_23 : decode cX0_setInHat 23 = .ok (.iastore, 1) := by decide +kernel
theorem dX0_setInHat_24 : decode cX0_setInHat 24 = .ok (.return_, 1) := by decide +kernel
theorem dX0_worthOfAll_0 : decode cX0_worthOfAll 0 = .ok (.iconst 0, 1) := by decide +kernel
theorem dX0_worthOfAll_1 : decode cX0_worthOfAll 1 = .ok (.istore_n 1, 1) := by decide +kernel
theorem dX0_worthOfAll_2 : decode cX0_worthOfAll 2 = .ok (.iconst 0, 1) := by decide +kernel
theorem dX0_worthOfAll_3 : decode cX0_worthOfAll 3 = .ok (.istore_n 2, 1) := by decide +kernel
theorem dX0_worthOfAll_4 : decode cX0_worthOfAll 4 = .ok (.iload_n 2, 1) := by decide +kernel
theorem dX0_worthOfAll_5 : decode cX0_worthOfAll 5 = .ok (.bipush 6, 2) := by decide +kernel
theorem dX0_worthOfAll_7 : decode cX0_worthOfAll 7 = .ok (.if_icmp .ge 25, 3) := by decide +kernel
theorem dX0_worthOfAll_10 : decode cX0_worthOfAll 10 = .ok (.iload_n 1, 1) := by decide +kernel
theorem dX0_worthOfAll_11 : decode cX0_worthOfAll 11 = .ok (.aload_n 0, 1) := by decide +kernel
theorem dX0_worthOfAll_12 : decode cX0_worthOfAll 12 = .ok (.getfield 15, 3) := by decide +kernel
theorem dX0_worthOfAll_15 : decode cX0_worthOfAll 15 = .ok (.iload_n 2, 1) := by decide +kernel
theorem dX0_worthOfAll_16 : decode cX0_worthOfAll 16 = .ok (.iaload, 1) := by decide +kernel
theorem dX0_worthOfAll_17 : decode cX0_worthOfAll 17 = .ok (.aload_n 0, 1) := by decide +kernel
theorem dX0_worthOfAll_18 : decode cX0_worthOfAll 18 = .ok (.getfield 19, 3) := by decide +kernel
theorem dX0_worthOfAll_21 : decode cX0_worthOfAll 21 = .ok (.iload_n 2, 1) := by decide +kernel
theorem dX0_worthOfAll_22 : decode cX0_worthOfAll 22 = .ok (.iaload, 1) := by decide +kernel
theorem dX0_worthOfAll_23 : decode cX0_worthOfAll 23 = .ok (.imul, 1) := by decide +kernel
theorem dX0_worthOfAll_24 : decode cX0_worthOfAll 24 = .ok (.iadd, 1) := by decide +kernel
theorem dX0_worthOfAll_25 : decode cX0_worthOfAll 25 = .ok (.istore_n 1, 1) := by decide +kernel
theorem dX0_worthOfAll_26 : decode cX0_worthOfAll 26 = .ok (.iinc 2 1, 3) := by decide +kernel
theorem dX0_worthOfAll_29 : decode cX0_worthOfAll 29 = .ok (.goto (-25), 3) := by decide +kernel
theorem dX0_worthOfAll_32 : decode cX0_worthOfAll 32 = .ok (.iload_n 1, 1) := by decide +kernel
theorem dX0_worthOfAll_33 : decode cX0_worthOfAll 33 = .ok (.ireturn, 1) := by decide +kernel
theorem dX0_comes_0 : decode cX0_comes 0 = .ok (.aload_n 0, 1) := by decide +kernel
theorem dX0_comes_1 : decode cX0_comes 1 = .ok (.getfield 46, 3) := by decide +kernel
theorem dX0_comes_4 : decode cX0_comes 4 = .ok (.istore_n 3, 1) := by decide +kernel
theorem dX0_comes_5 : decode cX0_comes 5 = .ok (.iload_n 3, 1) := by decide +kernel
theorem dX0_comes_6 : decode cX0_comes 6 = .ok (.ifCond .lt 9, 3) := by decide +kernel
theorem dX0_comes_9 : decode cX0_comes 9 = .ok (.iload_n 3, 1) := by decide +kernel
theorem dX0_comes_10 : decode cX0_comes 10 = .ok (.bipush 6, 2) := by decide +kernel
theorem dX0_comes_12 : decode cX0_comes 12 = .ok (.if_icmp .lt 6, 3) := by decide +kernel
theorem dX0_comes_15 : decode cX0_comes 15 = .ok (.bipush (-4), 2) := by decide +kernel
theorem dX0_comes_17 : decode cX0_comes 17 = .ok (.ireturn, 1) := by decide +kernel
theorem dX0_comes_18 : decode cX0_comes 18 = .ok (.aload_n 0, 1) := by decide +kernel
theorem dX0_comes_19 : decode cX0_comes 19 = .ok (.getfield 22, 3) := by decide +kernel
theorem dX0_comes_22 : decode cX0_comes 22 = .ok (.iload_n 3, 1) := by decide +kernel
theorem dX0_comes_23 : decode cX0_comes 23 = .ok (.iload_n 1, 1) := by decide +kernel
theorem dX0_comes_24 : decode cX0_comes 24 = .ok (.bipush 10, 2) := by decide +kernel
theorem dX0_comes_26 : decode cX0_comes 26 = .ok (.idiv, 1) := by decide +kernel
theorem dX0_comes_27 : decode cX0_comes 27 = .ok (.iastore, 1) := by decide +kernel
theorem dX0_comes_28 : decode cX0_comes 28 = .ok (.aload_n 0, 1) := by decide +kernel
theorem dX0_comes_29 : decode cX0_comes 29 = .ok (.getfield 25, 3) := by decide +kernel
theorem dX0_comes_32 : decode cX0_comes 32 = .ok (.iload_n 3, 1) := by decide +kernel
theorem dX0_comes_33 : decode cX0_comes 33 = .ok (.iload_n 1, 1) := by decide +kernel
theorem dX0_comes_34 : decode cX0_comes 34 = .ok (.bipush 10, 2) := by decide +kernel
theorem dX0_comes_36 : decode cX0_comes 36 = .ok (.irem, 1) := by decide +kernel
theorem dX0_comes_37 : decode cX0_comes 37 = .ok (.iastore, 1) := by decide +kernel
theorem dX0_comes_38 : decode cX0_comes 38 = .ok (.aload_n 0, 1) := by decide +kernel
theorem dX0_comes_39 : decode cX0_comes 39 = .ok (.getfield 28, 3) := by decide +kernel
theorem dX0_comes_42 : decode cX0_comes 42 = .ok (.iload_n 3, 1) := by decide +kernel
theorem dX0_comes_43 : decode cX0_comes 43 = .ok (.iload_n 2, 1) := by decide +kernel
theorem dX0_comes_44 : decode cX0_comes 44 = .ok (.iastore, 1) := by decide +kernel
theorem dX0_comes_45 : decode cX0_comes 45 = .ok (.aload_n 0, 1) := by decide +kernel
theorem dX0_comes_46 : decode cX0_comes 46 = .ok (.getfield 31, 3) := by decide +kernel
theorem dX0_comes_49 : decode cX0_comes 49 = .ok (.iload_n 3, 1) := by decide +kernel
theorem dX0_comes_50 : decode cX0_comes 50 = .ok (.iconst 0, 1) := by decide +kernel
theorem dX0_comes_51 : decode cX0_comes 51 = .ok (.iastore, 1) := by decide +kernel
theorem dX0_comes_52 : decode cX0_comes 52 = .ok (.aload_n 0, 1) := by decide +kernel
theorem dX0_comes_53 : decode cX0_comes 53 = .ok (.getfield 34, 3) := by decide +kernel
theorem dX0_comes_56 : decode cX0_comes 56 = .ok (.iload_n 3, 1) := by decide +kernel
theorem dX0_comes_57 : decode cX0_comes 57 = .ok (.iconst 0, 1) := by decide +kernel
theorem dX0_comes_58 : decode cX0_comes 58 = .ok (.iastore, 1) := by decide +kernel
theorem dX0_comes_59 : decode cX0_comes 59 = .ok (.aload_n 0, 1) := by decide +kernel
theorem dX0_comes_60 : decode cX0_comes 60 = .ok (.iload_n 3, 1) := by decide +kernel
theorem dX0_comes_61 : decode cX0_comes 61 = .ok (.iconst 1, 1) := by decide +kernel
theorem dX0_comes_62 : decode cX0_comes 62 = .ok (.iadd, 1) := by decide +kernel
theorem dX0_comes_63 : decode cX0_comes 63 = .ok (.putfield 46, 3) := by decide +kernel
theorem dX0_comes_66 : decode cX0_comes 66 = .ok (.iload_n 3, 1) := by decide +kernel
theorem dX0_comes_67 : decode cX0_comes 67 = .ok (.ireturn, 1) := by decide +kernel
set_option maxRecDepth 20000 in
theorem ggX0_says_X3_value : GoodIn wsX0_says wsX3_value := goodIn_r _ [21, 22, 23, 24, 25, 26, 20, 27, 42, 43, 44, 45] rfl (by decide +kernel)
set_option maxRecDepth 20000 in
theorem gX0_says_X3_value : GoodIn wsX0_says (wsV RX0 68 RX3 yX3_value wsX3_value) := goodIn_app (goodIn_of _ (by decide +kernel)) ggX0_says_X3_value
theorem dX0_says_0 : decode cX0_says 0 = .ok (.aload_n 0, 1) := by decide +kernel
theorem dX0_says_1 : decode cX0_says 1 = .ok (.getfield 37, 3) := by decide +kernel
theorem dX0_says_4 : decode cX0_says 4 = .ok (.iconst 0, 1) := by decide +kernel
theorem dX0_says_5 : decode cX0_says 5 = .ok (.aload_n 0, 1) := by decide +kernel
theorem dX0_says_6 : decode cX0_says 6 = .ok (.getfield 28, 3) := by decide +kernel
theorem dX0_says_9 : decode cX0_says 9 = .ok (.iload_n 2, 1) := by decide +kernel
theorem dX0_says_10 : decode cX0_says 10 = .ok (.iaload, 1) := by decide +kernel
theorem dX0_says_11 : decode cX0_says 11 = .ok (.iastore, 1) := by decide +kernel
theorem dX0_says_12 : decode cX0_says 12 = .ok (.aload_n 0, 1) := by decide +kernel
theorem dX0_says_13 : decode cX0_says 13 = .ok (.getfield 37, 3) := by decide +kernel
theorem dX0_says_16 : decode cX0_says 16 = .ok (.iconst 1, 1) := by decide +kernel
theorem dX0_says_17 : decode cX0_says 17 = .ok (.iload_n 3, 1) := by decide +kernel
theorem dX0_says_18 : decode cX0_says 18 = .ok (.ifCond .ge 7, 3) := by decide +kernel
theorem dX0_says_21 : decode cX0_says 21 = .ok (.iconst 0, 1) := by decide +kernel
theorem dX0_says_22 : decode cX0_says 22 = .ok (.goto 9, 3) := by decide +kernel
theorem dX0_says_25 : decode cX0_says 25 = .ok (.aload_n 0, 1) := by decide +kernel
theorem dX0_says_26 : decode cX0_says 26 = .ok (.getfield 15, 3) := by decide +kernel
theorem dX0_says_29 : decode cX0_says 29 = .ok (.iload_n 3, 1) := by decide +kernel
theorem dX0_says_30 : decode cX0_says 30 = .ok (.iaload, 1) := by decide +kernel
theorem dX0_says_31 : decode cX0_says 31 = .ok (.iastore, 1) := by decide +kernel
theorem dX0_says_32 : decode cX0_says 32 = .ok (.aload_n 0, 1) := by decide +kernel
theorem dX0_says_33 : decode cX0_says 33 = .ok (.getfield 37, 3) := by decide +kernel
theorem dX0_says_36 : decode cX0_says 36 = .ok (.iconst 2, 1) := by decide +kernel
theorem dX0_says_37 : decode cX0_says 37 = .ok (.aload_n 0, 1) := by decide +kernel
theorem dX0_says_38 : decode cX0_says 38 = .ok (.getfield 50, 3) := by decide +kernel
theorem dX0_says_41 : decode cX0_says 41 = .ok (.iastore, 1) := by decide +kernel
theorem dX0_says_42 : decode cX0_says 42 = .ok (.aload_n 0, 1) := by decide +kernel
theorem dX0_says_43 : decode cX0_says 43 = .ok (.getfield 37, 3) := by decide +kernel
theorem dX0_says_46 : decode cX0_says 46 = .ok (.iconst 3, 1) := by decide +kernel
theorem dX0_says_47 : decode cX0_says 47 = .ok (.bipush 99, 2) := by decide +kernel
theorem dX0_says_49 : decode cX0_says 49 = .ok (.aload_n 0, 1) := by decide +kernel
theorem dX0_says_50 : decode cX0_says 50 = .ok (.getfield 31, 3) := by decide +kernel
theorem dX0_says_53 : decode cX0_says 53 = .ok (.iload_n 2, 1) := by decide +kernel
theorem dX0_says_54 : decode cX0_says 54 = .ok (.iaload, 1) := by decide +kernel
theorem dX0_says_55 : decode cX0_says 55 = .ok (.invokestatic 62, 3) := by decide +kernel
theorem dX0_says_58 : decode cX0_says 58 = .ok (.iastore, 1) := by decide +kernel
theorem dX0_says_59 : decode cX0_says 59 = .ok (.aload_n 0, 1) := by decide +kernel
theorem dX0_says_60 : decode cX0_says 60 = .ok (.getfield 37, 3) := by decide +kernel
theorem dX0_says_63 : decode cX0_says 63 = .ok (.iconst 4, 1) := by decide +kernel
theorem dX0_says_64 : decode cX0_says 64 = .ok (.aload_n 0, 1) := by decide +kernel
theorem dX0_says_65 : decode cX0_says 65 = .ok (.getfield 56, 3) := by decide +kernel
theorem dX0_says_68 : decode cX0_says 68 = .ok (.iastore, 1) := by decide +kernel
theorem dX0_says_69 : decode cX0_says 69 = .ok (.aload_n 0, 1) := by decide +kernel
theorem dX0_says_70 : decode cX0_says 70 = .ok (.getfield 37, 3) := by decide +kernel
theorem dX0_says_73 : decode cX0_says 73 = .ok (.iconst 5, 1) := by decide +kernel
theorem dX0_says_74 : decode cX0_says 74 = .ok (.aload_n 0, 1) := by decide +kernel
theorem dX0_says_75 : decode cX0_says 75 = .ok (.getfield 25, 3) := by decide +kernel
theorem dX0_says_78 : decode cX0_says 78 = .ok (.iload_n 2, 1) := by decide +kernel
theorem dX0_says_79 : decode cX0_says 79 = .ok (.iaload, 1) := by decide +kernel
theorem dX0_says_80 : decode cX0_says 80 = .ok (.iastore, 1) := by decide +kernel
theorem dX0_says_81 : decode cX0_says 81 = .ok (.iload_n 1, 1) := by decide +kernel
theorem dX0_says_82 : decode cX0_says 82 = .ok (.iconst 2, 1) := by decide +kernel
theorem dX0_says_83 : decode cX0_says 83 = .ok (.if_icmp .ne 8, 3) := by decide +kernel
theorem dX0_says_86 : decode cX0_says 86 = .ok (.bipush (-99), 2) := by decide +kernel
theorem dX0_says_88 : decode cX0_says 88 = .ok (.goto 4, 3) := by decide +kernel
theorem dX0_says_91 : decode cX0_says 91 = .ok (.iconst 0, 1) := by decide +kernel
theorem dX0_says_92 : decode cX0_says 92 = .ok (.istore 4, 2) := by decide +kernel
theorem dX0_says_94 : decode cX0_says 94 = .ok (.iload 4, 2) := by decide +kernel
theorem dX0_says_96 : decode cX0_says 96 = .ok (.bipush 99, 2) := by decide +kernel
theorem dX0_says_98 : decode cX0_says 98 = .ok (.aload_n 0, 1) := by decide +kernel
theorem dX0_says_99 : decode cX0_says 99 = .ok (.getfield 9, 3) := by decide +kernel
theorem dX0_says_102 : decode cX0_says 102 = .ok (.aload_n 0, 1) := by decide +kernel
theorem dX0_says_103 : decode cX0_says 103 = .ok (.getfield 59, 3) := by decide +kernel
theorem dX0_says_106 : decode cX0_says 106 = .ok (.iload_n 1, 1) := by decide +kernel
theorem dX0_says_107 : decode cX0_says 107 = .ok (.aload_n 0, 1) := by decide +kernel
theorem dX0_says_108 : decode cX0_says 108 = .ok (.getfield 37, 3) := by decide +kernel
theorem dX0_says_111 : decode cX0_says 111 = .ok (.invokevirtual 68, 3) := by decide +kernel
theorem dX0_says_114 : decode cX0_says 114 = .ok (.invokestatic 62, 3) := by decide +kernel
theorem dX0_says_117 : decode cX0_says 117 = .ok (.invokestatic 74, 3) := by decide +kernel
theorem dX0_says_120 : decode cX0_says 120 = .ok (.ireturn, 1) := by decide +kernel
set_option maxRecDepth 20000 in
theorem ggX0_takes_X0_says : GoodIn wsX0_takes wsX0_says := goodIn_r _ [8, 9, 10, 11, 12, 13, 14, 15, 16, 17, 3, 2, 18, 19, 20, 21, 22, 23, 24, 25, 26, 27, 28, 29, 30, 31, 32, 33, 34, 35, 36, 37, 38, 39, 40, 41, 42, 43, 44, 45, 46, 47, 48, 49, 50, 51] rfl (by decide +kernel)
set_option maxRecDepth 20000 in
theorem gX0_takes_X0_says : GoodIn wsX0_takes (wsV RX0 77 RX0 yX0_says wsX0_says) := goodIn_app (goodIn_of _ (by decide +kernel)) ggX0_takes_X0_says
theorem dX0_takes_0 : decode cX0_takes 0 = .ok (.aload_n 0, 1) := by decide +kernel
theorem dX0_takes_1 : decode cX0_takes 1 = .ok (.getfield 22, 3) := by decide +kernel
theorem dX0_takes_4 : decode cX0_takes 4 = .ok (.iload_n 1, 1) := by decide +kernel
theorem dX0_takes_5 : decode cX0_takes 5 = .ok (.iaload, 1) := by decide +kernel
theorem dX0_takes_6 : decode cX0_takes 6 = .ok (.tableswitch 92 1 5 #[34, 44, 61, 44, 89], 34) := by decide +kernel
theorem dX0_takes_40 : decode cX0_takes 40 = .ok (.aload_n 0, 1) := by decide +kernel
theorem dX0_takes_41 : decode cX0_takes 41 = .ok (.iconst 0, 1) := by decide +kernel
theorem dX0_takes_42 : decode cX0_takes 42 = .ok (.iload_n 1, 1) := by decide +kernel
theorem dX0_takes_43 : decode cX0_takes 43 = .ok (.iconst (-1), 1) := by decide +kernel
theorem dX0_takes_44 : decode cX0_takes 44 = .ok (.invokevirtual 77, 3) := by decide +kernel
theorem dX0_takes_47 : decode cX0_takes 47 = .ok (.iconst 4, 1) := by decide +kernel
theorem dX0_takes_48 : decode cX0_takes 48 = .ok (.idiv, 1) := by decide +kernel
theorem dX0_takes_49 : decode cX0_takes 49 = .ok (.ireturn, 1) := by decide +kernel
theorem dX0_takes_50 : decode cX0_takes 50 = .ok (.aload_n 0, 1) := by decide +kernel
theorem dX0_takes_51 : decode cX0_takes 51 = .ok (.iconst 0, 1) := by decide +kernel
theorem dX0_takes_52 : decode cX0_takes 52 = .ok (.iload_n 1, 1) := by decide +kernel
theorem dX0_takes_53 : decode cX0_takes 53 = .ok (.iconst (-1), 1) := by decide +kernel
theorem dX0_takes_54 : decode cX0_takes 54 = .ok (.invokevirtual 77, 3) := by decide +kernel
theorem dX0_takes_57 : decode cX0_takes 57 = .ok (.iconst 5, 1) := by decide +kernel
theorem dX0_takes_58 : decode cX0_takes 58 = .ok (.aload_n 0, 1) := by decide +kernel
theorem dX0_takes_59 : decode cX0_takes 59 = .ok (.getfield 25, 3) := by decide +kernel
theorem dX0_takes_62 : decode cX0_takes 62 = .ok (.iload_n 1, 1) := by decide +kernel
theorem dX0_takes_63 : decode cX0_takes 63 = .ok (.iaload, 1) := by decide +kernel
theorem dX0_takes_64 : decode cX0_takes 64 = .ok (.imul, 1) := by decide +kernel
theorem dX0_takes_65 : decode cX0_takes 65 = .ok (.iadd, 1) := by decide +kernel
theorem dX0_takes_66 : decode cX0_takes 66 = .ok (.ireturn, 1) := by decide +kernel
theorem dX0_takes_67 : decode cX0_takes 67 = .ok (.aload_n 0, 1) := by decide +kernel
theorem dX0_takes_68 : decode cX0_takes 68 = .ok (.getfield 56, 3) := by decide +kernel
theorem dX0_takes_71 : decode cX0_takes 71 = .ok (.iconst 2, 1) := by decide +kernel
theorem dX0_takes_72 : decode cX0_takes 72 = .ok (.irem, 1) := by decide +kernel
theorem dX0_takes_73 : decode cX0_takes 73 = .ok (.ifCond .ne 12, 3) := by decide +kernel
theorem dX0_takes_76 : decode cX0_takes 76 = .ok (.aload_n 0, 1) := by decide +kernel
theorem dX0_takes_77 : decode cX0_takes 77 = .ok (.getfield 25, 3) := by decide +kernel
theorem dX0_takes_80 : decode cX0_takes 80 = .ok (.iload_n 1, 1) := by decide +kernel
theorem dX0_takes_81 : decode cX0_takes 81 = .ok (.iaload, 1) := by decide +kernel
theorem dX0_takes_82 : decode cX0_takes 82 = .ok (.goto 12, 3) := by decide +kernel
theorem dX0_takes_85 : decode cX0_takes 85 = .ok (.aload_n 0, 1) := by decide +kernel
theorem dX0_takes_86 : decode cX0_takes 86 = .ok (.iconst 0, 1) := by decide +kernel
theorem dX0_takes_87 : decode cX0_takes 87 = .ok (.iload_n 1, 1) := by decide +kernel
theorem dX0_takes_88 : decode cX0_takes 88 = .ok (.iconst (-1), 1) := by decide +kernel
theorem dX0_takes_89 : decode cX0_takes 89 = .ok (.invokevirtual 77, 3) := by decide +kernel
theorem dX0_takes_92 : decode cX0_takes 92 = .ok (.iconst 4, 1) := by decide +kernel
theorem dX0_takes_93 : decode cX0_takes 93 = .ok (.idiv, 1) := by decide +kernel
theorem dX0_takes_94 : decode cX0_takes 94 = .ok (.ireturn, 1) := by decide +kernel
theorem dX0_takes_95 : decode cX0_takes 95 = .ok (.bipush 99, 2) := by decide +kernel
theorem dX0_takes_97 : decode cX0_takes 97 = .ok (.ireturn, 1) := by decide +kernel
theorem dX0_takes_98 : decode cX0_takes 98 = .ok (.aload_n 0, 1) := by decide +kernel
theorem dX0_takes_99 : decode cX0_takes 99 = .ok (.iconst 0, 1) := by decide +kernel
theorem dX0_takes_100 : decode cX0_takes 100 = .ok (.iload_n 1, 1) := by decide +kernel
theorem dX0_takes_101 : decode cX0_takes 101 = .ok (.iconst (-1), 1) := by decide +kernel
theorem dX0_takes_102 : decode cX0_takes 102 = .ok (.invokevirtual 77, 3) := by decide +kernel
theorem dX0_takes_105 : decode cX0_takes 105 = .ok (.ireturn, 1) := by decide +kernel
set_option maxRecDepth 20000 in
theorem ggX0_sounds_X0_says : GoodIn wsX0_sounds wsX0_says := goodIn_r _ [7, 8, 9, 10, 11, 12, 13, 14, 15, 16, 17, 2, 18, 19, 20, 21, 22, 23, 24, 25, 26, 27, 28, 29, 30, 31, 32, 33, 34, 35, 36, 37, 38, 39, 40, 41, 42, 43, 44, 45, 46, 47, 48, 49, 50, 51] rfl (by decide +kernel)
set_option maxRecDepth 20000 in
theorem gX0_sounds_X0_says : GoodIn wsX0_sounds (wsV RX0 77 RX0 yX0_says wsX0_says) := goodIn_app (goodIn_of _ (by decide +kernel)) ggX0_sounds_X0_says
theorem dX0_sounds_0 : decode cX0_sounds 0 = .ok (.aload_n 0, 1) := by decide +kernel
theorem dX0_sounds_1 : decode cX0_sounds 1 = .ok (.getfield 22, 3) := by decide +kernel
theorem dX0_sounds_4 : decode cX0_sounds 4 = .ok (.iload_n 1, 1) := by decide +kernel
theorem dX0_sounds_5 : decode cX0_sounds 5 = .ok (.iaload, 1) := by decide +kernel
theorem dX0_sounds_6 : decode cX0_sounds 6 = .ok (.tableswitch 64 1 4 #[30, 64, 45, 62], 30) := by decide +kernel
theorem dX0_sounds_36 : decode cX0_sounds 36 = .ok (.aload_n 0, 1) := by decide +kernel
theorem dX0_sounds_37 : decode cX0_sounds 37 = .ok (.iconst 1, 1) := by decide +kernel
theorem dX0_sounds_38 : decode cX0_sounds 38 = .ok (.iload_n 1, 1) := by decide +kernel
theorem dX0_sounds_39 : decode cX0_sounds 39 = .ok (.iload_n 2, 1) := by decide +kernel
theorem dX0_sounds_40 : decode cX0_sounds 40 = .ok (.invokevirtual 77, 3) := by decide +kernel
theorem dX0_sounds_43 : decode cX0_sounds 43 = .ok (.aload_n 0, 1) := by decide +kernel
theorem dX0_sounds_44 : decode cX0_sounds 44 = .ok (.getfield 25, 3) := by decide +kernel
theorem dX0_sounds_47 : decode cX0_sounds 47 = .ok (.iload_n 1, 1) := by decide +kernel
theorem dX0_sounds_48 : decode cX0_sounds 48 = .ok (.iaload, 1) := by decide +kernel
theorem dX0_sounds_49 : decode cX0_sounds 49 = .ok (.iadd, 1) := by decide +kernel
theorem dX0_sounds_50 : decode cX0_sounds 50 = .ok (.ireturn, 1) := by decide +kernel
theorem dX0_sounds_51 : decode cX0_sounds 51 = .ok (.iconst 3, 1) := by decide +kernel
theorem dX0_sounds_52 : decode cX0_sounds 52 = .ok (.aload_n 0, 1) := by decide +kernel
theorem dX0_sounds_53 : decode cX0_sounds 53 = .ok (.iconst 1, 1) := by decide +kernel
theorem dX0_sounds_54 : decode cX0_sounds 54 = .ok (.iload_n 1, 1) := by decide +kernel
theorem dX0_sounds_55 : decode cX0_sounds 55 = .ok (.iload_n 2, 1) := by decide +kernel
theorem dX0_sounds_56 : decode cX0_sounds 56 = .ok (.invokevirtual 77, 3) := by decide +kernel
theorem dX0_sounds_59 : decode cX0_sounds 59 = .ok (.aload_n 0, 1) := by decide +kernel
theorem dX0_sounds_60 : decode cX0_sounds 60 = .ok (.getfield 25, 3) := by decide +kernel
theorem dX0_sounds_63 : decode cX0_sounds 63 = .ok (.iload_n 1, 1) := by decide +kernel
theorem dX0_sounds_64 : decode cX0_sounds 64 = .ok (.iaload, 1) := by decide +kernel
theorem dX0_sounds_65 : decode cX0_sounds 65 = .ok (.iadd, 1) := by decide +kernel
theorem dX0_sounds_66 : decode cX0_sounds 66 = .ok (.imul, 1) := by decide +kernel
theorem dX0_sounds_67 : decode cX0_sounds 67 = .ok (.ireturn, 1) := by decide +kernel
theorem dX0_sounds_68 : decode cX0_sounds 68 = .ok (.iconst 0, 1) := by decide +kernel
theorem dX0_sounds_69 : decode cX0_sounds 69 = .ok (.ireturn, 1) := by decide +kernel
theorem dX0_sounds_70 : decode cX0_sounds 70 = .ok (.aload_n 0, 1) := by decide +kernel
theorem dX0_sounds_71 : decode cX0_sounds 71 = .ok (.iconst 1, 1) := by decide +kernel
theorem dX0_sounds_72 : decode cX0_sounds 72 = .ok (.iload_n 1, 1) := by decide +kernel
theorem dX0_sounds_73 : decode cX0_sounds 73 = .ok (.iload_n 2, 1) := by decide +kernel
theorem dX0_sounds_74 : decode cX0_sounds 74 = .ok (.invokevirtual 77, 3) := by decide +kernel
theorem dX0_sounds_77 : decode cX0_sounds 77 = .ok (.ireturn, 1) := by decide +kernel
set_option maxRecDepth 20000 in
theorem ggX0_costs_X0_says : GoodIn wsX0_costs wsX0_says := goodIn_r _ [7, 8, 9, 10, 11, 12, 13, 14, 15, 16, 17, 2, 18, 19, 20, 21, 22, 23, 24, 25, 26, 27, 28, 29, 30, 31, 32, 33, 34, 35, 36, 37, 38, 39, 40, 41, 42, 43, 44, 45, 46, 47, 48, 49, 50, 51] rfl (by decide +kernel)
set_option maxRecDepth 20000 in
theorem gX0_costs_X0_says : GoodIn wsX0_costs (wsV RX0 77 RX0 yX0_says wsX0_says) := goodIn_app (goodIn_of _ (by decide +kernel)) ggX0_costs_X0_says
theorem dX0_costs_0 : decode cX0_costs 0 = .ok (.aload_n 0, 1) := by decide +kernel
theorem dX0_costs_1 : decode cX0_costs 1 = .ok (.getfield 22, 3) := by decide +kernel
theorem dX0_costs_4 : decode cX0_costs 4 = .ok (.iload_n 1, 1) := by decide +kernel
theorem dX0_costs_5 : decode cX0_costs 5 = .ok (.iaload, 1) := by decide +kernel
theorem dX0_costs_6 : decode cX0_costs 6 = .ok (.tableswitch 59 2 5 #[30, 59, 40, 57], 30) := by decide +kernel
theorem dX0_costs_36 : decode cX0_costs 36 = .ok (.iconst 2, 1) := by decide +kernel
theorem dX0_costs_37 : decode cX0_costs 37 = .ok (.aload_n 0, 1) := by decide +kernel
theorem dX0_costs_38 : decode cX0_costs 38 = .ok (.iconst 2, 1) := by decide +kernel
theorem dX0_costs_39 : decode cX0_costs 39 = .ok (.iload_n 1, 1) := by decide +kernel
theorem dX0_costs_40 : decode cX0_costs 40 = .ok (.iload_n 2, 1) := by decide +kernel
theorem dX0_costs_41 : decode cX0_costs 41 = .ok (.invokevirtual 77, 3) := by decide +kernel
theorem dX0_costs_44 : decode cX0_costs 44 = .ok (.imul, 1) := by decide +kernel
theorem dX0_costs_45 : decode cX0_costs 45 = .ok (.ireturn, 1) := by decide +kernel
theorem dX0_costs_46 : decode cX0_costs 46 = .ok (.iconst 2, 1) := by decide +kernel
theorem dX0_costs_47 : decode cX0_costs 47 = .ok (.aload_n 0, 1) := by decide +kernel
theorem dX0_costs_48 : decode cX0_costs 48 = .ok (.iconst 2, 1) := by decide +kernel
theorem dX0_costs_49 : decode cX0_costs 49 = .ok (.iload_n 1, 1) := by decide +kernel
theorem dX0_costs_50 : decode cX0_costs 50 = .ok (.iload_n 2, 1) := by decide +kernel
theorem dX0_costs_51 : decode cX0_costs 51 = .ok (.invokevirtual 77, 3) := by decide +kernel
theorem dX0_costs_54 : decode cX0_costs 54 = .ok (.imul, 1) := by decide +kernel
theorem dX0_costs_55 : decode cX0_costs 55 = .ok (.aload_n 0, 1) := by decide +kernel
theorem dX0_costs_56 : decode cX0_costs 56 = .ok (.getfield 25, 3) := by decide +kernel
theorem dX0_costs_59 : decode cX0_costs 59 = .ok (.iload_n 1, 1) := by decide +kernel
theorem dX0_costs_60 : decode cX0_costs 60 = .ok (.iaload, 1) := by decide +kernel
theorem dX0_costs_61 : decode cX0_costs 61 = .ok (.isub, 1) := by decide +kernel
theorem dX0_costs_62 : decode cX0_costs 62 = .ok (.ireturn, 1) := by decide +kernel
theorem dX0_costs_63 : decode cX0_costs 63 = .ok (.iconst 0, 1) := by decide +kernel
theorem dX0_costs_64 : decode cX0_costs 64 = .ok (.ireturn, 1) := by decide +kernel
theorem dX0_costs_65 : decode cX0_costs 65 = .ok (.aload_n 0, 1) := by decide +kernel
theorem dX0_costs_66 : decode cX0_costs 66 = .ok (.iconst 2, 1) := by decide +kernel
theorem dX0_costs_67 : decode cX0_costs 67 = .ok (.iload_n 1, 1) := by decide +kernel
theorem dX0_costs_68 : decode cX0_costs 68 = .ok (.iload_n 2, 1) := by decide +kernel
theorem dX0_costs_69 : decode cX0_costs 69 = .ok (.invokevirtual 77, 3) := by decide +kernel
theorem dX0_costs_72 : decode cX0_costs 72 = .ok (.ireturn, 1) := by decide +kernel
theorem dX0_coinUpTo_0 : decode cX0_coinUpTo 0 = .ok (.iconst (-1), 1) := by decide +kernel
theorem dX0_coinUpTo_1 : decode cX0_coinUpTo 1 = .ok (.istore_n 2, 1) := by decide +kernel
theorem dX0_coinUpTo_2 : decode cX0_coinUpTo 2 = .ok (.iconst (-1), 1) := by decide +kernel
theorem dX0_coinUpTo_3 : decode cX0_coinUpTo 3 = .ok (.istore_n 3, 1) := by decide +kernel
theorem dX0_coinUpTo_4 : decode cX0_coinUpTo 4 = .ok (.iconst 0, 1) := by decide +kernel
theorem dX0_coinUpTo_5 : decode cX0_coinUpTo 5 = .ok (.istore 4, 2) := by decide +kernel
theorem dX0_coinUpTo_7 : decode cX0_coinUpTo 7 = .ok (.iload 4, 2) := by decide +kernel
theorem dX0_coinUpTo_9 : decode cX0_coinUpTo 9 = .ok (.bipush 6, 2) := by decide +kernel
theorem dX0_coinUpTo_11 : decode cX0_coinUpTo 11 = .ok (.if_icmp .ge 76, 3) := by decide +kernel
theorem dX0_coinUpTo_14 : decode cX0_coinUpTo 14 = .ok (.aload_n 0, 1) := by decide +kernel
theorem dX0_coinUpTo_15 : decode cX0_coinUpTo 15 = .ok (.getfield 19, 3) := by decide +kernel
theorem dX0_coinUpTo_18 : decode cX0_coinUpTo 18 = .ok (.iload 4, 2) := by decide +kernel
theorem dX0_coinUpTo_20 : decode cX0_coinUpTo 20 = .ok (.iaload, 1) := by decide +kernel
theorem dX0_coinUpTo_21 : decode cX0_coinUpTo 21 = .ok (.ifCond .le 60, 3) := by decide +kernel
theorem dX0_coinUpTo_24 : decode cX0_coinUpTo 24 = .ok (.aload_n 0, 1) := by decide +kernel
theorem dX0_coinUpTo_25 : decode cX0_coinUpTo 25 = .ok (.getfield 15, 3) := by decide +kernel
theorem dX0_coinUpTo_28 : decode cX0_coinUpTo 28 = .ok (.iload 4, 2) := by decide +kernel
theorem dX0_coinUpTo_30 : decode cX0_coinUpTo 30 = .ok (.iaload, 1) := by decide +kernel
theorem dX0_coinUpTo_31 : decode cX0_coinUpTo 31 = .ok (.iload_n 1, 1) := by decide +kernel
theorem dX0_coinUpTo_32 : decode cX0_coinUpTo 32 = .ok (.if_icmp .gt 26, 3) := by decide +kernel
theorem dX0_coinUpTo_35 : decode cX0_coinUpTo 35 = .ok (.iload_n 2, 1) := by decide +kernel
theorem dX0_coinUpTo_36 : decode cX0_coinUpTo 36 = .ok (.ifCond .lt 19, 3) := by decide +kernel
theorem dX0_coinUpTo_39 : decode cX0_coinUpTo 39 = .ok (.aload_n 0, 1) := by decide +kernel
theorem dX0_coinUpTo_40 : decode cX0_coinUpTo 40 = .ok (.getfield 15, 3) := by decide +kernel
theorem dX0_coinUpTo_43 : decode cX0_coinUpTo 43 = .ok (.iload 4, 2) := by decide +kernel
theorem dX0_coinUpTo_45 : decode cX0_coinUpTo 45 = .ok (.iaload, 1) := by decide +kernel
theorem dX0_coinUpTo_46 : decode cX0_coinUpTo 46 = .ok (.aload_n 0, 1) := by decide +kernel
theorem dX0_coinUpTo_47 : decode cX0_coinUpTo 47 = .ok (.getfield 15, 3) := by decide +kernel
theorem dX0_coinUpTo_50 : decode cX0_coinUpTo 50 = .ok (.iload_n 2, 1) := by decide +kernel
theorem dX0_coinUpTo_51 : decode cX0_coinUpTo 51 = .ok (.iaload, 1) := by decide +kernel
theorem dX0_coinUpTo_52 : decode cX0_coinUpTo 52 = .ok (.if_icmp .le 6, 3) := by decide +kernel
theorem dX0_coinUpTo_55 : decode cX0_coinUpTo 55 = .ok (.iload 4, 2) := by decide +kernel
theorem dX0_coinUpTo_57 : decode cX0_coinUpTo 57 = .ok (.istore_n 2, 1) := by decide +kernel
theorem dX0_coinUpTo_58 : decode cX0_coinUpTo 58 = .ok (.iload_n 3, 1) := by decide +kernel
theorem dX0_coinUpTo_59 : decode cX0_coinUpTo 59 = .ok (.ifCond .lt 19, 3) := by decide +kernel
theorem dX0_coinUpTo_62 : decode cX0_coinUpTo 62 = .ok (.aload_n 0, 1) := by decide +kernel
theorem dX0_coinUpTo_63 : decode cX0_coinUpTo 63 = .ok (.getfield 15, 3) := by decide +kernel
theorem dX0_coinUpTo_66 : decode cX0_coinUpTo 66 = .ok (.iload 4, 2) := by decide +kernel
theorem dX0_coinUpTo_68 : decode cX0_coinUpTo 68 = .ok (.iaload, 1) := by decide +kernel
theorem dX0_coinUpTo_69 : decode cX0_coinUpTo 69 = .ok (.aload_n 0, 1) := by decide +kernel
theorem dX0_coinUpTo_70 : decode cX0_coinUpTo 70 = .ok (.getfield 15, 3) := by decide +kernel
theorem dX0_coinUpTo_73 : decode cX0_coinUpTo 73 = .ok (.iload_n 3, 1) := by decide +kernel
theorem dX0_coinUpTo_74 : decode cX0_coinUpTo 74 = .ok (.iaload, 1) := by decide +kernel
theorem dX0_coinUpTo_75 : decode cX0_coinUpTo 75 = .ok (.if_icmp .ge 6, 3) := by decide +kernel
theorem dX0_coinUpTo_78 : decode cX0_coinUpTo 78 = .ok (.iload 4, 2) := by decide +kernel
theorem dX0_coinUpTo_80 : decode cX0_coinUpTo 80 = .ok (.istore_n 3, 1) := by decide +kernel
theorem dX0_coinUpTo_81 : decode cX0_coinUpTo 81 = .ok (.iinc 4 1, 3) := by decide +kernel
theorem dX0_coinUpTo_84 : decode cX0_coinUpTo 84 = .ok (.goto (-77), 3) := by decide +kernel
theorem dX0_coinUpTo_87 : decode cX0_coinUpTo 87 = .ok (.iload_n 2, 1) := by decide +kernel
theorem dX0_coinUpTo_88 : decode cX0_coinUpTo 88 = .ok (.ifCond .ge 7, 3) := by decide +kernel
theorem dX0_coinUpTo_91 : decode cX0_coinUpTo 91 = .ok (.iload_n 3, 1) := by decide +kernel
theorem dX0_coinUpTo_92 : decode cX0_coinUpTo 92 = .ok (.goto 4, 3) := by decide +kernel
theorem dX0_coinUpTo_95 : decode cX0_coinUpTo 95 = .ok (.iload_n 2, 1) := by decide +kernel
theorem dX0_coinUpTo_96 : decode cX0_coinUpTo 96 = .ok (.ireturn, 1) := by decide +kernel
set_option maxRecDepth 20000 in
theorem ggX0_take_X0_takes : GoodIn wsX0_take wsX0_takes := goodIn_r _ [18, 19, 20, 13, 21, 22, 23, 17, 24, 25, 12, 3, 26, 2, 4, 5, 6, 7, 27, 28, 9, 10, 11, 29, 30, 31, 32, 33, 34, 35, 36, 37, 38, 39, 56, 57, 58, 59, 60, 61, 62, 63, 64, 65, 66, 67, 68, 69, 70, 71, 72, 73] rfl (by decide +kernel)
set_option maxRecDepth 20000 in
theorem gX0_take_X0_takes : GoodIn wsX0_take (wsV RX0 81 RX0 yX0_takes wsX0_takes) := goodIn_app (goodIn_of _ (by decide +kernel)) ggX0_take_X0_takes
set_option maxRecDepth 20000 in
theorem ggX0_take_X0_coinUpTo : GoodIn wsX0_take wsX0_coinUpTo := goodIn_r _ [43, 1, 3, 56, 57, 58, 59, 60, 61, 62, 63, 64, 65, 66, 67, 68, 69] rfl (by decide +kernel)
set_option maxRecDepth 20000 in
theorem gX0_take_X0_coinUpTo : GoodIn wsX0_take (wsV RX0 85 RX0 yX0_coinUpTo wsX0_coinUpTo) := goodIn_app (goodIn_of _ (by decide +kernel)) ggX0_take_X0_coinUpTo
set_option maxRecDepth 20000 in
theorem ggX0_take_X0_sounds : GoodIn wsX0_take wsX0_sounds := goodIn_r _ [47, 19, 20, 21, 22, 23, 17, 24, 25, 12, 3, 26, 2, 4, 5, 6, 7, 13, 27, 28, 9, 10, 11, 29, 30, 31, 32, 33, 34, 35, 36, 37, 38, 39, 56, 57, 58, 59, 60, 61, 62, 63, 64, 65, 66, 67, 68, 69, 70, 71, 72, 73] rfl (by decide +kernel)
set_option maxRecDepth 20000 in
theorem gX0_take_X0_sounds : GoodIn wsX0_take (wsV RX0 88 RX0 yX0_sounds wsX0_sounds) := goodIn_app (goodIn_of _ (by decide +kernel)) ggX0_take_X0_sounds
set_option maxRecDepth 20000 in
theorem ggX0_take_X0_costs : GoodIn wsX0_take wsX0_costs := goodIn_r _ [51, 19, 20, 21, 22, 23, 17, 24, 25, 12, 3, 26, 2, 4, 5, 6, 7, 13, 27, 28, 9, 10, 11, 29, 30, 31, 32, 33, 34, 35, 36, 37, 38, 39, 56, 57, 58, 59, 60, 61, 62, 63, 64, 65, 66, 67, 68, 69, 70, 71, 72, 73] rfl (by decide +kernel)
set_option maxRecDepth 20000 in
theorem gX0_take_X0_costs : GoodIn wsX0_take (wsV RX0 91 RX0 yX0_costs wsX0_costs) := goodIn_app (goodIn_of _ (by decide +kernel)) ggX0_take_X0_costs
set_option maxRecDepth 20000 in
theorem ggX0_take_X0_setInHat : GoodIn wsX0_take wsX0_setInHat := goodIn_r _ [55, 26, 1, 56, 57, 58, 59, 60, 61, 62, 63, 64, 65, 66, 67, 68, 69] rfl (by decide +kernel)
set_option maxRecDepth 20000 in
theorem gX0_take_X0_setInHat : GoodIn wsX0_take (wsV RX0 94 RX0 yX0_setInHat wsX0_setInHat) := goodIn_app (goodIn_of _ (by decide +kernel)) ggX0_take_X0_setInHat
theorem dX0_take_0 : decode cX0_take 0 = .ok (.aload_n 0, 1) := by decide +kernel
theorem dX0_take_1 : decode cX0_take 1 = .ok (.aload_n 0, 1) := by decide +kernel
theorem dX0_take_2 : decode cX0_take 2 = .ok (.iload_n 1, 1) := by decide +kernel
theorem dX0_take_3 : decode cX0_take 3 = .ok (.invokevirtual 81, 3) := by decide +kernel
theorem dX0_take_6 : decode cX0_take 6 = .ok (.invokevirtual 85, 3) := by decide +kernel
theorem dX0_take_9 : decode cX0_take 9 = .ok (.istore_n 2, 1) := by decide +kernel
theorem dX0_take_10 : decode cX0_take 10 = .ok (.iload_n 2, 1) := by decide +kernel
theorem dX0_take_11 : decode cX0_take 11 = .ok (.ifCond .lt 96, 3) := by decide +kernel
theorem dX0_take_14 : decode cX0_take 14 = .ok (.aload_n 0, 1) := by decide +kernel
theorem dX0_take_15 : decode cX0_take 15 = .ok (.iload_n 1, 1) := by decide +kernel
theorem dX0_take_16 : decode cX0_take 16 = .ok (.iload_n 2, 1) := by decide +kernel
theorem dX0_take_17 : decode cX0_take 17 = .ok (.invokevirtual 88, 3) := by decide +kernel
theorem dX0_take_20 : decode cX0_take 20 = .ok (.istore_n 3, 1) := by decide +kernel
theorem dX0_take_21 : decode cX0_take 21 = .ok (.aload_n 0, 1) := by decide +kernel
theorem dX0_take_22 : decode cX0_take 22 = .ok (.iload_n 1, 1) := by decide +kernel
theorem dX0_take_23 : decode cX0_take 23 = .ok (.iload_n 2, 1) := by decide +kernel
theorem dX0_take_24 : decode cX0_take 24 = .ok (.invokevirtual 91, 3) := by decide +kernel
theorem dX0_take_27 : decode cX0_take 27 = .ok (.istore 4, 2) := by decide +kernel
theorem dX0_take_29 : decode cX0_take 29 = .ok (.aload_n 0, 1) := by decide +kernel
theorem dX0_take_30 : decode cX0_take 30 = .ok (.iload_n 2, 1) := by decide +kernel
theorem dX0_take_31 : decode cX0_take 31 = .ok (.aload_n 0, 1) := by decide +kernel
theorem dX0_take_32 : decode cX0_take 32 = .ok (.getfield 19, 3) := by decide +kernel
theorem dX0_take_35 : decode cX0_take 35 = .ok (.iload_n 2, 1) := by decide +kernel
theorem dX0_take_36 : decode cX0_take 36 = .ok (.iaload, 1) := by decide +kernel
theorem dX0_take_37 : decode cX0_take 37 = .ok (.iconst 1, 1) := by decide +kernel
theorem dX0_take_38 : decode cX0_take 38 = .ok (.isub, 1) := by decide +kernel
theorem dX0_take_39 : decode cX0_take 39 = .ok (.invokevirtual 94, 3) := by decide +kernel
theorem dX0_take_42 : decode cX0_take 42 = .ok (.aload_n 0, 1) := by decide +kernel
theorem dX0_take_43 : decode cX0_take 43 = .ok (.getfield 31, 3) := by decide +kernel
theorem dX0_take_46 : decode cX0_take 46 = .ok (.iload_n 1, 1) := by decide +kernel
theorem dX0_take_47 : decode cX0_take 47 = .ok (.sipush 9999, 3) := by decide +kernel
theorem dX0_take_50 : decode cX0_take 50 = .ok (.aload_n 0, 1) := by decide +kernel
theorem dX0_take_51 : decode cX0_take 51 = .ok (.getfield 31, 3) := by decide +kernel
theorem dX0_take_54 : decode cX0_take 54 = .ok (.iload_n 1, 1) := by decide +kernel
theorem dX0_take_55 : decode cX0_take 55 = .ok (.iaload, 1) := by decide +kernel
theorem dX0_take_56 : decode cX0_take 56 = .ok (.aload_n 0, 1) := by decide +kernel
theorem dX0_take_57 : decode cX0_take 57 = .ok (.getfield 15, 3) := by decide +kernel
theorem dX0_take_60 : decode cX0_take 60 = .ok (.iload_n 2, 1) := by decide +kernel
theorem dX0_take_61 : decode cX0_take 61 = .ok (.iaload, 1) := by decide +kernel
theorem dX0_take_62 : decode cX0_take 62 = .ok (.iadd, 1) := by decide +kernel
theorem dX0_take_63 : decode cX0_take 63 = .ok (.invokestatic 62, 3) := by decide +kernel
theorem dX0_take_66 : decode cX0_take 66 = .ok (.iastore, 1) := by decide +kernel
theorem dX0_take_67 : decode cX0_take 67 = .ok (.aload_n 0, 1) := by decide +kernel
theorem dX0_take_68 : decode cX0_take 68 = .ok (.getfield 34, 3) := by decide +kernel
theorem dX0_take_71 : decode cX0_take 71 = .ok (.iload_n 1, 1) := by decide +kernel
theorem dX0_take_72 : decode cX0_take 72 = .ok (.aload_n 0, 1) := by decide +kernel
theorem dX0_take_73 : decode cX0_take 73 = .ok (.getfield 34, 3) := by decide +kernel
theorem dX0_take_76 : decode cX0_take 76 = .ok (.iload_n 1, 1) := by decide +kernel
theorem dX0_take_77 : decode cX0_take 77 = .ok (.iaload, 1) := by decide +kernel
theorem dX0_take_78 : decode cX0_take 78 = .ok (.iload_n 3, 1) := by decide +kernel
theorem dX0_take_79 : decode cX0_take 79 = .ok (.invokestatic 74, 3) := by decide +kernel
theorem dX0_take_82 : decode cX0_take 82 = .ok (.iastore, 1) := by decide +kernel
theorem dX0_take_83 : decode cX0_take 83 = .ok (.aload_n 0, 1) := by decide +kernel
theorem dX0_take_84 : decode cX0_take 84 = .ok (.getfield 28, 3) := by decide +kernel
theorem dX0_take_87 : decode cX0_take 87 = .ok (.iload_n 1, 1) := by decide +kernel
theorem dX0_take_88 : decode cX0_take 88 = .ok (.iconst 0, 1) := by decide +kernel
theorem dX0_take_89 : decode cX0_take 89 = .ok (.bipush 99, 2) := by decide +kernel
theorem dX0_take_91 : decode cX0_take 91 = .ok (.aload_n 0, 1) := by decide +kernel
theorem dX0_take_92 : decode cX0_take 92 = .ok (.getfield 28, 3) := by decide +kernel
theorem dX0_take_95 : decode cX0_take 95 = .ok (.iload_n 1, 1) := by decide +kernel
theorem dX0_take_96 : decode cX0_take 96 = .ok (.iaload, 1) := by decide +kernel
theorem dX0_take_97 : decode cX0_take 97 = .ok (.iload 4, 2) := by decide +kernel
theorem dX0_take_99 : decode cX0_take 99 = .ok (.isub, 1) := by decide +kernel
theorem dX0_take_100 : decode cX0_take 100 = .ok (.invokestatic 62, 3) := by decide +kernel
theorem dX0_take_103 : decode cX0_take 103 = .ok (.invokestatic 74, 3) := by decide +kernel
theorem dX0_take_106 : decode cX0_take 106 = .ok (.iastore, 1) := by decide +kernel
theorem dX0_take_107 : decode cX0_take 107 = .ok (.aload_n 0, 1) := by decide +kernel
theorem dX0_take_108 : decode cX0_take 108 = .ok (.sipush 999, 3) := by decide +kernel
theorem dX0_take_111 : decode cX0_take 111 = .ok (.aload_n 0, 1) := by decide +kernel
theorem dX0_take_112 : decode cX0_take 112 = .ok (.getfield 56, 3) := by decide +kernel
theorem dX0_take_115 : decode cX0_take 115 = .ok (.iconst 1, 1) := by decide +kernel
theorem dX0_take_116 : decode cX0_take 116 = .ok (.iadd, 1) := by decide +kernel
theorem dX0_take_117 : decode cX0_take 117 = .ok (.invokestatic 62, 3) := by decide +kernel
theorem dX0_take_120 : decode cX0_take 120 = .ok (.putfield 56, 3) := by decide +kernel
theorem dX0_take_123 : decode cX0_take 123 = .ok (.iload_n 2, 1) := by decide +kernel
theorem dX0_take_124 : decode cX0_take 124 = .ok (.ireturn, 1) := by decide +kernel
set_option maxRecDepth 20000 in
theorem ggX0_goOn_X0_take : GoodIn wsX0_goOn wsX0_take := goodIn_r _ [7, 8, 9, 10, 11, 12, 13, 14, 15, 16, 17, 18, 19, 20, 21, 22, 23, 6, 24, 25, 26, 27, 28, 29, 30, 31, 32, 33, 34, 35, 36, 37, 38, 39, 40, 41, 42, 43, 44, 45, 46, 47, 48, 49, 50, 51, 52, 53, 54, 55, 56, 57, 58, 59, 60, 61, 62, 63, 64, 65, 66, 67, 68, 69, 70, 71, 72, 73, 74, 75, 76, 77, 78, 79] rfl (by decide +kernel)
set_option maxRecDepth 20000 in
theorem gX0_goOn_X0_take : GoodIn wsX0_goOn (wsV RX0 98 RX0 yX0_take wsX0_take) := goodIn_app (goodIn_of _ (by decide +kernel)) ggX0_goOn_X0_take
theorem dX0_goOn_0 : decode cX0_goOn 0 = .ok (.aload_n 0, 1) := by decide +kernel
theorem dX0_goOn_1 : decode cX0_goOn 1 = .ok (.getfield 46, 3) := by decide +kernel
theorem dX0_goOn_4 : decode cX0_goOn 4 = .ok (.ifCond .ne 5, 3) := by decide +kernel
theorem dX0_goOn_7 : decode cX0_goOn 7 = .ok (.iconst (-1), 1) := by decide +kernel
theorem dX0_goOn_8 : decode cX0_goOn 8 = .ok (.ireturn, 1) := by decide +kernel
theorem dX0_goOn_9 : decode cX0_goOn 9 = .ok (.aload_n 0, 1) := by decide +kernel
theorem dX0_goOn_10 : decode cX0_goOn 10 = .ok (.aload_n 0, 1) := by decide +kernel
theorem dX0_goOn_11 : decode cX0_goOn 11 = .ok (.getfield 53, 3) := by decide +kernel
theorem dX0_goOn_14 : decode cX0_goOn 14 = .ok (.invokevirtual 98, 3) := by decide +kernel
theorem dX0_goOn_17 : decode cX0_goOn 17 = .ok (.istore_n 1, 1) := by decide +kernel
theorem dX0_goOn_18 : decode cX0_goOn 18 = .ok (.aload_n 0, 1) := by decide +kernel
theorem dX0_goOn_19 : decode cX0_goOn 19 = .ok (.aload_n 0, 1) := by decide +kernel
theorem dX0_goOn_20 : decode cX0_goOn 20 = .ok (.getfield 53, 3) := by decide +kernel
theorem dX0_goOn_23 : decode cX0_goOn 23 = .ok (.iconst 1, 1) := by decide +kernel
theorem dX0_goOn_24 : decode cX0_goOn 24 = .ok (.iadd, 1) := by decide +kernel
theorem dX0_goOn_25 : decode cX0_goOn 25 = .ok (.aload_n 0, 1) := by decide +kernel
theorem dX0_goOn_26 : decode cX0_goOn 26 = .ok (.getfield 46, 3) := by decide +kernel
theorem dX0_goOn_29 : decode cX0_goOn 29 = .ok (.if_icmp .ge 12, 3) := by decide +kernel
theorem dX0_goOn_32 : decode cX0_goOn 32 = .ok (.aload_n 0, 1) := by decide +kernel
theorem dX0_goOn_33 : decode cX0_goOn 33 = .ok (.getfield 53, 3) := by decide +kernel
theorem dX0_goOn_36 : decode cX0_goOn 36 = .ok (.iconst 1, 1) := by decide +kernel
theorem dX0_goOn_37 : decode cX0_goOn 37 = .ok (.iadd, 1) := by decide +kernel
theorem dX0_goOn_38 : decode cX0_goOn 38 = .ok (.goto 4, 3) := by decide +kernel
theorem dX0_goOn_41 : decode cX0_goOn 41 = .ok (.iconst 0, 1) := by decide +kernel
theorem dX0_goOn_42 : decode cX0_goOn 42 = .ok (.putfield 53, 3) := by decide +kernel
theorem dX0_goOn_45 : decode cX0_goOn 45 = .ok (.iload_n 1, 1) := by decide +kernel
theorem dX0_goOn_46 : decode cX0_goOn 46 = .ok (.ireturn, 1) := by decide +kernel
set_option maxRecDepth 20000 in
theorem ggX0_goWhileCoins_X0_goOn : GoodIn wsX0_goWhileCoins wsX0_goOn := goodIn_r _ [8, 1, 3, 9, 10, 11, 7, 12, 13, 14, 15, 16, 17, 18, 19, 20, 21, 22, 23, 24, 25, 26, 27, 28, 29, 30, 31, 32, 33, 34, 35, 36, 2, 37, 38, 39, 40, 41, 42, 43, 44, 45, 46, 47, 48, 49, 50, 51, 52, 53, 54, 55, 56, 57, 58, 59, 60, 61, 62, 63, 64, 65, 66, 67, 68, 69, 70, 71, 72, 73, 74, 75, 76, 77, 78, 79, 80, 81, 82, 83] rfl (by decide +kernel)
set_option maxRecDepth 20000 in
theorem gX0_goWhileCoins_X0_goOn : GoodIn wsX0_goWhileCoins (wsV RX0 101 RX0 yX0_goOn wsX0_goOn) := goodIn_app (goodIn_of _ (by decide +kernel)) ggX0_goWhileCoins_X0_goOn
theorem dX0_goWhileCoins_0 : decode cX0_goWhileCoins 0 = .ok (.iconst (-1), 1) := by decide +kernel
theorem dX0_goWhileCoins_1 : decode cX0_goWhileCoins 1 = .ok (.istore_n 2, 1) := by decide +kernel
theorem dX0_goWhileCoins_2 : decode cX0_goWhileCoins 2 = .ok (.iconst 0, 1) := by decide +kernel
theorem dX0_goWhileCoins_3 : decode cX0_goWhileCoins 3 = .ok (.istore_n 3, 1) := by decide +kernel
theorem dX0_goWhileCoins_4 : decode cX0_goWhileCoins 4 = .ok (.iload_n 3, 1) := by decide +kernel
theorem dX0_goWhileCoins_5 : decode cX0_goWhileCoins 5 = .ok (.iload_n 1, 1) := by decide +kernel
theorem dX0_goWhileCoins_6 : decode cX0_goWhileCoins 6 = .ok (.if_icmp .ge 33, 3) := by decide +kernel
theorem dX0_goWhileCoins_9 : decode cX0_goWhileCoins 9 = .ok (.aload_n 0, 1) := by decide +kernel
theorem dX0_goWhileCoins_10 : decode cX0_goWhileCoins 10 = .ok (.getfield 46, 3) := by decide +kernel
theorem dX0_goWhileCoins_13 : decode cX0_goWhileCoins 13 = .ok (.ifCond .le 26, 3) := by decide +kernel
theorem dX0_goWhileCoins_16 : decode cX0_goWhileCoins 16 = .ok (.aload_n 0, 1) := by decide +kernel
theorem dX0_goWhileCoins_17 : decode cX0_goWhileCoins 17 = .ok (.getfield 50, 3) := by decide +kernel
theorem dX0_goWhileCoins_20 : decode cX0_goWhileCoins 20 = .ok (.ifCond .le 19, 3) := by decide +kernel
theorem dX0_goWhileCoins_23 : decode cX0_goWhileCoins 23 = .ok (.aload_n 0, 1) := by decide +kernel
theorem dX0_goWhileCoins_24 : decode cX0_goWhileCoins 24 = .ok (.getfield 53, 3) := by decide +kernel
theorem dX0_goWhileCoins_27 : decode cX0_goWhileCoins 27 = .ok (.istore_n 2, 1) := by decide +kernel
theorem dX0_goWhileCoins_28 : decode cX0_goWhileCoins 28 = .ok (.aload_n 0, 1) := by decide +kernel
theorem dX0_goWhileCoins_29 : decode cX0_goWhileCoins 29 = .ok (.invokevirtual 101, 3) := by decide +kernel
theorem dX0_goWhileCoins_32 : decode cX0_goWhileCoins 32 = .ok (.pop, 1) := by decide +kernel
theorem dX0_goWhileCoins_33 : decode cX0_goWhileCoins 33 = .ok (.iinc 3 1, 3) := by decide +kernel
theorem dX0_goWhileCoins_36 : decode cX0_goWhileCoins 36 = .ok (.goto (-32), 3) := by decide +kernel
theorem dX0_goWhileCoins_39 : decode cX0_goWhileCoins 39 = .ok (.iload_n 2, 1) := by decide +kernel
theorem dX0_goWhileCoins_40 : decode cX0_goWhileCoins 40 = .ok (.ireturn, 1) := by decide +kernel
theorem dX1_init_0 : decode cX1_init 0 = .ok (.aload_n 0, 1) := by decide +kernel
theorem dX1_init_1 : decode cX1_init 1 = .ok (.invokespecial 3, 3) := by decide +kernel
theorem dX1_init_4 : decode cX1_init 4 = .ok (.aload_n 0, 1) := by decide +kernel
theorem dX1_init_5 : decode cX1_init 5 = .ok (.iconst 4, 1) := by decide +kernel
theorem dX1_init_6 : decode cX1_init 6 = .ok (.newarray .int, 2) := by decide +kernel
theorem dX1_init_8 : decode cX1_init 8 = .ok (.putfield 9, 3) := by decide +kernel
theorem dX1_init_11 : decode cX1_init 11 = .ok (.aload_n 0, 1) := by decide +kernel
theorem dX1_init_12 : decode cX1_init 12 = .ok (.iconst 4, 1) := by decide +kernel
theorem dX1_init_13 : decode cX1_init 13 = .ok (.newarray .int, 2) := by decide +kernel
theorem dX1_init_15 : decode cX1_init 15 = .ok (.putfield 15, 3) := by decide +kernel
theorem dX1_init_18 : decode cX1_init 18 = .ok (.aload_n 0, 1) := by decide +kernel
theorem dX1_init_19 : decode cX1_init 19 = .ok (.iconst 4, 1) := by decide +kernel
theorem dX1_init_20 : decode cX1_init 20 = .ok (.bipush 40, 2) := by decide +kernel
theorem dX1_init_22 : decode cX1_init 22 = .ok (.multianewarray 18 2, 4) := by decide +kernel
theorem dX1_init_26 : decode cX1_init 26 = .ok (.putfield 20, 3) := by decide +kernel
theorem dX1_init_29 : decode cX1_init 29 = .ok (.iconst 0, 1) := by decide +kernel
theorem dX1_init_30 : decode cX1_init 30 = .ok (.istore_n 1, 1) := by decide +kernel
theorem dX1_init_31 : decode cX1_init 31 = .ok (.iload_n 1, 1) := by decide +kernel
theorem dX1_init_32 : decode cX1_init 32 = .ok (.iconst 4, 1) := by decide +kernel
theorem dX1_init_33 : decode cX1_init 33 = .ok (.if_icmp .ge 16, 3) := by decide +kernel
theorem dX1_init_36 : decode cX1_init 36 = .ok (.aload_n 0, 1) := by decide +kernel
theorem dX1_init_37 : decode cX1_init 37 = .ok (.getfield 9, 3) := by decide +kernel
theorem dX1_init_40 : decode cX1_init 40 = .ok (.iload_n 1, 1) := by decide +kernel
theorem dX1_init_41 : decode cX1_init 41 = .ok (.iconst (-1), 1) := by decide +kernel
theorem dX1_init_42 : decode cX1_init 42 = .ok (.iastore, 1) := by decide +kernel
theorem dX1_init_43 : decode cX1_init 43 = .ok (.iinc 1 1, 3) := by decide +kernel
theorem dX1_init_46 : decode cX1_init 46 = .ok (.goto (-15), 3) := by decide +kernel
theorem dX1_init_49 : decode cX1_init 49 = .ok (.return_, 1) := by decide +kernel
theorem dX1_isMissing_0 : decode cX1_isMissing 0 = .ok (.aload_n 0, 1) := by decide +kernel
theorem dX1_isMissing_1 : decode cX1_isMissing 1 = .ok (.getfield 9, 3) := by decide +kernel
theorem dX1_isMissing_4 : decode cX1_isMissing 4 = .ok (.iload_n 1, 1) := by decide +kernel
theorem dX1_isMissing_5 : decode cX1_isMissing 5 = .ok (.iaload, 1) := by decide +kernel
theorem dX1_isMissing_6 : decode cX1_isMissing 6 = .ok (.ifCond .ge 7, 3) := by decide +kernel
theorem dX1_isMissing_9 : decode cX1_isMissing 9 = .ok (.iconst 1, 1) := by decide +kernel
theorem dX1_isMissing_10 : decode cX1_isMissing 10 = .ok (.goto 4, 3) := by decide +kernel
theorem dX1_isMissing_13 : decode cX1_isMissing 13 = .ok (.iconst 0, 1) := by decide +kernel
theorem dX1_isMissing_14 : decode cX1_isMissing 14 = .ok (.ireturn, 1) := by decide +kernel
theorem dX1_become_0 : decode cX1_become 0 = .ok (.aload_n 0, 1) := by decide +kernel
theorem dX1_become_1 : decode cX1_become 1 = .ok (.getfield 9, 3) := by decide +kernel
theorem dX1_become_4 : decode cX1_become 4 = .ok (.iload_n 1, 1) := by decide +kernel
theorem dX1_become_5 : decode cX1_become 5 = .ok (.iload_n 2, 1) := by decide +kernel
theorem dX1_become_6 : decode cX1_become 6 = .ok (.iastore, 1) := by decide +kernel
theorem dX1_become_7 : decode cX1_become 7 = .ok (.aload_n 0, 1) := by decide +kernel
theorem dX1_become_8 : decode cX1_become 8 = .ok (.getfield 15, 3) := by decide +kernel
theorem dX1_become_11 : decode cX1_become 11 = .ok (.iload_n 1, 1) := by decide +kernel
theorem dX1_become_12 : decode cX1_become 12 = .ok (.iload_n 3, 1) := by decide +kernel
theorem dX1_become_13 : decode cX1_become 13 = .ok (.iastore, 1) := by decide +kernel
theorem dX1_become_14 : decode cX1_become 14 = .ok (.iconst 0, 1) := by decide +kernel
theorem dX1_become_15 : decode cX1_become 15 = .ok (.istore 4, 2) := by decide +kernel
theorem dX1_become_17 : decode cX1_become 17 = .ok (.iload 4, 2) := by decide +kernel
theorem dX1_become_19 : decode cX1_become 19 = .ok (.bipush 40, 2) := by decide +kernel
theorem dX1_become_21 : decode cX1_become 21 = .ok (.if_icmp .ge 19, 3) := by decide +kernel
theorem dX1_become_24 : decode cX1_become 24 = .ok (.aload_n 0, 1) := by decide +kernel
theorem dX1_become_25 : decode cX1_become 25 = .ok (.getfield 20, 3) := by decide +kernel
theorem dX1_become_28 : decode cX1_become 28 = .ok (.iload_n 1, 1) := by decide +kernel
theorem dX1_become_29 : decode cX1_become 29 = .ok (.aaload, 1) := by decide +kernel
theorem dX1_become_30 : decode cX1_become 30 = .ok (.iload 4, 2) := by decide +kernel
theorem dX1_become_32 : decode cX1_become 32 = .ok (.iconst 0, 1) := by decide +kernel
theorem dX1_become_33 : decode cX1_become 33 = .ok (.iastore, 1) := by decide +kernel
theorem dX1_become_34 : decode cX1_become 34 = .ok (.iinc 4 1, 3) := by decide +kernel
theorem dX1_become_37 : decode cX1_become 37 = .ok (.goto (-20), 3) := by decide +kernel
theorem dX1_become_40 : decode cX1_become 40 = .ok (.return_, 1) := by decide +kernel
theorem dX1_store_0 : decode cX1_store 0 = .ok (.aload_n 0, 1) := by decide +kernel
theorem dX1_store_1 : decode cX1_store 1 = .ok (.getfield 9, 3) := by decide +kernel
theorem dX1_store_4 : decode cX1_store 4 = .ok (.iload_n 1, 1) := by decide +kernel
theorem dX1_store_5 : decode cX1_store 5 = .ok (.iaload, 1) := by decide +kernel
theorem dX1_store_6 : decode cX1_store 6 = .ok (.lookupswitch 52 #[(0, 26), (1, 39)], 26) := by decide +kernel
theorem dX1_store_32 : decode cX1_store 32 = .ok (.aload_n 0, 1) := by decide +kernel
theorem dX1_store_33 : decode cX1_store 33 = .ok (.getfield 20, 3) := by decide +kernel
theorem dX1_store_36 : decode cX1_store 36 = .ok (.iload_n 1, 1) := by decide +kernel
theorem dX1_store_37 : decode cX1_store 37 = .ok (.aaload, 1) := by decide +kernel
theorem dX1_store_38 : decode cX1_store 38 = .ok (.iload_n 2, 1) := by decide +kernel
theorem dX1_store_39 : decode cX1_store 39 = .ok (.iload_n 3, 1) := by decide +kernel
theorem dX1_store_40 : decode cX1_store 40 = .ok (.i2b, 1) := by decide +kernel
theorem dX1_store_41 : decode cX1_store 41 = .ok (.iastore, 1) := by decide +kernel
theorem dX1_store_42 : decode cX1_store 42 = .ok (.goto 25, 3) := by decide +kernel
theorem dX1_store_45 : decode cX1_store 45 = .ok (.aload_n 0, 1) := by decide +kernel
theorem dX1_store_46 : decode cX1_store 46 = .ok (.getfield 20, 3) := by decide +kernel
theorem dX1_store_49 : decode cX1_store 49 = .ok (.iload_n 1, 1) := by decide +kernel
theorem dX1_store_50 : decode cX1_store 50 = .ok (.aaload, 1) := by decide +kernel
theorem dX1_store_51 : decode cX1_store 51 = .ok (.iload_n 2, 1) := by decide +kernel
theorem dX1_store_52 : decode cX1_store 52 = .ok (.iload_n 3, 1) := by decide +kernel
theorem dX1_store_53 : decode cX1_store 53 = .ok (.i2s, 1) := by decide +kernel
theorem dX1_store_54 : decode cX1_store 54 = .ok (.iastore, 1) := by decide +kernel
theorem dX1_store_55 : decode cX1_store 55 = .ok (.goto 12, 3) := by decide +kernel
theorem dX1_store_58 : decode cX1_store 58 = .ok (.aload_n 0, 1) := by decide +kernel
theorem dX1_store_59 : decode cX1_store 59 = .ok (.getfield 20, 3) := by decide +kernel
theorem dX1_store_62 : decode cX1_store 62 = .ok (.iload_n 1, 1) := by decide +kernel
theorem dX1_store_63 : decode cX1_store 63 = .ok (.aaload, 1) := by decide +kernel
theorem dX1_store_64 : decode cX1_store 64 = .ok (.iload_n 2, 1) := by decide +kernel
theorem dX1_store_65 : decode cX1_store 65 = .ok (.iload_n 3, 1) := by decide +kernel
theorem dX1_store_66 : decode cX1_store 66 = .ok (.iastore, 1) := by decide +kernel
theorem dX1_store_67 : decode cX1_store 67 = .ok (.return_, 1) := by decide +kernel
set_option maxRecDepth 20000 in
theorem ggX1_refusalToTell_X4_isSheet : GoodIn wsX1_refusalToTell wsX4_isSheet := goodIn_r _ [4] rfl (by decide +kernel)
set_option maxRecDepth 20000 in
theorem gX1_refusalToTell_X4_isSheet_n23 : GoodIn wsX1_refusalToTell (wsX4_isSheet) := ggX1_refusalToTell_X4_isSheet
set_option maxRecDepth 20000 in
theorem ggX1_refusalToTell_X1_isMissing : GoodIn wsX1_refusalToTell wsX1_isMissing := goodIn_r _ [9, 10, 11, 12, 13] rfl (by decide +kernel)
set_option maxRecDepth 20000 in
theorem gX1_refusalToTell_X1_isMissing : GoodIn wsX1_refusalToTell (wsV RX1 27 RX1 yX1_isMissing wsX1_isMissing) := goodIn_app (goodIn_of _ (by decide +kernel)) ggX1_refusalToTell_X1_isMissing
theorem dX1_refusalToTell_0 : decode cX1_refusalToTell 0 = .ok (.iload_n 1, 1) := by decide +kernel
theorem dX1_refusalToTell_1 : decode cX1_refusalToTell 1 = .ok (.invokestatic 23, 3) := by decide +kernel
theorem dX1_refusalToTell_4 : decode cX1_refusalToTell 4 = .ok (.ifCond .ne 6, 3) := by decide +kernel
theorem dX1_refusalToTell_7 : decode cX1_refusalToTell 7 = .ok (.bipush (-2), 2) := by decide +kernel
theorem dX1_refusalToTell_9 : decode cX1_refusalToTell 9 = .ok (.ireturn, 1) := by decide +kernel
theorem dX1_refusalToTell_10 : decode cX1_refusalToTell 10 = .ok (.aload_n 0, 1) := by decide +kernel
theorem dX1_refusalToTell_11 : decode cX1_refusalToTell 11 = .ok (.iload_n 1, 1) := by decide +kernel
theorem dX1_refusalToTell_12 : decode cX1_refusalToTell 12 = .ok (.invokevirtual 27, 3) := by decide +kernel
theorem dX1_refusalToTell_15 : decode cX1_refusalToTell 15 = .ok (.ifCond .eq 6, 3) := by decide +kernel
theorem dX1_refusalToTell_18 : decode cX1_refusalToTell 18 = .ok (.bipush (-11), 2) := by decide +kernel
theorem dX1_refusalToTell_20 : decode cX1_refusalToTell 20 = .ok (.ireturn, 1) := by decide +kernel
theorem dX1_refusalToTell_21 : decode cX1_refusalToTell 21 = .ok (.aload_n 0, 1) := by decide +kernel
theorem dX1_refusalToTell_22 : decode cX1_refusalToTell 22 = .ok (.getfield 15, 3) := by decide +kernel
theorem dX1_refusalToTell_25 : decode cX1_refusalToTell 25 = .ok (.iload_n 1, 1) := by decide +kernel
theorem dX1_refusalToTell_26 : decode cX1_refusalToTell 26 = .ok (.iaload, 1) := by decide +kernel
theorem dX1_refusalToTell_27 : decode cX1_refusalToTell 27 = .ok (.bipush 30, 2) := by decide +kernel
theorem dX1_refusalToTell_29 : decode cX1_refusalToTell 29 = .ok (.if_icmp .le 8, 3) := by decide +kernel
theorem dX1_refusalToTell_32 : decode cX1_refusalToTell 32 = .ok (.bipush (-2), 2) := by decide +kernel
theorem dX1_refusalToTell_34 : decode cX1_refusalToTell 34 = .ok (.goto 4, 3) := by decide +kernel
theorem dX1_refusalToTell_37 : decode cX1_refusalToTell 37 = .ok (.iconst 0, 1) := by decide +kernel
theorem dX1_refusalToTell_38 : decode cX1_refusalToTell 38 = .ok (.ireturn, 1) := by decide +kernel
theorem dX2_init_0 : decode cX2_init 0 = .ok (.aload_n 0, 1) := by decide +kernel
theorem dX2_init_1 : decode cX2_init 1 = .ok (.invokespecial 3, 3) := by decide +kernel
theorem dX2_init_4 : decode cX2_init 4 = .ok (.aload_n 0, 1) := by decide +kernel
theorem dX2_init_5 : decode cX2_init 5 = .ok (.sipush 160, 3) := by decide +kernel
theorem dX2_init_8 : decode cX2_init 8 = .ok (.newarray .int, 2) := by decide +kernel
theorem dX2_init_10 : decode cX2_init 10 = .ok (.putfield 9, 3) := by decide +kernel
theorem dX2_init_13 : decode cX2_init 13 = .ok (.aload_n 0, 1) := by decide +kernel
theorem dX2_init_14 : decode cX2_init 14 = .ok (.aload_n 0, 1) := by decide +kernel
theorem dX2_init_15 : decode cX2_init 15 = .ok (.getfield 9, 3) := by decide +kernel
theorem dX2_init_18 : decode cX2_init 18 = .ok (.putfield 15, 3) := by decide +kernel
theorem dX2_init_21 : decode cX2_init 21 = .ok (.return_, 1) := by decide +kernel
theorem dX2_add_0 : decode cX2_add 0 = .ok (.aload_n 0, 1) := by decide +kernel
theorem dX2_add_1 : decode cX2_add 1 = .ok (.getfield 18, 3) := by decide +kernel
theorem dX2_add_4 : decode cX2_add 4 = .ok (.sipush 160, 3) := by decide +kernel
theorem dX2_add_7 : decode cX2_add 7 = .ok (.if_icmp .ge 23, 3) := by decide +kernel
theorem dX2_add_10 : decode cX2_add 10 = .ok (.aload_n 0, 1) := by decide +kernel
theorem dX2_add_11 : decode cX2_add 11 = .ok (.getfield 9, 3) := by decide +kernel
theorem dX2_add_14 : decode cX2_add 14 = .ok (.aload_n 0, 1) := by decide +kernel
theorem dX2_add_15 : decode cX2_add 15 = .ok (.getfield 18, 3) := by decide +kernel
theorem dX2_add_18 : decode cX2_add 18 = .ok (.iload_n 1, 1) := by decide +kernel
theorem dX2_add_19 : decode cX2_add 19 = .ok (.iastore, 1) := by decide +kernel
theorem dX2_add_20 : decode cX2_add 20 = .ok (.aload_n 0, 1) := by decide +kernel
theorem dX2_add_21 : decode cX2_add 21 = .ok (.dup, 1) := by decide +kernel
theorem dX2_add_22 : decode cX2_add 22 = .ok (.getfield 18, 3) := by decide +kernel
theorem dX2_add_25 : decode cX2_add 25 = .ok (.iconst 1, 1) := by decide +kernel
theorem dX2_add_26 : decode cX2_add 26 = .ok (.iadd, 1) := by decide +kernel
theorem dX2_add_27 : decode cX2_add 27 = .ok (.putfield 18, 3) := by decide +kernel
theorem dX2_add_30 : decode cX2_add 30 = .ok (.return_, 1) := by decide +kernel
set_option maxRecDepth 20000 in
theorem ggX2_read_X2_step : GoodIn wsX2_read wsX2_step := goodIn_r _ [10, 4, 3, 11, 12, 13, 5, 14, 15, 9, 16, 17, 18, 19, 20, 21, 22, 23, 24, 25, 26, 27, 28, 29, 30, 31, 32, 33, 34, 35, 36, 37, 38, 39, 40, 41, 42, 43, 44, 45, 46, 47, 48, 49, 50, 51, 52, 53, 54, 55, 56, 57, 58, 59, 60, 61, 62, 63, 64, 65, 66, 67, 68, 69, 70, 71, 72, 73, 74, 75, 76, 77, 78, 79, 80, 81, 82, 83, 84, 85, 86, 87, 111, 112, 113, 114, 115, 116, 117, 118, 119] rfl (by decide +kernel)
set_option maxRecDepth 20000 in
theorem gX2_read_X2_step : GoodIn wsX2_read (wsV RX2 31 RX2 yX2_step wsX2_step) := goodIn_app (goodIn_of _ (by decide +kernel)) ggX2_read_X2_step
set_option maxRecDepth 20000 in
theorem ggX2_read_X2_must : GoodIn wsX2_read wsX2_must := goodIn_r _ [91, 5, 6, 7, 8, 9, 10, 4, 3, 11, 12, 13, 14, 15, 16, 17, 18, 19, 20, 21, 22, 23, 24, 25, 26, 27, 28, 29, 30, 31, 32, 33, 34, 35, 36, 37, 38, 39, 40, 41, 42, 43, 44, 45, 46, 47, 48, 49, 50, 51, 52, 53, 54, 55, 56, 57, 58, 59, 60, 61, 62, 63, 64, 65, 66, 67, 68, 69, 70, 71, 72, 73, 74, 75, 76, 77, 78, 79, 80, 81, 82, 83, 84, 85, 86, 87, 92, 93, 94, 95, 111, 112, 113, 114, 115, 116, 117, 118, 119] rfl (by decide +kernel)
set_option maxRecDepth 20000 in
theorem gX2_read_X2_must : GoodIn wsX2_read (wsV RX2 34 RX2 yX2_must wsX2_must) := goodIn_app (goodIn_of _ (by decide +kernel)) ggX2_read_X2_must
set_option maxRecDepth 20000 in
theorem ggX2_read_X2_readPart : GoodIn wsX2_read wsX2_readPart := goodIn_r _ [99, 5, 84, 100, 101, 102, 9, 103, 92, 93, 94, 95, 4, 13, 6, 7, 8, 10, 3, 11, 12, 14, 15, 16, 17, 18, 19, 20, 21, 22, 23, 24, 25, 26, 27, 28, 29, 30, 31, 32, 33, 34, 35, 36, 37, 38, 39, 40, 41, 42, 43, 44, 45, 46, 47, 48, 49, 50, 51, 52, 53, 54, 55, 56, 57, 58, 59, 60, 61, 62, 63, 64, 65, 66, 67, 68, 69, 70, 71, 72, 73, 74, 75, 76, 77, 78, 79, 80, 81, 82, 83, 85, 86, 87, 96, 97, 98, 104, 105, 106, 107, 2, 1, 108, 109, 110, 88, 89, 90, 91, 111, 112, 113, 114, 115, 116, 117, 118, 119] rfl (by decide +kernel)
set_option maxRecDepth 20000 in
theorem gX2_read_X2_readPart : GoodIn wsX2_read (wsV RX2 38 RX2 yX2_readPart wsX2_readPart) := goodIn_app (goodIn_of _ (by decide +kernel)) ggX2_read_X2_readPart
set_option maxRecDepth 20000 in
theorem ggX2_read_X2_refuse : GoodIn wsX2_read wsX2_refuse := goodIn_r _ [95, 4, 13, 5, 111, 112, 113, 114, 115, 116, 117, 118, 119] rfl (by decide +kernel)
set_option maxRecDepth 20000 in
theorem gX2_read_X2_refuse : GoodIn wsX2_read (wsV RX2 45 RX2 yX2_refuse wsX2_refuse) := goodIn_app (goodIn_of _ (by decide +kernel)) ggX2_read_X2_refuse
theorem dX2_read_0 : decode cX2_read 0 = .ok (.aload_n 0, 1) := by decide +kernel
theorem dX2_read_1 : decode cX2_read 1 = .ok (.aload_n 1, 1) := by decide +kernel
theorem dX2_read_2 : decode cX2_read 2 = .ok (.putfield 15, 3) := by decide +kernel
theorem dX2_read_5 : decode cX2_read 5 = .ok (.aload_n 0, 1) := by decide +kernel
theorem dX2_read_6 : decode cX2_read 6 = .ok (.iconst 0, 1) := by decide +kernel
theorem dX2_read_7 : decode cX2_read 7 = .ok (.putfield 22, 3) := by decide +kernel
theorem dX2_read_10 : decode cX2_read 10 = .ok (.aload_n 0, 1) := by decide +kernel
theorem dX2_read_11 : decode cX2_read 11 = .ok (.iconst 0, 1) := by decide +kernel
theorem dX2_read_12 : decode cX2_read 12 = .ok (.putfield 25, 3) := by decide +kernel
theorem dX2_read_15 : decode cX2_read 15 = .ok (.aload_n 0, 1) := by decide +kernel
theorem dX2_read_16 : decode cX2_read 16 = .ok (.iconst (-1), 1) := by decide +kernel
theorem dX2_read_17 : decode cX2_read 17 = .ok (.putfield 28, 3) := by decide +kernel
theorem dX2_read_20 : decode cX2_read 20 = .ok (.aload_n 0, 1) := by decide +kernel
theorem dX2_read_21 : decode cX2_read 21 = .ok (.invokevirtual 31, 3) := by decide +kernel
theorem dX2_read_24 : decode cX2_read 24 = .ok (.iconst 0, 1) := by decide +kernel
theorem dX2_read_25 : decode cX2_read 25 = .ok (.istore_n 3, 1) := by decide +kernel
theorem dX2_read_26 : decode cX2_read 26 = .ok (.iload_n 3, 1) := by decide +kernel
theorem dX2_read_27 : decode cX2_read 27 = .ok (.iconst 3, 1) := by decide +kernel
theorem dX2_read_28 : decode cX2_read 28 = .ok (.if_icmp .ge 42, 3) := by decide +kernel
theorem dX2_read_31 : decode cX2_read 31 = .ok (.iload_n 3, 1) := by decide +kernel
theorem dX2_read_32 : decode cX2_read 32 = .ok (.aload_n 2, 1) := by decide +kernel
theorem dX2_read_33 : decode cX2_read 33 = .ok (.arraylength, 1) := by decide +kernel
theorem dX2_read_34 : decode cX2_read 34 = .ok (.if_icmp .ge 36, 3) := by decide +kernel
theorem dX2_read_37 : decode cX2_read 37 = .ok (.aload_n 0, 1) := by decide +kernel
theorem dX2_read_38 : decode cX2_read 38 = .ok (.bipush (-22), 2) := by decide +kernel
theorem dX2_read_40 : decode cX2_read 40 = .ok (.iload_n 3, 1) := by decide +kernel
theorem dX2_read_41 : decode cX2_read 41 = .ok (.isub, 1) := by decide +kernel
theorem dX2_read_42 : decode cX2_read 42 = .ok (.invokevirtual 34, 3) := by decide +kernel
theorem dX2_read_45 : decode cX2_read 45 = .ok (.aload_n 0, 1) := by decide +kernel
theorem dX2_read_46 : decode cX2_read 46 = .ok (.iconst 0, 1) := by decide +kernel
theorem dX2_read_47 : decode cX2_read 47 = .ok (.iconst 0, 1) := by decide +kernel
theorem dX2_read_48 : decode cX2_read 48 = .ok (.invokevirtual 38, 3) := by decide +kernel
theorem dX2_read_51 : decode cX2_read 51 = .ok (.aload_n 0, 1) := by decide +kernel
theorem dX2_read_52 : decode cX2_read 52 = .ok (.bipush (-18), 2) := by decide +kernel
theorem dX2_read_54 : decode cX2_read 54 = .ok (.invokevirtual 34, 3) := by decide +kernel
theorem dX2_read_57 : decode cX2_read 57 = .ok (.aload_n 2, 1) := by decide +kernel
theorem dX2_read_58 : decode cX2_read 58 = .ok (.iload_n 3, 1) := by decide +kernel
theorem dX2_read_59 : decode cX2_read 59 = .ok (.aload_n 0, 1) := by decide +kernel
theorem dX2_read_60 : decode cX2_read 60 = .ok (.getfield 22, 3) := by decide +kernel
theorem dX2_read_63 : decode cX2_read 63 = .ok (.iastore, 1) := by decide +kernel
theorem dX2_read_64 : decode cX2_read 64 = .ok (.iinc 3 1, 3) := by decide +kernel
theorem dX2_read_67 : decode cX2_read 67 = .ok (.goto (-41), 3) := by decide +kernel
theorem dX2_read_70 : decode cX2_read 70 = .ok (.aload_n 0, 1) := by decide +kernel
theorem dX2_read_71 : decode cX2_read 71 = .ok (.getfield 42, 3) := by decide +kernel
theorem dX2_read_74 : decode cX2_read 74 = .ok (.bipush (-20), 2) := by decide +kernel
theorem dX2_read_76 : decode cX2_read 76 = .ok (.if_icmp .eq 7, 3) := by decide +kernel
theorem dX2_read_79 : decode cX2_read 79 = .ok (.aload_n 0, 1) := by decide +kernel
theorem dX2_read_80 : decode cX2_read 80 = .ok (.invokevirtual 45, 3) := by decide +kernel
theorem dX2_read_83 : decode cX2_read 83 = .ok (.aload_n 0, 1) := by decide +kernel
theorem dX2_read_84 : decode cX2_read 84 = .ok (.getfield 28, 3) := by decide +kernel
theorem dX2_read_87 : decode cX2_read 87 = .ok (.ireturn, 1) := by decide +kernel
set_option maxRecDepth 20000 in
theorem ggX2_must_X2_step : GoodIn wsX2_must wsX2_step := goodIn_r _ [6, 7, 8, 9, 10, 11, 1, 12, 13, 5, 14, 15, 16, 17, 18, 19, 20, 21, 22, 23, 24, 25, 26, 27, 28, 29, 30, 31, 32, 33, 34, 35, 36, 37, 38, 39, 40, 41, 42, 43, 44, 45, 46, 47, 48, 49, 50, 51, 52, 53, 54, 55, 56, 57, 58, 59, 60, 61, 62, 63, 64, 65, 66, 67, 68, 69, 70, 71, 72, 73, 74, 75, 76, 77, 78, 79, 80, 81, 82, 83, 84, 85, 90, 91, 92, 93, 94, 95, 96, 97, 98] rfl (by decide +kernel)
set_option maxRecDepth 20000 in
theorem gX2_must_X2_step : GoodIn wsX2_must (wsV RX2 31 RX2 yX2_step wsX2_step) := goodIn_app (goodIn_of _ (by decide +kernel)) ggX2_must_X2_step
set_option maxRecDepth 20000 in
theorem ggX2_must_X2_refuse : GoodIn wsX2_must wsX2_refuse := goodIn_r _ [89, 7, 11, 1, 90, 91, 92, 93, 94, 95, 96, 97, 98] rfl (by decide +kernel)
set_option maxRecDepth 20000 in
theorem gX2_must_X2_refuse : GoodIn wsX2_must (wsV RX2 45 RX2 yX2_refuse wsX2_refuse) := goodIn_app (goodIn_of _ (by decide +kernel)) ggX2_must_X2_refuse
theorem dX2_must_0 : decode cX2_must 0 = .ok (.aload_n 0, 1) := by decide +kernel
theorem dX2_must_1 : decode cX2_must 1 = .ok (.getfield 42, 3) := by decide +kernel
theorem dX2_must_4 : decode cX2_must 4 = .ok (.iload_n 1, 1) := by decide +kernel
theorem dX2_must_5 : decode cX2_must 5 = .ok (.if_icmp .ne 10, 3) := by decide +kernel
theorem dX2_must_8 : decode cX2_must 8 = .ok (.aload_n 0, 1) := by decide +kernel
theorem dX2_must_9 : decode cX2_must 9 = .ok (.invokevirtual 31, 3) := by decide +kernel
theorem dX2_must_12 : decode cX2_must 12 = .ok (.goto 7, 3) := by decide +kernel
theorem dX2_must_15 : decode cX2_must 15 = .ok (.aload_n 0, 1) := by decide +kernel
theorem dX2_must_16 : decode cX2_must 16 = .ok (.invokevirtual 45, 3) := by decide +kernel
theorem dX2_must_19 : decode cX2_must 19 = .ok (.return_, 1) := by decide +kernel
theorem dX2_refuse_0 : decode cX2_refuse 0 = .ok (.aload_n 0, 1) := by decide +kernel
theorem dX2_refuse_1 : decode cX2_refuse 1 = .ok (.getfield 28, 3) := by decide +kernel
theorem dX2_refuse_4 : decode cX2_refuse 4 = .ok (.ifCond .ge 11, 3) := by decide +kernel
theorem dX2_refuse_7 : decode cX2_refuse 7 = .ok (.aload_n 0, 1) := by decide +kernel
theorem dX2_refuse_8 : decode cX2_refuse 8 = .ok (.aload_n 0, 1) := by decide +kernel
theorem dX2_refuse_9 : decode cX2_refuse 9 = .ok (.getfield 48, 3) := by decide +kernel
theorem dX2_refuse_12 : decode cX2_refuse 12 = .ok (.putfield 28, 3) := by decide +kernel
theorem dX2_refuse_15 : decode cX2_refuse 15 = .ok (.aload_n 0, 1) := by decide +kernel
theorem dX2_refuse_16 : decode cX2_refuse 16 = .ok (.bipush (-21), 2) := by decide +kernel
theorem dX2_refuse_18 : decode cX2_refuse 18 = .ok (.putfield 42, 3) := by decide +kernel
theorem dX2_refuse_21 : decode cX2_refuse 21 = .ok (.return_, 1) := by decide +kernel
theorem dX2_write_0 : decode cX2_write 0 = .ok (.aload_n 0, 1) := by decide +kernel
theorem dX2_write_1 : decode cX2_write 1 = .ok (.getfield 22, 3) := by decide +kernel
theorem dX2_write_4 : decode cX2_write 4 = .ok (.aload_n 0, 1) := by decide +kernel
theorem dX2_write_5 : decode cX2_write 5 = .ok (.getfield 15, 3) := by decide +kernel
theorem dX2_write_8 : decode cX2_write 8 = .ok (.arraylength, 1) := by decide +kernel
theorem dX2_write_9 : decode cX2_write 9 = .ok (.if_icmp .ge 23, 3) := by decide +kernel
theorem dX2_write_12 : decode cX2_write 12 = .ok (.aload_n 0, 1) := by decide +kernel
theorem dX2_write_13 : decode cX2_write 13 = .ok (.getfield 15, 3) := by decide +kernel
theorem dX2_write_16 : decode cX2_write 16 = .ok (.aload_n 0, 1) := by decide +kernel
theorem dX2_write_17 : decode cX2_write 17 = .ok (.getfield 22, 3) := by decide +kernel
theorem dX2_write_20 : decode cX2_write 20 = .ok (.iload_n 1, 1) := by decide +kernel
theorem dX2_write_21 : decode cX2_write 21 = .ok (.iastore, 1) := by decide +kernel
theorem dX2_write_22 : decode cX2_write 22 = .ok (.aload_n 0, 1) := by decide +kernel
theorem dX2_write_23 : decode cX2_write 23 = .ok (.dup, 1) := by decide +kernel
theorem dX2_write_24 : decode cX2_write 24 = .ok (.getfield 22, 3) := by decide +kernel
theorem dX2_write_27 : decode cX2_write 27 = .ok (.iconst 1, 1) := by decide +kernel
theorem dX2_write_28 : decode cX2_write 28 = .ok (.iadd, 1) := by decide +kernel
theorem dX2_write_29 : decode cX2_write 29 = .ok (.putfield 22, 3) := by decide +kernel
theorem dX2_write_32 : decode cX2_write 32 = .ok (.return_, 1) := by decide +kernel
set_option maxRecDepth 20000 in
theorem ggX2_readPart_X2_opens : GoodIn wsX2_readPart wsX2_opens := goodIn_r _ [7, 8, 9, 10, 6, 11, 12, 13, 1, 14, 15, 16, 17, 18, 19, 20, 21, 22, 23, 24, 25, 26, 27, 28, 29, 30, 31, 32, 33, 34, 35, 36, 37, 38, 39, 40, 41, 42, 43, 44, 45, 46, 47, 48, 49, 50, 51, 52, 53, 54, 55, 56, 57, 58, 59, 60, 61, 62, 63, 64, 65, 66, 67, 68, 69, 70, 71, 72, 73, 74, 75, 76, 77, 78, 79, 80, 81, 82, 83, 84, 85, 86, 87, 88, 89, 90, 2, 91, 92, 93, 110, 111, 112, 113, 114, 115, 116, 117, 118] rfl (by decide +kernel)
set_option maxRecDepth 20000 in
theorem gX2_readPart_X2_opens : GoodIn wsX2_readPart (wsV RX2 51 RX2 yX2_opens wsX2_opens) := goodIn_app (goodIn_of _ (by decide +kernel)) ggX2_readPart_X2_opens
set_option maxRecDepth 20000 in
theorem ggX2_readPart_X2_readPart : GoodIn wsX2_readPart wsX2_readPart := goodIn_r _ [0, 1, 2, 3, 4, 5, 6, 7, 8, 9, 10, 11, 12, 13, 14, 15, 16, 17, 18, 19, 20, 21, 22, 23, 24, 25, 26, 27, 28, 29, 30, 31, 32, 33, 34, 35, 36, 37, 38, 39, 40, 41, 42, 43, 44, 45, 46, 47, 48, 49, 50, 51, 52, 53, 54, 55, 56, 57, 58, 59, 60, 61, 62, 63, 64, 65, 66, 67, 68, 69, 70, 71, 72, 73, 74, 75, 76, 77, 78, 79, 80, 81, 82, 83, 84, 85, 86, 87, 88, 89, 90, 91, 92, 93, 94, 95, 96, 97, 98, 99, 100, 101, 102, 103, 104, 105, 106, 107, 108, 109, 110, 111, 112, 113, 114, 115, 116, 117, 118] rfl (by decide +kernel)
set_option maxRecDepth 20000 in
theorem gX2_readPart_X2_readPart : GoodIn wsX2_readPart (wsV RX2 38 RX2 yX2_readPart wsX2_readPart) := goodIn_app (goodIn_of _ (by decide +kernel)) ggX2_readPart_X2_readPart
set_option maxRecDepth 20000 in
theorem ggX2_readPart_X2_write : GoodIn wsX2_readPart wsX2_write := goodIn_r _ [100, 101, 102, 110, 111, 112, 113, 114, 115, 116, 117, 118] rfl (by decide +kernel)
set_option maxRecDepth 20000 in
theorem gX2_readPart_X2_write : GoodIn wsX2_readPart (wsV RX2 55 RX2 yX2_write wsX2_write) := goodIn_app (goodIn_of _ (by decide +kernel)) ggX2_readPart_X2_write
set_option maxRecDepth 20000 in
theorem ggX2_readPart_X2_levelOf : GoodIn wsX2_readPart wsX2_levelOf := goodIn_r _ [105] rfl (by decide +kernel)
set_option maxRecDepth 20000 in
theorem gX2_readPart_X2_levelOf : GoodIn wsX2_readPart (va_wsS RX2 58 yX2_levelOf wsX2_levelOf) := goodIn_app (goodIn_of _ (by decide +kernel)) ggX2_readPart_X2_levelOf
set_option maxRecDepth 20000 in
theorem ggX2_readPart_X2_step : GoodIn wsX2_readPart wsX2_step := goodIn_r _ [17, 12, 18, 19, 20, 13, 1, 21, 22, 6, 23, 24, 25, 26, 27, 28, 29, 30, 31, 32, 33, 34, 35, 36, 37, 38, 39, 40, 41, 42, 43, 44, 45, 46, 47, 48, 49, 50, 51, 52, 53, 54, 55, 56, 57, 58, 59, 60, 61, 62, 63, 64, 65, 66, 67, 68, 69, 70, 71, 72, 73, 74, 75, 76, 77, 78, 79, 80, 81, 82, 83, 84, 85, 86, 87, 88, 89, 90, 2, 91, 92, 93, 110, 111, 112, 113, 114, 115, 116, 117, 118] rfl (by decide +kernel)
set_option maxRecDepth 20000 in
theorem gX2_readPart_X2_step : GoodIn wsX2_readPart (wsV RX2 31 RX2 yX2_step wsX2_step) := goodIn_app (goodIn_of _ (by decide +kernel)) ggX2_readPart_X2_step
set_option maxRecDepth 20000 in
theorem ggX2_readPart_X2_must : GoodIn wsX2_readPart wsX2_must := goodIn_r _ [109, 1, 14, 15, 16, 6, 17, 12, 18, 19, 20, 13, 21, 22, 23, 24, 25, 26, 27, 28, 29, 30, 31, 32, 33, 34, 35, 36, 37, 38, 39, 40, 41, 42, 43, 44, 45, 46, 47, 48, 49, 50, 51, 52, 53, 54, 55, 56, 57, 58, 59, 60, 61, 62, 63, 64, 65, 66, 67, 68, 69, 70, 71, 72, 73, 74, 75, 76, 77, 78, 79, 80, 81, 82, 83, 84, 85, 86, 87, 88, 89, 90, 2, 91, 92, 93, 8, 9, 10, 11, 110, 111, 112, 113, 114, 115, 116, 117, 118] rfl (by decide +kernel)
set_option maxRecDepth 20000 in
theorem gX2_readPart_X2_must : GoodIn wsX2_readPart (wsV RX2 34 RX2 yX2_must wsX2_must) := goodIn_app (goodIn_of _ (by decide +kernel)) ggX2_readPart_X2_must
set_option maxRecDepth 20000 in
theorem ggX2_readPart_X2_refuse : GoodIn wsX2_readPart wsX2_refuse := goodIn_r _ [11, 12, 13, 1, 110, 111, 112, 113, 114, 115, 116, 117, 118] rfl (by decide +kernel)
set_option maxRecDepth 20000 in
theorem gX2_readPart_X2_refuse : GoodIn wsX2_readPart (wsV RX2 45 RX2 yX2_refuse wsX2_refuse) := goodIn_app (goodIn_of _ (by decide +kernel)) ggX2_readPart_X2_refuse
theorem dX2_readPart_0 : decode cX2_readPart 0 = .ok (.iload_n 1, 1) := by decide +kernel
theorem dX2_readPart_1 : decode cX2_readPart 1 = .ok (.iconst 2, 1) := by decide +kernel
theorem dX2_readPart_2 : decode cX2_readPart 2 = .ok (.if_icmp .ne 12, 3) := by decide +kernel
theorem dX2_readPart_5 : decode cX2_readPart 5 = .ok (.aload_n 0, 1) := by decide +kernel
theorem dX2_readPart_6 : decode cX2_readPart 6 = .ok (.getfield 42, 3) := by decide +kernel
theorem dX2_readPart_9 : decode cX2_readPart 9 = .ok (.bipush (-9), 2) := by decide +kernel
theorem dX2_readPart_11 : decode cX2_readPart 11 = .ok (.if_icmp .eq 17, 3) := by decide +kernel
theorem dX2_readPart_14 : decode cX2_readPart 14 = .ok (.iload_n 1, 1) := by decide +kernel
theorem dX2_readPart_15 : decode cX2_readPart 15 = .ok (.iconst 5, 1) := by decide +kernel
theorem dX2_readPart_16 : decode cX2_readPart 16 = .ok (.if_icmp .ne 53, 3) := by decide +kernel
theorem dX2_readPart_19 : decode cX2_readPart 19 = .ok (.aload_n 0, 1) := by decide +kernel
theorem dX2_readPart_20 : decode cX2_readPart 20 = .ok (.getfield 42, 3) := by decide +kernel
theorem dX2_readPart_23 : decode cX2_readPart 23 = .ok (.bipush (-13), 2) := by decide +kernel
theorem dX2_readPart_25 : decode cX2_readPart 25 = .ok (.if_icmp .ne 44, 3) := by decide +kernel
theorem dX2_readPart_28 : decode cX2_readPart 28 = .ok (.aload_n 0, 1) := by decide +kernel
theorem dX2_readPart_29 : decode cX2_readPart 29 = .ok (.getfield 42, 3) := by decide +kernel
theorem dX2_readPart_32 : decode cX2_readPart 32 = .ok (.bipush (-9), 2) := by decide +kernel
theorem dX2_readPart_34 : decode cX2_readPart 34 = .ok (.if_icmp .ne 8, 3) := by decide +kernel
theorem dX2_readPart_37 : decode cX2_readPart 37 = .ok (.bipush (-9), 2) := by decide +kernel
theorem dX2_readPart_39 : decode cX2_readPart 39 = .ok (.goto 5, 3) := by decide +kernel
theorem dX2_readPart_42 : decode cX2_readPart 42 = .ok (.bipush (-15), 2) := by decide +kernel
theorem dX2_readPart_44 : decode cX2_readPart 44 = .ok (.istore_n 3, 1) := by decide +kernel
theorem dX2_readPart_45 : decode cX2_readPart 45 = .ok (.aload_n 0, 1) := by decide +kernel
theorem dX2_readPart_46 : decode cX2_readPart 46 = .ok (.iload_n 2, 1) := by decide +kernel
theorem dX2_readPart_47 : decode cX2_readPart 47 = .ok (.invokevirtual 51, 3) := by decide +kernel
theorem dX2_readPart_50 : decode cX2_readPart 50 = .ok (.ifCond .eq 16, 3) := by decide +kernel
theorem dX2_readPart_53 : decode cX2_readPart 53 = .ok (.aload_n 0, 1) := by decide +kernel
theorem dX2_readPart_54 : decode cX2_readPart 54 = .ok (.iload_n 1, 1) := by decide +kernel
theorem dX2_readPart_55 : decode cX2_readPart 55 = .ok (.iload_n 2, 1) := by decide +kernel
theorem dX2_readPart_56 : decode cX2_readPart 56 = .ok (.iconst 1, 1) := by decide +kernel
theorem dX2_readPart_57 : decode cX2_readPart 57 = .ok (.iadd, 1) := by decide +kernel
theorem dX2_readPart_58 : decode cX2_readPart 58 = .ok (.invokevirtual 38, 3) := by decide +kernel
theorem dX2_readPart_61 : decode cX2_readPart 61 = .ok (.aload_n 0, 1) := by decide +kernel
theorem dX2_readPart_62 : decode cX2_readPart 62 = .ok (.iload_n 3, 1) := by decide +kernel
theorem dX2_readPart_63 : decode cX2_readPart 63 = .ok (.invokevirtual 55, 3) := by decide +kernel
theorem dX2_readPart_66 : decode cX2_readPart 66 = .ok (.goto 177, 3) := by decide +kernel
theorem dX2_readPart_69 : decode cX2_readPart 69 = .ok (.iload_n 1, 1) := by decide +kernel
theorem dX2_readPart_70 : decode cX2_readPart 70 = .ok (.iconst 5, 1) := by decide +kernel
theorem dX2_readPart_71 : decode cX2_readPart 71 = .ok (.if_icmp .ge 77, 3) := by decide +kernel
theorem dX2_readPart_74 : decode cX2_readPart 74 = .ok (.aload_n 0, 1) := by decide +kernel
theorem dX2_readPart_75 : decode cX2_readPart 75 = .ok (.iload_n 1, 1) := by decide +kernel
theorem dX2_readPart_76 : decode cX2_readPart 76 = .ok (.iconst 1, 1) := by decide +kernel
theorem dX2_readPart_77 : decode cX2_readPart 77 = .ok (.iadd, 1) := by decide +kernel
theorem dX2_readPart_78 : decode cX2_readPart 78 = .ok (.iload_n 2, 1) := by decide +kernel
theorem dX2_readPart_79 : decode cX2_readPart 79 = .ok (.invokevirtual 38, 3) := by decide +kernel
theorem dX2_readPart_82 : decode cX2_readPart 82 = .ok (.iload_n 1, 1) := by decide +kernel
theorem dX2_readPart_83 : decode cX2_readPart 83 = .ok (.iconst 2, 1) := by decide +kernel
theorem dX2_readPart_84 : decode cX2_readPart 84 = .ok (.if_icmp .ne 7, 3) := by decide +kernel
theorem dX2_readPart_87 : decode cX2_readPart 87 = .ok (.iconst 1, 1) := by decide +kernel
theorem dX2_readPart_88 : decode cX2_readPart 88 = .ok (.goto 6, 3) := by decide +kernel
theorem dX2_readPart_91 : decode cX2_readPart 91 = .ok (.sipush 160, 3) := by decide +kernel
theorem dX2_readPart_94 : decode cX2_readPart 94 = .ok (.istore_n 3, 1) := by decide +kernel
theorem dX2_readPart_95 : decode cX2_readPart 95 = .ok (.iconst 0, 1) := by decide +kernel
theorem dX2_readPart_96 : decode cX2_readPart 96 = .ok (.istore 4, 2) := by decide +kernel
theorem dX2_readPart_98 : decode cX2_readPart 98 = .ok (.iload 4, 2) := by decide +kernel
theorem dX2_readPart_100 : decode cX2_readPart 100 = .ok (.iload_n 3, 1) := by decide +kernel
theorem dX2_readPart_101 : decode cX2_readPart 101 = .ok (.if_icmp .ge 44, 3) := by decide +kernel
theorem dX2_readPart_104 : decode cX2_readPart 104 = .ok (.aload_n 0, 1) := by decide +kernel
theorem dX2_readPart_105 : decode cX2_readPart 105 = .ok (.getfield 42, 3) := by decide +kernel
theorem dX2_readPart_108 : decode cX2_readPart 108 = .ok (.invokestatic 58, 3) := by decide +kernel
theorem dX2_readPart_111 : decode cX2_readPart 111 = .ok (.iload_n 1, 1) := by decide +kernel
theorem dX2_readPart_112 : decode cX2_readPart 112 = .ok (.if_icmp .ne 33, 3) := by decide +kernel
theorem dX2_readPart_115 : decode cX2_readPart 115 = .ok (.aload_n 0, 1) := by decide +kernel
theorem dX2_readPart_116 : decode cX2_readPart 116 = .ok (.getfield 42, 3) := by decide +kernel
theorem dX2_readPart_119 : decode cX2_readPart 119 = .ok (.istore 5, 2) := by decide +kernel
theorem dX2_readPart_121 : decode cX2_readPart 121 = .ok (.aload_n 0, 1) := by decide +kernel
theorem dX2_readPart_122 : decode cX2_readPart 122 = .ok (.invokevirtual 31, 3) := by decide +kernel
theorem dX2_readPart_125 : decode cX2_readPart 125 = .ok (.aload_n 0, 1) := by decide +kernel
theorem dX2_readPart_126 : decode cX2_readPart 126 = .ok (.iload_n 1, 1) := by decide +kernel
theorem dX2_readPart_127 : decode cX2_readPart 127 = .ok (.iconst 1, 1) := by decide +kernel
theorem dX2_readPart_128 : decode cX2_readPart 128 = .ok (.iadd, 1) := by decide +kernel
theorem dX2_readPart_129 : decode cX2_readPart 129 = .ok (.iload_n 2, 1) := by decide +kernel
theorem dX2_readPart_130 : decode cX2_readPart 130 = .ok (.invokevirtual 38, 3) := by decide +kernel
theorem dX2_readPart_133 : decode cX2_readPart 133 = .ok (.aload_n 0, 1) := by decide +kernel
theorem dX2_readPart_134 : decode cX2_readPart 134 = .ok (.iload 5, 2) := by decide +kernel
theorem dX2_readPart_136 : decode cX2_readPart 136 = .ok (.invokevirtual 55, 3) := by decide +kernel
theorem dX2_readPart_139 : decode cX2_readPart 139 = .ok (.iinc 4 1, 3) := by decide +kernel
theorem dX2_readPart_142 : decode cX2_readPart 142 = .ok (.goto (-44), 3) := by decide +kernel
theorem dX2_readPart_145 : decode cX2_readPart 145 = .ok (.goto 98, 3) := by decide +kernel
theorem dX2_readPart_148 : decode cX2_readPart 148 = .ok (.aload_n 0, 1) := by decide +kernel
theorem dX2_readPart_149 : decode cX2_readPart 149 = .ok (.getfield 42, 3) := by decide +kernel
theorem dX2_readPart_152 : decode cX2_readPart 152 = .ok (.bipush (-16), 2) := by decide +kernel
theorem dX2_readPart_154 : decode cX2_readPart 154 = .ok (.if_icmp .ne 28, 3) := by decide +kernel
theorem dX2_readPart_157 : decode cX2_readPart 157 = .ok (.aload_n 0, 1) := by decide +kernel
theorem dX2_readPart_158 : decode cX2_readPart 158 = .ok (.iload_n 2, 1) := by decide +kernel
theorem dX2_readPart_159 : decode cX2_readPart 159 = .ok (.invokevirtual 51, 3) := by decide +kernel
theorem dX2_readPart_162 : decode cX2_readPart 162 = .ok (.ifCond .eq 81, 3) := by decide +kernel
theorem dX2_readPart_165 : decode cX2_readPart 165 = .ok (.aload_n 0, 1) := by decide +kernel
theorem dX2_readPart_166 : decode cX2_readPart 166 = .ok (.iconst 0, 1) := by decide +kernel
theorem dX2_readPart_167 : decode cX2_readPart 167 = .ok (.iload_n 2, 1) := by decide +kernel
theorem dX2_readPart_168 : decode cX2_readPart 168 = .ok (.iconst 1, 1) := by decide +kernel
theorem dX2_readPart_169 : decode cX2_readPart 169 = .ok (.iadd, 1) := by decide +kernel
theorem dX2_readPart_170 : decode cX2_readPart 170 = .ok (.invokevirtual 38, 3) := by decide +kernel
theorem dX2_readPart_173 : decode cX2_readPart 173 = .ok (.aload_n 0, 1) := by decide +kernel
theorem dX2_readPart_174 : decode cX2_readPart 174 = .ok (.bipush (-17), 2) := by decide +kernel
theorem dX2_readPart_176 : decode cX2_readPart 176 = .ok (.invokevirtual 34, 3) := by decide +kernel
theorem dX2_readPart_179 : decode cX2_readPart 179 = .ok (.goto 64, 3) := by decide +kernel
theorem dX2_readPart_182 : decode cX2_readPart 182 = .ok (.aload_n 0, 1) := by decide +kernel
theorem dX2_readPart_183 : decode cX2_readPart 183 = .ok (.getfield 42, 3) := by decide +kernel
theorem dX2_readPart_186 : decode cX2_readPart 186 = .ok (.bipush (-19), 2) := by decide +kernel
theorem dX2_readPart_188 : decode cX2_readPart 188 = .ok (.if_icmp .eq 20, 3) := by decide +kernel
theorem dX2_readPart_191 : decode cX2_readPart 191 = .ok (.aload_n 0, 1) := by decide +kernel
theorem dX2_readPart_192 : decode cX2_readPart 192 = .ok (.getfield 42, 3) := by decide +kernel
theorem dX2_readPart_195 : decode cX2_readPart 195 = .ok (.iconst (-1), 1) := by decide +kernel
theorem dX2_readPart_196 : decode cX2_readPart 196 = .ok (.if_icmp .gt 43, 3) := by decide +kernel
theorem dX2_readPart_199 : decode cX2_readPart 199 = .ok (.aload_n 0, 1) := by decide +kernel
theorem dX2_readPart_200 : decode cX2_readPart 200 = .ok (.getfield 42, 3) := by decide +kernel
theorem dX2_readPart_203 : decode cX2_readPart 203 = .ok (.bipush (-6), 2) := by decide +kernel
theorem dX2_readPart_205 : decode cX2_readPart 205 = .ok (.if_icmp .lt 34, 3) := by decide +kernel
theorem dX2_readPart_208 : decode cX2_readPart 208 = .ok (.aload_n 0, 1) := by decide +kernel
theorem dX2_readPart_209 : decode cX2_readPart 209 = .ok (.aload_n 0, 1) := by decide +kernel
theorem dX2_readPart_210 : decode cX2_readPart 210 = .ok (.getfield 42, 3) := by decide +kernel
theorem dX2_readPart_213 : decode cX2_readPart 213 = .ok (.bipush (-19), 2) := by decide +kernel
theorem dX2_readPart_215 : decode cX2_readPart 215 = .ok (.if_icmp .ne 10, 3) := by decide +kernel
theorem dX2_readPart_218 : decode cX2_readPart 218 = .ok (.aload_n 0, 1) := by decide +kernel
theorem dX2_readPart_219 : decode cX2_readPart 219 = .ok (.getfield 62, 3) := by decide +kernel
theorem dX2_readPart_222 : decode cX2_readPart 222 = .ok (.goto 7, 3) := by decide +kernel
theorem dX2_readPart_225 : decode cX2_readPart 225 = .ok (.aload_n 0, 1) := by decide +kernel
theorem dX2_readPart_226 : decode cX2_readPart 226 = .ok (.getfield 42, 3) := by decide +kernel
theorem dX2_readPart_229 : decode cX2_readPart 229 = .ok (.invokevirtual 55, 3) := by decide +kernel
theorem dX2_readPart_232 : decode cX2_readPart 232 = .ok (.aload_n 0, 1) := by decide +kernel
theorem dX2_readPart_233 : decode cX2_readPart 233 = .ok (.invokevirtual 31, 3) := by decide +kernel
theorem dX2_readPart_236 : decode cX2_readPart 236 = .ok (.goto 7, 3) := by decide +kernel
theorem dX2_readPart_239 : decode cX2_readPart 239 = .ok (.aload_n 0, 1) := by decide +kernel
theorem dX2_readPart_240 : decode cX2_readPart 240 = .ok (.invokevirtual 45, 3) := by decide +kernel
theorem dX2_readPart_243 : decode cX2_readPart 243 = .ok (.return_, 1) := by decide +kernel
set_option maxRecDepth 20000 in
theorem ggX2_opens_X2_refuse : GoodIn wsX2_opens wsX2_refuse := goodIn_r _ [5, 6, 7, 8, 90, 91, 92, 93, 94, 95, 96, 97, 98] rfl (by decide +kernel)
set_option maxRecDepth 20000 in
theorem gX2_opens_X2_refuse : GoodIn wsX2_opens (wsV RX2 45 RX2 yX2_refuse wsX2_refuse) := goodIn_app (goodIn_of _ (by decide +kernel)) ggX2_opens_X2_refuse
set_option maxRecDepth 20000 in
theorem ggX2_opens_X2_step : GoodIn wsX2_opens wsX2_step := goodIn_r _ [12, 6, 13, 14, 15, 7, 8, 16, 17, 4, 18, 19, 20, 21, 22, 23, 24, 25, 26, 27, 28, 29, 30, 31, 32, 33, 34, 35, 36, 37, 38, 39, 40, 41, 42, 43, 44, 45, 46, 47, 48, 49, 50, 51, 52, 53, 54, 55, 56, 57, 58, 59, 60, 61, 62, 63, 64, 65, 66, 67, 68, 69, 70, 71, 72, 73, 74, 75, 76, 77, 78, 79, 80, 81, 82, 83, 84, 85, 86, 87, 88, 89, 90, 91, 92, 93, 94, 95, 96, 97, 98] rfl (by decide +kernel)
set_option maxRecDepth 20000 in
theorem gX2_opens_X2_step : GoodIn wsX2_opens (wsV RX2 31 RX2 yX2_step wsX2_step) := goodIn_app (goodIn_of _ (by decide +kernel)) ggX2_opens_X2_step
theorem dX2_opens_0 : decode cX2_opens 0 = .ok (.iload_n 1, 1) := by decide +kernel
theorem dX2_opens_1 : decode cX2_opens 1 = .ok (.iconst 5, 1) := by decide +kernel
theorem dX2_opens_2 : decode cX2_opens 2 = .ok (.if_icmp .lt 9, 3) := by decide +kernel
theorem dX2_opens_5 : decode cX2_opens 5 = .ok (.aload_n 0, 1) := by decide +kernel
theorem dX2_opens_6 : decode cX2_opens 6 = .ok (.invokevirtual 45, 3) := by decide +kernel
theorem dX2_opens_9 : decode cX2_opens 9 = .ok (.iconst 0, 1) := by decide +kernel
theorem dX2_opens_10 : decode cX2_opens 10 = .ok (.ireturn, 1) := by decide +kernel
theorem dX2_opens_11 : decode cX2_opens 11 = .ok (.aload_n 0, 1) := by decide +kernel
theorem dX2_opens_12 : decode cX2_opens 12 = .ok (.invokevirtual 31, 3) := by decide +kernel
theorem dX2_opens_15 : decode cX2_opens 15 = .ok (.iconst 1, 1) := by decide +kernel
theorem dX2_opens_16 : decode cX2_opens 16 = .ok (.ireturn, 1) := by decide +kernel
theorem dX2_levelOf_0 : decode cX2_levelOf 0 = .ok (.iload_n 0, 1) := by decide +kernel
theorem dX2_levelOf_1 : decode cX2_levelOf 1 = .ok (.tableswitch 57 (-14) (-7) #[55, 53, 53, 51, 51, 57, 49, 47], 47) := by decide +kernel
theorem dX2_levelOf_48 : decode cX2_levelOf 48 = .ok (.iconst 0, 1) := by decide +kernel
theorem dX2_levelOf_49 : decode cX2_levelOf 49 = .ok (.ireturn, 1) := by decide +kernel
theorem dX2_levelOf_50 : decode cX2_levelOf 50 = .ok (.iconst 1, 1) := by decide +kernel
theorem dX2_levelOf_51 : decode cX2_levelOf 51 = .ok (.ireturn, 1) := by decide +kernel
theorem dX2_levelOf_52 : decode cX2_levelOf 52 = .ok (.iconst 2, 1) := by decide +kernel
theorem dX2_levelOf_53 : decode cX2_levelOf 53 = .ok (.ireturn, 1) := by decide +kernel
theorem dX2_levelOf_54 : decode cX2_levelOf 54 = .ok (.iconst 3, 1) := by decide +kernel
theorem dX2_levelOf_55 : decode cX2_levelOf 55 = .ok (.ireturn, 1) := by decide +kernel
theorem dX2_levelOf_56 : decode cX2_levelOf 56 = .ok (.iconst 4, 1) := by decide +kernel
theorem dX2_levelOf_57 : decode cX2_levelOf 57 = .ok (.ireturn, 1) := by decide +kernel
theorem dX2_levelOf_58 : decode cX2_levelOf 58 = .ok (.iconst (-1), 1) := by decide +kernel
theorem dX2_levelOf_59 : decode cX2_levelOf 59 = .ok (.ireturn, 1) := by decide +kernel
set_option maxRecDepth 20000 in
theorem ggX2_step_X2_isLetter : GoodIn wsX2_step wsX2_isLetter := goodIn_r _ [10] rfl (by decide +kernel)
set_option maxRecDepth 20000 in
theorem gX2_step_X2_isLetter : GoodIn wsX2_step (va_wsS RX2 65 yX2_isLetter wsX2_isLetter) := goodIn_app (goodIn_of _ (by decide +kernel)) ggX2_step_X2_isLetter
set_option maxRecDepth 20000 in
theorem ggX2_step_X2_stepOverWord : GoodIn wsX2_step wsX2_stepOverWord := goodIn_r _ [14, 2, 3, 4, 7, 8, 9, 10, 15, 16, 17, 18, 19, 20, 21, 5, 22, 23, 24, 25, 26, 27, 28, 29, 30, 31, 32, 33, 34, 35, 36, 37, 38, 39, 40, 41, 42, 43, 44, 45, 46, 47, 48, 49, 50, 51, 52, 53, 54, 55, 56, 57, 58, 59, 60, 61, 62, 63, 64, 65, 66, 67, 68, 69, 70, 82, 83, 84, 85, 86, 87, 88, 89, 90] rfl (by decide +kernel)
set_option maxRecDepth 20000 in
theorem gX2_step_X2_stepOverWord : GoodIn wsX2_step (wsV RX2 68 RX2 yX2_stepOverWord wsX2_stepOverWord) := goodIn_app (goodIn_of _ (by decide +kernel)) ggX2_step_X2_stepOverWord
set_option maxRecDepth 20000 in
theorem ggX2_step_X2_isDigit : GoodIn wsX2_step wsX2_isDigit := goodIn_r _ [73] rfl (by decide +kernel)
set_option maxRecDepth 20000 in
theorem gX2_step_X2_isDigit : GoodIn wsX2_step (va_wsS RX2 72 yX2_isDigit wsX2_isDigit) := goodIn_app (goodIn_of _ (by decide +kernel)) ggX2_step_X2_isDigit
set_option maxRecDepth 20000 in
theorem ggX2_step_X2_stepOverNumber : GoodIn wsX2_step wsX2_stepOverNumber := goodIn_r _ [77, 78, 2, 3, 4, 5, 71, 72, 9, 73, 82, 83, 84, 85, 86, 87, 88, 89, 90] rfl (by decide +kernel)
set_option maxRecDepth 20000 in
theorem gX2_step_X2_stepOverNumber : GoodIn wsX2_step (wsV RX2 75 RX2 yX2_stepOverNumber wsX2_stepOverNumber) := goodIn_app (goodIn_of _ (by decide +kernel)) ggX2_step_X2_stepOverNumber
set_option maxRecDepth 20000 in
theorem ggX2_step_X2_signOf : GoodIn wsX2_step wsX2_signOf := goodIn_r _ [81] rfl (by decide +kernel)
set_option maxRecDepth 20000 in
theorem gX2_step_X2_signOf : GoodIn wsX2_step (va_wsS RX2 78 yX2_signOf wsX2_signOf) := goodIn_app (goodIn_of _ (by decide +kernel)) ggX2_step_X2_signOf
theorem dX2_step_0 : decode cX2_step 0 = .ok (.aload_n 0, 1) := by decide +kernel
theorem dX2_step_1 : decode cX2_step 1 = .ok (.getfield 28, 3) := by decide +kernel
theorem dX2_step_4 : decode cX2_step 4 = .ok (.ifCond .lt 4, 3) := by decide +kernel
theorem dX2_step_7 : decode cX2_step 7 = .ok (.return_, 1) := by decide +kernel
theorem dX2_step_8 : decode cX2_step 8 = .ok (.aload_n 0, 1) := by decide +kernel
theorem dX2_step_9 : decode cX2_step 9 = .ok (.getfield 25, 3) := by decide +kernel
theorem dX2_step_12 : decode cX2_step 12 = .ok (.aload_n 0, 1) := by decide +kernel
theorem dX2_step_13 : decode cX2_step 13 = .ok (.getfield 18, 3) := by decide +kernel
theorem dX2_step_16 : decode cX2_step 16 = .ok (.if_icmp .ge 44, 3) := by decide +kernel
theorem dX2_step_19 : decode cX2_step 19 = .ok (.aload_n 0, 1) := by decide +kernel
theorem dX2_step_20 : decode cX2_step 20 = .ok (.getfield 9, 3) := by decide +kernel
theorem dX2_step_23 : decode cX2_step 23 = .ok (.aload_n 0, 1) := by decide +kernel
theorem dX2_step_24 : decode cX2_step 24 = .ok (.getfield 25, 3) := by decide +kernel
theorem dX2_step_27 : decode cX2_step 27 = .ok (.iaload, 1) := by decide +kernel
theorem dX2_step_28 : decode cX2_step 28 = .ok (.bipush 32, 2) := by decide +kernel
theorem dX2_step_30 : decode cX2_step 30 = .ok (.if_icmp .eq 17, 3) := by decide +kernel
theorem dX2_step_33 : decode cX2_step 33 = .ok (.aload_n 0, 1) := by decide +kernel
theorem dX2_step_34 : decode cX2_step 34 = .ok (.getfield 9, 3) := by decide +kernel
theorem dX2_step_37 : decode cX2_step 37 = .ok (.aload_n 0, 1) := by decide +kernel
theorem dX2_step_38 : decode cX2_step 38 = .ok (.getfield 25, 3) := by decide +kernel
theorem dX2_step_41 : decode cX2_step 41 = .ok (.iaload, 1) := by decide +kernel
theorem dX2_step_42 : decode cX2_step 42 = .ok (.bipush 10, 2) := by decide +kernel
theorem dX2_step_44 : decode cX2_step 44 = .ok (.if_icmp .ne 16, 3) := by decide +kernel
theorem dX2_step_47 : decode cX2_step 47 = .ok (.aload_n 0, 1) := by decide +kernel
theorem dX2_step_48 : decode cX2_step 48 = .ok (.dup, 1) := by decide +kernel
theorem dX2_step_49 : decode cX2_step 49 = .ok (.getfield 25, 3) := by decide +kernel
theorem dX2_step_52 : decode cX2_step 52 = .ok (.iconst 1, 1) := by decide +kernel
theorem dX2_step_53 : decode cX2_step 53 = .ok (.iadd, 1) := by decide +kernel
theorem dX2_step_54 : decode cX2_step 54 = .ok (.putfield 25, 3) := by decide +kernel
theorem dX2_step_57 : decode cX2_step 57 = .ok (.goto (-49), 3) := by decide +kernel
theorem dX2_step_60 : decode cX2_step 60 = .ok (.aload_n 0, 1) := by decide +kernel
theorem dX2_step_61 : decode cX2_step 61 = .ok (.aload_n 0, 1) := by decide +kernel
theorem dX2_step_62 : decode cX2_step 62 = .ok (.getfield 25, 3) := by decide +kernel
theorem dX2_step_65 : decode cX2_step 65 = .ok (.putfield 48, 3) := by decide +kernel
theorem dX2_step_68 : decode cX2_step 68 = .ok (.aload_n 0, 1) := by decide +kernel
theorem dX2_step_69 : decode cX2_step 69 = .ok (.getfield 25, 3) := by decide +kernel
theorem dX2_step_72 : decode cX2_step 72 = .ok (.aload_n 0, 1) := by decide +kernel
theorem dX2_step_73 : decode cX2_step 73 = .ok (.getfield 18, 3) := by decide +kernel
theorem dX2_step_76 : decode cX2_step 76 = .ok (.if_icmp .lt 12, 3) := by decide +kernel
theorem dX2_step_79 : decode cX2_step 79 = .ok (.aload_n 0, 1) := by decide +kernel
theorem dX2_step_80 : decode cX2_step 80 = .ok (.bipush (-20), 2) := by decide +kernel
theorem dX2_step_82 : decode cX2_step 82 = .ok (.putfield 42, 3) := by decide +kernel
theorem dX2_step_85 : decode cX2_step 85 = .ok (.goto 81, 3) := by decide +kernel
theorem dX2_step_88 : decode cX2_step 88 = .ok (.aload_n 0, 1) := by decide +kernel
theorem dX2_step_89 : decode cX2_step 89 = .ok (.getfield 9, 3) := by decide +kernel
theorem dX2_step_92 : decode cX2_step 92 = .ok (.aload_n 0, 1) := by decide +kernel
theorem dX2_step_93 : decode cX2_step 93 = .ok (.getfield 25, 3) := by decide +kernel
theorem dX2_step_96 : decode cX2_step 96 = .ok (.iaload, 1) := by decide +kernel
theorem dX2_step_97 : decode cX2_step 97 = .ok (.invokestatic 65, 3) := by decide +kernel
theorem dX2_step_100 : decode cX2_step 100 = .ok (.ifCond .eq 14, 3) := by decide +kernel
theorem dX2_step_103 : decode cX2_step 103 = .ok (.aload_n 0, 1) := by decide +kernel
theorem dX2_step_104 : decode cX2_step 104 = .ok (.aload_n 0, 1) := by decide +kernel
theorem dX2_step_105 : decode cX2_step 105 = .ok (.invokevirtual 68, 3) := by decide +kernel
theorem dX2_step_108 : decode cX2_step 108 = .ok (.putfield 42, 3) := by decide +kernel
theorem dX2_step_111 : decode cX2_step 111 = .ok (.goto 55, 3) := by decide +kernel
theorem dX2_step_114 : decode cX2_step 114 = .ok (.aload_n 0, 1) := by decide +kernel
theorem dX2_step_115 : decode cX2_step 115 = .ok (.getfield 9, 3) := by decide +kernel
theorem dX2_step_118 : decode cX2_step 118 = .ok (.aload_n 0, 1) := by decide +kernel
theorem dX2_step_119 : decode cX2_step 119 = .ok (.getfield 25, 3) := by decide +kernel
theorem dX2_step_122 : decode cX2_step 122 = .ok (.iaload, 1) := by decide +kernel
theorem dX2_step_123 : decode cX2_step 123 = .ok (.invokestatic 72, 3) := by decide +kernel
theorem dX2_step_126 : decode cX2_step 126 = .ok (.ifCond .eq 14, 3) := by decide +kernel
theorem dX2_step_129 : decode cX2_step 129 = .ok (.aload_n 0, 1) := by decide +kernel
theorem dX2_step_130 : decode cX2_step 130 = .ok (.aload_n 0, 1) := by decide +kernel
theorem dX2_step_131 : decode cX2_step 131 = .ok (.invokevirtual 75, 3) := by decide +kernel
theorem dX2_step_134 : decode cX2_step 134 = .ok (.putfield 42, 3) := by decide +kernel
theorem dX2_step_137 : decode cX2_step 137 = .ok (.goto 29, 3) := by decide +kernel
theorem dX2_step_140 : decode cX2_step 140 = .ok (.aload_n 0, 1) := by decide +kernel
theorem dX2_step_141 : decode cX2_step 141 = .ok (.aload_n 0, 1) := by decide +kernel
theorem dX2_step_142 : decode cX2_step 142 = .ok (.getfield 9, 3) := by decide +kernel
theorem dX2_step_145 : decode cX2_step 145 = .ok (.aload_n 0, 1) := by decide +kernel
theorem dX2_step_146 : decode cX2_step 146 = .ok (.getfield 25, 3) := by decide +kernel
theorem dX2_step_149 : decode cX2_step 149 = .ok (.iaload, 1) := by decide +kernel
theorem dX2_step_150 : decode cX2_step 150 = .ok (.invokestatic 78, 3) := by decide +kernel
theorem dX2_step_153 : decode cX2_step 153 = .ok (.putfield 42, 3) := by decide +kernel
theorem dX2_step_156 : decode cX2_step 156 = .ok (.aload_n 0, 1) := by decide +kernel
theorem dX2_step_157 : decode cX2_step 157 = .ok (.dup, 1) := by decide +kernel
theorem dX2_step_158 : decode cX2_step 158 = .ok (.getfield 25, 3) := by decide +kernel
theorem dX2_step_161 : decode cX2_step 161 = .ok (.iconst 1, 1) := by decide +kernel
theorem dX2_step_162 : decode cX2_step 162 = .ok (.iadd, 1) := by decide +kernel
theorem dX2_step_163 : decode cX2_step 163 = .ok (.putfield 25, 3) := by decide +kernel
theorem dX2_step_166 : decode cX2_step 166 = .ok (.return_, 1) := by decide +kernel
set_option maxRecDepth 20000 in
theorem ggX2_stepOverWord_X2_isLetter : GoodIn wsX2_stepOverWord wsX2_isLetter := goodIn_r _ [7] rfl (by decide +kernel)
set_option maxRecDepth 20000 in
theorem gX2_stepOverWord_X2_isLetter : GoodIn wsX2_stepOverWord (va_wsS RX2 65 yX2_isLetter wsX2_isLetter) := goodIn_app (goodIn_of _ (by decide +kernel)) ggX2_stepOverWord_X2_isLetter
set_option maxRecDepth 20000 in
theorem ggX2_stepOverWord_X2_wordOf : GoodIn wsX2_stepOverWord wsX2_wordOf := goodIn_r _ [10] rfl (by decide +kernel)
set_option maxRecDepth 20000 in
theorem gX2_stepOverWord_X2_wordOf : GoodIn wsX2_stepOverWord (va_wsS RX2 81 yX2_wordOf wsX2_wordOf) := goodIn_app (goodIn_of _ (by decide +kernel)) ggX2_stepOverWord_X2_wordOf
set_option maxRecDepth 20000 in
theorem ggX2_stepOverWord_X2_stands : GoodIn wsX2_stepOverWord wsX2_stands := goodIn_r _ [14, 1, 15, 3, 16, 17, 18, 19, 20, 21, 22, 23, 24, 25, 26, 27, 28, 29, 30, 31, 32, 33, 34, 35, 36, 37, 38, 39, 40, 41, 42, 43, 44, 45, 46, 47, 48, 49, 50, 51, 52, 53, 54, 55, 56, 57, 58, 59, 60, 61, 62, 63, 64, 65, 66, 67, 68, 69, 70, 71, 72, 73] rfl (by decide +kernel)
set_option maxRecDepth 20000 in
theorem gX2_stepOverWord_X2_stands : GoodIn wsX2_stepOverWord (wsV RX2 85 RX2 yX2_stands wsX2_stands) := goodIn_app (goodIn_of _ (by decide +kernel)) ggX2_stepOverWord_X2_stands
theorem dX2_stepOverWord_0 : decode cX2_stepOverWord 0 = .ok (.aload_n 0, 1) := by decide +kernel
theorem dX2_stepOverWord_1 : decode cX2_stepOverWord 1 = .ok (.getfield 25, 3) := by decide +kernel
theorem dX2_stepOverWord_4 : decode cX2_stepOverWord 4 = .ok (.aload_n 0, 1) := by decide +kernel
theorem dX2_stepOverWord_5 : decode cX2_stepOverWord 5 = .ok (.getfield 18, 3) := by decide +kernel
theorem dX2_stepOverWord_8 : decode cX2_stepOverWord 8 = .ok (.if_icmp .ge 31, 3) := by decide +kernel
theorem dX2_stepOverWord_11 : decode cX2_stepOverWord 11 = .ok (.aload_n 0, 1) := by decide +kernel
theorem dX2_stepOverWord_12 : decode cX2_stepOverWord 12 = .ok (.getfield 9, 3) := by decide +kernel
theorem dX2_stepOverWord_15 : decode cX2_stepOverWord 15 = .ok (.aload_n 0, 1) := by decide +kernel
theorem dX2_stepOverWord_16 : decode cX2_stepOverWord 16 = .ok (.getfield 25, 3) := by decide +kernel
theorem dX2_stepOverWord_19 : decode cX2_stepOverWord 19 = .ok (.iaload, 1) := by decide +kernel
theorem dX2_stepOverWord_20 : decode cX2_stepOverWord 20 = .ok (.invokestatic 65, 3) := by decide +kernel
theorem dX2_stepOverWord_23 : decode cX2_stepOverWord 23 = .ok (.ifCond .eq 16, 3) := by decide +kernel
theorem dX2_stepOverWord_26 : decode cX2_stepOverWord 26 = .ok (.aload_n 0, 1) := by decide +kernel
theorem dX2_stepOverWord_27 : decode cX2_stepOverWord 27 = .ok (.dup, 1) := by decide +kernel
theorem dX2_stepOverWord_28 : decode cX2_stepOverWord 28 = .ok (.getfield 25, 3) := by decide +kernel
theorem dX2_stepOverWord_31 : decode cX2_stepOverWord 31 = .ok (.iconst 1, 1) := by decide +kernel
theorem dX2_stepOverWord_32 : decode cX2_stepOverWord 32 = .ok (.iadd, 1) := by decide +kernel
theorem dX2_stepOverWord_33 : decode cX2_stepOverWord 33 = .ok (.putfield 25, 3) := by decide +kernel
theorem dX2_stepOverWord_36 : decode cX2_stepOverWord 36 = .ok (.goto (-36), 3) := by decide +kernel
theorem dX2_stepOverWord_39 : decode cX2_stepOverWord 39 = .ok (.iconst (-1), 1) := by decide +kernel
theorem dX2_stepOverWord_40 : decode cX2_stepOverWord 40 = .ok (.istore_n 1, 1) := by decide +kernel
theorem dX2_stepOverWord_41 : decode cX2_stepOverWord 41 = .ok (.iload_n 1, 1) := by decide +kernel
theorem dX2_stepOverWord_42 : decode cX2_stepOverWord 42 = .ok (.bipush (-24), 2) := by decide +kernel
theorem dX2_stepOverWord_44 : decode cX2_stepOverWord 44 = .ok (.if_icmp .lt 22, 3) := by decide +kernel
theorem dX2_stepOverWord_47 : decode cX2_stepOverWord 47 = .ok (.aload_n 0, 1) := by decide +kernel
theorem dX2_stepOverWord_48 : decode cX2_stepOverWord 48 = .ok (.iload_n 1, 1) := by decide +kernel
theorem dX2_stepOverWord_49 : decode cX2_stepOverWord 49 = .ok (.invokestatic 81, 3) := by decide +kernel
theorem dX2_stepOverWord_52 : decode cX2_stepOverWord 52 = .ok (.invokevirtual 85, 3) := by decide +kernel
theorem dX2_stepOverWord_55 : decode cX2_stepOverWord 55 = .ok (.ifCond .eq 5, 3) := by decide +kernel
theorem dX2_stepOverWord_58 : decode cX2_stepOverWord 58 = .ok (.iload_n 1, 1) := by decide +kernel
theorem dX2_stepOverWord_59 : decode cX2_stepOverWord 59 = .ok (.ireturn, 1) := by decide +kernel
theorem dX2_stepOverWord_60 : decode cX2_stepOverWord 60 = .ok (.iinc 1 (-1), 3) := by decide +kernel
theorem dX2_stepOverWord_63 : decode cX2_stepOverWord 63 = .ok (.goto (-22), 3) := by decide +kernel
theorem dX2_stepOverWord_66 : decode cX2_stepOverWord 66 = .ok (.bipush (-21), 2) := by decide +kernel
theorem dX2_stepOverWord_68 : decode cX2_stepOverWord 68 = .ok (.ireturn, 1) := by decide +kernel
set_option maxRecDepth 20000 in
theorem ggX2_stands_J0_length_8abf5 : GoodIn wsX2_stands wsJ0_length_8abf5 := goodIn_r _ [8, 9, 10, 11, 12, 7, 13, 14, 15] rfl (by decide +kernel)
set_option maxRecDepth 20000 in
theorem gX2_stands_J0_length_8abf5 : GoodIn wsX2_stands (wsV RX2 89 RJ0 yJ0_length_8abf5 wsJ0_length_8abf5) := goodIn_app (goodIn_of _ (by decide +kernel)) ggX2_stands_J0_length_8abf5
set_option maxRecDepth 20000 in
theorem ggX2_stands_J0_charAt_5068e : GoodIn wsX2_stands wsJ0_charAt_5068e := goodIn_r _ [19, 9, 20, 21, 22, 7, 23, 14, 15, 24, 25, 26, 27, 28, 29, 30, 31, 32, 33, 34, 35, 36, 37, 38, 39, 40, 41, 42, 43, 44, 45, 46, 47, 48, 49, 50, 51, 52] rfl (by decide +kernel)
set_option maxRecDepth 20000 in
theorem gX2_stands_J0_charAt_5068e : GoodIn wsX2_stands (wsV RX2 94 RJ0 yJ0_charAt_5068e wsJ0_charAt_5068e) := goodIn_app (goodIn_of _ (by decide +kernel)) ggX2_stands_J0_charAt_5068e
theorem dX2_stands_0 : decode cX2_stands 0 = .ok (.aload_n 1, 1) := by decide +kernel
theorem dX2_stands_1 : decode cX2_stands 1 = .ok (.invokevirtual 89, 3) := by decide +kernel
theorem dX2_stands_4 : decode cX2_stands 4 = .ok (.aload_n 0, 1) := by decide +kernel
theorem dX2_stands_5 : decode cX2_stands 5 = .ok (.getfield 25, 3) := by decide +kernel
theorem dX2_stands_8 : decode cX2_stands 8 = .ok (.aload_n 0, 1) := by decide +kernel
theorem dX2_stands_9 : decode cX2_stands 9 = .ok (.getfield 48, 3) := by decide +kernel
theorem dX2_stands_12 : decode cX2_stands 12 = .ok (.isub, 1) := by decide +kernel
theorem dX2_stands_13 : decode cX2_stands 13 = .ok (.if_icmp .eq 5, 3) := by decide +kernel
theorem dX2_stands_16 : decode cX2_stands 16 = .ok (.iconst 0, 1) := by decide +kernel
theorem dX2_stands_17 : decode cX2_stands 17 = .ok (.ireturn, 1) := by decide +kernel
theorem dX2_stands_18 : decode cX2_stands 18 = .ok (.iconst 0, 1) := by decide +kernel
theorem dX2_stands_19 : decode cX2_stands 19 = .ok (.istore_n 2, 1) := by decide +kernel
theorem dX2_stands_20 : decode cX2_stands 20 = .ok (.iload_n 2, 1) := by decide +kernel
theorem dX2_stands_21 : decode cX2_stands 21 = .ok (.aload_n 1, 1) := by decide +kernel
theorem dX2_stands_22 : decode cX2_stands 22 = .ok (.invokevirtual 89, 3) := by decide +kernel
theorem dX2_stands_25 : decode cX2_stands 25 = .ok (.if_icmp .ge 30, 3) := by decide +kernel
theorem dX2_stands_28 : decode cX2_stands 28 = .ok (.aload_n 1, 1) := by decide +kernel
theorem dX2_stands_29 : decode cX2_stands 29 = .ok (.iload_n 2, 1) := by decide +kernel
theorem dX2_stands_30 : decode cX2_stands 30 = .ok (.invokevirtual 94, 3) := by decide +kernel
theorem dX2_stands_33 : decode cX2_stands 33 = .ok (.aload_n 0, 1) := by decide +kernel
theorem dX2_stands_34 : decode cX2_stands 34 = .ok (.getfield 9, 3) := by decide +kernel
theorem dX2_stands_37 : decode cX2_stands 37 = .ok (.aload_n 0, 1) := by decide +kernel
theorem dX2_stands_38 : decode cX2_stands 38 = .ok (.getfield 48, 3) := by decide +kernel
theorem dX2_stands_41 : decode cX2_stands 41 = .ok (.iload_n 2, 1) := by decide +kernel
theorem dX2_stands_42 : decode cX2_stands 42 = .ok (.iadd, 1) := by decide +kernel
theorem dX2_stands_43 : decode cX2_stands 43 = .ok (.iaload, 1) := by decide +kernel
theorem dX2_stands_44 : decode cX2_stands 44 = .ok (.if_icmp .eq 5, 3) := by decide +kernel
theorem dX2_stands_47 : decode cX2_stands 47 = .ok (.iconst 0, 1) := by decide +kernel
theorem dX2_stands_48 : decode cX2_stands 48 = .ok (.ireturn, 1) := by decide +kernel
theorem dX2_stands_49 : decode cX2_stands 49 = .ok (.iinc 2 1, 3) := by decide +kernel
theorem dX2_stands_52 : decode cX2_stands 52 = .ok (.goto (-32), 3) := by decide +kernel
theorem dX2_stands_55 : decode cX2_stands 55 = .ok (.iconst 1, 1) := by decide +kernel
theorem dX2_stands_56 : decode cX2_stands 56 = .ok (.ireturn, 1) := by decide +kernel
theorem dX2_wordOf_0 : decode cX2_wordOf 0 = .ok (.iload_n 0, 1) := by decide +kernel
theorem dX2_wordOf_1 : decode cX2_wordOf 1 = .ok (.tableswitch 147 (-24) (-1) #[144, 141, 138, 147, 147, 147, 147, 147, 147, 147, 147, 147, 147, 147, 147, 135, 132, 129, 126, 123, 120, 117, 114, 111], 111) := by decide +kernel
theorem dX2_wordOf_112 : decode cX2_wordOf 112 = .ok (.ldc 98, 2) := by decide +kernel
theorem dX2_wordOf_114 : decode cX2_wordOf 114 = .ok (.areturn, 1) := by decide +kernel
theorem dX2_wordOf_115 : decode cX2_wordOf 115 = .ok (.ldc 100, 2) := by decide +kernel
theorem dX2_wordOf_117 : decode cX2_wordOf 117 = .ok (.areturn, 1) := by decide +kernel
theorem dX2_wordOf_118 : decode cX2_wordOf 118 = .ok (.ldc 102, 2) := by decide +kernel
theorem dX2_wordOf_120 : decode cX2_wordOf 120 = .ok (.areturn, 1) := by decide +kernel
theorem dX2_wordOf_121 : decode cX2_wordOf 121 = .ok (.ldc 104, 2) := by decide +kernel
theorem dX2_wordOf_123 : decode cX2_wordOf 123 = .ok (.areturn, 1) := by decide +kernel
theorem dX2_wordOf_124 : decode cX2_wordOf 124 = .ok (.ldc 106, 2) := by decide +kernel
theorem dX2_wordOf_126 : decode cX2_wordOf 126 = .ok (.areturn, 1) := by decide +kernel
theorem dX2_wordOf_127 : decode cX2_wordOf 127 = .ok (.ldc 108, 2) := by decide +kernel
theorem dX2_wordOf_129 : decode cX2_wordOf 129 = .ok (.areturn, 1) := by decide +kernel
theorem dX2_wordOf_130 : decode cX2_wordOf 130 = .ok (.ldc 110, 2) := by decide +kernel
theorem dX2_wordOf_132 : decode cX2_wordOf 132 = .ok (.areturn, 1) := by decide +kernel
theorem dX2_wordOf_133 : decode cX2_wordOf 133 = .ok (.ldc 112, 2) := by decide +kernel
theorem dX2_wordOf_135 : decode cX2_wordOf 135 = .ok (.areturn, 1) := by decide +kernel
theorem dX2_wordOf_136 : decode cX2_wordOf 136 = .ok (.ldc 114, 2) := by decide +kernel
theorem dX2_wordOf_138 : decode cX2_wordOf 138 = .ok (.areturn, 1) := by decide +kernel
theorem dX2_wordOf_139 : decode cX2_wordOf 139 = .ok (.ldc 116, 2) := by decide +kernel
theorem dX2_wordOf_141 : decode cX2_wordOf 141 = .ok (.areturn, 1) := by decide +kernel
theorem dX2_wordOf_142 : decode cX2_wordOf 142 = .ok (.ldc 118, 2) := by decide +kernel
theorem dX2_wordOf_144 : decode cX2_wordOf 144 = .ok (.areturn, 1) := by decide +kernel
theorem dX2_wordOf_145 : decode cX2_wordOf 145 = .ok (.ldc 120, 2) := by decide +kernel
theorem dX2_wordOf_147 : decode cX2_wordOf 147 = .ok (.areturn, 1) := by decide +kernel
theorem dX2_wordOf_148 : decode cX2_wordOf 148 = .ok (.ldc 122, 2) := by decide +kernel
theorem dX2_wordOf_150 : decode cX2_wordOf 150 = .ok (.areturn, 1) := by decide +kernel
set_option maxRecDepth 20000 in
theorem ggX2_stepOverNumber_X2_isDigit : GoodIn wsX2_stepOverNumber wsX2_isDigit := goodIn_r _ [9] rfl (by decide +kernel)
set_option maxRecDepth 20000 in
theorem gX2_stepOverNumber_X2_isDigit : GoodIn wsX2_stepOverNumber (va_wsS RX2 72 yX2_isDigit wsX2_isDigit) := goodIn_app (goodIn_of _ (by decide +kernel)) ggX2_stepOverNumber_X2_isDigit
theorem dX2_stepOverNumber_0 : decode cX2_stepOverNumber 0 = .ok (.aload_n 0, 1) := by decide +kernel
theorem dX2_stepOverNumber_1 : decode cX2_stepOverNumber 1 = .ok (.iconst 0, 1) := by decide +kernel
theorem dX2_stepOverNumber_2 : decode cX2_stepOverNumber 2 = .ok (.putfield 62, 3) := by decide +kernel
theorem dX2_stepOverNumber_5 : decode cX2_stepOverNumber 5 = .ok (.aload_n 0, 1) := by decide +kernel
theorem dX2_stepOverNumber_6 : decode cX2_stepOverNumber 6 = .ok (.getfield 25, 3) := by decide +kernel
theorem dX2_stepOverNumber_9 : decode cX2_stepOverNumber 9 = .ok (.aload_n 0, 1) := by decide +kernel
theorem dX2_stepOverNumber_10 : decode cX2_stepOverNumber 10 = .ok (.getfield 18, 3) := by decide +kernel
theorem dX2_stepOverNumber_13 : decode cX2_stepOverNumber 13 = .ok (.if_icmp .ge 55, 3) := by decide +kernel
theorem dX2_stepOverNumber_16 : decode cX2_stepOverNumber 16 = .ok (.aload_n 0, 1) := by decide +kernel
theorem dX2_stepOverNumber_17 : decode cX2_stepOverNumber 17 = .ok (.getfield 9, 3) := by decide +kernel
theorem dX2_stepOverNumber_20 : decode cX2_stepOverNumber 20 = .ok (.aload_n 0, 1) := by decide +kernel
theorem dX2_stepOverNumber_21 : decode cX2_stepOverNumber 21 = .ok (.getfield 25, 3) := by decide +kernel
theorem dX2_stepOverNumber_24 : decode cX2_stepOverNumber 24 = .ok (.iaload, 1) := by decide +kernel
theorem dX2_stepOverNumber_25 : decode cX2_stepOverNumber 25 = .ok (.invokestatic 72, 3) := by decide +kernel
theorem dX2_stepOverNumber_28 : decode cX2_stepOverNumber 28 = .ok (.ifCond .eq 40, 3) := by decide +kernel
theorem dX2_stepOverNumber_31 : decode cX2_stepOverNumber 31 = .ok (.aload_n 0, 1) := by decide +kernel
theorem dX2_stepOverNumber_32 : decode cX2_stepOverNumber 32 = .ok (.aload_n 0, 1) := by decide +kernel
theorem dX2_stepOverNumber_33 : decode cX2_stepOverNumber 33 = .ok (.getfield 62, 3) := by decide +kernel
theorem dX2_stepOverNumber_36 : decode cX2_stepOverNumber 36 = .ok (.bipush 10, 2) := by decide +kernel
theorem dX2_stepOverNumber_38 : decode cX2_stepOverNumber 38 = .ok (.imul, 1) := by decide +kernel
theorem dX2_stepOverNumber_39 : decode cX2_stepOverNumber 39 = .ok (.aload_n 0, 1) := by decide +kernel
theorem dX2_stepOverNumber_40 : decode cX2_stepOverNumber 40 = .ok (.getfield 9, 3) := by decide +kernel
theorem dX2_stepOverNumber_43 : decode cX2_stepOverNumber 43 = .ok (.aload_n 0, 1) := by decide +kernel
theorem dX2_stepOverNumber_44 : decode cX2_stepOverNumber 44 = .ok (.getfield 25, 3) := by decide +kernel
theorem dX2_stepOverNumber_47 : decode cX2_stepOverNumber 47 = .ok (.iaload, 1) := by decide +kernel
theorem dX2_stepOverNumber_48 : decode cX2_stepOverNumber 48 = .ok (.iadd, 1) := by decide +kernel
theorem dX2_stepOverNumber_49 : decode cX2_stepOverNumber 49 = .ok (.bipush 48, 2) := by decide +kernel
theorem dX2_stepOverNumber_51 : decode cX2_stepOverNumber 51 = .ok (.isub, 1) := by decide +kernel
theorem dX2_stepOverNumber_52 : decode cX2_stepOverNumber 52 = .ok (.putfield 62, 3) := by decide +kernel
theorem dX2_stepOverNumber_55 : decode cX2_stepOverNumber 55 = .ok (.aload_n 0, 1) := by decide +kernel
theorem dX2_stepOverNumber_56 : decode cX2_stepOverNumber 56 = .ok (.dup, 1) := by decide +kernel
theorem dX2_stepOverNumber_57 : decode cX2_stepOverNumber 57 = .ok (.getfield 25, 3) := by decide +kernel
theorem dX2_stepOverNumber_60 : decode cX2_stepOverNumber 60 = .ok (.iconst 1, 1) := by decide +kernel
theorem dX2_stepOverNumber_61 : decode cX2_stepOverNumber 61 = .ok (.iadd, 1) := by decide +kernel
theorem dX2_stepOverNumber_62 : decode cX2_stepOverNumber 62 = .ok (.putfield 25, 3) := by decide +kernel
theorem dX2_stepOverNumber_65 : decode cX2_stepOverNumber 65 = .ok (.goto (-60), 3) := by decide +kernel
theorem dX2_stepOverNumber_68 : decode cX2_stepOverNumber 68 = .ok (.aload_n 0, 1) := by decide +kernel
theorem dX2_stepOverNumber_69 : decode cX2_stepOverNumber 69 = .ok (.getfield 25, 3) := by decide +kernel
theorem dX2_stepOverNumber_72 : decode cX2_stepOverNumber 72 = .ok (.aload_n 0, 1) := by decide +kernel
theorem dX2_stepOverNumber_73 : decode cX2_stepOverNumber 73 = .ok (.getfield 48, 3) := by decide +kernel
theorem dX2_stepOverNumber_76 : decode cX2_stepOverNumber 76 = .ok (.isub, 1) := by decide +kernel
theorem dX2_stepOverNumber_77 : decode cX2_stepOverNumber 77 = .ok (.iconst 4, 1) := by decide +kernel
theorem dX2_stepOverNumber_78 : decode cX2_stepOverNumber 78 = .ok (.if_icmp .le 8, 3) := by decide +kernel
theorem dX2_stepOverNumber_81 : decode cX2_stepOverNumber 81 = .ok (.bipush (-21), 2) := by decide +kernel
theorem dX2_stepOverNumber_83 : decode cX2_stepOverNumber 83 = .ok (.goto 5, 3) := by decide +kernel
theorem dX2_stepOverNumber_86 : decode cX2_stepOverNumber 86 = .ok (.bipush (-19), 2) := by decide +kernel
theorem dX2_stepOverNumber_88 : decode cX2_stepOverNumber 88 = .ok (.ireturn, 1) := by decide +kernel
theorem dX2_signOf_0 : decode cX2_signOf 0 = .ok (.iload_n 0, 1) := by decide +kernel
theorem dX2_signOf_1 : decode cX2_signOf 1 = .ok (.tableswitch 127 40 61 #[103, 106, 118, 112, 127, 115, 127, 127, 127, 127, 127, 127, 127, 127, 127, 127, 127, 127, 127, 109, 121, 124], 103) := by decide +kernel
theorem dX2_signOf_104 : decode cX2_signOf 104 = .ok (.bipush (-16), 2) := by decide +kernel
theorem dX2_signOf_106 : decode cX2_signOf 106 = .ok (.ireturn, 1) := by decide +kernel
theorem dX2_signOf_107 : decode cX2_signOf 107 = .ok (.bipush (-17), 2) := by decide +kernel
theorem dX2_signOf_109 : decode cX2_signOf 109 = .ok (.ireturn, 1) := by decide +kernel
theorem dX2_signOf_110 : decode cX2_signOf 110 = .ok (.bipush (-18), 2) := by decide +kernel
theorem dX2_signOf_112 : decode cX2_signOf 112 = .ok (.ireturn, 1) := by decide +kernel
theorem dX2_signOf_113 : decode cX2_signOf 113 = .ok (.bipush (-12), 2) := by decide +kernel
theorem dX2_signOf_115 : decode cX2_signOf 115 = .ok (.ireturn, 1) := by decide +kernel
theorem dX2_signOf_116 : decode cX2_signOf 116 = .ok (.bipush (-13), 2) := by decide +kernel
theorem dX2_signOf_118 : decode cX2_signOf 118 = .ok (.ireturn, 1) := by decide +kernel
theorem dX2_signOf_119 : decode cX2_signOf 119 = .ok (.bipush (-14), 2) := by decide +kernel
theorem dX2_signOf_121 : decode cX2_signOf 121 = .ok (.ireturn, 1) := by decide +kernel
theorem dX2_signOf_122 : decode cX2_signOf 122 = .ok (.bipush (-10), 2) := by decide +kernel
theorem dX2_signOf_124 : decode cX2_signOf 124 = .ok (.ireturn, 1) := by decide +kernel
theorem dX2_signOf_125 : decode cX2_signOf 125 = .ok (.bipush (-11), 2) := by decide +kernel
theorem dX2_signOf_127 : decode cX2_signOf 127 = .ok (.ireturn, 1) := by decide +kernel
theorem dX2_signOf_128 : decode cX2_signOf 128 = .ok (.bipush (-21), 2) := by decide +kernel
theorem dX2_signOf_130 : decode cX2_signOf 130 = .ok (.ireturn, 1) := by decide +kernel
theorem dX2_isLetter_0 : decode cX2_isLetter 0 = .ok (.iload_n 0, 1) := by decide +kernel
theorem dX2_isLetter_1 : decode cX2_isLetter 1 = .ok (.bipush 97, 2) := by decide +kernel
theorem dX2_isLetter_3 : decode cX2_isLetter 3 = .ok (.if_icmp .lt 13, 3) := by decide +kernel
theorem dX2_isLetter_6 : decode cX2_isLetter 6 = .ok (.iload_n 0, 1) := by decide +kernel
theorem dX2_isLetter_7 : decode cX2_isLetter 7 = .ok (.bipush 122, 2) := by decide +kernel
theorem dX2_isLetter_9 : decode cX2_isLetter 9 = .ok (.if_icmp .gt 7, 3) := by decide +kernel
theorem dX2_isLetter_12 : decode cX2_isLetter 12 = .ok (.iconst 1, 1) := by decide +kernel
theorem dX2_isLetter_13 : decode cX2_isLetter 13 = .ok (.goto 4, 3) := by decide +kernel
theorem dX2_isLetter_16 : decode cX2_isLetter 16 = .ok (.iconst 0, 1) := by decide +kernel
theorem dX2_isLetter_17 : decode cX2_isLetter 17 = .ok (.ireturn, 1) := by decide +kernel
theorem dX2_isDigit_0 : decode cX2_isDigit 0 = .ok (.iload_n 0, 1) := by decide +kernel
theorem dX2_isDigit_1 : decode cX2_isDigit 1 = .ok (.bipush 48, 2) := by decide +kernel
theorem dX2_isDigit_3 : decode cX2_isDigit 3 = .ok (.if_icmp .lt 13, 3) := by decide +kernel
theorem dX2_isDigit_6 : decode cX2_isDigit 6 = .ok (.iload_n 0, 1) := by decide +kernel
theorem dX2_isDigit_7 : decode cX2_isDigit 7 = .ok (.bipush 57, 2) := by decide +kernel
theorem dX2_isDigit_9 : decode cX2_isDigit 9 = .ok (.if_icmp .gt 7, 3) := by decide +kernel
theorem dX2_isDigit_12 : decode cX2_isDigit 12 = .ok (.iconst 1, 1) := by decide +kernel
theorem dX2_isDigit_13 : decode cX2_isDigit 13 = .ok (.goto 4, 3) := by decide +kernel
theorem dX2_isDigit_16 : decode cX2_isDigit 16 = .ok (.iconst 0, 1) := by decide +kernel
theorem dX2_isDigit_17 : decode cX2_isDigit 17 = .ok (.ireturn, 1) := by decide +kernel
theorem dX3_init_0 : decode cX3_init 0 = .ok (.aload_n 0, 1) := by decide +kernel
theorem dX3_init_1 : decode cX3_init 1 = .ok (.invokespecial 3, 3) := by decide +kernel
theorem dX3_init_4 : decode cX3_init 4 = .ok (.aload_n 0, 1) := by decide +kernel
theorem dX3_init_5 : decode cX3_init 5 = .ok (.bipush 6, 2) := by decide +kernel
theorem dX3_init_7 : decode cX3_init 7 = .ok (.sipush 160, 3) := by decide +kernel
theorem dX3_init_10 : decode cX3_init 10 = .ok (.multianewarray 9 2, 4) := by decide +kernel
theorem dX3_init_14 : decode cX3_init 14 = .ok (.putfield 11, 3) := by decide +kernel
theorem dX3_init_17 : decode cX3_init 17 = .ok (.aload_n 0, 1) := by decide +kernel
theorem dX3_init_18 : decode cX3_init 18 = .ok (.bipush 6, 2) := by decide +kernel
theorem dX3_init_20 : decode cX3_init 20 = .ok (.iconst 3, 1) := by decide +kernel
theorem dX3_init_21 : decode cX3_init 21 = .ok (.multianewarray 9 2, 4) := by decide +kernel
theorem dX3_init_25 : decode cX3_init 25 = .ok (.putfield 16, 3) := by decide +kernel
theorem dX3_init_28 : decode cX3_init 28 = .ok (.aload_n 0, 1) := by decide +kernel
theorem dX3_init_29 : decode cX3_init 29 = .ok (.bipush 40, 2) := by decide +kernel
theorem dX3_init_31 : decode cX3_init 31 = .ok (.newarray .int, 2) := by decide +kernel
theorem dX3_init_33 : decode cX3_init 33 = .ok (.putfield 19, 3) := by decide +kernel
theorem dX3_init_36 : decode cX3_init 36 = .ok (.aload_n 0, 1) := by decide +kernel
theorem dX3_init_37 : decode cX3_init 37 = .ok (.getfield 11, 3) := by decide +kernel
theorem dX3_init_40 : decode cX3_init 40 = .ok (.iconst 0, 1) := by decide +kernel
theorem dX3_init_41 : decode cX3_init 41 = .ok (.aaload, 1) := by decide +kernel
theorem dX3_init_42 : decode cX3_init 42 = .ok (.iconst 0, 1) := by decide +kernel
theorem dX3_init_43 : decode cX3_init 43 = .ok (.iconst (-1), 1) := by decide +kernel
theorem dX3_init_44 : decode cX3_init 44 = .ok (.iastore, 1) := by decide +kernel
theorem dX3_init_45 : decode cX3_init 45 = .ok (.aload_n 0, 1) := by decide +kernel
theorem dX3_init_46 : decode cX3_init 46 = .ok (.getfield 11, 3) := by decide +kernel
theorem dX3_init_49 : decode cX3_init 49 = .ok (.iconst 0, 1) := by decide +kernel
theorem dX3_init_50 : decode cX3_init 50 = .ok (.aaload, 1) := by decide +kernel
theorem dX3_init_51 : decode cX3_init 51 = .ok (.iconst 1, 1) := by decide +kernel
theorem dX3_init_52 : decode cX3_init 52 = .ok (.bipush (-2), 2) := by decide +kernel
theorem dX3_init_54 : decode cX3_init 54 = .ok (.iastore, 1) := by decide +kernel
theorem dX3_init_55 : decode cX3_init 55 = .ok (.aload_n 0, 1) := by decide +kernel
theorem dX3_init_56 : decode cX3_init 56 = .ok (.getfield 11, 3) := by decide +kernel
theorem dX3_init_59 : decode cX3_init 59 = .ok (.iconst 0, 1) := by decide +kernel
theorem dX3_init_60 : decode cX3_init 60 = .ok (.aaload, 1) := by decide +kernel
theorem dX3_init_61 : decode cX3_init 61 = .ok (.iconst 2, 1) := by decide +kernel
theorem dX3_init_62 : decode cX3_init 62 = .ok (.iconst 1, 1) := by decide +kernel
theorem dX3_init_63 : decode cX3_init 63 = .ok (.iastore, 1) := by decide +kernel
theorem dX3_init_64 : decode cX3_init 64 = .ok (.iconst 0, 1) := by decide +kernel
theorem dX3_init_65 : decode cX3_init 65 = .ok (.istore_n 1, 1) := by decide +kernel
theorem dX3_init_66 : decode cX3_init 66 = .ok (.iload_n 1, 1) := by decide +kernel
theorem dX3_init_67 : decode cX3_init 67 = .ok (.iconst 3, 1) := by decide +kernel
theorem dX3_init_68 : decode cX3_init 68 = .ok (.if_icmp .ge 20, 3) := by decide +kernel
theorem dX3_init_71 : decode cX3_init 71 = .ok (.aload_n 0, 1) := by decide +kernel
theorem dX3_init_72 : decode cX3_init 72 = .ok (.getfield 16, 3) := by decide +kernel
theorem dX3_init_75 : decode cX3_init 75 = .ok (.iconst 0, 1) := by decide +kernel
theorem dX3_init_76 : decode cX3_init 76 = .ok (.aaload, 1) := by decide +kernel
theorem dX3_init_77 : decode cX3_init 77 = .ok (.iload_n 1, 1) := by decide +kernel
theorem dX3_init_78 : decode cX3_init 78 = .ok (.iload_n 1, 1) := by decide +kernel
theorem dX3_init_79 : decode cX3_init 79 = .ok (.iconst 1, 1) := by decide +kernel
theorem dX3_init_80 : decode cX3_init 80 = .ok (.iadd, 1) := by decide +kernel
theorem dX3_init_81 : decode cX3_init 81 = .ok (.iastore, 1) := by decide +kernel
theorem dX3_init_82 : decode cX3_init 82 = .ok (.iinc 1 1, 3) := by decide +kernel
theorem dX3_init_85 : decode cX3_init 85 = .ok (.goto (-19), 3) := by decide +kernel
theorem dX3_init_88 : decode cX3_init 88 = .ok (.aload_n 0, 1) := by decide +kernel
theorem dX3_init_89 : decode cX3_init 89 = .ok (.iconst 1, 1) := by decide +kernel
theorem dX3_init_90 : decode cX3_init 90 = .ok (.putfield 23, 3) := by decide +kernel
theorem dX3_init_93 : decode cX3_init 93 = .ok (.return_, 1) := by decide +kernel
set_option maxRecDepth 20000 in
theorem ggX3_value_X3_joined : GoodIn wsX3_value wsX3_joined := goodIn_r _ [7] rfl (by decide +kernel)
set_option maxRecDepth 20000 in
theorem gX3_value_X3_joined : GoodIn wsX3_value (va_wsS RX3 27 yX3_joined wsX3_joined) := goodIn_app (goodIn_of _ (by decide +kernel)) ggX3_value_X3_joined
theorem dX3_value_0 : decode cX3_value 0 = .ok (.aload_n 0, 1) := by decide +kernel
theorem dX3_value_1 : decode cX3_value 1 = .ok (.getfield 11, 3) := by decide +kernel
theorem dX3_value_4 : decode cX3_value 4 = .ok (.iload_n 1, 1) := by decide +kernel
theorem dX3_value_5 : decode cX3_value 5 = .ok (.aaload, 1) := by decide +kernel
theorem dX3_value_6 : decode cX3_value 6 = .ok (.astore 4, 2) := by decide +kernel
theorem dX3_value_8 : decode cX3_value 8 = .ok (.aload_n 0, 1) := by decide +kernel
theorem dX3_value_9 : decode cX3_value 9 = .ok (.getfield 16, 3) := by decide +kernel
theorem dX3_value_12 : decode cX3_value 12 = .ok (.iload_n 1, 1) := by decide +kernel
theorem dX3_value_13 : decode cX3_value 13 = .ok (.aaload, 1) := by decide +kernel
theorem dX3_value_14 : decode cX3_value 14 = .ok (.iload_n 2, 1) := by decide +kernel
theorem dX3_value_15 : decode cX3_value 15 = .ok (.iaload, 1) := by decide +kernel
theorem dX3_value_16 : decode cX3_value 16 = .ok (.istore 5, 2) := by decide +kernel
theorem dX3_value_18 : decode cX3_value 18 = .ok (.iconst (-1), 1) := by decide +kernel
theorem dX3_value_19 : decode cX3_value 19 = .ok (.istore 6, 2) := by decide +kernel
theorem dX3_value_21 : decode cX3_value 21 = .ok (.iload_n 2, 1) := by decide +kernel
theorem dX3_value_22 : decode cX3_value 22 = .ok (.ifCond .ne 7, 3) := by decide +kernel
theorem dX3_value_25 : decode cX3_value 25 = .ok (.iconst 0, 1) := by decide +kernel
theorem dX3_value_26 : decode cX3_value 26 = .ok (.goto 13, 3) := by decide +kernel
theorem dX3_value_29 : decode cX3_value 29 = .ok (.aload_n 0, 1) := by decide +kernel
theorem dX3_value_30 : decode cX3_value 30 = .ok (.getfield 16, 3) := by decide +kernel
theorem dX3_value_33 : decode cX3_value 33 = .ok (.iload_n 1, 1) := by decide +kernel
theorem dX3_value_34 : decode cX3_value 34 = .ok (.aaload, 1) := by decide +kernel
theorem dX3_value_35 : decode cX3_value 35 = .ok (.iload_n 2, 1) := by decide +kernel
theorem dX3_value_36 : decode cX3_value 36 = .ok (.iconst 1, 1) := by decide +kernel
theorem dX3_value_37 : decode cX3_value 37 = .ok (.isub, 1) := by decide +kernel
theorem dX3_value_38 : decode cX3_value 38 = .ok (.iaload, 1) := by decide +kernel
theorem dX3_value_39 : decode cX3_value 39 = .ok (.istore 7, 2) := by decide +kernel
theorem dX3_value_41 : decode cX3_value 41 = .ok (.iload 7, 2) := by decide +kernel
theorem dX3_value_43 : decode cX3_value 43 = .ok (.iload 5, 2) := by decide +kernel
theorem dX3_value_45 : decode cX3_value 45 = .ok (.if_icmp .ge 160, 3) := by decide +kernel
theorem dX3_value_48 : decode cX3_value 48 = .ok (.aload 4, 2) := by decide +kernel
theorem dX3_value_50 : decode cX3_value 50 = .ok (.iload 7, 2) := by decide +kernel
theorem dX3_value_52 : decode cX3_value 52 = .ok (.iaload, 1) := by decide +kernel
theorem dX3_value_53 : decode cX3_value 53 = .ok (.istore 8, 2) := by decide +kernel
theorem dX3_value_55 : decode cX3_value 55 = .ok (.iload 8, 2) := by decide +kernel
theorem dX3_value_57 : decode cX3_value 57 = .ok (.bipush (-6), 2) := by decide +kernel
theorem dX3_value_59 : decode cX3_value 59 = .ok (.if_icmp .lt 41, 3) := by decide +kernel
theorem dX3_value_62 : decode cX3_value 62 = .ok (.iload 6, 2) := by decide +kernel
theorem dX3_value_64 : decode cX3_value 64 = .ok (.iconst 1, 1) := by decide +kernel
theorem dX3_value_65 : decode cX3_value 65 = .ok (.iadd, 1) := by decide +kernel
theorem dX3_value_66 : decode cX3_value 66 = .ok (.bipush 40, 2) := by decide +kernel
theorem dX3_value_68 : decode cX3_value 68 = .ok (.if_icmp .ge 131, 3) := by decide +kernel
theorem dX3_value_71 : decode cX3_value 71 = .ok (.iinc 6 1, 3) := by decide +kernel
theorem dX3_value_74 : decode cX3_value 74 = .ok (.aload_n 0, 1) := by decide +kernel
theorem dX3_value_75 : decode cX3_value 75 = .ok (.getfield 19, 3) := by decide +kernel
theorem dX3_value_78 : decode cX3_value 78 = .ok (.iload 6, 2) := by decide +kernel
theorem dX3_value_80 : decode cX3_value 80 = .ok (.iload 8, 2) := by decide +kernel
theorem dX3_value_82 : decode cX3_value 82 = .ok (.ifCond .lt 8, 3) := by decide +kernel
theorem dX3_value_85 : decode cX3_value 85 = .ok (.iload 8, 2) := by decide +kernel
theorem dX3_value_87 : decode cX3_value 87 = .ok (.goto 9, 3) := by decide +kernel
theorem dX3_value_90 : decode cX3_value 90 = .ok (.aload_n 3, 1) := by decide +kernel
theorem dX3_value_91 : decode cX3_value 91 = .ok (.iconst (-1), 1) := by decide +kernel
theorem dX3_value_92 : decode cX3_value 92 = .ok (.iload 8, 2) := by decide +kernel
theorem dX3_value_94 : decode cX3_value 94 = .ok (.isub, 1) := by decide +kernel
theorem dX3_value_95 : decode cX3_value 95 = .ok (.iaload, 1) := by decide +kernel
theorem dX3_value_96 : decode cX3_value 96 = .ok (.iastore, 1) := by decide +kernel
theorem dX3_value_97 : decode cX3_value 97 = .ok (.goto 102, 3) := by decide +kernel
theorem dX3_value_100 : decode cX3_value 100 = .ok (.iload 8, 2) := by decide +kernel
theorem dX3_value_102 : decode cX3_value 102 = .ok (.bipush (-15), 2) := by decide +kernel
theorem dX3_value_104 : decode cX3_value 104 = .ok (.if_icmp .eq 10, 3) := by decide +kernel
theorem dX3_value_107 : decode cX3_value 107 = .ok (.iload 8, 2) := by decide +kernel
theorem dX3_value_109 : decode cX3_value 109 = .ok (.bipush (-9), 2) := by decide +kernel
theorem dX3_value_111 : decode cX3_value 111 = .ok (.if_icmp .ne 51, 3) := by decide +kernel
theorem dX3_value_114 : decode cX3_value 114 = .ok (.iload 6, 2) := by decide +kernel
theorem dX3_value_116 : decode cX3_value 116 = .ok (.ifCond .lt 83, 3) := by decide +kernel
theorem dX3_value_119 : decode cX3_value 119 = .ok (.aload_n 0, 1) := by decide +kernel
theorem dX3_value_120 : decode cX3_value 120 = .ok (.getfield 19, 3) := by decide +kernel
theorem dX3_value_123 : decode cX3_value 123 = .ok (.iload 6, 2) := by decide +kernel
theorem dX3_value_125 : decode cX3_value 125 = .ok (.iload 8, 2) := by decide +kernel
theorem dX3_value_127 : decode cX3_value 127 = .ok (.bipush (-15), 2) := by decide +kernel
theorem dX3_value_129 : decode cX3_value 129 = .ok (.if_icmp .ne 14, 3) := by decide +kernel
theorem dX3_value_132 : decode cX3_value 132 = .ok (.aload_n 0, 1) := by decide +kernel
theorem dX3_value_133 : decode cX3_value 133 = .ok (.getfield 19, 3) := by decide +kernel
theorem dX3_value_136 : decode cX3_value 136 = .ok (.iload 6, 2) := by decide +kernel
theorem dX3_value_138 : decode cX3_value 138 = .ok (.iaload, 1) := by decide +kernel
theorem dX3_value_139 : decode cX3_value 139 = .ok (.ineg, 1) := by decide +kernel
theorem dX3_value_140 : decode cX3_value 140 = .ok (.goto 18, 3) := by decide +kernel
theorem dX3_value_143 : decode cX3_value 143 = .ok (.aload_n 0, 1) := by decide +kernel
theorem dX3_value_144 : decode cX3_value 144 = .ok (.getfield 19, 3) := by decide +kernel
theorem dX3_value_147 : decode cX3_value 147 = .ok (.iload 6, 2) := by decide +kernel
theorem dX3_value_149 : decode cX3_value 149 = .ok (.iaload, 1) := by decide +kernel
theorem dX3_value_150 : decode cX3_value 150 = .ok (.ifCond .ne 7, 3) := by decide +kernel
theorem dX3_value_153 : decode cX3_value 153 = .ok (.iconst 1, 1) := by decide +kernel
theorem dX3_value_154 : decode cX3_value 154 = .ok (.goto 4, 3) := by decide +kernel
theorem dX3_value_157 : decode cX3_value 157 = .ok (.iconst 0, 1) := by decide +kernel
theorem dX3_value_158 : decode cX3_value 158 = .ok (.iastore, 1) := by decide +kernel
theorem dX3_value_159 : decode cX3_value 159 = .ok (.goto 40, 3) := by decide +kernel
theorem dX3_value_162 : decode cX3_value 162 = .ok (.iload 6, 2) := by decide +kernel
theorem dX3_value_164 : decode cX3_value 164 = .ok (.iconst 1, 1) := by decide +kernel
theorem dX3_value_165 : decode cX3_value 165 = .ok (.if_icmp .lt 34, 3) := by decide +kernel
theorem dX3_value_168 : decode cX3_value 168 = .ok (.iinc 6 (-1), 3) := by decide +kernel
theorem dX3_value_171 : decode cX3_value 171 = .ok (.aload_n 0, 1) := by decide +kernel
theorem dX3_value_172 : decode cX3_value 172 = .ok (.getfield 19, 3) := by decide +kernel
theorem dX3_value_175 : decode cX3_value 175 = .ok (.iload 6, 2) := by decide +kernel
theorem dX3_value_177 : decode cX3_value 177 = .ok (.iload 8, 2) := by decide +kernel
theorem dX3_value_179 : decode cX3_value 179 = .ok (.aload_n 0, 1) := by decide +kernel
theorem dX3_value_180 : decode cX3_value 180 = .ok (.getfield 19, 3) := by decide +kernel
theorem dX3_value_183 : decode cX3_value 183 = .ok (.iload 6, 2) := by decide +kernel
theorem dX3_value_185 : decode cX3_value 185 = .ok (.iaload, 1) := by decide +kernel
theorem dX3_value_186 : decode cX3_value 186 = .ok (.aload_n 0, 1) := by decide +kernel
theorem dX3_value_187 : decode cX3_value 187 = .ok (.getfield 19, 3) := by decide +kernel
theorem dX3_value_190 : decode cX3_value 190 = .ok (.iload 6, 2) := by decide +kernel
theorem dX3_value_192 : decode cX3_value 192 = .ok (.iconst 1, 1) := by decide +kernel
theorem dX3_value_193 : decode cX3_value 193 = .ok (.iadd, 1) := by decide +kernel
theorem dX3_value_194 : decode cX3_value 194 = .ok (.iaload, 1) := by decide +kernel
theorem dX3_value_195 : decode cX3_value 195 = .ok (.invokestatic 27, 3) := by decide +kernel
theorem dX3_value_198 : decode cX3_value 198 = .ok (.iastore, 1) := by decide +kernel
theorem dX3_value_199 : decode cX3_value 199 = .ok (.iinc 7 1, 3) := by decide +kernel
theorem dX3_value_202 : decode cX3_value 202 = .ok (.goto (-161), 3) := by decide +kernel
theorem dX3_value_205 : decode cX3_value 205 = .ok (.iload 6, 2) := by decide +kernel
theorem dX3_value_207 : decode cX3_value 207 = .ok (.ifCond .lt 13, 3) := by decide +kernel
theorem dX3_value_210 : decode cX3_value 210 = .ok (.aload_n 0, 1) := by decide +kernel
theorem dX3_value_211 : decode cX3_value 211 = .ok (.getfield 19, 3) := by decide +kernel
theorem dX3_value_214 : decode cX3_value 214 = .ok (.iload 6, 2) := by decide +kernel
theorem dX3_value_216 : decode cX3_value 216 = .ok (.iaload, 1) := by decide +kernel
theorem dX3_value_217 : decode cX3_value 217 = .ok (.goto 4, 3) := by decide +kernel
theorem dX3_value_220 : decode cX3_value 220 = .ok (.iconst 0, 1) := by decide +kernel
theorem dX3_value_221 : decode cX3_value 221 = .ok (.ireturn, 1) := by decide +kernel
theorem dX3_joined_0 : decode cX3_joined 0 = .ok (.iload_n 0, 1) := by decide +kernel
theorem dX3_joined_1 : decode cX3_joined 1 = .ok (.tableswitch 101 (-13) (-7) #[97, 93, 82, 71, 101, 57, 43], 43) := by decide +kernel
theorem dX3_joined_44 : decode cX3_joined 44 = .ok (.iload_n 1, 1) := by decide +kernel
theorem dX3_joined_45 : decode cX3_joined 45 = .ok (.ifCond .ne 7, 3) := by decide +kernel
theorem dX3_joined_48 : decode cX3_joined 48 = .ok (.iload_n 2, 1) := by decide +kernel
theorem dX3_joined_49 : decode cX3_joined 49 = .ok (.ifCond .eq 7, 3) := by decide +kernel
theorem dX3_joined_52 : decode cX3_joined 52 = .ok (.iconst 1, 1) := by decide +kernel
theorem dX3_joined_53 : decode cX3_joined 53 = .ok (.goto 4, 3) := by decide +kernel
theorem dX3_joined_56 : decode cX3_joined 56 = .ok (.iconst 0, 1) := by decide +kernel
theorem dX3_joined_57 : decode cX3_joined 57 = .ok (.ireturn, 1) := by decide +kernel
theorem dX3_joined_58 : decode cX3_joined 58 = .ok (.iload_n 1, 1) := by decide +kernel
theorem dX3_joined_59 : decode cX3_joined 59 = .ok (.ifCond .eq 11, 3) := by decide +kernel
theorem dX3_joined_62 : decode cX3_joined 62 = .ok (.iload_n 2, 1) := by decide +kernel
theorem dX3_joined_63 : decode cX3_joined 63 = .ok (.ifCond .eq 7, 3) := by decide +kernel
theorem dX3_joined_66 : decode cX3_joined 66 = .ok (.iconst 1, 1) := by decide +kernel
theorem dX3_joined_67 : decode cX3_joined 67 = .ok (.goto 4, 3) := by decide +kernel
theorem dX3_joined_70 : decode cX3_joined 70 = .ok (.iconst 0, 1) := by decide +kernel
theorem dX3_joined_71 : decode cX3_joined 71 = .ok (.ireturn, 1) := by decide +kernel
theorem dX3_joined_72 : decode cX3_joined 72 = .ok (.iload_n 1, 1) := by decide +kernel
theorem dX3_joined_73 : decode cX3_joined 73 = .ok (.iload_n 2, 1) := by decide +kernel
theorem dX3_joined_74 : decode cX3_joined 74 = .ok (.if_icmp .ge 7, 3) := by decide +kernel
theorem dX3_joined_77 : decode cX3_joined 77 = .ok (.iconst 1, 1) := by decide +kernel
theorem dX3_joined_78 : decode cX3_joined 78 = .ok (.goto 4, 3) := by decide +kernel
theorem dX3_joined_81 : decode cX3_joined 81 = .ok (.iconst 0, 1) := by decide +kernel
theorem dX3_joined_82 : decode cX3_joined 82 = .ok (.ireturn, 1) := by decide +kernel
theorem dX3_joined_83 : decode cX3_joined 83 = .ok (.iload_n 1, 1) := by decide +kernel
theorem dX3_joined_84 : decode cX3_joined 84 = .ok (.iload_n 2, 1) := by decide +kernel
theorem dX3_joined_85 : decode cX3_joined 85 = .ok (.if_icmp .ne 7, 3) := by decide +kernel
theorem dX3_joined_88 : decode cX3_joined 88 = .ok (.iconst 1, 1) := by decide +kernel
theorem dX3_joined_89 : decode cX3_joined 89 = .ok (.goto 4, 3) := by decide +kernel
theorem dX3_joined_92 : decode cX3_joined 92 = .ok (.iconst 0, 1) := by decide +kernel
theorem dX3_joined_93 : decode cX3_joined 93 = .ok (.ireturn, 1) := by decide +kernel
theorem dX3_joined_94 : decode cX3_joined 94 = .ok (.iload_n 1, 1) := by decide +kernel
theorem dX3_joined_95 : decode cX3_joined 95 = .ok (.iload_n 2, 1) := by decide +kernel
theorem dX3_joined_96 : decode cX3_joined 96 = .ok (.iadd, 1) := by decide +kernel
theorem dX3_joined_97 : decode cX3_joined 97 = .ok (.ireturn, 1) := by decide +kernel
theorem dX3_joined_98 : decode cX3_joined 98 = .ok (.iload_n 1, 1) := by decide +kernel
theorem dX3_joined_99 : decode cX3_joined 99 = .ok (.iload_n 2, 1) := by decide +kernel
theorem dX3_joined_100 : decode cX3_joined 100 = .ok (.isub, 1) := by decide +kernel
theorem dX3_joined_101 : decode cX3_joined 101 = .ok (.ireturn, 1) := by decide +kernel
theorem dX3_joined_102 : decode cX3_joined 102 = .ok (.iload_n 1, 1) := by decide +kernel
theorem dX3_joined_103 : decode cX3_joined 103 = .ok (.iload_n 2, 1) := by decide +kernel
theorem dX3_joined_104 : decode cX3_joined 104 = .ok (.imul, 1) := by decide +kernel
theorem dX3_joined_105 : decode cX3_joined 105 = .ok (.ireturn, 1) := by decide +kernel
set_option maxRecDepth 20000 in
theorem ggX4_init_X3_init : GoodIn wsX4_init wsX3_init := goodIn_r _ [28, 29, 2, 3, 30, 23, 31, 32, 33, 34, 62, 63, 64, 65] rfl (by decide +kernel)
set_option maxRecDepth 20000 in
theorem gX4_init_X3_init : GoodIn wsX4_init (wsX3_init) := ggX4_init_X3_init
set_option maxRecDepth 20000 in
theorem ggX4_init_X2_init : GoodIn wsX4_init wsX2_init := goodIn_r _ [37, 38, 2, 3, 23, 39, 40, 75, 76, 77, 78, 79, 80, 81, 82, 83] rfl (by decide +kernel)
set_option maxRecDepth 20000 in
theorem gX4_init_X2_init : GoodIn wsX4_init (wsX2_init) := ggX4_init_X2_init
set_option maxRecDepth 20000 in
theorem ggX4_init_X0_init : GoodIn wsX4_init wsX0_init := goodIn_r _ [43, 44, 2, 3, 45, 23, 46, 47, 48, 49, 50, 51, 52, 53, 84, 85, 86, 87, 88, 89, 90, 91, 92, 93, 94, 95, 96, 97] rfl (by decide +kernel)
set_option maxRecDepth 20000 in
theorem gX4_init_X0_init : GoodIn wsX4_init (wsX0_init) := ggX4_init_X0_init
set_option maxRecDepth 20000 in
theorem ggX4_init_X1_init : GoodIn wsX4_init wsX1_init := goodIn_r _ [56, 57, 2, 3, 23, 58, 59, 60, 61, 98, 99, 100] rfl (by decide +kernel)
set_option maxRecDepth 20000 in
theorem gX4_init_X1_init : GoodIn wsX4_init (wsX1_init) := ggX4_init_X1_init
theorem dX4_init_0 : decode cX4_init 0 = .ok (.aload_n 0, 1) := by decide +kernel
theorem dX4_init_1 : decode cX4_init 1 = .ok (.invokespecial 1, 3) := by decide +kernel
theorem dX4_init_4 : decode cX4_init 4 = .ok (.aload_n 0, 1) := by decide +kernel
theorem dX4_init_5 : decode cX4_init 5 = .ok (.new 7, 3) := by decide +kernel
theorem dX4_init_8 : decode cX4_init 8 = .ok (.dup, 1) := by decide +kernel
theorem dX4_init_9 : decode cX4_init 9 = .ok (.invokespecial 9, 3) := by decide +kernel
theorem dX4_init_12 : decode cX4_init 12 = .ok (.putfield 10, 3) := by decide +kernel
theorem dX4_init_15 : decode cX4_init 15 = .ok (.aload_n 0, 1) := by decide +kernel
theorem dX4_init_16 : decode cX4_init 16 = .ok (.new 16, 3) := by decide +kernel
theorem dX4_init_19 : decode cX4_init 19 = .ok (.dup, 1) := by decide +kernel
theorem dX4_init_20 : decode cX4_init 20 = .ok (.invokespecial 18, 3) := by decide +kernel
theorem dX4_init_23 : decode cX4_init 23 = .ok (.putfield 19, 3) := by decide +kernel
theorem dX4_init_26 : decode cX4_init 26 = .ok (.aload_n 0, 1) := by decide +kernel
theorem dX4_init_27 : decode cX4_init 27 = .ok (.new 23, 3) := by decide +kernel
theorem dX4_init_30 : decode cX4_init 30 = .ok (.dup, 1) := by decide +kernel
theorem dX4_init_31 : decode cX4_init 31 = .ok (.aload_n 0, 1) := by decide +kernel
theorem dX4_init_32 : decode cX4_init 32 = .ok (.getfield 10, 3) := by decide +kernel
theorem dX4_init_35 : decode cX4_init 35 = .ok (.invokespecial 25, 3) := by decide +kernel
theorem dX4_init_38 : decode cX4_init 38 = .ok (.putfield 28, 3) := by decide +kernel
theorem dX4_init_41 : decode cX4_init 41 = .ok (.aload_n 0, 1) := by decide +kernel
theorem dX4_init_42 : decode cX4_init 42 = .ok (.new 23, 3) := by decide +kernel
theorem dX4_init_45 : decode cX4_init 45 = .ok (.dup, 1) := by decide +kernel
theorem dX4_init_46 : decode cX4_init 46 = .ok (.aload_n 0, 1) := by decide +kernel
theorem dX4_init_47 : decode cX4_init 47 = .ok (.getfield 10, 3) := by decide +kernel
theorem dX4_init_50 : decode cX4_init 50 = .ok (.invokespecial 25, 3) := by decide +kernel
theorem dX4_init_53 : decode cX4_init 53 = .ok (.putfield 32, 3) := by decide +kernel
theorem dX4_init_56 : decode cX4_init 56 = .ok (.aload_n 0, 1) := by decide +kernel
theorem dX4_init_57 : decode cX4_init 57 = .ok (.new 23, 3) := by decide +kernel
theorem dX4_init_60 : decode cX4_init 60 = .ok (.dup, 1) := by decide +kernel
theorem dX4_init_61 : decode cX4_init 61 = .ok (.aload_n 0, 1) := by decide +kernel
theorem dX4_init_62 : decode cX4_init 62 = .ok (.getfield 10, 3) := by decide +kernel
theorem dX4_init_65 : decode cX4_init 65 = .ok (.invokespecial 25, 3) := by decide +kernel
theorem dX4_init_68 : decode cX4_init 68 = .ok (.putfield 35, 3) := by decide +kernel
theorem dX4_init_71 : decode cX4_init 71 = .ok (.aload_n 0, 1) := by decide +kernel
theorem dX4_init_72 : decode cX4_init 72 = .ok (.iconst 0, 1) := by decide +kernel
theorem dX4_init_73 : decode cX4_init 73 = .ok (.putfield 38, 3) := by decide +kernel
theorem dX4_init_76 : decode cX4_init 76 = .ok (.aload_n 0, 1) := by decide +kernel
theorem dX4_init_77 : decode cX4_init 77 = .ok (.new 42, 3) := by decide +kernel
theorem dX4_init_80 : decode cX4_init 80 = .ok (.dup, 1) := by decide +kernel
theorem dX4_init_81 : decode cX4_init 81 = .ok (.invokespecial 44, 3) := by decide +kernel
theorem dX4_init_84 : decode cX4_init 84 = .ok (.putfield 45, 3) := by decide +kernel
theorem dX4_init_87 : decode cX4_init 87 = .ok (.aload_n 0, 1) := by decide +kernel
theorem dX4_init_88 : decode cX4_init 88 = .ok (.sipush 1000, 3) := by decide +kernel
theorem dX4_init_91 : decode cX4_init 91 = .ok (.newarray .int, 2) := by decide +kernel
theorem dX4_init_93 : decode cX4_init 93 = .ok (.putfield 49, 3) := by decide +kernel
theorem dX4_init_96 : decode cX4_init 96 = .ok (.aload_n 0, 1) := by decide +kernel
theorem dX4_init_97 : decode cX4_init 97 = .ok (.bipush 6, 2) := by decide +kernel
theorem dX4_init_99 : decode cX4_init 99 = .ok (.newarray .int, 2) := by decide +kernel
theorem dX4_init_101 : decode cX4_init 101 = .ok (.putfield 53, 3) := by decide +kernel
theorem dX4_init_104 : decode cX4_init 104 = .ok (.return_, 1) := by decide +kernel
theorem dX4_count_0 : decode cX4_count 0 = .ok (.iload_n 1, 1) := by decide +kernel
theorem dX4_count_1 : decode cX4_count 1 = .ok (.tableswitch 99 0 6 #[43, 51, 59, 67, 75, 83, 91], 43) := by decide +kernel
theorem dX4_count_44 : decode cX4_count 44 = .ok (.aload_n 0, 1) := by decide +kernel
theorem dX4_count_45 : decode cX4_count 45 = .ok (.getfield 28, 3) := by decide +kernel
theorem dX4_count_48 : decode cX4_count 48 = .ok (.getfield 56, 3) := by decide +kernel
theorem dX4_count_51 : decode cX4_count 51 = .ok (.ireturn, 1) := by decide +kernel
theorem dX4_count_52 : decode cX4_count 52 = .ok (.aload_n 0, 1) := by decide +kernel
theorem dX4_count_53 : decode cX4_count 53 = .ok (.getfield 28, 3) := by decide +kernel
theorem dX4_count_56 : decode cX4_count 56 = .ok (.getfield 60, 3) := by decide +kernel
theorem dX4_count_59 : decode cX4_count 59 = .ok (.ireturn, 1) := by decide +kernel
theorem dX4_count_60 : decode cX4_count 60 = .ok (.aload_n 0, 1) := by decide +kernel
theorem dX4_count_61 : decode cX4_count 61 = .ok (.getfield 28, 3) := by decide +kernel
theorem dX4_count_64 : decode cX4_count 64 = .ok (.getfield 63, 3) := by decide +kernel
theorem dX4_count_67 : decode cX4_count 67 = .ok (.ireturn, 1) := by decide +kernel
theorem dX4_count_68 : decode cX4_count 68 = .ok (.aload_n 0, 1) := by decide +kernel
theorem dX4_count_69 : decode cX4_count 69 = .ok (.getfield 10, 3) := by decide +kernel
theorem dX4_count_72 : decode cX4_count 72 = .ok (.getfield 66, 3) := by decide +kernel
theorem dX4_count_75 : decode cX4_count 75 = .ok (.ireturn, 1) := by decide +kernel
theorem dX4_count_76 : decode cX4_count 76 = .ok (.aload_n 0, 1) := by decide +kernel
theorem dX4_count_77 : decode cX4_count 77 = .ok (.getfield 28, 3) := by decide +kernel
theorem dX4_count_80 : decode cX4_count 80 = .ok (.getfield 69, 3) := by decide +kernel
theorem dX4_count_83 : decode cX4_count 83 = .ok (.ireturn, 1) := by decide +kernel
theorem dX4_count_84 : decode cX4_count 84 = .ok (.aload_n 0, 1) := by decide +kernel
theorem dX4_count_85 : decode cX4_count 85 = .ok (.getfield 19, 3) := by decide +kernel
theorem dX4_count_88 : decode cX4_count 88 = .ok (.getfield 72, 3) := by decide +kernel
theorem dX4_count_91 : decode cX4_count 91 = .ok (.ireturn, 1) := by decide +kernel
theorem dX4_count_92 : decode cX4_count 92 = .ok (.aload_n 0, 1) := by decide +kernel
theorem dX4_count_93 : decode cX4_count 93 = .ok (.getfield 28, 3) := by decide +kernel
theorem dX4_count_96 : decode cX4_count 96 = .ok (.getfield 73, 3) := by decide +kernel
theorem dX4_count_99 : decode cX4_count 99 = .ok (.ireturn, 1) := by decide +kernel
theorem dX4_count_100 : decode cX4_count 100 = .ok (.bipush (-2), 2) := by decide +kernel
theorem dX4_count_102 : decode cX4_count 102 = .ok (.ireturn, 1) := by decide +kernel
set_option maxRecDepth 20000 in
theorem ggX4_fill_X4_isSort : GoodIn wsX4_fill wsX4_isSort := goodIn_r _ [7] rfl (by decide +kernel)
set_option maxRecDepth 20000 in
theorem gX4_fill_X4_isSort : GoodIn wsX4_fill (va_wsS RX4 76 yX4_isSort wsX4_isSort) := goodIn_app (goodIn_of _ (by decide +kernel)) ggX4_fill_X4_isSort
set_option maxRecDepth 20000 in
theorem ggX4_fill_X0_setInHat : GoodIn wsX4_fill wsX0_setInHat := goodIn_r _ [12, 13, 14, 24, 25, 26, 27, 28, 29, 30, 31, 32, 33, 34, 35, 36, 37] rfl (by decide +kernel)
set_option maxRecDepth 20000 in
theorem gX4_fill_X0_setInHat : GoodIn wsX4_fill (wsV RX4 86 RX0 yX0_setInHat wsX0_setInHat) := goodIn_app (goodIn_of _ (by decide +kernel)) ggX4_fill_X0_setInHat
theorem dX4_fill_0 : decode cX4_fill 0 = .ok (.iload_n 1, 1) := by decide +kernel
theorem dX4_fill_1 : decode cX4_fill 1 = .ok (.invokestatic 76, 3) := by decide +kernel
theorem dX4_fill_4 : decode cX4_fill 4 = .ok (.ifCond .ne 6, 3) := by decide +kernel
theorem dX4_fill_7 : decode cX4_fill 7 = .ok (.bipush (-5), 2) := by decide +kernel
theorem dX4_fill_9 : decode cX4_fill 9 = .ok (.ireturn, 1) := by decide +kernel
theorem dX4_fill_10 : decode cX4_fill 10 = .ok (.iload_n 2, 1) := by decide +kernel
theorem dX4_fill_11 : decode cX4_fill 11 = .ok (.ifCond .lt 27, 3) := by decide +kernel
theorem dX4_fill_14 : decode cX4_fill 14 = .ok (.iload_n 2, 1) := by decide +kernel
theorem dX4_fill_15 : decode cX4_fill 15 = .ok (.iconst 1, 1) := by decide +kernel
theorem dX4_fill_16 : decode cX4_fill 16 = .ok (.if_icmp .gt 22, 3) := by decide +kernel
theorem dX4_fill_19 : decode cX4_fill 19 = .ok (.iload_n 3, 1) := by decide +kernel
theorem dX4_fill_20 : decode cX4_fill 20 = .ok (.ifCond .lt 18, 3) := by decide +kernel
theorem dX4_fill_23 : decode cX4_fill 23 = .ok (.iload_n 3, 1) := by decide +kernel
theorem dX4_fill_24 : decode cX4_fill 24 = .ok (.iload_n 2, 1) := by decide +kernel
theorem dX4_fill_25 : decode cX4_fill 25 = .ok (.ifCond .ne 8, 3) := by decide +kernel
theorem dX4_fill_28 : decode cX4_fill 28 = .ok (.bipush 99, 2) := by decide +kernel
theorem dX4_fill_30 : decode cX4_fill 30 = .ok (.goto 5, 3) := by decide +kernel
theorem dX4_fill_33 : decode cX4_fill 33 = .ok (.bipush 20, 2) := by decide +kernel
theorem dX4_fill_35 : decode cX4_fill 35 = .ok (.if_icmp .le 6, 3) := by decide +kernel
theorem dX4_fill_38 : decode cX4_fill 38 = .ok (.bipush (-7), 2) := by decide +kernel
theorem dX4_fill_40 : decode cX4_fill 40 = .ok (.ireturn, 1) := by decide +kernel
theorem dX4_fill_41 : decode cX4_fill 41 = .ok (.iload_n 2, 1) := by decide +kernel
theorem dX4_fill_42 : decode cX4_fill 42 = .ok (.ifCond .ne 15, 3) := by decide +kernel
theorem dX4_fill_45 : decode cX4_fill 45 = .ok (.aload_n 0, 1) := by decide +kernel
theorem dX4_fill_46 : decode cX4_fill 46 = .ok (.getfield 28, 3) := by decide +kernel
theorem dX4_fill_49 : decode cX4_fill 49 = .ok (.getfield 80, 3) := by decide +kernel
theorem dX4_fill_52 : decode cX4_fill 52 = .ok (.iload_n 1, 1) := by decide +kernel
theorem dX4_fill_53 : decode cX4_fill 53 = .ok (.iaload, 1) := by decide +kernel
theorem dX4_fill_54 : decode cX4_fill 54 = .ok (.goto 12, 3) := by decide +kernel
theorem dX4_fill_57 : decode cX4_fill 57 = .ok (.aload_n 0, 1) := by decide +kernel
theorem dX4_fill_58 : decode cX4_fill 58 = .ok (.getfield 28, 3) := by decide +kernel
theorem dX4_fill_61 : decode cX4_fill 61 = .ok (.getfield 83, 3) := by decide +kernel
theorem dX4_fill_64 : decode cX4_fill 64 = .ok (.iload_n 1, 1) := by decide +kernel
theorem dX4_fill_65 : decode cX4_fill 65 = .ok (.iaload, 1) := by decide +kernel
theorem dX4_fill_66 : decode cX4_fill 66 = .ok (.istore 4, 2) := by decide +kernel
theorem dX4_fill_68 : decode cX4_fill 68 = .ok (.iload_n 2, 1) := by decide +kernel
theorem dX4_fill_69 : decode cX4_fill 69 = .ok (.ifCond .ne 16, 3) := by decide +kernel
theorem dX4_fill_72 : decode cX4_fill 72 = .ok (.aload_n 0, 1) := by decide +kernel
theorem dX4_fill_73 : decode cX4_fill 73 = .ok (.getfield 28, 3) := by decide +kernel
theorem dX4_fill_76 : decode cX4_fill 76 = .ok (.getfield 80, 3) := by decide +kernel
theorem dX4_fill_79 : decode cX4_fill 79 = .ok (.iload_n 1, 1) := by decide +kernel
theorem dX4_fill_80 : decode cX4_fill 80 = .ok (.iload_n 3, 1) := by decide +kernel
theorem dX4_fill_81 : decode cX4_fill 81 = .ok (.iastore, 1) := by decide +kernel
theorem dX4_fill_82 : decode cX4_fill 82 = .ok (.goto 12, 3) := by decide +kernel
theorem dX4_fill_85 : decode cX4_fill 85 = .ok (.aload_n 0, 1) := by decide +kernel
theorem dX4_fill_86 : decode cX4_fill 86 = .ok (.getfield 28, 3) := by decide +kernel
theorem dX4_fill_89 : decode cX4_fill 89 = .ok (.iload_n 1, 1) := by decide +kernel
theorem dX4_fill_90 : decode cX4_fill 90 = .ok (.iload_n 3, 1) := by decide +kernel
theorem dX4_fill_91 : decode cX4_fill 91 = .ok (.invokevirtual 86, 3) := by decide +kernel
theorem dX4_fill_94 : decode cX4_fill 94 = .ok (.iload 4, 2) := by decide +kernel
theorem dX4_fill_96 : decode cX4_fill 96 = .ok (.ireturn, 1) := by decide +kernel
set_option maxRecDepth 20000 in
theorem ggX4_hat_X0_worthOfAll : GoodIn wsX4_hat wsX0_worthOfAll := goodIn_r _ [8, 9, 10, 24, 25, 26, 27, 28, 29, 30, 31, 32, 33, 34, 35, 36, 37] rfl (by decide +kernel)
set_option maxRecDepth 20000 in
theorem gX4_hat_X0_worthOfAll : GoodIn wsX4_hat (wsV RX4 90 RX0 yX0_worthOfAll wsX0_worthOfAll) := goodIn_app (goodIn_of _ (by decide +kernel)) ggX4_hat_X0_worthOfAll
set_option maxRecDepth 20000 in
theorem ggX4_hat_X4_isSort : GoodIn wsX4_hat wsX4_isSort := goodIn_r _ [14] rfl (by decide +kernel)
set_option maxRecDepth 20000 in
theorem gX4_hat_X4_isSort : GoodIn wsX4_hat (va_wsS RX4 76 yX4_isSort wsX4_isSort) := goodIn_app (goodIn_of _ (by decide +kernel)) ggX4_hat_X4_isSort
theorem dX4_hat_0 : decode cX4_hat 0 = .ok (.iload_n 2, 1) := by decide +kernel
theorem dX4_hat_1 : decode cX4_hat 1 = .ok (.iconst 2, 1) := by decide +kernel
theorem dX4_hat_2 : decode cX4_hat 2 = .ok (.if_icmp .ne 11, 3) := by decide +kernel
theorem dX4_hat_5 : decode cX4_hat 5 = .ok (.aload_n 0, 1) := by decide +kernel
theorem dX4_hat_6 : decode cX4_hat 6 = .ok (.getfield 28, 3) := by decide +kernel
theorem dX4_hat_9 : decode cX4_hat 9 = .ok (.invokevirtual 90, 3) := by decide +kernel
theorem dX4_hat_12 : decode cX4_hat 12 = .ok (.ireturn, 1) := by decide +kernel
theorem dX4_hat_13 : decode cX4_hat 13 = .ok (.iload_n 1, 1) := by decide +kernel
theorem dX4_hat_14 : decode cX4_hat 14 = .ok (.invokestatic 76, 3) := by decide +kernel
theorem dX4_hat_17 : decode cX4_hat 17 = .ok (.ifCond .ne 6, 3) := by decide +kernel
theorem dX4_hat_20 : decode cX4_hat 20 = .ok (.bipush (-5), 2) := by decide +kernel
theorem dX4_hat_22 : decode cX4_hat 22 = .ok (.ireturn, 1) := by decide +kernel
theorem dX4_hat_23 : decode cX4_hat 23 = .ok (.iload_n 2, 1) := by decide +kernel
theorem dX4_hat_24 : decode cX4_hat 24 = .ok (.ifCond .lt 8, 3) := by decide +kernel
theorem dX4_hat_27 : decode cX4_hat 27 = .ok (.iload_n 2, 1) := by decide +kernel
theorem dX4_hat_28 : decode cX4_hat 28 = .ok (.iconst 1, 1) := by decide +kernel
theorem dX4_hat_29 : decode cX4_hat 29 = .ok (.if_icmp .le 6, 3) := by decide +kernel
theorem dX4_hat_32 : decode cX4_hat 32 = .ok (.bipush (-7), 2) := by decide +kernel
theorem dX4_hat_34 : decode cX4_hat 34 = .ok (.ireturn, 1) := by decide +kernel
theorem dX4_hat_35 : decode cX4_hat 35 = .ok (.iload_n 2, 1) := by decide +kernel
theorem dX4_hat_36 : decode cX4_hat 36 = .ok (.ifCond .ne 15, 3) := by decide +kernel
theorem dX4_hat_39 : decode cX4_hat 39 = .ok (.aload_n 0, 1) := by decide +kernel
theorem dX4_hat_40 : decode cX4_hat 40 = .ok (.getfield 28, 3) := by decide +kernel
theorem dX4_hat_43 : decode cX4_hat 43 = .ok (.getfield 80, 3) := by decide +kernel
theorem dX4_hat_46 : decode cX4_hat 46 = .ok (.iload_n 1, 1) := by decide +kernel
theorem dX4_hat_47 : decode cX4_hat 47 = .ok (.iaload, 1) := by decide +kernel
theorem dX4_hat_48 : decode cX4_hat 48 = .ok (.goto 12, 3) := by decide +kernel
theorem dX4_hat_51 : decode cX4_hat 51 = .ok (.aload_n 0, 1) := by decide +kernel
theorem dX4_hat_52 : decode cX4_hat 52 = .ok (.getfield 28, 3) := by decide +kernel
theorem dX4_hat_55 : decode cX4_hat 55 = .ok (.getfield 83, 3) := by decide +kernel
theorem dX4_hat_58 : decode cX4_hat 58 = .ok (.iload_n 1, 1) := by decide +kernel
theorem dX4_hat_59 : decode cX4_hat 59 = .ok (.iaload, 1) := by decide +kernel
theorem dX4_hat_60 : decode cX4_hat 60 = .ok (.ireturn, 1) := by decide +kernel
set_option maxRecDepth 20000 in
theorem ggX4_feed_X4_isByte : GoodIn wsX4_feed wsX4_isByte := goodIn_r _ [6] rfl (by decide +kernel)
set_option maxRecDepth 20000 in
theorem gX4_feed_X4_isByte : GoodIn wsX4_feed (va_wsS RX4 94 yX4_isByte wsX4_isByte) := goodIn_app (goodIn_of _ (by decide +kernel)) ggX4_feed_X4_isByte
set_option maxRecDepth 20000 in
theorem ggX4_feed_X2_add : GoodIn wsX4_feed wsX2_add := goodIn_r _ [11, 12, 13, 23, 24, 25, 26, 27, 28, 29, 30, 31] rfl (by decide +kernel)
set_option maxRecDepth 20000 in
theorem gX4_feed_X2_add : GoodIn wsX4_feed (wsV RX4 97 RX2 yX2_add wsX2_add) := goodIn_app (goodIn_of _ (by decide +kernel)) ggX4_feed_X2_add
theorem dX4_feed_0 : decode cX4_feed 0 = .ok (.iload_n 1, 1) := by decide +kernel
theorem dX4_feed_1 : decode cX4_feed 1 = .ok (.iconst 1, 1) := by decide +kernel
theorem dX4_feed_2 : decode cX4_feed 2 = .ok (.if_icmp .lt 46, 3) := by decide +kernel
theorem dX4_feed_5 : decode cX4_feed 5 = .ok (.iload_n 1, 1) := by decide +kernel
theorem dX4_feed_6 : decode cX4_feed 6 = .ok (.iconst 5, 1) := by decide +kernel
theorem dX4_feed_7 : decode cX4_feed 7 = .ok (.if_icmp .gt 41, 3) := by decide +kernel
theorem dX4_feed_10 : decode cX4_feed 10 = .ok (.iload_n 2, 1) := by decide +kernel
theorem dX4_feed_11 : decode cX4_feed 11 = .ok (.invokestatic 94, 3) := by decide +kernel
theorem dX4_feed_14 : decode cX4_feed 14 = .ok (.ifCond .eq 34, 3) := by decide +kernel
theorem dX4_feed_17 : decode cX4_feed 17 = .ok (.iload_n 3, 1) := by decide +kernel
theorem dX4_feed_18 : decode cX4_feed 18 = .ok (.invokestatic 94, 3) := by decide +kernel
theorem dX4_feed_21 : decode cX4_feed 21 = .ok (.ifCond .eq 27, 3) := by decide +kernel
theorem dX4_feed_24 : decode cX4_feed 24 = .ok (.iload 4, 2) := by decide +kernel
theorem dX4_feed_26 : decode cX4_feed 26 = .ok (.invokestatic 94, 3) := by decide +kernel
theorem dX4_feed_29 : decode cX4_feed 29 = .ok (.ifCond .eq 19, 3) := by decide +kernel
theorem dX4_feed_32 : decode cX4_feed 32 = .ok (.iload 5, 2) := by decide +kernel
theorem dX4_feed_34 : decode cX4_feed 34 = .ok (.invokestatic 94, 3) := by decide +kernel
theorem dX4_feed_37 : decode cX4_feed 37 = .ok (.ifCond .eq 11, 3) := by decide +kernel
theorem dX4_feed_40 : decode cX4_feed 40 = .ok (.iload 6, 2) := by decide +kernel
theorem dX4_feed_42 : decode cX4_feed 42 = .ok (.invokestatic 94, 3) := by decide +kernel
theorem dX4_feed_45 : decode cX4_feed 45 = .ok (.ifCond .ne 6, 3) := by decide +kernel
theorem dX4_feed_48 : decode cX4_feed 48 = .ok (.bipush (-2), 2) := by decide +kernel
theorem dX4_feed_50 : decode cX4_feed 50 = .ok (.ireturn, 1) := by decide +kernel
theorem dX4_feed_51 : decode cX4_feed 51 = .ok (.aload_n 0, 1) := by decide +kernel
theorem dX4_feed_52 : decode cX4_feed 52 = .ok (.getfield 19, 3) := by decide +kernel
theorem dX4_feed_55 : decode cX4_feed 55 = .ok (.getfield 72, 3) := by decide +kernel
theorem dX4_feed_58 : decode cX4_feed 58 = .ok (.iload_n 1, 1) := by decide +kernel
theorem dX4_feed_59 : decode cX4_feed 59 = .ok (.iadd, 1) := by decide +kernel
theorem dX4_feed_60 : decode cX4_feed 60 = .ok (.sipush 160, 3) := by decide +kernel
theorem dX4_feed_63 : decode cX4_feed 63 = .ok (.if_icmp .le 6, 3) := by decide +kernel
theorem dX4_feed_66 : decode cX4_feed 66 = .ok (.bipush (-4), 2) := by decide +kernel
theorem dX4_feed_68 : decode cX4_feed 68 = .ok (.ireturn, 1) := by decide +kernel
theorem dX4_feed_69 : decode cX4_feed 69 = .ok (.aload_n 0, 1) := by decide +kernel
theorem dX4_feed_70 : decode cX4_feed 70 = .ok (.getfield 19, 3) := by decide +kernel
theorem dX4_feed_73 : decode cX4_feed 73 = .ok (.iload_n 2, 1) := by decide +kernel
theorem dX4_feed_74 : decode cX4_feed 74 = .ok (.invokevirtual 97, 3) := by decide +kernel
theorem dX4_feed_77 : decode cX4_feed 77 = .ok (.iload_n 1, 1) := by decide +kernel
theorem dX4_feed_78 : decode cX4_feed 78 = .ok (.iconst 1, 1) := by decide +kernel
theorem dX4_feed_79 : decode cX4_feed 79 = .ok (.if_icmp .le 11, 3) := by decide +kernel
theorem dX4_feed_82 : decode cX4_feed 82 = .ok (.aload_n 0, 1) := by decide +kernel
theorem dX4_feed_83 : decode cX4_feed 83 = .ok (.getfield 19, 3) := by decide +kernel
theorem dX4_feed_86 : decode cX4_feed 86 = .ok (.iload_n 3, 1) := by decide +kernel
theorem dX4_feed_87 : decode cX4_feed 87 = .ok (.invokevirtual 97, 3) := by decide +kernel
theorem dX4_feed_90 : decode cX4_feed 90 = .ok (.iload_n 1, 1) := by decide +kernel
theorem dX4_feed_91 : decode cX4_feed 91 = .ok (.iconst 2, 1) := by decide +kernel
theorem dX4_feed_92 : decode cX4_feed 92 = .ok (.if_icmp .le 12, 3) := by decide +kernel
theorem dX4_feed_95 : decode cX4_feed 95 = .ok (.aload_n 0, 1) := by decide +kernel
theorem dX4_feed_96 : decode cX4_feed 96 = .ok (.getfield 19, 3) := by decide +kernel
theorem dX4_feed_99 : decode cX4_feed 99 = .ok (.iload 4, 2) := by decide +kernel
theorem dX4_feed_101 : decode cX4_feed 101 = .ok (.invokevirtual 97, 3) := by decide +kernel
theorem dX4_feed_104 : decode cX4_feed 104 = .ok (.iload_n 1, 1) := by decide +kernel
theorem dX4_feed_105 : decode cX4_feed 105 = .ok (.iconst 3, 1) := by decide +kernel
theorem dX4_feed_106 : decode cX4_feed 106 = .ok (.if_icmp .le 12, 3) := by decide +kernel
theorem dX4_feed_109 : decode cX4_feed 109 = .ok (.aload_n 0, 1) := by decide +kernel
theorem dX4_feed_110 : decode cX4_feed 110 = .ok (.getfield 19, 3) := by decide +kernel
theorem dX4_feed_113 : decode cX4_feed 113 = .ok (.iload 5, 2) := by decide +kernel
theorem dX4_feed_115 : decode cX4_feed 115 = .ok (.invokevirtual 97, 3) := by decide +kernel
theorem dX4_feed_118 : decode cX4_feed 118 = .ok (.iload_n 1, 1) := by decide +kernel
theorem dX4_feed_119 : decode cX4_feed 119 = .ok (.iconst 4, 1) := by decide +kernel
theorem dX4_feed_120 : decode cX4_feed 120 = .ok (.if_icmp .le 12, 3) := by decide +kernel
theorem dX4_feed_123 : decode cX4_feed 123 = .ok (.aload_n 0, 1) := by decide +kernel
theorem dX4_feed_124 : decode cX4_feed 124 = .ok (.getfield 19, 3) := by decide +kernel
theorem dX4_feed_127 : decode cX4_feed 127 = .ok (.iload 6, 2) := by decide +kernel
theorem dX4_feed_129 : decode cX4_feed 129 = .ok (.invokevirtual 97, 3) := by decide +kernel
theorem dX4_feed_132 : decode cX4_feed 132 = .ok (.aload_n 0, 1) := by decide +kernel
theorem dX4_feed_133 : decode cX4_feed 133 = .ok (.getfield 19, 3) := by decide +kernel
theorem dX4_feed_136 : decode cX4_feed 136 = .ok (.getfield 72, 3) := by decide +kernel
theorem dX4_feed_139 : decode cX4_feed 139 = .ok (.ireturn, 1) := by decide +kernel
set_option maxRecDepth 20000 in
theorem ggX4_text_X2_read : GoodIn wsX4_text wsX2_read := goodIn_r _ [11, 12, 13, 14, 15, 16, 17, 18, 19, 10, 20, 21, 22, 23, 24, 25, 26, 27, 28, 29, 30, 31, 32, 33, 34, 35, 36, 37, 38, 39, 40, 41, 42, 43, 44, 45, 46, 47, 48, 49, 50, 51, 52, 53, 54, 55, 56, 57, 58, 59, 60, 61, 62, 63, 64, 65, 66, 67, 68, 69, 70, 71, 72, 73, 74, 75, 76, 77, 78, 79, 80, 81, 82, 83, 84, 85, 86, 87, 88, 89, 90, 91, 92, 93, 94, 95, 96, 97, 98, 99, 100, 101, 102, 103, 104, 105, 106, 107, 108, 109, 110, 111, 112, 113, 114, 115, 116, 117, 118, 119, 120, 134, 135, 136, 137, 138, 139, 140, 141, 142] rfl (by decide +kernel)
set_option maxRecDepth 20000 in
theorem gX4_text_X2_read : GoodIn wsX4_text (wsV RX4 108 RX2 yX2_read wsX2_read) := goodIn_app (goodIn_of _ (by decide +kernel)) ggX4_text_X2_read
theorem dX4_text_0 : decode cX4_text 0 = .ok (.aload_n 0, 1) := by decide +kernel
theorem dX4_text_1 : decode cX4_text 1 = .ok (.getfield 10, 3) := by decide +kernel
theorem dX4_text_4 : decode cX4_text 4 = .ok (.getfield 66, 3) := by decide +kernel
theorem dX4_text_7 : decode cX4_text 7 = .ok (.istore_n 1, 1) := by decide +kernel
theorem dX4_text_8 : decode cX4_text 8 = .ok (.iload_n 1, 1) := by decide +kernel
theorem dX4_text_9 : decode cX4_text 9 = .ok (.ifCond .lt 9, 3) := by decide +kernel
theorem dX4_text_12 : decode cX4_text 12 = .ok (.iload_n 1, 1) := by decide +kernel
theorem dX4_text_13 : decode cX4_text 13 = .ok (.bipush 6, 2) := by decide +kernel
theorem dX4_text_15 : decode cX4_text 15 = .ok (.if_icmp .lt 6, 3) := by decide +kernel
theorem dX4_text_18 : decode cX4_text 18 = .ok (.bipush (-4), 2) := by decide +kernel
theorem dX4_text_20 : decode cX4_text 20 = .ok (.ireturn, 1) := by decide +kernel
theorem dX4_text_21 : decode cX4_text 21 = .ok (.aload_n 0, 1) := by decide +kernel
theorem dX4_text_22 : decode cX4_text 22 = .ok (.getfield 19, 3) := by decide +kernel
theorem dX4_text_25 : decode cX4_text 25 = .ok (.aload_n 0, 1) := by decide +kernel
theorem dX4_text_26 : decode cX4_text 26 = .ok (.getfield 10, 3) := by decide +kernel
theorem dX4_text_29 : decode cX4_text 29 = .ok (.getfield 101, 3) := by decide +kernel
theorem dX4_text_32 : decode cX4_text 32 = .ok (.iload_n 1, 1) := by decide +kernel
theorem dX4_text_33 : decode cX4_text 33 = .ok (.aaload, 1) := by decide +kernel
theorem dX4_text_34 : decode cX4_text 34 = .ok (.aload_n 0, 1) := by decide +kernel
theorem dX4_text_35 : decode cX4_text 35 = .ok (.getfield 10, 3) := by decide +kernel
theorem dX4_text_38 : decode cX4_text 38 = .ok (.getfield 105, 3) := by decide +kernel
theorem dX4_text_41 : decode cX4_text 41 = .ok (.iload_n 1, 1) := by decide +kernel
theorem dX4_text_42 : decode cX4_text 42 = .ok (.aaload, 1) := by decide +kernel
theorem dX4_text_43 : decode cX4_text 43 = .ok (.invokevirtual 108, 3) := by decide +kernel
theorem dX4_text_46 : decode cX4_text 46 = .ok (.istore_n 2, 1) := by decide +kernel
theorem dX4_text_47 : decode cX4_text 47 = .ok (.aload_n 0, 1) := by decide +kernel
theorem dX4_text_48 : decode cX4_text 48 = .ok (.getfield 19, 3) := by decide +kernel
theorem dX4_text_51 : decode cX4_text 51 = .ok (.iconst 0, 1) := by decide +kernel
theorem dX4_text_52 : decode cX4_text 52 = .ok (.putfield 72, 3) := by decide +kernel
theorem dX4_text_55 : decode cX4_text 55 = .ok (.iload_n 2, 1) := by decide +kernel
theorem dX4_text_56 : decode cX4_text 56 = .ok (.ifCond .lt 8, 3) := by decide +kernel
theorem dX4_text_59 : decode cX4_text 59 = .ok (.bipush (-100), 2) := by decide +kernel
theorem dX4_text_61 : decode cX4_text 61 = .ok (.iload_n 2, 1) := by decide +kernel
theorem dX4_text_62 : decode cX4_text 62 = .ok (.isub, 1) := by decide +kernel
theorem dX4_text_63 : decode cX4_text 63 = .ok (.ireturn, 1) := by decide +kernel
theorem dX4_text_64 : decode cX4_text 64 = .ok (.aload_n 0, 1) := by decide +kernel
theorem dX4_text_65 : decode cX4_text 65 = .ok (.getfield 10, 3) := by decide +kernel
theorem dX4_text_68 : decode cX4_text 68 = .ok (.iload_n 1, 1) := by decide +kernel
theorem dX4_text_69 : decode cX4_text 69 = .ok (.iconst 1, 1) := by decide +kernel
theorem dX4_text_70 : decode cX4_text 70 = .ok (.iadd, 1) := by decide +kernel
theorem dX4_text_71 : decode cX4_text 71 = .ok (.putfield 66, 3) := by decide +kernel
theorem dX4_text_74 : decode cX4_text 74 = .ok (.iload_n 1, 1) := by decide +kernel
theorem dX4_text_75 : decode cX4_text 75 = .ok (.ireturn, 1) := by decide +kernel
theorem dX4_force_0 : decode cX4_force 0 = .ok (.iload_n 1, 1) := by decide +kernel
theorem dX4_force_1 : decode cX4_force 1 = .ok (.ifCond .lt 14, 3) := by decide +kernel
theorem dX4_force_4 : decode cX4_force 4 = .ok (.iload_n 1, 1) := by decide +kernel
theorem dX4_force_5 : decode cX4_force 5 = .ok (.aload_n 0, 1) := by decide +kernel
theorem dX4_force_6 : decode cX4_force 6 = .ok (.getfield 10, 3) := by decide +kernel
theorem dX4_force_9 : decode cX4_force 9 = .ok (.getfield 66, 3) := by decide +kernel
theorem dX4_force_12 : decode cX4_force 12 = .ok (.if_icmp .lt 6, 3) := by decide +kernel
theorem dX4_force_15 : decode cX4_force 15 = .ok (.bipush (-2), 2) := by decide +kernel
theorem dX4_force_17 : decode cX4_force 17 = .ok (.ireturn, 1) := by decide +kernel
theorem dX4_force_18 : decode cX4_force 18 = .ok (.aload_n 0, 1) := by decide +kernel
theorem dX4_force_19 : decode cX4_force 19 = .ok (.getfield 28, 3) := by decide +kernel
theorem dX4_force_22 : decode cX4_force 22 = .ok (.getfield 69, 3) := by decide +kernel
theorem dX4_force_25 : decode cX4_force 25 = .ok (.istore_n 2, 1) := by decide +kernel
theorem dX4_force_26 : decode cX4_force 26 = .ok (.aload_n 0, 1) := by decide +kernel
theorem dX4_force_27 : decode cX4_force 27 = .ok (.getfield 28, 3) := by decide +kernel
theorem dX4_force_30 : decode cX4_force 30 = .ok (.iload_n 1, 1) := by decide +kernel
theorem dX4_force_31 : decode cX4_force 31 = .ok (.putfield 69, 3) := by decide +kernel
theorem dX4_force_34 : decode cX4_force 34 = .ok (.iload_n 2, 1) := by decide +kernel
theorem dX4_force_35 : decode cX4_force 35 = .ok (.ireturn, 1) := by decide +kernel
set_option maxRecDepth 20000 in
theorem ggX4_asks_X4_isThere : GoodIn wsX4_asks wsX4_isThere := goodIn_r _ [6, 1, 7, 43, 44, 45, 46, 47, 48, 49, 50, 51, 52, 53, 54, 55, 56, 57, 58, 59, 60, 61, 62, 63, 64, 65] rfl (by decide +kernel)
set_option maxRecDepth 20000 in
theorem gX4_asks_X4_isThere : GoodIn wsX4_asks (wsV RX4 112 RX4 yX4_isThere wsX4_isThere) := goodIn_app (goodIn_of _ (by decide +kernel)) ggX4_asks_X4_isThere
set_option maxRecDepth 20000 in
theorem ggX4_asks_X4_isSort : GoodIn wsX4_asks wsX4_isSort := goodIn_r _ [10] rfl (by decide +kernel)
set_option maxRecDepth 20000 in
theorem gX4_asks_X4_isSort : GoodIn wsX4_asks (va_wsS RX4 76 yX4_isSort wsX4_isSort) := goodIn_app (goodIn_of _ (by decide +kernel)) ggX4_asks_X4_isSort
set_option maxRecDepth 20000 in
theorem ggX4_asks_X0_says : GoodIn wsX4_asks wsX0_says := goodIn_r _ [15, 16, 17, 18, 19, 20, 21, 22, 23, 24, 25, 26, 27, 28, 29, 30, 31, 32, 33, 34, 35, 36, 37, 38, 39, 40, 41, 42, 52, 53, 54, 55, 56, 57, 58, 59, 60, 61, 62, 63, 64, 65, 66, 67, 68, 69] rfl (by decide +kernel)
set_option maxRecDepth 20000 in
theorem gX4_asks_X0_says : GoodIn wsX4_asks (wsV RX4 115 RX0 yX0_says wsX0_says) := goodIn_app (goodIn_of _ (by decide +kernel)) ggX4_asks_X0_says
theorem dX4_asks_0 : decode cX4_asks 0 = .ok (.iload_n 1, 1) := by decide +kernel
theorem dX4_asks_1 : decode cX4_asks 1 = .ok (.ifCond .lt 28, 3) := by decide +kernel
theorem dX4_asks_4 : decode cX4_asks 4 = .ok (.iload_n 1, 1) := by decide +kernel
theorem dX4_asks_5 : decode cX4_asks 5 = .ok (.iconst 3, 1) := by decide +kernel
theorem dX4_asks_6 : decode cX4_asks 6 = .ok (.if_icmp .ge 23, 3) := by decide +kernel
theorem dX4_asks_9 : decode cX4_asks 9 = .ok (.aload_n 0, 1) := by decide +kernel
theorem dX4_asks_10 : decode cX4_asks 10 = .ok (.iload_n 2, 1) := by decide +kernel
theorem dX4_asks_11 : decode cX4_asks 11 = .ok (.invokevirtual 112, 3) := by decide +kernel
theorem dX4_asks_14 : decode cX4_asks 14 = .ok (.ifCond .eq 15, 3) := by decide +kernel
theorem dX4_asks_17 : decode cX4_asks 17 = .ok (.iload_n 3, 1) := by decide +kernel
theorem dX4_asks_18 : decode cX4_asks 18 = .ok (.iconst (-1), 1) := by decide +kernel
theorem dX4_asks_19 : decode cX4_asks 19 = .ok (.if_icmp .eq 14, 3) := by decide +kernel
theorem dX4_asks_22 : decode cX4_asks 22 = .ok (.iload_n 3, 1) := by decide +kernel
theorem dX4_asks_23 : decode cX4_asks 23 = .ok (.invokestatic 76, 3) := by decide +kernel
theorem dX4_asks_26 : decode cX4_asks 26 = .ok (.ifCond .ne 7, 3) := by decide +kernel
theorem dX4_asks_29 : decode cX4_asks 29 = .ok (.sipush (-1000), 3) := by decide +kernel
theorem dX4_asks_32 : decode cX4_asks 32 = .ok (.ireturn, 1) := by decide +kernel
theorem dX4_asks_33 : decode cX4_asks 33 = .ok (.aload_n 0, 1) := by decide +kernel
theorem dX4_asks_34 : decode cX4_asks 34 = .ok (.getfield 28, 3) := by decide +kernel
theorem dX4_asks_37 : decode cX4_asks 37 = .ok (.iload_n 1, 1) := by decide +kernel
theorem dX4_asks_38 : decode cX4_asks 38 = .ok (.iload_n 2, 1) := by decide +kernel
theorem dX4_asks_39 : decode cX4_asks 39 = .ok (.iload_n 3, 1) := by decide +kernel
theorem dX4_asks_40 : decode cX4_asks 40 = .ok (.invokevirtual 115, 3) := by decide +kernel
theorem dX4_asks_43 : decode cX4_asks 43 = .ok (.ireturn, 1) := by decide +kernel
set_option maxRecDepth 20000 in
theorem ggX4_person_X0_comes : GoodIn wsX4_person wsX0_comes := goodIn_r _ [6, 7, 8, 9, 10, 11, 12, 22, 23, 24, 25, 26, 27, 28, 29, 30, 31, 32, 33, 34, 35] rfl (by decide +kernel)
set_option maxRecDepth 20000 in
theorem gX4_person_X0_comes : GoodIn wsX4_person (wsV RX4 119 RX0 yX0_comes wsX0_comes) := goodIn_app (goodIn_of _ (by decide +kernel)) ggX4_person_X0_comes
theorem dX4_person_0 : decode cX4_person 0 = .ok (.iload_n 1, 1) := by decide +kernel
theorem dX4_person_1 : decode cX4_person 1 = .ok (.ifCond .lt 19, 3) := by decide +kernel
theorem dX4_person_4 : decode cX4_person 4 = .ok (.iload_n 1, 1) := by decide +kernel
theorem dX4_person_5 : decode cX4_person 5 = .ok (.bipush 60, 2) := by decide +kernel
theorem dX4_person_7 : decode cX4_person 7 = .ok (.if_icmp .ge 13, 3) := by decide +kernel
theorem dX4_person_10 : decode cX4_person 10 = .ok (.iload_n 2, 1) := by decide +kernel
theorem dX4_person_11 : decode cX4_person 11 = .ok (.ifCond .lt 9, 3) := by decide +kernel
theorem dX4_person_14 : decode cX4_person 14 = .ok (.iload_n 2, 1) := by decide +kernel
theorem dX4_person_15 : decode cX4_person 15 = .ok (.bipush 99, 2) := by decide +kernel
theorem dX4_person_17 : decode cX4_person 17 = .ok (.if_icmp .le 6, 3) := by decide +kernel
theorem dX4_person_20 : decode cX4_person 20 = .ok (.bipush (-2), 2) := by decide +kernel
theorem dX4_person_22 : decode cX4_person 22 = .ok (.ireturn, 1) := by decide +kernel
theorem dX4_person_23 : decode cX4_person 23 = .ok (.aload_n 0, 1) := by decide +kernel
theorem dX4_person_24 : decode cX4_person 24 = .ok (.getfield 28, 3) := by decide +kernel
theorem dX4_person_27 : decode cX4_person 27 = .ok (.iload_n 1, 1) := by decide +kernel
theorem dX4_person_28 : decode cX4_person 28 = .ok (.iload_n 2, 1) := by decide +kernel
theorem dX4_person_29 : decode cX4_person 29 = .ok (.invokevirtual 119, 3) := by decide +kernel
theorem dX4_person_32 : decode cX4_person 32 = .ok (.ireturn, 1) := by decide +kernel
set_option maxRecDepth 20000 in
theorem ggX4_put_X4_isThere : GoodIn wsX4_put wsX4_isThere := goodIn_r _ [8, 1, 9, 10, 11, 12, 13, 14, 15, 16, 17, 18, 19, 20, 21, 22, 23, 24, 25, 26, 27, 28, 29, 30, 31, 32] rfl (by decide +kernel)
set_option maxRecDepth 20000 in
theorem gX4_put_X4_isThere : GoodIn wsX4_put (wsV RX4 112 RX4 yX4_isThere wsX4_isThere) := goodIn_app (goodIn_of _ (by decide +kernel)) ggX4_put_X4_isThere
theorem dX4_put_0 : decode cX4_put 0 = .ok (.aload_n 0, 1) := by decide +kernel
theorem dX4_put_1 : decode cX4_put 1 = .ok (.iload_n 1, 1) := by decide +kernel
theorem dX4_put_2 : decode cX4_put 2 = .ok (.invokevirtual 112, 3) := by decide +kernel
theorem dX4_put_5 : decode cX4_put 5 = .ok (.ifCond .ne 6, 3) := by decide +kernel
theorem dX4_put_8 : decode cX4_put 8 = .ok (.bipush (-5), 2) := by decide +kernel
theorem dX4_put_10 : decode cX4_put 10 = .ok (.ireturn, 1) := by decide +kernel
theorem dX4_put_11 : decode cX4_put 11 = .ok (.iload_n 2, 1) := by decide +kernel
theorem dX4_put_12 : decode cX4_put 12 = .ok (.ifCond .lt 28, 3) := by decide +kernel
theorem dX4_put_15 : decode cX4_put 15 = .ok (.iload_n 2, 1) := by decide +kernel
theorem dX4_put_16 : decode cX4_put 16 = .ok (.iconst 1, 1) := by decide +kernel
theorem dX4_put_17 : decode cX4_put 17 = .ok (.if_icmp .gt 23, 3) := by decide +kernel
theorem dX4_put_20 : decode cX4_put 20 = .ok (.iload_n 3, 1) := by decide +kernel
theorem dX4_put_21 : decode cX4_put 21 = .ok (.ifCond .lt 19, 3) := by decide +kernel
theorem dX4_put_24 : decode cX4_put 24 = .ok (.iload_n 3, 1) := by decide +kernel
theorem dX4_put_25 : decode cX4_put 25 = .ok (.iload_n 2, 1) := by decide +kernel
theorem dX4_put_26 : decode cX4_put 26 = .ok (.ifCond .ne 8, 3) := by decide +kernel
theorem dX4_put_29 : decode cX4_put 29 = .ok (.bipush 99, 2) := by decide +kernel
theorem dX4_put_31 : decode cX4_put 31 = .ok (.goto 6, 3) := by decide +kernel
theorem dX4_put_34 : decode cX4_put 34 = .ok (.sipush 9999, 3) := by decide +kernel
theorem dX4_put_37 : decode cX4_put 37 = .ok (.if_icmp .le 6, 3) := by decide +kernel
theorem dX4_put_40 : decode cX4_put 40 = .ok (.bipush (-7), 2) := by decide +kernel
theorem dX4_put_42 : decode cX4_put 42 = .ok (.ireturn, 1) := by decide +kernel
theorem dX4_put_43 : decode cX4_put 43 = .ok (.iload_n 2, 1) := by decide +kernel
theorem dX4_put_44 : decode cX4_put 44 = .ok (.ifCond .ne 13, 3) := by decide +kernel
theorem dX4_put_47 : decode cX4_put 47 = .ok (.aload_n 0, 1) := by decide +kernel
theorem dX4_put_48 : decode cX4_put 48 = .ok (.getfield 28, 3) := by decide +kernel
theorem dX4_put_51 : decode cX4_put 51 = .ok (.getfield 123, 3) := by decide +kernel
theorem dX4_put_54 : decode cX4_put 54 = .ok (.goto 10, 3) := by decide +kernel
theorem dX4_put_57 : decode cX4_put 57 = .ok (.aload_n 0, 1) := by decide +kernel
theorem dX4_put_58 : decode cX4_put 58 = .ok (.getfield 28, 3) := by decide +kernel
theorem dX4_put_61 : decode cX4_put 61 = .ok (.getfield 126, 3) := by decide +kernel
theorem dX4_put_64 : decode cX4_put 64 = .ok (.astore 4, 2) := by decide +kernel
theorem dX4_put_66 : decode cX4_put 66 = .ok (.aload 4, 2) := by decide +kernel
theorem dX4_put_68 : decode cX4_put 68 = .ok (.iload_n 1, 1) := by decide +kernel
theorem dX4_put_69 : decode cX4_put 69 = .ok (.iaload, 1) := by decide +kernel
theorem dX4_put_70 : decode cX4_put 70 = .ok (.istore 5, 2) := by decide +kernel
theorem dX4_put_72 : decode cX4_put 72 = .ok (.aload 4, 2) := by decide +kernel
theorem dX4_put_74 : decode cX4_put 74 = .ok (.iload_n 1, 1) := by decide +kernel
theorem dX4_put_75 : decode cX4_put 75 = .ok (.iload_n 3, 1) := by decide +kernel
theorem dX4_put_76 : decode cX4_put 76 = .ok (.iastore, 1) := by decide +kernel
theorem dX4_put_77 : decode cX4_put 77 = .ok (.iload 5, 2) := by decide +kernel
theorem dX4_put_79 : decode cX4_put 79 = .ok (.ireturn, 1) := by decide +kernel
set_option maxRecDepth 20000 in
theorem ggX4_told_X4_isThere : GoodIn wsX4_told wsX4_isThere := goodIn_r _ [11, 1, 12, 55, 56, 57, 58, 59, 60, 61, 62, 63, 64, 65, 66, 67, 68, 69, 70, 71, 72, 73, 74, 75, 76, 77] rfl (by decide +kernel)
set_option maxRecDepth 20000 in
theorem gX4_told_X4_isThere : GoodIn wsX4_told (wsV RX4 112 RX4 yX4_isThere wsX4_isThere) := goodIn_app (goodIn_of _ (by decide +kernel)) ggX4_told_X4_isThere
set_option maxRecDepth 20000 in
theorem ggX4_told_X0_takes : GoodIn wsX4_told wsX0_takes := goodIn_r _ [17, 18, 19, 20, 21, 22, 23, 16, 24, 25, 26, 27, 28, 29, 30, 31, 32, 33, 34, 35, 36, 37, 38, 39, 40, 41, 42, 43, 44, 45, 46, 47, 48, 49, 64, 65, 66, 67, 68, 69, 70, 71, 72, 73, 74, 75, 76, 77, 78, 79, 80, 81] rfl (by decide +kernel)
set_option maxRecDepth 20000 in
theorem gX4_told_X0_takes : GoodIn wsX4_told (wsV RX4 138 RX0 yX0_takes wsX0_takes) := goodIn_app (goodIn_of _ (by decide +kernel)) ggX4_told_X0_takes
set_option maxRecDepth 20000 in
theorem ggX4_told_X0_coinUpTo : GoodIn wsX4_told wsX0_coinUpTo := goodIn_r _ [53, 54, 27, 64, 65, 66, 67, 68, 69, 70, 71, 72, 73, 74, 75, 76, 77] rfl (by decide +kernel)
set_option maxRecDepth 20000 in
theorem gX4_told_X0_coinUpTo : GoodIn wsX4_told (wsV RX4 142 RX0 yX0_coinUpTo wsX0_coinUpTo) := goodIn_app (goodIn_of _ (by decide +kernel)) ggX4_told_X0_coinUpTo
theorem dX4_told_0 : decode cX4_told 0 = .ok (.aload_n 0, 1) := by decide +kernel
theorem dX4_told_1 : decode cX4_told 1 = .ok (.iload_n 1, 1) := by decide +kernel
theorem dX4_told_2 : decode cX4_told 2 = .ok (.invokevirtual 112, 3) := by decide +kernel
theorem dX4_told_5 : decode cX4_told 5 = .ok (.ifCond .ne 6, 3) := by decide +kernel
theorem dX4_told_8 : decode cX4_told 8 = .ok (.bipush (-5), 2) := by decide +kernel
theorem dX4_told_10 : decode cX4_told 10 = .ok (.ireturn, 1) := by decide +kernel
theorem dX4_told_11 : decode cX4_told 11 = .ok (.iload_n 2, 1) := by decide +kernel
theorem dX4_told_12 : decode cX4_told 12 = .ok (.tableswitch 119 0 6 #[44, 54, 64, 74, 84, 94, 103], 44) := by decide +kernel
theorem dX4_told_56 : decode cX4_told 56 = .ok (.aload_n 0, 1) := by decide +kernel
theorem dX4_told_57 : decode cX4_told 57 = .ok (.getfield 28, 3) := by decide +kernel
theorem dX4_told_60 : decode cX4_told 60 = .ok (.getfield 123, 3) := by decide +kernel
theorem dX4_told_63 : decode cX4_told 63 = .ok (.iload_n 1, 1) := by decide +kernel
theorem dX4_told_64 : decode cX4_told 64 = .ok (.iaload, 1) := by decide +kernel
theorem dX4_told_65 : decode cX4_told 65 = .ok (.ireturn, 1) := by decide +kernel
theorem dX4_told_66 : decode cX4_told 66 = .ok (.aload_n 0, 1) := by decide +kernel
theorem dX4_told_67 : decode cX4_told 67 = .ok (.getfield 28, 3) := by decide +kernel
theorem dX4_told_70 : decode cX4_told 70 = .ok (.getfield 126, 3) := by decide +kernel
theorem dX4_told_73 : decode cX4_told 73 = .ok (.iload_n 1, 1) := by decide +kernel
theorem dX4_told_74 : decode cX4_told 74 = .ok (.iaload, 1) := by decide +kernel
theorem dX4_told_75 : decode cX4_told 75 = .ok (.ireturn, 1) := by decide +kernel
theorem dX4_told_76 : decode cX4_told 76 = .ok (.aload_n 0, 1) := by decide +kernel
theorem dX4_told_77 : decode cX4_told 77 = .ok (.getfield 28, 3) := by decide +kernel
theorem dX4_told_80 : decode cX4_told 80 = .ok (.getfield 129, 3) := by decide +kernel
theorem dX4_told_83 : decode cX4_told 83 = .ok (.iload_n 1, 1) := by decide +kernel
theorem dX4_told_84 : decode cX4_told 84 = .ok (.iaload, 1) := by decide +kernel
theorem dX4_told_85 : decode cX4_told 85 = .ok (.ireturn, 1) := by decide +kernel
theorem dX4_told_86 : decode cX4_told 86 = .ok (.aload_n 0, 1) := by decide +kernel
theorem dX4_told_87 : decode cX4_told 87 = .ok (.getfield 28, 3) := by decide +kernel
theorem dX4_told_90 : decode cX4_told 90 = .ok (.getfield 132, 3) := by decide +kernel
theorem dX4_told_93 : decode cX4_told 93 = .ok (.iload_n 1, 1) := by decide +kernel
theorem dX4_told_94 : decode cX4_told 94 = .ok (.iaload, 1) := by decide +kernel
theorem dX4_told_95 : decode cX4_told 95 = .ok (.ireturn, 1) := by decide +kernel
theorem dX4_told_96 : decode cX4_told 96 = .ok (.aload_n 0, 1) := by decide +kernel
theorem dX4_told_97 : decode cX4_told 97 = .ok (.getfield 28, 3) := by decide +kernel
theorem dX4_told_100 : decode cX4_told 100 = .ok (.getfield 135, 3) := by decide +kernel
theorem dX4_told_103 : decode cX4_told 103 = .ok (.iload_n 1, 1) := by decide +kernel
theorem dX4_told_104 : decode cX4_told 104 = .ok (.iaload, 1) := by decide +kernel
theorem dX4_told_105 : decode cX4_told 105 = .ok (.ireturn, 1) := by decide +kernel
theorem dX4_told_106 : decode cX4_told 106 = .ok (.aload_n 0, 1) := by decide +kernel
theorem dX4_told_107 : decode cX4_told 107 = .ok (.getfield 28, 3) := by decide +kernel
theorem dX4_told_110 : decode cX4_told 110 = .ok (.iload_n 1, 1) := by decide +kernel
theorem dX4_told_111 : decode cX4_told 111 = .ok (.invokevirtual 138, 3) := by decide +kernel
theorem dX4_told_114 : decode cX4_told 114 = .ok (.ireturn, 1) := by decide +kernel
theorem dX4_told_115 : decode cX4_told 115 = .ok (.aload_n 0, 1) := by decide +kernel
theorem dX4_told_116 : decode cX4_told 116 = .ok (.getfield 28, 3) := by decide +kernel
theorem dX4_told_119 : decode cX4_told 119 = .ok (.aload_n 0, 1) := by decide +kernel
theorem dX4_told_120 : decode cX4_told 120 = .ok (.getfield 28, 3) := by decide +kernel
theorem dX4_told_123 : decode cX4_told 123 = .ok (.iload_n 1, 1) := by decide +kernel
theorem dX4_told_124 : decode cX4_told 124 = .ok (.invokevirtual 138, 3) := by decide +kernel
theorem dX4_told_127 : decode cX4_told 127 = .ok (.invokevirtual 142, 3) := by decide +kernel
theorem dX4_told_130 : decode cX4_told 130 = .ok (.ireturn, 1) := by decide +kernel
theorem dX4_told_131 : decode cX4_told 131 = .ok (.bipush (-7), 2) := by decide +kernel
theorem dX4_told_133 : decode cX4_told 133 = .ok (.ireturn, 1) := by decide +kernel
set_option maxRecDepth 20000 in
theorem ggX4_coin_X4_isThere : GoodIn wsX4_coin wsX4_isThere := goodIn_r _ [6, 1, 7, 52, 53, 54, 55, 56, 57, 58, 59, 60, 61, 62, 63, 64, 65, 66, 67, 68, 69, 70, 71, 72, 73, 74] rfl (by decide +kernel)
set_option maxRecDepth 20000 in
theorem gX4_coin_X4_isThere : GoodIn wsX4_coin (wsV RX4 112 RX4 yX4_isThere wsX4_isThere) := goodIn_app (goodIn_of _ (by decide +kernel)) ggX4_coin_X4_isThere
