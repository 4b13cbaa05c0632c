theorem dX0_init_0 : decode cX0_init 0 = .ok (.aload_n 0, 1) := by decide +kernel
theorem dX0_init_1 : decode cX0_init 1 = .ok (.invokespecial 3, 3) := by decide +kernel
theorem dX0_init_4 : decode cX0_init 4 = .ok (.aload_n 0, 1) := by decide +kernel
theorem dX0_init_5 : decode cX0_init 5 = .ok (.bipush 11, 2) := by decide +kernel
theorem dX0_init_7 : decode cX0_init 7 = .ok (.anewarray 9, 3) := by decide +kernel
theorem dX0_init_10 : decode cX0_init 10 = .ok (.putfield 11, 3) := by decide +kernel
theorem dX0_init_13 : decode cX0_init 13 = .ok (.aload_n 0, 1) := by decide +kernel
theorem dX0_init_14 : decode cX0_init 14 = .ok (.aload_n 1, 1) := by decide +kernel
theorem dX0_init_15 : decode cX0_init 15 = .ok (.putfield 17, 3) := by decide +kernel
theorem dX0_init_18 : decode cX0_init 18 = .ok (.iconst 0, 1) := by decide +kernel
theorem dX0_init_19 : decode cX0_init 19 = .ok (.istore_n 2, 1) := by decide +kernel
theorem dX0_init_20 : decode cX0_init 20 = .ok (.iload_n 2, 1) := by decide +kernel
theorem dX0_init_21 : decode cX0_init 21 = .ok (.aload_n 0, 1) := by decide +kernel
theorem dX0_init_22 : decode cX0_init 22 = .ok (.getfield 11, 3) := by decide +kernel
theorem dX0_init_25 : decode cX0_init 25 = .ok (.arraylength, 1) := by decide +kernel
theorem dX0_init_26 : decode cX0_init 26 = .ok (.if_icmp .ge 22, 3) := by decide +kernel
theorem dX0_init_29 : decode cX0_init 29 = .ok (.aload_n 0, 1) := by decide +kernel
theorem dX0_init_30 : decode cX0_init 30 = .ok (.getfield 11, 3) := by decide +kernel
theorem dX0_init_33 : decode cX0_init 33 = .ok (.iload_n 2, 1) := by decide +kernel
theorem dX0_init_34 : decode cX0_init 34 = .ok (.new 9, 3) := by decide +kernel
theorem dX0_init_37 : decode cX0_init 37 = .ok (.dup, 1) := by decide +kernel
theorem dX0_init_38 : decode cX0_init 38 = .ok (.invokespecial 21, 3) := by decide +kernel
theorem dX0_init_41 : decode cX0_init 41 = .ok (.aastore, 1) := by decide +kernel
theorem dX0_init_42 : decode cX0_init 42 = .ok (.iinc 2 1, 3) := by decide +kernel
theorem dX0_init_45 : decode cX0_init 45 = .ok (.goto (-25), 3) := by decide +kernel
theorem dX0_init_48 : decode cX0_init 48 = .ok (.return_, 1) := by decide +kernel
theorem dX0_askAll_0 : decode cX0_askAll 0 = .ok (.aload_n 0, 1) := by decide +kernel
theorem dX0_askAll_1 : decode cX0_askAll 1 = .ok (.iconst 0, 1) := by decide +kernel
theorem dX0_askAll_2 : decode cX0_askAll 2 = .ok (.putfield 22, 3) := by decide +kernel
theorem dX0_askAll_5 : decode cX0_askAll 5 = .ok (.aload_n 0, 1) := by decide +kernel
theorem dX0_askAll_6 : decode cX0_askAll 6 = .ok (.iconst 0, 1) := by decide +kernel
theorem dX0_askAll_7 : decode cX0_askAll 7 = .ok (.putfield 26, 3) := by decide +kernel
theorem dX0_askAll_10 : decode cX0_askAll 10 = .ok (.aload_n 0, 1) := by decide +kernel
theorem dX0_askAll_11 : decode cX0_askAll 11 = .ok (.iconst 0, 1) := by decide +kernel
theorem dX0_askAll_12 : decode cX0_askAll 12 = .ok (.putfield 29, 3) := by decide +kernel
theorem dX0_askAll_15 : decode cX0_askAll 15 = .ok (.aload_n 0, 1) := by decide +kernel
theorem dX0_askAll_16 : decode cX0_askAll 16 = .ok (.getfield 11, 3) := by decide +kernel
theorem dX0_askAll_19 : decode cX0_askAll 19 = .ok (.iconst 0, 1) := by decide +kernel
theorem dX0_askAll_20 : decode cX0_askAll 20 = .ok (.aaload, 1) := by decide +kernel
theorem dX0_askAll_21 : decode cX0_askAll 21 = .ok (.aload_n 0, 1) := by decide +kernel
theorem dX0_askAll_22 : decode cX0_askAll 22 = .ok (.getfield 17, 3) := by decide +kernel
theorem dX0_askAll_25 : decode cX0_askAll 25 = .ok (.invokevirtual 32, 3) := by decide +kernel
theorem dX0_askAll_28 : decode cX0_askAll 28 = .ok (.aload_n 0, 1) := by decide +kernel
theorem dX0_askAll_29 : decode cX0_askAll 29 = .ok (.iconst 0, 1) := by decide +kernel
theorem dX0_askAll_30 : decode cX0_askAll 30 = .ok (.invokestatic 36, 3) := by decide +kernel
theorem dX0_askAll_33 : decode cX0_askAll 33 = .ok (.return_, 1) := by decide +kernel
theorem dX0_told_0 : decode cX0_told 0 = .ok (.iload_n 1, 1) := by decide +kernel
theorem dX0_told_1 : decode cX0_told 1 = .ok (.tableswitch 63 0 3 #[31, 41, 51, 57], 31) := by decide +kernel
theorem dX0_told_32 : decode cX0_told 32 = .ok (.aload_n 0, 1) := by decide +kernel
theorem dX0_told_33 : decode cX0_told 33 = .ok (.getfield 11, 3) := by decide +kernel
theorem dX0_told_36 : decode cX0_told 36 = .ok (.iconst 0, 1) := by decide +kernel
theorem dX0_told_37 : decode cX0_told 37 = .ok (.aaload, 1) := by decide +kernel
theorem dX0_told_38 : decode cX0_told 38 = .ok (.invokevirtual 40, 3) := by decide +kernel
theorem dX0_told_41 : decode cX0_told 41 = .ok (.lreturn, 1) := by decide +kernel
theorem dX0_told_42 : decode cX0_told 42 = .ok (.aload_n 0, 1) := by decide +kernel
theorem dX0_told_43 : decode cX0_told 43 = .ok (.getfield 11, 3) := by decide +kernel
theorem dX0_told_46 : decode cX0_told 46 = .ok (.iconst 0, 1) := by decide +kernel
theorem dX0_told_47 : decode cX0_told 47 = .ok (.aaload, 1) := by decide +kernel
theorem dX0_told_48 : decode cX0_told 48 = .ok (.invokevirtual 44, 3) := by decide +kernel
theorem dX0_told_51 : decode cX0_told 51 = .ok (.lreturn, 1) := by decide +kernel
theorem dX0_told_52 : decode cX0_told 52 = .ok (.aload_n 0, 1) := by decide +kernel
theorem dX0_told_53 : decode cX0_told 53 = .ok (.getfield 22, 3) := by decide +kernel
theorem dX0_told_56 : decode cX0_told 56 = .ok (.i2l, 1) := by decide +kernel
theorem dX0_told_57 : decode cX0_told 57 = .ok (.lreturn, 1) := by decide +kernel
theorem dX0_told_58 : decode cX0_told 58 = .ok (.aload_n 0, 1) := by decide +kernel
theorem dX0_told_59 : decode cX0_told 59 = .ok (.getfield 26, 3) := by decide +kernel
theorem dX0_told_62 : decode cX0_told 62 = .ok (.i2l, 1) := by decide +kernel
theorem dX0_told_63 : decode cX0_told 63 = .ok (.lreturn, 1) := by decide +kernel
theorem dX0_told_64 : decode cX0_told 64 = .ok (.aload_n 0, 1) := by decide +kernel
theorem dX0_told_65 : decode cX0_told 65 = .ok (.getfield 29, 3) := by decide +kernel
theorem dX0_told_68 : decode cX0_told 68 = .ok (.i2l, 1) := by decide +kernel
theorem dX0_told_69 : decode cX0_told 69 = .ok (.lreturn, 1) := by decide +kernel
theorem dX0_ask_0 : decode cX0_ask 0 = .ok (.iload_n 1, 1) := by decide +kernel
theorem dX0_ask_1 : decode cX0_ask 1 = .ok (.ifCond .lt 12, 3) := by decide +kernel
theorem dX0_ask_4 : decode cX0_ask 4 = .ok (.iload_n 1, 1) := by decide +kernel
theorem dX0_ask_5 : decode cX0_ask 5 = .ok (.aload_n 0, 1) := by decide +kernel
theorem dX0_ask_6 : decode cX0_ask 6 = .ok (.getfield 11, 3) := by decide +kernel
theorem dX0_ask_9 : decode cX0_ask 9 = .ok (.arraylength, 1) := by decide +kernel
theorem dX0_ask_10 : decode cX0_ask 10 = .ok (.if_icmp .lt 4, 3) := by decide +kernel
theorem dX0_ask_13 : decode cX0_ask 13 = .ok (.return_, 1) := by decide +kernel
theorem dX0_ask_14 : decode cX0_ask 14 = .ok (.aload_n 0, 1) := by decide +kernel
theorem dX0_ask_15 : decode cX0_ask 15 = .ok (.getfield 11, 3) := by decide +kernel
theorem dX0_ask_18 : decode cX0_ask 18 = .ok (.iload_n 1, 1) := by decide +kernel
theorem dX0_ask_19 : decode cX0_ask 19 = .ok (.aaload, 1) := by decide +kernel
theorem dX0_ask_20 : decode cX0_ask 20 = .ok (.astore_n 2, 1) := by decide +kernel
theorem dX0_ask_21 : decode cX0_ask 21 = .ok (.aload_n 0, 1) := by decide +kernel
theorem dX0_ask_22 : decode cX0_ask 22 = .ok (.dup, 1) := by decide +kernel
theorem dX0_ask_23 : decode cX0_ask 23 = .ok (.getfield 22, 3) := by decide +kernel
theorem dX0_ask_26 : decode cX0_ask 26 = .ok (.iconst 1, 1) := by decide +kernel
theorem dX0_ask_27 : decode cX0_ask 27 = .ok (.iadd, 1) := by decide +kernel
theorem dX0_ask_28 : decode cX0_ask 28 = .ok (.putfield 22, 3) := by decide +kernel
theorem dX0_ask_31 : decode cX0_ask 31 = .ok (.aload_n 0, 1) := by decide +kernel
theorem dX0_ask_32 : decode cX0_ask 32 = .ok (.aload_n 0, 1) := by decide +kernel
theorem dX0_ask_33 : decode cX0_ask 33 = .ok (.getfield 26, 3) := by decide +kernel
theorem dX0_ask_36 : decode cX0_ask 36 = .ok (.iload_n 1, 1) := by decide +kernel
theorem dX0_ask_37 : decode cX0_ask 37 = .ok (.iconst 1, 1) := by decide +kernel
theorem dX0_ask_38 : decode cX0_ask 38 = .ok (.iadd, 1) := by decide +kernel
theorem dX0_ask_39 : decode cX0_ask 39 = .ok (.invokestatic 47, 3) := by decide +kernel
theorem dX0_ask_42 : decode cX0_ask 42 = .ok (.putfield 26, 3) := by decide +kernel
theorem dX0_ask_45 : decode cX0_ask 45 = .ok (.aload_n 0, 1) := by decide +kernel
theorem dX0_ask_46 : decode cX0_ask 46 = .ok (.dup, 1) := by decide +kernel
theorem dX0_ask_47 : decode cX0_ask 47 = .ok (.getfield 29, 3) := by decide +kernel
theorem dX0_ask_50 : decode cX0_ask 50 = .ok (.aload_n 2, 1) := by decide +kernel
theorem dX0_ask_51 : decode cX0_ask 51 = .ok (.invokevirtual 53, 3) := by decide +kernel
theorem dX0_ask_54 : decode cX0_ask 54 = .ok (.iadd, 1) := by decide +kernel
theorem dX0_ask_55 : decode cX0_ask 55 = .ok (.putfield 29, 3) := by decide +kernel
theorem dX0_ask_58 : decode cX0_ask 58 = .ok (.aload_n 2, 1) := by decide +kernel
theorem dX0_ask_59 : decode cX0_ask 59 = .ok (.invokevirtual 57, 3) := by decide +kernel
theorem dX0_ask_62 : decode cX0_ask 62 = .ok (.ifCond .ne 14, 3) := by decide +kernel
theorem dX0_ask_65 : decode cX0_ask 65 = .ok (.iload_n 1, 1) := by decide +kernel
theorem dX0_ask_66 : decode cX0_ask 66 = .ok (.iconst 1, 1) := by decide +kernel
theorem dX0_ask_67 : decode cX0_ask 67 = .ok (.iadd, 1) := by decide +kernel
theorem dX0_ask_68 : decode cX0_ask 68 = .ok (.aload_n 0, 1) := by decide +kernel
theorem dX0_ask_69 : decode cX0_ask 69 = .ok (.getfield 11, 3) := by decide +kernel
theorem dX0_ask_72 : decode cX0_ask 72 = .ok (.arraylength, 1) := by decide +kernel
theorem dX0_ask_73 : decode cX0_ask 73 = .ok (.if_icmp .lt 4, 3) := by decide +kernel
theorem dX0_ask_76 : decode cX0_ask 76 = .ok (.return_, 1) := by decide +kernel
theorem dX0_ask_77 : decode cX0_ask 77 = .ok (.aload_n 0, 1) := by decide +kernel
theorem dX0_ask_78 : decode cX0_ask 78 = .ok (.getfield 11, 3) := by decide +kernel
theorem dX0_ask_81 : decode cX0_ask 81 = .ok (.iload_n 1, 1) := by decide +kernel
theorem dX0_ask_82 : decode cX0_ask 82 = .ok (.iconst 1, 1) := by decide +kernel
theorem dX0_ask_83 : decode cX0_ask 83 = .ok (.iadd, 1) := by decide +kernel
theorem dX0_ask_84 : decode cX0_ask 84 = .ok (.aaload, 1) := by decide +kernel
theorem dX0_ask_85 : decode cX0_ask 85 = .ok (.astore_n 3, 1) := by decide +kernel
theorem dX0_ask_86 : decode cX0_ask 86 = .ok (.aload_n 2, 1) := by decide +kernel
theorem dX0_ask_87 : decode cX0_ask 87 = .ok (.invokevirtual 61, 3) := by decide +kernel
theorem dX0_ask_90 : decode cX0_ask 90 = .ok (.istore 4, 2) := by decide +kernel
theorem dX0_ask_92 : decode cX0_ask 92 = .ok (.aload_n 2, 1) := by decide +kernel
theorem dX0_ask_93 : decode cX0_ask 93 = .ok (.iload 4, 2) := by decide +kernel
theorem dX0_ask_95 : decode cX0_ask 95 = .ok (.invokevirtual 64, 3) := by decide +kernel
theorem dX0_ask_98 : decode cX0_ask 98 = .ok (.ifCond .eq 24, 3) := by decide +kernel
theorem dX0_ask_101 : decode cX0_ask 101 = .ok (.aload_n 3, 1) := by decide +kernel
theorem dX0_ask_102 : decode cX0_ask 102 = .ok (.aload_n 2, 1) := by decide +kernel
theorem dX0_ask_103 : decode cX0_ask 103 = .ok (.iload 4, 2) := by decide +kernel
theorem dX0_ask_105 : decode cX0_ask 105 = .ok (.invokevirtual 68, 3) := by decide +kernel
theorem dX0_ask_108 : decode cX0_ask 108 = .ok (.aload_n 0, 1) := by decide +kernel
theorem dX0_ask_109 : decode cX0_ask 109 = .ok (.iload_n 1, 1) := by decide +kernel
theorem dX0_ask_110 : decode cX0_ask 110 = .ok (.iconst 1, 1) := by decide +kernel
theorem dX0_ask_111 : decode cX0_ask 111 = .ok (.iadd, 1) := by decide +kernel
theorem dX0_ask_112 : decode cX0_ask 112 = .ok (.invokestatic 36, 3) := by decide +kernel
theorem dX0_ask_115 : decode cX0_ask 115 = .ok (.aload_n 2, 1) := by decide +kernel
theorem dX0_ask_116 : decode cX0_ask 116 = .ok (.iload 4, 2) := by decide +kernel
theorem dX0_ask_118 : decode cX0_ask 118 = .ok (.aload_n 3, 1) := by decide +kernel
theorem dX0_ask_119 : decode cX0_ask 119 = .ok (.invokevirtual 72, 3) := by decide +kernel
theorem dX0_ask_122 : decode cX0_ask 122 = .ok (.aload_n 2, 1) := by decide +kernel
theorem dX0_ask_123 : decode cX0_ask 123 = .ok (.iload 4, 2) := by decide +kernel
theorem dX0_ask_125 : decode cX0_ask 125 = .ok (.invokevirtual 76, 3) := by decide +kernel
theorem dX0_ask_128 : decode cX0_ask 128 = .ok (.ifCond .eq 24, 3) := by decide +kernel
theorem dX0_ask_131 : decode cX0_ask 131 = .ok (.aload_n 3, 1) := by decide +kernel
theorem dX0_ask_132 : decode cX0_ask 132 = .ok (.aload_n 2, 1) := by decide +kernel
theorem dX0_ask_133 : decode cX0_ask 133 = .ok (.iload 4, 2) := by decide +kernel
theorem dX0_ask_135 : decode cX0_ask 135 = .ok (.invokevirtual 79, 3) := by decide +kernel
theorem dX0_ask_138 : decode cX0_ask 138 = .ok (.aload_n 0, 1) := by decide +kernel
theorem dX0_ask_139 : decode cX0_ask 139 = .ok (.iload_n 1, 1) := by decide +kernel
theorem dX0_ask_140 : decode cX0_ask 140 = .ok (.iconst 1, 1) := by decide +kernel
theorem dX0_ask_141 : decode cX0_ask 141 = .ok (.iadd, 1) := by decide +kernel
theorem dX0_ask_142 : decode cX0_ask 142 = .ok (.invokestatic 36, 3) := by decide +kernel
theorem dX0_ask_145 : decode cX0_ask 145 = .ok (.aload_n 2, 1) := by decide +kernel
theorem dX0_ask_146 : decode cX0_ask 146 = .ok (.iload 4, 2) := by decide +kernel
theorem dX0_ask_148 : decode cX0_ask 148 = .ok (.aload_n 3, 1) := by decide +kernel
theorem dX0_ask_149 : decode cX0_ask 149 = .ok (.invokevirtual 82, 3) := by decide +kernel
theorem dX0_ask_152 : decode cX0_ask 152 = .ok (.return_, 1) := by decide +kernel
theorem dX1_isChance_0 : decode cX1_isChance 0 = .ok (.lload_n 2, 1) := by decide +kernel
theorem dX1_isChance_1 : decode cX1_isChance 1 = .ok (.lconst 1, 1) := by decide +kernel
theorem dX1_isChance_2 : decode cX1_isChance 2 = .ok (.lcmp, 1) := by decide +kernel
theorem dX1_isChance_3 : decode cX1_isChance 3 = .ok (.ifCond .lt 27, 3) := by decide +kernel
theorem dX1_isChance_6 : decode cX1_isChance 6 = .ok (.lload_n 2, 1) := by decide +kernel
theorem dX1_isChance_7 : decode cX1_isChance 7 = .ok (.ldc2_w 7, 3) := by decide +kernel
theorem dX1_isChance_10 : decode cX1_isChance 10 = .ok (.lcmp, 1) := by decide +kernel
theorem dX1_isChance_11 : decode cX1_isChance 11 = .ok (.ifCond .gt 19, 3) := by decide +kernel
theorem dX1_isChance_14 : decode cX1_isChance 14 = .ok (.lload_n 0, 1) := by decide +kernel
theorem dX1_isChance_15 : decode cX1_isChance 15 = .ok (.lconst 0, 1) := by decide +kernel
theorem dX1_isChance_16 : decode cX1_isChance 16 = .ok (.lcmp, 1) := by decide +kernel
theorem dX1_isChance_17 : decode cX1_isChance 17 = .ok (.ifCond .lt 13, 3) := by decide +kernel
theorem dX1_isChance_20 : decode cX1_isChance 20 = .ok (.lload_n 0, 1) := by decide +kernel
theorem dX1_isChance_21 : decode cX1_isChance 21 = .ok (.lload_n 2, 1) := by decide +kernel
theorem dX1_isChance_22 : decode cX1_isChance 22 = .ok (.lcmp, 1) := by decide +kernel
theorem dX1_isChance_23 : decode cX1_isChance 23 = .ok (.ifCond .gt 7, 3) := by decide +kernel
theorem dX1_isChance_26 : decode cX1_isChance 26 = .ok (.iconst 1, 1) := by decide +kernel
theorem dX1_isChance_27 : decode cX1_isChance 27 = .ok (.goto 4, 3) := by decide +kernel
theorem dX1_isChance_30 : decode cX1_isChance 30 = .ok (.iconst 0, 1) := by decide +kernel
theorem dX1_isChance_31 : decode cX1_isChance 31 = .ok (.ireturn, 1) := by decide +kernel
theorem dX1_commonDivisor_0 : decode cX1_commonDivisor 0 = .ok (.iconst 0, 1) := by decide +kernel
theorem dX1_commonDivisor_1 : decode cX1_commonDivisor 1 = .ok (.istore 4, 2) := by decide +kernel
theorem dX1_commonDivisor_3 : decode cX1_commonDivisor 3 = .ok (.iload 4, 2) := by decide +kernel
theorem dX1_commonDivisor_5 : decode cX1_commonDivisor 5 = .ok (.bipush 100, 2) := by decide +kernel
theorem dX1_commonDivisor_7 : decode cX1_commonDivisor 7 = .ok (.if_icmp .ge 25, 3) := by decide +kernel
theorem dX1_commonDivisor_10 : decode cX1_commonDivisor 10 = .ok (.lload_n 2, 1) := by decide +kernel
theorem dX1_commonDivisor_11 : decode cX1_commonDivisor 11 = .ok (.lconst 0, 1) := by decide +kernel
theorem dX1_commonDivisor_12 : decode cX1_commonDivisor 12 = .ok (.lcmp, 1) := by decide +kernel
theorem dX1_commonDivisor_13 : decode cX1_commonDivisor 13 = .ok (.ifCond .eq 19, 3) := by decide +kernel
theorem dX1_commonDivisor_16 : decode cX1_commonDivisor 16 = .ok (.lload_n 0, 1) := by decide +kernel
theorem dX1_commonDivisor_17 : decode cX1_commonDivisor 17 = .ok (.lload_n 2, 1) := by decide +kernel
theorem dX1_commonDivisor_18 : decode cX1_commonDivisor 18 = .ok (.lrem, 1) := by decide +kernel
theorem dX1_commonDivisor_19 : decode cX1_commonDivisor 19 = .ok (.lstore 5, 2) := by decide +kernel
theorem dX1_commonDivisor_21 : decode cX1_commonDivisor 21 = .ok (.lload_n 2, 1) := by decide +kernel
theorem dX1_commonDivisor_22 : decode cX1_commonDivisor 22 = .ok (.lstore_n 0, 1) := by decide +kernel
theorem dX1_commonDivisor_23 : decode cX1_commonDivisor 23 = .ok (.lload 5, 2) := by decide +kernel
theorem dX1_commonDivisor_25 : decode cX1_commonDivisor 25 = .ok (.lstore_n 2, 1) := by decide +kernel
theorem dX1_commonDivisor_26 : decode cX1_commonDivisor 26 = .ok (.iinc 4 1, 3) := by decide +kernel
theorem dX1_commonDivisor_29 : decode cX1_commonDivisor 29 = .ok (.goto (-26), 3) := by decide +kernel
theorem dX1_commonDivisor_32 : decode cX1_commonDivisor 32 = .ok (.lload_n 0, 1) := by decide +kernel
theorem dX1_commonDivisor_33 : decode cX1_commonDivisor 33 = .ok (.lreturn, 1) := by decide +kernel
theorem dX1_told_0 : decode cX1_told 0 = .ok (.lload_n 0, 1) := by decide +kernel
theorem dX1_told_1 : decode cX1_told 1 = .ok (.lload_n 2, 1) := by decide +kernel
theorem dX1_told_2 : decode cX1_told 2 = .ok (.invokestatic 9, 3) := by decide +kernel
theorem dX1_told_5 : decode cX1_told 5 = .ok (.lstore 5, 2) := by decide +kernel
theorem dX1_told_7 : decode cX1_told 7 = .ok (.lload 5, 2) := by decide +kernel
theorem dX1_told_9 : decode cX1_told 9 = .ok (.lconst 0, 1) := by decide +kernel
theorem dX1_told_10 : decode cX1_told 10 = .ok (.lcmp, 1) := by decide +kernel
theorem dX1_told_11 : decode cX1_told 11 = .ok (.ifCond .ne 7, 3) := by decide +kernel
theorem dX1_told_14 : decode cX1_told 14 = .ok (.iload 4, 2) := by decide +kernel
theorem dX1_told_16 : decode cX1_told 16 = .ok (.i2l, 1) := by decide +kernel
theorem dX1_told_17 : decode cX1_told 17 = .ok (.lreturn, 1) := by decide +kernel
theorem dX1_told_18 : decode cX1_told 18 = .ok (.iload 4, 2) := by decide +kernel
theorem dX1_told_20 : decode cX1_told 20 = .ok (.ifCond .ne 7, 3) := by decide +kernel
theorem dX1_told_23 : decode cX1_told 23 = .ok (.lload_n 0, 1) := by decide +kernel
theorem dX1_told_24 : decode cX1_told 24 = .ok (.goto 4, 3) := by decide +kernel
theorem dX1_told_27 : decode cX1_told 27 = .ok (.lload_n 2, 1) := by decide +kernel
theorem dX1_told_28 : decode cX1_told 28 = .ok (.lload 5, 2) := by decide +kernel
theorem dX1_told_30 : decode cX1_told 30 = .ok (.ldiv, 1) := by decide +kernel
theorem dX1_told_31 : decode cX1_told 31 = .ok (.lreturn, 1) := by decide +kernel
theorem dX2_init_0 : decode cX2_init 0 = .ok (.aload_n 0, 1) := by decide +kernel
theorem dX2_init_1 : decode cX2_init 1 = .ok (.invokespecial 3, 3) := by decide +kernel
theorem dX2_init_4 : decode cX2_init 4 = .ok (.aload_n 0, 1) := by decide +kernel
theorem dX2_init_5 : decode cX2_init 5 = .ok (.bipush 10, 2) := by decide +kernel
theorem dX2_init_7 : decode cX2_init 7 = .ok (.newarray .int, 2) := by decide +kernel
theorem dX2_init_9 : decode cX2_init 9 = .ok (.putfield 9, 3) := by decide +kernel
theorem dX2_init_12 : decode cX2_init 12 = .ok (.aload_n 0, 1) := by decide +kernel
theorem dX2_init_13 : decode cX2_init 13 = .ok (.bipush 10, 2) := by decide +kernel
theorem dX2_init_15 : decode cX2_init 15 = .ok (.newarray .int, 2) := by decide +kernel
theorem dX2_init_17 : decode cX2_init 17 = .ok (.putfield 15, 3) := by decide +kernel
theorem dX2_init_20 : decode cX2_init 20 = .ok (.aload_n 0, 1) := by decide +kernel
theorem dX2_init_21 : decode cX2_init 21 = .ok (.bipush 10, 2) := by decide +kernel
theorem dX2_init_23 : decode cX2_init 23 = .ok (.newarray .int, 2) := by decide +kernel
theorem dX2_init_25 : decode cX2_init 25 = .ok (.putfield 18, 3) := by decide +kernel
theorem dX2_init_28 : decode cX2_init 28 = .ok (.aload_n 0, 1) := by decide +kernel
theorem dX2_init_29 : decode cX2_init 29 = .ok (.bipush 10, 2) := by decide +kernel
theorem dX2_init_31 : decode cX2_init 31 = .ok (.newarray .int, 2) := by decide +kernel
theorem dX2_init_33 : decode cX2_init 33 = .ok (.putfield 21, 3) := by decide +kernel
theorem dX2_init_36 : decode cX2_init 36 = .ok (.aload_n 0, 1) := by decide +kernel
theorem dX2_init_37 : decode cX2_init 37 = .ok (.bipush 10, 2) := by decide +kernel
theorem dX2_init_39 : decode cX2_init 39 = .ok (.newarray .int, 2) := by decide +kernel
theorem dX2_init_41 : decode cX2_init 41 = .ok (.putfield 24, 3) := by decide +kernel
theorem dX2_init_44 : decode cX2_init 44 = .ok (.aload_n 0, 1) := by decide +kernel
theorem dX2_init_45 : decode cX2_init 45 = .ok (.sipush 1024, 3) := by decide +kernel
theorem dX2_init_48 : decode cX2_init 48 = .ok (.newarray .long, 2) := by decide +kernel
theorem dX2_init_50 : decode cX2_init 50 = .ok (.putfield 27, 3) := by decide +kernel
theorem dX2_init_53 : decode cX2_init 53 = .ok (.iconst 0, 1) := by decide +kernel
theorem dX2_init_54 : decode cX2_init 54 = .ok (.istore_n 1, 1) := by decide +kernel
theorem dX2_init_55 : decode cX2_init 55 = .ok (.iload_n 1, 1) := by decide +kernel
theorem dX2_init_56 : decode cX2_init 56 = .ok (.bipush 7, 2) := by decide +kernel
theorem dX2_init_58 : decode cX2_init 58 = .ok (.if_icmp .ge 26, 3) := by decide +kernel
theorem dX2_init_61 : decode cX2_init 61 = .ok (.aload_n 0, 1) := by decide +kernel
theorem dX2_init_62 : decode cX2_init 62 = .ok (.getfield 27, 3) := by decide +kernel
theorem dX2_init_65 : decode cX2_init 65 = .ok (.iconst 0, 1) := by decide +kernel
theorem dX2_init_66 : decode cX2_init 66 = .ok (.dup2, 1) := by decide +kernel
theorem dX2_init_67 : decode cX2_init 67 = .ok (.laload, 1) := by decide +kernel
theorem dX2_init_68 : decode cX2_init 68 = .ok (.lconst 1, 1) := by decide +kernel
theorem dX2_init_69 : decode cX2_init 69 = .ok (.bipush 7, 2) := by decide +kernel
theorem dX2_init_71 : decode cX2_init 71 = .ok (.iload_n 1, 1) := by decide +kernel
theorem dX2_init_72 : decode cX2_init 72 = .ok (.imul, 1) := by decide +kernel
theorem dX2_init_73 : decode cX2_init 73 = .ok (.iload_n 1, 1) := by decide +kernel
theorem dX2_init_74 : decode cX2_init 74 = .ok (.iadd, 1) := by decide +kernel
theorem dX2_init_75 : decode cX2_init 75 = .ok (.lshl, 1) := by decide +kernel
theorem dX2_init_76 : decode cX2_init 76 = .ok (.lor, 1) := by decide +kernel
theorem dX2_init_77 : decode cX2_init 77 = .ok (.lastore, 1) := by decide +kernel
theorem dX2_init_78 : decode cX2_init 78 = .ok (.iinc 1 1, 3) := by decide +kernel
theorem dX2_init_81 : decode cX2_init 81 = .ok (.goto (-26), 3) := by decide +kernel
theorem dX2_init_84 : decode cX2_init 84 = .ok (.aload_n 0, 1) := by decide +kernel
theorem dX2_init_85 : decode cX2_init 85 = .ok (.iconst 4, 1) := by decide +kernel
theorem dX2_init_86 : decode cX2_init 86 = .ok (.putfield 31, 3) := by decide +kernel
theorem dX2_init_89 : decode cX2_init 89 = .ok (.return_, 1) := by decide +kernel
theorem dX2_renew_0 : decode cX2_renew 0 = .ok (.aload_n 0, 1) := by decide +kernel
theorem dX2_renew_1 : decode cX2_renew 1 = .ok (.iload_n 1, 1) := by decide +kernel
theorem dX2_renew_2 : decode cX2_renew 2 = .ok (.putfield 31, 3) := by decide +kernel
theorem dX2_renew_5 : decode cX2_renew 5 = .ok (.aload_n 0, 1) := by decide +kernel
theorem dX2_renew_6 : decode cX2_renew 6 = .ok (.iconst 0, 1) := by decide +kernel
theorem dX2_renew_7 : decode cX2_renew 7 = .ok (.putfield 35, 3) := by decide +kernel
theorem dX2_renew_10 : decode cX2_renew 10 = .ok (.aload_n 0, 1) := by decide +kernel
theorem dX2_renew_11 : decode cX2_renew 11 = .ok (.iconst 0, 1) := by decide +kernel
theorem dX2_renew_12 : decode cX2_renew 12 = .ok (.putfield 38, 3) := by decide +kernel
theorem dX2_renew_15 : decode cX2_renew 15 = .ok (.aload_n 0, 1) := by decide +kernel
theorem dX2_renew_16 : decode cX2_renew 16 = .ok (.iconst 0, 1) := by decide +kernel
theorem dX2_renew_17 : decode cX2_renew 17 = .ok (.putfield 41, 3) := by decide +kernel
theorem dX2_renew_20 : decode cX2_renew 20 = .ok (.return_, 1) := by decide +kernel
theorem dX2_stationCount_0 : decode cX2_stationCount 0 = .ok (.aload_n 0, 1) := by decide +kernel
theorem dX2_stationCount_1 : decode cX2_stationCount 1 = .ok (.getfield 31, 3) := by decide +kernel
theorem dX2_stationCount_4 : decode cX2_stationCount 4 = .ok (.ireturn, 1) := by decide +kernel
theorem dX2_linkCount_0 : decode cX2_linkCount 0 = .ok (.aload_n 0, 1) := by decide +kernel
theorem dX2_linkCount_1 : decode cX2_linkCount 1 = .ok (.getfield 35, 3) := by decide +kernel
theorem dX2_linkCount_4 : decode cX2_linkCount 4 = .ok (.ireturn, 1) := by decide +kernel
theorem dX2_sourceStation_0 : decode cX2_sourceStation 0 = .ok (.aload_n 0, 1) := by decide +kernel
theorem dX2_sourceStation_1 : decode cX2_sourceStation 1 = .ok (.getfield 38, 3) := by decide +kernel
theorem dX2_sourceStation_4 : decode cX2_sourceStation 4 = .ok (.ireturn, 1) := by decide +kernel
theorem dX2_goalBits_0 : decode cX2_goalBits 0 = .ok (.aload_n 0, 1) := by decide +kernel
theorem dX2_goalBits_1 : decode cX2_goalBits 1 = .ok (.getfield 41, 3) := by decide +kernel
theorem dX2_goalBits_4 : decode cX2_goalBits 4 = .ok (.ireturn, 1) := by decide +kernel
theorem dX2_allStations_0 : decode cX2_allStations 0 = .ok (.iconst 1, 1) := by decide +kernel
theorem dX2_allStations_1 : decode cX2_allStations 1 = .ok (.aload_n 0, 1) := by decide +kernel
theorem dX2_allStations_2 : decode cX2_allStations 2 = .ok (.getfield 31, 3) := by decide +kernel
theorem dX2_allStations_5 : decode cX2_allStations 5 = .ok (.ishl, 1) := by decide +kernel
theorem dX2_allStations_6 : decode cX2_allStations 6 = .ok (.iconst 1, 1) := by decide +kernel
theorem dX2_allStations_7 : decode cX2_allStations 7 = .ok (.isub, 1) := by decide +kernel
theorem dX2_allStations_8 : decode cX2_allStations 8 = .ok (.ireturn, 1) := by decide +kernel
theorem dX2_allLinks_0 : decode cX2_allLinks 0 = .ok (.iconst 1, 1) := by decide +kernel
theorem dX2_allLinks_1 : decode cX2_allLinks 1 = .ok (.aload_n 0, 1) := by decide +kernel
theorem dX2_allLinks_2 : decode cX2_allLinks 2 = .ok (.getfield 35, 3) := by decide +kernel
theorem dX2_allLinks_5 : decode cX2_allLinks 5 = .ok (.ishl, 1) := by decide +kernel
theorem dX2_allLinks_6 : decode cX2_allLinks 6 = .ok (.iconst 1, 1) := by decide +kernel
theorem dX2_allLinks_7 : decode cX2_allLinks 7 = .ok (.isub, 1) := by decide +kernel
theorem dX2_allLinks_8 : decode cX2_allLinks 8 = .ok (.ireturn, 1) := by decide +kernel
theorem dX2_wantedStations_0 : decode cX2_wantedStations 0 = .ok (.aload_n 0, 1) := by decide +kernel
theorem dX2_wantedStations_1 : decode cX2_wantedStations 1 = .ok (.getfield 41, 3) := by decide +kernel
theorem dX2_wantedStations_4 : decode cX2_wantedStations 4 = .ok (.iconst 1, 1) := by decide +kernel
theorem dX2_wantedStations_5 : decode cX2_wantedStations 5 = .ok (.aload_n 0, 1) := by decide +kernel
theorem dX2_wantedStations_6 : decode cX2_wantedStations 6 = .ok (.getfield 38, 3) := by decide +kernel
theorem dX2_wantedStations_9 : decode cX2_wantedStations 9 = .ok (.ishl, 1) := by decide +kernel
theorem dX2_wantedStations_10 : decode cX2_wantedStations 10 = .ok (.ior, 1) := by decide +kernel
theorem dX2_wantedStations_11 : decode cX2_wantedStations 11 = .ok (.ireturn, 1) := by decide +kernel
theorem dX2_hasStation_0 : decode cX2_hasStation 0 = .ok (.lload_n 1, 1) := by decide +kernel
theorem dX2_hasStation_1 : decode cX2_hasStation 1 = .ok (.lconst 0, 1) := by decide +kernel
theorem dX2_hasStation_2 : decode cX2_hasStation 2 = .ok (.lcmp, 1) := by decide +kernel
theorem dX2_hasStation_3 : decode cX2_hasStation 3 = .ok (.ifCond .lt 17, 3) := by decide +kernel
theorem dX2_hasStation_6 : decode cX2_hasStation 6 = .ok (.lload_n 1, 1) := by decide +kernel
theorem dX2_hasStation_7 : decode cX2_hasStation 7 = .ok (.aload_n 0, 1) := by decide +kernel
theorem dX2_hasStation_8 : decode cX2_hasStation 8 = .ok (.getfield 31, 3) := by decide +kernel
theorem dX2_hasStation_11 : decode cX2_hasStation 11 = .ok (.i2l, 1) := by decide +kernel
theorem dX2_hasStation_12 : decode cX2_hasStation 12 = .ok (.lcmp, 1) := by decide +kernel
theorem dX2_hasStation_13 : decode cX2_hasStation 13 = .ok (.ifCond .ge 7, 3) := by decide +kernel
theorem dX2_hasStation_16 : decode cX2_hasStation 16 = .ok (.iconst 1, 1) := by decide +kernel
theorem dX2_hasStation_17 : decode cX2_hasStation 17 = .ok (.goto 4, 3) := by decide +kernel
theorem dX2_hasStation_20 : decode cX2_hasStation 20 = .ok (.iconst 0, 1) := by decide +kernel
theorem dX2_hasStation_21 : decode cX2_hasStation 21 = .ok (.ireturn, 1) := by decide +kernel
theorem dX2_hasLink_0 : decode cX2_hasLink 0 = .ok (.iload_n 1, 1) := by decide +kernel
theorem dX2_hasLink_1 : decode cX2_hasLink 1 = .ok (.ifCond .lt 21, 3) := by decide +kernel
theorem dX2_hasLink_4 : decode cX2_hasLink 4 = .ok (.iload_n 1, 1) := by decide +kernel
theorem dX2_hasLink_5 : decode cX2_hasLink 5 = .ok (.aload_n 0, 1) := by decide +kernel
theorem dX2_hasLink_6 : decode cX2_hasLink 6 = .ok (.getfield 35, 3) := by decide +kernel
theorem dX2_hasLink_9 : decode cX2_hasLink 9 = .ok (.if_icmp .ge 13, 3) := by decide +kernel
theorem dX2_hasLink_12 : decode cX2_hasLink 12 = .ok (.iload_n 1, 1) := by decide +kernel
theorem dX2_hasLink_13 : decode cX2_hasLink 13 = .ok (.bipush 10, 2) := by decide +kernel
theorem dX2_hasLink_15 : decode cX2_hasLink 15 = .ok (.if_icmp .ge 7, 3) := by decide +kernel
theorem dX2_hasLink_18 : decode cX2_hasLink 18 = .ok (.iconst 1, 1) := by decide +kernel
theorem dX2_hasLink_19 : decode cX2_hasLink 19 = .ok (.goto 4, 3) := by decide +kernel
theorem dX2_hasLink_22 : decode cX2_hasLink 22 = .ok (.iconst 0, 1) := by decide +kernel
theorem dX2_hasLink_23 : decode cX2_hasLink 23 = .ok (.ireturn, 1) := by decide +kernel
theorem dX2_hasRoom_0 : decode cX2_hasRoom 0 = .ok (.aload_n 0, 1) := by decide +kernel
theorem dX2_hasRoom_1 : decode cX2_hasRoom 1 = .ok (.getfield 35, 3) := by decide +kernel
theorem dX2_hasRoom_4 : decode cX2_hasRoom 4 = .ok (.bipush 10, 2) := by decide +kernel
theorem dX2_hasRoom_6 : decode cX2_hasRoom 6 = .ok (.if_icmp .ge 7, 3) := by decide +kernel
theorem dX2_hasRoom_9 : decode cX2_hasRoom 9 = .ok (.iconst 1, 1) := by decide +kernel
theorem dX2_hasRoom_10 : decode cX2_hasRoom 10 = .ok (.goto 4, 3) := by decide +kernel
theorem dX2_hasRoom_13 : decode cX2_hasRoom 13 = .ok (.iconst 0, 1) := by decide +kernel
theorem dX2_hasRoom_14 : decode cX2_hasRoom 14 = .ok (.ireturn, 1) := by decide +kernel
theorem dX2_mayLink_0 : decode cX2_mayLink 0 = .ok (.aload_n 0, 1) := by decide +kernel
theorem dX2_mayLink_1 : decode cX2_mayLink 1 = .ok (.lload_n 1, 1) := by decide +kernel
theorem dX2_mayLink_2 : decode cX2_mayLink 2 = .ok (.invokevirtual 44, 3) := by decide +kernel
theorem dX2_mayLink_5 : decode cX2_mayLink 5 = .ok (.ifCond .eq 31, 3) := by decide +kernel
theorem dX2_mayLink_8 : decode cX2_mayLink 8 = .ok (.aload_n 0, 1) := by decide +kernel
theorem dX2_mayLink_9 : decode cX2_mayLink 9 = .ok (.lload_n 3, 1) := by decide +kernel
theorem dX2_mayLink_10 : decode cX2_mayLink 10 = .ok (.invokevirtual 44, 3) := by decide +kernel
theorem dX2_mayLink_13 : decode cX2_mayLink 13 = .ok (.ifCond .eq 23, 3) := by decide +kernel
theorem dX2_mayLink_16 : decode cX2_mayLink 16 = .ok (.lload_n 1, 1) := by decide +kernel
theorem dX2_mayLink_17 : decode cX2_mayLink 17 = .ok (.lload_n 3, 1) := by decide +kernel
theorem dX2_mayLink_18 : decode cX2_mayLink 18 = .ok (.lcmp, 1) := by decide +kernel
theorem dX2_mayLink_19 : decode cX2_mayLink 19 = .ok (.ifCond .eq 17, 3) := by decide +kernel
theorem dX2_mayLink_22 : decode cX2_mayLink 22 = .ok (.lload 5, 2) := by decide +kernel
theorem dX2_mayLink_24 : decode cX2_mayLink 24 = .ok (.lload 7, 2) := by decide +kernel
theorem dX2_mayLink_26 : decode cX2_mayLink 26 = .ok (.invokestatic 48, 3) := by decide +kernel
theorem dX2_mayLink_29 : decode cX2_mayLink 29 = .ok (.ifCond .eq 7, 3) := by decide +kernel
theorem dX2_mayLink_32 : decode cX2_mayLink 32 = .ok (.iconst 1, 1) := by decide +kernel
theorem dX2_mayLink_33 : decode cX2_mayLink 33 = .ok (.goto 4, 3) := by decide +kernel
theorem dX2_mayLink_36 : decode cX2_mayLink 36 = .ok (.iconst 0, 1) := by decide +kernel
theorem dX2_mayLink_37 : decode cX2_mayLink 37 = .ok (.ireturn, 1) := by decide +kernel
theorem dX2_addLink_0 : decode cX2_addLink 0 = .ok (.aload_n 0, 1) := by decide +kernel
theorem dX2_addLink_1 : decode cX2_addLink 1 = .ok (.getfield 35, 3) := by decide +kernel
theorem dX2_addLink_4 : decode cX2_addLink 4 = .ok (.istore 5, 2) := by decide +kernel
theorem dX2_addLink_6 : decode cX2_addLink 6 = .ok (.iload 5, 2) := by decide +kernel
theorem dX2_addLink_8 : decode cX2_addLink 8 = .ok (.ifCond .lt 10, 3) := by decide +kernel
theorem dX2_addLink_11 : decode cX2_addLink 11 = .ok (.iload 5, 2) := by decide +kernel
theorem dX2_addLink_13 : decode cX2_addLink 13 = .ok (.bipush 10, 2) := by decide +kernel
theorem dX2_addLink_15 : decode cX2_addLink 15 = .ok (.if_icmp .lt 6, 3) := by decide +kernel
theorem dX2_addLink_18 : decode cX2_addLink 18 = .ok (.bipush (-4), 2) := by decide +kernel
theorem dX2_addLink_20 : decode cX2_addLink 20 = .ok (.ireturn, 1) := by decide +kernel
theorem dX2_addLink_21 : decode cX2_addLink 21 = .ok (.aload_n 0, 1) := by decide +kernel
theorem dX2_addLink_22 : decode cX2_addLink 22 = .ok (.getfield 9, 3) := by decide +kernel
theorem dX2_addLink_25 : decode cX2_addLink 25 = .ok (.iload 5, 2) := by decide +kernel
theorem dX2_addLink_27 : decode cX2_addLink 27 = .ok (.iload_n 1, 1) := by decide +kernel
theorem dX2_addLink_28 : decode cX2_addLink 28 = .ok (.iload_n 2, 1) := by decide +kernel
theorem dX2_addLink_29 : decode cX2_addLink 29 = .ok (.invokestatic 54, 3) := by decide +kernel
theorem dX2_addLink_32 : decode cX2_addLink 32 = .ok (.iastore, 1) := by decide +kernel
theorem dX2_addLink_33 : decode cX2_addLink 33 = .ok (.aload_n 0, 1) := by decide +kernel
theorem dX2_addLink_34 : decode cX2_addLink 34 = .ok (.getfield 15, 3) := by decide +kernel
theorem dX2_addLink_37 : decode cX2_addLink 37 = .ok (.iload 5, 2) := by decide +kernel
theorem dX2_addLink_39 : decode cX2_addLink 39 = .ok (.iload_n 1, 1) := by decide +kernel
theorem dX2_addLink_40 : decode cX2_addLink 40 = .ok (.iload_n 2, 1) := by decide +kernel
theorem dX2_addLink_41 : decode cX2_addLink 41 = .ok (.invokestatic 60, 3) := by decide +kernel
theorem dX2_addLink_44 : decode cX2_addLink 44 = .ok (.iastore, 1) := by decide +kernel
theorem dX2_addLink_45 : decode cX2_addLink 45 = .ok (.aload_n 0, 1) := by decide +kernel
theorem dX2_addLink_46 : decode cX2_addLink 46 = .ok (.getfield 18, 3) := by decide +kernel
theorem dX2_addLink_49 : decode cX2_addLink 49 = .ok (.iload 5, 2) := by decide +kernel
theorem dX2_addLink_51 : decode cX2_addLink 51 = .ok (.iload_n 3, 1) := by decide +kernel
theorem dX2_addLink_52 : decode cX2_addLink 52 = .ok (.iastore, 1) := by decide +kernel
theorem dX2_addLink_53 : decode cX2_addLink 53 = .ok (.aload_n 0, 1) := by decide +kernel
theorem dX2_addLink_54 : decode cX2_addLink 54 = .ok (.getfield 21, 3) := by decide +kernel
theorem dX2_addLink_57 : decode cX2_addLink 57 = .ok (.iload 5, 2) := by decide +kernel
theorem dX2_addLink_59 : decode cX2_addLink 59 = .ok (.iload 4, 2) := by decide +kernel
theorem dX2_addLink_61 : decode cX2_addLink 61 = .ok (.iastore, 1) := by decide +kernel
theorem dX2_addLink_62 : decode cX2_addLink 62 = .ok (.aload_n 0, 1) := by decide +kernel
theorem dX2_addLink_63 : decode cX2_addLink 63 = .ok (.getfield 24, 3) := by decide +kernel
theorem dX2_addLink_66 : decode cX2_addLink 66 = .ok (.iload 5, 2) := by decide +kernel
theorem dX2_addLink_68 : decode cX2_addLink 68 = .ok (.iconst 0, 1) := by decide +kernel
theorem dX2_addLink_69 : decode cX2_addLink 69 = .ok (.iastore, 1) := by decide +kernel
theorem dX2_addLink_70 : decode cX2_addLink 70 = .ok (.aload_n 0, 1) := by decide +kernel
theorem dX2_addLink_71 : decode cX2_addLink 71 = .ok (.dup, 1) := by decide +kernel
theorem dX2_addLink_72 : decode cX2_addLink 72 = .ok (.getfield 35, 3) := by decide +kernel
theorem dX2_addLink_75 : decode cX2_addLink 75 = .ok (.iconst 1, 1) := by decide +kernel
theorem dX2_addLink_76 : decode cX2_addLink 76 = .ok (.iadd, 1) := by decide +kernel
theorem dX2_addLink_77 : decode cX2_addLink 77 = .ok (.putfield 35, 3) := by decide +kernel
theorem dX2_addLink_80 : decode cX2_addLink 80 = .ok (.aload_n 0, 1) := by decide +kernel
theorem dX2_addLink_81 : decode cX2_addLink 81 = .ok (.iload 5, 2) := by decide +kernel
theorem dX2_addLink_83 : decode cX2_addLink 83 = .ok (.invokevirtual 63, 3) := by decide +kernel
theorem dX2_addLink_86 : decode cX2_addLink 86 = .ok (.iload 5, 2) := by decide +kernel
theorem dX2_addLink_88 : decode cX2_addLink 88 = .ok (.ireturn, 1) := by decide +kernel
theorem dX2_dropLast_0 : decode cX2_dropLast 0 = .ok (.aload_n 0, 1) := by decide +kernel
theorem dX2_dropLast_1 : decode cX2_dropLast 1 = .ok (.getfield 35, 3) := by decide +kernel
theorem dX2_dropLast_4 : decode cX2_dropLast 4 = .ok (.ifCond .le 13, 3) := by decide +kernel
theorem dX2_dropLast_7 : decode cX2_dropLast 7 = .ok (.aload_n 0, 1) := by decide +kernel
theorem dX2_dropLast_8 : decode cX2_dropLast 8 = .ok (.dup, 1) := by decide +kernel
theorem dX2_dropLast_9 : decode cX2_dropLast 9 = .ok (.getfield 35, 3) := by decide +kernel
theorem dX2_dropLast_12 : decode cX2_dropLast 12 = .ok (.iconst 1, 1) := by decide +kernel
theorem dX2_dropLast_13 : decode cX2_dropLast 13 = .ok (.isub, 1) := by decide +kernel
theorem dX2_dropLast_14 : decode cX2_dropLast 14 = .ok (.putfield 35, 3) := by decide +kernel
theorem dX2_dropLast_17 : decode cX2_dropLast 17 = .ok (.aload_n 0, 1) := by decide +kernel
theorem dX2_dropLast_18 : decode cX2_dropLast 18 = .ok (.getfield 35, 3) := by decide +kernel
theorem dX2_dropLast_21 : decode cX2_dropLast 21 = .ok (.ireturn, 1) := by decide +kernel
theorem dX2_setChance_0 : decode cX2_setChance 0 = .ok (.aload_n 0, 1) := by decide +kernel
theorem dX2_setChance_1 : decode cX2_setChance 1 = .ok (.iload_n 1, 1) := by decide +kernel
theorem dX2_setChance_2 : decode cX2_setChance 2 = .ok (.invokevirtual 67, 3) := by decide +kernel
theorem dX2_setChance_5 : decode cX2_setChance 5 = .ok (.ifCond .ne 4, 3) := by decide +kernel
theorem dX2_setChance_8 : decode cX2_setChance 8 = .ok (.return_, 1) := by decide +kernel
theorem dX2_setChance_9 : decode cX2_setChance 9 = .ok (.aload_n 0, 1) := by decide +kernel
theorem dX2_setChance_10 : decode cX2_setChance 10 = .ok (.getfield 18, 3) := by decide +kernel
theorem dX2_setChance_13 : decode cX2_setChance 13 = .ok (.iload_n 1, 1) := by decide +kernel
theorem dX2_setChance_14 : decode cX2_setChance 14 = .ok (.iload_n 2, 1) := by decide +kernel
theorem dX2_setChance_15 : decode cX2_setChance 15 = .ok (.iastore, 1) := by decide +kernel
theorem dX2_setChance_16 : decode cX2_setChance 16 = .ok (.aload_n 0, 1) := by decide +kernel
theorem dX2_setChance_17 : decode cX2_setChance 17 = .ok (.getfield 21, 3) := by decide +kernel
theorem dX2_setChance_20 : decode cX2_setChance 20 = .ok (.iload_n 1, 1) := by decide +kernel
theorem dX2_setChance_21 : decode cX2_setChance 21 = .ok (.iload_n 3, 1) := by decide +kernel
theorem dX2_setChance_22 : decode cX2_setChance 22 = .ok (.iastore, 1) := by decide +kernel
theorem dX2_setChance_23 : decode cX2_setChance 23 = .ok (.return_, 1) := by decide +kernel
theorem dX2_setSeen_0 : decode cX2_setSeen 0 = .ok (.aload_n 0, 1) := by decide +kernel
theorem dX2_setSeen_1 : decode cX2_setSeen 1 = .ok (.iload_n 1, 1) := by decide +kernel
theorem dX2_setSeen_2 : decode cX2_setSeen 2 = .ok (.invokevirtual 67, 3) := by decide +kernel
theorem dX2_setSeen_5 : decode cX2_setSeen 5 = .ok (.ifCond .eq 10, 3) := by decide +kernel
theorem dX2_setSeen_8 : decode cX2_setSeen 8 = .ok (.aload_n 0, 1) := by decide +kernel
theorem dX2_setSeen_9 : decode cX2_setSeen 9 = .ok (.getfield 24, 3) := by decide +kernel
theorem dX2_setSeen_12 : decode cX2_setSeen 12 = .ok (.iload_n 1, 1) := by decide +kernel
theorem dX2_setSeen_13 : decode cX2_setSeen 13 = .ok (.iload_n 2, 1) := by decide +kernel
theorem dX2_setSeen_14 : decode cX2_setSeen 14 = .ok (.iastore, 1) := by decide +kernel
theorem dX2_setSeen_15 : decode cX2_setSeen 15 = .ok (.return_, 1) := by decide +kernel
theorem dX2_setSource_0 : decode cX2_setSource 0 = .ok (.aload_n 0, 1) := by decide +kernel
theorem dX2_setSource_1 : decode cX2_setSource 1 = .ok (.iload_n 1, 1) := by decide +kernel
theorem dX2_setSource_2 : decode cX2_setSource 2 = .ok (.putfield 38, 3) := by decide +kernel
theorem dX2_setSource_5 : decode cX2_setSource 5 = .ok (.return_, 1) := by decide +kernel
theorem dX2_setGoals_0 : decode cX2_setGoals 0 = .ok (.aload_n 0, 1) := by decide +kernel
theorem dX2_setGoals_1 : decode cX2_setGoals 1 = .ok (.iload_n 1, 1) := by decide +kernel
theorem dX2_setGoals_2 : decode cX2_setGoals 2 = .ok (.putfield 41, 3) := by decide +kernel
theorem dX2_setGoals_5 : decode cX2_setGoals 5 = .ok (.return_, 1) := by decide +kernel
theorem dX2_lesserOf_0 : decode cX2_lesserOf 0 = .ok (.aload_n 0, 1) := by decide +kernel
theorem dX2_lesserOf_1 : decode cX2_lesserOf 1 = .ok (.iload_n 1, 1) := by decide +kernel
theorem dX2_lesserOf_2 : decode cX2_lesserOf 2 = .ok (.invokevirtual 67, 3) := by decide +kernel
theorem dX2_lesserOf_5 : decode cX2_lesserOf 5 = .ok (.ifCond .eq 12, 3) := by decide +kernel
theorem dX2_lesserOf_8 : decode cX2_lesserOf 8 = .ok (.aload_n 0, 1) := by decide +kernel
theorem dX2_lesserOf_9 : decode cX2_lesserOf 9 = .ok (.getfield 9, 3) := by decide +kernel
theorem dX2_lesserOf_12 : decode cX2_lesserOf 12 = .ok (.iload_n 1, 1) := by decide +kernel
theorem dX2_lesserOf_13 : decode cX2_lesserOf 13 = .ok (.iaload, 1) := by decide +kernel
theorem dX2_lesserOf_14 : decode cX2_lesserOf 14 = .ok (.goto 4, 3) := by decide +kernel
theorem dX2_lesserOf_17 : decode cX2_lesserOf 17 = .ok (.iconst 0, 1) := by decide +kernel
theorem dX2_lesserOf_18 : decode cX2_lesserOf 18 = .ok (.ireturn, 1) := by decide +kernel
theorem dX2_greaterOf_0 : decode cX2_greaterOf 0 = .ok (.aload_n 0, 1) := by decide +kernel
theorem dX2_greaterOf_1 : decode cX2_greaterOf 1 = .ok (.iload_n 1, 1) := by decide +kernel
theorem dX2_greaterOf_2 : decode cX2_greaterOf 2 = .ok (.invokevirtual 67, 3) := by decide +kernel
theorem dX2_greaterOf_5 : decode cX2_greaterOf 5 = .ok (.ifCond .eq 12, 3) := by decide +kernel
theorem dX2_greaterOf_8 : decode cX2_greaterOf 8 = .ok (.aload_n 0, 1) := by decide +kernel
theorem dX2_greaterOf_9 : decode cX2_greaterOf 9 = .ok (.getfield 15, 3) := by decide +kernel
theorem dX2_greaterOf_12 : decode cX2_greaterOf 12 = .ok (.iload_n 1, 1) := by decide +kernel
theorem dX2_greaterOf_13 : decode cX2_greaterOf 13 = .ok (.iaload, 1) := by decide +kernel
theorem dX2_greaterOf_14 : decode cX2_greaterOf 14 = .ok (.goto 4, 3) := by decide +kernel
theorem dX2_greaterOf_17 : decode cX2_greaterOf 17 = .ok (.iconst 0, 1) := by decide +kernel
theorem dX2_greaterOf_18 : decode cX2_greaterOf 18 = .ok (.ireturn, 1) := by decide +kernel
theorem dX2_aboveOf_0 : decode cX2_aboveOf 0 = .ok (.aload_n 0, 1) := by decide +kernel
theorem dX2_aboveOf_1 : decode cX2_aboveOf 1 = .ok (.iload_n 1, 1) := by decide +kernel
theorem dX2_aboveOf_2 : decode cX2_aboveOf 2 = .ok (.invokevirtual 67, 3) := by decide +kernel
theorem dX2_aboveOf_5 : decode cX2_aboveOf 5 = .ok (.ifCond .eq 12, 3) := by decide +kernel
theorem dX2_aboveOf_8 : decode cX2_aboveOf 8 = .ok (.aload_n 0, 1) := by decide +kernel
theorem dX2_aboveOf_9 : decode cX2_aboveOf 9 = .ok (.getfield 18, 3) := by decide +kernel
theorem dX2_aboveOf_12 : decode cX2_aboveOf 12 = .ok (.iload_n 1, 1) := by decide +kernel
theorem dX2_aboveOf_13 : decode cX2_aboveOf 13 = .ok (.iaload, 1) := by decide +kernel
theorem dX2_aboveOf_14 : decode cX2_aboveOf 14 = .ok (.goto 4, 3) := by decide +kernel
theorem dX2_aboveOf_17 : decode cX2_aboveOf 17 = .ok (.iconst 0, 1) := by decide +kernel
theorem dX2_aboveOf_18 : decode cX2_aboveOf 18 = .ok (.ireturn, 1) := by decide +kernel
theorem dX2_belowOf_0 : decode cX2_belowOf 0 = .ok (.aload_n 0, 1) := by decide +kernel
theorem dX2_belowOf_1 : decode cX2_belowOf 1 = .ok (.iload_n 1, 1) := by decide +kernel
theorem dX2_belowOf_2 : decode cX2_belowOf 2 = .ok (.invokevirtual 67, 3) := by decide +kernel
theorem dX2_belowOf_5 : decode cX2_belowOf 5 = .ok (.ifCond .eq 12, 3) := by decide +kernel
theorem dX2_belowOf_8 : decode cX2_belowOf 8 = .ok (.aload_n 0, 1) := by decide +kernel
theorem dX2_belowOf_9 : decode cX2_belowOf 9 = .ok (.getfield 21, 3) := by decide +kernel
theorem dX2_belowOf_12 : decode cX2_belowOf 12 = .ok (.iload_n 1, 1) := by decide +kernel
theorem dX2_belowOf_13 : decode cX2_belowOf 13 = .ok (.iaload, 1) := by decide +kernel
theorem dX2_belowOf_14 : decode cX2_belowOf 14 = .ok (.goto 4, 3) := by decide +kernel
theorem dX2_belowOf_17 : decode cX2_belowOf 17 = .ok (.iconst 1, 1) := by decide +kernel
theorem dX2_belowOf_18 : decode cX2_belowOf 18 = .ok (.ireturn, 1) := by decide +kernel
theorem dX2_seenOf_0 : decode cX2_seenOf 0 = .ok (.aload_n 0, 1) := by decide +kernel
theorem dX2_seenOf_1 : decode cX2_seenOf 1 = .ok (.iload_n 1, 1) := by decide +kernel
theorem dX2_seenOf_2 : decode cX2_seenOf 2 = .ok (.invokevirtual 67, 3) := by decide +kernel
theorem dX2_seenOf_5 : decode cX2_seenOf 5 = .ok (.ifCond .eq 12, 3) := by decide +kernel
theorem dX2_seenOf_8 : decode cX2_seenOf 8 = .ok (.aload_n 0, 1) := by decide +kernel
theorem dX2_seenOf_9 : decode cX2_seenOf 9 = .ok (.getfield 24, 3) := by decide +kernel
theorem dX2_seenOf_12 : decode cX2_seenOf 12 = .ok (.iload_n 1, 1) := by decide +kernel
theorem dX2_seenOf_13 : decode cX2_seenOf 13 = .ok (.iaload, 1) := by decide +kernel
theorem dX2_seenOf_14 : decode cX2_seenOf 14 = .ok (.goto 4, 3) := by decide +kernel
theorem dX2_seenOf_17 : decode cX2_seenOf 17 = .ok (.iconst 0, 1) := by decide +kernel
theorem dX2_seenOf_18 : decode cX2_seenOf 18 = .ok (.ireturn, 1) := by decide +kernel
theorem dX2_upParts_0 : decode cX2_upParts 0 = .ok (.aload_n 0, 1) := by decide +kernel
theorem dX2_upParts_1 : decode cX2_upParts 1 = .ok (.iload_n 1, 1) := by decide +kernel
theorem dX2_upParts_2 : decode cX2_upParts 2 = .ok (.invokevirtual 71, 3) := by decide +kernel
theorem dX2_upParts_5 : decode cX2_upParts 5 = .ok (.istore_n 2, 1) := by decide +kernel
theorem dX2_upParts_6 : decode cX2_upParts 6 = .ok (.iload_n 2, 1) := by decide +kernel
theorem dX2_upParts_7 : decode cX2_upParts 7 = .ok (.ifCond .ne 9, 3) := by decide +kernel
theorem dX2_upParts_10 : decode cX2_upParts 10 = .ok (.aload_n 0, 1) := by decide +kernel
theorem dX2_upParts_11 : decode cX2_upParts 11 = .ok (.iload_n 1, 1) := by decide +kernel
theorem dX2_upParts_12 : decode cX2_upParts 12 = .ok (.invokevirtual 75, 3) := by decide +kernel
theorem dX2_upParts_15 : decode cX2_upParts 15 = .ok (.ireturn, 1) := by decide +kernel
theorem dX2_upParts_16 : decode cX2_upParts 16 = .ok (.iload_n 2, 1) := by decide +kernel
theorem dX2_upParts_17 : decode cX2_upParts 17 = .ok (.iconst 1, 1) := by decide +kernel
theorem dX2_upParts_18 : decode cX2_upParts 18 = .ok (.if_icmp .ne 7, 3) := by decide +kernel
theorem dX2_upParts_21 : decode cX2_upParts 21 = .ok (.iconst 1, 1) := by decide +kernel
theorem dX2_upParts_22 : decode cX2_upParts 22 = .ok (.goto 4, 3) := by decide +kernel
theorem dX2_upParts_25 : decode cX2_upParts 25 = .ok (.iconst 0, 1) := by decide +kernel
theorem dX2_upParts_26 : decode cX2_upParts 26 = .ok (.ireturn, 1) := by decide +kernel
theorem dX2_wholeParts_0 : decode cX2_wholeParts 0 = .ok (.aload_n 0, 1) := by decide +kernel
theorem dX2_wholeParts_1 : decode cX2_wholeParts 1 = .ok (.iload_n 1, 1) := by decide +kernel
theorem dX2_wholeParts_2 : decode cX2_wholeParts 2 = .ok (.invokevirtual 71, 3) := by decide +kernel
theorem dX2_wholeParts_5 : decode cX2_wholeParts 5 = .ok (.ifCond .ne 11, 3) := by decide +kernel
theorem dX2_wholeParts_8 : decode cX2_wholeParts 8 = .ok (.aload_n 0, 1) := by decide +kernel
theorem dX2_wholeParts_9 : decode cX2_wholeParts 9 = .ok (.iload_n 1, 1) := by decide +kernel
theorem dX2_wholeParts_10 : decode cX2_wholeParts 10 = .ok (.invokevirtual 78, 3) := by decide +kernel
theorem dX2_wholeParts_13 : decode cX2_wholeParts 13 = .ok (.goto 4, 3) := by decide +kernel
theorem dX2_wholeParts_16 : decode cX2_wholeParts 16 = .ok (.iconst 1, 1) := by decide +kernel
theorem dX2_wholeParts_17 : decode cX2_wholeParts 17 = .ok (.ireturn, 1) := by decide +kernel
theorem dX2_linksSeen_0 : decode cX2_linksSeen 0 = .ok (.iconst 0, 1) := by decide +kernel
theorem dX2_linksSeen_1 : decode cX2_linksSeen 1 = .ok (.istore_n 2, 1) := by decide +kernel
theorem dX2_linksSeen_2 : decode cX2_linksSeen 2 = .ok (.iconst 0, 1) := by decide +kernel
theorem dX2_linksSeen_3 : decode cX2_linksSeen 3 = .ok (.istore_n 3, 1) := by decide +kernel
theorem dX2_linksSeen_4 : decode cX2_linksSeen 4 = .ok (.iload_n 3, 1) := by decide +kernel
theorem dX2_linksSeen_5 : decode cX2_linksSeen 5 = .ok (.aload_n 0, 1) := by decide +kernel
theorem dX2_linksSeen_6 : decode cX2_linksSeen 6 = .ok (.getfield 35, 3) := by decide +kernel
theorem dX2_linksSeen_9 : decode cX2_linksSeen 9 = .ok (.if_icmp .ge 24, 3) := by decide +kernel
theorem dX2_linksSeen_12 : decode cX2_linksSeen 12 = .ok (.aload_n 0, 1) := by decide +kernel
theorem dX2_linksSeen_13 : decode cX2_linksSeen 13 = .ok (.iload_n 3, 1) := by decide +kernel
theorem dX2_linksSeen_14 : decode cX2_linksSeen 14 = .ok (.invokevirtual 71, 3) := by decide +kernel
theorem dX2_linksSeen_17 : decode cX2_linksSeen 17 = .ok (.iload_n 1, 1) := by decide +kernel
theorem dX2_linksSeen_18 : decode cX2_linksSeen 18 = .ok (.if_icmp .ne 9, 3) := by decide +kernel
theorem dX2_linksSeen_21 : decode cX2_linksSeen 21 = .ok (.iload_n 2, 1) := by decide +kernel
theorem dX2_linksSeen_22 : decode cX2_linksSeen 22 = .ok (.iconst 1, 1) := by decide +kernel
theorem dX2_linksSeen_23 : decode cX2_linksSeen 23 = .ok (.iload_n 3, 1) := by decide +kernel
theorem dX2_linksSeen_24 : decode cX2_linksSeen 24 = .ok (.ishl, 1) := by decide +kernel
theorem dX2_linksSeen_25 : decode cX2_linksSeen 25 = .ok (.ior, 1) := by decide +kernel
theorem dX2_linksSeen_26 : decode cX2_linksSeen 26 = .ok (.istore_n 2, 1) := by decide +kernel
theorem dX2_linksSeen_27 : decode cX2_linksSeen 27 = .ok (.iinc 3 1, 3) := by decide +kernel
theorem dX2_linksSeen_30 : decode cX2_linksSeen 30 = .ok (.goto (-26), 3) := by decide +kernel
theorem dX2_linksSeen_33 : decode cX2_linksSeen 33 = .ok (.iload_n 2, 1) := by decide +kernel
theorem dX2_linksSeen_34 : decode cX2_linksSeen 34 = .ok (.ireturn, 1) := by decide +kernel
theorem dX2_joinedWith_0 : decode cX2_joinedWith 0 = .ok (.iload_n 1, 1) := by decide +kernel
theorem dX2_joinedWith_1 : decode cX2_joinedWith 1 = .ok (.ifCond .lt 10, 3) := by decide +kernel
theorem dX2_joinedWith_4 : decode cX2_joinedWith 4 = .ok (.iload_n 1, 1) := by decide +kernel
theorem dX2_joinedWith_5 : decode cX2_joinedWith 5 = .ok (.sipush 1024, 3) := by decide +kernel
theorem dX2_joinedWith_8 : decode cX2_joinedWith 8 = .ok (.if_icmp .lt 5, 3) := by decide +kernel
theorem dX2_joinedWith_11 : decode cX2_joinedWith 11 = .ok (.iconst 0, 1) := by decide +kernel
theorem dX2_joinedWith_12 : decode cX2_joinedWith 12 = .ok (.ireturn, 1) := by decide +kernel
theorem dX2_joinedWith_13 : decode cX2_joinedWith 13 = .ok (.aload_n 0, 1) := by decide +kernel
theorem dX2_joinedWith_14 : decode cX2_joinedWith 14 = .ok (.getfield 27, 3) := by decide +kernel
theorem dX2_joinedWith_17 : decode cX2_joinedWith 17 = .ok (.iload_n 1, 1) := by decide +kernel
theorem dX2_joinedWith_18 : decode cX2_joinedWith 18 = .ok (.laload, 1) := by decide +kernel
theorem dX2_joinedWith_19 : decode cX2_joinedWith 19 = .ok (.iload_n 2, 1) := by decide +kernel
theorem dX2_joinedWith_20 : decode cX2_joinedWith 20 = .ok (.invokestatic 81, 3) := by decide +kernel
theorem dX2_joinedWith_23 : decode cX2_joinedWith 23 = .ok (.ireturn, 1) := by decide +kernel
theorem dX2_reaches_0 : decode cX2_reaches 0 = .ok (.aload_n 0, 1) := by decide +kernel
theorem dX2_reaches_1 : decode cX2_reaches 1 = .ok (.invokevirtual 85, 3) := by decide +kernel
theorem dX2_reaches_4 : decode cX2_reaches 4 = .ok (.aload_n 0, 1) := by decide +kernel
theorem dX2_reaches_5 : decode cX2_reaches 5 = .ok (.iload_n 1, 1) := by decide +kernel
theorem dX2_reaches_6 : decode cX2_reaches 6 = .ok (.aload_n 0, 1) := by decide +kernel
theorem dX2_reaches_7 : decode cX2_reaches 7 = .ok (.getfield 38, 3) := by decide +kernel
theorem dX2_reaches_10 : decode cX2_reaches 10 = .ok (.invokevirtual 89, 3) := by decide +kernel
theorem dX2_reaches_13 : decode cX2_reaches 13 = .ok (.iconst (-1), 1) := by decide +kernel
theorem dX2_reaches_14 : decode cX2_reaches 14 = .ok (.ixor, 1) := by decide +kernel
theorem dX2_reaches_15 : decode cX2_reaches 15 = .ok (.iand, 1) := by decide +kernel
theorem dX2_reaches_16 : decode cX2_reaches 16 = .ok (.ifCond .ne 7, 3) := by decide +kernel
theorem dX2_reaches_19 : decode cX2_reaches 19 = .ok (.iconst 1, 1) := by decide +kernel
theorem dX2_reaches_20 : decode cX2_reaches 20 = .ok (.goto 4, 3) := by decide +kernel
theorem dX2_reaches_23 : decode cX2_reaches 23 = .ok (.iconst 0, 1) := by decide +kernel
theorem dX2_reaches_24 : decode cX2_reaches 24 = .ok (.ireturn, 1) := by decide +kernel
theorem dX2_stationsIn_0 : decode cX2_stationsIn 0 = .ok (.lload_n 0, 1) := by decide +kernel
theorem dX2_stationsIn_1 : decode cX2_stationsIn 1 = .ok (.bipush 7, 2) := by decide +kernel
theorem dX2_stationsIn_3 : decode cX2_stationsIn 3 = .ok (.iload_n 2, 1) := by decide +kernel
theorem dX2_stationsIn_4 : decode cX2_stationsIn 4 = .ok (.imul, 1) := by decide +kernel
theorem dX2_stationsIn_5 : decode cX2_stationsIn 5 = .ok (.lushr, 1) := by decide +kernel
theorem dX2_stationsIn_6 : decode cX2_stationsIn 6 = .ok (.l2i, 1) := by decide +kernel
theorem dX2_stationsIn_7 : decode cX2_stationsIn 7 = .ok (.bipush 127, 2) := by decide +kernel
theorem dX2_stationsIn_9 : decode cX2_stationsIn 9 = .ok (.iand, 1) := by decide +kernel
theorem dX2_stationsIn_10 : decode cX2_stationsIn 10 = .ok (.ireturn, 1) := by decide +kernel
theorem dX2_addSetsWith_0 : decode cX2_addSetsWith 0 = .ok (.iconst 1, 1) := by decide +kernel
theorem dX2_addSetsWith_1 : decode cX2_addSetsWith 1 = .ok (.iload_n 1, 1) := by decide +kernel
theorem dX2_addSetsWith_2 : decode cX2_addSetsWith 2 = .ok (.ishl, 1) := by decide +kernel
theorem dX2_addSetsWith_3 : decode cX2_addSetsWith 3 = .ok (.istore_n 2, 1) := by decide +kernel
theorem dX2_addSetsWith_4 : decode cX2_addSetsWith 4 = .ok (.iconst 0, 1) := by decide +kernel
theorem dX2_addSetsWith_5 : decode cX2_addSetsWith 5 = .ok (.istore_n 3, 1) := by decide +kernel
theorem dX2_addSetsWith_6 : decode cX2_addSetsWith 6 = .ok (.iload_n 3, 1) := by decide +kernel
theorem dX2_addSetsWith_7 : decode cX2_addSetsWith 7 = .ok (.iload_n 2, 1) := by decide +kernel
theorem dX2_addSetsWith_8 : decode cX2_addSetsWith 8 = .ok (.if_icmp .ge 45, 3) := by decide +kernel
theorem dX2_addSetsWith_11 : decode cX2_addSetsWith 11 = .ok (.iload_n 2, 1) := by decide +kernel
theorem dX2_addSetsWith_12 : decode cX2_addSetsWith 12 = .ok (.iload_n 3, 1) := by decide +kernel
theorem dX2_addSetsWith_13 : decode cX2_addSetsWith 13 = .ok (.iadd, 1) := by decide +kernel
theorem dX2_addSetsWith_14 : decode cX2_addSetsWith 14 = .ok (.sipush 1024, 3) := by decide +kernel
theorem dX2_addSetsWith_17 : decode cX2_addSetsWith 17 = .ok (.if_icmp .ge 36, 3) := by decide +kernel
theorem dX2_addSetsWith_20 : decode cX2_addSetsWith 20 = .ok (.aload_n 0, 1) := by decide +kernel
theorem dX2_addSetsWith_21 : decode cX2_addSetsWith 21 = .ok (.getfield 27, 3) := by decide +kernel
theorem dX2_addSetsWith_24 : decode cX2_addSetsWith 24 = .ok (.iload_n 2, 1) := by decide +kernel
theorem dX2_addSetsWith_25 : decode cX2_addSetsWith 25 = .ok (.iload_n 3, 1) := by decide +kernel
theorem dX2_addSetsWith_26 : decode cX2_addSetsWith 26 = .ok (.iadd, 1) := by decide +kernel
theorem dX2_addSetsWith_27 : decode cX2_addSetsWith 27 = .ok (.aload_n 0, 1) := by decide +kernel
theorem dX2_addSetsWith_28 : decode cX2_addSetsWith 28 = .ok (.getfield 27, 3) := by decide +kernel
theorem dX2_addSetsWith_31 : decode cX2_addSetsWith 31 = .ok (.iload_n 3, 1) := by decide +kernel
theorem dX2_addSetsWith_32 : decode cX2_addSetsWith 32 = .ok (.laload, 1) := by decide +kernel
theorem dX2_addSetsWith_33 : decode cX2_addSetsWith 33 = .ok (.aload_n 0, 1) := by decide +kernel
theorem dX2_addSetsWith_34 : decode cX2_addSetsWith 34 = .ok (.iload_n 1, 1) := by decide +kernel
theorem dX2_addSetsWith_35 : decode cX2_addSetsWith 35 = .ok (.invokevirtual 92, 3) := by decide +kernel
theorem dX2_addSetsWith_38 : decode cX2_addSetsWith 38 = .ok (.aload_n 0, 1) := by decide +kernel
theorem dX2_addSetsWith_39 : decode cX2_addSetsWith 39 = .ok (.iload_n 1, 1) := by decide +kernel
theorem dX2_addSetsWith_40 : decode cX2_addSetsWith 40 = .ok (.invokevirtual 95, 3) := by decide +kernel
theorem dX2_addSetsWith_43 : decode cX2_addSetsWith 43 = .ok (.invokestatic 98, 3) := by decide +kernel
theorem dX2_addSetsWith_46 : decode cX2_addSetsWith 46 = .ok (.lastore, 1) := by decide +kernel
theorem dX2_addSetsWith_47 : decode cX2_addSetsWith 47 = .ok (.iinc 3 1, 3) := by decide +kernel
theorem dX2_addSetsWith_50 : decode cX2_addSetsWith 50 = .ok (.goto (-44), 3) := by decide +kernel
theorem dX2_addSetsWith_53 : decode cX2_addSetsWith 53 = .ok (.return_, 1) := by decide +kernel
theorem dX2_joinedOver_0 : decode cX2_joinedOver 0 = .ok (.lload_n 0, 1) := by decide +kernel
theorem dX2_joinedOver_1 : decode cX2_joinedOver 1 = .ok (.iload_n 2, 1) := by decide +kernel
theorem dX2_joinedOver_2 : decode cX2_joinedOver 2 = .ok (.invokestatic 81, 3) := by decide +kernel
theorem dX2_joinedOver_5 : decode cX2_joinedOver 5 = .ok (.lload_n 0, 1) := by decide +kernel
theorem dX2_joinedOver_6 : decode cX2_joinedOver 6 = .ok (.iload_n 3, 1) := by decide +kernel
theorem dX2_joinedOver_7 : decode cX2_joinedOver 7 = .ok (.invokestatic 81, 3) := by decide +kernel
theorem dX2_joinedOver_10 : decode cX2_joinedOver 10 = .ok (.ior, 1) := by decide +kernel
theorem dX2_joinedOver_11 : decode cX2_joinedOver 11 = .ok (.istore 4, 2) := by decide +kernel
theorem dX2_joinedOver_13 : decode cX2_joinedOver 13 = .ok (.iconst 0, 1) := by decide +kernel
theorem dX2_joinedOver_14 : decode cX2_joinedOver 14 = .ok (.istore 5, 2) := by decide +kernel
theorem dX2_joinedOver_16 : decode cX2_joinedOver 16 = .ok (.iload 5, 2) := by decide +kernel
theorem dX2_joinedOver_18 : decode cX2_joinedOver 18 = .ok (.bipush 7, 2) := by decide +kernel
theorem dX2_joinedOver_20 : decode cX2_joinedOver 20 = .ok (.if_icmp .ge 31, 3) := by decide +kernel
theorem dX2_joinedOver_23 : decode cX2_joinedOver 23 = .ok (.iload 4, 2) := by decide +kernel
theorem dX2_joinedOver_25 : decode cX2_joinedOver 25 = .ok (.iload 5, 2) := by decide +kernel
theorem dX2_joinedOver_27 : decode cX2_joinedOver 27 = .ok (.iushr, 1) := by decide +kernel
theorem dX2_joinedOver_28 : decode cX2_joinedOver 28 = .ok (.iconst 1, 1) := by decide +kernel
theorem dX2_joinedOver_29 : decode cX2_joinedOver 29 = .ok (.iand, 1) := by decide +kernel
theorem dX2_joinedOver_30 : decode cX2_joinedOver 30 = .ok (.ifCond .eq 15, 3) := by decide +kernel
theorem dX2_joinedOver_33 : decode cX2_joinedOver 33 = .ok (.lload_n 0, 1) := by decide +kernel
theorem dX2_joinedOver_34 : decode cX2_joinedOver 34 = .ok (.iload 4, 2) := by decide +kernel
theorem dX2_joinedOver_36 : decode cX2_joinedOver 36 = .ok (.i2l, 1) := by decide +kernel
theorem dX2_joinedOver_37 : decode cX2_joinedOver 37 = .ok (.bipush 7, 2) := by decide +kernel
theorem dX2_joinedOver_39 : decode cX2_joinedOver 39 = .ok (.iload 5, 2) := by decide +kernel
theorem dX2_joinedOver_41 : decode cX2_joinedOver 41 = .ok (.imul, 1) := by decide +kernel
theorem dX2_joinedOver_42 : decode cX2_joinedOver 42 = .ok (.lshl, 1) := by decide +kernel
theorem dX2_joinedOver_43 : decode cX2_joinedOver 43 = .ok (.lor, 1) := by decide +kernel
theorem dX2_joinedOver_44 : decode cX2_joinedOver 44 = .ok (.lstore_n 0, 1) := by decide +kernel
theorem dX2_joinedOver_45 : decode cX2_joinedOver 45 = .ok (.iinc 5 1, 3) := by decide +kernel
theorem dX2_joinedOver_48 : decode cX2_joinedOver 48 = .ok (.goto (-32), 3) := by decide +kernel
theorem dX2_joinedOver_51 : decode cX2_joinedOver 51 = .ok (.lload_n 0, 1) := by decide +kernel
theorem dX2_joinedOver_52 : decode cX2_joinedOver 52 = .ok (.lreturn, 1) := by decide +kernel
theorem dX3_init_0 : decode cX3_init 0 = .ok (.aload_n 0, 1) := by decide +kernel
theorem dX3_init_1 : decode cX3_init 1 = .ok (.invokespecial 3, 3) := by decide +kernel
theorem dX3_init_4 : decode cX3_init 4 = .ok (.aload_n 0, 1) := by decide +kernel
theorem dX3_init_5 : decode cX3_init 5 = .ok (.sipush 1024, 3) := by decide +kernel
theorem dX3_init_8 : decode cX3_init 8 = .ok (.newarray .long, 2) := by decide +kernel
theorem dX3_init_10 : decode cX3_init 10 = .ok (.putfield 9, 3) := by decide +kernel
theorem dX3_init_13 : decode cX3_init 13 = .ok (.aload_n 0, 1) := by decide +kernel
theorem dX3_init_14 : decode cX3_init 14 = .ok (.aload_n 1, 1) := by decide +kernel
theorem dX3_init_15 : decode cX3_init 15 = .ok (.putfield 15, 3) := by decide +kernel
theorem dX3_init_18 : decode cX3_init 18 = .ok (.aload_n 0, 1) := by decide +kernel
theorem dX3_init_19 : decode cX3_init 19 = .ok (.lconst 1, 1) := by decide +kernel
theorem dX3_init_20 : decode cX3_init 20 = .ok (.putfield 19, 3) := by decide +kernel
theorem dX3_init_23 : decode cX3_init 23 = .ok (.return_, 1) := by decide +kernel
theorem dX3_fill_0 : decode cX3_fill 0 = .ok (.aload_n 0, 1) := by decide +kernel
theorem dX3_fill_1 : decode cX3_fill 1 = .ok (.iconst (-1), 1) := by decide +kernel
theorem dX3_fill_2 : decode cX3_fill 2 = .ok (.iconst 0, 1) := by decide +kernel
theorem dX3_fill_3 : decode cX3_fill 3 = .ok (.iconst 1, 1) := by decide +kernel
theorem dX3_fill_4 : decode cX3_fill 4 = .ok (.invokevirtual 23, 3) := by decide +kernel
theorem dX3_fill_7 : decode cX3_fill 7 = .ok (.return_, 1) := by decide +kernel
theorem dX3_fillWith_0 : decode cX3_fillWith 0 = .ok (.aload_n 0, 1) := by decide +kernel
theorem dX3_fillWith_1 : decode cX3_fillWith 1 = .ok (.getfield 9, 3) := by decide +kernel
theorem dX3_fillWith_4 : decode cX3_fillWith 4 = .ok (.iconst 0, 1) := by decide +kernel
theorem dX3_fillWith_5 : decode cX3_fillWith 5 = .ok (.lconst 1, 1) := by decide +kernel
theorem dX3_fillWith_6 : decode cX3_fillWith 6 = .ok (.lastore, 1) := by decide +kernel
theorem dX3_fillWith_7 : decode cX3_fillWith 7 = .ok (.aload_n 0, 1) := by decide +kernel
theorem dX3_fillWith_8 : decode cX3_fillWith 8 = .ok (.lconst 1, 1) := by decide +kernel
theorem dX3_fillWith_9 : decode cX3_fillWith 9 = .ok (.putfield 19, 3) := by decide +kernel
theorem dX3_fillWith_12 : decode cX3_fillWith 12 = .ok (.iconst 0, 1) := by decide +kernel
theorem dX3_fillWith_13 : decode cX3_fillWith 13 = .ok (.istore 4, 2) := by decide +kernel
theorem dX3_fillWith_15 : decode cX3_fillWith 15 = .ok (.iload 4, 2) := by decide +kernel
theorem dX3_fillWith_17 : decode cX3_fillWith 17 = .ok (.aload_n 0, 1) := by decide +kernel
theorem dX3_fillWith_18 : decode cX3_fillWith 18 = .ok (.getfield 15, 3) := by decide +kernel
theorem dX3_fillWith_21 : decode cX3_fillWith 21 = .ok (.invokevirtual 27, 3) := by decide +kernel
theorem dX3_fillWith_24 : decode cX3_fillWith 24 = .ok (.if_icmp .ge 50, 3) := by decide +kernel
theorem dX3_fillWith_27 : decode cX3_fillWith 27 = .ok (.iload 4, 2) := by decide +kernel
theorem dX3_fillWith_29 : decode cX3_fillWith 29 = .ok (.iload_n 1, 1) := by decide +kernel
theorem dX3_fillWith_30 : decode cX3_fillWith 30 = .ok (.if_icmp .ne 14, 3) := by decide +kernel
theorem dX3_fillWith_33 : decode cX3_fillWith 33 = .ok (.aload_n 0, 1) := by decide +kernel
theorem dX3_fillWith_34 : decode cX3_fillWith 34 = .ok (.iload 4, 2) := by decide +kernel
theorem dX3_fillWith_36 : decode cX3_fillWith 36 = .ok (.iload_n 2, 1) := by decide +kernel
theorem dX3_fillWith_37 : decode cX3_fillWith 37 = .ok (.iload_n 3, 1) := by decide +kernel
theorem dX3_fillWith_38 : decode cX3_fillWith 38 = .ok (.invokevirtual 33, 3) := by decide +kernel
theorem dX3_fillWith_41 : decode cX3_fillWith 41 = .ok (.goto 27, 3) := by decide +kernel
theorem dX3_fillWith_44 : decode cX3_fillWith 44 = .ok (.aload_n 0, 1) := by decide +kernel
theorem dX3_fillWith_45 : decode cX3_fillWith 45 = .ok (.iload 4, 2) := by decide +kernel
theorem dX3_fillWith_47 : decode cX3_fillWith 47 = .ok (.aload_n 0, 1) := by decide +kernel
theorem dX3_fillWith_48 : decode cX3_fillWith 48 = .ok (.getfield 15, 3) := by decide +kernel
theorem dX3_fillWith_51 : decode cX3_fillWith 51 = .ok (.iload 4, 2) := by decide +kernel
theorem dX3_fillWith_53 : decode cX3_fillWith 53 = .ok (.invokevirtual 36, 3) := by decide +kernel
theorem dX3_fillWith_56 : decode cX3_fillWith 56 = .ok (.aload_n 0, 1) := by decide +kernel
theorem dX3_fillWith_57 : decode cX3_fillWith 57 = .ok (.getfield 15, 3) := by decide +kernel
theorem dX3_fillWith_60 : decode cX3_fillWith 60 = .ok (.iload 4, 2) := by decide +kernel
theorem dX3_fillWith_62 : decode cX3_fillWith 62 = .ok (.invokevirtual 40, 3) := by decide +kernel
theorem dX3_fillWith_65 : decode cX3_fillWith 65 = .ok (.invokevirtual 33, 3) := by decide +kernel
theorem dX3_fillWith_68 : decode cX3_fillWith 68 = .ok (.iinc 4 1, 3) := by decide +kernel
theorem dX3_fillWith_71 : decode cX3_fillWith 71 = .ok (.goto (-56), 3) := by decide +kernel
theorem dX3_fillWith_74 : decode cX3_fillWith 74 = .ok (.return_, 1) := by decide +kernel
theorem dX3_told_0 : decode cX3_told 0 = .ok (.lload_n 1, 1) := by decide +kernel
theorem dX3_told_1 : decode cX3_told 1 = .ok (.aload_n 0, 1) := by decide +kernel
theorem dX3_told_2 : decode cX3_told 2 = .ok (.getfield 19, 3) := by decide +kernel
theorem dX3_told_5 : decode cX3_told 5 = .ok (.iload_n 3, 1) := by decide +kernel
theorem dX3_told_6 : decode cX3_told 6 = .ok (.invokestatic 43, 3) := by decide +kernel
theorem dX3_told_9 : decode cX3_told 9 = .ok (.lreturn, 1) := by decide +kernel
theorem dX3_reachParts_0 : decode cX3_reachParts 0 = .ok (.lconst 0, 1) := by decide +kernel
theorem dX3_reachParts_1 : decode cX3_reachParts 1 = .ok (.lstore_n 1, 1) := by decide +kernel
theorem dX3_reachParts_2 : decode cX3_reachParts 2 = .ok (.iconst 0, 1) := by decide +kernel
theorem dX3_reachParts_3 : decode cX3_reachParts 3 = .ok (.istore_n 3, 1) := by decide +kernel
theorem dX3_reachParts_4 : decode cX3_reachParts 4 = .ok (.iload_n 3, 1) := by decide +kernel
theorem dX3_reachParts_5 : decode cX3_reachParts 5 = .ok (.aload_n 0, 1) := by decide +kernel
theorem dX3_reachParts_6 : decode cX3_reachParts 6 = .ok (.getfield 15, 3) := by decide +kernel
theorem dX3_reachParts_9 : decode cX3_reachParts 9 = .ok (.invokevirtual 49, 3) := by decide +kernel
theorem dX3_reachParts_12 : decode cX3_reachParts 12 = .ok (.if_icmp .gt 36, 3) := by decide +kernel
theorem dX3_reachParts_15 : decode cX3_reachParts 15 = .ok (.iload_n 3, 1) := by decide +kernel
theorem dX3_reachParts_16 : decode cX3_reachParts 16 = .ok (.sipush 1024, 3) := by decide +kernel
theorem dX3_reachParts_19 : decode cX3_reachParts 19 = .ok (.if_icmp .ge 29, 3) := by decide +kernel
theorem dX3_reachParts_22 : decode cX3_reachParts 22 = .ok (.aload_n 0, 1) := by decide +kernel
theorem dX3_reachParts_23 : decode cX3_reachParts 23 = .ok (.getfield 15, 3) := by decide +kernel
theorem dX3_reachParts_26 : decode cX3_reachParts 26 = .ok (.iload_n 3, 1) := by decide +kernel
theorem dX3_reachParts_27 : decode cX3_reachParts 27 = .ok (.invokevirtual 52, 3) := by decide +kernel
theorem dX3_reachParts_30 : decode cX3_reachParts 30 = .ok (.ifCond .eq 12, 3) := by decide +kernel
theorem dX3_reachParts_33 : decode cX3_reachParts 33 = .ok (.lload_n 1, 1) := by decide +kernel
theorem dX3_reachParts_34 : decode cX3_reachParts 34 = .ok (.aload_n 0, 1) := by decide +kernel
theorem dX3_reachParts_35 : decode cX3_reachParts 35 = .ok (.getfield 9, 3) := by decide +kernel
theorem dX3_reachParts_38 : decode cX3_reachParts 38 = .ok (.iload_n 3, 1) := by decide +kernel
theorem dX3_reachParts_39 : decode cX3_reachParts 39 = .ok (.laload, 1) := by decide +kernel
theorem dX3_reachParts_40 : decode cX3_reachParts 40 = .ok (.ladd, 1) := by decide +kernel
theorem dX3_reachParts_41 : decode cX3_reachParts 41 = .ok (.lstore_n 1, 1) := by decide +kernel
theorem dX3_reachParts_42 : decode cX3_reachParts 42 = .ok (.iinc 3 1, 3) := by decide +kernel
theorem dX3_reachParts_45 : decode cX3_reachParts 45 = .ok (.goto (-41), 3) := by decide +kernel
theorem dX3_reachParts_48 : decode cX3_reachParts 48 = .ok (.lload_n 1, 1) := by decide +kernel
theorem dX3_reachParts_49 : decode cX3_reachParts 49 = .ok (.lreturn, 1) := by decide +kernel
theorem dX3_pairParts_0 : decode cX3_pairParts 0 = .ok (.lconst 0, 1) := by decide +kernel
theorem dX3_pairParts_1 : decode cX3_pairParts 1 = .ok (.lstore_n 3, 1) := by decide +kernel
theorem dX3_pairParts_2 : decode cX3_pairParts 2 = .ok (.iconst 0, 1) := by decide +kernel
theorem dX3_pairParts_3 : decode cX3_pairParts 3 = .ok (.istore 5, 2) := by decide +kernel
theorem dX3_pairParts_5 : decode cX3_pairParts 5 = .ok (.iload 5, 2) := by decide +kernel
theorem dX3_pairParts_7 : decode cX3_pairParts 7 = .ok (.aload_n 0, 1) := by decide +kernel
theorem dX3_pairParts_8 : decode cX3_pairParts 8 = .ok (.getfield 15, 3) := by decide +kernel
theorem dX3_pairParts_11 : decode cX3_pairParts 11 = .ok (.invokevirtual 49, 3) := by decide +kernel
theorem dX3_pairParts_14 : decode cX3_pairParts 14 = .ok (.if_icmp .gt 44, 3) := by decide +kernel
theorem dX3_pairParts_17 : decode cX3_pairParts 17 = .ok (.iload 5, 2) := by decide +kernel
theorem dX3_pairParts_19 : decode cX3_pairParts 19 = .ok (.sipush 1024, 3) := by decide +kernel
theorem dX3_pairParts_22 : decode cX3_pairParts 22 = .ok (.if_icmp .ge 36, 3) := by decide +kernel
theorem dX3_pairParts_25 : decode cX3_pairParts 25 = .ok (.aload_n 0, 1) := by decide +kernel
theorem dX3_pairParts_26 : decode cX3_pairParts 26 = .ok (.getfield 15, 3) := by decide +kernel
theorem dX3_pairParts_29 : decode cX3_pairParts 29 = .ok (.iload 5, 2) := by decide +kernel
theorem dX3_pairParts_31 : decode cX3_pairParts 31 = .ok (.iload_n 1, 1) := by decide +kernel
theorem dX3_pairParts_32 : decode cX3_pairParts 32 = .ok (.invokevirtual 56, 3) := by decide +kernel
theorem dX3_pairParts_35 : decode cX3_pairParts 35 = .ok (.iload_n 2, 1) := by decide +kernel
theorem dX3_pairParts_36 : decode cX3_pairParts 36 = .ok (.iushr, 1) := by decide +kernel
theorem dX3_pairParts_37 : decode cX3_pairParts 37 = .ok (.iconst 1, 1) := by decide +kernel
theorem dX3_pairParts_38 : decode cX3_pairParts 38 = .ok (.iand, 1) := by decide +kernel
theorem dX3_pairParts_39 : decode cX3_pairParts 39 = .ok (.ifCond .eq 13, 3) := by decide +kernel
theorem dX3_pairParts_42 : decode cX3_pairParts 42 = .ok (.lload_n 3, 1) := by decide +kernel
theorem dX3_pairParts_43 : decode cX3_pairParts 43 = .ok (.aload_n 0, 1) := by decide +kernel
theorem dX3_pairParts_44 : decode cX3_pairParts 44 = .ok (.getfield 9, 3) := by decide +kernel
theorem dX3_pairParts_47 : decode cX3_pairParts 47 = .ok (.iload 5, 2) := by decide +kernel
theorem dX3_pairParts_49 : decode cX3_pairParts 49 = .ok (.laload, 1) := by decide +kernel
theorem dX3_pairParts_50 : decode cX3_pairParts 50 = .ok (.ladd, 1) := by decide +kernel
theorem dX3_pairParts_51 : decode cX3_pairParts 51 = .ok (.lstore_n 3, 1) := by decide +kernel
theorem dX3_pairParts_52 : decode cX3_pairParts 52 = .ok (.iinc 5 1, 3) := by decide +kernel
theorem dX3_pairParts_55 : decode cX3_pairParts 55 = .ok (.goto (-50), 3) := by decide +kernel
theorem dX3_pairParts_58 : decode cX3_pairParts 58 = .ok (.lload_n 3, 1) := by decide +kernel
theorem dX3_pairParts_59 : decode cX3_pairParts 59 = .ok (.lreturn, 1) := by decide +kernel
theorem dX3_ruleParts_0 : decode cX3_ruleParts 0 = .ok (.lconst 0, 1) := by decide +kernel
theorem dX3_ruleParts_1 : decode cX3_ruleParts 1 = .ok (.lstore_n 1, 1) := by decide +kernel
theorem dX3_ruleParts_2 : decode cX3_ruleParts 2 = .ok (.iconst 0, 1) := by decide +kernel
theorem dX3_ruleParts_3 : decode cX3_ruleParts 3 = .ok (.istore_n 3, 1) := by decide +kernel
theorem dX3_ruleParts_4 : decode cX3_ruleParts 4 = .ok (.iload_n 3, 1) := by decide +kernel
theorem dX3_ruleParts_5 : decode cX3_ruleParts 5 = .ok (.aload_n 0, 1) := by decide +kernel
theorem dX3_ruleParts_6 : decode cX3_ruleParts 6 = .ok (.getfield 15, 3) := by decide +kernel
theorem dX3_ruleParts_9 : decode cX3_ruleParts 9 = .ok (.invokevirtual 49, 3) := by decide +kernel
theorem dX3_ruleParts_12 : decode cX3_ruleParts 12 = .ok (.if_icmp .gt 45, 3) := by decide +kernel
theorem dX3_ruleParts_15 : decode cX3_ruleParts 15 = .ok (.iload_n 3, 1) := by decide +kernel
theorem dX3_ruleParts_16 : decode cX3_ruleParts 16 = .ok (.sipush 1024, 3) := by decide +kernel
theorem dX3_ruleParts_19 : decode cX3_ruleParts 19 = .ok (.if_icmp .ge 38, 3) := by decide +kernel
theorem dX3_ruleParts_22 : decode cX3_ruleParts 22 = .ok (.lload_n 1, 1) := by decide +kernel
theorem dX3_ruleParts_23 : decode cX3_ruleParts 23 = .ok (.aload_n 0, 1) := by decide +kernel
theorem dX3_ruleParts_24 : decode cX3_ruleParts 24 = .ok (.getfield 9, 3) := by decide +kernel
theorem dX3_ruleParts_27 : decode cX3_ruleParts 27 = .ok (.iload_n 3, 1) := by decide +kernel
theorem dX3_ruleParts_28 : decode cX3_ruleParts 28 = .ok (.laload, 1) := by decide +kernel
theorem dX3_ruleParts_29 : decode cX3_ruleParts 29 = .ok (.aload_n 0, 1) := by decide +kernel
theorem dX3_ruleParts_30 : decode cX3_ruleParts 30 = .ok (.getfield 15, 3) := by decide +kernel
theorem dX3_ruleParts_33 : decode cX3_ruleParts 33 = .ok (.iload_n 3, 1) := by decide +kernel
theorem dX3_ruleParts_34 : decode cX3_ruleParts 34 = .ok (.aload_n 0, 1) := by decide +kernel
theorem dX3_ruleParts_35 : decode cX3_ruleParts 35 = .ok (.getfield 15, 3) := by decide +kernel
theorem dX3_ruleParts_38 : decode cX3_ruleParts 38 = .ok (.invokevirtual 60, 3) := by decide +kernel
theorem dX3_ruleParts_41 : decode cX3_ruleParts 41 = .ok (.invokevirtual 56, 3) := by decide +kernel
theorem dX3_ruleParts_44 : decode cX3_ruleParts 44 = .ok (.invokestatic 63, 3) := by decide +kernel
theorem dX3_ruleParts_47 : decode cX3_ruleParts 47 = .ok (.i2l, 1) := by decide +kernel
theorem dX3_ruleParts_48 : decode cX3_ruleParts 48 = .ok (.lmul, 1) := by decide +kernel
theorem dX3_ruleParts_49 : decode cX3_ruleParts 49 = .ok (.ladd, 1) := by decide +kernel
theorem dX3_ruleParts_50 : decode cX3_ruleParts 50 = .ok (.lstore_n 1, 1) := by decide +kernel
theorem dX3_ruleParts_51 : decode cX3_ruleParts 51 = .ok (.iinc 3 1, 3) := by decide +kernel
theorem dX3_ruleParts_54 : decode cX3_ruleParts 54 = .ok (.goto (-50), 3) := by decide +kernel
theorem dX3_ruleParts_57 : decode cX3_ruleParts 57 = .ok (.lload_n 1, 1) := by decide +kernel
theorem dX3_ruleParts_58 : decode cX3_ruleParts 58 = .ok (.lreturn, 1) := by decide +kernel
theorem dX3_worthParts_0 : decode cX3_worthParts 0 = .ok (.aload_n 0, 1) := by decide +kernel
theorem dX3_worthParts_1 : decode cX3_worthParts 1 = .ok (.getfield 15, 3) := by decide +kernel
theorem dX3_worthParts_4 : decode cX3_worthParts 4 = .ok (.iload_n 1, 1) := by decide +kernel
theorem dX3_worthParts_5 : decode cX3_worthParts 5 = .ok (.invokevirtual 68, 3) := by decide +kernel
theorem dX3_worthParts_8 : decode cX3_worthParts 8 = .ok (.ifCond .ne 5, 3) := by decide +kernel
theorem dX3_worthParts_11 : decode cX3_worthParts 11 = .ok (.lconst 0, 1) := by decide +kernel
theorem dX3_worthParts_12 : decode cX3_worthParts 12 = .ok (.lreturn, 1) := by decide +kernel
theorem dX3_worthParts_13 : decode cX3_worthParts 13 = .ok (.iconst 1, 1) := by decide +kernel
theorem dX3_worthParts_14 : decode cX3_worthParts 14 = .ok (.iload_n 1, 1) := by decide +kernel
theorem dX3_worthParts_15 : decode cX3_worthParts 15 = .ok (.ishl, 1) := by decide +kernel
theorem dX3_worthParts_16 : decode cX3_worthParts 16 = .ok (.istore_n 2, 1) := by decide +kernel
theorem dX3_worthParts_17 : decode cX3_worthParts 17 = .ok (.lconst 0, 1) := by decide +kernel
theorem dX3_worthParts_18 : decode cX3_worthParts 18 = .ok (.lstore_n 3, 1) := by decide +kernel
theorem dX3_worthParts_19 : decode cX3_worthParts 19 = .ok (.iconst 0, 1) := by decide +kernel
theorem dX3_worthParts_20 : decode cX3_worthParts 20 = .ok (.istore 5, 2) := by decide +kernel
theorem dX3_worthParts_22 : decode cX3_worthParts 22 = .ok (.iload 5, 2) := by decide +kernel
theorem dX3_worthParts_24 : decode cX3_worthParts 24 = .ok (.aload_n 0, 1) := by decide +kernel
theorem dX3_worthParts_25 : decode cX3_worthParts 25 = .ok (.getfield 15, 3) := by decide +kernel
theorem dX3_worthParts_28 : decode cX3_worthParts 28 = .ok (.invokevirtual 49, 3) := by decide +kernel
theorem dX3_worthParts_31 : decode cX3_worthParts 31 = .ok (.if_icmp .gt 75, 3) := by decide +kernel
theorem dX3_worthParts_34 : decode cX3_worthParts 34 = .ok (.iload 5, 2) := by decide +kernel
theorem dX3_worthParts_36 : decode cX3_worthParts 36 = .ok (.iload_n 2, 1) := by decide +kernel
theorem dX3_worthParts_37 : decode cX3_worthParts 37 = .ok (.ior, 1) := by decide +kernel
theorem dX3_worthParts_38 : decode cX3_worthParts 38 = .ok (.sipush 1024, 3) := by decide +kernel
theorem dX3_worthParts_41 : decode cX3_worthParts 41 = .ok (.if_icmp .ge 65, 3) := by decide +kernel
theorem dX3_worthParts_44 : decode cX3_worthParts 44 = .ok (.iload 5, 2) := by decide +kernel
theorem dX3_worthParts_46 : decode cX3_worthParts 46 = .ok (.iload_n 2, 1) := by decide +kernel
theorem dX3_worthParts_47 : decode cX3_worthParts 47 = .ok (.iand, 1) := by decide +kernel
theorem dX3_worthParts_48 : decode cX3_worthParts 48 = .ok (.ifCond .ne 52, 3) := by decide +kernel
theorem dX3_worthParts_51 : decode cX3_worthParts 51 = .ok (.aload_n 0, 1) := by decide +kernel
theorem dX3_worthParts_52 : decode cX3_worthParts 52 = .ok (.getfield 15, 3) := by decide +kernel
theorem dX3_worthParts_55 : decode cX3_worthParts 55 = .ok (.iload 5, 2) := by decide +kernel
theorem dX3_worthParts_57 : decode cX3_worthParts 57 = .ok (.invokevirtual 52, 3) := by decide +kernel
theorem dX3_worthParts_60 : decode cX3_worthParts 60 = .ok (.ifCond .ne 40, 3) := by decide +kernel
theorem dX3_worthParts_63 : decode cX3_worthParts 63 = .ok (.aload_n 0, 1) := by decide +kernel
theorem dX3_worthParts_64 : decode cX3_worthParts 64 = .ok (.getfield 15, 3) := by decide +kernel
theorem dX3_worthParts_67 : decode cX3_worthParts 67 = .ok (.iload 5, 2) := by decide +kernel
theorem dX3_worthParts_69 : decode cX3_worthParts 69 = .ok (.iload_n 2, 1) := by decide +kernel
theorem dX3_worthParts_70 : decode cX3_worthParts 70 = .ok (.ior, 1) := by decide +kernel
theorem dX3_worthParts_71 : decode cX3_worthParts 71 = .ok (.invokevirtual 52, 3) := by decide +kernel
theorem dX3_worthParts_74 : decode cX3_worthParts 74 = .ok (.ifCond .ne 6, 3) := by decide +kernel
theorem dX3_worthParts_77 : decode cX3_worthParts 77 = .ok (.goto 23, 3) := by decide +kernel
theorem dX3_worthParts_80 : decode cX3_worthParts 80 = .ok (.lload_n 3, 1) := by decide +kernel
theorem dX3_worthParts_81 : decode cX3_worthParts 81 = .ok (.aload_n 0, 1) := by decide +kernel
theorem dX3_worthParts_82 : decode cX3_worthParts 82 = .ok (.getfield 9, 3) := by decide +kernel
theorem dX3_worthParts_85 : decode cX3_worthParts 85 = .ok (.iload 5, 2) := by decide +kernel
theorem dX3_worthParts_87 : decode cX3_worthParts 87 = .ok (.laload, 1) := by decide +kernel
theorem dX3_worthParts_88 : decode cX3_worthParts 88 = .ok (.aload_n 0, 1) := by decide +kernel
theorem dX3_worthParts_89 : decode cX3_worthParts 89 = .ok (.getfield 9, 3) := by decide +kernel
theorem dX3_worthParts_92 : decode cX3_worthParts 92 = .ok (.iload 5, 2) := by decide +kernel
theorem dX3_worthParts_94 : decode cX3_worthParts 94 = .ok (.iload_n 2, 1) := by decide +kernel
theorem dX3_worthParts_95 : decode cX3_worthParts 95 = .ok (.ior, 1) := by decide +kernel
theorem dX3_worthParts_96 : decode cX3_worthParts 96 = .ok (.laload, 1) := by decide +kernel
theorem dX3_worthParts_97 : decode cX3_worthParts 97 = .ok (.ladd, 1) := by decide +kernel
theorem dX3_worthParts_98 : decode cX3_worthParts 98 = .ok (.ladd, 1) := by decide +kernel
theorem dX3_worthParts_99 : decode cX3_worthParts 99 = .ok (.lstore_n 3, 1) := by decide +kernel
theorem dX3_worthParts_100 : decode cX3_worthParts 100 = .ok (.iinc 5 1, 3) := by decide +kernel
theorem dX3_worthParts_103 : decode cX3_worthParts 103 = .ok (.goto (-81), 3) := by decide +kernel
theorem dX3_worthParts_106 : decode cX3_worthParts 106 = .ok (.lload_n 3, 1) := by decide +kernel
theorem dX3_worthParts_107 : decode cX3_worthParts 107 = .ok (.lreturn, 1) := by decide +kernel
theorem dX3_worthiestLink_0 : decode cX3_worthiestLink 0 = .ok (.iconst (-1), 1) := by decide +kernel
theorem dX3_worthiestLink_1 : decode cX3_worthiestLink 1 = .ok (.istore_n 1, 1) := by decide +kernel
theorem dX3_worthiestLink_2 : decode cX3_worthiestLink 2 = .ok (.ldc2_w 71, 3) := by decide +kernel
theorem dX3_worthiestLink_5 : decode cX3_worthiestLink 5 = .ok (.lstore_n 2, 1) := by decide +kernel
theorem dX3_worthiestLink_6 : decode cX3_worthiestLink 6 = .ok (.iconst 0, 1) := by decide +kernel
theorem dX3_worthiestLink_7 : decode cX3_worthiestLink 7 = .ok (.istore 4, 2) := by decide +kernel
theorem dX3_worthiestLink_9 : decode cX3_worthiestLink 9 = .ok (.iload 4, 2) := by decide +kernel
theorem dX3_worthiestLink_11 : decode cX3_worthiestLink 11 = .ok (.aload_n 0, 1) := by decide +kernel
theorem dX3_worthiestLink_12 : decode cX3_worthiestLink 12 = .ok (.getfield 15, 3) := by decide +kernel
theorem dX3_worthiestLink_15 : decode cX3_worthiestLink 15 = .ok (.invokevirtual 27, 3) := by decide +kernel
theorem dX3_worthiestLink_18 : decode cX3_worthiestLink 18 = .ok (.if_icmp .ge 48, 3) := by decide +kernel
theorem dX3_worthiestLink_21 : decode cX3_worthiestLink 21 = .ok (.aload_n 0, 1) := by decide +kernel
theorem dX3_worthiestLink_22 : decode cX3_worthiestLink 22 = .ok (.getfield 15, 3) := by decide +kernel
theorem dX3_worthiestLink_25 : decode cX3_worthiestLink 25 = .ok (.iload 4, 2) := by decide +kernel
theorem dX3_worthiestLink_27 : decode cX3_worthiestLink 27 = .ok (.invokevirtual 73, 3) := by decide +kernel
theorem dX3_worthiestLink_30 : decode cX3_worthiestLink 30 = .ok (.ifCond .eq 6, 3) := by decide +kernel
theorem dX3_worthiestLink_33 : decode cX3_worthiestLink 33 = .ok (.goto 27, 3) := by decide +kernel
theorem dX3_worthiestLink_36 : decode cX3_worthiestLink 36 = .ok (.aload_n 0, 1) := by decide +kernel
theorem dX3_worthiestLink_37 : decode cX3_worthiestLink 37 = .ok (.iload 4, 2) := by decide +kernel
theorem dX3_worthiestLink_39 : decode cX3_worthiestLink 39 = .ok (.invokevirtual 76, 3) := by decide +kernel
theorem dX3_worthiestLink_42 : decode cX3_worthiestLink 42 = .ok (.lstore 5, 2) := by decide +kernel
theorem dX3_worthiestLink_44 : decode cX3_worthiestLink 44 = .ok (.lload 5, 2) := by decide +kernel
theorem dX3_worthiestLink_46 : decode cX3_worthiestLink 46 = .ok (.lload_n 2, 1) := by decide +kernel
theorem dX3_worthiestLink_47 : decode cX3_worthiestLink 47 = .ok (.lcmp, 1) := by decide +kernel
theorem dX3_worthiestLink_48 : decode cX3_worthiestLink 48 = .ok (.ifCond .gt 6, 3) := by decide +kernel
theorem dX3_worthiestLink_51 : decode cX3_worthiestLink 51 = .ok (.goto 9, 3) := by decide +kernel
theorem dX3_worthiestLink_54 : decode cX3_worthiestLink 54 = .ok (.lload 5, 2) := by decide +kernel
theorem dX3_worthiestLink_56 : decode cX3_worthiestLink 56 = .ok (.lstore_n 2, 1) := by decide +kernel
theorem dX3_worthiestLink_57 : decode cX3_worthiestLink 57 = .ok (.iload 4, 2) := by decide +kernel
theorem dX3_worthiestLink_59 : decode cX3_worthiestLink 59 = .ok (.istore_n 1, 1) := by decide +kernel
theorem dX3_worthiestLink_60 : decode cX3_worthiestLink 60 = .ok (.iinc 4 1, 3) := by decide +kernel
theorem dX3_worthiestLink_63 : decode cX3_worthiestLink 63 = .ok (.goto (-54), 3) := by decide +kernel
theorem dX3_worthiestLink_66 : decode cX3_worthiestLink 66 = .ok (.iload_n 1, 1) := by decide +kernel
theorem dX3_worthiestLink_67 : decode cX3_worthiestLink 67 = .ok (.ireturn, 1) := by decide +kernel
theorem dX3_spread_0 : decode cX3_spread 0 = .ok (.iconst 1, 1) := by decide +kernel
theorem dX3_spread_1 : decode cX3_spread 1 = .ok (.iload_n 1, 1) := by decide +kernel
theorem dX3_spread_2 : decode cX3_spread 2 = .ok (.ishl, 1) := by decide +kernel
theorem dX3_spread_3 : decode cX3_spread 3 = .ok (.istore 4, 2) := by decide +kernel
theorem dX3_spread_5 : decode cX3_spread 5 = .ok (.iconst 0, 1) := by decide +kernel
theorem dX3_spread_6 : decode cX3_spread 6 = .ok (.istore 5, 2) := by decide +kernel
theorem dX3_spread_8 : decode cX3_spread 8 = .ok (.iload 5, 2) := by decide +kernel
theorem dX3_spread_10 : decode cX3_spread 10 = .ok (.iload 4, 2) := by decide +kernel
theorem dX3_spread_12 : decode cX3_spread 12 = .ok (.if_icmp .ge 59, 3) := by decide +kernel
theorem dX3_spread_15 : decode cX3_spread 15 = .ok (.iload 4, 2) := by decide +kernel
theorem dX3_spread_17 : decode cX3_spread 17 = .ok (.iload 5, 2) := by decide +kernel
theorem dX3_spread_19 : decode cX3_spread 19 = .ok (.iadd, 1) := by decide +kernel
theorem dX3_spread_20 : decode cX3_spread 20 = .ok (.sipush 1024, 3) := by decide +kernel
theorem dX3_spread_23 : decode cX3_spread 23 = .ok (.if_icmp .ge 48, 3) := by decide +kernel
theorem dX3_spread_26 : decode cX3_spread 26 = .ok (.aload_n 0, 1) := by decide +kernel
theorem dX3_spread_27 : decode cX3_spread 27 = .ok (.getfield 9, 3) := by decide +kernel
theorem dX3_spread_30 : decode cX3_spread 30 = .ok (.iload 4, 2) := by decide +kernel
theorem dX3_spread_32 : decode cX3_spread 32 = .ok (.iload 5, 2) := by decide +kernel
theorem dX3_spread_34 : decode cX3_spread 34 = .ok (.iadd, 1) := by decide +kernel
theorem dX3_spread_35 : decode cX3_spread 35 = .ok (.aload_n 0, 1) := by decide +kernel
theorem dX3_spread_36 : decode cX3_spread 36 = .ok (.getfield 9, 3) := by decide +kernel
theorem dX3_spread_39 : decode cX3_spread 39 = .ok (.iload 5, 2) := by decide +kernel
theorem dX3_spread_41 : decode cX3_spread 41 = .ok (.laload, 1) := by decide +kernel
theorem dX3_spread_42 : decode cX3_spread 42 = .ok (.iload_n 2, 1) := by decide +kernel
theorem dX3_spread_43 : decode cX3_spread 43 = .ok (.i2l, 1) := by decide +kernel
theorem dX3_spread_44 : decode cX3_spread 44 = .ok (.lmul, 1) := by decide +kernel
theorem dX3_spread_45 : decode cX3_spread 45 = .ok (.lastore, 1) := by decide +kernel
theorem dX3_spread_46 : decode cX3_spread 46 = .ok (.aload_n 0, 1) := by decide +kernel
theorem dX3_spread_47 : decode cX3_spread 47 = .ok (.getfield 9, 3) := by decide +kernel
theorem dX3_spread_50 : decode cX3_spread 50 = .ok (.iload 5, 2) := by decide +kernel
theorem dX3_spread_52 : decode cX3_spread 52 = .ok (.aload_n 0, 1) := by decide +kernel
theorem dX3_spread_53 : decode cX3_spread 53 = .ok (.getfield 9, 3) := by decide +kernel
theorem dX3_spread_56 : decode cX3_spread 56 = .ok (.iload 5, 2) := by decide +kernel
theorem dX3_spread_58 : decode cX3_spread 58 = .ok (.laload, 1) := by decide +kernel
theorem dX3_spread_59 : decode cX3_spread 59 = .ok (.iload_n 3, 1) := by decide +kernel
theorem dX3_spread_60 : decode cX3_spread 60 = .ok (.iload_n 2, 1) := by decide +kernel
theorem dX3_spread_61 : decode cX3_spread 61 = .ok (.isub, 1) := by decide +kernel
theorem dX3_spread_62 : decode cX3_spread 62 = .ok (.i2l, 1) := by decide +kernel
theorem dX3_spread_63 : decode cX3_spread 63 = .ok (.lmul, 1) := by decide +kernel
theorem dX3_spread_64 : decode cX3_spread 64 = .ok (.lastore, 1) := by decide +kernel
theorem dX3_spread_65 : decode cX3_spread 65 = .ok (.iinc 5 1, 3) := by decide +kernel
theorem dX3_spread_68 : decode cX3_spread 68 = .ok (.goto (-60), 3) := by decide +kernel
theorem dX3_spread_71 : decode cX3_spread 71 = .ok (.aload_n 0, 1) := by decide +kernel
theorem dX3_spread_72 : decode cX3_spread 72 = .ok (.dup, 1) := by decide +kernel
theorem dX3_spread_73 : decode cX3_spread 73 = .ok (.getfield 19, 3) := by decide +kernel
theorem dX3_spread_76 : decode cX3_spread 76 = .ok (.iload_n 3, 1) := by decide +kernel
theorem dX3_spread_77 : decode cX3_spread 77 = .ok (.i2l, 1) := by decide +kernel
theorem dX3_spread_78 : decode cX3_spread 78 = .ok (.lmul, 1) := by decide +kernel
theorem dX3_spread_79 : decode cX3_spread 79 = .ok (.putfield 19, 3) := by decide +kernel
theorem dX3_spread_82 : decode cX3_spread 82 = .ok (.return_, 1) := by decide +kernel
theorem dX4_init_0 : decode cX4_init 0 = .ok (.aload_n 0, 1) := by decide +kernel
theorem dX4_init_1 : decode cX4_init 1 = .ok (.invokespecial 1, 3) := by decide +kernel
theorem dX4_init_4 : decode cX4_init 4 = .ok (.aload_n 0, 1) := by decide +kernel
theorem dX4_init_5 : decode cX4_init 5 = .ok (.bipush 60, 2) := by decide +kernel
theorem dX4_init_7 : decode cX4_init 7 = .ok (.newarray .int, 2) := by decide +kernel
theorem dX4_init_9 : decode cX4_init 9 = .ok (.putfield 9, 3) := by decide +kernel
theorem dX4_init_12 : decode cX4_init 12 = .ok (.aload_n 0, 1) := by decide +kernel
theorem dX4_init_13 : decode cX4_init 13 = .ok (.aload_n 1, 1) := by decide +kernel
theorem dX4_init_14 : decode cX4_init 14 = .ok (.putfield 13, 3) := by decide +kernel
theorem dX4_init_17 : decode cX4_init 17 = .ok (.return_, 1) := by decide +kernel
theorem dX4_length_0 : decode cX4_length 0 = .ok (.aload_n 0, 1) := by decide +kernel
theorem dX4_length_1 : decode cX4_length 1 = .ok (.getfield 17, 3) := by decide +kernel
theorem dX4_length_4 : decode cX4_length 4 = .ok (.ireturn, 1) := by decide +kernel
theorem dX5_init_0 : decode cX5_init 0 = .ok (.aload_n 0, 1) := by decide +kernel
theorem dX5_init_1 : decode cX5_init 1 = .ok (.invokespecial 3, 3) := by decide +kernel
theorem dX5_init_4 : decode cX5_init 4 = .ok (.aload_n 0, 1) := by decide +kernel
theorem dX5_init_5 : decode cX5_init 5 = .ok (.bipush 11, 2) := by decide +kernel
theorem dX5_init_7 : decode cX5_init 7 = .ok (.newarray .int, 2) := by decide +kernel
theorem dX5_init_9 : decode cX5_init 9 = .ok (.putfield 9, 3) := by decide +kernel
theorem dX5_init_12 : decode cX5_init 12 = .ok (.aload_n 0, 1) := by decide +kernel
theorem dX5_init_13 : decode cX5_init 13 = .ok (.aload_n 1, 1) := by decide +kernel
theorem dX5_init_14 : decode cX5_init 14 = .ok (.putfield 15, 3) := by decide +kernel
theorem dX5_init_17 : decode cX5_init 17 = .ok (.return_, 1) := by decide +kernel
theorem dX5_fill_0 : decode cX5_fill 0 = .ok (.iconst 0, 1) := by decide +kernel
theorem dX5_fill_1 : decode cX5_fill 1 = .ok (.istore_n 1, 1) := by decide +kernel
theorem dX5_fill_2 : decode cX5_fill 2 = .ok (.iload_n 1, 1) := by decide +kernel
theorem dX5_fill_3 : decode cX5_fill 3 = .ok (.aload_n 0, 1) := by decide +kernel
theorem dX5_fill_4 : decode cX5_fill 4 = .ok (.getfield 9, 3) := by decide +kernel
theorem dX5_fill_7 : decode cX5_fill 7 = .ok (.arraylength, 1) := by decide +kernel
theorem dX5_fill_8 : decode cX5_fill 8 = .ok (.if_icmp .ge 16, 3) := by decide +kernel
theorem dX5_fill_11 : decode cX5_fill 11 = .ok (.aload_n 0, 1) := by decide +kernel
theorem dX5_fill_12 : decode cX5_fill 12 = .ok (.getfield 9, 3) := by decide +kernel
theorem dX5_fill_15 : decode cX5_fill 15 = .ok (.iload_n 1, 1) := by decide +kernel
theorem dX5_fill_16 : decode cX5_fill 16 = .ok (.iconst 0, 1) := by decide +kernel
theorem dX5_fill_17 : decode cX5_fill 17 = .ok (.iastore, 1) := by decide +kernel
theorem dX5_fill_18 : decode cX5_fill 18 = .ok (.iinc 1 1, 3) := by decide +kernel
theorem dX5_fill_21 : decode cX5_fill 21 = .ok (.goto (-19), 3) := by decide +kernel
theorem dX5_fill_24 : decode cX5_fill 24 = .ok (.iconst 0, 1) := by decide +kernel
theorem dX5_fill_25 : decode cX5_fill 25 = .ok (.istore_n 1, 1) := by decide +kernel
theorem dX5_fill_26 : decode cX5_fill 26 = .ok (.iload_n 1, 1) := by decide +kernel
theorem dX5_fill_27 : decode cX5_fill 27 = .ok (.aload_n 0, 1) := by decide +kernel
theorem dX5_fill_28 : decode cX5_fill 28 = .ok (.getfield 15, 3) := by decide +kernel
theorem dX5_fill_31 : decode cX5_fill 31 = .ok (.invokevirtual 19, 3) := by decide +kernel
theorem dX5_fill_34 : decode cX5_fill 34 = .ok (.if_icmp .gt 44, 3) := by decide +kernel
theorem dX5_fill_37 : decode cX5_fill 37 = .ok (.iload_n 1, 1) := by decide +kernel
theorem dX5_fill_38 : decode cX5_fill 38 = .ok (.invokestatic 25, 3) := by decide +kernel
theorem dX5_fill_41 : decode cX5_fill 41 = .ok (.istore_n 2, 1) := by decide +kernel
theorem dX5_fill_42 : decode cX5_fill 42 = .ok (.iload_n 2, 1) := by decide +kernel
theorem dX5_fill_43 : decode cX5_fill 43 = .ok (.aload_n 0, 1) := by decide +kernel
theorem dX5_fill_44 : decode cX5_fill 44 = .ok (.getfield 9, 3) := by decide +kernel
theorem dX5_fill_47 : decode cX5_fill 47 = .ok (.arraylength, 1) := by decide +kernel
theorem dX5_fill_48 : decode cX5_fill 48 = .ok (.if_icmp .ge 24, 3) := by decide +kernel
theorem dX5_fill_51 : decode cX5_fill 51 = .ok (.aload_n 0, 1) := by decide +kernel
theorem dX5_fill_52 : decode cX5_fill 52 = .ok (.getfield 15, 3) := by decide +kernel
theorem dX5_fill_55 : decode cX5_fill 55 = .ok (.iload_n 1, 1) := by decide +kernel
theorem dX5_fill_56 : decode cX5_fill 56 = .ok (.invokevirtual 31, 3) := by decide +kernel
theorem dX5_fill_59 : decode cX5_fill 59 = .ok (.ifCond .eq 13, 3) := by decide +kernel
theorem dX5_fill_62 : decode cX5_fill 62 = .ok (.aload_n 0, 1) := by decide +kernel
theorem dX5_fill_63 : decode cX5_fill 63 = .ok (.getfield 9, 3) := by decide +kernel
theorem dX5_fill_66 : decode cX5_fill 66 = .ok (.iload_n 2, 1) := by decide +kernel
theorem dX5_fill_67 : decode cX5_fill 67 = .ok (.dup2, 1) := by decide +kernel
theorem dX5_fill_68 : decode cX5_fill 68 = .ok (.iaload, 1) := by decide +kernel
theorem dX5_fill_69 : decode cX5_fill 69 = .ok (.iconst 1, 1) := by decide +kernel
theorem dX5_fill_70 : decode cX5_fill 70 = .ok (.iadd, 1) := by decide +kernel
theorem dX5_fill_71 : decode cX5_fill 71 = .ok (.iastore, 1) := by decide +kernel
theorem dX5_fill_72 : decode cX5_fill 72 = .ok (.iinc 1 1, 3) := by decide +kernel
theorem dX5_fill_75 : decode cX5_fill 75 = .ok (.goto (-49), 3) := by decide +kernel
theorem dX5_fill_78 : decode cX5_fill 78 = .ok (.return_, 1) := by decide +kernel
theorem dX5_ofSize_0 : decode cX5_ofSize 0 = .ok (.iload_n 1, 1) := by decide +kernel
theorem dX5_ofSize_1 : decode cX5_ofSize 1 = .ok (.ifCond .lt 21, 3) := by decide +kernel
theorem dX5_ofSize_4 : decode cX5_ofSize 4 = .ok (.iload_n 1, 1) := by decide +kernel
theorem dX5_ofSize_5 : decode cX5_ofSize 5 = .ok (.aload_n 0, 1) := by decide +kernel
theorem dX5_ofSize_6 : decode cX5_ofSize 6 = .ok (.getfield 9, 3) := by decide +kernel
theorem dX5_ofSize_9 : decode cX5_ofSize 9 = .ok (.arraylength, 1) := by decide +kernel
theorem dX5_ofSize_10 : decode cX5_ofSize 10 = .ok (.if_icmp .ge 12, 3) := by decide +kernel
theorem dX5_ofSize_13 : decode cX5_ofSize 13 = .ok (.aload_n 0, 1) := by decide +kernel
theorem dX5_ofSize_14 : decode cX5_ofSize 14 = .ok (.getfield 9, 3) := by decide +kernel
theorem dX5_ofSize_17 : decode cX5_ofSize 17 = .ok (.iload_n 1, 1) := by decide +kernel
theorem dX5_ofSize_18 : decode cX5_ofSize 18 = .ok (.iaload, 1) := by decide +kernel
theorem dX5_ofSize_19 : decode cX5_ofSize 19 = .ok (.goto 4, 3) := by decide +kernel
theorem dX5_ofSize_22 : decode cX5_ofSize 22 = .ok (.iconst 0, 1) := by decide +kernel
theorem dX5_ofSize_23 : decode cX5_ofSize 23 = .ok (.ireturn, 1) := by decide +kernel
theorem dX5_likeParts_0 : decode cX5_likeParts 0 = .ok (.aload_n 0, 1) := by decide +kernel
theorem dX5_likeParts_1 : decode cX5_likeParts 1 = .ok (.getfield 15, 3) := by decide +kernel
theorem dX5_likeParts_4 : decode cX5_likeParts 4 = .ok (.invokevirtual 35, 3) := by decide +kernel
theorem dX5_likeParts_7 : decode cX5_likeParts 7 = .ok (.istore 4, 2) := by decide +kernel
theorem dX5_likeParts_9 : decode cX5_likeParts 9 = .ok (.lconst 0, 1) := by decide +kernel
theorem dX5_likeParts_10 : decode cX5_likeParts 10 = .ok (.lstore 5, 2) := by decide +kernel
theorem dX5_likeParts_12 : decode cX5_likeParts 12 = .ok (.iconst 0, 1) := by decide +kernel
theorem dX5_likeParts_13 : decode cX5_likeParts 13 = .ok (.istore 7, 2) := by decide +kernel
theorem dX5_likeParts_15 : decode cX5_likeParts 15 = .ok (.iload 7, 2) := by decide +kernel
theorem dX5_likeParts_17 : decode cX5_likeParts 17 = .ok (.iload 4, 2) := by decide +kernel
theorem dX5_likeParts_19 : decode cX5_likeParts 19 = .ok (.if_icmp .gt 52, 3) := by decide +kernel
theorem dX5_likeParts_22 : decode cX5_likeParts 22 = .ok (.aload_n 0, 1) := by decide +kernel
theorem dX5_likeParts_23 : decode cX5_likeParts 23 = .ok (.iload 7, 2) := by decide +kernel
theorem dX5_likeParts_25 : decode cX5_likeParts 25 = .ok (.invokevirtual 38, 3) := by decide +kernel
theorem dX5_likeParts_28 : decode cX5_likeParts 28 = .ok (.i2l, 1) := by decide +kernel
theorem dX5_likeParts_29 : decode cX5_likeParts 29 = .ok (.iload_n 1, 1) := by decide +kernel
theorem dX5_likeParts_30 : decode cX5_likeParts 30 = .ok (.i2l, 1) := by decide +kernel
theorem dX5_likeParts_31 : decode cX5_likeParts 31 = .ok (.iload 7, 2) := by decide +kernel
theorem dX5_likeParts_33 : decode cX5_likeParts 33 = .ok (.invokestatic 41, 3) := by decide +kernel
theorem dX5_likeParts_36 : decode cX5_likeParts 36 = .ok (.invokestatic 45, 3) := by decide +kernel
theorem dX5_likeParts_39 : decode cX5_likeParts 39 = .ok (.iload_n 2, 1) := by decide +kernel
theorem dX5_likeParts_40 : decode cX5_likeParts 40 = .ok (.iload_n 1, 1) := by decide +kernel
theorem dX5_likeParts_41 : decode cX5_likeParts 41 = .ok (.isub, 1) := by decide +kernel
theorem dX5_likeParts_42 : decode cX5_likeParts 42 = .ok (.i2l, 1) := by decide +kernel
theorem dX5_likeParts_43 : decode cX5_likeParts 43 = .ok (.iload 4, 2) := by decide +kernel
theorem dX5_likeParts_45 : decode cX5_likeParts 45 = .ok (.iload 7, 2) := by decide +kernel
theorem dX5_likeParts_47 : decode cX5_likeParts 47 = .ok (.isub, 1) := by decide +kernel
theorem dX5_likeParts_48 : decode cX5_likeParts 48 = .ok (.invokestatic 41, 3) := by decide +kernel
theorem dX5_likeParts_51 : decode cX5_likeParts 51 = .ok (.invokestatic 45, 3) := by decide +kernel
theorem dX5_likeParts_54 : decode cX5_likeParts 54 = .ok (.lstore 8, 2) := by decide +kernel
theorem dX5_likeParts_56 : decode cX5_likeParts 56 = .ok (.lload 5, 2) := by decide +kernel
theorem dX5_likeParts_58 : decode cX5_likeParts 58 = .ok (.lload 8, 2) := by decide +kernel
theorem dX5_likeParts_60 : decode cX5_likeParts 60 = .ok (.invokestatic 49, 3) := by decide +kernel
theorem dX5_likeParts_63 : decode cX5_likeParts 63 = .ok (.lstore 5, 2) := by decide +kernel
theorem dX5_likeParts_65 : decode cX5_likeParts 65 = .ok (.iinc 7 1, 3) := by decide +kernel
theorem dX5_likeParts_68 : decode cX5_likeParts 68 = .ok (.goto (-53), 3) := by decide +kernel
theorem dX5_likeParts_71 : decode cX5_likeParts 71 = .ok (.iload_n 2, 1) := by decide +kernel
theorem dX5_likeParts_72 : decode cX5_likeParts 72 = .ok (.i2l, 1) := by decide +kernel
theorem dX5_likeParts_73 : decode cX5_likeParts 73 = .ok (.iload 4, 2) := by decide +kernel
theorem dX5_likeParts_75 : decode cX5_likeParts 75 = .ok (.invokestatic 41, 3) := by decide +kernel
theorem dX5_likeParts_78 : decode cX5_likeParts 78 = .ok (.lstore 7, 2) := by decide +kernel
theorem dX5_likeParts_80 : decode cX5_likeParts 80 = .ok (.lload 5, 2) := by decide +kernel
theorem dX5_likeParts_82 : decode cX5_likeParts 82 = .ok (.lconst 0, 1) := by decide +kernel
theorem dX5_likeParts_83 : decode cX5_likeParts 83 = .ok (.lcmp, 1) := by decide +kernel
theorem dX5_likeParts_84 : decode cX5_likeParts 84 = .ok (.ifCond .lt 10, 3) := by decide +kernel
theorem dX5_likeParts_87 : decode cX5_likeParts 87 = .ok (.lload 7, 2) := by decide +kernel
theorem dX5_likeParts_89 : decode cX5_likeParts 89 = .ok (.lconst 0, 1) := by decide +kernel
theorem dX5_likeParts_90 : decode cX5_likeParts 90 = .ok (.lcmp, 1) := by decide +kernel
theorem dX5_likeParts_91 : decode cX5_likeParts 91 = .ok (.ifCond .ge 7, 3) := by decide +kernel
theorem dX5_likeParts_94 : decode cX5_likeParts 94 = .ok (.ldc2_w 52, 3) := by decide +kernel
theorem dX5_likeParts_97 : decode cX5_likeParts 97 = .ok (.lreturn, 1) := by decide +kernel
theorem dX5_likeParts_98 : decode cX5_likeParts 98 = .ok (.iload_n 3, 1) := by decide +kernel
theorem dX5_likeParts_99 : decode cX5_likeParts 99 = .ok (.ifCond .ne 8, 3) := by decide +kernel
theorem dX5_likeParts_102 : decode cX5_likeParts 102 = .ok (.lload 5, 2) := by decide +kernel
theorem dX5_likeParts_104 : decode cX5_likeParts 104 = .ok (.goto 5, 3) := by decide +kernel
theorem dX5_likeParts_107 : decode cX5_likeParts 107 = .ok (.lload 7, 2) := by decide +kernel
theorem dX5_likeParts_109 : decode cX5_likeParts 109 = .ok (.lreturn, 1) := by decide +kernel
theorem dX5_leastCut_0 : decode cX5_leastCut 0 = .ok (.iconst (-1), 1) := by decide +kernel
theorem dX5_leastCut_1 : decode cX5_leastCut 1 = .ok (.istore_n 1, 1) := by decide +kernel
theorem dX5_leastCut_2 : decode cX5_leastCut 2 = .ok (.iconst 0, 1) := by decide +kernel
theorem dX5_leastCut_3 : decode cX5_leastCut 3 = .ok (.istore_n 2, 1) := by decide +kernel
theorem dX5_leastCut_4 : decode cX5_leastCut 4 = .ok (.iload_n 2, 1) := by decide +kernel
theorem dX5_leastCut_5 : decode cX5_leastCut 5 = .ok (.aload_n 0, 1) := by decide +kernel
theorem dX5_leastCut_6 : decode cX5_leastCut 6 = .ok (.getfield 15, 3) := by decide +kernel
theorem dX5_leastCut_9 : decode cX5_leastCut 9 = .ok (.invokevirtual 19, 3) := by decide +kernel
theorem dX5_leastCut_12 : decode cX5_leastCut 12 = .ok (.if_icmp .gt 36, 3) := by decide +kernel
theorem dX5_leastCut_15 : decode cX5_leastCut 15 = .ok (.aload_n 0, 1) := by decide +kernel
theorem dX5_leastCut_16 : decode cX5_leastCut 16 = .ok (.getfield 15, 3) := by decide +kernel
theorem dX5_leastCut_19 : decode cX5_leastCut 19 = .ok (.aload_n 0, 1) := by decide +kernel
theorem dX5_leastCut_20 : decode cX5_leastCut 20 = .ok (.getfield 15, 3) := by decide +kernel
theorem dX5_leastCut_23 : decode cX5_leastCut 23 = .ok (.invokevirtual 19, 3) := by decide +kernel
theorem dX5_leastCut_26 : decode cX5_leastCut 26 = .ok (.iload_n 2, 1) := by decide +kernel
theorem dX5_leastCut_27 : decode cX5_leastCut 27 = .ok (.iconst (-1), 1) := by decide +kernel
theorem dX5_leastCut_28 : decode cX5_leastCut 28 = .ok (.ixor, 1) := by decide +kernel
theorem dX5_leastCut_29 : decode cX5_leastCut 29 = .ok (.iand, 1) := by decide +kernel
theorem dX5_leastCut_30 : decode cX5_leastCut 30 = .ok (.invokevirtual 31, 3) := by decide +kernel
theorem dX5_leastCut_33 : decode cX5_leastCut 33 = .ok (.ifCond .ne 9, 3) := by decide +kernel
theorem dX5_leastCut_36 : decode cX5_leastCut 36 = .ok (.iload_n 1, 1) := by decide +kernel
theorem dX5_leastCut_37 : decode cX5_leastCut 37 = .ok (.iload_n 2, 1) := by decide +kernel
theorem dX5_leastCut_38 : decode cX5_leastCut 38 = .ok (.invokestatic 54, 3) := by decide +kernel
theorem dX5_leastCut_41 : decode cX5_leastCut 41 = .ok (.istore_n 1, 1) := by decide +kernel
theorem dX5_leastCut_42 : decode cX5_leastCut 42 = .ok (.iinc 2 1, 3) := by decide +kernel
theorem dX5_leastCut_45 : decode cX5_leastCut 45 = .ok (.goto (-41), 3) := by decide +kernel
theorem dX5_leastCut_48 : decode cX5_leastCut 48 = .ok (.iload_n 1, 1) := by decide +kernel
theorem dX5_leastCut_49 : decode cX5_leastCut 49 = .ok (.ireturn, 1) := by decide +kernel
theorem dX5_leastWay_0 : decode cX5_leastWay 0 = .ok (.iconst (-1), 1) := by decide +kernel
theorem dX5_leastWay_1 : decode cX5_leastWay 1 = .ok (.istore_n 1, 1) := by decide +kernel
theorem dX5_leastWay_2 : decode cX5_leastWay 2 = .ok (.iconst 0, 1) := by decide +kernel
theorem dX5_leastWay_3 : decode cX5_leastWay 3 = .ok (.istore_n 2, 1) := by decide +kernel
theorem dX5_leastWay_4 : decode cX5_leastWay 4 = .ok (.iload_n 2, 1) := by decide +kernel
theorem dX5_leastWay_5 : decode cX5_leastWay 5 = .ok (.aload_n 0, 1) := by decide +kernel
theorem dX5_leastWay_6 : decode cX5_leastWay 6 = .ok (.getfield 15, 3) := by decide +kernel
theorem dX5_leastWay_9 : decode cX5_leastWay 9 = .ok (.invokevirtual 19, 3) := by decide +kernel
theorem dX5_leastWay_12 : decode cX5_leastWay 12 = .ok (.if_icmp .gt 26, 3) := by decide +kernel
theorem dX5_leastWay_15 : decode cX5_leastWay 15 = .ok (.aload_n 0, 1) := by decide +kernel
theorem dX5_leastWay_16 : decode cX5_leastWay 16 = .ok (.getfield 15, 3) := by decide +kernel
theorem dX5_leastWay_19 : decode cX5_leastWay 19 = .ok (.iload_n 2, 1) := by decide +kernel
theorem dX5_leastWay_20 : decode cX5_leastWay 20 = .ok (.invokevirtual 31, 3) := by decide +kernel
theorem dX5_leastWay_23 : decode cX5_leastWay 23 = .ok (.ifCond .eq 9, 3) := by decide +kernel
theorem dX5_leastWay_26 : decode cX5_leastWay 26 = .ok (.iload_n 1, 1) := by decide +kernel
theorem dX5_leastWay_27 : decode cX5_leastWay 27 = .ok (.iload_n 2, 1) := by decide +kernel
theorem dX5_leastWay_28 : decode cX5_leastWay 28 = .ok (.invokestatic 54, 3) := by decide +kernel
theorem dX5_leastWay_31 : decode cX5_leastWay 31 = .ok (.istore_n 1, 1) := by decide +kernel
theorem dX5_leastWay_32 : decode cX5_leastWay 32 = .ok (.iinc 2 1, 3) := by decide +kernel
theorem dX5_leastWay_35 : decode cX5_leastWay 35 = .ok (.goto (-31), 3) := by decide +kernel
theorem dX5_leastWay_38 : decode cX5_leastWay 38 = .ok (.iload_n 1, 1) := by decide +kernel
theorem dX5_leastWay_39 : decode cX5_leastWay 39 = .ok (.ireturn, 1) := by decide +kernel
theorem dX5_lesserSize_0 : decode cX5_lesserSize 0 = .ok (.iload_n 1, 1) := by decide +kernel
theorem dX5_lesserSize_1 : decode cX5_lesserSize 1 = .ok (.invokestatic 25, 3) := by decide +kernel
theorem dX5_lesserSize_4 : decode cX5_lesserSize 4 = .ok (.istore_n 2, 1) := by decide +kernel
theorem dX5_lesserSize_5 : decode cX5_lesserSize 5 = .ok (.iload_n 0, 1) := by decide +kernel
theorem dX5_lesserSize_6 : decode cX5_lesserSize 6 = .ok (.iconst (-1), 1) := by decide +kernel
theorem dX5_lesserSize_7 : decode cX5_lesserSize 7 = .ok (.if_icmp .ne 7, 3) := by decide +kernel
theorem dX5_lesserSize_10 : decode cX5_lesserSize 10 = .ok (.iload_n 2, 1) := by decide +kernel
theorem dX5_lesserSize_11 : decode cX5_lesserSize 11 = .ok (.goto 8, 3) := by decide +kernel
theorem dX5_lesserSize_14 : decode cX5_lesserSize 14 = .ok (.iload_n 0, 1) := by decide +kernel
theorem dX5_lesserSize_15 : decode cX5_lesserSize 15 = .ok (.iload_n 2, 1) := by decide +kernel
theorem dX5_lesserSize_16 : decode cX5_lesserSize 16 = .ok (.invokestatic 58, 3) := by decide +kernel
theorem dX5_lesserSize_19 : decode cX5_lesserSize 19 = .ok (.ireturn, 1) := by decide +kernel
theorem dX5_power_0 : decode cX5_power 0 = .ok (.lconst 1, 1) := by decide +kernel
theorem dX5_power_1 : decode cX5_power 1 = .ok (.lstore_n 3, 1) := by decide +kernel
theorem dX5_power_2 : decode cX5_power 2 = .ok (.iconst 0, 1) := by decide +kernel
theorem dX5_power_3 : decode cX5_power 3 = .ok (.istore 5, 2) := by decide +kernel
theorem dX5_power_5 : decode cX5_power 5 = .ok (.iload 5, 2) := by decide +kernel
theorem dX5_power_7 : decode cX5_power 7 = .ok (.iload_n 2, 1) := by decide +kernel
theorem dX5_power_8 : decode cX5_power 8 = .ok (.if_icmp .ge 15, 3) := by decide +kernel
theorem dX5_power_11 : decode cX5_power 11 = .ok (.lload_n 3, 1) := by decide +kernel
theorem dX5_power_12 : decode cX5_power 12 = .ok (.lload_n 0, 1) := by decide +kernel
theorem dX5_power_13 : decode cX5_power 13 = .ok (.invokestatic 45, 3) := by decide +kernel
theorem dX5_power_16 : decode cX5_power 16 = .ok (.lstore_n 3, 1) := by decide +kernel
theorem dX5_power_17 : decode cX5_power 17 = .ok (.iinc 5 1, 3) := by decide +kernel
theorem dX5_power_20 : decode cX5_power 20 = .ok (.goto (-15), 3) := by decide +kernel
theorem dX5_power_23 : decode cX5_power 23 = .ok (.lload_n 3, 1) := by decide +kernel
theorem dX5_power_24 : decode cX5_power 24 = .ok (.lreturn, 1) := by decide +kernel
theorem dX5_times_0 : decode cX5_times 0 = .ok (.lload_n 0, 1) := by decide +kernel
theorem dX5_times_1 : decode cX5_times 1 = .ok (.lconst 0, 1) := by decide +kernel
theorem dX5_times_2 : decode cX5_times 2 = .ok (.lcmp, 1) := by decide +kernel
theorem dX5_times_3 : decode cX5_times 3 = .ok (.ifCond .lt 9, 3) := by decide +kernel
theorem dX5_times_6 : decode cX5_times 6 = .ok (.lload_n 2, 1) := by decide +kernel
theorem dX5_times_7 : decode cX5_times 7 = .ok (.lconst 0, 1) := by decide +kernel
theorem dX5_times_8 : decode cX5_times 8 = .ok (.lcmp, 1) := by decide +kernel
theorem dX5_times_9 : decode cX5_times 9 = .ok (.ifCond .ge 7, 3) := by decide +kernel
theorem dX5_times_12 : decode cX5_times 12 = .ok (.ldc2_w 52, 3) := by decide +kernel
theorem dX5_times_15 : decode cX5_times 15 = .ok (.lreturn, 1) := by decide +kernel
theorem dX5_times_16 : decode cX5_times 16 = .ok (.lload_n 0, 1) := by decide +kernel
theorem dX5_times_17 : decode cX5_times 17 = .ok (.lconst 0, 1) := by decide +kernel
theorem dX5_times_18 : decode cX5_times 18 = .ok (.lcmp, 1) := by decide +kernel
theorem dX5_times_19 : decode cX5_times 19 = .ok (.ifCond .le 17, 3) := by decide +kernel
theorem dX5_times_22 : decode cX5_times 22 = .ok (.lload_n 2, 1) := by decide +kernel
theorem dX5_times_23 : decode cX5_times 23 = .ok (.ldc2_w 63, 3) := by decide +kernel
theorem dX5_times_26 : decode cX5_times 26 = .ok (.lload_n 0, 1) := by decide +kernel
theorem dX5_times_27 : decode cX5_times 27 = .ok (.ldiv, 1) := by decide +kernel
theorem dX5_times_28 : decode cX5_times 28 = .ok (.lcmp, 1) := by decide +kernel
theorem dX5_times_29 : decode cX5_times 29 = .ok (.ifCond .le 7, 3) := by decide +kernel
theorem dX5_times_32 : decode cX5_times 32 = .ok (.ldc2_w 52, 3) := by decide +kernel
theorem dX5_times_35 : decode cX5_times 35 = .ok (.lreturn, 1) := by decide +kernel
theorem dX5_times_36 : decode cX5_times 36 = .ok (.lload_n 0, 1) := by decide +kernel
theorem dX5_times_37 : decode cX5_times 37 = .ok (.lload_n 2, 1) := by decide +kernel
theorem dX5_times_38 : decode cX5_times 38 = .ok (.lmul, 1) := by decide +kernel
theorem dX5_times_39 : decode cX5_times 39 = .ok (.lreturn, 1) := by decide +kernel
theorem dX5_plus_0 : decode cX5_plus 0 = .ok (.lload_n 0, 1) := by decide +kernel
theorem dX5_plus_1 : decode cX5_plus 1 = .ok (.lconst 0, 1) := by decide +kernel
theorem dX5_plus_2 : decode cX5_plus 2 = .ok (.lcmp, 1) := by decide +kernel
theorem dX5_plus_3 : decode cX5_plus 3 = .ok (.ifCond .lt 19, 3) := by decide +kernel
theorem dX5_plus_6 : decode cX5_plus 6 = .ok (.lload_n 2, 1) := by decide +kernel
theorem dX5_plus_7 : decode cX5_plus 7 = .ok (.lconst 0, 1) := by decide +kernel
theorem dX5_plus_8 : decode cX5_plus 8 = .ok (.lcmp, 1) := by decide +kernel
theorem dX5_plus_9 : decode cX5_plus 9 = .ok (.ifCond .lt 13, 3) := by decide +kernel
theorem dX5_plus_12 : decode cX5_plus 12 = .ok (.lload_n 0, 1) := by decide +kernel
theorem dX5_plus_13 : decode cX5_plus 13 = .ok (.ldc2_w 63, 3) := by decide +kernel
theorem dX5_plus_16 : decode cX5_plus 16 = .ok (.lload_n 2, 1) := by decide +kernel
theorem dX5_plus_17 : decode cX5_plus 17 = .ok (.lsub, 1) := by decide +kernel
theorem dX5_plus_18 : decode cX5_plus 18 = .ok (.lcmp, 1) := by decide +kernel
theorem dX5_plus_19 : decode cX5_plus 19 = .ok (.ifCond .le 7, 3) := by decide +kernel
theorem dX5_plus_22 : decode cX5_plus 22 = .ok (.ldc2_w 52, 3) := by decide +kernel
theorem dX5_plus_25 : decode cX5_plus 25 = .ok (.lreturn, 1) := by decide +kernel
theorem dX5_plus_26 : decode cX5_plus 26 = .ok (.lload_n 0, 1) := by decide +kernel
theorem dX5_plus_27 : decode cX5_plus 27 = .ok (.lload_n 2, 1) := by decide +kernel
theorem dX5_plus_28 : decode cX5_plus 28 = .ok (.ladd, 1) := by decide +kernel
theorem dX5_plus_29 : decode cX5_plus 29 = .ok (.lreturn, 1) := by decide +kernel
theorem dX6_init_0 : decode cX6_init 0 = .ok (.aload_n 0, 1) := by decide +kernel
theorem dX6_init_1 : decode cX6_init 1 = .ok (.invokespecial 3, 3) := by decide +kernel
theorem dX6_init_4 : decode cX6_init 4 = .ok (.aload_n 0, 1) := by decide +kernel
theorem dX6_init_5 : decode cX6_init 5 = .ok (.sipush 1024, 3) := by decide +kernel
theorem dX6_init_8 : decode cX6_init 8 = .ok (.newarray .long, 2) := by decide +kernel
theorem dX6_init_10 : decode cX6_init 10 = .ok (.putfield 9, 3) := by decide +kernel
theorem dX6_init_13 : decode cX6_init 13 = .ok (.aload_n 0, 1) := by decide +kernel
theorem dX6_init_14 : decode cX6_init 14 = .ok (.aload_n 1, 1) := by decide +kernel
theorem dX6_init_15 : decode cX6_init 15 = .ok (.putfield 15, 3) := by decide +kernel
theorem dX6_init_18 : decode cX6_init 18 = .ok (.return_, 1) := by decide +kernel
theorem dX6_greatestWidth_0 : decode cX6_greatestWidth 0 = .ok (.iconst 0, 1) := by decide +kernel
theorem dX6_greatestWidth_1 : decode cX6_greatestWidth 1 = .ok (.istore_n 1, 1) := by decide +kernel
theorem dX6_greatestWidth_2 : decode cX6_greatestWidth 2 = .ok (.iconst 0, 1) := by decide +kernel
theorem dX6_greatestWidth_3 : decode cX6_greatestWidth 3 = .ok (.istore_n 2, 1) := by decide +kernel
theorem dX6_greatestWidth_4 : decode cX6_greatestWidth 4 = .ok (.iload_n 2, 1) := by decide +kernel
theorem dX6_greatestWidth_5 : decode cX6_greatestWidth 5 = .ok (.aload_n 0, 1) := by decide +kernel
theorem dX6_greatestWidth_6 : decode cX6_greatestWidth 6 = .ok (.getfield 15, 3) := by decide +kernel
theorem dX6_greatestWidth_9 : decode cX6_greatestWidth 9 = .ok (.invokevirtual 19, 3) := by decide +kernel
theorem dX6_greatestWidth_12 : decode cX6_greatestWidth 12 = .ok (.if_icmp .ge 19, 3) := by decide +kernel
theorem dX6_greatestWidth_15 : decode cX6_greatestWidth 15 = .ok (.iload_n 1, 1) := by decide +kernel
theorem dX6_greatestWidth_16 : decode cX6_greatestWidth 16 = .ok (.aload_n 0, 1) := by decide +kernel
theorem dX6_greatestWidth_17 : decode cX6_greatestWidth 17 = .ok (.iload_n 2, 1) := by decide +kernel
theorem dX6_greatestWidth_18 : decode cX6_greatestWidth 18 = .ok (.invokevirtual 25, 3) := by decide +kernel
theorem dX6_greatestWidth_21 : decode cX6_greatestWidth 21 = .ok (.invokestatic 29, 3) := by decide +kernel
theorem dX6_greatestWidth_24 : decode cX6_greatestWidth 24 = .ok (.istore_n 1, 1) := by decide +kernel
theorem dX6_greatestWidth_25 : decode cX6_greatestWidth 25 = .ok (.iinc 2 1, 3) := by decide +kernel
theorem dX6_greatestWidth_28 : decode cX6_greatestWidth 28 = .ok (.goto (-24), 3) := by decide +kernel
theorem dX6_greatestWidth_31 : decode cX6_greatestWidth 31 = .ok (.iload_n 1, 1) := by decide +kernel
theorem dX6_greatestWidth_32 : decode cX6_greatestWidth 32 = .ok (.ireturn, 1) := by decide +kernel
theorem dX6_widthBehind_0 : decode cX6_widthBehind 0 = .ok (.aload_n 0, 1) := by decide +kernel
theorem dX6_widthBehind_1 : decode cX6_widthBehind 1 = .ok (.iload_n 1, 1) := by decide +kernel
theorem dX6_widthBehind_2 : decode cX6_widthBehind 2 = .ok (.invokevirtual 35, 3) := by decide +kernel
theorem dX6_widthBehind_5 : decode cX6_widthBehind 5 = .ok (.istore_n 2, 1) := by decide +kernel
theorem dX6_widthBehind_6 : decode cX6_widthBehind 6 = .ok (.aload_n 0, 1) := by decide +kernel
theorem dX6_widthBehind_7 : decode cX6_widthBehind 7 = .ok (.iload_n 1, 1) := by decide +kernel
theorem dX6_widthBehind_8 : decode cX6_widthBehind 8 = .ok (.invokevirtual 38, 3) := by decide +kernel
theorem dX6_widthBehind_11 : decode cX6_widthBehind 11 = .ok (.istore_n 3, 1) := by decide +kernel
theorem dX6_widthBehind_12 : decode cX6_widthBehind 12 = .ok (.aload_n 0, 1) := by decide +kernel
theorem dX6_widthBehind_13 : decode cX6_widthBehind 13 = .ok (.iload_n 1, 1) := by decide +kernel
theorem dX6_widthBehind_14 : decode cX6_widthBehind 14 = .ok (.invokevirtual 41, 3) := by decide +kernel
theorem dX6_widthBehind_17 : decode cX6_widthBehind 17 = .ok (.istore 4, 2) := by decide +kernel
theorem dX6_widthBehind_19 : decode cX6_widthBehind 19 = .ok (.iconst 1, 1) := by decide +kernel
theorem dX6_widthBehind_20 : decode cX6_widthBehind 20 = .ok (.iload_n 1, 1) := by decide +kernel
theorem dX6_widthBehind_21 : decode cX6_widthBehind 21 = .ok (.iconst 1, 1) := by decide +kernel
theorem dX6_widthBehind_22 : decode cX6_widthBehind 22 = .ok (.iadd, 1) := by decide +kernel
theorem dX6_widthBehind_23 : decode cX6_widthBehind 23 = .ok (.ishl, 1) := by decide +kernel
theorem dX6_widthBehind_24 : decode cX6_widthBehind 24 = .ok (.iconst 1, 1) := by decide +kernel
theorem dX6_widthBehind_25 : decode cX6_widthBehind 25 = .ok (.isub, 1) := by decide +kernel
theorem dX6_widthBehind_26 : decode cX6_widthBehind 26 = .ok (.istore 5, 2) := by decide +kernel
theorem dX6_widthBehind_28 : decode cX6_widthBehind 28 = .ok (.iconst 0, 1) := by decide +kernel
theorem dX6_widthBehind_29 : decode cX6_widthBehind 29 = .ok (.istore 6, 2) := by decide +kernel
theorem dX6_widthBehind_31 : decode cX6_widthBehind 31 = .ok (.iconst 0, 1) := by decide +kernel
theorem dX6_widthBehind_32 : decode cX6_widthBehind 32 = .ok (.istore 7, 2) := by decide +kernel
theorem dX6_widthBehind_34 : decode cX6_widthBehind 34 = .ok (.iload 7, 2) := by decide +kernel
theorem dX6_widthBehind_36 : decode cX6_widthBehind 36 = .ok (.iload 5, 2) := by decide +kernel
theorem dX6_widthBehind_38 : decode cX6_widthBehind 38 = .ok (.if_icmp .gt 103, 3) := by decide +kernel
theorem dX6_widthBehind_41 : decode cX6_widthBehind 41 = .ok (.iload 7, 2) := by decide +kernel
theorem dX6_widthBehind_43 : decode cX6_widthBehind 43 = .ok (.sipush 1024, 3) := by decide +kernel
theorem dX6_widthBehind_46 : decode cX6_widthBehind 46 = .ok (.if_icmp .ge 95, 3) := by decide +kernel
theorem dX6_widthBehind_49 : decode cX6_widthBehind 49 = .ok (.iload 7, 2) := by decide +kernel
theorem dX6_widthBehind_51 : decode cX6_widthBehind 51 = .ok (.iload_n 3, 1) := by decide +kernel
theorem dX6_widthBehind_52 : decode cX6_widthBehind 52 = .ok (.iand, 1) := by decide +kernel
theorem dX6_widthBehind_53 : decode cX6_widthBehind 53 = .ok (.iload_n 3, 1) := by decide +kernel
theorem dX6_widthBehind_54 : decode cX6_widthBehind 54 = .ok (.if_icmp .ne 81, 3) := by decide +kernel
theorem dX6_widthBehind_57 : decode cX6_widthBehind 57 = .ok (.iload 7, 2) := by decide +kernel
theorem dX6_widthBehind_59 : decode cX6_widthBehind 59 = .ok (.iload 4, 2) := by decide +kernel
theorem dX6_widthBehind_61 : decode cX6_widthBehind 61 = .ok (.iand, 1) := by decide +kernel
theorem dX6_widthBehind_62 : decode cX6_widthBehind 62 = .ok (.ifCond .eq 6, 3) := by decide +kernel
theorem dX6_widthBehind_65 : decode cX6_widthBehind 65 = .ok (.goto 70, 3) := by decide +kernel
theorem dX6_widthBehind_68 : decode cX6_widthBehind 68 = .ok (.aload_n 0, 1) := by decide +kernel
theorem dX6_widthBehind_69 : decode cX6_widthBehind 69 = .ok (.getfield 15, 3) := by decide +kernel
theorem dX6_widthBehind_72 : decode cX6_widthBehind 72 = .ok (.iload 7, 2) := by decide +kernel
theorem dX6_widthBehind_74 : decode cX6_widthBehind 74 = .ok (.invokevirtual 44, 3) := by decide +kernel
theorem dX6_widthBehind_77 : decode cX6_widthBehind 77 = .ok (.ifCond .ne 58, 3) := by decide +kernel
theorem dX6_widthBehind_80 : decode cX6_widthBehind 80 = .ok (.aload_n 0, 1) := by decide +kernel
theorem dX6_widthBehind_81 : decode cX6_widthBehind 81 = .ok (.iload 7, 2) := by decide +kernel
theorem dX6_widthBehind_83 : decode cX6_widthBehind 83 = .ok (.iload_n 2, 1) := by decide +kernel
theorem dX6_widthBehind_84 : decode cX6_widthBehind 84 = .ok (.invokevirtual 48, 3) := by decide +kernel
theorem dX6_widthBehind_87 : decode cX6_widthBehind 87 = .ok (.ifCond .eq 6, 3) := by decide +kernel
theorem dX6_widthBehind_90 : decode cX6_widthBehind 90 = .ok (.goto 45, 3) := by decide +kernel
theorem dX6_widthBehind_93 : decode cX6_widthBehind 93 = .ok (.aload_n 0, 1) := by decide +kernel
theorem dX6_widthBehind_94 : decode cX6_widthBehind 94 = .ok (.iload 7, 2) := by decide +kernel
theorem dX6_widthBehind_96 : decode cX6_widthBehind 96 = .ok (.iload_n 2, 1) := by decide +kernel
theorem dX6_widthBehind_97 : decode cX6_widthBehind 97 = .ok (.invokevirtual 52, 3) := by decide +kernel
theorem dX6_widthBehind_100 : decode cX6_widthBehind 100 = .ok (.lstore 8, 2) := by decide +kernel
theorem dX6_widthBehind_102 : decode cX6_widthBehind 102 = .ok (.iload 6, 2) := by decide +kernel
theorem dX6_widthBehind_104 : decode cX6_widthBehind 104 = .ok (.aload_n 0, 1) := by decide +kernel
theorem dX6_widthBehind_105 : decode cX6_widthBehind 105 = .ok (.getfield 9, 3) := by decide +kernel
theorem dX6_widthBehind_108 : decode cX6_widthBehind 108 = .ok (.arraylength, 1) := by decide +kernel
theorem dX6_widthBehind_109 : decode cX6_widthBehind 109 = .ok (.if_icmp .ge 26, 3) := by decide +kernel
theorem dX6_widthBehind_112 : decode cX6_widthBehind 112 = .ok (.aload_n 0, 1) := by decide +kernel
theorem dX6_widthBehind_113 : decode cX6_widthBehind 113 = .ok (.lload 8, 2) := by decide +kernel
theorem dX6_widthBehind_115 : decode cX6_widthBehind 115 = .ok (.iload 6, 2) := by decide +kernel
theorem dX6_widthBehind_117 : decode cX6_widthBehind 117 = .ok (.invokevirtual 56, 3) := by decide +kernel
theorem dX6_widthBehind_120 : decode cX6_widthBehind 120 = .ok (.ifCond .ne 15, 3) := by decide +kernel
theorem dX6_widthBehind_123 : decode cX6_widthBehind 123 = .ok (.aload_n 0, 1) := by decide +kernel
theorem dX6_widthBehind_124 : decode cX6_widthBehind 124 = .ok (.getfield 9, 3) := by decide +kernel
theorem dX6_widthBehind_127 : decode cX6_widthBehind 127 = .ok (.iload 6, 2) := by decide +kernel
theorem dX6_widthBehind_129 : decode cX6_widthBehind 129 = .ok (.iinc 6 1, 3) := by decide +kernel
theorem dX6_widthBehind_132 : decode cX6_widthBehind 132 = .ok (.lload 8, 2) := by decide +kernel
theorem dX6_widthBehind_134 : decode cX6_widthBehind 134 = .ok (.lastore, 1) := by decide +kernel
theorem dX6_widthBehind_135 : decode cX6_widthBehind 135 = .ok (.iinc 7 1, 3) := by decide +kernel
theorem dX6_widthBehind_138 : decode cX6_widthBehind 138 = .ok (.goto (-104), 3) := by decide +kernel
theorem dX6_widthBehind_141 : decode cX6_widthBehind 141 = .ok (.iload 6, 2) := by decide +kernel
theorem dX6_widthBehind_143 : decode cX6_widthBehind 143 = .ok (.ireturn, 1) := by decide +kernel
theorem dX6_openBehind_0 : decode cX6_openBehind 0 = .ok (.iconst 0, 1) := by decide +kernel
theorem dX6_openBehind_1 : decode cX6_openBehind 1 = .ok (.istore_n 2, 1) := by decide +kernel
theorem dX6_openBehind_2 : decode cX6_openBehind 2 = .ok (.iload_n 1, 1) := by decide +kernel
theorem dX6_openBehind_3 : decode cX6_openBehind 3 = .ok (.iconst 1, 1) := by decide +kernel
theorem dX6_openBehind_4 : decode cX6_openBehind 4 = .ok (.iadd, 1) := by decide +kernel
theorem dX6_openBehind_5 : decode cX6_openBehind 5 = .ok (.istore_n 3, 1) := by decide +kernel
theorem dX6_openBehind_6 : decode cX6_openBehind 6 = .ok (.iload_n 3, 1) := by decide +kernel
theorem dX6_openBehind_7 : decode cX6_openBehind 7 = .ok (.aload_n 0, 1) := by decide +kernel
theorem dX6_openBehind_8 : decode cX6_openBehind 8 = .ok (.getfield 15, 3) := by decide +kernel
theorem dX6_openBehind_11 : decode cX6_openBehind 11 = .ok (.invokevirtual 19, 3) := by decide +kernel
theorem dX6_openBehind_14 : decode cX6_openBehind 14 = .ok (.if_icmp .ge 33, 3) := by decide +kernel
theorem dX6_openBehind_17 : decode cX6_openBehind 17 = .ok (.iload_n 2, 1) := by decide +kernel
theorem dX6_openBehind_18 : decode cX6_openBehind 18 = .ok (.iconst 1, 1) := by decide +kernel
theorem dX6_openBehind_19 : decode cX6_openBehind 19 = .ok (.aload_n 0, 1) := by decide +kernel
theorem dX6_openBehind_20 : decode cX6_openBehind 20 = .ok (.getfield 15, 3) := by decide +kernel
theorem dX6_openBehind_23 : decode cX6_openBehind 23 = .ok (.iload_n 3, 1) := by decide +kernel
theorem dX6_openBehind_24 : decode cX6_openBehind 24 = .ok (.invokevirtual 60, 3) := by decide +kernel
theorem dX6_openBehind_27 : decode cX6_openBehind 27 = .ok (.ishl, 1) := by decide +kernel
theorem dX6_openBehind_28 : decode cX6_openBehind 28 = .ok (.iconst 1, 1) := by decide +kernel
theorem dX6_openBehind_29 : decode cX6_openBehind 29 = .ok (.aload_n 0, 1) := by decide +kernel
theorem dX6_openBehind_30 : decode cX6_openBehind 30 = .ok (.getfield 15, 3) := by decide +kernel
theorem dX6_openBehind_33 : decode cX6_openBehind 33 = .ok (.iload_n 3, 1) := by decide +kernel
theorem dX6_openBehind_34 : decode cX6_openBehind 34 = .ok (.invokevirtual 63, 3) := by decide +kernel
theorem dX6_openBehind_37 : decode cX6_openBehind 37 = .ok (.ishl, 1) := by decide +kernel
theorem dX6_openBehind_38 : decode cX6_openBehind 38 = .ok (.ior, 1) := by decide +kernel
theorem dX6_openBehind_39 : decode cX6_openBehind 39 = .ok (.ior, 1) := by decide +kernel
theorem dX6_openBehind_40 : decode cX6_openBehind 40 = .ok (.istore_n 2, 1) := by decide +kernel
theorem dX6_openBehind_41 : decode cX6_openBehind 41 = .ok (.iinc 3 1, 3) := by decide +kernel
theorem dX6_openBehind_44 : decode cX6_openBehind 44 = .ok (.goto (-38), 3) := by decide +kernel
theorem dX6_openBehind_47 : decode cX6_openBehind 47 = .ok (.iload_n 2, 1) := by decide +kernel
theorem dX6_openBehind_48 : decode cX6_openBehind 48 = .ok (.ireturn, 1) := by decide +kernel
theorem dX6_surelyUp_0 : decode cX6_surelyUp 0 = .ok (.iconst 0, 1) := by decide +kernel
theorem dX6_surelyUp_1 : decode cX6_surelyUp 1 = .ok (.istore_n 2, 1) := by decide +kernel
theorem dX6_surelyUp_2 : decode cX6_surelyUp 2 = .ok (.iconst 0, 1) := by decide +kernel
theorem dX6_surelyUp_3 : decode cX6_surelyUp 3 = .ok (.istore_n 3, 1) := by decide +kernel
theorem dX6_surelyUp_4 : decode cX6_surelyUp 4 = .ok (.iload_n 3, 1) := by decide +kernel
theorem dX6_surelyUp_5 : decode cX6_surelyUp 5 = .ok (.iload_n 1, 1) := by decide +kernel
theorem dX6_surelyUp_6 : decode cX6_surelyUp 6 = .ok (.if_icmp .gt 34, 3) := by decide +kernel
theorem dX6_surelyUp_9 : decode cX6_surelyUp 9 = .ok (.aload_n 0, 1) := by decide +kernel
theorem dX6_surelyUp_10 : decode cX6_surelyUp 10 = .ok (.getfield 15, 3) := by decide +kernel
theorem dX6_surelyUp_13 : decode cX6_surelyUp 13 = .ok (.iload_n 3, 1) := by decide +kernel
theorem dX6_surelyUp_14 : decode cX6_surelyUp 14 = .ok (.invokevirtual 66, 3) := by decide +kernel
theorem dX6_surelyUp_17 : decode cX6_surelyUp 17 = .ok (.aload_n 0, 1) := by decide +kernel
theorem dX6_surelyUp_18 : decode cX6_surelyUp 18 = .ok (.getfield 15, 3) := by decide +kernel
theorem dX6_surelyUp_21 : decode cX6_surelyUp 21 = .ok (.iload_n 3, 1) := by decide +kernel
theorem dX6_surelyUp_22 : decode cX6_surelyUp 22 = .ok (.invokevirtual 69, 3) := by decide +kernel
theorem dX6_surelyUp_25 : decode cX6_surelyUp 25 = .ok (.if_icmp .ne 9, 3) := by decide +kernel
theorem dX6_surelyUp_28 : decode cX6_surelyUp 28 = .ok (.iload_n 2, 1) := by decide +kernel
theorem dX6_surelyUp_29 : decode cX6_surelyUp 29 = .ok (.iconst 1, 1) := by decide +kernel
theorem dX6_surelyUp_30 : decode cX6_surelyUp 30 = .ok (.iload_n 3, 1) := by decide +kernel
theorem dX6_surelyUp_31 : decode cX6_surelyUp 31 = .ok (.ishl, 1) := by decide +kernel
theorem dX6_surelyUp_32 : decode cX6_surelyUp 32 = .ok (.ior, 1) := by decide +kernel
theorem dX6_surelyUp_33 : decode cX6_surelyUp 33 = .ok (.istore_n 2, 1) := by decide +kernel
theorem dX6_surelyUp_34 : decode cX6_surelyUp 34 = .ok (.iinc 3 1, 3) := by decide +kernel
theorem dX6_surelyUp_37 : decode cX6_surelyUp 37 = .ok (.goto (-33), 3) := by decide +kernel
theorem dX6_surelyUp_40 : decode cX6_surelyUp 40 = .ok (.iload_n 2, 1) := by decide +kernel
theorem dX6_surelyUp_41 : decode cX6_surelyUp 41 = .ok (.ireturn, 1) := by decide +kernel
theorem dX6_surelyDown_0 : decode cX6_surelyDown 0 = .ok (.iconst 0, 1) := by decide +kernel
theorem dX6_surelyDown_1 : decode cX6_surelyDown 1 = .ok (.istore_n 2, 1) := by decide +kernel
theorem dX6_surelyDown_2 : decode cX6_surelyDown 2 = .ok (.iconst 0, 1) := by decide +kernel
theorem dX6_surelyDown_3 : decode cX6_surelyDown 3 = .ok (.istore_n 3, 1) := by decide +kernel
theorem dX6_surelyDown_4 : decode cX6_surelyDown 4 = .ok (.iload_n 3, 1) := by decide +kernel
theorem dX6_surelyDown_5 : decode cX6_surelyDown 5 = .ok (.iload_n 1, 1) := by decide +kernel
theorem dX6_surelyDown_6 : decode cX6_surelyDown 6 = .ok (.if_icmp .gt 26, 3) := by decide +kernel
theorem dX6_surelyDown_9 : decode cX6_surelyDown 9 = .ok (.aload_n 0, 1) := by decide +kernel
theorem dX6_surelyDown_10 : decode cX6_surelyDown 10 = .ok (.getfield 15, 3) := by decide +kernel
theorem dX6_surelyDown_13 : decode cX6_surelyDown 13 = .ok (.iload_n 3, 1) := by decide +kernel
theorem dX6_surelyDown_14 : decode cX6_surelyDown 14 = .ok (.invokevirtual 66, 3) := by decide +kernel
theorem dX6_surelyDown_17 : decode cX6_surelyDown 17 = .ok (.ifCond .ne 9, 3) := by decide +kernel
theorem dX6_surelyDown_20 : decode cX6_surelyDown 20 = .ok (.iload_n 2, 1) := by decide +kernel
theorem dX6_surelyDown_21 : decode cX6_surelyDown 21 = .ok (.iconst 1, 1) := by decide +kernel
theorem dX6_surelyDown_22 : decode cX6_surelyDown 22 = .ok (.iload_n 3, 1) := by decide +kernel
theorem dX6_surelyDown_23 : decode cX6_surelyDown 23 = .ok (.ishl, 1) := by decide +kernel
theorem dX6_surelyDown_24 : decode cX6_surelyDown 24 = .ok (.ior, 1) := by decide +kernel
theorem dX6_surelyDown_25 : decode cX6_surelyDown 25 = .ok (.istore_n 2, 1) := by decide +kernel
theorem dX6_surelyDown_26 : decode cX6_surelyDown 26 = .ok (.iinc 3 1, 3) := by decide +kernel
theorem dX6_surelyDown_29 : decode cX6_surelyDown 29 = .ok (.goto (-25), 3) := by decide +kernel
theorem dX6_surelyDown_32 : decode cX6_surelyDown 32 = .ok (.iload_n 2, 1) := by decide +kernel
theorem dX6_surelyDown_33 : decode cX6_surelyDown 33 = .ok (.ireturn, 1) := by decide +kernel
theorem dX6_isLost_0 : decode cX6_isLost 0 = .ok (.aload_n 0, 1) := by decide +kernel
theorem dX6_isLost_1 : decode cX6_isLost 1 = .ok (.getfield 15, 3) := by decide +kernel
theorem dX6_isLost_4 : decode cX6_isLost 4 = .ok (.invokevirtual 72, 3) := by decide +kernel
theorem dX6_isLost_7 : decode cX6_isLost 7 = .ok (.istore_n 3, 1) := by decide +kernel
theorem dX6_isLost_8 : decode cX6_isLost 8 = .ok (.iconst 0, 1) := by decide +kernel
theorem dX6_isLost_9 : decode cX6_isLost 9 = .ok (.istore 4, 2) := by decide +kernel
theorem dX6_isLost_11 : decode cX6_isLost 11 = .ok (.iload 4, 2) := by decide +kernel
theorem dX6_isLost_13 : decode cX6_isLost 13 = .ok (.bipush 7, 2) := by decide +kernel
theorem dX6_isLost_15 : decode cX6_isLost 15 = .ok (.if_icmp .ge 35, 3) := by decide +kernel
theorem dX6_isLost_18 : decode cX6_isLost 18 = .ok (.iload_n 3, 1) := by decide +kernel
theorem dX6_isLost_19 : decode cX6_isLost 19 = .ok (.iload 4, 2) := by decide +kernel
theorem dX6_isLost_21 : decode cX6_isLost 21 = .ok (.iushr, 1) := by decide +kernel
theorem dX6_isLost_22 : decode cX6_isLost 22 = .ok (.iconst 1, 1) := by decide +kernel
theorem dX6_isLost_23 : decode cX6_isLost 23 = .ok (.iand, 1) := by decide +kernel
theorem dX6_isLost_24 : decode cX6_isLost 24 = .ok (.ifCond .eq 20, 3) := by decide +kernel
theorem dX6_isLost_27 : decode cX6_isLost 27 = .ok (.aload_n 0, 1) := by decide +kernel
theorem dX6_isLost_28 : decode cX6_isLost 28 = .ok (.getfield 15, 3) := by decide +kernel
theorem dX6_isLost_31 : decode cX6_isLost 31 = .ok (.iload_n 1, 1) := by decide +kernel
theorem dX6_isLost_32 : decode cX6_isLost 32 = .ok (.iload 4, 2) := by decide +kernel
theorem dX6_isLost_34 : decode cX6_isLost 34 = .ok (.invokevirtual 75, 3) := by decide +kernel
theorem dX6_isLost_37 : decode cX6_isLost 37 = .ok (.iload_n 2, 1) := by decide +kernel
theorem dX6_isLost_38 : decode cX6_isLost 38 = .ok (.iand, 1) := by decide +kernel
theorem dX6_isLost_39 : decode cX6_isLost 39 = .ok (.ifCond .ne 5, 3) := by decide +kernel
theorem dX6_isLost_42 : decode cX6_isLost 42 = .ok (.iconst 1, 1) := by decide +kernel
theorem dX6_isLost_43 : decode cX6_isLost 43 = .ok (.ireturn, 1) := by decide +kernel
theorem dX6_isLost_44 : decode cX6_isLost 44 = .ok (.iinc 4 1, 3) := by decide +kernel
theorem dX6_isLost_47 : decode cX6_isLost 47 = .ok (.goto (-36), 3) := by decide +kernel
theorem dX6_isLost_50 : decode cX6_isLost 50 = .ok (.iconst 0, 1) := by decide +kernel
theorem dX6_isLost_51 : decode cX6_isLost 51 = .ok (.ireturn, 1) := by decide +kernel
theorem dX6_lookOf_0 : decode cX6_lookOf 0 = .ok (.aload_n 0, 1) := by decide +kernel
theorem dX6_lookOf_1 : decode cX6_lookOf 1 = .ok (.getfield 15, 3) := by decide +kernel
theorem dX6_lookOf_4 : decode cX6_lookOf 4 = .ok (.invokevirtual 72, 3) := by decide +kernel
theorem dX6_lookOf_7 : decode cX6_lookOf 7 = .ok (.istore_n 3, 1) := by decide +kernel
theorem dX6_lookOf_8 : decode cX6_lookOf 8 = .ok (.lconst 0, 1) := by decide +kernel
theorem dX6_lookOf_9 : decode cX6_lookOf 9 = .ok (.lstore 4, 2) := by decide +kernel
theorem dX6_lookOf_11 : decode cX6_lookOf 11 = .ok (.iconst 0, 1) := by decide +kernel
theorem dX6_lookOf_12 : decode cX6_lookOf 12 = .ok (.istore 6, 2) := by decide +kernel
theorem dX6_lookOf_14 : decode cX6_lookOf 14 = .ok (.iload 6, 2) := by decide +kernel
theorem dX6_lookOf_16 : decode cX6_lookOf 16 = .ok (.bipush 7, 2) := by decide +kernel
theorem dX6_lookOf_18 : decode cX6_lookOf 18 = .ok (.if_icmp .ge 68, 3) := by decide +kernel
theorem dX6_lookOf_21 : decode cX6_lookOf 21 = .ok (.iload_n 2, 1) := by decide +kernel
theorem dX6_lookOf_22 : decode cX6_lookOf 22 = .ok (.iload 6, 2) := by decide +kernel
theorem dX6_lookOf_24 : decode cX6_lookOf 24 = .ok (.iushr, 1) := by decide +kernel
theorem dX6_lookOf_25 : decode cX6_lookOf 25 = .ok (.iconst 1, 1) := by decide +kernel
theorem dX6_lookOf_26 : decode cX6_lookOf 26 = .ok (.iand, 1) := by decide +kernel
theorem dX6_lookOf_27 : decode cX6_lookOf 27 = .ok (.ifCond .ne 6, 3) := by decide +kernel
theorem dX6_lookOf_30 : decode cX6_lookOf 30 = .ok (.goto 50, 3) := by decide +kernel
theorem dX6_lookOf_33 : decode cX6_lookOf 33 = .ok (.aload_n 0, 1) := by decide +kernel
theorem dX6_lookOf_34 : decode cX6_lookOf 34 = .ok (.getfield 15, 3) := by decide +kernel
theorem dX6_lookOf_37 : decode cX6_lookOf 37 = .ok (.iload_n 1, 1) := by decide +kernel
theorem dX6_lookOf_38 : decode cX6_lookOf 38 = .ok (.iload 6, 2) := by decide +kernel
theorem dX6_lookOf_40 : decode cX6_lookOf 40 = .ok (.invokevirtual 75, 3) := by decide +kernel
theorem dX6_lookOf_43 : decode cX6_lookOf 43 = .ok (.istore 7, 2) := by decide +kernel
theorem dX6_lookOf_45 : decode cX6_lookOf 45 = .ok (.lload 4, 2) := by decide +kernel
theorem dX6_lookOf_47 : decode cX6_lookOf 47 = .ok (.iload 7, 2) := by decide +kernel
theorem dX6_lookOf_49 : decode cX6_lookOf 49 = .ok (.iload_n 2, 1) := by decide +kernel
theorem dX6_lookOf_50 : decode cX6_lookOf 50 = .ok (.iand, 1) := by decide +kernel
theorem dX6_lookOf_51 : decode cX6_lookOf 51 = .ok (.i2l, 1) := by decide +kernel
theorem dX6_lookOf_52 : decode cX6_lookOf 52 = .ok (.bipush 7, 2) := by decide +kernel
theorem dX6_lookOf_54 : decode cX6_lookOf 54 = .ok (.iload 6, 2) := by decide +kernel
theorem dX6_lookOf_56 : decode cX6_lookOf 56 = .ok (.imul, 1) := by decide +kernel
theorem dX6_lookOf_57 : decode cX6_lookOf 57 = .ok (.lshl, 1) := by decide +kernel
theorem dX6_lookOf_58 : decode cX6_lookOf 58 = .ok (.lor, 1) := by decide +kernel
theorem dX6_lookOf_59 : decode cX6_lookOf 59 = .ok (.lstore 4, 2) := by decide +kernel
theorem dX6_lookOf_61 : decode cX6_lookOf 61 = .ok (.iload 7, 2) := by decide +kernel
theorem dX6_lookOf_63 : decode cX6_lookOf 63 = .ok (.iload_n 3, 1) := by decide +kernel
theorem dX6_lookOf_64 : decode cX6_lookOf 64 = .ok (.iand, 1) := by decide +kernel
theorem dX6_lookOf_65 : decode cX6_lookOf 65 = .ok (.ifCond .eq 15, 3) := by decide +kernel
theorem dX6_lookOf_68 : decode cX6_lookOf 68 = .ok (.lload 4, 2) := by decide +kernel
theorem dX6_lookOf_70 : decode cX6_lookOf 70 = .ok (.lconst 1, 1) := by decide +kernel
theorem dX6_lookOf_71 : decode cX6_lookOf 71 = .ok (.bipush 49, 2) := by decide +kernel
theorem dX6_lookOf_73 : decode cX6_lookOf 73 = .ok (.iload 6, 2) := by decide +kernel
theorem dX6_lookOf_75 : decode cX6_lookOf 75 = .ok (.iadd, 1) := by decide +kernel
theorem dX6_lookOf_76 : decode cX6_lookOf 76 = .ok (.lshl, 1) := by decide +kernel
theorem dX6_lookOf_77 : decode cX6_lookOf 77 = .ok (.lor, 1) := by decide +kernel
theorem dX6_lookOf_78 : decode cX6_lookOf 78 = .ok (.lstore 4, 2) := by decide +kernel
theorem dX6_lookOf_80 : decode cX6_lookOf 80 = .ok (.iinc 6 1, 3) := by decide +kernel
theorem dX6_lookOf_83 : decode cX6_lookOf 83 = .ok (.goto (-69), 3) := by decide +kernel
theorem dX6_lookOf_86 : decode cX6_lookOf 86 = .ok (.lload 4, 2) := by decide +kernel
theorem dX6_lookOf_88 : decode cX6_lookOf 88 = .ok (.lreturn, 1) := by decide +kernel
theorem dX6_isAmong_0 : decode cX6_isAmong 0 = .ok (.iconst 0, 1) := by decide +kernel
theorem dX6_isAmong_1 : decode cX6_isAmong 1 = .ok (.istore 4, 2) := by decide +kernel
theorem dX6_isAmong_3 : decode cX6_isAmong 3 = .ok (.iload 4, 2) := by decide +kernel
theorem dX6_isAmong_5 : decode cX6_isAmong 5 = .ok (.iload_n 3, 1) := by decide +kernel
theorem dX6_isAmong_6 : decode cX6_isAmong 6 = .ok (.if_icmp .ge 33, 3) := by decide +kernel
theorem dX6_isAmong_9 : decode cX6_isAmong 9 = .ok (.iload 4, 2) := by decide +kernel
theorem dX6_isAmong_11 : decode cX6_isAmong 11 = .ok (.aload_n 0, 1) := by decide +kernel
theorem dX6_isAmong_12 : decode cX6_isAmong 12 = .ok (.getfield 9, 3) := by decide +kernel
theorem dX6_isAmong_15 : decode cX6_isAmong 15 = .ok (.arraylength, 1) := by decide +kernel
theorem dX6_isAmong_16 : decode cX6_isAmong 16 = .ok (.if_icmp .ge 23, 3) := by decide +kernel
theorem dX6_isAmong_19 : decode cX6_isAmong 19 = .ok (.aload_n 0, 1) := by decide +kernel
theorem dX6_isAmong_20 : decode cX6_isAmong 20 = .ok (.getfield 9, 3) := by decide +kernel
theorem dX6_isAmong_23 : decode cX6_isAmong 23 = .ok (.iload 4, 2) := by decide +kernel
theorem dX6_isAmong_25 : decode cX6_isAmong 25 = .ok (.laload, 1) := by decide +kernel
theorem dX6_isAmong_26 : decode cX6_isAmong 26 = .ok (.lload_n 1, 1) := by decide +kernel
theorem dX6_isAmong_27 : decode cX6_isAmong 27 = .ok (.lcmp, 1) := by decide +kernel
theorem dX6_isAmong_28 : decode cX6_isAmong 28 = .ok (.ifCond .ne 5, 3) := by decide +kernel
theorem dX6_isAmong_31 : decode cX6_isAmong 31 = .ok (.iconst 1, 1) := by decide +kernel
theorem dX6_isAmong_32 : decode cX6_isAmong 32 = .ok (.ireturn, 1) := by decide +kernel
theorem dX6_isAmong_33 : decode cX6_isAmong 33 = .ok (.iinc 4 1, 3) := by decide +kernel
theorem dX6_isAmong_36 : decode cX6_isAmong 36 = .ok (.goto (-33), 3) := by decide +kernel
theorem dX6_isAmong_39 : decode cX6_isAmong 39 = .ok (.iconst 0, 1) := by decide +kernel
theorem dX6_isAmong_40 : decode cX6_isAmong 40 = .ok (.ireturn, 1) := by decide +kernel
theorem dX7_init_0 : decode cX7_init 0 = .ok (.aload_n 0, 1) := by decide +kernel
theorem dX7_init_1 : decode cX7_init 1 = .ok (.invokespecial 3, 3) := by decide +kernel
theorem dX7_init_4 : decode cX7_init 4 = .ok (.aload_n 0, 1) := by decide +kernel
theorem dX7_init_5 : decode cX7_init 5 = .ok (.iconst 3, 1) := by decide +kernel
theorem dX7_init_6 : decode cX7_init 6 = .ok (.bipush 40, 2) := by decide +kernel
theorem dX7_init_8 : decode cX7_init 8 = .ok (.multianewarray 11 2, 4) := by decide +kernel
theorem dX7_init_12 : decode cX7_init 12 = .ok (.putfield 13, 3) := by decide +kernel
theorem dX7_init_15 : decode cX7_init 15 = .ok (.aload_n 0, 1) := by decide +kernel
theorem dX7_init_16 : decode cX7_init 16 = .ok (.iconst 3, 1) := by decide +kernel
theorem dX7_init_17 : decode cX7_init 17 = .ok (.newarray .int, 2) := by decide +kernel
theorem dX7_init_19 : decode cX7_init 19 = .ok (.putfield 16, 3) := by decide +kernel
theorem dX7_init_22 : decode cX7_init 22 = .ok (.iconst 0, 1) := by decide +kernel
theorem dX7_init_23 : decode cX7_init 23 = .ok (.istore_n 1, 1) := by decide +kernel
theorem dX7_init_24 : decode cX7_init 24 = .ok (.iload_n 1, 1) := by decide +kernel
theorem dX7_init_25 : decode cX7_init 25 = .ok (.iconst 3, 1) := by decide +kernel
theorem dX7_init_26 : decode cX7_init 26 = .ok (.if_icmp .ge 16, 3) := by decide +kernel
theorem dX7_init_29 : decode cX7_init 29 = .ok (.aload_n 0, 1) := by decide +kernel
theorem dX7_init_30 : decode cX7_init 30 = .ok (.getfield 16, 3) := by decide +kernel
theorem dX7_init_33 : decode cX7_init 33 = .ok (.iload_n 1, 1) := by decide +kernel
theorem dX7_init_34 : decode cX7_init 34 = .ok (.iconst (-1), 1) := by decide +kernel
theorem dX7_init_35 : decode cX7_init 35 = .ok (.iastore, 1) := by decide +kernel
theorem dX7_init_36 : decode cX7_init 36 = .ok (.iinc 1 1, 3) := by decide +kernel
theorem dX7_init_39 : decode cX7_init 39 = .ok (.goto (-15), 3) := by decide +kernel
theorem dX7_init_42 : decode cX7_init 42 = .ok (.return_, 1) := by decide +kernel
theorem dX7_latestFinding_0 : decode cX7_latestFinding 0 = .ok (.aload_n 0, 1) := by decide +kernel
theorem dX7_latestFinding_1 : decode cX7_latestFinding 1 = .ok (.getfield 20, 3) := by decide +kernel
theorem dX7_latestFinding_4 : decode cX7_latestFinding 4 = .ok (.ireturn, 1) := by decide +kernel
theorem dX8_init_0 : decode cX8_init 0 = .ok (.aload_n 0, 1) := by decide +kernel
theorem dX8_init_1 : decode cX8_init 1 = .ok (.invokespecial 3, 3) := by decide +kernel
theorem dX8_init_4 : decode cX8_init 4 = .ok (.aload_n 0, 1) := by decide +kernel
theorem dX8_init_5 : decode cX8_init 5 = .ok (.bipush 10, 2) := by decide +kernel
theorem dX8_init_7 : decode cX8_init 7 = .ok (.newarray .int, 2) := by decide +kernel
theorem dX8_init_9 : decode cX8_init 9 = .ok (.putfield 9, 3) := by decide +kernel
theorem dX8_init_12 : decode cX8_init 12 = .ok (.aload_n 0, 1) := by decide +kernel
theorem dX8_init_13 : decode cX8_init 13 = .ok (.bipush 10, 2) := by decide +kernel
theorem dX8_init_15 : decode cX8_init 15 = .ok (.newarray .int, 2) := by decide +kernel
theorem dX8_init_17 : decode cX8_init 17 = .ok (.putfield 15, 3) := by decide +kernel
theorem dX8_init_20 : decode cX8_init 20 = .ok (.aload_n 0, 1) := by decide +kernel
theorem dX8_init_21 : decode cX8_init 21 = .ok (.bipush 10, 2) := by decide +kernel
theorem dX8_init_23 : decode cX8_init 23 = .ok (.newarray .long, 2) := by decide +kernel
theorem dX8_init_25 : decode cX8_init 25 = .ok (.putfield 18, 3) := by decide +kernel
theorem dX8_init_28 : decode cX8_init 28 = .ok (.aload_n 0, 1) := by decide +kernel
theorem dX8_init_29 : decode cX8_init 29 = .ok (.bipush 10, 2) := by decide +kernel
theorem dX8_init_31 : decode cX8_init 31 = .ok (.newarray .long, 2) := by decide +kernel
theorem dX8_init_33 : decode cX8_init 33 = .ok (.putfield 22, 3) := by decide +kernel
theorem dX8_init_36 : decode cX8_init 36 = .ok (.return_, 1) := by decide +kernel
theorem dX8_takeAll_0 : decode cX8_takeAll 0 = .ok (.aload_n 0, 1) := by decide +kernel
theorem dX8_takeAll_1 : decode cX8_takeAll 1 = .ok (.aload_n 1, 1) := by decide +kernel
theorem dX8_takeAll_2 : decode cX8_takeAll 2 = .ok (.invokevirtual 25, 3) := by decide +kernel
theorem dX8_takeAll_5 : decode cX8_takeAll 5 = .ok (.putfield 31, 3) := by decide +kernel
theorem dX8_takeAll_8 : decode cX8_takeAll 8 = .ok (.aload_n 0, 1) := by decide +kernel
theorem dX8_takeAll_9 : decode cX8_takeAll 9 = .ok (.aload_n 1, 1) := by decide +kernel
theorem dX8_takeAll_10 : decode cX8_takeAll 10 = .ok (.invokevirtual 35, 3) := by decide +kernel
theorem dX8_takeAll_13 : decode cX8_takeAll 13 = .ok (.putfield 38, 3) := by decide +kernel
theorem dX8_takeAll_16 : decode cX8_takeAll 16 = .ok (.iconst 0, 1) := by decide +kernel
theorem dX8_takeAll_17 : decode cX8_takeAll 17 = .ok (.istore_n 2, 1) := by decide +kernel
theorem dX8_takeAll_18 : decode cX8_takeAll 18 = .ok (.iload_n 2, 1) := by decide +kernel
theorem dX8_takeAll_19 : decode cX8_takeAll 19 = .ok (.aload_n 1, 1) := by decide +kernel
theorem dX8_takeAll_20 : decode cX8_takeAll 20 = .ok (.invokevirtual 41, 3) := by decide +kernel
theorem dX8_takeAll_23 : decode cX8_takeAll 23 = .ok (.if_icmp .ge 61, 3) := by decide +kernel
theorem dX8_takeAll_26 : decode cX8_takeAll 26 = .ok (.iload_n 2, 1) := by decide +kernel
theorem dX8_takeAll_27 : decode cX8_takeAll 27 = .ok (.bipush 10, 2) := by decide +kernel
theorem dX8_takeAll_29 : decode cX8_takeAll 29 = .ok (.if_icmp .ge 55, 3) := by decide +kernel
theorem dX8_takeAll_32 : decode cX8_takeAll 32 = .ok (.aload_n 0, 1) := by decide +kernel
theorem dX8_takeAll_33 : decode cX8_takeAll 33 = .ok (.getfield 9, 3) := by decide +kernel
theorem dX8_takeAll_36 : decode cX8_takeAll 36 = .ok (.iload_n 2, 1) := by decide +kernel
theorem dX8_takeAll_37 : decode cX8_takeAll 37 = .ok (.aload_n 1, 1) := by decide +kernel
theorem dX8_takeAll_38 : decode cX8_takeAll 38 = .ok (.iload_n 2, 1) := by decide +kernel
theorem dX8_takeAll_39 : decode cX8_takeAll 39 = .ok (.invokevirtual 44, 3) := by decide +kernel
theorem dX8_takeAll_42 : decode cX8_takeAll 42 = .ok (.iastore, 1) := by decide +kernel
theorem dX8_takeAll_43 : decode cX8_takeAll 43 = .ok (.aload_n 0, 1) := by decide +kernel
theorem dX8_takeAll_44 : decode cX8_takeAll 44 = .ok (.getfield 15, 3) := by decide +kernel
theorem dX8_takeAll_47 : decode cX8_takeAll 47 = .ok (.iload_n 2, 1) := by decide +kernel
theorem dX8_takeAll_48 : decode cX8_takeAll 48 = .ok (.aload_n 1, 1) := by decide +kernel
theorem dX8_takeAll_49 : decode cX8_takeAll 49 = .ok (.iload_n 2, 1) := by decide +kernel
theorem dX8_takeAll_50 : decode cX8_takeAll 50 = .ok (.invokevirtual 48, 3) := by decide +kernel
theorem dX8_takeAll_53 : decode cX8_takeAll 53 = .ok (.iastore, 1) := by decide +kernel
theorem dX8_takeAll_54 : decode cX8_takeAll 54 = .ok (.aload_n 0, 1) := by decide +kernel
theorem dX8_takeAll_55 : decode cX8_takeAll 55 = .ok (.getfield 18, 3) := by decide +kernel
theorem dX8_takeAll_58 : decode cX8_takeAll 58 = .ok (.iload_n 2, 1) := by decide +kernel
theorem dX8_takeAll_59 : decode cX8_takeAll 59 = .ok (.aload_n 1, 1) := by decide +kernel
theorem dX8_takeAll_60 : decode cX8_takeAll 60 = .ok (.iload_n 2, 1) := by decide +kernel
theorem dX8_takeAll_61 : decode cX8_takeAll 61 = .ok (.invokevirtual 51, 3) := by decide +kernel
theorem dX8_takeAll_64 : decode cX8_takeAll 64 = .ok (.i2l, 1) := by decide +kernel
theorem dX8_takeAll_65 : decode cX8_takeAll 65 = .ok (.lastore, 1) := by decide +kernel
theorem dX8_takeAll_66 : decode cX8_takeAll 66 = .ok (.aload_n 0, 1) := by decide +kernel
theorem dX8_takeAll_67 : decode cX8_takeAll 67 = .ok (.getfield 22, 3) := by decide +kernel
theorem dX8_takeAll_70 : decode cX8_takeAll 70 = .ok (.iload_n 2, 1) := by decide +kernel
theorem dX8_takeAll_71 : decode cX8_takeAll 71 = .ok (.aload_n 1, 1) := by decide +kernel
theorem dX8_takeAll_72 : decode cX8_takeAll 72 = .ok (.iload_n 2, 1) := by decide +kernel
theorem dX8_takeAll_73 : decode cX8_takeAll 73 = .ok (.invokevirtual 54, 3) := by decide +kernel
theorem dX8_takeAll_76 : decode cX8_takeAll 76 = .ok (.i2l, 1) := by decide +kernel
theorem dX8_takeAll_77 : decode cX8_takeAll 77 = .ok (.lastore, 1) := by decide +kernel
theorem dX8_takeAll_78 : decode cX8_takeAll 78 = .ok (.iinc 2 1, 3) := by decide +kernel
theorem dX8_takeAll_81 : decode cX8_takeAll 81 = .ok (.goto (-63), 3) := by decide +kernel
theorem dX8_takeAll_84 : decode cX8_takeAll 84 = .ok (.aload_n 0, 1) := by decide +kernel
theorem dX8_takeAll_85 : decode cX8_takeAll 85 = .ok (.lconst 0, 1) := by decide +kernel
theorem dX8_takeAll_86 : decode cX8_takeAll 86 = .ok (.lconst 1, 1) := by decide +kernel
theorem dX8_takeAll_87 : decode cX8_takeAll 87 = .ok (.invokevirtual 57, 3) := by decide +kernel
theorem dX8_takeAll_90 : decode cX8_takeAll 90 = .ok (.return_, 1) := by decide +kernel
theorem dX8_takeCut_0 : decode cX8_takeCut 0 = .ok (.aload_n 0, 1) := by decide +kernel
theorem dX8_takeCut_1 : decode cX8_takeCut 1 = .ok (.aload_n 1, 1) := by decide +kernel
theorem dX8_takeCut_2 : decode cX8_takeCut 2 = .ok (.getfield 31, 3) := by decide +kernel
theorem dX8_takeCut_5 : decode cX8_takeCut 5 = .ok (.iconst 1, 1) := by decide +kernel
theorem dX8_takeCut_6 : decode cX8_takeCut 6 = .ok (.iload_n 2, 1) := by decide +kernel
theorem dX8_takeCut_7 : decode cX8_takeCut 7 = .ok (.ishl, 1) := by decide +kernel
theorem dX8_takeCut_8 : decode cX8_takeCut 8 = .ok (.iconst (-1), 1) := by decide +kernel
theorem dX8_takeCut_9 : decode cX8_takeCut 9 = .ok (.ixor, 1) := by decide +kernel
theorem dX8_takeCut_10 : decode cX8_takeCut 10 = .ok (.iand, 1) := by decide +kernel
theorem dX8_takeCut_11 : decode cX8_takeCut 11 = .ok (.putfield 31, 3) := by decide +kernel
theorem dX8_takeCut_14 : decode cX8_takeCut 14 = .ok (.aload_n 0, 1) := by decide +kernel
theorem dX8_takeCut_15 : decode cX8_takeCut 15 = .ok (.aload_n 1, 1) := by decide +kernel
theorem dX8_takeCut_16 : decode cX8_takeCut 16 = .ok (.getfield 38, 3) := by decide +kernel
theorem dX8_takeCut_19 : decode cX8_takeCut 19 = .ok (.putfield 38, 3) := by decide +kernel
theorem dX8_takeCut_22 : decode cX8_takeCut 22 = .ok (.iconst 0, 1) := by decide +kernel
theorem dX8_takeCut_23 : decode cX8_takeCut 23 = .ok (.istore_n 3, 1) := by decide +kernel
theorem dX8_takeCut_24 : decode cX8_takeCut 24 = .ok (.iload_n 3, 1) := by decide +kernel
theorem dX8_takeCut_25 : decode cX8_takeCut 25 = .ok (.bipush 10, 2) := by decide +kernel
theorem dX8_takeCut_27 : decode cX8_takeCut 27 = .ok (.if_icmp .ge 57, 3) := by decide +kernel
theorem dX8_takeCut_30 : decode cX8_takeCut 30 = .ok (.aload_n 0, 1) := by decide +kernel
theorem dX8_takeCut_31 : decode cX8_takeCut 31 = .ok (.getfield 9, 3) := by decide +kernel
theorem dX8_takeCut_34 : decode cX8_takeCut 34 = .ok (.iload_n 3, 1) := by decide +kernel
theorem dX8_takeCut_35 : decode cX8_takeCut 35 = .ok (.aload_n 1, 1) := by decide +kernel
theorem dX8_takeCut_36 : decode cX8_takeCut 36 = .ok (.getfield 9, 3) := by decide +kernel
theorem dX8_takeCut_39 : decode cX8_takeCut 39 = .ok (.iload_n 3, 1) := by decide +kernel
theorem dX8_takeCut_40 : decode cX8_takeCut 40 = .ok (.iaload, 1) := by decide +kernel
theorem dX8_takeCut_41 : decode cX8_takeCut 41 = .ok (.iastore, 1) := by decide +kernel
theorem dX8_takeCut_42 : decode cX8_takeCut 42 = .ok (.aload_n 0, 1) := by decide +kernel
theorem dX8_takeCut_43 : decode cX8_takeCut 43 = .ok (.getfield 15, 3) := by decide +kernel
theorem dX8_takeCut_46 : decode cX8_takeCut 46 = .ok (.iload_n 3, 1) := by decide +kernel
theorem dX8_takeCut_47 : decode cX8_takeCut 47 = .ok (.aload_n 1, 1) := by decide +kernel
theorem dX8_takeCut_48 : decode cX8_takeCut 48 = .ok (.getfield 15, 3) := by decide +kernel
theorem dX8_takeCut_51 : decode cX8_takeCut 51 = .ok (.iload_n 3, 1) := by decide +kernel
theorem dX8_takeCut_52 : decode cX8_takeCut 52 = .ok (.iaload, 1) := by decide +kernel
theorem dX8_takeCut_53 : decode cX8_takeCut 53 = .ok (.iastore, 1) := by decide +kernel
theorem dX8_takeCut_54 : decode cX8_takeCut 54 = .ok (.aload_n 0, 1) := by decide +kernel
theorem dX8_takeCut_55 : decode cX8_takeCut 55 = .ok (.getfield 18, 3) := by decide +kernel
theorem dX8_takeCut_58 : decode cX8_takeCut 58 = .ok (.iload_n 3, 1) := by decide +kernel
theorem dX8_takeCut_59 : decode cX8_takeCut 59 = .ok (.aload_n 1, 1) := by decide +kernel
theorem dX8_takeCut_60 : decode cX8_takeCut 60 = .ok (.getfield 18, 3) := by decide +kernel
theorem dX8_takeCut_63 : decode cX8_takeCut 63 = .ok (.iload_n 3, 1) := by decide +kernel
theorem dX8_takeCut_64 : decode cX8_takeCut 64 = .ok (.laload, 1) := by decide +kernel
theorem dX8_takeCut_65 : decode cX8_takeCut 65 = .ok (.lastore, 1) := by decide +kernel
theorem dX8_takeCut_66 : decode cX8_takeCut 66 = .ok (.aload_n 0, 1) := by decide +kernel
theorem dX8_takeCut_67 : decode cX8_takeCut 67 = .ok (.getfield 22, 3) := by decide +kernel
theorem dX8_takeCut_70 : decode cX8_takeCut 70 = .ok (.iload_n 3, 1) := by decide +kernel
theorem dX8_takeCut_71 : decode cX8_takeCut 71 = .ok (.aload_n 1, 1) := by decide +kernel
theorem dX8_takeCut_72 : decode cX8_takeCut 72 = .ok (.getfield 22, 3) := by decide +kernel
theorem dX8_takeCut_75 : decode cX8_takeCut 75 = .ok (.iload_n 3, 1) := by decide +kernel
theorem dX8_takeCut_76 : decode cX8_takeCut 76 = .ok (.laload, 1) := by decide +kernel
theorem dX8_takeCut_77 : decode cX8_takeCut 77 = .ok (.lastore, 1) := by decide +kernel
theorem dX8_takeCut_78 : decode cX8_takeCut 78 = .ok (.iinc 3 1, 3) := by decide +kernel
theorem dX8_takeCut_81 : decode cX8_takeCut 81 = .ok (.goto (-57), 3) := by decide +kernel
theorem dX8_takeCut_84 : decode cX8_takeCut 84 = .ok (.aload_n 0, 1) := by decide +kernel
theorem dX8_takeCut_85 : decode cX8_takeCut 85 = .ok (.lconst 0, 1) := by decide +kernel
theorem dX8_takeCut_86 : decode cX8_takeCut 86 = .ok (.lconst 1, 1) := by decide +kernel
theorem dX8_takeCut_87 : decode cX8_takeCut 87 = .ok (.invokevirtual 57, 3) := by decide +kernel
theorem dX8_takeCut_90 : decode cX8_takeCut 90 = .ok (.return_, 1) := by decide +kernel
theorem dX8_takeJoined_0 : decode cX8_takeJoined 0 = .ok (.aload_n 0, 1) := by decide +kernel
theorem dX8_takeJoined_1 : decode cX8_takeJoined 1 = .ok (.aload_n 1, 1) := by decide +kernel
theorem dX8_takeJoined_2 : decode cX8_takeJoined 2 = .ok (.iload_n 2, 1) := by decide +kernel
theorem dX8_takeJoined_3 : decode cX8_takeJoined 3 = .ok (.invokevirtual 61, 3) := by decide +kernel
theorem dX8_takeJoined_6 : decode cX8_takeJoined 6 = .ok (.iload_n 2, 1) := by decide +kernel
theorem dX8_takeJoined_7 : decode cX8_takeJoined 7 = .ok (.ifCond .lt 9, 3) := by decide +kernel
theorem dX8_takeJoined_10 : decode cX8_takeJoined 10 = .ok (.iload_n 2, 1) := by decide +kernel
theorem dX8_takeJoined_11 : decode cX8_takeJoined 11 = .ok (.bipush 10, 2) := by decide +kernel
theorem dX8_takeJoined_13 : decode cX8_takeJoined 13 = .ok (.if_icmp .lt 4, 3) := by decide +kernel
theorem dX8_takeJoined_16 : decode cX8_takeJoined 16 = .ok (.return_, 1) := by decide +kernel
theorem dX8_takeJoined_17 : decode cX8_takeJoined 17 = .ok (.aload_n 0, 1) := by decide +kernel
theorem dX8_takeJoined_18 : decode cX8_takeJoined 18 = .ok (.getfield 9, 3) := by decide +kernel
theorem dX8_takeJoined_21 : decode cX8_takeJoined 21 = .ok (.iload_n 2, 1) := by decide +kernel
theorem dX8_takeJoined_22 : decode cX8_takeJoined 22 = .ok (.iaload, 1) := by decide +kernel
theorem dX8_takeJoined_23 : decode cX8_takeJoined 23 = .ok (.aload_n 0, 1) := by decide +kernel
theorem dX8_takeJoined_24 : decode cX8_takeJoined 24 = .ok (.getfield 15, 3) := by decide +kernel
theorem dX8_takeJoined_27 : decode cX8_takeJoined 27 = .ok (.iload_n 2, 1) := by decide +kernel
theorem dX8_takeJoined_28 : decode cX8_takeJoined 28 = .ok (.iaload, 1) := by decide +kernel
theorem dX8_takeJoined_29 : decode cX8_takeJoined 29 = .ok (.invokestatic 65, 3) := by decide +kernel
theorem dX8_takeJoined_32 : decode cX8_takeJoined 32 = .ok (.istore_n 3, 1) := by decide +kernel
theorem dX8_takeJoined_33 : decode cX8_takeJoined 33 = .ok (.aload_n 0, 1) := by decide +kernel
theorem dX8_takeJoined_34 : decode cX8_takeJoined 34 = .ok (.getfield 9, 3) := by decide +kernel
theorem dX8_takeJoined_37 : decode cX8_takeJoined 37 = .ok (.iload_n 2, 1) := by decide +kernel
theorem dX8_takeJoined_38 : decode cX8_takeJoined 38 = .ok (.iaload, 1) := by decide +kernel
theorem dX8_takeJoined_39 : decode cX8_takeJoined 39 = .ok (.aload_n 0, 1) := by decide +kernel
theorem dX8_takeJoined_40 : decode cX8_takeJoined 40 = .ok (.getfield 15, 3) := by decide +kernel
theorem dX8_takeJoined_43 : decode cX8_takeJoined 43 = .ok (.iload_n 2, 1) := by decide +kernel
theorem dX8_takeJoined_44 : decode cX8_takeJoined 44 = .ok (.iaload, 1) := by decide +kernel
theorem dX8_takeJoined_45 : decode cX8_takeJoined 45 = .ok (.invokestatic 71, 3) := by decide +kernel
theorem dX8_takeJoined_48 : decode cX8_takeJoined 48 = .ok (.istore 4, 2) := by decide +kernel
theorem dX8_takeJoined_50 : decode cX8_takeJoined 50 = .ok (.iconst 0, 1) := by decide +kernel
theorem dX8_takeJoined_51 : decode cX8_takeJoined 51 = .ok (.istore 5, 2) := by decide +kernel
theorem dX8_takeJoined_53 : decode cX8_takeJoined 53 = .ok (.iload 5, 2) := by decide +kernel
theorem dX8_takeJoined_55 : decode cX8_takeJoined 55 = .ok (.bipush 10, 2) := by decide +kernel
theorem dX8_takeJoined_57 : decode cX8_takeJoined 57 = .ok (.if_icmp .ge 49, 3) := by decide +kernel
theorem dX8_takeJoined_60 : decode cX8_takeJoined 60 = .ok (.aload_n 0, 1) := by decide +kernel
theorem dX8_takeJoined_61 : decode cX8_takeJoined 61 = .ok (.getfield 9, 3) := by decide +kernel
theorem dX8_takeJoined_64 : decode cX8_takeJoined 64 = .ok (.iload 5, 2) := by decide +kernel
theorem dX8_takeJoined_66 : decode cX8_takeJoined 66 = .ok (.iaload, 1) := by decide +kernel
theorem dX8_takeJoined_67 : decode cX8_takeJoined 67 = .ok (.iload 4, 2) := by decide +kernel
theorem dX8_takeJoined_69 : decode cX8_takeJoined 69 = .ok (.if_icmp .ne 11, 3) := by decide +kernel
theorem dX8_takeJoined_72 : decode cX8_takeJoined 72 = .ok (.aload_n 0, 1) := by decide +kernel
theorem dX8_takeJoined_73 : decode cX8_takeJoined 73 = .ok (.getfield 9, 3) := by decide +kernel
theorem dX8_takeJoined_76 : decode cX8_takeJoined 76 = .ok (.iload 5, 2) := by decide +kernel
theorem dX8_takeJoined_78 : decode cX8_takeJoined 78 = .ok (.iload_n 3, 1) := by decide +kernel
theorem dX8_takeJoined_79 : decode cX8_takeJoined 79 = .ok (.iastore, 1) := by decide +kernel
theorem dX8_takeJoined_80 : decode cX8_takeJoined 80 = .ok (.aload_n 0, 1) := by decide +kernel
theorem dX8_takeJoined_81 : decode cX8_takeJoined 81 = .ok (.getfield 15, 3) := by decide +kernel
theorem dX8_takeJoined_84 : decode cX8_takeJoined 84 = .ok (.iload 5, 2) := by decide +kernel
theorem dX8_takeJoined_86 : decode cX8_takeJoined 86 = .ok (.iaload, 1) := by decide +kernel
theorem dX8_takeJoined_87 : decode cX8_takeJoined 87 = .ok (.iload 4, 2) := by decide +kernel
theorem dX8_takeJoined_89 : decode cX8_takeJoined 89 = .ok (.if_icmp .ne 11, 3) := by decide +kernel
theorem dX8_takeJoined_92 : decode cX8_takeJoined 92 = .ok (.aload_n 0, 1) := by decide +kernel
theorem dX8_takeJoined_93 : decode cX8_takeJoined 93 = .ok (.getfield 15, 3) := by decide +kernel
theorem dX8_takeJoined_96 : decode cX8_takeJoined 96 = .ok (.iload 5, 2) := by decide +kernel
theorem dX8_takeJoined_98 : decode cX8_takeJoined 98 = .ok (.iload_n 3, 1) := by decide +kernel
theorem dX8_takeJoined_99 : decode cX8_takeJoined 99 = .ok (.iastore, 1) := by decide +kernel
theorem dX8_takeJoined_100 : decode cX8_takeJoined 100 = .ok (.iinc 5 1, 3) := by decide +kernel
theorem dX8_takeJoined_103 : decode cX8_takeJoined 103 = .ok (.goto (-50), 3) := by decide +kernel
theorem dX8_takeJoined_106 : decode cX8_takeJoined 106 = .ok (.aload_n 0, 1) := by decide +kernel
theorem dX8_takeJoined_107 : decode cX8_takeJoined 107 = .ok (.iload 4, 2) := by decide +kernel
theorem dX8_takeJoined_109 : decode cX8_takeJoined 109 = .ok (.invokevirtual 74, 3) := by decide +kernel
theorem dX8_takeJoined_112 : decode cX8_takeJoined 112 = .ok (.ifCond .eq 22, 3) := by decide +kernel
theorem dX8_takeJoined_115 : decode cX8_takeJoined 115 = .ok (.aload_n 0, 1) := by decide +kernel
theorem dX8_takeJoined_116 : decode cX8_takeJoined 116 = .ok (.aload_n 0, 1) := by decide +kernel
theorem dX8_takeJoined_117 : decode cX8_takeJoined 117 = .ok (.getfield 38, 3) := by decide +kernel
theorem dX8_takeJoined_120 : decode cX8_takeJoined 120 = .ok (.iconst 1, 1) := by decide +kernel
theorem dX8_takeJoined_121 : decode cX8_takeJoined 121 = .ok (.iload 4, 2) := by decide +kernel
theorem dX8_takeJoined_123 : decode cX8_takeJoined 123 = .ok (.ishl, 1) := by decide +kernel
theorem dX8_takeJoined_124 : decode cX8_takeJoined 124 = .ok (.iconst (-1), 1) := by decide +kernel
theorem dX8_takeJoined_125 : decode cX8_takeJoined 125 = .ok (.ixor, 1) := by decide +kernel
theorem dX8_takeJoined_126 : decode cX8_takeJoined 126 = .ok (.iand, 1) := by decide +kernel
theorem dX8_takeJoined_127 : decode cX8_takeJoined 127 = .ok (.iconst 1, 1) := by decide +kernel
theorem dX8_takeJoined_128 : decode cX8_takeJoined 128 = .ok (.iload_n 3, 1) := by decide +kernel
theorem dX8_takeJoined_129 : decode cX8_takeJoined 129 = .ok (.ishl, 1) := by decide +kernel
theorem dX8_takeJoined_130 : decode cX8_takeJoined 130 = .ok (.ior, 1) := by decide +kernel
theorem dX8_takeJoined_131 : decode cX8_takeJoined 131 = .ok (.putfield 38, 3) := by decide +kernel
theorem dX8_takeJoined_134 : decode cX8_takeJoined 134 = .ok (.return_, 1) := by decide +kernel
theorem dX8_tidy_0 : decode cX8_tidy 0 = .ok (.iconst 0, 1) := by decide +kernel
theorem dX8_tidy_1 : decode cX8_tidy 1 = .ok (.istore_n 1, 1) := by decide +kernel
theorem dX8_tidy_2 : decode cX8_tidy 2 = .ok (.iload_n 1, 1) := by decide +kernel
theorem dX8_tidy_3 : decode cX8_tidy 3 = .ok (.bipush 10, 2) := by decide +kernel
theorem dX8_tidy_5 : decode cX8_tidy 5 = .ok (.if_icmp .ge 37, 3) := by decide +kernel
theorem dX8_tidy_8 : decode cX8_tidy 8 = .ok (.aload_n 0, 1) := by decide +kernel
theorem dX8_tidy_9 : decode cX8_tidy 9 = .ok (.invokevirtual 78, 3) := by decide +kernel
theorem dX8_tidy_12 : decode cX8_tidy 12 = .ok (.ifCond .ne 24, 3) := by decide +kernel
theorem dX8_tidy_15 : decode cX8_tidy 15 = .ok (.aload_n 0, 1) := by decide +kernel
theorem dX8_tidy_16 : decode cX8_tidy 16 = .ok (.invokevirtual 82, 3) := by decide +kernel
theorem dX8_tidy_19 : decode cX8_tidy 19 = .ok (.ifCond .ne 17, 3) := by decide +kernel
theorem dX8_tidy_22 : decode cX8_tidy 22 = .ok (.aload_n 0, 1) := by decide +kernel
theorem dX8_tidy_23 : decode cX8_tidy 23 = .ok (.invokevirtual 85, 3) := by decide +kernel
theorem dX8_tidy_26 : decode cX8_tidy 26 = .ok (.ifCond .ne 10, 3) := by decide +kernel
theorem dX8_tidy_29 : decode cX8_tidy 29 = .ok (.aload_n 0, 1) := by decide +kernel
theorem dX8_tidy_30 : decode cX8_tidy 30 = .ok (.invokevirtual 88, 3) := by decide +kernel
theorem dX8_tidy_33 : decode cX8_tidy 33 = .ok (.ifCond .eq 9, 3) := by decide +kernel
theorem dX8_tidy_36 : decode cX8_tidy 36 = .ok (.iinc 1 1, 3) := by decide +kernel
theorem dX8_tidy_39 : decode cX8_tidy 39 = .ok (.goto (-37), 3) := by decide +kernel
theorem dX8_tidy_42 : decode cX8_tidy 42 = .ok (.iload_n 1, 1) := by decide +kernel
theorem dX8_tidy_43 : decode cX8_tidy 43 = .ok (.ireturn, 1) := by decide +kernel
theorem dX8_isSettled_0 : decode cX8_isSettled 0 = .ok (.aload_n 0, 1) := by decide +kernel
theorem dX8_isSettled_1 : decode cX8_isSettled 1 = .ok (.getfield 38, 3) := by decide +kernel
theorem dX8_isSettled_4 : decode cX8_isSettled 4 = .ok (.invokestatic 91, 3) := by decide +kernel
theorem dX8_isSettled_7 : decode cX8_isSettled 7 = .ok (.iconst 1, 1) := by decide +kernel
theorem dX8_isSettled_8 : decode cX8_isSettled 8 = .ok (.if_icmp .ne 11, 3) := by decide +kernel
theorem dX8_isSettled_11 : decode cX8_isSettled 11 = .ok (.aload_n 0, 1) := by decide +kernel
theorem dX8_isSettled_12 : decode cX8_isSettled 12 = .ok (.lconst 1, 1) := by decide +kernel
theorem dX8_isSettled_13 : decode cX8_isSettled 13 = .ok (.lconst 1, 1) := by decide +kernel
theorem dX8_isSettled_14 : decode cX8_isSettled 14 = .ok (.invokevirtual 57, 3) := by decide +kernel
theorem dX8_isSettled_17 : decode cX8_isSettled 17 = .ok (.iconst 1, 1) := by decide +kernel
theorem dX8_isSettled_18 : decode cX8_isSettled 18 = .ok (.ireturn, 1) := by decide +kernel
theorem dX8_isSettled_19 : decode cX8_isSettled 19 = .ok (.iconst 0, 1) := by decide +kernel
theorem dX8_isSettled_20 : decode cX8_isSettled 20 = .ok (.istore_n 1, 1) := by decide +kernel
theorem dX8_isSettled_21 : decode cX8_isSettled 21 = .ok (.iload_n 1, 1) := by decide +kernel
theorem dX8_isSettled_22 : decode cX8_isSettled 22 = .ok (.bipush 7, 2) := by decide +kernel
theorem dX8_isSettled_24 : decode cX8_isSettled 24 = .ok (.if_icmp .ge 27, 3) := by decide +kernel
theorem dX8_isSettled_27 : decode cX8_isSettled 27 = .ok (.aload_n 0, 1) := by decide +kernel
theorem dX8_isSettled_28 : decode cX8_isSettled 28 = .ok (.iload_n 1, 1) := by decide +kernel
theorem dX8_isSettled_29 : decode cX8_isSettled 29 = .ok (.invokevirtual 74, 3) := by decide +kernel
theorem dX8_isSettled_32 : decode cX8_isSettled 32 = .ok (.ifCond .eq 13, 3) := by decide +kernel
theorem dX8_isSettled_35 : decode cX8_isSettled 35 = .ok (.aload_n 0, 1) := by decide +kernel
theorem dX8_isSettled_36 : decode cX8_isSettled 36 = .ok (.iload_n 1, 1) := by decide +kernel
theorem dX8_isSettled_37 : decode cX8_isSettled 37 = .ok (.invokevirtual 96, 3) := by decide +kernel
theorem dX8_isSettled_40 : decode cX8_isSettled 40 = .ok (.ifCond .ne 5, 3) := by decide +kernel
theorem dX8_isSettled_43 : decode cX8_isSettled 43 = .ok (.iconst 1, 1) := by decide +kernel
theorem dX8_isSettled_44 : decode cX8_isSettled 44 = .ok (.ireturn, 1) := by decide +kernel
theorem dX8_isSettled_45 : decode cX8_isSettled 45 = .ok (.iinc 1 1, 3) := by decide +kernel
theorem dX8_isSettled_48 : decode cX8_isSettled 48 = .ok (.goto (-27), 3) := by decide +kernel
theorem dX8_isSettled_51 : decode cX8_isSettled 51 = .ok (.aload_n 0, 1) := by decide +kernel
theorem dX8_isSettled_52 : decode cX8_isSettled 52 = .ok (.getfield 31, 3) := by decide +kernel
theorem dX8_isSettled_55 : decode cX8_isSettled 55 = .ok (.ifCond .ne 7, 3) := by decide +kernel
theorem dX8_isSettled_58 : decode cX8_isSettled 58 = .ok (.iconst 1, 1) := by decide +kernel
theorem dX8_isSettled_59 : decode cX8_isSettled 59 = .ok (.goto 4, 3) := by decide +kernel
theorem dX8_isSettled_62 : decode cX8_isSettled 62 = .ok (.iconst 0, 1) := by decide +kernel
theorem dX8_isSettled_63 : decode cX8_isSettled 63 = .ok (.ireturn, 1) := by decide +kernel
theorem dX8_leastLink_0 : decode cX8_leastLink 0 = .ok (.aload_n 0, 1) := by decide +kernel
theorem dX8_leastLink_1 : decode cX8_leastLink 1 = .ok (.getfield 31, 3) := by decide +kernel
theorem dX8_leastLink_4 : decode cX8_leastLink 4 = .ok (.invokestatic 99, 3) := by decide +kernel
theorem dX8_leastLink_7 : decode cX8_leastLink 7 = .ok (.ireturn, 1) := by decide +kernel
theorem dX8_canBeUp_0 : decode cX8_canBeUp 0 = .ok (.aload_n 0, 1) := by decide +kernel
theorem dX8_canBeUp_1 : decode cX8_canBeUp 1 = .ok (.iload_n 1, 1) := by decide +kernel
theorem dX8_canBeUp_2 : decode cX8_canBeUp 2 = .ok (.invokevirtual 102, 3) := by decide +kernel
theorem dX8_canBeUp_5 : decode cX8_canBeUp 5 = .ok (.ifCond .eq 18, 3) := by decide +kernel
theorem dX8_canBeUp_8 : decode cX8_canBeUp 8 = .ok (.aload_n 0, 1) := by decide +kernel
theorem dX8_canBeUp_9 : decode cX8_canBeUp 9 = .ok (.getfield 18, 3) := by decide +kernel
theorem dX8_canBeUp_12 : decode cX8_canBeUp 12 = .ok (.iload_n 1, 1) := by decide +kernel
theorem dX8_canBeUp_13 : decode cX8_canBeUp 13 = .ok (.laload, 1) := by decide +kernel
theorem dX8_canBeUp_14 : decode cX8_canBeUp 14 = .ok (.lconst 0, 1) := by decide +kernel
theorem dX8_canBeUp_15 : decode cX8_canBeUp 15 = .ok (.lcmp, 1) := by decide +kernel
theorem dX8_canBeUp_16 : decode cX8_canBeUp 16 = .ok (.ifCond .eq 7, 3) := by decide +kernel
theorem dX8_canBeUp_19 : decode cX8_canBeUp 19 = .ok (.iconst 1, 1) := by decide +kernel
theorem dX8_canBeUp_20 : decode cX8_canBeUp 20 = .ok (.goto 4, 3) := by decide +kernel
theorem dX8_canBeUp_23 : decode cX8_canBeUp 23 = .ok (.iconst 0, 1) := by decide +kernel
theorem dX8_canBeUp_24 : decode cX8_canBeUp 24 = .ok (.ireturn, 1) := by decide +kernel
theorem dX8_canBeDown_0 : decode cX8_canBeDown 0 = .ok (.aload_n 0, 1) := by decide +kernel
theorem dX8_canBeDown_1 : decode cX8_canBeDown 1 = .ok (.iload_n 1, 1) := by decide +kernel
theorem dX8_canBeDown_2 : decode cX8_canBeDown 2 = .ok (.invokevirtual 102, 3) := by decide +kernel
theorem dX8_canBeDown_5 : decode cX8_canBeDown 5 = .ok (.ifCond .eq 23, 3) := by decide +kernel
theorem dX8_canBeDown_8 : decode cX8_canBeDown 8 = .ok (.aload_n 0, 1) := by decide +kernel
theorem dX8_canBeDown_9 : decode cX8_canBeDown 9 = .ok (.getfield 18, 3) := by decide +kernel
theorem dX8_canBeDown_12 : decode cX8_canBeDown 12 = .ok (.iload_n 1, 1) := by decide +kernel
theorem dX8_canBeDown_13 : decode cX8_canBeDown 13 = .ok (.laload, 1) := by decide +kernel
theorem dX8_canBeDown_14 : decode cX8_canBeDown 14 = .ok (.aload_n 0, 1) := by decide +kernel
theorem dX8_canBeDown_15 : decode cX8_canBeDown 15 = .ok (.getfield 22, 3) := by decide +kernel
theorem dX8_canBeDown_18 : decode cX8_canBeDown 18 = .ok (.iload_n 1, 1) := by decide +kernel
theorem dX8_canBeDown_19 : decode cX8_canBeDown 19 = .ok (.laload, 1) := by decide +kernel
theorem dX8_canBeDown_20 : decode cX8_canBeDown 20 = .ok (.lcmp, 1) := by decide +kernel
theorem dX8_canBeDown_21 : decode cX8_canBeDown 21 = .ok (.ifCond .eq 7, 3) := by decide +kernel
theorem dX8_canBeDown_24 : decode cX8_canBeDown 24 = .ok (.iconst 1, 1) := by decide +kernel
theorem dX8_canBeDown_25 : decode cX8_canBeDown 25 = .ok (.goto 4, 3) := by decide +kernel
theorem dX8_canBeDown_28 : decode cX8_canBeDown 28 = .ok (.iconst 0, 1) := by decide +kernel
theorem dX8_canBeDown_29 : decode cX8_canBeDown 29 = .ok (.ireturn, 1) := by decide +kernel
theorem dX8_addUp_0 : decode cX8_addUp 0 = .ok (.aload_n 0, 1) := by decide +kernel
theorem dX8_addUp_1 : decode cX8_addUp 1 = .ok (.iload_n 1, 1) := by decide +kernel
theorem dX8_addUp_2 : decode cX8_addUp 2 = .ok (.invokevirtual 102, 3) := by decide +kernel
theorem dX8_addUp_5 : decode cX8_addUp 5 = .ok (.ifCond .eq 29, 3) := by decide +kernel
theorem dX8_addUp_8 : decode cX8_addUp 8 = .ok (.aload_n 0, 1) := by decide +kernel
theorem dX8_addUp_9 : decode cX8_addUp 9 = .ok (.aload_n 0, 1) := by decide +kernel
theorem dX8_addUp_10 : decode cX8_addUp 10 = .ok (.getfield 18, 3) := by decide +kernel
theorem dX8_addUp_13 : decode cX8_addUp 13 = .ok (.iload_n 1, 1) := by decide +kernel
theorem dX8_addUp_14 : decode cX8_addUp 14 = .ok (.laload, 1) := by decide +kernel
theorem dX8_addUp_15 : decode cX8_addUp 15 = .ok (.aload_n 2, 1) := by decide +kernel
theorem dX8_addUp_16 : decode cX8_addUp 16 = .ok (.getfield 105, 3) := by decide +kernel
theorem dX8_addUp_19 : decode cX8_addUp 19 = .ok (.lmul, 1) := by decide +kernel
theorem dX8_addUp_20 : decode cX8_addUp 20 = .ok (.aload_n 0, 1) := by decide +kernel
theorem dX8_addUp_21 : decode cX8_addUp 21 = .ok (.getfield 22, 3) := by decide +kernel
theorem dX8_addUp_24 : decode cX8_addUp 24 = .ok (.iload_n 1, 1) := by decide +kernel
theorem dX8_addUp_25 : decode cX8_addUp 25 = .ok (.laload, 1) := by decide +kernel
theorem dX8_addUp_26 : decode cX8_addUp 26 = .ok (.aload_n 2, 1) := by decide +kernel
theorem dX8_addUp_27 : decode cX8_addUp 27 = .ok (.getfield 109, 3) := by decide +kernel
theorem dX8_addUp_30 : decode cX8_addUp 30 = .ok (.lmul, 1) := by decide +kernel
theorem dX8_addUp_31 : decode cX8_addUp 31 = .ok (.invokevirtual 112, 3) := by decide +kernel
theorem dX8_addUp_34 : decode cX8_addUp 34 = .ok (.return_, 1) := by decide +kernel
theorem dX8_addDown_0 : decode cX8_addDown 0 = .ok (.aload_n 0, 1) := by decide +kernel
theorem dX8_addDown_1 : decode cX8_addDown 1 = .ok (.iload_n 1, 1) := by decide +kernel
theorem dX8_addDown_2 : decode cX8_addDown 2 = .ok (.invokevirtual 102, 3) := by decide +kernel
theorem dX8_addDown_5 : decode cX8_addDown 5 = .ok (.ifCond .eq 36, 3) := by decide +kernel
theorem dX8_addDown_8 : decode cX8_addDown 8 = .ok (.aload_n 0, 1) := by decide +kernel
theorem dX8_addDown_9 : decode cX8_addDown 9 = .ok (.aload_n 0, 1) := by decide +kernel
theorem dX8_addDown_10 : decode cX8_addDown 10 = .ok (.getfield 22, 3) := by decide +kernel
theorem dX8_addDown_13 : decode cX8_addDown 13 = .ok (.iload_n 1, 1) := by decide +kernel
theorem dX8_addDown_14 : decode cX8_addDown 14 = .ok (.laload, 1) := by decide +kernel
theorem dX8_addDown_15 : decode cX8_addDown 15 = .ok (.aload_n 0, 1) := by decide +kernel
theorem dX8_addDown_16 : decode cX8_addDown 16 = .ok (.getfield 18, 3) := by decide +kernel
theorem dX8_addDown_19 : decode cX8_addDown 19 = .ok (.iload_n 1, 1) := by decide +kernel
theorem dX8_addDown_20 : decode cX8_addDown 20 = .ok (.laload, 1) := by decide +kernel
theorem dX8_addDown_21 : decode cX8_addDown 21 = .ok (.lsub, 1) := by decide +kernel
theorem dX8_addDown_22 : decode cX8_addDown 22 = .ok (.aload_n 2, 1) := by decide +kernel
theorem dX8_addDown_23 : decode cX8_addDown 23 = .ok (.getfield 105, 3) := by decide +kernel
theorem dX8_addDown_26 : decode cX8_addDown 26 = .ok (.lmul, 1) := by decide +kernel
theorem dX8_addDown_27 : decode cX8_addDown 27 = .ok (.aload_n 0, 1) := by decide +kernel
theorem dX8_addDown_28 : decode cX8_addDown 28 = .ok (.getfield 22, 3) := by decide +kernel
theorem dX8_addDown_31 : decode cX8_addDown 31 = .ok (.iload_n 1, 1) := by decide +kernel
theorem dX8_addDown_32 : decode cX8_addDown 32 = .ok (.laload, 1) := by decide +kernel
theorem dX8_addDown_33 : decode cX8_addDown 33 = .ok (.aload_n 2, 1) := by decide +kernel
theorem dX8_addDown_34 : decode cX8_addDown 34 = .ok (.getfield 109, 3) := by decide +kernel
theorem dX8_addDown_37 : decode cX8_addDown 37 = .ok (.lmul, 1) := by decide +kernel
theorem dX8_addDown_38 : decode cX8_addDown 38 = .ok (.invokevirtual 112, 3) := by decide +kernel
theorem dX8_addDown_41 : decode cX8_addDown 41 = .ok (.return_, 1) := by decide +kernel
theorem dX8_answerAbove_0 : decode cX8_answerAbove 0 = .ok (.aload_n 0, 1) := by decide +kernel
theorem dX8_answerAbove_1 : decode cX8_answerAbove 1 = .ok (.getfield 105, 3) := by decide +kernel
theorem dX8_answerAbove_4 : decode cX8_answerAbove 4 = .ok (.lreturn, 1) := by decide +kernel
theorem dX8_answerBelow_0 : decode cX8_answerBelow 0 = .ok (.aload_n 0, 1) := by decide +kernel
theorem dX8_answerBelow_1 : decode cX8_answerBelow 1 = .ok (.getfield 109, 3) := by decide +kernel
theorem dX8_answerBelow_4 : decode cX8_answerBelow 4 = .ok (.lreturn, 1) := by decide +kernel
theorem dX8_answer_0 : decode cX8_answer 0 = .ok (.aload_n 0, 1) := by decide +kernel
theorem dX8_answer_1 : decode cX8_answer 1 = .ok (.lload_n 1, 1) := by decide +kernel
theorem dX8_answer_2 : decode cX8_answer 2 = .ok (.putfield 105, 3) := by decide +kernel
theorem dX8_answer_5 : decode cX8_answer 5 = .ok (.aload_n 0, 1) := by decide +kernel
theorem dX8_answer_6 : decode cX8_answer 6 = .ok (.lload_n 3, 1) := by decide +kernel
theorem dX8_answer_7 : decode cX8_answer 7 = .ok (.putfield 109, 3) := by decide +kernel
theorem dX8_answer_10 : decode cX8_answer 10 = .ok (.return_, 1) := by decide +kernel
theorem dX8_add_0 : decode cX8_add 0 = .ok (.aload_n 0, 1) := by decide +kernel
theorem dX8_add_1 : decode cX8_add 1 = .ok (.getfield 109, 3) := by decide +kernel
theorem dX8_add_4 : decode cX8_add 4 = .ok (.lload_n 3, 1) := by decide +kernel
theorem dX8_add_5 : decode cX8_add 5 = .ok (.invokestatic 115, 3) := by decide +kernel
theorem dX8_add_8 : decode cX8_add 8 = .ok (.lstore 5, 2) := by decide +kernel
theorem dX8_add_10 : decode cX8_add 10 = .ok (.lload 5, 2) := by decide +kernel
theorem dX8_add_12 : decode cX8_add 12 = .ok (.lconst 0, 1) := by decide +kernel
theorem dX8_add_13 : decode cX8_add 13 = .ok (.lcmp, 1) := by decide +kernel
theorem dX8_add_14 : decode cX8_add 14 = .ok (.ifCond .ne 4, 3) := by decide +kernel
theorem dX8_add_17 : decode cX8_add 17 = .ok (.return_, 1) := by decide +kernel
theorem dX8_add_18 : decode cX8_add 18 = .ok (.aload_n 0, 1) := by decide +kernel
theorem dX8_add_19 : decode cX8_add 19 = .ok (.getfield 105, 3) := by decide +kernel
theorem dX8_add_22 : decode cX8_add 22 = .ok (.lload_n 3, 1) := by decide +kernel
theorem dX8_add_23 : decode cX8_add 23 = .ok (.lload 5, 2) := by decide +kernel
theorem dX8_add_25 : decode cX8_add 25 = .ok (.ldiv, 1) := by decide +kernel
theorem dX8_add_26 : decode cX8_add 26 = .ok (.lmul, 1) := by decide +kernel
theorem dX8_add_27 : decode cX8_add 27 = .ok (.lload_n 1, 1) := by decide +kernel
theorem dX8_add_28 : decode cX8_add 28 = .ok (.aload_n 0, 1) := by decide +kernel
theorem dX8_add_29 : decode cX8_add 29 = .ok (.getfield 109, 3) := by decide +kernel
theorem dX8_add_32 : decode cX8_add 32 = .ok (.lload 5, 2) := by decide +kernel
theorem dX8_add_34 : decode cX8_add 34 = .ok (.ldiv, 1) := by decide +kernel
theorem dX8_add_35 : decode cX8_add 35 = .ok (.lmul, 1) := by decide +kernel
theorem dX8_add_36 : decode cX8_add 36 = .ok (.ladd, 1) := by decide +kernel
theorem dX8_add_37 : decode cX8_add 37 = .ok (.lstore 7, 2) := by decide +kernel
theorem dX8_add_39 : decode cX8_add 39 = .ok (.aload_n 0, 1) := by decide +kernel
theorem dX8_add_40 : decode cX8_add 40 = .ok (.getfield 109, 3) := by decide +kernel
theorem dX8_add_43 : decode cX8_add 43 = .ok (.lload 5, 2) := by decide +kernel
theorem dX8_add_45 : decode cX8_add 45 = .ok (.ldiv, 1) := by decide +kernel
theorem dX8_add_46 : decode cX8_add 46 = .ok (.lload_n 3, 1) := by decide +kernel
theorem dX8_add_47 : decode cX8_add 47 = .ok (.lmul, 1) := by decide +kernel
theorem dX8_add_48 : decode cX8_add 48 = .ok (.lstore 9, 2) := by decide +kernel
theorem dX8_add_50 : decode cX8_add 50 = .ok (.aload_n 0, 1) := by decide +kernel
theorem dX8_add_51 : decode cX8_add 51 = .ok (.lload 7, 2) := by decide +kernel
theorem dX8_add_53 : decode cX8_add 53 = .ok (.lload 9, 2) := by decide +kernel
theorem dX8_add_55 : decode cX8_add 55 = .ok (.iconst 0, 1) := by decide +kernel
theorem dX8_add_56 : decode cX8_add 56 = .ok (.invokestatic 121, 3) := by decide +kernel
theorem dX8_add_59 : decode cX8_add 59 = .ok (.lload 7, 2) := by decide +kernel
theorem dX8_add_61 : decode cX8_add 61 = .ok (.lload 9, 2) := by decide +kernel
theorem dX8_add_63 : decode cX8_add 63 = .ok (.iconst 1, 1) := by decide +kernel
theorem dX8_add_64 : decode cX8_add 64 = .ok (.invokestatic 121, 3) := by decide +kernel
theorem dX8_add_67 : decode cX8_add 67 = .ok (.invokevirtual 57, 3) := by decide +kernel
theorem dX8_add_70 : decode cX8_add 70 = .ok (.return_, 1) := by decide +kernel
theorem dX8_isThere_0 : decode cX8_isThere 0 = .ok (.iload_n 1, 1) := by decide +kernel
theorem dX8_isThere_1 : decode cX8_isThere 1 = .ok (.ifCond .lt 24, 3) := by decide +kernel
theorem dX8_isThere_4 : decode cX8_isThere 4 = .ok (.iload_n 1, 1) := by decide +kernel
theorem dX8_isThere_5 : decode cX8_isThere 5 = .ok (.bipush 10, 2) := by decide +kernel
theorem dX8_isThere_7 : decode cX8_isThere 7 = .ok (.if_icmp .ge 18, 3) := by decide +kernel
theorem dX8_isThere_10 : decode cX8_isThere 10 = .ok (.aload_n 0, 1) := by decide +kernel
theorem dX8_isThere_11 : decode cX8_isThere 11 = .ok (.getfield 31, 3) := by decide +kernel
theorem dX8_isThere_14 : decode cX8_isThere 14 = .ok (.iload_n 1, 1) := by decide +kernel
theorem dX8_isThere_15 : decode cX8_isThere 15 = .ok (.iushr, 1) := by decide +kernel
theorem dX8_isThere_16 : decode cX8_isThere 16 = .ok (.iconst 1, 1) := by decide +kernel
theorem dX8_isThere_17 : decode cX8_isThere 17 = .ok (.iand, 1) := by decide +kernel
theorem dX8_isThere_18 : decode cX8_isThere 18 = .ok (.ifCond .eq 7, 3) := by decide +kernel
theorem dX8_isThere_21 : decode cX8_isThere 21 = .ok (.iconst 1, 1) := by decide +kernel
theorem dX8_isThere_22 : decode cX8_isThere 22 = .ok (.goto 4, 3) := by decide +kernel
theorem dX8_isThere_25 : decode cX8_isThere 25 = .ok (.iconst 0, 1) := by decide +kernel
theorem dX8_isThere_26 : decode cX8_isThere 26 = .ok (.ireturn, 1) := by decide +kernel
theorem dX8_isWanted_0 : decode cX8_isWanted 0 = .ok (.aload_n 0, 1) := by decide +kernel
theorem dX8_isWanted_1 : decode cX8_isWanted 1 = .ok (.getfield 38, 3) := by decide +kernel
theorem dX8_isWanted_4 : decode cX8_isWanted 4 = .ok (.iload_n 1, 1) := by decide +kernel
theorem dX8_isWanted_5 : decode cX8_isWanted 5 = .ok (.iushr, 1) := by decide +kernel
theorem dX8_isWanted_6 : decode cX8_isWanted 6 = .ok (.iconst 1, 1) := by decide +kernel
theorem dX8_isWanted_7 : decode cX8_isWanted 7 = .ok (.iand, 1) := by decide +kernel
theorem dX8_isWanted_8 : decode cX8_isWanted 8 = .ok (.ifCond .eq 7, 3) := by decide +kernel
theorem dX8_isWanted_11 : decode cX8_isWanted 11 = .ok (.iconst 1, 1) := by decide +kernel
theorem dX8_isWanted_12 : decode cX8_isWanted 12 = .ok (.goto 4, 3) := by decide +kernel
theorem dX8_isWanted_15 : decode cX8_isWanted 15 = .ok (.iconst 0, 1) := by decide +kernel
theorem dX8_isWanted_16 : decode cX8_isWanted 16 = .ok (.ireturn, 1) := by decide +kernel
theorem dX8_linksAt_0 : decode cX8_linksAt 0 = .ok (.iconst 0, 1) := by decide +kernel
theorem dX8_linksAt_1 : decode cX8_linksAt 1 = .ok (.istore_n 2, 1) := by decide +kernel
theorem dX8_linksAt_2 : decode cX8_linksAt 2 = .ok (.iconst 0, 1) := by decide +kernel
theorem dX8_linksAt_3 : decode cX8_linksAt 3 = .ok (.istore_n 3, 1) := by decide +kernel
theorem dX8_linksAt_4 : decode cX8_linksAt 4 = .ok (.iload_n 3, 1) := by decide +kernel
theorem dX8_linksAt_5 : decode cX8_linksAt 5 = .ok (.bipush 10, 2) := by decide +kernel
theorem dX8_linksAt_7 : decode cX8_linksAt 7 = .ok (.if_icmp .ge 43, 3) := by decide +kernel
theorem dX8_linksAt_10 : decode cX8_linksAt 10 = .ok (.aload_n 0, 1) := by decide +kernel
theorem dX8_linksAt_11 : decode cX8_linksAt 11 = .ok (.iload_n 3, 1) := by decide +kernel
theorem dX8_linksAt_12 : decode cX8_linksAt 12 = .ok (.invokevirtual 102, 3) := by decide +kernel
theorem dX8_linksAt_15 : decode cX8_linksAt 15 = .ok (.ifCond .eq 29, 3) := by decide +kernel
theorem dX8_linksAt_18 : decode cX8_linksAt 18 = .ok (.aload_n 0, 1) := by decide +kernel
theorem dX8_linksAt_19 : decode cX8_linksAt 19 = .ok (.getfield 9, 3) := by decide +kernel
theorem dX8_linksAt_22 : decode cX8_linksAt 22 = .ok (.iload_n 3, 1) := by decide +kernel
theorem dX8_linksAt_23 : decode cX8_linksAt 23 = .ok (.iaload, 1) := by decide +kernel
theorem dX8_linksAt_24 : decode cX8_linksAt 24 = .ok (.iload_n 1, 1) := by decide +kernel
theorem dX8_linksAt_25 : decode cX8_linksAt 25 = .ok (.if_icmp .eq 13, 3) := by decide +kernel
theorem dX8_linksAt_28 : decode cX8_linksAt 28 = .ok (.aload_n 0, 1) := by decide +kernel
theorem dX8_linksAt_29 : decode cX8_linksAt 29 = .ok (.getfield 15, 3) := by decide +kernel
theorem dX8_linksAt_32 : decode cX8_linksAt 32 = .ok (.iload_n 3, 1) := by decide +kernel
theorem dX8_linksAt_33 : decode cX8_linksAt 33 = .ok (.iaload, 1) := by decide +kernel
theorem dX8_linksAt_34 : decode cX8_linksAt 34 = .ok (.iload_n 1, 1) := by decide +kernel
theorem dX8_linksAt_35 : decode cX8_linksAt 35 = .ok (.if_icmp .ne 9, 3) := by decide +kernel
theorem dX8_linksAt_38 : decode cX8_linksAt 38 = .ok (.iload_n 2, 1) := by decide +kernel
theorem dX8_linksAt_39 : decode cX8_linksAt 39 = .ok (.iconst 1, 1) := by decide +kernel
theorem dX8_linksAt_40 : decode cX8_linksAt 40 = .ok (.iload_n 3, 1) := by decide +kernel
theorem dX8_linksAt_41 : decode cX8_linksAt 41 = .ok (.ishl, 1) := by decide +kernel
theorem dX8_linksAt_42 : decode cX8_linksAt 42 = .ok (.ior, 1) := by decide +kernel
theorem dX8_linksAt_43 : decode cX8_linksAt 43 = .ok (.istore_n 2, 1) := by decide +kernel
theorem dX8_linksAt_44 : decode cX8_linksAt 44 = .ok (.iinc 3 1, 3) := by decide +kernel
theorem dX8_linksAt_47 : decode cX8_linksAt 47 = .ok (.goto (-43), 3) := by decide +kernel
theorem dX8_linksAt_50 : decode cX8_linksAt 50 = .ok (.iload_n 2, 1) := by decide +kernel
theorem dX8_linksAt_51 : decode cX8_linksAt 51 = .ok (.ireturn, 1) := by decide +kernel
theorem dX8_dropRound_0 : decode cX8_dropRound 0 = .ok (.iconst 0, 1) := by decide +kernel
theorem dX8_dropRound_1 : decode cX8_dropRound 1 = .ok (.istore_n 1, 1) := by decide +kernel
theorem dX8_dropRound_2 : decode cX8_dropRound 2 = .ok (.iload_n 1, 1) := by decide +kernel
theorem dX8_dropRound_3 : decode cX8_dropRound 3 = .ok (.bipush 10, 2) := by decide +kernel
theorem dX8_dropRound_5 : decode cX8_dropRound 5 = .ok (.if_icmp .ge 51, 3) := by decide +kernel
theorem dX8_dropRound_8 : decode cX8_dropRound 8 = .ok (.aload_n 0, 1) := by decide +kernel
theorem dX8_dropRound_9 : decode cX8_dropRound 9 = .ok (.iload_n 1, 1) := by decide +kernel
theorem dX8_dropRound_10 : decode cX8_dropRound 10 = .ok (.invokevirtual 102, 3) := by decide +kernel
theorem dX8_dropRound_13 : decode cX8_dropRound 13 = .ok (.ifCond .eq 37, 3) := by decide +kernel
theorem dX8_dropRound_16 : decode cX8_dropRound 16 = .ok (.aload_n 0, 1) := by decide +kernel
theorem dX8_dropRound_17 : decode cX8_dropRound 17 = .ok (.getfield 9, 3) := by decide +kernel
theorem dX8_dropRound_20 : decode cX8_dropRound 20 = .ok (.iload_n 1, 1) := by decide +kernel
theorem dX8_dropRound_21 : decode cX8_dropRound 21 = .ok (.iaload, 1) := by decide +kernel
theorem dX8_dropRound_22 : decode cX8_dropRound 22 = .ok (.aload_n 0, 1) := by decide +kernel
theorem dX8_dropRound_23 : decode cX8_dropRound 23 = .ok (.getfield 15, 3) := by decide +kernel
theorem dX8_dropRound_26 : decode cX8_dropRound 26 = .ok (.iload_n 1, 1) := by decide +kernel
theorem dX8_dropRound_27 : decode cX8_dropRound 27 = .ok (.iaload, 1) := by decide +kernel
theorem dX8_dropRound_28 : decode cX8_dropRound 28 = .ok (.if_icmp .eq 6, 3) := by decide +kernel
theorem dX8_dropRound_31 : decode cX8_dropRound 31 = .ok (.goto 19, 3) := by decide +kernel
theorem dX8_dropRound_34 : decode cX8_dropRound 34 = .ok (.aload_n 0, 1) := by decide +kernel
theorem dX8_dropRound_35 : decode cX8_dropRound 35 = .ok (.dup, 1) := by decide +kernel
theorem dX8_dropRound_36 : decode cX8_dropRound 36 = .ok (.getfield 31, 3) := by decide +kernel
theorem dX8_dropRound_39 : decode cX8_dropRound 39 = .ok (.iconst 1, 1) := by decide +kernel
theorem dX8_dropRound_40 : decode cX8_dropRound 40 = .ok (.iload_n 1, 1) := by decide +kernel
theorem dX8_dropRound_41 : decode cX8_dropRound 41 = .ok (.ishl, 1) := by decide +kernel
theorem dX8_dropRound_42 : decode cX8_dropRound 42 = .ok (.iconst (-1), 1) := by decide +kernel
theorem dX8_dropRound_43 : decode cX8_dropRound 43 = .ok (.ixor, 1) := by decide +kernel
theorem dX8_dropRound_44 : decode cX8_dropRound 44 = .ok (.iand, 1) := by decide +kernel
theorem dX8_dropRound_45 : decode cX8_dropRound 45 = .ok (.putfield 31, 3) := by decide +kernel
theorem dX8_dropRound_48 : decode cX8_dropRound 48 = .ok (.iconst 1, 1) := by decide +kernel
theorem dX8_dropRound_49 : decode cX8_dropRound 49 = .ok (.ireturn, 1) := by decide +kernel
theorem dX8_dropRound_50 : decode cX8_dropRound 50 = .ok (.iinc 1 1, 3) := by decide +kernel
theorem dX8_dropRound_53 : decode cX8_dropRound 53 = .ok (.goto (-51), 3) := by decide +kernel
theorem dX8_dropRound_56 : decode cX8_dropRound 56 = .ok (.iconst 0, 1) := by decide +kernel
theorem dX8_dropRound_57 : decode cX8_dropRound 57 = .ok (.ireturn, 1) := by decide +kernel
theorem dX8_joinTwins_0 : decode cX8_joinTwins 0 = .ok (.iconst 0, 1) := by decide +kernel
theorem dX8_joinTwins_1 : decode cX8_joinTwins 1 = .ok (.istore_n 1, 1) := by decide +kernel
theorem dX8_joinTwins_2 : decode cX8_joinTwins 2 = .ok (.iload_n 1, 1) := by decide +kernel
theorem dX8_joinTwins_3 : decode cX8_joinTwins 3 = .ok (.bipush 10, 2) := by decide +kernel
theorem dX8_joinTwins_5 : decode cX8_joinTwins 5 = .ok (.if_icmp .ge 109, 3) := by decide +kernel
theorem dX8_joinTwins_8 : decode cX8_joinTwins 8 = .ok (.iload_n 1, 1) := by decide +kernel
theorem dX8_joinTwins_9 : decode cX8_joinTwins 9 = .ok (.iconst 1, 1) := by decide +kernel
theorem dX8_joinTwins_10 : decode cX8_joinTwins 10 = .ok (.iadd, 1) := by decide +kernel
theorem dX8_joinTwins_11 : decode cX8_joinTwins 11 = .ok (.istore_n 2, 1) := by decide +kernel
theorem dX8_joinTwins_12 : decode cX8_joinTwins 12 = .ok (.iload_n 2, 1) := by decide +kernel
theorem dX8_joinTwins_13 : decode cX8_joinTwins 13 = .ok (.bipush 10, 2) := by decide +kernel
theorem dX8_joinTwins_15 : decode cX8_joinTwins 15 = .ok (.if_icmp .ge 93, 3) := by decide +kernel
theorem dX8_joinTwins_18 : decode cX8_joinTwins 18 = .ok (.aload_n 0, 1) := by decide +kernel
theorem dX8_joinTwins_19 : decode cX8_joinTwins 19 = .ok (.iload_n 1, 1) := by decide +kernel
theorem dX8_joinTwins_20 : decode cX8_joinTwins 20 = .ok (.iload_n 2, 1) := by decide +kernel
theorem dX8_joinTwins_21 : decode cX8_joinTwins 21 = .ok (.invokevirtual 125, 3) := by decide +kernel
theorem dX8_joinTwins_24 : decode cX8_joinTwins 24 = .ok (.ifCond .ne 6, 3) := by decide +kernel
theorem dX8_joinTwins_27 : decode cX8_joinTwins 27 = .ok (.goto 75, 3) := by decide +kernel
theorem dX8_joinTwins_30 : decode cX8_joinTwins 30 = .ok (.aload_n 0, 1) := by decide +kernel
theorem dX8_joinTwins_31 : decode cX8_joinTwins 31 = .ok (.getfield 22, 3) := by decide +kernel
theorem dX8_joinTwins_34 : decode cX8_joinTwins 34 = .ok (.iload_n 1, 1) := by decide +kernel
theorem dX8_joinTwins_35 : decode cX8_joinTwins 35 = .ok (.laload, 1) := by decide +kernel
theorem dX8_joinTwins_36 : decode cX8_joinTwins 36 = .ok (.aload_n 0, 1) := by decide +kernel
theorem dX8_joinTwins_37 : decode cX8_joinTwins 37 = .ok (.getfield 22, 3) := by decide +kernel
theorem dX8_joinTwins_40 : decode cX8_joinTwins 40 = .ok (.iload_n 2, 1) := by decide +kernel
theorem dX8_joinTwins_41 : decode cX8_joinTwins 41 = .ok (.laload, 1) := by decide +kernel
theorem dX8_joinTwins_42 : decode cX8_joinTwins 42 = .ok (.lmul, 1) := by decide +kernel
theorem dX8_joinTwins_43 : decode cX8_joinTwins 43 = .ok (.lstore_n 3, 1) := by decide +kernel
theorem dX8_joinTwins_44 : decode cX8_joinTwins 44 = .ok (.aload_n 0, 1) := by decide +kernel
theorem dX8_joinTwins_45 : decode cX8_joinTwins 45 = .ok (.getfield 18, 3) := by decide +kernel
theorem dX8_joinTwins_48 : decode cX8_joinTwins 48 = .ok (.iload_n 1, 1) := by decide +kernel
theorem dX8_joinTwins_49 : decode cX8_joinTwins 49 = .ok (.lload_n 3, 1) := by decide +kernel
theorem dX8_joinTwins_50 : decode cX8_joinTwins 50 = .ok (.aload_n 0, 1) := by decide +kernel
theorem dX8_joinTwins_51 : decode cX8_joinTwins 51 = .ok (.getfield 22, 3) := by decide +kernel
theorem dX8_joinTwins_54 : decode cX8_joinTwins 54 = .ok (.iload_n 1, 1) := by decide +kernel
theorem dX8_joinTwins_55 : decode cX8_joinTwins 55 = .ok (.laload, 1) := by decide +kernel
theorem dX8_joinTwins_56 : decode cX8_joinTwins 56 = .ok (.aload_n 0, 1) := by decide +kernel
theorem dX8_joinTwins_57 : decode cX8_joinTwins 57 = .ok (.getfield 18, 3) := by decide +kernel
theorem dX8_joinTwins_60 : decode cX8_joinTwins 60 = .ok (.iload_n 1, 1) := by decide +kernel
theorem dX8_joinTwins_61 : decode cX8_joinTwins 61 = .ok (.laload, 1) := by decide +kernel
theorem dX8_joinTwins_62 : decode cX8_joinTwins 62 = .ok (.lsub, 1) := by decide +kernel
theorem dX8_joinTwins_63 : decode cX8_joinTwins 63 = .ok (.aload_n 0, 1) := by decide +kernel
theorem dX8_joinTwins_64 : decode cX8_joinTwins 64 = .ok (.getfield 22, 3) := by decide +kernel
theorem dX8_joinTwins_67 : decode cX8_joinTwins 67 = .ok (.iload_n 2, 1) := by decide +kernel
theorem dX8_joinTwins_68 : decode cX8_joinTwins 68 = .ok (.laload, 1) := by decide +kernel
theorem dX8_joinTwins_69 : decode cX8_joinTwins 69 = .ok (.aload_n 0, 1) := by decide +kernel
theorem dX8_joinTwins_70 : decode cX8_joinTwins 70 = .ok (.getfield 18, 3) := by decide +kernel
theorem dX8_joinTwins_73 : decode cX8_joinTwins 73 = .ok (.iload_n 2, 1) := by decide +kernel
theorem dX8_joinTwins_74 : decode cX8_joinTwins 74 = .ok (.laload, 1) := by decide +kernel
theorem dX8_joinTwins_75 : decode cX8_joinTwins 75 = .ok (.lsub, 1) := by decide +kernel
theorem dX8_joinTwins_76 : decode cX8_joinTwins 76 = .ok (.lmul, 1) := by decide +kernel
theorem dX8_joinTwins_77 : decode cX8_joinTwins 77 = .ok (.lsub, 1) := by decide +kernel
theorem dX8_joinTwins_78 : decode cX8_joinTwins 78 = .ok (.lastore, 1) := by decide +kernel
theorem dX8_joinTwins_79 : decode cX8_joinTwins 79 = .ok (.aload_n 0, 1) := by decide +kernel
theorem dX8_joinTwins_80 : decode cX8_joinTwins 80 = .ok (.getfield 22, 3) := by decide +kernel
theorem dX8_joinTwins_83 : decode cX8_joinTwins 83 = .ok (.iload_n 1, 1) := by decide +kernel
theorem dX8_joinTwins_84 : decode cX8_joinTwins 84 = .ok (.lload_n 3, 1) := by decide +kernel
theorem dX8_joinTwins_85 : decode cX8_joinTwins 85 = .ok (.lastore, 1) := by decide +kernel
theorem dX8_joinTwins_86 : decode cX8_joinTwins 86 = .ok (.aload_n 0, 1) := by decide +kernel
theorem dX8_joinTwins_87 : decode cX8_joinTwins 87 = .ok (.dup, 1) := by decide +kernel
theorem dX8_joinTwins_88 : decode cX8_joinTwins 88 = .ok (.getfield 31, 3) := by decide +kernel
theorem dX8_joinTwins_91 : decode cX8_joinTwins 91 = .ok (.iconst 1, 1) := by decide +kernel
theorem dX8_joinTwins_92 : decode cX8_joinTwins 92 = .ok (.iload_n 2, 1) := by decide +kernel
theorem dX8_joinTwins_93 : decode cX8_joinTwins 93 = .ok (.ishl, 1) := by decide +kernel
theorem dX8_joinTwins_94 : decode cX8_joinTwins 94 = .ok (.iconst (-1), 1) := by decide +kernel
theorem dX8_joinTwins_95 : decode cX8_joinTwins 95 = .ok (.ixor, 1) := by decide +kernel
theorem dX8_joinTwins_96 : decode cX8_joinTwins 96 = .ok (.iand, 1) := by decide +kernel
theorem dX8_joinTwins_97 : decode cX8_joinTwins 97 = .ok (.putfield 31, 3) := by decide +kernel
theorem dX8_joinTwins_100 : decode cX8_joinTwins 100 = .ok (.iconst 1, 1) := by decide +kernel
theorem dX8_joinTwins_101 : decode cX8_joinTwins 101 = .ok (.ireturn, 1) := by decide +kernel
theorem dX8_joinTwins_102 : decode cX8_joinTwins 102 = .ok (.iinc 2 1, 3) := by decide +kernel
theorem dX8_joinTwins_105 : decode cX8_joinTwins 105 = .ok (.goto (-93), 3) := by decide +kernel
theorem dX8_joinTwins_108 : decode cX8_joinTwins 108 = .ok (.iinc 1 1, 3) := by decide +kernel
theorem dX8_joinTwins_111 : decode cX8_joinTwins 111 = .ok (.goto (-109), 3) := by decide +kernel
theorem dX8_joinTwins_114 : decode cX8_joinTwins 114 = .ok (.iconst 0, 1) := by decide +kernel
theorem dX8_joinTwins_115 : decode cX8_joinTwins 115 = .ok (.ireturn, 1) := by decide +kernel
theorem dX8_areTwins_0 : decode cX8_areTwins 0 = .ok (.aload_n 0, 1) := by decide +kernel
theorem dX8_areTwins_1 : decode cX8_areTwins 1 = .ok (.iload_n 1, 1) := by decide +kernel
theorem dX8_areTwins_2 : decode cX8_areTwins 2 = .ok (.invokevirtual 102, 3) := by decide +kernel
theorem dX8_areTwins_5 : decode cX8_areTwins 5 = .ok (.ifCond .eq 11, 3) := by decide +kernel
theorem dX8_areTwins_8 : decode cX8_areTwins 8 = .ok (.aload_n 0, 1) := by decide +kernel
theorem dX8_areTwins_9 : decode cX8_areTwins 9 = .ok (.iload_n 2, 1) := by decide +kernel
theorem dX8_areTwins_10 : decode cX8_areTwins 10 = .ok (.invokevirtual 102, 3) := by decide +kernel
theorem dX8_areTwins_13 : decode cX8_areTwins 13 = .ok (.ifCond .ne 5, 3) := by decide +kernel
theorem dX8_areTwins_16 : decode cX8_areTwins 16 = .ok (.iconst 0, 1) := by decide +kernel
theorem dX8_areTwins_17 : decode cX8_areTwins 17 = .ok (.ireturn, 1) := by decide +kernel
theorem dX8_areTwins_18 : decode cX8_areTwins 18 = .ok (.aload_n 0, 1) := by decide +kernel
theorem dX8_areTwins_19 : decode cX8_areTwins 19 = .ok (.getfield 9, 3) := by decide +kernel
theorem dX8_areTwins_22 : decode cX8_areTwins 22 = .ok (.iload_n 1, 1) := by decide +kernel
theorem dX8_areTwins_23 : decode cX8_areTwins 23 = .ok (.iaload, 1) := by decide +kernel
theorem dX8_areTwins_24 : decode cX8_areTwins 24 = .ok (.aload_n 0, 1) := by decide +kernel
theorem dX8_areTwins_25 : decode cX8_areTwins 25 = .ok (.getfield 9, 3) := by decide +kernel
theorem dX8_areTwins_28 : decode cX8_areTwins 28 = .ok (.iload_n 2, 1) := by decide +kernel
theorem dX8_areTwins_29 : decode cX8_areTwins 29 = .ok (.iaload, 1) := by decide +kernel
theorem dX8_areTwins_30 : decode cX8_areTwins 30 = .ok (.if_icmp .ne 24, 3) := by decide +kernel
theorem dX8_areTwins_33 : decode cX8_areTwins 33 = .ok (.aload_n 0, 1) := by decide +kernel
theorem dX8_areTwins_34 : decode cX8_areTwins 34 = .ok (.getfield 15, 3) := by decide +kernel
theorem dX8_areTwins_37 : decode cX8_areTwins 37 = .ok (.iload_n 1, 1) := by decide +kernel
theorem dX8_areTwins_38 : decode cX8_areTwins 38 = .ok (.iaload, 1) := by decide +kernel
theorem dX8_areTwins_39 : decode cX8_areTwins 39 = .ok (.aload_n 0, 1) := by decide +kernel
theorem dX8_areTwins_40 : decode cX8_areTwins 40 = .ok (.getfield 15, 3) := by decide +kernel
theorem dX8_areTwins_43 : decode cX8_areTwins 43 = .ok (.iload_n 2, 1) := by decide +kernel
theorem dX8_areTwins_44 : decode cX8_areTwins 44 = .ok (.iaload, 1) := by decide +kernel
theorem dX8_areTwins_45 : decode cX8_areTwins 45 = .ok (.if_icmp .ne 7, 3) := by decide +kernel
theorem dX8_areTwins_48 : decode cX8_areTwins 48 = .ok (.iconst 1, 1) := by decide +kernel
theorem dX8_areTwins_49 : decode cX8_areTwins 49 = .ok (.goto 4, 3) := by decide +kernel
theorem dX8_areTwins_52 : decode cX8_areTwins 52 = .ok (.iconst 0, 1) := by decide +kernel
theorem dX8_areTwins_53 : decode cX8_areTwins 53 = .ok (.ireturn, 1) := by decide +kernel
theorem dX8_areTwins_54 : decode cX8_areTwins 54 = .ok (.aload_n 0, 1) := by decide +kernel
theorem dX8_areTwins_55 : decode cX8_areTwins 55 = .ok (.getfield 9, 3) := by decide +kernel
theorem dX8_areTwins_58 : decode cX8_areTwins 58 = .ok (.iload_n 1, 1) := by decide +kernel
theorem dX8_areTwins_59 : decode cX8_areTwins 59 = .ok (.iaload, 1) := by decide +kernel
theorem dX8_areTwins_60 : decode cX8_areTwins 60 = .ok (.aload_n 0, 1) := by decide +kernel
theorem dX8_areTwins_61 : decode cX8_areTwins 61 = .ok (.getfield 15, 3) := by decide +kernel
theorem dX8_areTwins_64 : decode cX8_areTwins 64 = .ok (.iload_n 2, 1) := by decide +kernel
theorem dX8_areTwins_65 : decode cX8_areTwins 65 = .ok (.iaload, 1) := by decide +kernel
theorem dX8_areTwins_66 : decode cX8_areTwins 66 = .ok (.if_icmp .ne 22, 3) := by decide +kernel
theorem dX8_areTwins_69 : decode cX8_areTwins 69 = .ok (.aload_n 0, 1) := by decide +kernel
theorem dX8_areTwins_70 : decode cX8_areTwins 70 = .ok (.getfield 15, 3) := by decide +kernel
theorem dX8_areTwins_73 : decode cX8_areTwins 73 = .ok (.iload_n 1, 1) := by decide +kernel
theorem dX8_areTwins_74 : decode cX8_areTwins 74 = .ok (.iaload, 1) := by decide +kernel
theorem dX8_areTwins_75 : decode cX8_areTwins 75 = .ok (.aload_n 0, 1) := by decide +kernel
theorem dX8_areTwins_76 : decode cX8_areTwins 76 = .ok (.getfield 9, 3) := by decide +kernel
theorem dX8_areTwins_79 : decode cX8_areTwins 79 = .ok (.iload_n 2, 1) := by decide +kernel
theorem dX8_areTwins_80 : decode cX8_areTwins 80 = .ok (.iaload, 1) := by decide +kernel
theorem dX8_areTwins_81 : decode cX8_areTwins 81 = .ok (.if_icmp .ne 7, 3) := by decide +kernel
theorem dX8_areTwins_84 : decode cX8_areTwins 84 = .ok (.iconst 1, 1) := by decide +kernel
theorem dX8_areTwins_85 : decode cX8_areTwins 85 = .ok (.goto 4, 3) := by decide +kernel
theorem dX8_areTwins_88 : decode cX8_areTwins 88 = .ok (.iconst 0, 1) := by decide +kernel
theorem dX8_areTwins_89 : decode cX8_areTwins 89 = .ok (.ireturn, 1) := by decide +kernel
theorem dX8_dropEnd_0 : decode cX8_dropEnd 0 = .ok (.bipush 10, 2) := by decide +kernel
theorem dX8_dropEnd_2 : decode cX8_dropEnd 2 = .ok (.istore_n 1, 1) := by decide +kernel
theorem dX8_dropEnd_3 : decode cX8_dropEnd 3 = .ok (.iconst 0, 1) := by decide +kernel
theorem dX8_dropEnd_4 : decode cX8_dropEnd 4 = .ok (.istore_n 2, 1) := by decide +kernel
theorem dX8_dropEnd_5 : decode cX8_dropEnd 5 = .ok (.iload_n 2, 1) := by decide +kernel
theorem dX8_dropEnd_6 : decode cX8_dropEnd 6 = .ok (.bipush 7, 2) := by decide +kernel
theorem dX8_dropEnd_8 : decode cX8_dropEnd 8 = .ok (.if_icmp .ge 43, 3) := by decide +kernel
theorem dX8_dropEnd_11 : decode cX8_dropEnd 11 = .ok (.aload_n 0, 1) := by decide +kernel
theorem dX8_dropEnd_12 : decode cX8_dropEnd 12 = .ok (.iload_n 2, 1) := by decide +kernel
theorem dX8_dropEnd_13 : decode cX8_dropEnd 13 = .ok (.invokevirtual 96, 3) := by decide +kernel
theorem dX8_dropEnd_16 : decode cX8_dropEnd 16 = .ok (.istore_n 3, 1) := by decide +kernel
theorem dX8_dropEnd_17 : decode cX8_dropEnd 17 = .ok (.aload_n 0, 1) := by decide +kernel
theorem dX8_dropEnd_18 : decode cX8_dropEnd 18 = .ok (.iload_n 2, 1) := by decide +kernel
theorem dX8_dropEnd_19 : decode cX8_dropEnd 19 = .ok (.invokevirtual 74, 3) := by decide +kernel
theorem dX8_dropEnd_22 : decode cX8_dropEnd 22 = .ok (.ifCond .ne 23, 3) := by decide +kernel
theorem dX8_dropEnd_25 : decode cX8_dropEnd 25 = .ok (.iload_n 3, 1) := by decide +kernel
theorem dX8_dropEnd_26 : decode cX8_dropEnd 26 = .ok (.invokestatic 91, 3) := by decide +kernel
theorem dX8_dropEnd_29 : decode cX8_dropEnd 29 = .ok (.iconst 1, 1) := by decide +kernel
theorem dX8_dropEnd_30 : decode cX8_dropEnd 30 = .ok (.if_icmp .eq 6, 3) := by decide +kernel
theorem dX8_dropEnd_33 : decode cX8_dropEnd 33 = .ok (.goto 12, 3) := by decide +kernel
theorem dX8_dropEnd_36 : decode cX8_dropEnd 36 = .ok (.iload_n 1, 1) := by decide +kernel
theorem dX8_dropEnd_37 : decode cX8_dropEnd 37 = .ok (.iload_n 3, 1) := by decide +kernel
theorem dX8_dropEnd_38 : decode cX8_dropEnd 38 = .ok (.invokestatic 99, 3) := by decide +kernel
theorem dX8_dropEnd_41 : decode cX8_dropEnd 41 = .ok (.invokestatic 65, 3) := by decide +kernel
theorem dX8_dropEnd_44 : decode cX8_dropEnd 44 = .ok (.istore_n 1, 1) := by decide +kernel
theorem dX8_dropEnd_45 : decode cX8_dropEnd 45 = .ok (.iinc 2 1, 3) := by decide +kernel
theorem dX8_dropEnd_48 : decode cX8_dropEnd 48 = .ok (.goto (-43), 3) := by decide +kernel
theorem dX8_dropEnd_51 : decode cX8_dropEnd 51 = .ok (.iload_n 1, 1) := by decide +kernel
theorem dX8_dropEnd_52 : decode cX8_dropEnd 52 = .ok (.bipush 10, 2) := by decide +kernel
theorem dX8_dropEnd_54 : decode cX8_dropEnd 54 = .ok (.if_icmp .lt 5, 3) := by decide +kernel
theorem dX8_dropEnd_57 : decode cX8_dropEnd 57 = .ok (.iconst 0, 1) := by decide +kernel
theorem dX8_dropEnd_58 : decode cX8_dropEnd 58 = .ok (.ireturn, 1) := by decide +kernel
theorem dX8_dropEnd_59 : decode cX8_dropEnd 59 = .ok (.aload_n 0, 1) := by decide +kernel
theorem dX8_dropEnd_60 : decode cX8_dropEnd 60 = .ok (.dup, 1) := by decide +kernel
theorem dX8_dropEnd_61 : decode cX8_dropEnd 61 = .ok (.getfield 31, 3) := by decide +kernel
theorem dX8_dropEnd_64 : decode cX8_dropEnd 64 = .ok (.iconst 1, 1) := by decide +kernel
theorem dX8_dropEnd_65 : decode cX8_dropEnd 65 = .ok (.iload_n 1, 1) := by decide +kernel
theorem dX8_dropEnd_66 : decode cX8_dropEnd 66 = .ok (.ishl, 1) := by decide +kernel
theorem dX8_dropEnd_67 : decode cX8_dropEnd 67 = .ok (.iconst (-1), 1) := by decide +kernel
theorem dX8_dropEnd_68 : decode cX8_dropEnd 68 = .ok (.ixor, 1) := by decide +kernel
theorem dX8_dropEnd_69 : decode cX8_dropEnd 69 = .ok (.iand, 1) := by decide +kernel
theorem dX8_dropEnd_70 : decode cX8_dropEnd 70 = .ok (.putfield 31, 3) := by decide +kernel
theorem dX8_dropEnd_73 : decode cX8_dropEnd 73 = .ok (.iconst 1, 1) := by decide +kernel
theorem dX8_dropEnd_74 : decode cX8_dropEnd 74 = .ok (.ireturn, 1) := by decide +kernel
theorem dX8_joinChain_0 : decode cX8_joinChain 0 = .ok (.bipush 10, 2) := by decide +kernel
theorem dX8_joinChain_2 : decode cX8_joinChain 2 = .ok (.istore_n 1, 1) := by decide +kernel
theorem dX8_joinChain_3 : decode cX8_joinChain 3 = .ok (.bipush 10, 2) := by decide +kernel
theorem dX8_joinChain_5 : decode cX8_joinChain 5 = .ok (.istore_n 2, 1) := by decide +kernel
theorem dX8_joinChain_6 : decode cX8_joinChain 6 = .ok (.iconst 0, 1) := by decide +kernel
theorem dX8_joinChain_7 : decode cX8_joinChain 7 = .ok (.istore_n 3, 1) := by decide +kernel
theorem dX8_joinChain_8 : decode cX8_joinChain 8 = .ok (.iconst 0, 1) := by decide +kernel
theorem dX8_joinChain_9 : decode cX8_joinChain 9 = .ok (.istore 4, 2) := by decide +kernel
theorem dX8_joinChain_11 : decode cX8_joinChain 11 = .ok (.iload 4, 2) := by decide +kernel
theorem dX8_joinChain_13 : decode cX8_joinChain 13 = .ok (.bipush 7, 2) := by decide +kernel
theorem dX8_joinChain_15 : decode cX8_joinChain 15 = .ok (.if_icmp .ge 89, 3) := by decide +kernel
theorem dX8_joinChain_18 : decode cX8_joinChain 18 = .ok (.aload_n 0, 1) := by decide +kernel
theorem dX8_joinChain_19 : decode cX8_joinChain 19 = .ok (.iload 4, 2) := by decide +kernel
theorem dX8_joinChain_21 : decode cX8_joinChain 21 = .ok (.invokevirtual 96, 3) := by decide +kernel
theorem dX8_joinChain_24 : decode cX8_joinChain 24 = .ok (.istore 5, 2) := by decide +kernel
theorem dX8_joinChain_26 : decode cX8_joinChain 26 = .ok (.aload_n 0, 1) := by decide +kernel
theorem dX8_joinChain_27 : decode cX8_joinChain 27 = .ok (.iload 4, 2) := by decide +kernel
theorem dX8_joinChain_29 : decode cX8_joinChain 29 = .ok (.invokevirtual 74, 3) := by decide +kernel
theorem dX8_joinChain_32 : decode cX8_joinChain 32 = .ok (.ifCond .ne 66, 3) := by decide +kernel
theorem dX8_joinChain_35 : decode cX8_joinChain 35 = .ok (.iload 5, 2) := by decide +kernel
theorem dX8_joinChain_37 : decode cX8_joinChain 37 = .ok (.invokestatic 91, 3) := by decide +kernel
theorem dX8_joinChain_40 : decode cX8_joinChain 40 = .ok (.iconst 2, 1) := by decide +kernel
theorem dX8_joinChain_41 : decode cX8_joinChain 41 = .ok (.if_icmp .eq 6, 3) := by decide +kernel
theorem dX8_joinChain_44 : decode cX8_joinChain 44 = .ok (.goto 54, 3) := by decide +kernel
theorem dX8_joinChain_47 : decode cX8_joinChain 47 = .ok (.iload 5, 2) := by decide +kernel
theorem dX8_joinChain_49 : decode cX8_joinChain 49 = .ok (.invokestatic 99, 3) := by decide +kernel
theorem dX8_joinChain_52 : decode cX8_joinChain 52 = .ok (.istore 6, 2) := by decide +kernel
theorem dX8_joinChain_54 : decode cX8_joinChain 54 = .ok (.iload 5, 2) := by decide +kernel
theorem dX8_joinChain_56 : decode cX8_joinChain 56 = .ok (.iconst 1, 1) := by decide +kernel
theorem dX8_joinChain_57 : decode cX8_joinChain 57 = .ok (.iload 6, 2) := by decide +kernel
theorem dX8_joinChain_59 : decode cX8_joinChain 59 = .ok (.ishl, 1) := by decide +kernel
theorem dX8_joinChain_60 : decode cX8_joinChain 60 = .ok (.iconst (-1), 1) := by decide +kernel
theorem dX8_joinChain_61 : decode cX8_joinChain 61 = .ok (.ixor, 1) := by decide +kernel
theorem dX8_joinChain_62 : decode cX8_joinChain 62 = .ok (.iand, 1) := by decide +kernel
theorem dX8_joinChain_63 : decode cX8_joinChain 63 = .ok (.invokestatic 99, 3) := by decide +kernel
theorem dX8_joinChain_66 : decode cX8_joinChain 66 = .ok (.istore 7, 2) := by decide +kernel
theorem dX8_joinChain_68 : decode cX8_joinChain 68 = .ok (.iload 6, 2) := by decide +kernel
theorem dX8_joinChain_70 : decode cX8_joinChain 70 = .ok (.iload_n 1, 1) := by decide +kernel
theorem dX8_joinChain_71 : decode cX8_joinChain 71 = .ok (.if_icmp .gt 27, 3) := by decide +kernel
theorem dX8_joinChain_74 : decode cX8_joinChain 74 = .ok (.iload 6, 2) := by decide +kernel
theorem dX8_joinChain_76 : decode cX8_joinChain 76 = .ok (.iload_n 1, 1) := by decide +kernel
theorem dX8_joinChain_77 : decode cX8_joinChain 77 = .ok (.if_icmp .ne 12, 3) := by decide +kernel
theorem dX8_joinChain_80 : decode cX8_joinChain 80 = .ok (.iload 7, 2) := by decide +kernel
theorem dX8_joinChain_82 : decode cX8_joinChain 82 = .ok (.iload_n 2, 1) := by decide +kernel
theorem dX8_joinChain_83 : decode cX8_joinChain 83 = .ok (.if_icmp .lt 6, 3) := by decide +kernel
theorem dX8_joinChain_86 : decode cX8_joinChain 86 = .ok (.goto 12, 3) := by decide +kernel
theorem dX8_joinChain_89 : decode cX8_joinChain 89 = .ok (.iload 6, 2) := by decide +kernel
theorem dX8_joinChain_91 : decode cX8_joinChain 91 = .ok (.istore_n 1, 1) := by decide +kernel
theorem dX8_joinChain_92 : decode cX8_joinChain 92 = .ok (.iload 7, 2) := by decide +kernel
theorem dX8_joinChain_94 : decode cX8_joinChain 94 = .ok (.istore_n 2, 1) := by decide +kernel
theorem dX8_joinChain_95 : decode cX8_joinChain 95 = .ok (.iload 4, 2) := by decide +kernel
theorem dX8_joinChain_97 : decode cX8_joinChain 97 = .ok (.istore_n 3, 1) := by decide +kernel
theorem dX8_joinChain_98 : decode cX8_joinChain 98 = .ok (.iinc 4 1, 3) := by decide +kernel
theorem dX8_joinChain_101 : decode cX8_joinChain 101 = .ok (.goto (-90), 3) := by decide +kernel
theorem dX8_joinChain_104 : decode cX8_joinChain 104 = .ok (.iload_n 1, 1) := by decide +kernel
theorem dX8_joinChain_105 : decode cX8_joinChain 105 = .ok (.bipush 10, 2) := by decide +kernel
theorem dX8_joinChain_107 : decode cX8_joinChain 107 = .ok (.if_icmp .ge 9, 3) := by decide +kernel
theorem dX8_joinChain_110 : decode cX8_joinChain 110 = .ok (.iload_n 2, 1) := by decide +kernel
theorem dX8_joinChain_111 : decode cX8_joinChain 111 = .ok (.bipush 10, 2) := by decide +kernel
theorem dX8_joinChain_113 : decode cX8_joinChain 113 = .ok (.if_icmp .lt 5, 3) := by decide +kernel
theorem dX8_joinChain_116 : decode cX8_joinChain 116 = .ok (.iconst 0, 1) := by decide +kernel
theorem dX8_joinChain_117 : decode cX8_joinChain 117 = .ok (.ireturn, 1) := by decide +kernel
theorem dX8_joinChain_118 : decode cX8_joinChain 118 = .ok (.aload_n 0, 1) := by decide +kernel
theorem dX8_joinChain_119 : decode cX8_joinChain 119 = .ok (.iload_n 1, 1) := by decide +kernel
theorem dX8_joinChain_120 : decode cX8_joinChain 120 = .ok (.iload_n 3, 1) := by decide +kernel
theorem dX8_joinChain_121 : decode cX8_joinChain 121 = .ok (.invokevirtual 129, 3) := by decide +kernel
theorem dX8_joinChain_124 : decode cX8_joinChain 124 = .ok (.istore 4, 2) := by decide +kernel
theorem dX8_joinChain_126 : decode cX8_joinChain 126 = .ok (.aload_n 0, 1) := by decide +kernel
theorem dX8_joinChain_127 : decode cX8_joinChain 127 = .ok (.iload_n 2, 1) := by decide +kernel
theorem dX8_joinChain_128 : decode cX8_joinChain 128 = .ok (.iload_n 3, 1) := by decide +kernel
theorem dX8_joinChain_129 : decode cX8_joinChain 129 = .ok (.invokevirtual 129, 3) := by decide +kernel
theorem dX8_joinChain_132 : decode cX8_joinChain 132 = .ok (.istore 5, 2) := by decide +kernel
theorem dX8_joinChain_134 : decode cX8_joinChain 134 = .ok (.aload_n 0, 1) := by decide +kernel
theorem dX8_joinChain_135 : decode cX8_joinChain 135 = .ok (.getfield 9, 3) := by decide +kernel
theorem dX8_joinChain_138 : decode cX8_joinChain 138 = .ok (.iload_n 1, 1) := by decide +kernel
theorem dX8_joinChain_139 : decode cX8_joinChain 139 = .ok (.iload 4, 2) := by decide +kernel
theorem dX8_joinChain_141 : decode cX8_joinChain 141 = .ok (.iastore, 1) := by decide +kernel
theorem dX8_joinChain_142 : decode cX8_joinChain 142 = .ok (.aload_n 0, 1) := by decide +kernel
theorem dX8_joinChain_143 : decode cX8_joinChain 143 = .ok (.getfield 15, 3) := by decide +kernel
theorem dX8_joinChain_146 : decode cX8_joinChain 146 = .ok (.iload_n 1, 1) := by decide +kernel
theorem dX8_joinChain_147 : decode cX8_joinChain 147 = .ok (.iload 5, 2) := by decide +kernel
theorem dX8_joinChain_149 : decode cX8_joinChain 149 = .ok (.iastore, 1) := by decide +kernel
theorem dX8_joinChain_150 : decode cX8_joinChain 150 = .ok (.aload_n 0, 1) := by decide +kernel
theorem dX8_joinChain_151 : decode cX8_joinChain 151 = .ok (.getfield 18, 3) := by decide +kernel
theorem dX8_joinChain_154 : decode cX8_joinChain 154 = .ok (.iload_n 1, 1) := by decide +kernel
theorem dX8_joinChain_155 : decode cX8_joinChain 155 = .ok (.dup2, 1) := by decide +kernel
theorem dX8_joinChain_156 : decode cX8_joinChain 156 = .ok (.laload, 1) := by decide +kernel
theorem dX8_joinChain_157 : decode cX8_joinChain 157 = .ok (.aload_n 0, 1) := by decide +kernel
theorem dX8_joinChain_158 : decode cX8_joinChain 158 = .ok (.getfield 18, 3) := by decide +kernel
theorem dX8_joinChain_161 : decode cX8_joinChain 161 = .ok (.iload_n 2, 1) := by decide +kernel
theorem dX8_joinChain_162 : decode cX8_joinChain 162 = .ok (.laload, 1) := by decide +kernel
theorem dX8_joinChain_163 : decode cX8_joinChain 163 = .ok (.lmul, 1) := by decide +kernel
theorem dX8_joinChain_164 : decode cX8_joinChain 164 = .ok (.lastore, 1) := by decide +kernel
theorem dX8_joinChain_165 : decode cX8_joinChain 165 = .ok (.aload_n 0, 1) := by decide +kernel
theorem dX8_joinChain_166 : decode cX8_joinChain 166 = .ok (.getfield 22, 3) := by decide +kernel
theorem dX8_joinChain_169 : decode cX8_joinChain 169 = .ok (.iload_n 1, 1) := by decide +kernel
theorem dX8_joinChain_170 : decode cX8_joinChain 170 = .ok (.dup2, 1) := by decide +kernel
theorem dX8_joinChain_171 : decode cX8_joinChain 171 = .ok (.laload, 1) := by decide +kernel
theorem dX8_joinChain_172 : decode cX8_joinChain 172 = .ok (.aload_n 0, 1) := by decide +kernel
theorem dX8_joinChain_173 : decode cX8_joinChain 173 = .ok (.getfield 22, 3) := by decide +kernel
theorem dX8_joinChain_176 : decode cX8_joinChain 176 = .ok (.iload_n 2, 1) := by decide +kernel
theorem dX8_joinChain_177 : decode cX8_joinChain 177 = .ok (.laload, 1) := by decide +kernel
theorem dX8_joinChain_178 : decode cX8_joinChain 178 = .ok (.lmul, 1) := by decide +kernel
theorem dX8_joinChain_179 : decode cX8_joinChain 179 = .ok (.lastore, 1) := by decide +kernel
theorem dX8_joinChain_180 : decode cX8_joinChain 180 = .ok (.aload_n 0, 1) := by decide +kernel
theorem dX8_joinChain_181 : decode cX8_joinChain 181 = .ok (.dup, 1) := by decide +kernel
theorem dX8_joinChain_182 : decode cX8_joinChain 182 = .ok (.getfield 31, 3) := by decide +kernel
theorem dX8_joinChain_185 : decode cX8_joinChain 185 = .ok (.iconst 1, 1) := by decide +kernel
theorem dX8_joinChain_186 : decode cX8_joinChain 186 = .ok (.iload_n 2, 1) := by decide +kernel
theorem dX8_joinChain_187 : decode cX8_joinChain 187 = .ok (.ishl, 1) := by decide +kernel
theorem dX8_joinChain_188 : decode cX8_joinChain 188 = .ok (.iconst (-1), 1) := by decide +kernel
theorem dX8_joinChain_189 : decode cX8_joinChain 189 = .ok (.ixor, 1) := by decide +kernel
theorem dX8_joinChain_190 : decode cX8_joinChain 190 = .ok (.iand, 1) := by decide +kernel
theorem dX8_joinChain_191 : decode cX8_joinChain 191 = .ok (.putfield 31, 3) := by decide +kernel
theorem dX8_joinChain_194 : decode cX8_joinChain 194 = .ok (.iconst 1, 1) := by decide +kernel
theorem dX8_joinChain_195 : decode cX8_joinChain 195 = .ok (.ireturn, 1) := by decide +kernel
theorem dX8_otherEnd_0 : decode cX8_otherEnd 0 = .ok (.aload_n 0, 1) := by decide +kernel
theorem dX8_otherEnd_1 : decode cX8_otherEnd 1 = .ok (.iload_n 1, 1) := by decide +kernel
theorem dX8_otherEnd_2 : decode cX8_otherEnd 2 = .ok (.invokevirtual 102, 3) := by decide +kernel
theorem dX8_otherEnd_5 : decode cX8_otherEnd 5 = .ok (.ifCond .ne 5, 3) := by decide +kernel
theorem dX8_otherEnd_8 : decode cX8_otherEnd 8 = .ok (.iload_n 2, 1) := by decide +kernel
theorem dX8_otherEnd_9 : decode cX8_otherEnd 9 = .ok (.ireturn, 1) := by decide +kernel
theorem dX8_otherEnd_10 : decode cX8_otherEnd 10 = .ok (.aload_n 0, 1) := by decide +kernel
theorem dX8_otherEnd_11 : decode cX8_otherEnd 11 = .ok (.getfield 9, 3) := by decide +kernel
theorem dX8_otherEnd_14 : decode cX8_otherEnd 14 = .ok (.iload_n 1, 1) := by decide +kernel
theorem dX8_otherEnd_15 : decode cX8_otherEnd 15 = .ok (.iaload, 1) := by decide +kernel
theorem dX8_otherEnd_16 : decode cX8_otherEnd 16 = .ok (.iload_n 2, 1) := by decide +kernel
theorem dX8_otherEnd_17 : decode cX8_otherEnd 17 = .ok (.if_icmp .ne 12, 3) := by decide +kernel
theorem dX8_otherEnd_20 : decode cX8_otherEnd 20 = .ok (.aload_n 0, 1) := by decide +kernel
theorem dX8_otherEnd_21 : decode cX8_otherEnd 21 = .ok (.getfield 15, 3) := by decide +kernel
theorem dX8_otherEnd_24 : decode cX8_otherEnd 24 = .ok (.iload_n 1, 1) := by decide +kernel
theorem dX8_otherEnd_25 : decode cX8_otherEnd 25 = .ok (.iaload, 1) := by decide +kernel
theorem dX8_otherEnd_26 : decode cX8_otherEnd 26 = .ok (.goto 9, 3) := by decide +kernel
theorem dX8_otherEnd_29 : decode cX8_otherEnd 29 = .ok (.aload_n 0, 1) := by decide +kernel
theorem dX8_otherEnd_30 : decode cX8_otherEnd 30 = .ok (.getfield 9, 3) := by decide +kernel
theorem dX8_otherEnd_33 : decode cX8_otherEnd 33 = .ok (.iload_n 1, 1) := by decide +kernel
theorem dX8_otherEnd_34 : decode cX8_otherEnd 34 = .ok (.iaload, 1) := by decide +kernel
theorem dX8_otherEnd_35 : decode cX8_otherEnd 35 = .ok (.ireturn, 1) := by decide +kernel
theorem dX9_init_0 : decode cX9_init 0 = .ok (.aload_n 0, 1) := by decide +kernel
theorem dX9_init_1 : decode cX9_init 1 = .ok (.invokespecial 3, 3) := by decide +kernel
theorem dX9_init_4 : decode cX9_init 4 = .ok (.aload_n 0, 1) := by decide +kernel
theorem dX9_init_5 : decode cX9_init 5 = .ok (.new 9, 3) := by decide +kernel
theorem dX9_init_8 : decode cX9_init 8 = .ok (.dup, 1) := by decide +kernel
theorem dX9_init_9 : decode cX9_init 9 = .ok (.invokespecial 11, 3) := by decide +kernel
theorem dX9_init_12 : decode cX9_init 12 = .ok (.putfield 12, 3) := by decide +kernel
theorem dX9_init_15 : decode cX9_init 15 = .ok (.aload_n 0, 1) := by decide +kernel
theorem dX9_init_16 : decode cX9_init 16 = .ok (.new 16, 3) := by decide +kernel
theorem dX9_init_19 : decode cX9_init 19 = .ok (.dup, 1) := by decide +kernel
theorem dX9_init_20 : decode cX9_init 20 = .ok (.aload_n 0, 1) := by decide +kernel
theorem dX9_init_21 : decode cX9_init 21 = .ok (.getfield 12, 3) := by decide +kernel
theorem dX9_init_24 : decode cX9_init 24 = .ok (.invokespecial 18, 3) := by decide +kernel
theorem dX9_init_27 : decode cX9_init 27 = .ok (.putfield 21, 3) := by decide +kernel
theorem dX9_init_30 : decode cX9_init 30 = .ok (.aload_n 0, 1) := by decide +kernel
theorem dX9_init_31 : decode cX9_init 31 = .ok (.new 25, 3) := by decide +kernel
theorem dX9_init_34 : decode cX9_init 34 = .ok (.dup, 1) := by decide +kernel
theorem dX9_init_35 : decode cX9_init 35 = .ok (.aload_n 0, 1) := by decide +kernel
theorem dX9_init_36 : decode cX9_init 36 = .ok (.getfield 12, 3) := by decide +kernel
theorem dX9_init_39 : decode cX9_init 39 = .ok (.invokespecial 27, 3) := by decide +kernel
theorem dX9_init_42 : decode cX9_init 42 = .ok (.putfield 28, 3) := by decide +kernel
theorem dX9_init_45 : decode cX9_init 45 = .ok (.aload_n 0, 1) := by decide +kernel
theorem dX9_init_46 : decode cX9_init 46 = .ok (.new 32, 3) := by decide +kernel
theorem dX9_init_49 : decode cX9_init 49 = .ok (.dup, 1) := by decide +kernel
theorem dX9_init_50 : decode cX9_init 50 = .ok (.aload_n 0, 1) := by decide +kernel
theorem dX9_init_51 : decode cX9_init 51 = .ok (.getfield 12, 3) := by decide +kernel
theorem dX9_init_54 : decode cX9_init 54 = .ok (.invokespecial 34, 3) := by decide +kernel
theorem dX9_init_57 : decode cX9_init 57 = .ok (.putfield 35, 3) := by decide +kernel
theorem dX9_init_60 : decode cX9_init 60 = .ok (.aload_n 0, 1) := by decide +kernel
theorem dX9_init_61 : decode cX9_init 61 = .ok (.new 39, 3) := by decide +kernel
theorem dX9_init_64 : decode cX9_init 64 = .ok (.dup, 1) := by decide +kernel
theorem dX9_init_65 : decode cX9_init 65 = .ok (.aload_n 0, 1) := by decide +kernel
theorem dX9_init_66 : decode cX9_init 66 = .ok (.getfield 12, 3) := by decide +kernel
theorem dX9_init_69 : decode cX9_init 69 = .ok (.invokespecial 41, 3) := by decide +kernel
theorem dX9_init_72 : decode cX9_init 72 = .ok (.putfield 42, 3) := by decide +kernel
theorem dX9_init_75 : decode cX9_init 75 = .ok (.aload_n 0, 1) := by decide +kernel
theorem dX9_init_76 : decode cX9_init 76 = .ok (.new 46, 3) := by decide +kernel
theorem dX9_init_79 : decode cX9_init 79 = .ok (.dup, 1) := by decide +kernel
theorem dX9_init_80 : decode cX9_init 80 = .ok (.aload_n 0, 1) := by decide +kernel
theorem dX9_init_81 : decode cX9_init 81 = .ok (.getfield 12, 3) := by decide +kernel
theorem dX9_init_84 : decode cX9_init 84 = .ok (.invokespecial 48, 3) := by decide +kernel
theorem dX9_init_87 : decode cX9_init 87 = .ok (.putfield 49, 3) := by decide +kernel
theorem dX9_init_90 : decode cX9_init 90 = .ok (.aload_n 0, 1) := by decide +kernel
theorem dX9_init_91 : decode cX9_init 91 = .ok (.new 53, 3) := by decide +kernel
theorem dX9_init_94 : decode cX9_init 94 = .ok (.dup, 1) := by decide +kernel
theorem dX9_init_95 : decode cX9_init 95 = .ok (.invokespecial 55, 3) := by decide +kernel
theorem dX9_init_98 : decode cX9_init 98 = .ok (.putfield 56, 3) := by decide +kernel
theorem dX9_init_101 : decode cX9_init 101 = .ok (.return_, 1) := by decide +kernel
theorem dX9_stations_0 : decode cX9_stations 0 = .ok (.iload_n 1, 1) := by decide +kernel
theorem dX9_stations_1 : decode cX9_stations 1 = .ok (.iconst 2, 1) := by decide +kernel
theorem dX9_stations_2 : decode cX9_stations 2 = .ok (.if_icmp .lt 9, 3) := by decide +kernel
theorem dX9_stations_5 : decode cX9_stations 5 = .ok (.iload_n 1, 1) := by decide +kernel
theorem dX9_stations_6 : decode cX9_stations 6 = .ok (.bipush 7, 2) := by decide +kernel
theorem dX9_stations_8 : decode cX9_stations 8 = .ok (.if_icmp .le 6, 3) := by decide +kernel
theorem dX9_stations_11 : decode cX9_stations 11 = .ok (.bipush (-2), 2) := by decide +kernel
theorem dX9_stations_13 : decode cX9_stations 13 = .ok (.ireturn, 1) := by decide +kernel
theorem dX9_stations_14 : decode cX9_stations 14 = .ok (.aload_n 0, 1) := by decide +kernel
theorem dX9_stations_15 : decode cX9_stations 15 = .ok (.getfield 12, 3) := by decide +kernel
theorem dX9_stations_18 : decode cX9_stations 18 = .ok (.invokevirtual 60, 3) := by decide +kernel
theorem dX9_stations_21 : decode cX9_stations 21 = .ok (.istore_n 2, 1) := by decide +kernel
theorem dX9_stations_22 : decode cX9_stations 22 = .ok (.aload_n 0, 1) := by decide +kernel
theorem dX9_stations_23 : decode cX9_stations 23 = .ok (.getfield 12, 3) := by decide +kernel
theorem dX9_stations_26 : decode cX9_stations 26 = .ok (.iload_n 1, 1) := by decide +kernel
theorem dX9_stations_27 : decode cX9_stations 27 = .ok (.invokevirtual 64, 3) := by decide +kernel
theorem dX9_stations_30 : decode cX9_stations 30 = .ok (.iload_n 2, 1) := by decide +kernel
theorem dX9_stations_31 : decode cX9_stations 31 = .ok (.ireturn, 1) := by decide +kernel
theorem dX9_link_0 : decode cX9_link 0 = .ok (.aload_n 0, 1) := by decide +kernel
theorem dX9_link_1 : decode cX9_link 1 = .ok (.getfield 12, 3) := by decide +kernel
theorem dX9_link_4 : decode cX9_link 4 = .ok (.iload_n 1, 1) := by decide +kernel
theorem dX9_link_5 : decode cX9_link 5 = .ok (.i2l, 1) := by decide +kernel
theorem dX9_link_6 : decode cX9_link 6 = .ok (.iload_n 2, 1) := by decide +kernel
theorem dX9_link_7 : decode cX9_link 7 = .ok (.i2l, 1) := by decide +kernel
theorem dX9_link_8 : decode cX9_link 8 = .ok (.iload_n 3, 1) := by decide +kernel
theorem dX9_link_9 : decode cX9_link 9 = .ok (.i2l, 1) := by decide +kernel
theorem dX9_link_10 : decode cX9_link 10 = .ok (.iload 4, 2) := by decide +kernel
theorem dX9_link_12 : decode cX9_link 12 = .ok (.i2l, 1) := by decide +kernel
theorem dX9_link_13 : decode cX9_link 13 = .ok (.invokevirtual 68, 3) := by decide +kernel
theorem dX9_link_16 : decode cX9_link 16 = .ok (.ifCond .ne 6, 3) := by decide +kernel
theorem dX9_link_19 : decode cX9_link 19 = .ok (.bipush (-2), 2) := by decide +kernel
theorem dX9_link_21 : decode cX9_link 21 = .ok (.ireturn, 1) := by decide +kernel
theorem dX9_link_22 : decode cX9_link 22 = .ok (.aload_n 0, 1) := by decide +kernel
theorem dX9_link_23 : decode cX9_link 23 = .ok (.getfield 12, 3) := by decide +kernel
theorem dX9_link_26 : decode cX9_link 26 = .ok (.invokevirtual 72, 3) := by decide +kernel
theorem dX9_link_29 : decode cX9_link 29 = .ok (.ifCond .ne 6, 3) := by decide +kernel
theorem dX9_link_32 : decode cX9_link 32 = .ok (.bipush (-4), 2) := by decide +kernel
theorem dX9_link_34 : decode cX9_link 34 = .ok (.ireturn, 1) := by decide +kernel
theorem dX9_link_35 : decode cX9_link 35 = .ok (.aload_n 0, 1) := by decide +kernel
theorem dX9_link_36 : decode cX9_link 36 = .ok (.getfield 12, 3) := by decide +kernel
theorem dX9_link_39 : decode cX9_link 39 = .ok (.iload_n 1, 1) := by decide +kernel
theorem dX9_link_40 : decode cX9_link 40 = .ok (.iload_n 2, 1) := by decide +kernel
theorem dX9_link_41 : decode cX9_link 41 = .ok (.iload_n 3, 1) := by decide +kernel
theorem dX9_link_42 : decode cX9_link 42 = .ok (.iload 4, 2) := by decide +kernel
theorem dX9_link_44 : decode cX9_link 44 = .ok (.invokevirtual 76, 3) := by decide +kernel
theorem dX9_link_47 : decode cX9_link 47 = .ok (.ireturn, 1) := by decide +kernel
theorem dX9_back_0 : decode cX9_back 0 = .ok (.aload_n 0, 1) := by decide +kernel
theorem dX9_back_1 : decode cX9_back 1 = .ok (.getfield 12, 3) := by decide +kernel
theorem dX9_back_4 : decode cX9_back 4 = .ok (.invokevirtual 80, 3) := by decide +kernel
theorem dX9_back_7 : decode cX9_back 7 = .ok (.ifCond .ne 6, 3) := by decide +kernel
theorem dX9_back_10 : decode cX9_back 10 = .ok (.bipush (-3), 2) := by decide +kernel
theorem dX9_back_12 : decode cX9_back 12 = .ok (.ireturn, 1) := by decide +kernel
theorem dX9_back_13 : decode cX9_back 13 = .ok (.aload_n 0, 1) := by decide +kernel
theorem dX9_back_14 : decode cX9_back 14 = .ok (.getfield 12, 3) := by decide +kernel
theorem dX9_back_17 : decode cX9_back 17 = .ok (.invokevirtual 83, 3) := by decide +kernel
theorem dX9_back_20 : decode cX9_back 20 = .ok (.ireturn, 1) := by decide +kernel
theorem dX9_chance_0 : decode cX9_chance 0 = .ok (.aload_n 0, 1) := by decide +kernel
theorem dX9_chance_1 : decode cX9_chance 1 = .ok (.getfield 12, 3) := by decide +kernel
theorem dX9_chance_4 : decode cX9_chance 4 = .ok (.iload_n 1, 1) := by decide +kernel
theorem dX9_chance_5 : decode cX9_chance 5 = .ok (.invokevirtual 86, 3) := by decide +kernel
theorem dX9_chance_8 : decode cX9_chance 8 = .ok (.ifCond .eq 13, 3) := by decide +kernel
theorem dX9_chance_11 : decode cX9_chance 11 = .ok (.iload_n 2, 1) := by decide +kernel
theorem dX9_chance_12 : decode cX9_chance 12 = .ok (.i2l, 1) := by decide +kernel
theorem dX9_chance_13 : decode cX9_chance 13 = .ok (.iload_n 3, 1) := by decide +kernel
theorem dX9_chance_14 : decode cX9_chance 14 = .ok (.i2l, 1) := by decide +kernel
theorem dX9_chance_15 : decode cX9_chance 15 = .ok (.invokestatic 90, 3) := by decide +kernel
theorem dX9_chance_18 : decode cX9_chance 18 = .ok (.ifCond .ne 6, 3) := by decide +kernel
theorem dX9_chance_21 : decode cX9_chance 21 = .ok (.bipush (-2), 2) := by decide +kernel
theorem dX9_chance_23 : decode cX9_chance 23 = .ok (.ireturn, 1) := by decide +kernel
theorem dX9_chance_24 : decode cX9_chance 24 = .ok (.bipush 10, 2) := by decide +kernel
theorem dX9_chance_26 : decode cX9_chance 26 = .ok (.aload_n 0, 1) := by decide +kernel
theorem dX9_chance_27 : decode cX9_chance 27 = .ok (.getfield 12, 3) := by decide +kernel
theorem dX9_chance_30 : decode cX9_chance 30 = .ok (.iload_n 1, 1) := by decide +kernel
theorem dX9_chance_31 : decode cX9_chance 31 = .ok (.invokevirtual 96, 3) := by decide +kernel
theorem dX9_chance_34 : decode cX9_chance 34 = .ok (.imul, 1) := by decide +kernel
theorem dX9_chance_35 : decode cX9_chance 35 = .ok (.aload_n 0, 1) := by decide +kernel
theorem dX9_chance_36 : decode cX9_chance 36 = .ok (.getfield 12, 3) := by decide +kernel
theorem dX9_chance_39 : decode cX9_chance 39 = .ok (.iload_n 1, 1) := by decide +kernel
theorem dX9_chance_40 : decode cX9_chance 40 = .ok (.invokevirtual 100, 3) := by decide +kernel
theorem dX9_chance_43 : decode cX9_chance 43 = .ok (.iadd, 1) := by decide +kernel
theorem dX9_chance_44 : decode cX9_chance 44 = .ok (.istore 4, 2) := by decide +kernel
theorem dX9_chance_46 : decode cX9_chance 46 = .ok (.aload_n 0, 1) := by decide +kernel
theorem dX9_chance_47 : decode cX9_chance 47 = .ok (.getfield 12, 3) := by decide +kernel
theorem dX9_chance_50 : decode cX9_chance 50 = .ok (.iload_n 1, 1) := by decide +kernel
theorem dX9_chance_51 : decode cX9_chance 51 = .ok (.iload_n 2, 1) := by decide +kernel
theorem dX9_chance_52 : decode cX9_chance 52 = .ok (.iload_n 3, 1) := by decide +kernel
theorem dX9_chance_53 : decode cX9_chance 53 = .ok (.invokevirtual 103, 3) := by decide +kernel
theorem dX9_chance_56 : decode cX9_chance 56 = .ok (.iload 4, 2) := by decide +kernel
theorem dX9_chance_58 : decode cX9_chance 58 = .ok (.ireturn, 1) := by decide +kernel
theorem dX9_see_0 : decode cX9_see 0 = .ok (.aload_n 0, 1) := by decide +kernel
theorem dX9_see_1 : decode cX9_see 1 = .ok (.getfield 12, 3) := by decide +kernel
theorem dX9_see_4 : decode cX9_see 4 = .ok (.iload_n 1, 1) := by decide +kernel
theorem dX9_see_5 : decode cX9_see 5 = .ok (.invokevirtual 86, 3) := by decide +kernel
theorem dX9_see_8 : decode cX9_see 8 = .ok (.ifCond .eq 12, 3) := by decide +kernel
theorem dX9_see_11 : decode cX9_see 11 = .ok (.iload_n 2, 1) := by decide +kernel
theorem dX9_see_12 : decode cX9_see 12 = .ok (.ifCond .lt 8, 3) := by decide +kernel
theorem dX9_see_15 : decode cX9_see 15 = .ok (.iload_n 2, 1) := by decide +kernel
theorem dX9_see_16 : decode cX9_see 16 = .ok (.iconst 2, 1) := by decide +kernel
theorem dX9_see_17 : decode cX9_see 17 = .ok (.if_icmp .le 6, 3) := by decide +kernel
theorem dX9_see_20 : decode cX9_see 20 = .ok (.bipush (-2), 2) := by decide +kernel
theorem dX9_see_22 : decode cX9_see 22 = .ok (.ireturn, 1) := by decide +kernel
theorem dX9_see_23 : decode cX9_see 23 = .ok (.aload_n 0, 1) := by decide +kernel
theorem dX9_see_24 : decode cX9_see 24 = .ok (.getfield 12, 3) := by decide +kernel
theorem dX9_see_27 : decode cX9_see 27 = .ok (.iload_n 1, 1) := by decide +kernel
theorem dX9_see_28 : decode cX9_see 28 = .ok (.invokevirtual 107, 3) := by decide +kernel
theorem dX9_see_31 : decode cX9_see 31 = .ok (.istore_n 3, 1) := by decide +kernel
theorem dX9_see_32 : decode cX9_see 32 = .ok (.aload_n 0, 1) := by decide +kernel
theorem dX9_see_33 : decode cX9_see 33 = .ok (.getfield 12, 3) := by decide +kernel
theorem dX9_see_36 : decode cX9_see 36 = .ok (.iload_n 1, 1) := by decide +kernel
theorem dX9_see_37 : decode cX9_see 37 = .ok (.iload_n 2, 1) := by decide +kernel
theorem dX9_see_38 : decode cX9_see 38 = .ok (.invokevirtual 110, 3) := by decide +kernel
theorem dX9_see_41 : decode cX9_see 41 = .ok (.iload_n 3, 1) := by decide +kernel
theorem dX9_see_42 : decode cX9_see 42 = .ok (.ireturn, 1) := by decide +kernel
theorem dX9_source_0 : decode cX9_source 0 = .ok (.aload_n 0, 1) := by decide +kernel
theorem dX9_source_1 : decode cX9_source 1 = .ok (.getfield 12, 3) := by decide +kernel
theorem dX9_source_4 : decode cX9_source 4 = .ok (.iload_n 1, 1) := by decide +kernel
theorem dX9_source_5 : decode cX9_source 5 = .ok (.i2l, 1) := by decide +kernel
theorem dX9_source_6 : decode cX9_source 6 = .ok (.invokevirtual 114, 3) := by decide +kernel
theorem dX9_source_9 : decode cX9_source 9 = .ok (.ifCond .ne 6, 3) := by decide +kernel
theorem dX9_source_12 : decode cX9_source 12 = .ok (.bipush (-2), 2) := by decide +kernel
theorem dX9_source_14 : decode cX9_source 14 = .ok (.ireturn, 1) := by decide +kernel
theorem dX9_source_15 : decode cX9_source 15 = .ok (.aload_n 0, 1) := by decide +kernel
theorem dX9_source_16 : decode cX9_source 16 = .ok (.getfield 12, 3) := by decide +kernel
theorem dX9_source_19 : decode cX9_source 19 = .ok (.invokevirtual 118, 3) := by decide +kernel
theorem dX9_source_22 : decode cX9_source 22 = .ok (.istore_n 2, 1) := by decide +kernel
theorem dX9_source_23 : decode cX9_source 23 = .ok (.aload_n 0, 1) := by decide +kernel
theorem dX9_source_24 : decode cX9_source 24 = .ok (.getfield 12, 3) := by decide +kernel
theorem dX9_source_27 : decode cX9_source 27 = .ok (.iload_n 1, 1) := by decide +kernel
theorem dX9_source_28 : decode cX9_source 28 = .ok (.invokevirtual 121, 3) := by decide +kernel
theorem dX9_source_31 : decode cX9_source 31 = .ok (.iload_n 2, 1) := by decide +kernel
theorem dX9_source_32 : decode cX9_source 32 = .ok (.ireturn, 1) := by decide +kernel
theorem dX9_goals_0 : decode cX9_goals 0 = .ok (.iload_n 1, 1) := by decide +kernel
theorem dX9_goals_1 : decode cX9_goals 1 = .ok (.ifCond .lt 14, 3) := by decide +kernel
theorem dX9_goals_4 : decode cX9_goals 4 = .ok (.iload_n 1, 1) := by decide +kernel
theorem dX9_goals_5 : decode cX9_goals 5 = .ok (.aload_n 0, 1) := by decide +kernel
theorem dX9_goals_6 : decode cX9_goals 6 = .ok (.getfield 12, 3) := by decide +kernel
theorem dX9_goals_9 : decode cX9_goals 9 = .ok (.invokevirtual 124, 3) := by decide +kernel
theorem dX9_goals_12 : decode cX9_goals 12 = .ok (.if_icmp .le 6, 3) := by decide +kernel
theorem dX9_goals_15 : decode cX9_goals 15 = .ok (.bipush (-2), 2) := by decide +kernel
theorem dX9_goals_17 : decode cX9_goals 17 = .ok (.ireturn, 1) := by decide +kernel
theorem dX9_goals_18 : decode cX9_goals 18 = .ok (.aload_n 0, 1) := by decide +kernel
theorem dX9_goals_19 : decode cX9_goals 19 = .ok (.getfield 12, 3) := by decide +kernel
theorem dX9_goals_22 : decode cX9_goals 22 = .ok (.invokevirtual 127, 3) := by decide +kernel
theorem dX9_goals_25 : decode cX9_goals 25 = .ok (.istore_n 2, 1) := by decide +kernel
theorem dX9_goals_26 : decode cX9_goals 26 = .ok (.aload_n 0, 1) := by decide +kernel
theorem dX9_goals_27 : decode cX9_goals 27 = .ok (.getfield 12, 3) := by decide +kernel
theorem dX9_goals_30 : decode cX9_goals 30 = .ok (.iload_n 1, 1) := by decide +kernel
theorem dX9_goals_31 : decode cX9_goals 31 = .ok (.invokevirtual 130, 3) := by decide +kernel
theorem dX9_goals_34 : decode cX9_goals 34 = .ok (.iload_n 2, 1) := by decide +kernel
theorem dX9_goals_35 : decode cX9_goals 35 = .ok (.ireturn, 1) := by decide +kernel
theorem dX9_info_0 : decode cX9_info 0 = .ok (.aload_n 0, 1) := by decide +kernel
theorem dX9_info_1 : decode cX9_info 1 = .ok (.getfield 12, 3) := by decide +kernel
theorem dX9_info_4 : decode cX9_info 4 = .ok (.iload_n 1, 1) := by decide +kernel
theorem dX9_info_5 : decode cX9_info 5 = .ok (.invokevirtual 86, 3) := by decide +kernel
theorem dX9_info_8 : decode cX9_info 8 = .ok (.ifCond .ne 6, 3) := by decide +kernel
theorem dX9_info_11 : decode cX9_info 11 = .ok (.bipush (-2), 2) := by decide +kernel
theorem dX9_info_13 : decode cX9_info 13 = .ok (.ireturn, 1) := by decide +kernel
theorem dX9_info_14 : decode cX9_info 14 = .ok (.iload_n 2, 1) := by decide +kernel
theorem dX9_info_15 : decode cX9_info 15 = .ok (.tableswitch 78 0 4 #[33, 42, 51, 60, 69], 33) := by decide +kernel
theorem dX9_info_48 : decode cX9_info 48 = .ok (.aload_n 0, 1) := by decide +kernel
theorem dX9_info_49 : decode cX9_info 49 = .ok (.getfield 12, 3) := by decide +kernel
theorem dX9_info_52 : decode cX9_info 52 = .ok (.iload_n 1, 1) := by decide +kernel
theorem dX9_info_53 : decode cX9_info 53 = .ok (.invokevirtual 133, 3) := by decide +kernel
theorem dX9_info_56 : decode cX9_info 56 = .ok (.ireturn, 1) := by decide +kernel
theorem dX9_info_57 : decode cX9_info 57 = .ok (.aload_n 0, 1) := by decide +kernel
theorem dX9_info_58 : decode cX9_info 58 = .ok (.getfield 12, 3) := by decide +kernel
theorem dX9_info_61 : decode cX9_info 61 = .ok (.iload_n 1, 1) := by decide +kernel
theorem dX9_info_62 : decode cX9_info 62 = .ok (.invokevirtual 136, 3) := by decide +kernel
theorem dX9_info_65 : decode cX9_info 65 = .ok (.ireturn, 1) := by decide +kernel
theorem dX9_info_66 : decode cX9_info 66 = .ok (.aload_n 0, 1) := by decide +kernel
theorem dX9_info_67 : decode cX9_info 67 = .ok (.getfield 12, 3) := by decide +kernel
theorem dX9_info_70 : decode cX9_info 70 = .ok (.iload_n 1, 1) := by decide +kernel
theorem dX9_info_71 : decode cX9_info 71 = .ok (.invokevirtual 96, 3) := by decide +kernel
theorem dX9_info_74 : decode cX9_info 74 = .ok (.ireturn, 1) := by decide +kernel
theorem dX9_info_75 : decode cX9_info 75 = .ok (.aload_n 0, 1) := by decide +kernel
theorem dX9_info_76 : decode cX9_info 76 = .ok (.getfield 12, 3) := by decide +kernel
theorem dX9_info_79 : decode cX9_info 79 = .ok (.iload_n 1, 1) := by decide +kernel
theorem dX9_info_80 : decode cX9_info 80 = .ok (.invokevirtual 100, 3) := by decide +kernel
theorem dX9_info_83 : decode cX9_info 83 = .ok (.ireturn, 1) := by decide +kernel
theorem dX9_info_84 : decode cX9_info 84 = .ok (.aload_n 0, 1) := by decide +kernel
theorem dX9_info_85 : decode cX9_info 85 = .ok (.getfield 12, 3) := by decide +kernel
theorem dX9_info_88 : decode cX9_info 88 = .ok (.iload_n 1, 1) := by decide +kernel
theorem dX9_info_89 : decode cX9_info 89 = .ok (.invokevirtual 107, 3) := by decide +kernel
theorem dX9_info_92 : decode cX9_info 92 = .ok (.ireturn, 1) := by decide +kernel
theorem dX9_info_93 : decode cX9_info 93 = .ok (.bipush (-2), 2) := by decide +kernel
theorem dX9_info_95 : decode cX9_info 95 = .ok (.ireturn, 1) := by decide +kernel
theorem dX9_reach_0 : decode cX9_reach 0 = .ok (.iload_n 1, 1) := by decide +kernel
theorem dX9_reach_1 : decode cX9_reach 1 = .ok (.invokestatic 139, 3) := by decide +kernel
theorem dX9_reach_4 : decode cX9_reach 4 = .ok (.ifCond .ne 9, 3) := by decide +kernel
theorem dX9_reach_7 : decode cX9_reach 7 = .ok (.bipush (-2), 2) := by decide +kernel
theorem dX9_reach_9 : decode cX9_reach 9 = .ok (.invokestatic 142, 3) := by decide +kernel
theorem dX9_reach_12 : decode cX9_reach 12 = .ok (.lreturn, 1) := by decide +kernel
theorem dX9_reach_13 : decode cX9_reach 13 = .ok (.aload_n 0, 1) := by decide +kernel
theorem dX9_reach_14 : decode cX9_reach 14 = .ok (.getfield 21, 3) := by decide +kernel
theorem dX9_reach_17 : decode cX9_reach 17 = .ok (.invokevirtual 146, 3) := by decide +kernel
theorem dX9_reach_20 : decode cX9_reach 20 = .ok (.aload_n 0, 1) := by decide +kernel
theorem dX9_reach_21 : decode cX9_reach 21 = .ok (.getfield 21, 3) := by decide +kernel
theorem dX9_reach_24 : decode cX9_reach 24 = .ok (.aload_n 0, 1) := by decide +kernel
theorem dX9_reach_25 : decode cX9_reach 25 = .ok (.getfield 21, 3) := by decide +kernel
theorem dX9_reach_28 : decode cX9_reach 28 = .ok (.invokevirtual 149, 3) := by decide +kernel
theorem dX9_reach_31 : decode cX9_reach 31 = .ok (.iload_n 1, 1) := by decide +kernel
theorem dX9_reach_32 : decode cX9_reach 32 = .ok (.invokevirtual 153, 3) := by decide +kernel
theorem dX9_reach_35 : decode cX9_reach 35 = .ok (.lreturn, 1) := by decide +kernel
theorem dX9_joined_0 : decode cX9_joined 0 = .ok (.iload_n 1, 1) := by decide +kernel
theorem dX9_joined_1 : decode cX9_joined 1 = .ok (.ifCond .lt 8, 3) := by decide +kernel
theorem dX9_joined_4 : decode cX9_joined 4 = .ok (.iload_n 1, 1) := by decide +kernel
theorem dX9_joined_5 : decode cX9_joined 5 = .ok (.iconst 4, 1) := by decide +kernel
theorem dX9_joined_6 : decode cX9_joined 6 = .ok (.if_icmp .le 9, 3) := by decide +kernel
theorem dX9_joined_9 : decode cX9_joined 9 = .ok (.bipush (-2), 2) := by decide +kernel
theorem dX9_joined_11 : decode cX9_joined 11 = .ok (.invokestatic 142, 3) := by decide +kernel
theorem dX9_joined_14 : decode cX9_joined 14 = .ok (.lreturn, 1) := by decide +kernel
theorem dX9_joined_15 : decode cX9_joined 15 = .ok (.aload_n 0, 1) := by decide +kernel
theorem dX9_joined_16 : decode cX9_joined 16 = .ok (.getfield 42, 3) := by decide +kernel
theorem dX9_joined_19 : decode cX9_joined 19 = .ok (.invokevirtual 157, 3) := by decide +kernel
theorem dX9_joined_22 : decode cX9_joined 22 = .ok (.aload_n 0, 1) := by decide +kernel
theorem dX9_joined_23 : decode cX9_joined 23 = .ok (.getfield 42, 3) := by decide +kernel
theorem dX9_joined_26 : decode cX9_joined 26 = .ok (.iload_n 1, 1) := by decide +kernel
theorem dX9_joined_27 : decode cX9_joined 27 = .ok (.invokevirtual 160, 3) := by decide +kernel
theorem dX9_joined_30 : decode cX9_joined 30 = .ok (.lreturn, 1) := by decide +kernel
theorem dX9_wide_0 : decode cX9_wide 0 = .ok (.aload_n 0, 1) := by decide +kernel
theorem dX9_wide_1 : decode cX9_wide 1 = .ok (.getfield 12, 3) := by decide +kernel
theorem dX9_wide_4 : decode cX9_wide 4 = .ok (.iload_n 1, 1) := by decide +kernel
theorem dX9_wide_5 : decode cX9_wide 5 = .ok (.invokevirtual 86, 3) := by decide +kernel
theorem dX9_wide_8 : decode cX9_wide 8 = .ok (.ifCond .ne 6, 3) := by decide +kernel
theorem dX9_wide_11 : decode cX9_wide 11 = .ok (.bipush (-2), 2) := by decide +kernel
theorem dX9_wide_13 : decode cX9_wide 13 = .ok (.ireturn, 1) := by decide +kernel
theorem dX9_wide_14 : decode cX9_wide 14 = .ok (.aload_n 0, 1) := by decide +kernel
theorem dX9_wide_15 : decode cX9_wide 15 = .ok (.getfield 35, 3) := by decide +kernel
theorem dX9_wide_18 : decode cX9_wide 18 = .ok (.iload_n 1, 1) := by decide +kernel
theorem dX9_wide_19 : decode cX9_wide 19 = .ok (.invokevirtual 162, 3) := by decide +kernel
theorem dX9_wide_22 : decode cX9_wide 22 = .ok (.ireturn, 1) := by decide +kernel
theorem dX9_widest_0 : decode cX9_widest 0 = .ok (.aload_n 0, 1) := by decide +kernel
theorem dX9_widest_1 : decode cX9_widest 1 = .ok (.getfield 35, 3) := by decide +kernel
theorem dX9_widest_4 : decode cX9_widest 4 = .ok (.invokevirtual 165, 3) := by decide +kernel
theorem dX9_widest_7 : decode cX9_widest 7 = .ok (.ireturn, 1) := by decide +kernel
theorem dX9_pair_0 : decode cX9_pair 0 = .ok (.aload_n 0, 1) := by decide +kernel
theorem dX9_pair_1 : decode cX9_pair 1 = .ok (.getfield 12, 3) := by decide +kernel
theorem dX9_pair_4 : decode cX9_pair 4 = .ok (.iload_n 1, 1) := by decide +kernel
theorem dX9_pair_5 : decode cX9_pair 5 = .ok (.i2l, 1) := by decide +kernel
theorem dX9_pair_6 : decode cX9_pair 6 = .ok (.invokevirtual 114, 3) := by decide +kernel
theorem dX9_pair_9 : decode cX9_pair 9 = .ok (.ifCond .eq 22, 3) := by decide +kernel
theorem dX9_pair_12 : decode cX9_pair 12 = .ok (.aload_n 0, 1) := by decide +kernel
theorem dX9_pair_13 : decode cX9_pair 13 = .ok (.getfield 12, 3) := by decide +kernel
theorem dX9_pair_16 : decode cX9_pair 16 = .ok (.iload_n 2, 1) := by decide +kernel
theorem dX9_pair_17 : decode cX9_pair 17 = .ok (.i2l, 1) := by decide +kernel
theorem dX9_pair_18 : decode cX9_pair 18 = .ok (.invokevirtual 114, 3) := by decide +kernel
theorem dX9_pair_21 : decode cX9_pair 21 = .ok (.ifCond .eq 10, 3) := by decide +kernel
theorem dX9_pair_24 : decode cX9_pair 24 = .ok (.iload_n 3, 1) := by decide +kernel
theorem dX9_pair_25 : decode cX9_pair 25 = .ok (.invokestatic 139, 3) := by decide +kernel
theorem dX9_pair_28 : decode cX9_pair 28 = .ok (.ifCond .ne 9, 3) := by decide +kernel
theorem dX9_pair_31 : decode cX9_pair 31 = .ok (.bipush (-2), 2) := by decide +kernel
theorem dX9_pair_33 : decode cX9_pair 33 = .ok (.invokestatic 142, 3) := by decide +kernel
theorem dX9_pair_36 : decode cX9_pair 36 = .ok (.lreturn, 1) := by decide +kernel
theorem dX9_pair_37 : decode cX9_pair 37 = .ok (.aload_n 0, 1) := by decide +kernel
theorem dX9_pair_38 : decode cX9_pair 38 = .ok (.getfield 21, 3) := by decide +kernel
theorem dX9_pair_41 : decode cX9_pair 41 = .ok (.invokevirtual 146, 3) := by decide +kernel
theorem dX9_pair_44 : decode cX9_pair 44 = .ok (.aload_n 0, 1) := by decide +kernel
theorem dX9_pair_45 : decode cX9_pair 45 = .ok (.getfield 21, 3) := by decide +kernel
theorem dX9_pair_48 : decode cX9_pair 48 = .ok (.aload_n 0, 1) := by decide +kernel
theorem dX9_pair_49 : decode cX9_pair 49 = .ok (.getfield 21, 3) := by decide +kernel
theorem dX9_pair_52 : decode cX9_pair 52 = .ok (.iload_n 1, 1) := by decide +kernel
theorem dX9_pair_53 : decode cX9_pair 53 = .ok (.iload_n 2, 1) := by decide +kernel
theorem dX9_pair_54 : decode cX9_pair 54 = .ok (.invokevirtual 168, 3) := by decide +kernel
theorem dX9_pair_57 : decode cX9_pair 57 = .ok (.iload_n 3, 1) := by decide +kernel
theorem dX9_pair_58 : decode cX9_pair 58 = .ok (.invokevirtual 153, 3) := by decide +kernel
theorem dX9_pair_61 : decode cX9_pair 61 = .ok (.lreturn, 1) := by decide +kernel
theorem dX9_rule_0 : decode cX9_rule 0 = .ok (.iload_n 1, 1) := by decide +kernel
theorem dX9_rule_1 : decode cX9_rule 1 = .ok (.invokestatic 139, 3) := by decide +kernel
theorem dX9_rule_4 : decode cX9_rule 4 = .ok (.ifCond .ne 9, 3) := by decide +kernel
theorem dX9_rule_7 : decode cX9_rule 7 = .ok (.bipush (-2), 2) := by decide +kernel
theorem dX9_rule_9 : decode cX9_rule 9 = .ok (.invokestatic 142, 3) := by decide +kernel
theorem dX9_rule_12 : decode cX9_rule 12 = .ok (.lreturn, 1) := by decide +kernel
theorem dX9_rule_13 : decode cX9_rule 13 = .ok (.aload_n 0, 1) := by decide +kernel
theorem dX9_rule_14 : decode cX9_rule 14 = .ok (.getfield 21, 3) := by decide +kernel
theorem dX9_rule_17 : decode cX9_rule 17 = .ok (.invokevirtual 146, 3) := by decide +kernel
theorem dX9_rule_20 : decode cX9_rule 20 = .ok (.aload_n 0, 1) := by decide +kernel
theorem dX9_rule_21 : decode cX9_rule 21 = .ok (.getfield 21, 3) := by decide +kernel
theorem dX9_rule_24 : decode cX9_rule 24 = .ok (.aload_n 0, 1) := by decide +kernel
theorem dX9_rule_25 : decode cX9_rule 25 = .ok (.getfield 21, 3) := by decide +kernel
theorem dX9_rule_28 : decode cX9_rule 28 = .ok (.invokevirtual 172, 3) := by decide +kernel
theorem dX9_rule_31 : decode cX9_rule 31 = .ok (.iload_n 1, 1) := by decide +kernel
theorem dX9_rule_32 : decode cX9_rule 32 = .ok (.invokevirtual 153, 3) := by decide +kernel
theorem dX9_rule_35 : decode cX9_rule 35 = .ok (.lreturn, 1) := by decide +kernel
theorem dX9_sets_0 : decode cX9_sets 0 = .ok (.iload_n 1, 1) := by decide +kernel
theorem dX9_sets_1 : decode cX9_sets 1 = .ok (.ifCond .lt 14, 3) := by decide +kernel
theorem dX9_sets_4 : decode cX9_sets 4 = .ok (.iload_n 1, 1) := by decide +kernel
theorem dX9_sets_5 : decode cX9_sets 5 = .ok (.aload_n 0, 1) := by decide +kernel
theorem dX9_sets_6 : decode cX9_sets 6 = .ok (.getfield 12, 3) := by decide +kernel
theorem dX9_sets_9 : decode cX9_sets 9 = .ok (.invokevirtual 80, 3) := by decide +kernel
theorem dX9_sets_12 : decode cX9_sets 12 = .ok (.if_icmp .le 6, 3) := by decide +kernel
theorem dX9_sets_15 : decode cX9_sets 15 = .ok (.bipush (-2), 2) := by decide +kernel
theorem dX9_sets_17 : decode cX9_sets 17 = .ok (.ireturn, 1) := by decide +kernel
theorem dX9_sets_18 : decode cX9_sets 18 = .ok (.aload_n 0, 1) := by decide +kernel
theorem dX9_sets_19 : decode cX9_sets 19 = .ok (.getfield 28, 3) := by decide +kernel
theorem dX9_sets_22 : decode cX9_sets 22 = .ok (.invokevirtual 175, 3) := by decide +kernel
theorem dX9_sets_25 : decode cX9_sets 25 = .ok (.aload_n 0, 1) := by decide +kernel
theorem dX9_sets_26 : decode cX9_sets 26 = .ok (.getfield 28, 3) := by decide +kernel
theorem dX9_sets_29 : decode cX9_sets 29 = .ok (.iload_n 1, 1) := by decide +kernel
theorem dX9_sets_30 : decode cX9_sets 30 = .ok (.invokevirtual 176, 3) := by decide +kernel
theorem dX9_sets_33 : decode cX9_sets 33 = .ok (.ireturn, 1) := by decide +kernel
theorem dX9_like_0 : decode cX9_like 0 = .ok (.iload_n 2, 1) := by decide +kernel
theorem dX9_like_1 : decode cX9_like 1 = .ok (.iconst 1, 1) := by decide +kernel
theorem dX9_like_2 : decode cX9_like 2 = .ok (.if_icmp .lt 25, 3) := by decide +kernel
theorem dX9_like_5 : decode cX9_like 5 = .ok (.iload_n 2, 1) := by decide +kernel
theorem dX9_like_6 : decode cX9_like 6 = .ok (.bipush 99, 2) := by decide +kernel
theorem dX9_like_8 : decode cX9_like 8 = .ok (.if_icmp .gt 19, 3) := by decide +kernel
theorem dX9_like_11 : decode cX9_like 11 = .ok (.iload_n 1, 1) := by decide +kernel
theorem dX9_like_12 : decode cX9_like 12 = .ok (.ifCond .lt 15, 3) := by decide +kernel
theorem dX9_like_15 : decode cX9_like 15 = .ok (.iload_n 1, 1) := by decide +kernel
theorem dX9_like_16 : decode cX9_like 16 = .ok (.iload_n 2, 1) := by decide +kernel
theorem dX9_like_17 : decode cX9_like 17 = .ok (.if_icmp .gt 10, 3) := by decide +kernel
theorem dX9_like_20 : decode cX9_like 20 = .ok (.iload_n 3, 1) := by decide +kernel
theorem dX9_like_21 : decode cX9_like 21 = .ok (.invokestatic 139, 3) := by decide +kernel
theorem dX9_like_24 : decode cX9_like 24 = .ok (.ifCond .ne 9, 3) := by decide +kernel
theorem dX9_like_27 : decode cX9_like 27 = .ok (.bipush (-2), 2) := by decide +kernel
theorem dX9_like_29 : decode cX9_like 29 = .ok (.invokestatic 142, 3) := by decide +kernel
theorem dX9_like_32 : decode cX9_like 32 = .ok (.lreturn, 1) := by decide +kernel
theorem dX9_like_33 : decode cX9_like 33 = .ok (.aload_n 0, 1) := by decide +kernel
theorem dX9_like_34 : decode cX9_like 34 = .ok (.getfield 28, 3) := by decide +kernel
theorem dX9_like_37 : decode cX9_like 37 = .ok (.invokevirtual 175, 3) := by decide +kernel
theorem dX9_like_40 : decode cX9_like 40 = .ok (.aload_n 0, 1) := by decide +kernel
theorem dX9_like_41 : decode cX9_like 41 = .ok (.iload_n 1, 1) := by decide +kernel
theorem dX9_like_42 : decode cX9_like 42 = .ok (.iload_n 2, 1) := by decide +kernel
theorem dX9_like_43 : decode cX9_like 43 = .ok (.iload_n 3, 1) := by decide +kernel
theorem dX9_like_44 : decode cX9_like 44 = .ok (.invokevirtual 179, 3) := by decide +kernel
theorem dX9_like_47 : decode cX9_like 47 = .ok (.lreturn, 1) := by decide +kernel
theorem dX9_least_0 : decode cX9_least 0 = .ok (.iload_n 1, 1) := by decide +kernel
theorem dX9_least_1 : decode cX9_least 1 = .ok (.invokestatic 139, 3) := by decide +kernel
theorem dX9_least_4 : decode cX9_least 4 = .ok (.ifCond .ne 6, 3) := by decide +kernel
theorem dX9_least_7 : decode cX9_least 7 = .ok (.bipush (-2), 2) := by decide +kernel
theorem dX9_least_9 : decode cX9_least 9 = .ok (.ireturn, 1) := by decide +kernel
theorem dX9_least_10 : decode cX9_least 10 = .ok (.iload_n 1, 1) := by decide +kernel
theorem dX9_least_11 : decode cX9_least 11 = .ok (.ifCond .ne 13, 3) := by decide +kernel
theorem dX9_least_14 : decode cX9_least 14 = .ok (.aload_n 0, 1) := by decide +kernel
theorem dX9_least_15 : decode cX9_least 15 = .ok (.getfield 28, 3) := by decide +kernel
theorem dX9_least_18 : decode cX9_least 18 = .ok (.invokevirtual 183, 3) := by decide +kernel
theorem dX9_least_21 : decode cX9_least 21 = .ok (.goto 10, 3) := by decide +kernel
theorem dX9_least_24 : decode cX9_least 24 = .ok (.aload_n 0, 1) := by decide +kernel
theorem dX9_least_25 : decode cX9_least 25 = .ok (.getfield 28, 3) := by decide +kernel
theorem dX9_least_28 : decode cX9_least 28 = .ok (.invokevirtual 186, 3) := by decide +kernel
theorem dX9_least_31 : decode cX9_least 31 = .ok (.ireturn, 1) := by decide +kernel
theorem dX9_worth_0 : decode cX9_worth 0 = .ok (.aload_n 0, 1) := by decide +kernel
theorem dX9_worth_1 : decode cX9_worth 1 = .ok (.getfield 12, 3) := by decide +kernel
theorem dX9_worth_4 : decode cX9_worth 4 = .ok (.iload_n 1, 1) := by decide +kernel
theorem dX9_worth_5 : decode cX9_worth 5 = .ok (.invokevirtual 86, 3) := by decide +kernel
theorem dX9_worth_8 : decode cX9_worth 8 = .ok (.ifCond .eq 10, 3) := by decide +kernel
theorem dX9_worth_11 : decode cX9_worth 11 = .ok (.iload_n 2, 1) := by decide +kernel
theorem dX9_worth_12 : decode cX9_worth 12 = .ok (.invokestatic 139, 3) := by decide +kernel
theorem dX9_worth_15 : decode cX9_worth 15 = .ok (.ifCond .ne 9, 3) := by decide +kernel
theorem dX9_worth_18 : decode cX9_worth 18 = .ok (.bipush (-2), 2) := by decide +kernel
theorem dX9_worth_20 : decode cX9_worth 20 = .ok (.invokestatic 142, 3) := by decide +kernel
theorem dX9_worth_23 : decode cX9_worth 23 = .ok (.lreturn, 1) := by decide +kernel
theorem dX9_worth_24 : decode cX9_worth 24 = .ok (.aload_n 0, 1) := by decide +kernel
theorem dX9_worth_25 : decode cX9_worth 25 = .ok (.getfield 21, 3) := by decide +kernel
theorem dX9_worth_28 : decode cX9_worth 28 = .ok (.invokevirtual 146, 3) := by decide +kernel
theorem dX9_worth_31 : decode cX9_worth 31 = .ok (.aload_n 0, 1) := by decide +kernel
theorem dX9_worth_32 : decode cX9_worth 32 = .ok (.getfield 21, 3) := by decide +kernel
theorem dX9_worth_35 : decode cX9_worth 35 = .ok (.aload_n 0, 1) := by decide +kernel
theorem dX9_worth_36 : decode cX9_worth 36 = .ok (.getfield 21, 3) := by decide +kernel
theorem dX9_worth_39 : decode cX9_worth 39 = .ok (.iload_n 1, 1) := by decide +kernel
theorem dX9_worth_40 : decode cX9_worth 40 = .ok (.invokevirtual 189, 3) := by decide +kernel
theorem dX9_worth_43 : decode cX9_worth 43 = .ok (.iload_n 2, 1) := by decide +kernel
theorem dX9_worth_44 : decode cX9_worth 44 = .ok (.invokevirtual 153, 3) := by decide +kernel
theorem dX9_worth_47 : decode cX9_worth 47 = .ok (.lreturn, 1) := by decide +kernel
theorem dX9_worthiest_0 : decode cX9_worthiest 0 = .ok (.aload_n 0, 1) := by decide +kernel
theorem dX9_worthiest_1 : decode cX9_worthiest 1 = .ok (.getfield 21, 3) := by decide +kernel
theorem dX9_worthiest_4 : decode cX9_worthiest 4 = .ok (.invokevirtual 146, 3) := by decide +kernel
theorem dX9_worthiest_7 : decode cX9_worthiest 7 = .ok (.aload_n 0, 1) := by decide +kernel
theorem dX9_worthiest_8 : decode cX9_worthiest 8 = .ok (.getfield 21, 3) := by decide +kernel
theorem dX9_worthiest_11 : decode cX9_worthiest 11 = .ok (.invokevirtual 192, 3) := by decide +kernel
theorem dX9_worthiest_14 : decode cX9_worthiest 14 = .ok (.ireturn, 1) := by decide +kernel
theorem dX9_better_0 : decode cX9_better 0 = .ok (.aload_n 0, 1) := by decide +kernel
theorem dX9_better_1 : decode cX9_better 1 = .ok (.getfield 12, 3) := by decide +kernel
theorem dX9_better_4 : decode cX9_better 4 = .ok (.iload_n 1, 1) := by decide +kernel
theorem dX9_better_5 : decode cX9_better 5 = .ok (.invokevirtual 86, 3) := by decide +kernel
theorem dX9_better_8 : decode cX9_better 8 = .ok (.ifCond .eq 21, 3) := by decide +kernel
theorem dX9_better_11 : decode cX9_better 11 = .ok (.iload_n 2, 1) := by decide +kernel
theorem dX9_better_12 : decode cX9_better 12 = .ok (.i2l, 1) := by decide +kernel
theorem dX9_better_13 : decode cX9_better 13 = .ok (.iload_n 3, 1) := by decide +kernel
theorem dX9_better_14 : decode cX9_better 14 = .ok (.i2l, 1) := by decide +kernel
theorem dX9_better_15 : decode cX9_better 15 = .ok (.invokestatic 90, 3) := by decide +kernel
theorem dX9_better_18 : decode cX9_better 18 = .ok (.ifCond .eq 11, 3) := by decide +kernel
theorem dX9_better_21 : decode cX9_better 21 = .ok (.iload 4, 2) := by decide +kernel
theorem dX9_better_23 : decode cX9_better 23 = .ok (.invokestatic 139, 3) := by decide +kernel
theorem dX9_better_26 : decode cX9_better 26 = .ok (.ifCond .ne 9, 3) := by decide +kernel
theorem dX9_better_29 : decode cX9_better 29 = .ok (.bipush (-2), 2) := by decide +kernel
theorem dX9_better_31 : decode cX9_better 31 = .ok (.invokestatic 142, 3) := by decide +kernel
theorem dX9_better_34 : decode cX9_better 34 = .ok (.lreturn, 1) := by decide +kernel
theorem dX9_better_35 : decode cX9_better 35 = .ok (.aload_n 0, 1) := by decide +kernel
theorem dX9_better_36 : decode cX9_better 36 = .ok (.getfield 21, 3) := by decide +kernel
theorem dX9_better_39 : decode cX9_better 39 = .ok (.iload_n 1, 1) := by decide +kernel
theorem dX9_better_40 : decode cX9_better 40 = .ok (.iload_n 2, 1) := by decide +kernel
theorem dX9_better_41 : decode cX9_better 41 = .ok (.iload_n 3, 1) := by decide +kernel
theorem dX9_better_42 : decode cX9_better 42 = .ok (.invokevirtual 195, 3) := by decide +kernel
theorem dX9_better_45 : decode cX9_better 45 = .ok (.aload_n 0, 1) := by decide +kernel
theorem dX9_better_46 : decode cX9_better 46 = .ok (.getfield 21, 3) := by decide +kernel
theorem dX9_better_49 : decode cX9_better 49 = .ok (.aload_n 0, 1) := by decide +kernel
theorem dX9_better_50 : decode cX9_better 50 = .ok (.getfield 21, 3) := by decide +kernel
theorem dX9_better_53 : decode cX9_better 53 = .ok (.invokevirtual 149, 3) := by decide +kernel
theorem dX9_better_56 : decode cX9_better 56 = .ok (.iload 4, 2) := by decide +kernel
theorem dX9_better_58 : decode cX9_better 58 = .ok (.invokevirtual 153, 3) := by decide +kernel
theorem dX9_better_61 : decode cX9_better 61 = .ok (.lreturn, 1) := by decide +kernel
theorem dX9_count_0 : decode cX9_count 0 = .ok (.iload_n 1, 1) := by decide +kernel
theorem dX9_count_1 : decode cX9_count 1 = .ok (.tableswitch 156 0 8 #[51, 59, 67, 75, 83, 94, 106, 140, 148], 51) := by decide +kernel
theorem dX9_count_52 : decode cX9_count 52 = .ok (.aload_n 0, 1) := by decide +kernel
theorem dX9_count_53 : decode cX9_count 53 = .ok (.getfield 12, 3) := by decide +kernel
theorem dX9_count_56 : decode cX9_count 56 = .ok (.invokevirtual 60, 3) := by decide +kernel
theorem dX9_count_59 : decode cX9_count 59 = .ok (.ireturn, 1) := by decide +kernel
theorem dX9_count_60 : decode cX9_count 60 = .ok (.aload_n 0, 1) := by decide +kernel
theorem dX9_count_61 : decode cX9_count 61 = .ok (.getfield 12, 3) := by decide +kernel
theorem dX9_count_64 : decode cX9_count 64 = .ok (.invokevirtual 80, 3) := by decide +kernel
theorem dX9_count_67 : decode cX9_count 67 = .ok (.ireturn, 1) := by decide +kernel
theorem dX9_count_68 : decode cX9_count 68 = .ok (.aload_n 0, 1) := by decide +kernel
theorem dX9_count_69 : decode cX9_count 69 = .ok (.getfield 12, 3) := by decide +kernel
theorem dX9_count_72 : decode cX9_count 72 = .ok (.invokevirtual 118, 3) := by decide +kernel
theorem dX9_count_75 : decode cX9_count 75 = .ok (.ireturn, 1) := by decide +kernel
theorem dX9_count_76 : decode cX9_count 76 = .ok (.aload_n 0, 1) := by decide +kernel
theorem dX9_count_77 : decode cX9_count 77 = .ok (.getfield 12, 3) := by decide +kernel
theorem dX9_count_80 : decode cX9_count 80 = .ok (.invokevirtual 127, 3) := by decide +kernel
theorem dX9_count_83 : decode cX9_count 83 = .ok (.ireturn, 1) := by decide +kernel
theorem dX9_count_84 : decode cX9_count 84 = .ok (.aload_n 0, 1) := by decide +kernel
theorem dX9_count_85 : decode cX9_count 85 = .ok (.getfield 12, 3) := by decide +kernel
theorem dX9_count_88 : decode cX9_count 88 = .ok (.invokevirtual 261, 3) := by decide +kernel
theorem dX9_count_91 : decode cX9_count 91 = .ok (.invokestatic 264, 3) := by decide +kernel
theorem dX9_count_94 : decode cX9_count 94 = .ok (.ireturn, 1) := by decide +kernel
theorem dX9_count_95 : decode cX9_count 95 = .ok (.aload_n 0, 1) := by decide +kernel
theorem dX9_count_96 : decode cX9_count 96 = .ok (.getfield 12, 3) := by decide +kernel
theorem dX9_count_99 : decode cX9_count 99 = .ok (.iconst 0, 1) := by decide +kernel
theorem dX9_count_100 : decode cX9_count 100 = .ok (.invokevirtual 269, 3) := by decide +kernel
theorem dX9_count_103 : decode cX9_count 103 = .ok (.invokestatic 264, 3) := by decide +kernel
theorem dX9_count_106 : decode cX9_count 106 = .ok (.ireturn, 1) := by decide +kernel
theorem dX9_count_107 : decode cX9_count 107 = .ok (.aload_n 0, 1) := by decide +kernel
theorem dX9_count_108 : decode cX9_count 108 = .ok (.getfield 12, 3) := by decide +kernel
theorem dX9_count_111 : decode cX9_count 111 = .ok (.aload_n 0, 1) := by decide +kernel
theorem dX9_count_112 : decode cX9_count 112 = .ok (.getfield 12, 3) := by decide +kernel
theorem dX9_count_115 : decode cX9_count 115 = .ok (.invokevirtual 272, 3) := by decide +kernel
theorem dX9_count_118 : decode cX9_count 118 = .ok (.aload_n 0, 1) := by decide +kernel
theorem dX9_count_119 : decode cX9_count 119 = .ok (.getfield 12, 3) := by decide +kernel
theorem dX9_count_122 : decode cX9_count 122 = .ok (.iconst 2, 1) := by decide +kernel
theorem dX9_count_123 : decode cX9_count 123 = .ok (.invokevirtual 269, 3) := by decide +kernel
theorem dX9_count_126 : decode cX9_count 126 = .ok (.iconst (-1), 1) := by decide +kernel
theorem dX9_count_127 : decode cX9_count 127 = .ok (.ixor, 1) := by decide +kernel
theorem dX9_count_128 : decode cX9_count 128 = .ok (.iand, 1) := by decide +kernel
theorem dX9_count_129 : decode cX9_count 129 = .ok (.invokevirtual 275, 3) := by decide +kernel
theorem dX9_count_132 : decode cX9_count 132 = .ok (.ifCond .eq 7, 3) := by decide +kernel
theorem dX9_count_135 : decode cX9_count 135 = .ok (.iconst 1, 1) := by decide +kernel
theorem dX9_count_136 : decode cX9_count 136 = .ok (.goto 4, 3) := by decide +kernel
theorem dX9_count_139 : decode cX9_count 139 = .ok (.iconst 0, 1) := by decide +kernel
theorem dX9_count_140 : decode cX9_count 140 = .ok (.ireturn, 1) := by decide +kernel
theorem dX9_count_141 : decode cX9_count 141 = .ok (.aload_n 0, 1) := by decide +kernel
theorem dX9_count_142 : decode cX9_count 142 = .ok (.getfield 49, 3) := by decide +kernel
theorem dX9_count_145 : decode cX9_count 145 = .ok (.invokevirtual 278, 3) := by decide +kernel
theorem dX9_count_148 : decode cX9_count 148 = .ok (.ireturn, 1) := by decide +kernel
theorem dX9_count_149 : decode cX9_count 149 = .ok (.aload_n 0, 1) := by decide +kernel
theorem dX9_count_150 : decode cX9_count 150 = .ok (.getfield 56, 3) := by decide +kernel
theorem dX9_count_153 : decode cX9_count 153 = .ok (.invokevirtual 281, 3) := by decide +kernel
theorem dX9_count_156 : decode cX9_count 156 = .ok (.ireturn, 1) := by decide +kernel
theorem dX9_count_157 : decode cX9_count 157 = .ok (.bipush (-2), 2) := by decide +kernel
theorem dX9_count_159 : decode cX9_count 159 = .ok (.ireturn, 1) := by decide +kernel
theorem dX9_isSide_0 : decode cX9_isSide 0 = .ok (.iload_n 0, 1) := by decide +kernel
theorem dX9_isSide_1 : decode cX9_isSide 1 = .ok (.ifCond .eq 8, 3) := by decide +kernel
theorem dX9_isSide_4 : decode cX9_isSide 4 = .ok (.iload_n 0, 1) := by decide +kernel
theorem dX9_isSide_5 : decode cX9_isSide 5 = .ok (.iconst 1, 1) := by decide +kernel
theorem dX9_isSide_6 : decode cX9_isSide 6 = .ok (.if_icmp .ne 7, 3) := by decide +kernel
theorem dX9_isSide_9 : decode cX9_isSide 9 = .ok (.iconst 1, 1) := by decide +kernel
theorem dX9_isSide_10 : decode cX9_isSide 10 = .ok (.goto 4, 3) := by decide +kernel
theorem dX9_isSide_13 : decode cX9_isSide 13 = .ok (.iconst 0, 1) := by decide +kernel
theorem dX9_isSide_14 : decode cX9_isSide 14 = .ok (.ireturn, 1) := by decide +kernel
theorem dX9_refused_0 : decode cX9_refused 0 = .ok (.ldc2_w 306, 3) := by decide +kernel
theorem dX9_refused_3 : decode cX9_refused 3 = .ok (.iload_n 0, 1) := by decide +kernel
theorem dX9_refused_4 : decode cX9_refused 4 = .ok (.i2l, 1) := by decide +kernel
theorem dX9_refused_5 : decode cX9_refused 5 = .ok (.lsub, 1) := by decide +kernel
theorem dX9_refused_6 : decode cX9_refused 6 = .ok (.lreturn, 1) := by decide +kernel
theorem dX9_alike_0 : decode cX9_alike 0 = .ok (.aload_n 0, 1) := by decide +kernel
theorem dX9_alike_1 : decode cX9_alike 1 = .ok (.getfield 28, 3) := by decide +kernel
theorem dX9_alike_4 : decode cX9_alike 4 = .ok (.iload_n 1, 1) := by decide +kernel
theorem dX9_alike_5 : decode cX9_alike 5 = .ok (.iload_n 2, 1) := by decide +kernel
theorem dX9_alike_6 : decode cX9_alike 6 = .ok (.iload_n 3, 1) := by decide +kernel
theorem dX9_alike_7 : decode cX9_alike 7 = .ok (.invokevirtual 310, 3) := by decide +kernel
theorem dX9_alike_10 : decode cX9_alike 10 = .ok (.lstore 4, 2) := by decide +kernel
theorem dX9_alike_12 : decode cX9_alike 12 = .ok (.lload 4, 2) := by decide +kernel
theorem dX9_alike_14 : decode cX9_alike 14 = .ok (.lconst 0, 1) := by decide +kernel
theorem dX9_alike_15 : decode cX9_alike 15 = .ok (.lcmp, 1) := by decide +kernel
theorem dX9_alike_16 : decode cX9_alike 16 = .ok (.ifCond .ge 11, 3) := by decide +kernel
theorem dX9_alike_19 : decode cX9_alike 19 = .ok (.bipush (-5), 2) := by decide +kernel
theorem dX9_alike_21 : decode cX9_alike 21 = .ok (.invokestatic 142, 3) := by decide +kernel
theorem dX9_alike_24 : decode cX9_alike 24 = .ok (.goto 5, 3) := by decide +kernel
theorem dX9_alike_27 : decode cX9_alike 27 = .ok (.lload 4, 2) := by decide +kernel
theorem dX9_alike_29 : decode cX9_alike 29 = .ok (.lreturn, 1) := by decide +kernel
theorem dJ6_numberOfTrailingZeros_0f7a4_0 : decode cJ6_numberOfTrailingZeros_0f7a4 0 = .ok (.iload_n 0, 1) := by decide +kernel
theorem dJ6_numberOfTrailingZeros_0f7a4_1 : decode cJ6_numberOfTrailingZeros_0f7a4 1 = .ok (.iconst (-1), 1) := by decide +kernel
theorem dJ6_numberOfTrailingZeros_0f7a4_2 : decode cJ6_numberOfTrailingZeros_0f7a4 2 = .ok (.ixor, 1) := by decide +kernel
theorem dJ6_numberOfTrailingZeros_0f7a4_3 : decode cJ6_numberOfTrailingZeros_0f7a4 3 = .ok (.iload_n 0, 1) := by decide +kernel
theorem dJ6_numberOfTrailingZeros_0f7a4_4 : decode cJ6_numberOfTrailingZeros_0f7a4 4 = .ok (.iconst 1, 1) := by decide +kernel
theorem dJ6_numberOfTrailingZeros_0f7a4_5 : decode cJ6_numberOfTrailingZeros_0f7a4 5 = .ok (.isub, 1) := by decide +kernel
theorem dJ6_numberOfTrailingZeros_0f7a4_6 : decode cJ6_numberOfTrailingZeros_0f7a4 6 = .ok (.iand, 1) := by decide +kernel
theorem dJ6_numberOfTrailingZeros_0f7a4_7 : decode cJ6_numberOfTrailingZeros_0f7a4 7 = .ok (.istore_n 0, 1) := by decide +kernel
theorem dJ6_numberOfTrailingZeros_0f7a4_8 : decode cJ6_numberOfTrailingZeros_0f7a4 8 = .ok (.iload_n 0, 1) := by decide +kernel
theorem dJ6_numberOfTrailingZeros_0f7a4_9 : decode cJ6_numberOfTrailingZeros_0f7a4 9 = .ok (.ifCond .gt 8, 3) := by decide +kernel
theorem dJ6_numberOfTrailingZeros_0f7a4_12 : decode cJ6_numberOfTrailingZeros_0f7a4 12 = .ok (.iload_n 0, 1) := by decide +kernel
theorem dJ6_numberOfTrailingZeros_0f7a4_13 : decode cJ6_numberOfTrailingZeros_0f7a4 13 = .ok (.bipush 32, 2) := by decide +kernel
theorem dJ6_numberOfTrailingZeros_0f7a4_15 : decode cJ6_numberOfTrailingZeros_0f7a4 15 = .ok (.iand, 1) := by decide +kernel
theorem dJ6_numberOfTrailingZeros_0f7a4_16 : decode cJ6_numberOfTrailingZeros_0f7a4 16 = .ok (.ireturn, 1) := by decide +kernel
theorem dJ6_numberOfTrailingZeros_0f7a4_17 : decode cJ6_numberOfTrailingZeros_0f7a4 17 = .ok (.iconst 1, 1) := by decide +kernel
theorem dJ6_numberOfTrailingZeros_0f7a4_18 : decode cJ6_numberOfTrailingZeros_0f7a4 18 = .ok (.istore_n 1, 1) := by decide +kernel
theorem dJ6_numberOfTrailingZeros_0f7a4_19 : decode cJ6_numberOfTrailingZeros_0f7a4 19 = .ok (.iload_n 0, 1) := by decide +kernel
theorem dJ6_numberOfTrailingZeros_0f7a4_20 : decode cJ6_numberOfTrailingZeros_0f7a4 20 = .ok (.ldc_w 264, 3) := by decide +kernel
theorem dJ6_numberOfTrailingZeros_0f7a4_23 : decode cJ6_numberOfTrailingZeros_0f7a4 23 = .ok (.if_icmp .le 11, 3) := by decide +kernel
theorem dJ6_numberOfTrailingZeros_0f7a4_26 : decode cJ6_numberOfTrailingZeros_0f7a4 26 = .ok (.iinc 1 16, 3) := by decide +kernel
theorem dJ6_numberOfTrailingZeros_0f7a4_29 : decode cJ6_numberOfTrailingZeros_0f7a4 29 = .ok (.iload_n 0, 1) := by decide +kernel
theorem dJ6_numberOfTrailingZeros_0f7a4_30 : decode cJ6_numberOfTrailingZeros_0f7a4 30 = .ok (.bipush 16, 2) := by decide +kernel
theorem dJ6_numberOfTrailingZeros_0f7a4_32 : decode cJ6_numberOfTrailingZeros_0f7a4 32 = .ok (.iushr, 1) := by decide +kernel
theorem dJ6_numberOfTrailingZeros_0f7a4_33 : decode cJ6_numberOfTrailingZeros_0f7a4 33 = .ok (.istore_n 0, 1) := by decide +kernel
theorem dJ6_numberOfTrailingZeros_0f7a4_34 : decode cJ6_numberOfTrailingZeros_0f7a4 34 = .ok (.iload_n 0, 1) := by decide +kernel
theorem dJ6_numberOfTrailingZeros_0f7a4_35 : decode cJ6_numberOfTrailingZeros_0f7a4 35 = .ok (.sipush 256, 3) := by decide +kernel
theorem dJ6_numberOfTrailingZeros_0f7a4_38 : decode cJ6_numberOfTrailingZeros_0f7a4 38 = .ok (.if_icmp .le 11, 3) := by decide +kernel
theorem dJ6_numberOfTrailingZeros_0f7a4_41 : decode cJ6_numberOfTrailingZeros_0f7a4 41 = .ok (.iinc 1 8, 3) := by decide +kernel
theorem dJ6_numberOfTrailingZeros_0f7a4_44 : decode cJ6_numberOfTrailingZeros_0f7a4 44 = .ok (.iload_n 0, 1) := by decide +kernel
theorem dJ6_numberOfTrailingZeros_0f7a4_45 : decode cJ6_numberOfTrailingZeros_0f7a4 45 = .ok (.bipush 8, 2) := by decide +kernel
theorem dJ6_numberOfTrailingZeros_0f7a4_47 : decode cJ6_numberOfTrailingZeros_0f7a4 47 = .ok (.iushr, 1) := by decide +kernel
theorem dJ6_numberOfTrailingZeros_0f7a4_48 : decode cJ6_numberOfTrailingZeros_0f7a4 48 = .ok (.istore_n 0, 1) := by decide +kernel
theorem dJ6_numberOfTrailingZeros_0f7a4_49 : decode cJ6_numberOfTrailingZeros_0f7a4 49 = .ok (.iload_n 0, 1) := by decide +kernel
theorem dJ6_numberOfTrailingZeros_0f7a4_50 : decode cJ6_numberOfTrailingZeros_0f7a4 50 = .ok (.bipush 16, 2) := by decide +kernel
theorem dJ6_numberOfTrailingZeros_0f7a4_52 : decode cJ6_numberOfTrailingZeros_0f7a4 52 = .ok (.if_icmp .le 10, 3) := by decide +kernel
theorem dJ6_numberOfTrailingZeros_0f7a4_55 : decode cJ6_numberOfTrailingZeros_0f7a4 55 = .ok (.iinc 1 4, 3) := by decide +kernel
theorem dJ6_numberOfTrailingZeros_0f7a4_58 : decode cJ6_numberOfTrailingZeros_0f7a4 58 = .ok (.iload_n 0, 1) := by decide +kernel
theorem dJ6_numberOfTrailingZeros_0f7a4_59 : decode cJ6_numberOfTrailingZeros_0f7a4 59 = .ok (.iconst 4, 1) := by decide +kernel
theorem dJ6_numberOfTrailingZeros_0f7a4_60 : decode cJ6_numberOfTrailingZeros_0f7a4 60 = .ok (.iushr, 1) := by decide +kernel
theorem dJ6_numberOfTrailingZeros_0f7a4_61 : decode cJ6_numberOfTrailingZeros_0f7a4 61 = .ok (.istore_n 0, 1) := by decide +kernel
theorem dJ6_numberOfTrailingZeros_0f7a4_62 : decode cJ6_numberOfTrailingZeros_0f7a4 62 = .ok (.iload_n 0, 1) := by decide +kernel
theorem dJ6_numberOfTrailingZeros_0f7a4_63 : decode cJ6_numberOfTrailingZeros_0f7a4 63 = .ok (.iconst 4, 1) := by decide +kernel
theorem dJ6_numberOfTrailingZeros_0f7a4_64 : decode cJ6_numberOfTrailingZeros_0f7a4 64 = .ok (.if_icmp .le 10, 3) := by decide +kernel
theorem dJ6_numberOfTrailingZeros_0f7a4_67 : decode cJ6_numberOfTrailingZeros_0f7a4 67 = .ok (.iinc 1 2, 3) := by decide +kernel
theorem dJ6_numberOfTrailingZeros_0f7a4_70 : decode cJ6_numberOfTrailingZeros_0f7a4 70 = .ok (.iload_n 0, 1) := by decide +kernel
theorem dJ6_numberOfTrailingZeros_0f7a4_71 : decode cJ6_numberOfTrailingZeros_0f7a4 71 = .ok (.iconst 2, 1) := by decide +kernel
theorem dJ6_numberOfTrailingZeros_0f7a4_72 : decode cJ6_numberOfTrailingZeros_0f7a4 72 = .ok (.iushr, 1) := by decide +kernel
theorem dJ6_numberOfTrailingZeros_0f7a4_73 : decode cJ6_numberOfTrailingZeros_0f7a4 73 = .ok (.istore_n 0, 1) := by decide +kernel
theorem dJ6_numberOfTrailingZeros_0f7a4_74 : decode cJ6_numberOfTrailingZeros_0f7a4 74 = .ok (.iload_n 1, 1) := by decide +kernel
theorem dJ6_numberOfTrailingZeros_0f7a4_75 : decode cJ6_numberOfTrailingZeros_0f7a4 75 = .ok (.iload_n 0, 1) := by decide +kernel
theorem dJ6_numberOfTrailingZeros_0f7a4_76 : decode cJ6_numberOfTrailingZeros_0f7a4 76 = .ok (.iconst 1, 1) := by decide +kernel
theorem dJ6_numberOfTrailingZeros_0f7a4_77 : decode cJ6_numberOfTrailingZeros_0f7a4 77 = .ok (.iushr, 1) := by decide +kernel
theorem dJ6_numberOfTrailingZeros_0f7a4_78 : decode cJ6_numberOfTrailingZeros_0f7a4 78 = .ok (.iadd, 1) := by decide +kernel
theorem dJ6_numberOfTrailingZeros_0f7a4_79 : decode cJ6_numberOfTrailingZeros_0f7a4 79 = .ok (.ireturn, 1) := by decide +kernel
theorem dJ6_bitCount_0f7a4_0 : decode cJ6_bitCount_0f7a4 0 = .ok (.iload_n 0, 1) := by decide +kernel
theorem dJ6_bitCount_0f7a4_1 : decode cJ6_bitCount_0f7a4 1 = .ok (.iload_n 0, 1) := by decide +kernel
theorem dJ6_bitCount_0f7a4_2 : decode cJ6_bitCount_0f7a4 2 = .ok (.iconst 1, 1) := by decide +kernel
theorem dJ6_bitCount_0f7a4_3 : decode cJ6_bitCount_0f7a4 3 = .ok (.iushr, 1) := by decide +kernel
theorem dJ6_bitCount_0f7a4_4 : decode cJ6_bitCount_0f7a4 4 = .ok (.ldc_w 265, 3) := by decide +kernel
theorem dJ6_bitCount_0f7a4_7 : decode cJ6_bitCount_0f7a4 7 = .ok (.iand, 1) := by decide +kernel
theorem dJ6_bitCount_0f7a4_8 : decode cJ6_bitCount_0f7a4 8 = .ok (.isub, 1) := by decide +kernel
theorem dJ6_bitCount_0f7a4_9 : decode cJ6_bitCount_0f7a4 9 = .ok (.istore_n 0, 1) := by decide +kernel
theorem dJ6_bitCount_0f7a4_10 : decode cJ6_bitCount_0f7a4 10 = .ok (.iload_n 0, 1) := by decide +kernel
theorem dJ6_bitCount_0f7a4_11 : decode cJ6_bitCount_0f7a4 11 = .ok (.ldc_w 266, 3) := by decide +kernel
theorem dJ6_bitCount_0f7a4_14 : decode cJ6_bitCount_0f7a4 14 = .ok (.iand, 1) := by decide +kernel
theorem dJ6_bitCount_0f7a4_15 : decode cJ6_bitCount_0f7a4 15 = .ok (.iload_n 0, 1) := by decide +kernel
theorem dJ6_bitCount_0f7a4_16 : decode cJ6_bitCount_0f7a4 16 = .ok (.iconst 2, 1) := by decide +kernel
theorem dJ6_bitCount_0f7a4_17 : decode cJ6_bitCount_0f7a4 17 = .ok (.iushr, 1) := by decide +kernel
theorem dJ6_bitCount_0f7a4_18 : decode cJ6_bitCount_0f7a4 18 = .ok (.ldc_w 266, 3) := by decide +kernel
theorem dJ6_bitCount_0f7a4_21 : decode cJ6_bitCount_0f7a4 21 = .ok (.iand, 1) := by decide +kernel
theorem dJ6_bitCount_0f7a4_22 : decode cJ6_bitCount_0f7a4 22 = .ok (.iadd, 1) := by decide +kernel
theorem dJ6_bitCount_0f7a4_23 : decode cJ6_bitCount_0f7a4 23 = .ok (.istore_n 0, 1) := by decide +kernel
theorem dJ6_bitCount_0f7a4_24 : decode cJ6_bitCount_0f7a4 24 = .ok (.iload_n 0, 1) := by decide +kernel
theorem dJ6_bitCount_0f7a4_25 : decode cJ6_bitCount_0f7a4 25 = .ok (.iload_n 0, 1) := by decide +kernel
theorem dJ6_bitCount_0f7a4_26 : decode cJ6_bitCount_0f7a4 26 = .ok (.iconst 4, 1) := by decide +kernel
theorem dJ6_bitCount_0f7a4_27 : decode cJ6_bitCount_0f7a4 27 = .ok (.iushr, 1) := by decide +kernel
theorem dJ6_bitCount_0f7a4_28 : decode cJ6_bitCount_0f7a4 28 = .ok (.iadd, 1) := by decide +kernel
theorem dJ6_bitCount_0f7a4_29 : decode cJ6_bitCount_0f7a4 29 = .ok (.ldc_w 267, 3) := by decide +kernel
theorem dJ6_bitCount_0f7a4_32 : decode cJ6_bitCount_0f7a4 32 = .ok (.iand, 1) := by decide +kernel
theorem dJ6_bitCount_0f7a4_33 : decode cJ6_bitCount_0f7a4 33 = .ok (.istore_n 0, 1) := by decide +kernel
theorem dJ6_bitCount_0f7a4_34 : decode cJ6_bitCount_0f7a4 34 = .ok (.iload_n 0, 1) := by decide +kernel
theorem dJ6_bitCount_0f7a4_35 : decode cJ6_bitCount_0f7a4 35 = .ok (.iload_n 0, 1) := by decide +kernel
theorem dJ6_bitCount_0f7a4_36 : decode cJ6_bitCount_0f7a4 36 = .ok (.bipush 8, 2) := by decide +kernel
theorem dJ6_bitCount_0f7a4_38 : decode cJ6_bitCount_0f7a4 38 = .ok (.iushr, 1) := by decide +kernel
theorem dJ6_bitCount_0f7a4_39 : decode cJ6_bitCount_0f7a4 39 = .ok (.iadd, 1) := by decide +kernel
theorem dJ6_bitCount_0f7a4_40 : decode cJ6_bitCount_0f7a4 40 = .ok (.istore_n 0, 1) := by decide +kernel
theorem dJ6_bitCount_0f7a4_41 : decode cJ6_bitCount_0f7a4 41 = .ok (.iload_n 0, 1) := by decide +kernel
theorem dJ6_bitCount_0f7a4_42 : decode cJ6_bitCount_0f7a4 42 = .ok (.iload_n 0, 1) := by decide +kernel
theorem dJ6_bitCount_0f7a4_43 : decode cJ6_bitCount_0f7a4 43 = .ok (.bipush 16, 2) := by decide +kernel
theorem dJ6_bitCount_0f7a4_45 : decode cJ6_bitCount_0f7a4 45 = .ok (.iushr, 1) := by decide +kernel
theorem dJ6_bitCount_0f7a4_46 : decode cJ6_bitCount_0f7a4 46 = .ok (.iadd, 1) := by decide +kernel
theorem dJ6_bitCount_0f7a4_47 : decode cJ6_bitCount_0f7a4 47 = .ok (.istore_n 0, 1) := by decide +kernel
theorem dJ6_bitCount_0f7a4_48 : decode cJ6_bitCount_0f7a4 48 = .ok (.iload_n 0, 1) := by decide +kernel
theorem dJ6_bitCount_0f7a4_49 : decode cJ6_bitCount_0f7a4 49 = .ok (.bipush 63, 2) := by decide +kernel
theorem dJ6_bitCount_0f7a4_51 : decode cJ6_bitCount_0f7a4 51 = .ok (.iand, 1) := by decide +kernel
