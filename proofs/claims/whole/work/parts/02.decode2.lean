theorem dX10_linksAt_1 : decode cX10_linksAt 1 = .ok (.istore_n 3, 1) := by decide +kernel
theorem dX10_linksAt_2 : decode cX10_linksAt 2 = .ok (.iconst 0, 1) := by decide +kernel
theorem dX10_linksAt_3 : decode cX10_linksAt 3 = .ok (.istore 4, 2) := by decide +kernel
theorem dX10_linksAt_5 : decode cX10_linksAt 5 = .ok (.iload 4, 2) := by decide +kernel
theorem dX10_linksAt_7 : decode cX10_linksAt 7 = .ok (.aload_n 0, 1) := by decide +kernel
theorem dX10_linksAt_8 : decode cX10_linksAt 8 = .ok (.getfield 103, 3) := by decide +kernel
theorem dX10_linksAt_11 : decode cX10_linksAt 11 = .ok (.if_icmp .ge 38, 3) := by decide +kernel
theorem dX10_linksAt_14 : decode cX10_linksAt 14 = .ok (.iload_n 3, 1) := by decide +kernel
theorem dX10_linksAt_15 : decode cX10_linksAt 15 = .ok (.aload_n 0, 1) := by decide +kernel
theorem dX10_linksAt_16 : decode cX10_linksAt 16 = .ok (.iload_n 1, 1) := by decide +kernel
theorem dX10_linksAt_17 : decode cX10_linksAt 17 = .ok (.iload 4, 2) := by decide +kernel
theorem dX10_linksAt_19 : decode cX10_linksAt 19 = .ok (.invokevirtual 243, 3) := by decide +kernel
theorem dX10_linksAt_22 : decode cX10_linksAt 22 = .ok (.ifCond .eq 18, 3) := by decide +kernel
theorem dX10_linksAt_25 : decode cX10_linksAt 25 = .ok (.aload_n 0, 1) := by decide +kernel
theorem dX10_linksAt_26 : decode cX10_linksAt 26 = .ok (.iload_n 1, 1) := by decide +kernel
theorem dX10_linksAt_27 : decode cX10_linksAt 27 = .ok (.iload 4, 2) := by decide +kernel
theorem dX10_linksAt_29 : decode cX10_linksAt 29 = .ok (.iload_n 2, 1) := by decide +kernel
theorem dX10_linksAt_30 : decode cX10_linksAt 30 = .ok (.invokevirtual 246, 3) := by decide +kernel
theorem dX10_linksAt_33 : decode cX10_linksAt 33 = .ok (.ifCond .eq 7, 3) := by decide +kernel
theorem dX10_linksAt_36 : decode cX10_linksAt 36 = .ok (.iconst 1, 1) := by decide +kernel
theorem dX10_linksAt_37 : decode cX10_linksAt 37 = .ok (.goto 4, 3) := by decide +kernel
theorem dX10_linksAt_40 : decode cX10_linksAt 40 = .ok (.iconst 0, 1) := by decide +kernel
theorem dX10_linksAt_41 : decode cX10_linksAt 41 = .ok (.iadd, 1) := by decide +kernel
theorem dX10_linksAt_42 : decode cX10_linksAt 42 = .ok (.istore_n 3, 1) := by decide +kernel
theorem dX10_linksAt_43 : decode cX10_linksAt 43 = .ok (.iinc 4 1, 3) := by decide +kernel
theorem dX10_linksAt_46 : decode cX10_linksAt 46 = .ok (.goto (-41), 3) := by decide +kernel
theorem dX10_linksAt_49 : decode cX10_linksAt 49 = .ok (.iload_n 3, 1) := by decide +kernel
theorem dX10_linksAt_50 : decode cX10_linksAt 50 = .ok (.ireturn, 1) := by decide +kernel
theorem dX10_dropsOwn_0 : decode cX10_dropsOwn 0 = .ok (.iconst 0, 1) := by decide +kernel
theorem dX10_dropsOwn_1 : decode cX10_dropsOwn 1 = .ok (.istore_n 2, 1) := by decide +kernel
theorem dX10_dropsOwn_2 : decode cX10_dropsOwn 2 = .ok (.iload_n 2, 1) := by decide +kernel
theorem dX10_dropsOwn_3 : decode cX10_dropsOwn 3 = .ok (.aload_n 0, 1) := by decide +kernel
theorem dX10_dropsOwn_4 : decode cX10_dropsOwn 4 = .ok (.getfield 103, 3) := by decide +kernel
theorem dX10_dropsOwn_7 : decode cX10_dropsOwn 7 = .ok (.if_icmp .ge 51, 3) := by decide +kernel
theorem dX10_dropsOwn_10 : decode cX10_dropsOwn 10 = .ok (.aload_n 0, 1) := by decide +kernel
theorem dX10_dropsOwn_11 : decode cX10_dropsOwn 11 = .ok (.iload_n 1, 1) := by decide +kernel
theorem dX10_dropsOwn_12 : decode cX10_dropsOwn 12 = .ok (.iload_n 2, 1) := by decide +kernel
theorem dX10_dropsOwn_13 : decode cX10_dropsOwn 13 = .ok (.invokevirtual 243, 3) := by decide +kernel
theorem dX10_dropsOwn_16 : decode cX10_dropsOwn 16 = .ok (.ifCond .eq 36, 3) := by decide +kernel
theorem dX10_dropsOwn_19 : decode cX10_dropsOwn 19 = .ok (.aload_n 0, 1) := by decide +kernel
theorem dX10_dropsOwn_20 : decode cX10_dropsOwn 20 = .ok (.getfield 44, 3) := by decide +kernel
theorem dX10_dropsOwn_23 : decode cX10_dropsOwn 23 = .ok (.bipush 10, 2) := by decide +kernel
theorem dX10_dropsOwn_25 : decode cX10_dropsOwn 25 = .ok (.iload_n 1, 1) := by decide +kernel
theorem dX10_dropsOwn_26 : decode cX10_dropsOwn 26 = .ok (.imul, 1) := by decide +kernel
theorem dX10_dropsOwn_27 : decode cX10_dropsOwn 27 = .ok (.iload_n 2, 1) := by decide +kernel
theorem dX10_dropsOwn_28 : decode cX10_dropsOwn 28 = .ok (.iadd, 1) := by decide +kernel
theorem dX10_dropsOwn_29 : decode cX10_dropsOwn 29 = .ok (.iaload, 1) := by decide +kernel
theorem dX10_dropsOwn_30 : decode cX10_dropsOwn 30 = .ok (.aload_n 0, 1) := by decide +kernel
theorem dX10_dropsOwn_31 : decode cX10_dropsOwn 31 = .ok (.getfield 47, 3) := by decide +kernel
theorem dX10_dropsOwn_34 : decode cX10_dropsOwn 34 = .ok (.bipush 10, 2) := by decide +kernel
theorem dX10_dropsOwn_36 : decode cX10_dropsOwn 36 = .ok (.iload_n 1, 1) := by decide +kernel
theorem dX10_dropsOwn_37 : decode cX10_dropsOwn 37 = .ok (.imul, 1) := by decide +kernel
theorem dX10_dropsOwn_38 : decode cX10_dropsOwn 38 = .ok (.iload_n 2, 1) := by decide +kernel
theorem dX10_dropsOwn_39 : decode cX10_dropsOwn 39 = .ok (.iadd, 1) := by decide +kernel
theorem dX10_dropsOwn_40 : decode cX10_dropsOwn 40 = .ok (.iaload, 1) := by decide +kernel
theorem dX10_dropsOwn_41 : decode cX10_dropsOwn 41 = .ok (.if_icmp .ne 11, 3) := by decide +kernel
theorem dX10_dropsOwn_44 : decode cX10_dropsOwn 44 = .ok (.aload_n 0, 1) := by decide +kernel
theorem dX10_dropsOwn_45 : decode cX10_dropsOwn 45 = .ok (.iload_n 1, 1) := by decide +kernel
theorem dX10_dropsOwn_46 : decode cX10_dropsOwn 46 = .ok (.iload_n 2, 1) := by decide +kernel
theorem dX10_dropsOwn_47 : decode cX10_dropsOwn 47 = .ok (.invokevirtual 250, 3) := by decide +kernel
theorem dX10_dropsOwn_50 : decode cX10_dropsOwn 50 = .ok (.iconst 1, 1) := by decide +kernel
theorem dX10_dropsOwn_51 : decode cX10_dropsOwn 51 = .ok (.ireturn, 1) := by decide +kernel
theorem dX10_dropsOwn_52 : decode cX10_dropsOwn 52 = .ok (.iinc 2 1, 3) := by decide +kernel
theorem dX10_dropsOwn_55 : decode cX10_dropsOwn 55 = .ok (.goto (-53), 3) := by decide +kernel
theorem dX10_dropsOwn_58 : decode cX10_dropsOwn 58 = .ok (.iconst 0, 1) := by decide +kernel
theorem dX10_dropsOwn_59 : decode cX10_dropsOwn 59 = .ok (.ireturn, 1) := by decide +kernel
theorem dX10_isBeside_0 : decode cX10_isBeside 0 = .ok (.aload_n 0, 1) := by decide +kernel
theorem dX10_isBeside_1 : decode cX10_isBeside 1 = .ok (.iload_n 1, 1) := by decide +kernel
theorem dX10_isBeside_2 : decode cX10_isBeside 2 = .ok (.iload_n 2, 1) := by decide +kernel
theorem dX10_isBeside_3 : decode cX10_isBeside 3 = .ok (.aload_n 0, 1) := by decide +kernel
theorem dX10_isBeside_4 : decode cX10_isBeside 4 = .ok (.getfield 44, 3) := by decide +kernel
theorem dX10_isBeside_7 : decode cX10_isBeside 7 = .ok (.bipush 10, 2) := by decide +kernel
theorem dX10_isBeside_9 : decode cX10_isBeside 9 = .ok (.iload_n 1, 1) := by decide +kernel
theorem dX10_isBeside_10 : decode cX10_isBeside 10 = .ok (.imul, 1) := by decide +kernel
theorem dX10_isBeside_11 : decode cX10_isBeside 11 = .ok (.iload_n 3, 1) := by decide +kernel
theorem dX10_isBeside_12 : decode cX10_isBeside 12 = .ok (.iadd, 1) := by decide +kernel
theorem dX10_isBeside_13 : decode cX10_isBeside 13 = .ok (.iaload, 1) := by decide +kernel
theorem dX10_isBeside_14 : decode cX10_isBeside 14 = .ok (.invokevirtual 246, 3) := by decide +kernel
theorem dX10_isBeside_17 : decode cX10_isBeside 17 = .ok (.ifCond .eq 27, 3) := by decide +kernel
theorem dX10_isBeside_20 : decode cX10_isBeside 20 = .ok (.aload_n 0, 1) := by decide +kernel
theorem dX10_isBeside_21 : decode cX10_isBeside 21 = .ok (.iload_n 1, 1) := by decide +kernel
theorem dX10_isBeside_22 : decode cX10_isBeside 22 = .ok (.iload_n 2, 1) := by decide +kernel
theorem dX10_isBeside_23 : decode cX10_isBeside 23 = .ok (.aload_n 0, 1) := by decide +kernel
theorem dX10_isBeside_24 : decode cX10_isBeside 24 = .ok (.getfield 47, 3) := by decide +kernel
theorem dX10_isBeside_27 : decode cX10_isBeside 27 = .ok (.bipush 10, 2) := by decide +kernel
theorem dX10_isBeside_29 : decode cX10_isBeside 29 = .ok (.iload_n 1, 1) := by decide +kernel
theorem dX10_isBeside_30 : decode cX10_isBeside 30 = .ok (.imul, 1) := by decide +kernel
theorem dX10_isBeside_31 : decode cX10_isBeside 31 = .ok (.iload_n 3, 1) := by decide +kernel
theorem dX10_isBeside_32 : decode cX10_isBeside 32 = .ok (.iadd, 1) := by decide +kernel
theorem dX10_isBeside_33 : decode cX10_isBeside 33 = .ok (.iaload, 1) := by decide +kernel
theorem dX10_isBeside_34 : decode cX10_isBeside 34 = .ok (.invokevirtual 246, 3) := by decide +kernel
theorem dX10_isBeside_37 : decode cX10_isBeside 37 = .ok (.ifCond .eq 7, 3) := by decide +kernel
theorem dX10_isBeside_40 : decode cX10_isBeside 40 = .ok (.iconst 1, 1) := by decide +kernel
theorem dX10_isBeside_41 : decode cX10_isBeside 41 = .ok (.goto 4, 3) := by decide +kernel
theorem dX10_isBeside_44 : decode cX10_isBeside 44 = .ok (.iconst 0, 1) := by decide +kernel
theorem dX10_isBeside_45 : decode cX10_isBeside 45 = .ok (.ireturn, 1) := by decide +kernel
theorem dX10_joinsBeside_0 : decode cX10_joinsBeside 0 = .ok (.iconst 0, 1) := by decide +kernel
theorem dX10_joinsBeside_1 : decode cX10_joinsBeside 1 = .ok (.istore_n 2, 1) := by decide +kernel
theorem dX10_joinsBeside_2 : decode cX10_joinsBeside 2 = .ok (.iload_n 2, 1) := by decide +kernel
theorem dX10_joinsBeside_3 : decode cX10_joinsBeside 3 = .ok (.aload_n 0, 1) := by decide +kernel
theorem dX10_joinsBeside_4 : decode cX10_joinsBeside 4 = .ok (.getfield 103, 3) := by decide +kernel
theorem dX10_joinsBeside_7 : decode cX10_joinsBeside 7 = .ok (.if_icmp .ge 131, 3) := by decide +kernel
theorem dX10_joinsBeside_10 : decode cX10_joinsBeside 10 = .ok (.iload_n 2, 1) := by decide +kernel
theorem dX10_joinsBeside_11 : decode cX10_joinsBeside 11 = .ok (.iconst 1, 1) := by decide +kernel
theorem dX10_joinsBeside_12 : decode cX10_joinsBeside 12 = .ok (.iadd, 1) := by decide +kernel
theorem dX10_joinsBeside_13 : decode cX10_joinsBeside 13 = .ok (.istore_n 3, 1) := by decide +kernel
theorem dX10_joinsBeside_14 : decode cX10_joinsBeside 14 = .ok (.iload_n 3, 1) := by decide +kernel
theorem dX10_joinsBeside_15 : decode cX10_joinsBeside 15 = .ok (.aload_n 0, 1) := by decide +kernel
theorem dX10_joinsBeside_16 : decode cX10_joinsBeside 16 = .ok (.getfield 103, 3) := by decide +kernel
theorem dX10_joinsBeside_19 : decode cX10_joinsBeside 19 = .ok (.if_icmp .ge 113, 3) := by decide +kernel
theorem dX10_joinsBeside_22 : decode cX10_joinsBeside 22 = .ok (.aload_n 0, 1) := by decide +kernel
theorem dX10_joinsBeside_23 : decode cX10_joinsBeside 23 = .ok (.iload_n 1, 1) := by decide +kernel
theorem dX10_joinsBeside_24 : decode cX10_joinsBeside 24 = .ok (.iload_n 2, 1) := by decide +kernel
theorem dX10_joinsBeside_25 : decode cX10_joinsBeside 25 = .ok (.invokevirtual 243, 3) := by decide +kernel
theorem dX10_joinsBeside_28 : decode cX10_joinsBeside 28 = .ok (.ifCond .eq 98, 3) := by decide +kernel
theorem dX10_joinsBeside_31 : decode cX10_joinsBeside 31 = .ok (.aload_n 0, 1) := by decide +kernel
theorem dX10_joinsBeside_32 : decode cX10_joinsBeside 32 = .ok (.iload_n 1, 1) := by decide +kernel
theorem dX10_joinsBeside_33 : decode cX10_joinsBeside 33 = .ok (.iload_n 3, 1) := by decide +kernel
theorem dX10_joinsBeside_34 : decode cX10_joinsBeside 34 = .ok (.invokevirtual 243, 3) := by decide +kernel
theorem dX10_joinsBeside_37 : decode cX10_joinsBeside 37 = .ok (.ifCond .eq 89, 3) := by decide +kernel
theorem dX10_joinsBeside_40 : decode cX10_joinsBeside 40 = .ok (.aload_n 0, 1) := by decide +kernel
theorem dX10_joinsBeside_41 : decode cX10_joinsBeside 41 = .ok (.iload_n 1, 1) := by decide +kernel
theorem dX10_joinsBeside_42 : decode cX10_joinsBeside 42 = .ok (.iload_n 2, 1) := by decide +kernel
theorem dX10_joinsBeside_43 : decode cX10_joinsBeside 43 = .ok (.iload_n 3, 1) := by decide +kernel
theorem dX10_joinsBeside_44 : decode cX10_joinsBeside 44 = .ok (.invokevirtual 254, 3) := by decide +kernel
theorem dX10_joinsBeside_47 : decode cX10_joinsBeside 47 = .ok (.ifCond .eq 79, 3) := by decide +kernel
theorem dX10_joinsBeside_50 : decode cX10_joinsBeside 50 = .ok (.aload_n 0, 1) := by decide +kernel
theorem dX10_joinsBeside_51 : decode cX10_joinsBeside 51 = .ok (.getfield 50, 3) := by decide +kernel
theorem dX10_joinsBeside_54 : decode cX10_joinsBeside 54 = .ok (.bipush 10, 2) := by decide +kernel
theorem dX10_joinsBeside_56 : decode cX10_joinsBeside 56 = .ok (.iload_n 1, 1) := by decide +kernel
theorem dX10_joinsBeside_57 : decode cX10_joinsBeside 57 = .ok (.imul, 1) := by decide +kernel
theorem dX10_joinsBeside_58 : decode cX10_joinsBeside 58 = .ok (.iload_n 2, 1) := by decide +kernel
theorem dX10_joinsBeside_59 : decode cX10_joinsBeside 59 = .ok (.iadd, 1) := by decide +kernel
theorem dX10_joinsBeside_60 : decode cX10_joinsBeside 60 = .ok (.iaload, 1) := by decide +kernel
theorem dX10_joinsBeside_61 : decode cX10_joinsBeside 61 = .ok (.istore 4, 2) := by decide +kernel
theorem dX10_joinsBeside_63 : decode cX10_joinsBeside 63 = .ok (.aload_n 0, 1) := by decide +kernel
theorem dX10_joinsBeside_64 : decode cX10_joinsBeside 64 = .ok (.getfield 50, 3) := by decide +kernel
theorem dX10_joinsBeside_67 : decode cX10_joinsBeside 67 = .ok (.bipush 10, 2) := by decide +kernel
theorem dX10_joinsBeside_69 : decode cX10_joinsBeside 69 = .ok (.iload_n 1, 1) := by decide +kernel
theorem dX10_joinsBeside_70 : decode cX10_joinsBeside 70 = .ok (.imul, 1) := by decide +kernel
theorem dX10_joinsBeside_71 : decode cX10_joinsBeside 71 = .ok (.iload_n 3, 1) := by decide +kernel
theorem dX10_joinsBeside_72 : decode cX10_joinsBeside 72 = .ok (.iadd, 1) := by decide +kernel
theorem dX10_joinsBeside_73 : decode cX10_joinsBeside 73 = .ok (.iaload, 1) := by decide +kernel
theorem dX10_joinsBeside_74 : decode cX10_joinsBeside 74 = .ok (.istore 5, 2) := by decide +kernel
theorem dX10_joinsBeside_76 : decode cX10_joinsBeside 76 = .ok (.aload_n 0, 1) := by decide +kernel
theorem dX10_joinsBeside_77 : decode cX10_joinsBeside 77 = .ok (.getfield 50, 3) := by decide +kernel
theorem dX10_joinsBeside_80 : decode cX10_joinsBeside 80 = .ok (.bipush 10, 2) := by decide +kernel
theorem dX10_joinsBeside_82 : decode cX10_joinsBeside 82 = .ok (.iload_n 1, 1) := by decide +kernel
theorem dX10_joinsBeside_83 : decode cX10_joinsBeside 83 = .ok (.imul, 1) := by decide +kernel
theorem dX10_joinsBeside_84 : decode cX10_joinsBeside 84 = .ok (.iload_n 2, 1) := by decide +kernel
theorem dX10_joinsBeside_85 : decode cX10_joinsBeside 85 = .ok (.iadd, 1) := by decide +kernel
theorem dX10_joinsBeside_86 : decode cX10_joinsBeside 86 = .ok (.iload 4, 2) := by decide +kernel
theorem dX10_joinsBeside_88 : decode cX10_joinsBeside 88 = .ok (.iconst 1, 1) := by decide +kernel
theorem dX10_joinsBeside_89 : decode cX10_joinsBeside 89 = .ok (.if_icmp .eq 9, 3) := by decide +kernel
theorem dX10_joinsBeside_92 : decode cX10_joinsBeside 92 = .ok (.iload 5, 2) := by decide +kernel
theorem dX10_joinsBeside_94 : decode cX10_joinsBeside 94 = .ok (.iconst 1, 1) := by decide +kernel
theorem dX10_joinsBeside_95 : decode cX10_joinsBeside 95 = .ok (.if_icmp .ne 7, 3) := by decide +kernel
theorem dX10_joinsBeside_98 : decode cX10_joinsBeside 98 = .ok (.iconst 1, 1) := by decide +kernel
theorem dX10_joinsBeside_99 : decode cX10_joinsBeside 99 = .ok (.goto 18, 3) := by decide +kernel
theorem dX10_joinsBeside_102 : decode cX10_joinsBeside 102 = .ok (.iload 4, 2) := by decide +kernel
theorem dX10_joinsBeside_104 : decode cX10_joinsBeside 104 = .ok (.ifCond .ne 12, 3) := by decide +kernel
theorem dX10_joinsBeside_107 : decode cX10_joinsBeside 107 = .ok (.iload 5, 2) := by decide +kernel
theorem dX10_joinsBeside_109 : decode cX10_joinsBeside 109 = .ok (.ifCond .ne 7, 3) := by decide +kernel
theorem dX10_joinsBeside_112 : decode cX10_joinsBeside 112 = .ok (.iconst 0, 1) := by decide +kernel
theorem dX10_joinsBeside_113 : decode cX10_joinsBeside 113 = .ok (.goto 4, 3) := by decide +kernel
theorem dX10_joinsBeside_116 : decode cX10_joinsBeside 116 = .ok (.iconst 2, 1) := by decide +kernel
theorem dX10_joinsBeside_117 : decode cX10_joinsBeside 117 = .ok (.iastore, 1) := by decide +kernel
theorem dX10_joinsBeside_118 : decode cX10_joinsBeside 118 = .ok (.aload_n 0, 1) := by decide +kernel
theorem dX10_joinsBeside_119 : decode cX10_joinsBeside 119 = .ok (.iload_n 1, 1) := by decide +kernel
theorem dX10_joinsBeside_120 : decode cX10_joinsBeside 120 = .ok (.iload_n 3, 1) := by decide +kernel
theorem dX10_joinsBeside_121 : decode cX10_joinsBeside 121 = .ok (.invokevirtual 250, 3) := by decide +kernel
theorem dX10_joinsBeside_124 : decode cX10_joinsBeside 124 = .ok (.iconst 1, 1) := by decide +kernel
theorem dX10_joinsBeside_125 : decode cX10_joinsBeside 125 = .ok (.ireturn, 1) := by decide +kernel
theorem dX10_joinsBeside_126 : decode cX10_joinsBeside 126 = .ok (.iinc 3 1, 3) := by decide +kernel
theorem dX10_joinsBeside_129 : decode cX10_joinsBeside 129 = .ok (.goto (-115), 3) := by decide +kernel
theorem dX10_joinsBeside_132 : decode cX10_joinsBeside 132 = .ok (.iinc 2 1, 3) := by decide +kernel
theorem dX10_joinsBeside_135 : decode cX10_joinsBeside 135 = .ok (.goto (-133), 3) := by decide +kernel
theorem dX10_joinsBeside_138 : decode cX10_joinsBeside 138 = .ok (.iconst 0, 1) := by decide +kernel
theorem dX10_joinsBeside_139 : decode cX10_joinsBeside 139 = .ok (.ireturn, 1) := by decide +kernel
theorem dX10_isFree_0 : decode cX10_isFree 0 = .ok (.aload_n 0, 1) := by decide +kernel
theorem dX10_isFree_1 : decode cX10_isFree 1 = .ok (.getfield 56, 3) := by decide +kernel
theorem dX10_isFree_4 : decode cX10_isFree 4 = .ok (.iload_n 1, 1) := by decide +kernel
theorem dX10_isFree_5 : decode cX10_isFree 5 = .ok (.iaload, 1) := by decide +kernel
theorem dX10_isFree_6 : decode cX10_isFree 6 = .ok (.iload_n 2, 1) := by decide +kernel
theorem dX10_isFree_7 : decode cX10_isFree 7 = .ok (.ishr, 1) := by decide +kernel
theorem dX10_isFree_8 : decode cX10_isFree 8 = .ok (.iconst 1, 1) := by decide +kernel
theorem dX10_isFree_9 : decode cX10_isFree 9 = .ok (.iand, 1) := by decide +kernel
theorem dX10_isFree_10 : decode cX10_isFree 10 = .ok (.ifCond .ne 17, 3) := by decide +kernel
theorem dX10_isFree_13 : decode cX10_isFree 13 = .ok (.aload_n 0, 1) := by decide +kernel
theorem dX10_isFree_14 : decode cX10_isFree 14 = .ok (.iload_n 1, 1) := by decide +kernel
theorem dX10_isFree_15 : decode cX10_isFree 15 = .ok (.iload_n 2, 1) := by decide +kernel
theorem dX10_isFree_16 : decode cX10_isFree 16 = .ok (.invokevirtual 257, 3) := by decide +kernel
theorem dX10_isFree_19 : decode cX10_isFree 19 = .ok (.iload_n 3, 1) := by decide +kernel
theorem dX10_isFree_20 : decode cX10_isFree 20 = .ok (.if_icmp .ne 7, 3) := by decide +kernel
theorem dX10_isFree_23 : decode cX10_isFree 23 = .ok (.iconst 1, 1) := by decide +kernel
theorem dX10_isFree_24 : decode cX10_isFree 24 = .ok (.goto 4, 3) := by decide +kernel
theorem dX10_isFree_27 : decode cX10_isFree 27 = .ok (.iconst 0, 1) := by decide +kernel
theorem dX10_isFree_28 : decode cX10_isFree 28 = .ok (.ireturn, 1) := by decide +kernel
theorem dX10_dropsEnds_0 : decode cX10_dropsEnds 0 = .ok (.iconst 0, 1) := by decide +kernel
theorem dX10_dropsEnds_1 : decode cX10_dropsEnds 1 = .ok (.istore_n 2, 1) := by decide +kernel
theorem dX10_dropsEnds_2 : decode cX10_dropsEnds 2 = .ok (.iload_n 2, 1) := by decide +kernel
theorem dX10_dropsEnds_3 : decode cX10_dropsEnds 3 = .ok (.aload_n 0, 1) := by decide +kernel
theorem dX10_dropsEnds_4 : decode cX10_dropsEnds 4 = .ok (.getfield 103, 3) := by decide +kernel
theorem dX10_dropsEnds_7 : decode cX10_dropsEnds 7 = .ok (.if_icmp .ge 66, 3) := by decide +kernel
theorem dX10_dropsEnds_10 : decode cX10_dropsEnds 10 = .ok (.aload_n 0, 1) := by decide +kernel
theorem dX10_dropsEnds_11 : decode cX10_dropsEnds 11 = .ok (.iload_n 1, 1) := by decide +kernel
theorem dX10_dropsEnds_12 : decode cX10_dropsEnds 12 = .ok (.iload_n 2, 1) := by decide +kernel
theorem dX10_dropsEnds_13 : decode cX10_dropsEnds 13 = .ok (.invokevirtual 243, 3) := by decide +kernel
theorem dX10_dropsEnds_16 : decode cX10_dropsEnds 16 = .ok (.ifCond .eq 51, 3) := by decide +kernel
theorem dX10_dropsEnds_19 : decode cX10_dropsEnds 19 = .ok (.aload_n 0, 1) := by decide +kernel
theorem dX10_dropsEnds_20 : decode cX10_dropsEnds 20 = .ok (.iload_n 1, 1) := by decide +kernel
theorem dX10_dropsEnds_21 : decode cX10_dropsEnds 21 = .ok (.aload_n 0, 1) := by decide +kernel
theorem dX10_dropsEnds_22 : decode cX10_dropsEnds 22 = .ok (.getfield 44, 3) := by decide +kernel
theorem dX10_dropsEnds_25 : decode cX10_dropsEnds 25 = .ok (.bipush 10, 2) := by decide +kernel
theorem dX10_dropsEnds_27 : decode cX10_dropsEnds 27 = .ok (.iload_n 1, 1) := by decide +kernel
theorem dX10_dropsEnds_28 : decode cX10_dropsEnds 28 = .ok (.imul, 1) := by decide +kernel
theorem dX10_dropsEnds_29 : decode cX10_dropsEnds 29 = .ok (.iload_n 2, 1) := by decide +kernel
theorem dX10_dropsEnds_30 : decode cX10_dropsEnds 30 = .ok (.iadd, 1) := by decide +kernel
theorem dX10_dropsEnds_31 : decode cX10_dropsEnds 31 = .ok (.iaload, 1) := by decide +kernel
theorem dX10_dropsEnds_32 : decode cX10_dropsEnds 32 = .ok (.iconst 1, 1) := by decide +kernel
theorem dX10_dropsEnds_33 : decode cX10_dropsEnds 33 = .ok (.invokevirtual 260, 3) := by decide +kernel
theorem dX10_dropsEnds_36 : decode cX10_dropsEnds 36 = .ok (.ifCond .ne 23, 3) := by decide +kernel
theorem dX10_dropsEnds_39 : decode cX10_dropsEnds 39 = .ok (.aload_n 0, 1) := by decide +kernel
theorem dX10_dropsEnds_40 : decode cX10_dropsEnds 40 = .ok (.iload_n 1, 1) := by decide +kernel
theorem dX10_dropsEnds_41 : decode cX10_dropsEnds 41 = .ok (.aload_n 0, 1) := by decide +kernel
theorem dX10_dropsEnds_42 : decode cX10_dropsEnds 42 = .ok (.getfield 47, 3) := by decide +kernel
theorem dX10_dropsEnds_45 : decode cX10_dropsEnds 45 = .ok (.bipush 10, 2) := by decide +kernel
theorem dX10_dropsEnds_47 : decode cX10_dropsEnds 47 = .ok (.iload_n 1, 1) := by decide +kernel
theorem dX10_dropsEnds_48 : decode cX10_dropsEnds 48 = .ok (.imul, 1) := by decide +kernel
theorem dX10_dropsEnds_49 : decode cX10_dropsEnds 49 = .ok (.iload_n 2, 1) := by decide +kernel
theorem dX10_dropsEnds_50 : decode cX10_dropsEnds 50 = .ok (.iadd, 1) := by decide +kernel
theorem dX10_dropsEnds_51 : decode cX10_dropsEnds 51 = .ok (.iaload, 1) := by decide +kernel
theorem dX10_dropsEnds_52 : decode cX10_dropsEnds 52 = .ok (.iconst 1, 1) := by decide +kernel
theorem dX10_dropsEnds_53 : decode cX10_dropsEnds 53 = .ok (.invokevirtual 260, 3) := by decide +kernel
theorem dX10_dropsEnds_56 : decode cX10_dropsEnds 56 = .ok (.ifCond .eq 11, 3) := by decide +kernel
theorem dX10_dropsEnds_59 : decode cX10_dropsEnds 59 = .ok (.aload_n 0, 1) := by decide +kernel
theorem dX10_dropsEnds_60 : decode cX10_dropsEnds 60 = .ok (.iload_n 1, 1) := by decide +kernel
theorem dX10_dropsEnds_61 : decode cX10_dropsEnds 61 = .ok (.iload_n 2, 1) := by decide +kernel
theorem dX10_dropsEnds_62 : decode cX10_dropsEnds 62 = .ok (.invokevirtual 250, 3) := by decide +kernel
theorem dX10_dropsEnds_65 : decode cX10_dropsEnds 65 = .ok (.iconst 1, 1) := by decide +kernel
theorem dX10_dropsEnds_66 : decode cX10_dropsEnds 66 = .ok (.ireturn, 1) := by decide +kernel
theorem dX10_dropsEnds_67 : decode cX10_dropsEnds 67 = .ok (.iinc 2 1, 3) := by decide +kernel
theorem dX10_dropsEnds_70 : decode cX10_dropsEnds 70 = .ok (.goto (-68), 3) := by decide +kernel
theorem dX10_dropsEnds_73 : decode cX10_dropsEnds 73 = .ok (.iconst 0, 1) := by decide +kernel
theorem dX10_dropsEnds_74 : decode cX10_dropsEnds 74 = .ok (.ireturn, 1) := by decide +kernel
theorem dX10_otherEnd_0 : decode cX10_otherEnd 0 = .ok (.aload_n 0, 1) := by decide +kernel
theorem dX10_otherEnd_1 : decode cX10_otherEnd 1 = .ok (.getfield 44, 3) := by decide +kernel
theorem dX10_otherEnd_4 : decode cX10_otherEnd 4 = .ok (.bipush 10, 2) := by decide +kernel
theorem dX10_otherEnd_6 : decode cX10_otherEnd 6 = .ok (.iload_n 1, 1) := by decide +kernel
theorem dX10_otherEnd_7 : decode cX10_otherEnd 7 = .ok (.imul, 1) := by decide +kernel
theorem dX10_otherEnd_8 : decode cX10_otherEnd 8 = .ok (.iload_n 2, 1) := by decide +kernel
theorem dX10_otherEnd_9 : decode cX10_otherEnd 9 = .ok (.iadd, 1) := by decide +kernel
theorem dX10_otherEnd_10 : decode cX10_otherEnd 10 = .ok (.iaload, 1) := by decide +kernel
theorem dX10_otherEnd_11 : decode cX10_otherEnd 11 = .ok (.iload_n 3, 1) := by decide +kernel
theorem dX10_otherEnd_12 : decode cX10_otherEnd 12 = .ok (.if_icmp .ne 17, 3) := by decide +kernel
theorem dX10_otherEnd_15 : decode cX10_otherEnd 15 = .ok (.aload_n 0, 1) := by decide +kernel
theorem dX10_otherEnd_16 : decode cX10_otherEnd 16 = .ok (.getfield 47, 3) := by decide +kernel
theorem dX10_otherEnd_19 : decode cX10_otherEnd 19 = .ok (.bipush 10, 2) := by decide +kernel
theorem dX10_otherEnd_21 : decode cX10_otherEnd 21 = .ok (.iload_n 1, 1) := by decide +kernel
theorem dX10_otherEnd_22 : decode cX10_otherEnd 22 = .ok (.imul, 1) := by decide +kernel
theorem dX10_otherEnd_23 : decode cX10_otherEnd 23 = .ok (.iload_n 2, 1) := by decide +kernel
theorem dX10_otherEnd_24 : decode cX10_otherEnd 24 = .ok (.iadd, 1) := by decide +kernel
theorem dX10_otherEnd_25 : decode cX10_otherEnd 25 = .ok (.iaload, 1) := by decide +kernel
theorem dX10_otherEnd_26 : decode cX10_otherEnd 26 = .ok (.goto 14, 3) := by decide +kernel
theorem dX10_otherEnd_29 : decode cX10_otherEnd 29 = .ok (.aload_n 0, 1) := by decide +kernel
theorem dX10_otherEnd_30 : decode cX10_otherEnd 30 = .ok (.getfield 44, 3) := by decide +kernel
theorem dX10_otherEnd_33 : decode cX10_otherEnd 33 = .ok (.bipush 10, 2) := by decide +kernel
theorem dX10_otherEnd_35 : decode cX10_otherEnd 35 = .ok (.iload_n 1, 1) := by decide +kernel
theorem dX10_otherEnd_36 : decode cX10_otherEnd 36 = .ok (.imul, 1) := by decide +kernel
theorem dX10_otherEnd_37 : decode cX10_otherEnd 37 = .ok (.iload_n 2, 1) := by decide +kernel
theorem dX10_otherEnd_38 : decode cX10_otherEnd 38 = .ok (.iadd, 1) := by decide +kernel
theorem dX10_otherEnd_39 : decode cX10_otherEnd 39 = .ok (.iaload, 1) := by decide +kernel
theorem dX10_otherEnd_40 : decode cX10_otherEnd 40 = .ok (.ireturn, 1) := by decide +kernel
theorem dX10_joinsBehind_0 : decode cX10_joinsBehind 0 = .ok (.iconst 0, 1) := by decide +kernel
theorem dX10_joinsBehind_1 : decode cX10_joinsBehind 1 = .ok (.istore_n 2, 1) := by decide +kernel
theorem dX10_joinsBehind_2 : decode cX10_joinsBehind 2 = .ok (.iload_n 2, 1) := by decide +kernel
theorem dX10_joinsBehind_3 : decode cX10_joinsBehind 3 = .ok (.aload_n 0, 1) := by decide +kernel
theorem dX10_joinsBehind_4 : decode cX10_joinsBehind 4 = .ok (.getfield 103, 3) := by decide +kernel
theorem dX10_joinsBehind_7 : decode cX10_joinsBehind 7 = .ok (.if_icmp .ge 236, 3) := by decide +kernel
theorem dX10_joinsBehind_10 : decode cX10_joinsBehind 10 = .ok (.iload_n 2, 1) := by decide +kernel
theorem dX10_joinsBehind_11 : decode cX10_joinsBehind 11 = .ok (.iconst 1, 1) := by decide +kernel
theorem dX10_joinsBehind_12 : decode cX10_joinsBehind 12 = .ok (.iadd, 1) := by decide +kernel
theorem dX10_joinsBehind_13 : decode cX10_joinsBehind 13 = .ok (.istore_n 3, 1) := by decide +kernel
theorem dX10_joinsBehind_14 : decode cX10_joinsBehind 14 = .ok (.iload_n 3, 1) := by decide +kernel
theorem dX10_joinsBehind_15 : decode cX10_joinsBehind 15 = .ok (.aload_n 0, 1) := by decide +kernel
theorem dX10_joinsBehind_16 : decode cX10_joinsBehind 16 = .ok (.getfield 103, 3) := by decide +kernel
theorem dX10_joinsBehind_19 : decode cX10_joinsBehind 19 = .ok (.if_icmp .ge 218, 3) := by decide +kernel
theorem dX10_joinsBehind_22 : decode cX10_joinsBehind 22 = .ok (.iconst 0, 1) := by decide +kernel
theorem dX10_joinsBehind_23 : decode cX10_joinsBehind 23 = .ok (.istore 4, 2) := by decide +kernel
theorem dX10_joinsBehind_25 : decode cX10_joinsBehind 25 = .ok (.iload 4, 2) := by decide +kernel
theorem dX10_joinsBehind_27 : decode cX10_joinsBehind 27 = .ok (.iconst 2, 1) := by decide +kernel
theorem dX10_joinsBehind_28 : decode cX10_joinsBehind 28 = .ok (.if_icmp .ge 203, 3) := by decide +kernel
theorem dX10_joinsBehind_31 : decode cX10_joinsBehind 31 = .ok (.aload_n 0, 1) := by decide +kernel
theorem dX10_joinsBehind_32 : decode cX10_joinsBehind 32 = .ok (.iload_n 1, 1) := by decide +kernel
theorem dX10_joinsBehind_33 : decode cX10_joinsBehind 33 = .ok (.iload_n 2, 1) := by decide +kernel
theorem dX10_joinsBehind_34 : decode cX10_joinsBehind 34 = .ok (.invokevirtual 243, 3) := by decide +kernel
theorem dX10_joinsBehind_37 : decode cX10_joinsBehind 37 = .ok (.ifCond .eq 194, 3) := by decide +kernel
theorem dX10_joinsBehind_40 : decode cX10_joinsBehind 40 = .ok (.aload_n 0, 1) := by decide +kernel
theorem dX10_joinsBehind_41 : decode cX10_joinsBehind 41 = .ok (.iload_n 1, 1) := by decide +kernel
theorem dX10_joinsBehind_42 : decode cX10_joinsBehind 42 = .ok (.iload_n 3, 1) := by decide +kernel
theorem dX10_joinsBehind_43 : decode cX10_joinsBehind 43 = .ok (.invokevirtual 243, 3) := by decide +kernel
theorem dX10_joinsBehind_46 : decode cX10_joinsBehind 46 = .ok (.ifCond .eq 185, 3) := by decide +kernel
theorem dX10_joinsBehind_49 : decode cX10_joinsBehind 49 = .ok (.iload 4, 2) := by decide +kernel
theorem dX10_joinsBehind_51 : decode cX10_joinsBehind 51 = .ok (.ifCond .ne 17, 3) := by decide +kernel
theorem dX10_joinsBehind_54 : decode cX10_joinsBehind 54 = .ok (.aload_n 0, 1) := by decide +kernel
theorem dX10_joinsBehind_55 : decode cX10_joinsBehind 55 = .ok (.getfield 44, 3) := by decide +kernel
theorem dX10_joinsBehind_58 : decode cX10_joinsBehind 58 = .ok (.bipush 10, 2) := by decide +kernel
theorem dX10_joinsBehind_60 : decode cX10_joinsBehind 60 = .ok (.iload_n 1, 1) := by decide +kernel
theorem dX10_joinsBehind_61 : decode cX10_joinsBehind 61 = .ok (.imul, 1) := by decide +kernel
theorem dX10_joinsBehind_62 : decode cX10_joinsBehind 62 = .ok (.iload_n 2, 1) := by decide +kernel
theorem dX10_joinsBehind_63 : decode cX10_joinsBehind 63 = .ok (.iadd, 1) := by decide +kernel
theorem dX10_joinsBehind_64 : decode cX10_joinsBehind 64 = .ok (.iaload, 1) := by decide +kernel
theorem dX10_joinsBehind_65 : decode cX10_joinsBehind 65 = .ok (.goto 14, 3) := by decide +kernel
theorem dX10_joinsBehind_68 : decode cX10_joinsBehind 68 = .ok (.aload_n 0, 1) := by decide +kernel
theorem dX10_joinsBehind_69 : decode cX10_joinsBehind 69 = .ok (.getfield 47, 3) := by decide +kernel
theorem dX10_joinsBehind_72 : decode cX10_joinsBehind 72 = .ok (.bipush 10, 2) := by decide +kernel
theorem dX10_joinsBehind_74 : decode cX10_joinsBehind 74 = .ok (.iload_n 1, 1) := by decide +kernel
theorem dX10_joinsBehind_75 : decode cX10_joinsBehind 75 = .ok (.imul, 1) := by decide +kernel
theorem dX10_joinsBehind_76 : decode cX10_joinsBehind 76 = .ok (.iload_n 2, 1) := by decide +kernel
theorem dX10_joinsBehind_77 : decode cX10_joinsBehind 77 = .ok (.iadd, 1) := by decide +kernel
theorem dX10_joinsBehind_78 : decode cX10_joinsBehind 78 = .ok (.iaload, 1) := by decide +kernel
theorem dX10_joinsBehind_79 : decode cX10_joinsBehind 79 = .ok (.istore 5, 2) := by decide +kernel
theorem dX10_joinsBehind_81 : decode cX10_joinsBehind 81 = .ok (.aload_n 0, 1) := by decide +kernel
theorem dX10_joinsBehind_82 : decode cX10_joinsBehind 82 = .ok (.iload_n 1, 1) := by decide +kernel
theorem dX10_joinsBehind_83 : decode cX10_joinsBehind 83 = .ok (.iload_n 3, 1) := by decide +kernel
theorem dX10_joinsBehind_84 : decode cX10_joinsBehind 84 = .ok (.iload 5, 2) := by decide +kernel
theorem dX10_joinsBehind_86 : decode cX10_joinsBehind 86 = .ok (.invokevirtual 246, 3) := by decide +kernel
theorem dX10_joinsBehind_89 : decode cX10_joinsBehind 89 = .ok (.ifCond .eq 136, 3) := by decide +kernel
theorem dX10_joinsBehind_92 : decode cX10_joinsBehind 92 = .ok (.aload_n 0, 1) := by decide +kernel
theorem dX10_joinsBehind_93 : decode cX10_joinsBehind 93 = .ok (.iload_n 1, 1) := by decide +kernel
theorem dX10_joinsBehind_94 : decode cX10_joinsBehind 94 = .ok (.iload 5, 2) := by decide +kernel
theorem dX10_joinsBehind_96 : decode cX10_joinsBehind 96 = .ok (.iconst 2, 1) := by decide +kernel
theorem dX10_joinsBehind_97 : decode cX10_joinsBehind 97 = .ok (.invokevirtual 260, 3) := by decide +kernel
theorem dX10_joinsBehind_100 : decode cX10_joinsBehind 100 = .ok (.ifCond .eq 125, 3) := by decide +kernel
theorem dX10_joinsBehind_103 : decode cX10_joinsBehind 103 = .ok (.aload_n 0, 1) := by decide +kernel
theorem dX10_joinsBehind_104 : decode cX10_joinsBehind 104 = .ok (.getfield 50, 3) := by decide +kernel
theorem dX10_joinsBehind_107 : decode cX10_joinsBehind 107 = .ok (.bipush 10, 2) := by decide +kernel
theorem dX10_joinsBehind_109 : decode cX10_joinsBehind 109 = .ok (.iload_n 1, 1) := by decide +kernel
theorem dX10_joinsBehind_110 : decode cX10_joinsBehind 110 = .ok (.imul, 1) := by decide +kernel
theorem dX10_joinsBehind_111 : decode cX10_joinsBehind 111 = .ok (.iload_n 2, 1) := by decide +kernel
theorem dX10_joinsBehind_112 : decode cX10_joinsBehind 112 = .ok (.iadd, 1) := by decide +kernel
theorem dX10_joinsBehind_113 : decode cX10_joinsBehind 113 = .ok (.iaload, 1) := by decide +kernel
theorem dX10_joinsBehind_114 : decode cX10_joinsBehind 114 = .ok (.istore 6, 2) := by decide +kernel
theorem dX10_joinsBehind_116 : decode cX10_joinsBehind 116 = .ok (.aload_n 0, 1) := by decide +kernel
theorem dX10_joinsBehind_117 : decode cX10_joinsBehind 117 = .ok (.getfield 50, 3) := by decide +kernel
theorem dX10_joinsBehind_120 : decode cX10_joinsBehind 120 = .ok (.bipush 10, 2) := by decide +kernel
theorem dX10_joinsBehind_122 : decode cX10_joinsBehind 122 = .ok (.iload_n 1, 1) := by decide +kernel
theorem dX10_joinsBehind_123 : decode cX10_joinsBehind 123 = .ok (.imul, 1) := by decide +kernel
theorem dX10_joinsBehind_124 : decode cX10_joinsBehind 124 = .ok (.iload_n 3, 1) := by decide +kernel
theorem dX10_joinsBehind_125 : decode cX10_joinsBehind 125 = .ok (.iadd, 1) := by decide +kernel
theorem dX10_joinsBehind_126 : decode cX10_joinsBehind 126 = .ok (.iaload, 1) := by decide +kernel
theorem dX10_joinsBehind_127 : decode cX10_joinsBehind 127 = .ok (.istore 7, 2) := by decide +kernel
theorem dX10_joinsBehind_129 : decode cX10_joinsBehind 129 = .ok (.aload_n 0, 1) := by decide +kernel
theorem dX10_joinsBehind_130 : decode cX10_joinsBehind 130 = .ok (.iload_n 1, 1) := by decide +kernel
theorem dX10_joinsBehind_131 : decode cX10_joinsBehind 131 = .ok (.iload_n 2, 1) := by decide +kernel
theorem dX10_joinsBehind_132 : decode cX10_joinsBehind 132 = .ok (.iload 5, 2) := by decide +kernel
theorem dX10_joinsBehind_134 : decode cX10_joinsBehind 134 = .ok (.invokevirtual 263, 3) := by decide +kernel
theorem dX10_joinsBehind_137 : decode cX10_joinsBehind 137 = .ok (.istore 8, 2) := by decide +kernel
theorem dX10_joinsBehind_139 : decode cX10_joinsBehind 139 = .ok (.aload_n 0, 1) := by decide +kernel
theorem dX10_joinsBehind_140 : decode cX10_joinsBehind 140 = .ok (.iload_n 1, 1) := by decide +kernel
theorem dX10_joinsBehind_141 : decode cX10_joinsBehind 141 = .ok (.iload_n 3, 1) := by decide +kernel
theorem dX10_joinsBehind_142 : decode cX10_joinsBehind 142 = .ok (.iload 5, 2) := by decide +kernel
theorem dX10_joinsBehind_144 : decode cX10_joinsBehind 144 = .ok (.invokevirtual 263, 3) := by decide +kernel
theorem dX10_joinsBehind_147 : decode cX10_joinsBehind 147 = .ok (.istore 9, 2) := by decide +kernel
theorem dX10_joinsBehind_149 : decode cX10_joinsBehind 149 = .ok (.aload_n 0, 1) := by decide +kernel
theorem dX10_joinsBehind_150 : decode cX10_joinsBehind 150 = .ok (.getfield 44, 3) := by decide +kernel
theorem dX10_joinsBehind_153 : decode cX10_joinsBehind 153 = .ok (.bipush 10, 2) := by decide +kernel
theorem dX10_joinsBehind_155 : decode cX10_joinsBehind 155 = .ok (.iload_n 1, 1) := by decide +kernel
theorem dX10_joinsBehind_156 : decode cX10_joinsBehind 156 = .ok (.imul, 1) := by decide +kernel
theorem dX10_joinsBehind_157 : decode cX10_joinsBehind 157 = .ok (.iload_n 2, 1) := by decide +kernel
theorem dX10_joinsBehind_158 : decode cX10_joinsBehind 158 = .ok (.iadd, 1) := by decide +kernel
theorem dX10_joinsBehind_159 : decode cX10_joinsBehind 159 = .ok (.iload 8, 2) := by decide +kernel
theorem dX10_joinsBehind_161 : decode cX10_joinsBehind 161 = .ok (.iastore, 1) := by decide +kernel
theorem dX10_joinsBehind_162 : decode cX10_joinsBehind 162 = .ok (.aload_n 0, 1) := by decide +kernel
theorem dX10_joinsBehind_163 : decode cX10_joinsBehind 163 = .ok (.getfield 47, 3) := by decide +kernel
theorem dX10_joinsBehind_166 : decode cX10_joinsBehind 166 = .ok (.bipush 10, 2) := by decide +kernel
theorem dX10_joinsBehind_168 : decode cX10_joinsBehind 168 = .ok (.iload_n 1, 1) := by decide +kernel
theorem dX10_joinsBehind_169 : decode cX10_joinsBehind 169 = .ok (.imul, 1) := by decide +kernel
theorem dX10_joinsBehind_170 : decode cX10_joinsBehind 170 = .ok (.iload_n 2, 1) := by decide +kernel
theorem dX10_joinsBehind_171 : decode cX10_joinsBehind 171 = .ok (.iadd, 1) := by decide +kernel
theorem dX10_joinsBehind_172 : decode cX10_joinsBehind 172 = .ok (.iload 9, 2) := by decide +kernel
theorem dX10_joinsBehind_174 : decode cX10_joinsBehind 174 = .ok (.iastore, 1) := by decide +kernel
theorem dX10_joinsBehind_175 : decode cX10_joinsBehind 175 = .ok (.aload_n 0, 1) := by decide +kernel
theorem dX10_joinsBehind_176 : decode cX10_joinsBehind 176 = .ok (.getfield 50, 3) := by decide +kernel
theorem dX10_joinsBehind_179 : decode cX10_joinsBehind 179 = .ok (.bipush 10, 2) := by decide +kernel
theorem dX10_joinsBehind_181 : decode cX10_joinsBehind 181 = .ok (.iload_n 1, 1) := by decide +kernel
theorem dX10_joinsBehind_182 : decode cX10_joinsBehind 182 = .ok (.imul, 1) := by decide +kernel
theorem dX10_joinsBehind_183 : decode cX10_joinsBehind 183 = .ok (.iload_n 2, 1) := by decide +kernel
theorem dX10_joinsBehind_184 : decode cX10_joinsBehind 184 = .ok (.iadd, 1) := by decide +kernel
theorem dX10_joinsBehind_185 : decode cX10_joinsBehind 185 = .ok (.iload 6, 2) := by decide +kernel
theorem dX10_joinsBehind_187 : decode cX10_joinsBehind 187 = .ok (.ifCond .eq 8, 3) := by decide +kernel
theorem dX10_joinsBehind_190 : decode cX10_joinsBehind 190 = .ok (.iload 7, 2) := by decide +kernel
theorem dX10_joinsBehind_192 : decode cX10_joinsBehind 192 = .ok (.ifCond .ne 7, 3) := by decide +kernel
theorem dX10_joinsBehind_195 : decode cX10_joinsBehind 195 = .ok (.iconst 0, 1) := by decide +kernel
theorem dX10_joinsBehind_196 : decode cX10_joinsBehind 196 = .ok (.goto 20, 3) := by decide +kernel
theorem dX10_joinsBehind_199 : decode cX10_joinsBehind 199 = .ok (.iload 6, 2) := by decide +kernel
theorem dX10_joinsBehind_201 : decode cX10_joinsBehind 201 = .ok (.iconst 1, 1) := by decide +kernel
theorem dX10_joinsBehind_202 : decode cX10_joinsBehind 202 = .ok (.if_icmp .ne 13, 3) := by decide +kernel
theorem dX10_joinsBehind_205 : decode cX10_joinsBehind 205 = .ok (.iload 7, 2) := by decide +kernel
theorem dX10_joinsBehind_207 : decode cX10_joinsBehind 207 = .ok (.iconst 1, 1) := by decide +kernel
theorem dX10_joinsBehind_208 : decode cX10_joinsBehind 208 = .ok (.if_icmp .ne 7, 3) := by decide +kernel
theorem dX10_joinsBehind_211 : decode cX10_joinsBehind 211 = .ok (.iconst 1, 1) := by decide +kernel
theorem dX10_joinsBehind_212 : decode cX10_joinsBehind 212 = .ok (.goto 4, 3) := by decide +kernel
theorem dX10_joinsBehind_215 : decode cX10_joinsBehind 215 = .ok (.iconst 2, 1) := by decide +kernel
theorem dX10_joinsBehind_216 : decode cX10_joinsBehind 216 = .ok (.iastore, 1) := by decide +kernel
theorem dX10_joinsBehind_217 : decode cX10_joinsBehind 217 = .ok (.aload_n 0, 1) := by decide +kernel
theorem dX10_joinsBehind_218 : decode cX10_joinsBehind 218 = .ok (.iload_n 1, 1) := by decide +kernel
theorem dX10_joinsBehind_219 : decode cX10_joinsBehind 219 = .ok (.iload_n 3, 1) := by decide +kernel
theorem dX10_joinsBehind_220 : decode cX10_joinsBehind 220 = .ok (.invokevirtual 250, 3) := by decide +kernel
theorem dX10_joinsBehind_223 : decode cX10_joinsBehind 223 = .ok (.iconst 1, 1) := by decide +kernel
theorem dX10_joinsBehind_224 : decode cX10_joinsBehind 224 = .ok (.ireturn, 1) := by decide +kernel
theorem dX10_joinsBehind_225 : decode cX10_joinsBehind 225 = .ok (.iinc 4 1, 3) := by decide +kernel
theorem dX10_joinsBehind_228 : decode cX10_joinsBehind 228 = .ok (.goto (-203), 3) := by decide +kernel
theorem dX10_joinsBehind_231 : decode cX10_joinsBehind 231 = .ok (.iinc 3 1, 3) := by decide +kernel
theorem dX10_joinsBehind_234 : decode cX10_joinsBehind 234 = .ok (.goto (-220), 3) := by decide +kernel
theorem dX10_joinsBehind_237 : decode cX10_joinsBehind 237 = .ok (.iinc 2 1, 3) := by decide +kernel
theorem dX10_joinsBehind_240 : decode cX10_joinsBehind 240 = .ok (.goto (-238), 3) := by decide +kernel
theorem dX10_joinsBehind_243 : decode cX10_joinsBehind 243 = .ok (.iconst 0, 1) := by decide +kernel
theorem dX10_joinsBehind_244 : decode cX10_joinsBehind 244 = .ok (.ireturn, 1) := by decide +kernel
theorem dX10_tidies_0 : decode cX10_tidies 0 = .ok (.iconst 1, 1) := by decide +kernel
theorem dX10_tidies_1 : decode cX10_tidies 1 = .ok (.istore_n 2, 1) := by decide +kernel
theorem dX10_tidies_2 : decode cX10_tidies 2 = .ok (.iload_n 2, 1) := by decide +kernel
theorem dX10_tidies_3 : decode cX10_tidies 3 = .ok (.ifCond .eq 44, 3) := by decide +kernel
theorem dX10_tidies_6 : decode cX10_tidies 6 = .ok (.aload_n 0, 1) := by decide +kernel
theorem dX10_tidies_7 : decode cX10_tidies 7 = .ok (.iload_n 1, 1) := by decide +kernel
theorem dX10_tidies_8 : decode cX10_tidies 8 = .ok (.invokevirtual 267, 3) := by decide +kernel
theorem dX10_tidies_11 : decode cX10_tidies 11 = .ok (.ifCond .ne 27, 3) := by decide +kernel
theorem dX10_tidies_14 : decode cX10_tidies 14 = .ok (.aload_n 0, 1) := by decide +kernel
theorem dX10_tidies_15 : decode cX10_tidies 15 = .ok (.iload_n 1, 1) := by decide +kernel
theorem dX10_tidies_16 : decode cX10_tidies 16 = .ok (.invokevirtual 270, 3) := by decide +kernel
theorem dX10_tidies_19 : decode cX10_tidies 19 = .ok (.ifCond .ne 19, 3) := by decide +kernel
theorem dX10_tidies_22 : decode cX10_tidies 22 = .ok (.aload_n 0, 1) := by decide +kernel
theorem dX10_tidies_23 : decode cX10_tidies 23 = .ok (.iload_n 1, 1) := by decide +kernel
theorem dX10_tidies_24 : decode cX10_tidies 24 = .ok (.invokevirtual 273, 3) := by decide +kernel
theorem dX10_tidies_27 : decode cX10_tidies 27 = .ok (.ifCond .ne 11, 3) := by decide +kernel
theorem dX10_tidies_30 : decode cX10_tidies 30 = .ok (.aload_n 0, 1) := by decide +kernel
theorem dX10_tidies_31 : decode cX10_tidies 31 = .ok (.iload_n 1, 1) := by decide +kernel
theorem dX10_tidies_32 : decode cX10_tidies 32 = .ok (.invokevirtual 276, 3) := by decide +kernel
theorem dX10_tidies_35 : decode cX10_tidies 35 = .ok (.ifCond .eq 7, 3) := by decide +kernel
theorem dX10_tidies_38 : decode cX10_tidies 38 = .ok (.iconst 1, 1) := by decide +kernel
theorem dX10_tidies_39 : decode cX10_tidies 39 = .ok (.goto 4, 3) := by decide +kernel
theorem dX10_tidies_42 : decode cX10_tidies 42 = .ok (.iconst 0, 1) := by decide +kernel
theorem dX10_tidies_43 : decode cX10_tidies 43 = .ok (.istore_n 2, 1) := by decide +kernel
theorem dX10_tidies_44 : decode cX10_tidies 44 = .ok (.goto (-42), 3) := by decide +kernel
theorem dX10_tidies_47 : decode cX10_tidies 47 = .ok (.return_, 1) := by decide +kernel
theorem dX10_isAnswered_0 : decode cX10_isAnswered 0 = .ok (.aload_n 0, 1) := by decide +kernel
theorem dX10_isAnswered_1 : decode cX10_isAnswered 1 = .ok (.getfield 56, 3) := by decide +kernel
theorem dX10_isAnswered_4 : decode cX10_isAnswered 4 = .ok (.iload_n 1, 1) := by decide +kernel
theorem dX10_isAnswered_5 : decode cX10_isAnswered 5 = .ok (.iaload, 1) := by decide +kernel
theorem dX10_isAnswered_6 : decode cX10_isAnswered 6 = .ok (.invokestatic 178, 3) := by decide +kernel
theorem dX10_isAnswered_9 : decode cX10_isAnswered 9 = .ok (.iconst 1, 1) := by decide +kernel
theorem dX10_isAnswered_10 : decode cX10_isAnswered 10 = .ok (.if_icmp .ne 7, 3) := by decide +kernel
theorem dX10_isAnswered_13 : decode cX10_isAnswered 13 = .ok (.iconst 1, 1) := by decide +kernel
theorem dX10_isAnswered_14 : decode cX10_isAnswered 14 = .ok (.goto 4, 3) := by decide +kernel
theorem dX10_isAnswered_17 : decode cX10_isAnswered 17 = .ok (.iconst 0, 1) := by decide +kernel
theorem dX10_isAnswered_18 : decode cX10_isAnswered 18 = .ok (.istore_n 2, 1) := by decide +kernel
theorem dX10_isAnswered_19 : decode cX10_isAnswered 19 = .ok (.iconst 0, 1) := by decide +kernel
theorem dX10_isAnswered_20 : decode cX10_isAnswered 20 = .ok (.istore_n 3, 1) := by decide +kernel
theorem dX10_isAnswered_21 : decode cX10_isAnswered 21 = .ok (.iload_n 3, 1) := by decide +kernel
theorem dX10_isAnswered_22 : decode cX10_isAnswered 22 = .ok (.aload_n 0, 1) := by decide +kernel
theorem dX10_isAnswered_23 : decode cX10_isAnswered 23 = .ok (.getfield 68, 3) := by decide +kernel
theorem dX10_isAnswered_26 : decode cX10_isAnswered 26 = .ok (.if_icmp .ge 42, 3) := by decide +kernel
theorem dX10_isAnswered_29 : decode cX10_isAnswered 29 = .ok (.iload_n 2, 1) := by decide +kernel
theorem dX10_isAnswered_30 : decode cX10_isAnswered 30 = .ok (.ifCond .ne 26, 3) := by decide +kernel
theorem dX10_isAnswered_33 : decode cX10_isAnswered 33 = .ok (.aload_n 0, 1) := by decide +kernel
theorem dX10_isAnswered_34 : decode cX10_isAnswered 34 = .ok (.getfield 56, 3) := by decide +kernel
theorem dX10_isAnswered_37 : decode cX10_isAnswered 37 = .ok (.iload_n 1, 1) := by decide +kernel
theorem dX10_isAnswered_38 : decode cX10_isAnswered 38 = .ok (.iaload, 1) := by decide +kernel
theorem dX10_isAnswered_39 : decode cX10_isAnswered 39 = .ok (.iload_n 3, 1) := by decide +kernel
theorem dX10_isAnswered_40 : decode cX10_isAnswered 40 = .ok (.ishr, 1) := by decide +kernel
theorem dX10_isAnswered_41 : decode cX10_isAnswered 41 = .ok (.iconst 1, 1) := by decide +kernel
theorem dX10_isAnswered_42 : decode cX10_isAnswered 42 = .ok (.iand, 1) := by decide +kernel
theorem dX10_isAnswered_43 : decode cX10_isAnswered 43 = .ok (.iconst 1, 1) := by decide +kernel
theorem dX10_isAnswered_44 : decode cX10_isAnswered 44 = .ok (.if_icmp .ne 16, 3) := by decide +kernel
theorem dX10_isAnswered_47 : decode cX10_isAnswered 47 = .ok (.aload_n 0, 1) := by decide +kernel
theorem dX10_isAnswered_48 : decode cX10_isAnswered 48 = .ok (.iload_n 1, 1) := by decide +kernel
theorem dX10_isAnswered_49 : decode cX10_isAnswered 49 = .ok (.iload_n 3, 1) := by decide +kernel
theorem dX10_isAnswered_50 : decode cX10_isAnswered 50 = .ok (.invokevirtual 257, 3) := by decide +kernel
theorem dX10_isAnswered_53 : decode cX10_isAnswered 53 = .ok (.ifCond .ne 7, 3) := by decide +kernel
theorem dX10_isAnswered_56 : decode cX10_isAnswered 56 = .ok (.iconst 1, 1) := by decide +kernel
theorem dX10_isAnswered_57 : decode cX10_isAnswered 57 = .ok (.goto 4, 3) := by decide +kernel
theorem dX10_isAnswered_60 : decode cX10_isAnswered 60 = .ok (.iconst 0, 1) := by decide +kernel
theorem dX10_isAnswered_61 : decode cX10_isAnswered 61 = .ok (.istore_n 2, 1) := by decide +kernel
theorem dX10_isAnswered_62 : decode cX10_isAnswered 62 = .ok (.iinc 3 1, 3) := by decide +kernel
theorem dX10_isAnswered_65 : decode cX10_isAnswered 65 = .ok (.goto (-44), 3) := by decide +kernel
theorem dX10_isAnswered_68 : decode cX10_isAnswered 68 = .ok (.iload_n 2, 1) := by decide +kernel
theorem dX10_isAnswered_69 : decode cX10_isAnswered 69 = .ok (.ireturn, 1) := by decide +kernel
theorem dX10_first_0 : decode cX10_first 0 = .ok (.iconst 0, 1) := by decide +kernel
theorem dX10_first_1 : decode cX10_first 1 = .ok (.istore_n 2, 1) := by decide +kernel
theorem dX10_first_2 : decode cX10_first 2 = .ok (.aload_n 0, 1) := by decide +kernel
theorem dX10_first_3 : decode cX10_first 3 = .ok (.iload_n 1, 1) := by decide +kernel
theorem dX10_first_4 : decode cX10_first 4 = .ok (.iload_n 2, 1) := by decide +kernel
theorem dX10_first_5 : decode cX10_first 5 = .ok (.invokevirtual 243, 3) := by decide +kernel
theorem dX10_first_8 : decode cX10_first 8 = .ok (.ifCond .ne 9, 3) := by decide +kernel
theorem dX10_first_11 : decode cX10_first 11 = .ok (.iinc 2 1, 3) := by decide +kernel
theorem dX10_first_14 : decode cX10_first 14 = .ok (.goto (-12), 3) := by decide +kernel
theorem dX10_first_17 : decode cX10_first 17 = .ok (.iload_n 2, 1) := by decide +kernel
theorem dX10_first_18 : decode cX10_first 18 = .ok (.ireturn, 1) := by decide +kernel
theorem dX10_puts_0 : decode cX10_puts 0 = .ok (.iload_n 1, 1) := by decide +kernel
theorem dX10_puts_1 : decode cX10_puts 1 = .ok (.iconst 1, 1) := by decide +kernel
theorem dX10_puts_2 : decode cX10_puts 2 = .ok (.iadd, 1) := by decide +kernel
theorem dX10_puts_3 : decode cX10_puts 3 = .ok (.istore 4, 2) := by decide +kernel
theorem dX10_puts_5 : decode cX10_puts 5 = .ok (.aload_n 0, 1) := by decide +kernel
theorem dX10_puts_6 : decode cX10_puts 6 = .ok (.getfield 44, 3) := by decide +kernel
theorem dX10_puts_9 : decode cX10_puts 9 = .ok (.bipush 10, 2) := by decide +kernel
theorem dX10_puts_11 : decode cX10_puts 11 = .ok (.iload_n 1, 1) := by decide +kernel
theorem dX10_puts_12 : decode cX10_puts 12 = .ok (.imul, 1) := by decide +kernel
theorem dX10_puts_13 : decode cX10_puts 13 = .ok (.iload_n 2, 1) := by decide +kernel
theorem dX10_puts_14 : decode cX10_puts 14 = .ok (.iadd, 1) := by decide +kernel
theorem dX10_puts_15 : decode cX10_puts 15 = .ok (.iaload, 1) := by decide +kernel
theorem dX10_puts_16 : decode cX10_puts 16 = .ok (.istore 5, 2) := by decide +kernel
theorem dX10_puts_18 : decode cX10_puts 18 = .ok (.aload_n 0, 1) := by decide +kernel
theorem dX10_puts_19 : decode cX10_puts 19 = .ok (.getfield 47, 3) := by decide +kernel
theorem dX10_puts_22 : decode cX10_puts 22 = .ok (.bipush 10, 2) := by decide +kernel
theorem dX10_puts_24 : decode cX10_puts 24 = .ok (.iload_n 1, 1) := by decide +kernel
theorem dX10_puts_25 : decode cX10_puts 25 = .ok (.imul, 1) := by decide +kernel
theorem dX10_puts_26 : decode cX10_puts 26 = .ok (.iload_n 2, 1) := by decide +kernel
theorem dX10_puts_27 : decode cX10_puts 27 = .ok (.iadd, 1) := by decide +kernel
theorem dX10_puts_28 : decode cX10_puts 28 = .ok (.iaload, 1) := by decide +kernel
theorem dX10_puts_29 : decode cX10_puts 29 = .ok (.istore 6, 2) := by decide +kernel
theorem dX10_puts_31 : decode cX10_puts 31 = .ok (.iload 5, 2) := by decide +kernel
theorem dX10_puts_33 : decode cX10_puts 33 = .ok (.iload 6, 2) := by decide +kernel
theorem dX10_puts_35 : decode cX10_puts 35 = .ok (.if_icmp .ge 8, 3) := by decide +kernel
theorem dX10_puts_38 : decode cX10_puts 38 = .ok (.iload 5, 2) := by decide +kernel
theorem dX10_puts_40 : decode cX10_puts 40 = .ok (.goto 5, 3) := by decide +kernel
theorem dX10_puts_43 : decode cX10_puts 43 = .ok (.iload 6, 2) := by decide +kernel
theorem dX10_puts_45 : decode cX10_puts 45 = .ok (.istore 7, 2) := by decide +kernel
theorem dX10_puts_47 : decode cX10_puts 47 = .ok (.iload 5, 2) := by decide +kernel
theorem dX10_puts_49 : decode cX10_puts 49 = .ok (.iload 6, 2) := by decide +kernel
theorem dX10_puts_51 : decode cX10_puts 51 = .ok (.if_icmp .ge 8, 3) := by decide +kernel
theorem dX10_puts_54 : decode cX10_puts 54 = .ok (.iload 6, 2) := by decide +kernel
theorem dX10_puts_56 : decode cX10_puts 56 = .ok (.goto 5, 3) := by decide +kernel
theorem dX10_puts_59 : decode cX10_puts 59 = .ok (.iload 5, 2) := by decide +kernel
theorem dX10_puts_61 : decode cX10_puts 61 = .ok (.istore 8, 2) := by decide +kernel
theorem dX10_puts_63 : decode cX10_puts 63 = .ok (.aload_n 0, 1) := by decide +kernel
theorem dX10_puts_64 : decode cX10_puts 64 = .ok (.getfield 53, 3) := by decide +kernel
theorem dX10_puts_67 : decode cX10_puts 67 = .ok (.iload 4, 2) := by decide +kernel
theorem dX10_puts_69 : decode cX10_puts 69 = .ok (.aload_n 0, 1) := by decide +kernel
theorem dX10_puts_70 : decode cX10_puts 70 = .ok (.getfield 53, 3) := by decide +kernel
theorem dX10_puts_73 : decode cX10_puts 73 = .ok (.iload_n 1, 1) := by decide +kernel
theorem dX10_puts_74 : decode cX10_puts 74 = .ok (.iaload, 1) := by decide +kernel
theorem dX10_puts_75 : decode cX10_puts 75 = .ok (.iconst 1, 1) := by decide +kernel
theorem dX10_puts_76 : decode cX10_puts 76 = .ok (.iload_n 2, 1) := by decide +kernel
theorem dX10_puts_77 : decode cX10_puts 77 = .ok (.ishl, 1) := by decide +kernel
theorem dX10_puts_78 : decode cX10_puts 78 = .ok (.iconst (-1), 1) := by decide +kernel
theorem dX10_puts_79 : decode cX10_puts 79 = .ok (.ixor, 1) := by decide +kernel
theorem dX10_puts_80 : decode cX10_puts 80 = .ok (.iand, 1) := by decide +kernel
theorem dX10_puts_81 : decode cX10_puts 81 = .ok (.iastore, 1) := by decide +kernel
theorem dX10_puts_82 : decode cX10_puts 82 = .ok (.aload_n 0, 1) := by decide +kernel
theorem dX10_puts_83 : decode cX10_puts 83 = .ok (.getfield 56, 3) := by decide +kernel
theorem dX10_puts_86 : decode cX10_puts 86 = .ok (.iload 4, 2) := by decide +kernel
theorem dX10_puts_88 : decode cX10_puts 88 = .ok (.aload_n 0, 1) := by decide +kernel
theorem dX10_puts_89 : decode cX10_puts 89 = .ok (.getfield 56, 3) := by decide +kernel
theorem dX10_puts_92 : decode cX10_puts 92 = .ok (.iload_n 1, 1) := by decide +kernel
theorem dX10_puts_93 : decode cX10_puts 93 = .ok (.iaload, 1) := by decide +kernel
theorem dX10_puts_94 : decode cX10_puts 94 = .ok (.iastore, 1) := by decide +kernel
theorem dX10_puts_95 : decode cX10_puts 95 = .ok (.aload_n 0, 1) := by decide +kernel
theorem dX10_puts_96 : decode cX10_puts 96 = .ok (.getfield 59, 3) := by decide +kernel
theorem dX10_puts_99 : decode cX10_puts 99 = .ok (.iload 4, 2) := by decide +kernel
theorem dX10_puts_101 : decode cX10_puts 101 = .ok (.iconst 0, 1) := by decide +kernel
theorem dX10_puts_102 : decode cX10_puts 102 = .ok (.iastore, 1) := by decide +kernel
theorem dX10_puts_103 : decode cX10_puts 103 = .ok (.iconst 0, 1) := by decide +kernel
theorem dX10_puts_104 : decode cX10_puts 104 = .ok (.istore 9, 2) := by decide +kernel
theorem dX10_puts_106 : decode cX10_puts 106 = .ok (.iload 9, 2) := by decide +kernel
theorem dX10_puts_108 : decode cX10_puts 108 = .ok (.aload_n 0, 1) := by decide +kernel
theorem dX10_puts_109 : decode cX10_puts 109 = .ok (.getfield 103, 3) := by decide +kernel
theorem dX10_puts_112 : decode cX10_puts 112 = .ok (.if_icmp .ge 124, 3) := by decide +kernel
theorem dX10_puts_115 : decode cX10_puts 115 = .ok (.aload_n 0, 1) := by decide +kernel
theorem dX10_puts_116 : decode cX10_puts 116 = .ok (.getfield 44, 3) := by decide +kernel
theorem dX10_puts_119 : decode cX10_puts 119 = .ok (.bipush 10, 2) := by decide +kernel
theorem dX10_puts_121 : decode cX10_puts 121 = .ok (.iload_n 1, 1) := by decide +kernel
theorem dX10_puts_122 : decode cX10_puts 122 = .ok (.imul, 1) := by decide +kernel
theorem dX10_puts_123 : decode cX10_puts 123 = .ok (.iload 9, 2) := by decide +kernel
theorem dX10_puts_125 : decode cX10_puts 125 = .ok (.iadd, 1) := by decide +kernel
theorem dX10_puts_126 : decode cX10_puts 126 = .ok (.iaload, 1) := by decide +kernel
theorem dX10_puts_127 : decode cX10_puts 127 = .ok (.istore 10, 2) := by decide +kernel
theorem dX10_puts_129 : decode cX10_puts 129 = .ok (.aload_n 0, 1) := by decide +kernel
theorem dX10_puts_130 : decode cX10_puts 130 = .ok (.getfield 47, 3) := by decide +kernel
theorem dX10_puts_133 : decode cX10_puts 133 = .ok (.bipush 10, 2) := by decide +kernel
theorem dX10_puts_135 : decode cX10_puts 135 = .ok (.iload_n 1, 1) := by decide +kernel
theorem dX10_puts_136 : decode cX10_puts 136 = .ok (.imul, 1) := by decide +kernel
theorem dX10_puts_137 : decode cX10_puts 137 = .ok (.iload 9, 2) := by decide +kernel
theorem dX10_puts_139 : decode cX10_puts 139 = .ok (.iadd, 1) := by decide +kernel
theorem dX10_puts_140 : decode cX10_puts 140 = .ok (.iaload, 1) := by decide +kernel
theorem dX10_puts_141 : decode cX10_puts 141 = .ok (.istore 11, 2) := by decide +kernel
theorem dX10_puts_143 : decode cX10_puts 143 = .ok (.aload_n 0, 1) := by decide +kernel
theorem dX10_puts_144 : decode cX10_puts 144 = .ok (.getfield 44, 3) := by decide +kernel
theorem dX10_puts_147 : decode cX10_puts 147 = .ok (.bipush 10, 2) := by decide +kernel
theorem dX10_puts_149 : decode cX10_puts 149 = .ok (.iload 4, 2) := by decide +kernel
theorem dX10_puts_151 : decode cX10_puts 151 = .ok (.imul, 1) := by decide +kernel
theorem dX10_puts_152 : decode cX10_puts 152 = .ok (.iload 9, 2) := by decide +kernel
theorem dX10_puts_154 : decode cX10_puts 154 = .ok (.iadd, 1) := by decide +kernel
theorem dX10_puts_155 : decode cX10_puts 155 = .ok (.iload_n 3, 1) := by decide +kernel
theorem dX10_puts_156 : decode cX10_puts 156 = .ok (.ifCond .eq 15, 3) := by decide +kernel
theorem dX10_puts_159 : decode cX10_puts 159 = .ok (.iload 10, 2) := by decide +kernel
theorem dX10_puts_161 : decode cX10_puts 161 = .ok (.iload 8, 2) := by decide +kernel
theorem dX10_puts_163 : decode cX10_puts 163 = .ok (.if_icmp .ne 8, 3) := by decide +kernel
theorem dX10_puts_166 : decode cX10_puts 166 = .ok (.iload 7, 2) := by decide +kernel
theorem dX10_puts_168 : decode cX10_puts 168 = .ok (.goto 5, 3) := by decide +kernel
theorem dX10_puts_171 : decode cX10_puts 171 = .ok (.iload 10, 2) := by decide +kernel
theorem dX10_puts_173 : decode cX10_puts 173 = .ok (.iastore, 1) := by decide +kernel
theorem dX10_puts_174 : decode cX10_puts 174 = .ok (.aload_n 0, 1) := by decide +kernel
theorem dX10_puts_175 : decode cX10_puts 175 = .ok (.getfield 47, 3) := by decide +kernel
theorem dX10_puts_178 : decode cX10_puts 178 = .ok (.bipush 10, 2) := by decide +kernel
theorem dX10_puts_180 : decode cX10_puts 180 = .ok (.iload 4, 2) := by decide +kernel
theorem dX10_puts_182 : decode cX10_puts 182 = .ok (.imul, 1) := by decide +kernel
theorem dX10_puts_183 : decode cX10_puts 183 = .ok (.iload 9, 2) := by decide +kernel
theorem dX10_puts_185 : decode cX10_puts 185 = .ok (.iadd, 1) := by decide +kernel
theorem dX10_puts_186 : decode cX10_puts 186 = .ok (.iload_n 3, 1) := by decide +kernel
theorem dX10_puts_187 : decode cX10_puts 187 = .ok (.ifCond .eq 15, 3) := by decide +kernel
theorem dX10_puts_190 : decode cX10_puts 190 = .ok (.iload 11, 2) := by decide +kernel
theorem dX10_puts_192 : decode cX10_puts 192 = .ok (.iload 8, 2) := by decide +kernel
theorem dX10_puts_194 : decode cX10_puts 194 = .ok (.if_icmp .ne 8, 3) := by decide +kernel
theorem dX10_puts_197 : decode cX10_puts 197 = .ok (.iload 7, 2) := by decide +kernel
theorem dX10_puts_199 : decode cX10_puts 199 = .ok (.goto 5, 3) := by decide +kernel
theorem dX10_puts_202 : decode cX10_puts 202 = .ok (.iload 11, 2) := by decide +kernel
theorem dX10_puts_204 : decode cX10_puts 204 = .ok (.iastore, 1) := by decide +kernel
theorem dX10_puts_205 : decode cX10_puts 205 = .ok (.aload_n 0, 1) := by decide +kernel
theorem dX10_puts_206 : decode cX10_puts 206 = .ok (.getfield 50, 3) := by decide +kernel
theorem dX10_puts_209 : decode cX10_puts 209 = .ok (.bipush 10, 2) := by decide +kernel
theorem dX10_puts_211 : decode cX10_puts 211 = .ok (.iload 4, 2) := by decide +kernel
theorem dX10_puts_213 : decode cX10_puts 213 = .ok (.imul, 1) := by decide +kernel
theorem dX10_puts_214 : decode cX10_puts 214 = .ok (.iload 9, 2) := by decide +kernel
theorem dX10_puts_216 : decode cX10_puts 216 = .ok (.iadd, 1) := by decide +kernel
theorem dX10_puts_217 : decode cX10_puts 217 = .ok (.aload_n 0, 1) := by decide +kernel
theorem dX10_puts_218 : decode cX10_puts 218 = .ok (.getfield 50, 3) := by decide +kernel
theorem dX10_puts_221 : decode cX10_puts 221 = .ok (.bipush 10, 2) := by decide +kernel
theorem dX10_puts_223 : decode cX10_puts 223 = .ok (.iload_n 1, 1) := by decide +kernel
theorem dX10_puts_224 : decode cX10_puts 224 = .ok (.imul, 1) := by decide +kernel
theorem dX10_puts_225 : decode cX10_puts 225 = .ok (.iload 9, 2) := by decide +kernel
theorem dX10_puts_227 : decode cX10_puts 227 = .ok (.iadd, 1) := by decide +kernel
theorem dX10_puts_228 : decode cX10_puts 228 = .ok (.iaload, 1) := by decide +kernel
theorem dX10_puts_229 : decode cX10_puts 229 = .ok (.iastore, 1) := by decide +kernel
theorem dX10_puts_230 : decode cX10_puts 230 = .ok (.iinc 9 1, 3) := by decide +kernel
theorem dX10_puts_233 : decode cX10_puts 233 = .ok (.goto (-127), 3) := by decide +kernel
theorem dX10_puts_236 : decode cX10_puts 236 = .ok (.iload_n 3, 1) := by decide +kernel
theorem dX10_puts_237 : decode cX10_puts 237 = .ok (.ifCond .eq 43, 3) := by decide +kernel
theorem dX10_puts_240 : decode cX10_puts 240 = .ok (.aload_n 0, 1) := by decide +kernel
theorem dX10_puts_241 : decode cX10_puts 241 = .ok (.getfield 56, 3) := by decide +kernel
theorem dX10_puts_244 : decode cX10_puts 244 = .ok (.iload_n 1, 1) := by decide +kernel
theorem dX10_puts_245 : decode cX10_puts 245 = .ok (.iaload, 1) := by decide +kernel
theorem dX10_puts_246 : decode cX10_puts 246 = .ok (.iload 8, 2) := by decide +kernel
theorem dX10_puts_248 : decode cX10_puts 248 = .ok (.ishr, 1) := by decide +kernel
theorem dX10_puts_249 : decode cX10_puts 249 = .ok (.iconst 1, 1) := by decide +kernel
theorem dX10_puts_250 : decode cX10_puts 250 = .ok (.iand, 1) := by decide +kernel
theorem dX10_puts_251 : decode cX10_puts 251 = .ok (.iconst 1, 1) := by decide +kernel
theorem dX10_puts_252 : decode cX10_puts 252 = .ok (.if_icmp .ne 28, 3) := by decide +kernel
theorem dX10_puts_255 : decode cX10_puts 255 = .ok (.aload_n 0, 1) := by decide +kernel
theorem dX10_puts_256 : decode cX10_puts 256 = .ok (.getfield 56, 3) := by decide +kernel
theorem dX10_puts_259 : decode cX10_puts 259 = .ok (.iload 4, 2) := by decide +kernel
theorem dX10_puts_261 : decode cX10_puts 261 = .ok (.aload_n 0, 1) := by decide +kernel
theorem dX10_puts_262 : decode cX10_puts 262 = .ok (.getfield 56, 3) := by decide +kernel
theorem dX10_puts_265 : decode cX10_puts 265 = .ok (.iload_n 1, 1) := by decide +kernel
theorem dX10_puts_266 : decode cX10_puts 266 = .ok (.iaload, 1) := by decide +kernel
theorem dX10_puts_267 : decode cX10_puts 267 = .ok (.iconst 1, 1) := by decide +kernel
theorem dX10_puts_268 : decode cX10_puts 268 = .ok (.iload 8, 2) := by decide +kernel
theorem dX10_puts_270 : decode cX10_puts 270 = .ok (.ishl, 1) := by decide +kernel
theorem dX10_puts_271 : decode cX10_puts 271 = .ok (.iconst (-1), 1) := by decide +kernel
theorem dX10_puts_272 : decode cX10_puts 272 = .ok (.ixor, 1) := by decide +kernel
theorem dX10_puts_273 : decode cX10_puts 273 = .ok (.iand, 1) := by decide +kernel
theorem dX10_puts_274 : decode cX10_puts 274 = .ok (.iconst 1, 1) := by decide +kernel
theorem dX10_puts_275 : decode cX10_puts 275 = .ok (.iload 7, 2) := by decide +kernel
theorem dX10_puts_277 : decode cX10_puts 277 = .ok (.ishl, 1) := by decide +kernel
theorem dX10_puts_278 : decode cX10_puts 278 = .ok (.ior, 1) := by decide +kernel
theorem dX10_puts_279 : decode cX10_puts 279 = .ok (.iastore, 1) := by decide +kernel
theorem dX10_puts_280 : decode cX10_puts 280 = .ok (.return_, 1) := by decide +kernel
theorem dX10_asks_0 : decode cX10_asks 0 = .ok (.aload_n 0, 1) := by decide +kernel
theorem dX10_asks_1 : decode cX10_asks 1 = .ok (.invokevirtual 146, 3) := by decide +kernel
theorem dX10_asks_4 : decode cX10_asks 4 = .ok (.aload_n 0, 1) := by decide +kernel
theorem dX10_asks_5 : decode cX10_asks 5 = .ok (.getfield 53, 3) := by decide +kernel
theorem dX10_asks_8 : decode cX10_asks 8 = .ok (.iconst 0, 1) := by decide +kernel
theorem dX10_asks_9 : decode cX10_asks 9 = .ok (.iconst 1, 1) := by decide +kernel
theorem dX10_asks_10 : decode cX10_asks 10 = .ok (.aload_n 0, 1) := by decide +kernel
theorem dX10_asks_11 : decode cX10_asks 11 = .ok (.getfield 103, 3) := by decide +kernel
theorem dX10_asks_14 : decode cX10_asks 14 = .ok (.ishl, 1) := by decide +kernel
theorem dX10_asks_15 : decode cX10_asks 15 = .ok (.iconst 1, 1) := by decide +kernel
theorem dX10_asks_16 : decode cX10_asks 16 = .ok (.isub, 1) := by decide +kernel
theorem dX10_asks_17 : decode cX10_asks 17 = .ok (.iastore, 1) := by decide +kernel
theorem dX10_asks_18 : decode cX10_asks 18 = .ok (.aload_n 0, 1) := by decide +kernel
theorem dX10_asks_19 : decode cX10_asks 19 = .ok (.getfield 56, 3) := by decide +kernel
theorem dX10_asks_22 : decode cX10_asks 22 = .ok (.iconst 0, 1) := by decide +kernel
theorem dX10_asks_23 : decode cX10_asks 23 = .ok (.aload_n 0, 1) := by decide +kernel
theorem dX10_asks_24 : decode cX10_asks 24 = .ok (.invokevirtual 149, 3) := by decide +kernel
theorem dX10_asks_27 : decode cX10_asks 27 = .ok (.iastore, 1) := by decide +kernel
theorem dX10_asks_28 : decode cX10_asks 28 = .ok (.aload_n 0, 1) := by decide +kernel
theorem dX10_asks_29 : decode cX10_asks 29 = .ok (.getfield 59, 3) := by decide +kernel
theorem dX10_asks_32 : decode cX10_asks 32 = .ok (.iconst 0, 1) := by decide +kernel
theorem dX10_asks_33 : decode cX10_asks 33 = .ok (.iconst 0, 1) := by decide +kernel
theorem dX10_asks_34 : decode cX10_asks 34 = .ok (.iastore, 1) := by decide +kernel
theorem dX10_asks_35 : decode cX10_asks 35 = .ok (.iconst 0, 1) := by decide +kernel
theorem dX10_asks_36 : decode cX10_asks 36 = .ok (.istore_n 1, 1) := by decide +kernel
theorem dX10_asks_37 : decode cX10_asks 37 = .ok (.iload_n 1, 1) := by decide +kernel
theorem dX10_asks_38 : decode cX10_asks 38 = .ok (.aload_n 0, 1) := by decide +kernel
theorem dX10_asks_39 : decode cX10_asks 39 = .ok (.getfield 103, 3) := by decide +kernel
theorem dX10_asks_42 : decode cX10_asks 42 = .ok (.if_icmp .ge 72, 3) := by decide +kernel
theorem dX10_asks_45 : decode cX10_asks 45 = .ok (.aload_n 0, 1) := by decide +kernel
theorem dX10_asks_46 : decode cX10_asks 46 = .ok (.getfield 44, 3) := by decide +kernel
theorem dX10_asks_49 : decode cX10_asks 49 = .ok (.iload_n 1, 1) := by decide +kernel
theorem dX10_asks_50 : decode cX10_asks 50 = .ok (.aload_n 0, 1) := by decide +kernel
theorem dX10_asks_51 : decode cX10_asks 51 = .ok (.getfield 20, 3) := by decide +kernel
theorem dX10_asks_54 : decode cX10_asks 54 = .ok (.iload_n 1, 1) := by decide +kernel
theorem dX10_asks_55 : decode cX10_asks 55 = .ok (.iaload, 1) := by decide +kernel
theorem dX10_asks_56 : decode cX10_asks 56 = .ok (.iastore, 1) := by decide +kernel
theorem dX10_asks_57 : decode cX10_asks 57 = .ok (.aload_n 0, 1) := by decide +kernel
theorem dX10_asks_58 : decode cX10_asks 58 = .ok (.getfield 47, 3) := by decide +kernel
theorem dX10_asks_61 : decode cX10_asks 61 = .ok (.iload_n 1, 1) := by decide +kernel
theorem dX10_asks_62 : decode cX10_asks 62 = .ok (.aload_n 0, 1) := by decide +kernel
theorem dX10_asks_63 : decode cX10_asks 63 = .ok (.getfield 23, 3) := by decide +kernel
theorem dX10_asks_66 : decode cX10_asks 66 = .ok (.iload_n 1, 1) := by decide +kernel
theorem dX10_asks_67 : decode cX10_asks 67 = .ok (.iaload, 1) := by decide +kernel
theorem dX10_asks_68 : decode cX10_asks 68 = .ok (.iastore, 1) := by decide +kernel
theorem dX10_asks_69 : decode cX10_asks 69 = .ok (.aload_n 0, 1) := by decide +kernel
theorem dX10_asks_70 : decode cX10_asks 70 = .ok (.getfield 50, 3) := by decide +kernel
theorem dX10_asks_73 : decode cX10_asks 73 = .ok (.iload_n 1, 1) := by decide +kernel
theorem dX10_asks_74 : decode cX10_asks 74 = .ok (.aload_n 0, 1) := by decide +kernel
theorem dX10_asks_75 : decode cX10_asks 75 = .ok (.getfield 35, 3) := by decide +kernel
theorem dX10_asks_78 : decode cX10_asks 78 = .ok (.iload_n 1, 1) := by decide +kernel
theorem dX10_asks_79 : decode cX10_asks 79 = .ok (.iaload, 1) := by decide +kernel
theorem dX10_asks_80 : decode cX10_asks 80 = .ok (.ifCond .ne 7, 3) := by decide +kernel
theorem dX10_asks_83 : decode cX10_asks 83 = .ok (.iconst 0, 1) := by decide +kernel
theorem dX10_asks_84 : decode cX10_asks 84 = .ok (.goto 23, 3) := by decide +kernel
theorem dX10_asks_87 : decode cX10_asks 87 = .ok (.aload_n 0, 1) := by decide +kernel
theorem dX10_asks_88 : decode cX10_asks 88 = .ok (.getfield 35, 3) := by decide +kernel
theorem dX10_asks_91 : decode cX10_asks 91 = .ok (.iload_n 1, 1) := by decide +kernel
theorem dX10_asks_92 : decode cX10_asks 92 = .ok (.iaload, 1) := by decide +kernel
theorem dX10_asks_93 : decode cX10_asks 93 = .ok (.aload_n 0, 1) := by decide +kernel
theorem dX10_asks_94 : decode cX10_asks 94 = .ok (.getfield 38, 3) := by decide +kernel
theorem dX10_asks_97 : decode cX10_asks 97 = .ok (.iload_n 1, 1) := by decide +kernel
theorem dX10_asks_98 : decode cX10_asks 98 = .ok (.iaload, 1) := by decide +kernel
theorem dX10_asks_99 : decode cX10_asks 99 = .ok (.if_icmp .ne 7, 3) := by decide +kernel
theorem dX10_asks_102 : decode cX10_asks 102 = .ok (.iconst 1, 1) := by decide +kernel
theorem dX10_asks_103 : decode cX10_asks 103 = .ok (.goto 4, 3) := by decide +kernel
theorem dX10_asks_106 : decode cX10_asks 106 = .ok (.iconst 2, 1) := by decide +kernel
theorem dX10_asks_107 : decode cX10_asks 107 = .ok (.iastore, 1) := by decide +kernel
theorem dX10_asks_108 : decode cX10_asks 108 = .ok (.iinc 1 1, 3) := by decide +kernel
theorem dX10_asks_111 : decode cX10_asks 111 = .ok (.goto (-74), 3) := by decide +kernel
theorem dX10_asks_114 : decode cX10_asks 114 = .ok (.aload_n 0, 1) := by decide +kernel
theorem dX10_asks_115 : decode cX10_asks 115 = .ok (.iconst 0, 1) := by decide +kernel
theorem dX10_asks_116 : decode cX10_asks 116 = .ok (.putfield 279, 3) := by decide +kernel
theorem dX10_asks_119 : decode cX10_asks 119 = .ok (.aload_n 0, 1) := by decide +kernel
theorem dX10_asks_120 : decode cX10_asks 120 = .ok (.iconst 0, 1) := by decide +kernel
theorem dX10_asks_121 : decode cX10_asks 121 = .ok (.putfield 282, 3) := by decide +kernel
theorem dX10_asks_124 : decode cX10_asks 124 = .ok (.aload_n 0, 1) := by decide +kernel
theorem dX10_asks_125 : decode cX10_asks 125 = .ok (.iconst 0, 1) := by decide +kernel
theorem dX10_asks_126 : decode cX10_asks 126 = .ok (.putfield 240, 3) := by decide +kernel
theorem dX10_asks_129 : decode cX10_asks 129 = .ok (.iconst 0, 1) := by decide +kernel
theorem dX10_asks_130 : decode cX10_asks 130 = .ok (.istore_n 1, 1) := by decide +kernel
theorem dX10_asks_131 : decode cX10_asks 131 = .ok (.iload_n 1, 1) := by decide +kernel
theorem dX10_asks_132 : decode cX10_asks 132 = .ok (.ifCond .lt 177, 3) := by decide +kernel
theorem dX10_asks_135 : decode cX10_asks 135 = .ok (.aload_n 0, 1) := by decide +kernel
theorem dX10_asks_136 : decode cX10_asks 136 = .ok (.getfield 59, 3) := by decide +kernel
theorem dX10_asks_139 : decode cX10_asks 139 = .ok (.iload_n 1, 1) := by decide +kernel
theorem dX10_asks_140 : decode cX10_asks 140 = .ok (.iaload, 1) := by decide +kernel
theorem dX10_asks_141 : decode cX10_asks 141 = .ok (.ifCond .ne 61, 3) := by decide +kernel
theorem dX10_asks_144 : decode cX10_asks 144 = .ok (.aload_n 0, 1) := by decide +kernel
theorem dX10_asks_145 : decode cX10_asks 145 = .ok (.dup, 1) := by decide +kernel
theorem dX10_asks_146 : decode cX10_asks 146 = .ok (.getfield 279, 3) := by decide +kernel
theorem dX10_asks_149 : decode cX10_asks 149 = .ok (.iconst 1, 1) := by decide +kernel
theorem dX10_asks_150 : decode cX10_asks 150 = .ok (.iadd, 1) := by decide +kernel
theorem dX10_asks_151 : decode cX10_asks 151 = .ok (.putfield 279, 3) := by decide +kernel
theorem dX10_asks_154 : decode cX10_asks 154 = .ok (.aload_n 0, 1) := by decide +kernel
theorem dX10_asks_155 : decode cX10_asks 155 = .ok (.iload_n 1, 1) := by decide +kernel
theorem dX10_asks_156 : decode cX10_asks 156 = .ok (.iconst 1, 1) := by decide +kernel
theorem dX10_asks_157 : decode cX10_asks 157 = .ok (.iadd, 1) := by decide +kernel
theorem dX10_asks_158 : decode cX10_asks 158 = .ok (.aload_n 0, 1) := by decide +kernel
theorem dX10_asks_159 : decode cX10_asks 159 = .ok (.getfield 282, 3) := by decide +kernel
theorem dX10_asks_162 : decode cX10_asks 162 = .ok (.if_icmp .le 9, 3) := by decide +kernel
theorem dX10_asks_165 : decode cX10_asks 165 = .ok (.iload_n 1, 1) := by decide +kernel
theorem dX10_asks_166 : decode cX10_asks 166 = .ok (.iconst 1, 1) := by decide +kernel
theorem dX10_asks_167 : decode cX10_asks 167 = .ok (.iadd, 1) := by decide +kernel
theorem dX10_asks_168 : decode cX10_asks 168 = .ok (.goto 7, 3) := by decide +kernel
theorem dX10_asks_171 : decode cX10_asks 171 = .ok (.aload_n 0, 1) := by decide +kernel
theorem dX10_asks_172 : decode cX10_asks 172 = .ok (.getfield 282, 3) := by decide +kernel
theorem dX10_asks_175 : decode cX10_asks 175 = .ok (.putfield 282, 3) := by decide +kernel
theorem dX10_asks_178 : decode cX10_asks 178 = .ok (.aload_n 0, 1) := by decide +kernel
theorem dX10_asks_179 : decode cX10_asks 179 = .ok (.iload_n 1, 1) := by decide +kernel
theorem dX10_asks_180 : decode cX10_asks 180 = .ok (.invokevirtual 285, 3) := by decide +kernel
theorem dX10_asks_183 : decode cX10_asks 183 = .ok (.aload_n 0, 1) := by decide +kernel
theorem dX10_asks_184 : decode cX10_asks 184 = .ok (.getfield 59, 3) := by decide +kernel
theorem dX10_asks_187 : decode cX10_asks 187 = .ok (.iload_n 1, 1) := by decide +kernel
theorem dX10_asks_188 : decode cX10_asks 188 = .ok (.aload_n 0, 1) := by decide +kernel
theorem dX10_asks_189 : decode cX10_asks 189 = .ok (.iload_n 1, 1) := by decide +kernel
theorem dX10_asks_190 : decode cX10_asks 190 = .ok (.invokevirtual 289, 3) := by decide +kernel
theorem dX10_asks_193 : decode cX10_asks 193 = .ok (.ifCond .eq 7, 3) := by decide +kernel
theorem dX10_asks_196 : decode cX10_asks 196 = .ok (.iconst 3, 1) := by decide +kernel
theorem dX10_asks_197 : decode cX10_asks 197 = .ok (.goto 4, 3) := by decide +kernel
theorem dX10_asks_200 : decode cX10_asks 200 = .ok (.iconst 1, 1) := by decide +kernel
theorem dX10_asks_201 : decode cX10_asks 201 = .ok (.iastore, 1) := by decide +kernel
theorem dX10_asks_202 : decode cX10_asks 202 = .ok (.aload_n 0, 1) := by decide +kernel
theorem dX10_asks_203 : decode cX10_asks 203 = .ok (.getfield 59, 3) := by decide +kernel
theorem dX10_asks_206 : decode cX10_asks 206 = .ok (.iload_n 1, 1) := by decide +kernel
theorem dX10_asks_207 : decode cX10_asks 207 = .ok (.iaload, 1) := by decide +kernel
theorem dX10_asks_208 : decode cX10_asks 208 = .ok (.iconst 3, 1) := by decide +kernel
theorem dX10_asks_209 : decode cX10_asks 209 = .ok (.if_icmp .ge 11, 3) := by decide +kernel
theorem dX10_asks_212 : decode cX10_asks 212 = .ok (.aload_n 0, 1) := by decide +kernel
theorem dX10_asks_213 : decode cX10_asks 213 = .ok (.iload_n 1, 1) := by decide +kernel
theorem dX10_asks_214 : decode cX10_asks 214 = .ok (.invokevirtual 292, 3) := by decide +kernel
theorem dX10_asks_217 : decode cX10_asks 217 = .ok (.goto 4, 3) := by decide +kernel
theorem dX10_asks_220 : decode cX10_asks 220 = .ok (.iconst 0, 1) := by decide +kernel
theorem dX10_asks_221 : decode cX10_asks 221 = .ok (.istore_n 2, 1) := by decide +kernel
theorem dX10_asks_222 : decode cX10_asks 222 = .ok (.aload_n 0, 1) := by decide +kernel
theorem dX10_asks_223 : decode cX10_asks 223 = .ok (.getfield 50, 3) := by decide +kernel
theorem dX10_asks_226 : decode cX10_asks 226 = .ok (.bipush 10, 2) := by decide +kernel
theorem dX10_asks_228 : decode cX10_asks 228 = .ok (.iload_n 1, 1) := by decide +kernel
theorem dX10_asks_229 : decode cX10_asks 229 = .ok (.imul, 1) := by decide +kernel
theorem dX10_asks_230 : decode cX10_asks 230 = .ok (.iload_n 2, 1) := by decide +kernel
theorem dX10_asks_231 : decode cX10_asks 231 = .ok (.iadd, 1) := by decide +kernel
theorem dX10_asks_232 : decode cX10_asks 232 = .ok (.iaload, 1) := by decide +kernel
theorem dX10_asks_233 : decode cX10_asks 233 = .ok (.istore_n 3, 1) := by decide +kernel
theorem dX10_asks_234 : decode cX10_asks 234 = .ok (.aload_n 0, 1) := by decide +kernel
theorem dX10_asks_235 : decode cX10_asks 235 = .ok (.getfield 59, 3) := by decide +kernel
theorem dX10_asks_238 : decode cX10_asks 238 = .ok (.iload_n 1, 1) := by decide +kernel
theorem dX10_asks_239 : decode cX10_asks 239 = .ok (.iaload, 1) := by decide +kernel
theorem dX10_asks_240 : decode cX10_asks 240 = .ok (.iconst 1, 1) := by decide +kernel
theorem dX10_asks_241 : decode cX10_asks 241 = .ok (.if_icmp .ne 27, 3) := by decide +kernel
theorem dX10_asks_244 : decode cX10_asks 244 = .ok (.iload_n 3, 1) := by decide +kernel
theorem dX10_asks_245 : decode cX10_asks 245 = .ok (.ifCond .eq 23, 3) := by decide +kernel
theorem dX10_asks_248 : decode cX10_asks 248 = .ok (.aload_n 0, 1) := by decide +kernel
theorem dX10_asks_249 : decode cX10_asks 249 = .ok (.getfield 59, 3) := by decide +kernel
theorem dX10_asks_252 : decode cX10_asks 252 = .ok (.iload_n 1, 1) := by decide +kernel
theorem dX10_asks_253 : decode cX10_asks 253 = .ok (.iconst 2, 1) := by decide +kernel
theorem dX10_asks_254 : decode cX10_asks 254 = .ok (.iastore, 1) := by decide +kernel
theorem dX10_asks_255 : decode cX10_asks 255 = .ok (.aload_n 0, 1) := by decide +kernel
theorem dX10_asks_256 : decode cX10_asks 256 = .ok (.iload_n 1, 1) := by decide +kernel
theorem dX10_asks_257 : decode cX10_asks 257 = .ok (.iload_n 2, 1) := by decide +kernel
theorem dX10_asks_258 : decode cX10_asks 258 = .ok (.iconst 1, 1) := by decide +kernel
theorem dX10_asks_259 : decode cX10_asks 259 = .ok (.invokevirtual 295, 3) := by decide +kernel
theorem dX10_asks_262 : decode cX10_asks 262 = .ok (.iinc 1 1, 3) := by decide +kernel
theorem dX10_asks_265 : decode cX10_asks 265 = .ok (.goto 41, 3) := by decide +kernel
theorem dX10_asks_268 : decode cX10_asks 268 = .ok (.aload_n 0, 1) := by decide +kernel
theorem dX10_asks_269 : decode cX10_asks 269 = .ok (.getfield 59, 3) := by decide +kernel
theorem dX10_asks_272 : decode cX10_asks 272 = .ok (.iload_n 1, 1) := by decide +kernel
theorem dX10_asks_273 : decode cX10_asks 273 = .ok (.iaload, 1) := by decide +kernel
theorem dX10_asks_274 : decode cX10_asks 274 = .ok (.iconst 3, 1) := by decide +kernel
theorem dX10_asks_275 : decode cX10_asks 275 = .ok (.if_icmp .ge 28, 3) := by decide +kernel
theorem dX10_asks_278 : decode cX10_asks 278 = .ok (.iload_n 3, 1) := by decide +kernel
theorem dX10_asks_279 : decode cX10_asks 279 = .ok (.iconst 1, 1) := by decide +kernel
theorem dX10_asks_280 : decode cX10_asks 280 = .ok (.if_icmp .eq 23, 3) := by decide +kernel
theorem dX10_asks_283 : decode cX10_asks 283 = .ok (.aload_n 0, 1) := by decide +kernel
theorem dX10_asks_284 : decode cX10_asks 284 = .ok (.getfield 59, 3) := by decide +kernel
theorem dX10_asks_287 : decode cX10_asks 287 = .ok (.iload_n 1, 1) := by decide +kernel
theorem dX10_asks_288 : decode cX10_asks 288 = .ok (.iconst 3, 1) := by decide +kernel
theorem dX10_asks_289 : decode cX10_asks 289 = .ok (.iastore, 1) := by decide +kernel
theorem dX10_asks_290 : decode cX10_asks 290 = .ok (.aload_n 0, 1) := by decide +kernel
theorem dX10_asks_291 : decode cX10_asks 291 = .ok (.iload_n 1, 1) := by decide +kernel
theorem dX10_asks_292 : decode cX10_asks 292 = .ok (.iload_n 2, 1) := by decide +kernel
theorem dX10_asks_293 : decode cX10_asks 293 = .ok (.iconst 0, 1) := by decide +kernel
theorem dX10_asks_294 : decode cX10_asks 294 = .ok (.invokevirtual 295, 3) := by decide +kernel
theorem dX10_asks_297 : decode cX10_asks 297 = .ok (.iinc 1 1, 3) := by decide +kernel
theorem dX10_asks_300 : decode cX10_asks 300 = .ok (.goto 6, 3) := by decide +kernel
theorem dX10_asks_303 : decode cX10_asks 303 = .ok (.iinc 1 (-1), 3) := by decide +kernel
theorem dX10_asks_306 : decode cX10_asks 306 = .ok (.goto (-175), 3) := by decide +kernel
theorem dX10_asks_309 : decode cX10_asks 309 = .ok (.return_, 1) := by decide +kernel
theorem dX10_joinedBy_0 : decode cX10_joinedBy 0 = .ok (.iload_n 1, 1) := by decide +kernel
theorem dX10_joinedBy_1 : decode cX10_joinedBy 1 = .ok (.iconst 2, 1) := by decide +kernel
theorem dX10_joinedBy_2 : decode cX10_joinedBy 2 = .ok (.if_icmp .ge 11, 3) := by decide +kernel
theorem dX10_joinedBy_5 : decode cX10_joinedBy 5 = .ok (.aload_n 0, 1) := by decide +kernel
theorem dX10_joinedBy_6 : decode cX10_joinedBy 6 = .ok (.iload_n 1, 1) := by decide +kernel
theorem dX10_joinedBy_7 : decode cX10_joinedBy 7 = .ok (.invokevirtual 168, 3) := by decide +kernel
theorem dX10_joinedBy_10 : decode cX10_joinedBy 10 = .ok (.goto 34, 3) := by decide +kernel
theorem dX10_joinedBy_13 : decode cX10_joinedBy 13 = .ok (.iload_n 1, 1) := by decide +kernel
theorem dX10_joinedBy_14 : decode cX10_joinedBy 14 = .ok (.iconst 2, 1) := by decide +kernel
theorem dX10_joinedBy_15 : decode cX10_joinedBy 15 = .ok (.if_icmp .ne 11, 3) := by decide +kernel
theorem dX10_joinedBy_18 : decode cX10_joinedBy 18 = .ok (.aload_n 0, 1) := by decide +kernel
theorem dX10_joinedBy_19 : decode cX10_joinedBy 19 = .ok (.getfield 279, 3) := by decide +kernel
theorem dX10_joinedBy_22 : decode cX10_joinedBy 22 = .ok (.i2l, 1) := by decide +kernel
theorem dX10_joinedBy_23 : decode cX10_joinedBy 23 = .ok (.goto 21, 3) := by decide +kernel
theorem dX10_joinedBy_26 : decode cX10_joinedBy 26 = .ok (.iload_n 1, 1) := by decide +kernel
theorem dX10_joinedBy_27 : decode cX10_joinedBy 27 = .ok (.iconst 3, 1) := by decide +kernel
theorem dX10_joinedBy_28 : decode cX10_joinedBy 28 = .ok (.if_icmp .ne 11, 3) := by decide +kernel
theorem dX10_joinedBy_31 : decode cX10_joinedBy 31 = .ok (.aload_n 0, 1) := by decide +kernel
theorem dX10_joinedBy_32 : decode cX10_joinedBy 32 = .ok (.getfield 282, 3) := by decide +kernel
theorem dX10_joinedBy_35 : decode cX10_joinedBy 35 = .ok (.i2l, 1) := by decide +kernel
theorem dX10_joinedBy_36 : decode cX10_joinedBy 36 = .ok (.goto 8, 3) := by decide +kernel
theorem dX10_joinedBy_39 : decode cX10_joinedBy 39 = .ok (.aload_n 0, 1) := by decide +kernel
theorem dX10_joinedBy_40 : decode cX10_joinedBy 40 = .ok (.getfield 240, 3) := by decide +kernel
theorem dX10_joinedBy_43 : decode cX10_joinedBy 43 = .ok (.i2l, 1) := by decide +kernel
theorem dX10_joinedBy_44 : decode cX10_joinedBy 44 = .ok (.lreturn, 1) := by decide +kernel
theorem dX10_joined_0 : decode cX10_joined 0 = .ok (.iload_n 1, 1) := by decide +kernel
theorem dX10_joined_1 : decode cX10_joined 1 = .ok (.i2l, 1) := by decide +kernel
theorem dX10_joined_2 : decode cX10_joined 2 = .ok (.lconst 0, 1) := by decide +kernel
theorem dX10_joined_3 : decode cX10_joined 3 = .ok (.ldc2_w 135, 3) := by decide +kernel
theorem dX10_joined_6 : decode cX10_joined 6 = .ok (.invokestatic 72, 3) := by decide +kernel
theorem dX10_joined_9 : decode cX10_joined 9 = .ok (.ifCond .ne 9, 3) := by decide +kernel
theorem dX10_joined_12 : decode cX10_joined 12 = .ok (.bipush (-2), 2) := by decide +kernel
theorem dX10_joined_14 : decode cX10_joined 14 = .ok (.invokestatic 99, 3) := by decide +kernel
theorem dX10_joined_17 : decode cX10_joined 17 = .ok (.lreturn, 1) := by decide +kernel
theorem dX10_joined_18 : decode cX10_joined 18 = .ok (.aload_n 0, 1) := by decide +kernel
theorem dX10_joined_19 : decode cX10_joined 19 = .ok (.invokevirtual 299, 3) := by decide +kernel
theorem dX10_joined_22 : decode cX10_joined 22 = .ok (.aload_n 0, 1) := by decide +kernel
theorem dX10_joined_23 : decode cX10_joined 23 = .ok (.iload_n 1, 1) := by decide +kernel
theorem dX10_joined_24 : decode cX10_joined 24 = .ok (.invokevirtual 302, 3) := by decide +kernel
theorem dX10_joined_27 : decode cX10_joined 27 = .ok (.lreturn, 1) := by decide +kernel
theorem dX10_type_0 : decode cX10_type 0 = .ok (.iload_n 1, 1) := by decide +kernel
theorem dX10_type_1 : decode cX10_type 1 = .ok (.i2l, 1) := by decide +kernel
theorem dX10_type_2 : decode cX10_type 2 = .ok (.lconst 0, 1) := by decide +kernel
theorem dX10_type_3 : decode cX10_type 3 = .ok (.ldc2_w 305, 3) := by decide +kernel
theorem dX10_type_6 : decode cX10_type 6 = .ok (.invokestatic 72, 3) := by decide +kernel
theorem dX10_type_9 : decode cX10_type 9 = .ok (.ifCond .ne 6, 3) := by decide +kernel
theorem dX10_type_12 : decode cX10_type 12 = .ok (.bipush (-2), 2) := by decide +kernel
theorem dX10_type_14 : decode cX10_type 14 = .ok (.ireturn, 1) := by decide +kernel
theorem dX10_type_15 : decode cX10_type 15 = .ok (.aload_n 0, 1) := by decide +kernel
theorem dX10_type_16 : decode cX10_type 16 = .ok (.getfield 307, 3) := by decide +kernel
theorem dX10_type_19 : decode cX10_type 19 = .ok (.bipush 60, 2) := by decide +kernel
theorem dX10_type_21 : decode cX10_type 21 = .ok (.if_icmp .ne 6, 3) := by decide +kernel
theorem dX10_type_24 : decode cX10_type 24 = .ok (.bipush (-4), 2) := by decide +kernel
theorem dX10_type_26 : decode cX10_type 26 = .ok (.ireturn, 1) := by decide +kernel
theorem dX10_type_27 : decode cX10_type 27 = .ok (.aload_n 0, 1) := by decide +kernel
theorem dX10_type_28 : decode cX10_type 28 = .ok (.getfield 62, 3) := by decide +kernel
theorem dX10_type_31 : decode cX10_type 31 = .ok (.aload_n 0, 1) := by decide +kernel
theorem dX10_type_32 : decode cX10_type 32 = .ok (.getfield 307, 3) := by decide +kernel
theorem dX10_type_35 : decode cX10_type 35 = .ok (.iload_n 1, 1) := by decide +kernel
theorem dX10_type_36 : decode cX10_type 36 = .ok (.iastore, 1) := by decide +kernel
theorem dX10_type_37 : decode cX10_type 37 = .ok (.aload_n 0, 1) := by decide +kernel
theorem dX10_type_38 : decode cX10_type 38 = .ok (.dup, 1) := by decide +kernel
theorem dX10_type_39 : decode cX10_type 39 = .ok (.getfield 307, 3) := by decide +kernel
theorem dX10_type_42 : decode cX10_type 42 = .ok (.iconst 1, 1) := by decide +kernel
theorem dX10_type_43 : decode cX10_type 43 = .ok (.iadd, 1) := by decide +kernel
theorem dX10_type_44 : decode cX10_type 44 = .ok (.putfield 307, 3) := by decide +kernel
theorem dX10_type_47 : decode cX10_type 47 = .ok (.aload_n 0, 1) := by decide +kernel
theorem dX10_type_48 : decode cX10_type 48 = .ok (.getfield 307, 3) := by decide +kernel
theorem dX10_type_51 : decode cX10_type 51 = .ok (.ireturn, 1) := by decide +kernel
theorem dX10_wipe_0 : decode cX10_wipe 0 = .ok (.aload_n 0, 1) := by decide +kernel
theorem dX10_wipe_1 : decode cX10_wipe 1 = .ok (.getfield 307, 3) := by decide +kernel
theorem dX10_wipe_4 : decode cX10_wipe 4 = .ok (.istore_n 1, 1) := by decide +kernel
theorem dX10_wipe_5 : decode cX10_wipe 5 = .ok (.aload_n 0, 1) := by decide +kernel
theorem dX10_wipe_6 : decode cX10_wipe 6 = .ok (.iconst 0, 1) := by decide +kernel
theorem dX10_wipe_7 : decode cX10_wipe 7 = .ok (.putfield 307, 3) := by decide +kernel
theorem dX10_wipe_10 : decode cX10_wipe 10 = .ok (.iload_n 1, 1) := by decide +kernel
theorem dX10_wipe_11 : decode cX10_wipe 11 = .ok (.ireturn, 1) := by decide +kernel
theorem dX10_letter_0 : decode cX10_letter 0 = .ok (.iload_n 1, 1) := by decide +kernel
theorem dX10_letter_1 : decode cX10_letter 1 = .ok (.iload_n 2, 1) := by decide +kernel
theorem dX10_letter_2 : decode cX10_letter 2 = .ok (.if_icmp .ge 12, 3) := by decide +kernel
theorem dX10_letter_5 : decode cX10_letter 5 = .ok (.aload_n 0, 1) := by decide +kernel
theorem dX10_letter_6 : decode cX10_letter 6 = .ok (.getfield 62, 3) := by decide +kernel
theorem dX10_letter_9 : decode cX10_letter 9 = .ok (.iload_n 1, 1) := by decide +kernel
theorem dX10_letter_10 : decode cX10_letter 10 = .ok (.iaload, 1) := by decide +kernel
theorem dX10_letter_11 : decode cX10_letter 11 = .ok (.goto 4, 3) := by decide +kernel
theorem dX10_letter_14 : decode cX10_letter 14 = .ok (.iconst 0, 1) := by decide +kernel
theorem dX10_letter_15 : decode cX10_letter 15 = .ok (.ireturn, 1) := by decide +kernel
theorem dX10_isWord_0 : decode cX10_isWord 0 = .ok (.aload_n 0, 1) := by decide +kernel
theorem dX10_isWord_1 : decode cX10_isWord 1 = .ok (.getfield 62, 3) := by decide +kernel
theorem dX10_isWord_4 : decode cX10_isWord 4 = .ok (.iload_n 1, 1) := by decide +kernel
theorem dX10_isWord_5 : decode cX10_isWord 5 = .ok (.iaload, 1) := by decide +kernel
theorem dX10_isWord_6 : decode cX10_isWord 6 = .ok (.iload_n 3, 1) := by decide +kernel
theorem dX10_isWord_7 : decode cX10_isWord 7 = .ok (.if_icmp .ne 23, 3) := by decide +kernel
theorem dX10_isWord_10 : decode cX10_isWord 10 = .ok (.aload_n 0, 1) := by decide +kernel
theorem dX10_isWord_11 : decode cX10_isWord 11 = .ok (.iload_n 1, 1) := by decide +kernel
theorem dX10_isWord_12 : decode cX10_isWord 12 = .ok (.iconst 1, 1) := by decide +kernel
theorem dX10_isWord_13 : decode cX10_isWord 13 = .ok (.iadd, 1) := by decide +kernel
theorem dX10_isWord_14 : decode cX10_isWord 14 = .ok (.aload_n 0, 1) := by decide +kernel
theorem dX10_isWord_15 : decode cX10_isWord 15 = .ok (.getfield 307, 3) := by decide +kernel
theorem dX10_isWord_18 : decode cX10_isWord 18 = .ok (.invokevirtual 310, 3) := by decide +kernel
theorem dX10_isWord_21 : decode cX10_isWord 21 = .ok (.iload 4, 2) := by decide +kernel
theorem dX10_isWord_23 : decode cX10_isWord 23 = .ok (.if_icmp .ne 7, 3) := by decide +kernel
theorem dX10_isWord_26 : decode cX10_isWord 26 = .ok (.iconst 1, 1) := by decide +kernel
theorem dX10_isWord_27 : decode cX10_isWord 27 = .ok (.goto 4, 3) := by decide +kernel
theorem dX10_isWord_30 : decode cX10_isWord 30 = .ok (.iconst 0, 1) := by decide +kernel
theorem dX10_isWord_31 : decode cX10_isWord 31 = .ok (.istore 7, 2) := by decide +kernel
theorem dX10_isWord_33 : decode cX10_isWord 33 = .ok (.iload 7, 2) := by decide +kernel
theorem dX10_isWord_35 : decode cX10_isWord 35 = .ok (.ifCond .eq 28, 3) := by decide +kernel
theorem dX10_isWord_38 : decode cX10_isWord 38 = .ok (.iload_n 2, 1) := by decide +kernel
theorem dX10_isWord_39 : decode cX10_isWord 39 = .ok (.iconst 3, 1) := by decide +kernel
theorem dX10_isWord_40 : decode cX10_isWord 40 = .ok (.if_icmp .lt 19, 3) := by decide +kernel
theorem dX10_isWord_43 : decode cX10_isWord 43 = .ok (.aload_n 0, 1) := by decide +kernel
theorem dX10_isWord_44 : decode cX10_isWord 44 = .ok (.iload_n 1, 1) := by decide +kernel
theorem dX10_isWord_45 : decode cX10_isWord 45 = .ok (.iconst 2, 1) := by decide +kernel
theorem dX10_isWord_46 : decode cX10_isWord 46 = .ok (.iadd, 1) := by decide +kernel
theorem dX10_isWord_47 : decode cX10_isWord 47 = .ok (.aload_n 0, 1) := by decide +kernel
theorem dX10_isWord_48 : decode cX10_isWord 48 = .ok (.getfield 307, 3) := by decide +kernel
theorem dX10_isWord_51 : decode cX10_isWord 51 = .ok (.invokevirtual 310, 3) := by decide +kernel
theorem dX10_isWord_54 : decode cX10_isWord 54 = .ok (.iload 5, 2) := by decide +kernel
theorem dX10_isWord_56 : decode cX10_isWord 56 = .ok (.if_icmp .ne 7, 3) := by decide +kernel
theorem dX10_isWord_59 : decode cX10_isWord 59 = .ok (.iconst 1, 1) := by decide +kernel
theorem dX10_isWord_60 : decode cX10_isWord 60 = .ok (.goto 4, 3) := by decide +kernel
theorem dX10_isWord_63 : decode cX10_isWord 63 = .ok (.iconst 0, 1) := by decide +kernel
theorem dX10_isWord_64 : decode cX10_isWord 64 = .ok (.istore 7, 2) := by decide +kernel
theorem dX10_isWord_66 : decode cX10_isWord 66 = .ok (.iload 7, 2) := by decide +kernel
theorem dX10_isWord_68 : decode cX10_isWord 68 = .ok (.ifCond .eq 28, 3) := by decide +kernel
theorem dX10_isWord_71 : decode cX10_isWord 71 = .ok (.iload_n 2, 1) := by decide +kernel
theorem dX10_isWord_72 : decode cX10_isWord 72 = .ok (.iconst 4, 1) := by decide +kernel
theorem dX10_isWord_73 : decode cX10_isWord 73 = .ok (.if_icmp .lt 19, 3) := by decide +kernel
theorem dX10_isWord_76 : decode cX10_isWord 76 = .ok (.aload_n 0, 1) := by decide +kernel
theorem dX10_isWord_77 : decode cX10_isWord 77 = .ok (.iload_n 1, 1) := by decide +kernel
theorem dX10_isWord_78 : decode cX10_isWord 78 = .ok (.iconst 3, 1) := by decide +kernel
theorem dX10_isWord_79 : decode cX10_isWord 79 = .ok (.iadd, 1) := by decide +kernel
theorem dX10_isWord_80 : decode cX10_isWord 80 = .ok (.aload_n 0, 1) := by decide +kernel
theorem dX10_isWord_81 : decode cX10_isWord 81 = .ok (.getfield 307, 3) := by decide +kernel
theorem dX10_isWord_84 : decode cX10_isWord 84 = .ok (.invokevirtual 310, 3) := by decide +kernel
theorem dX10_isWord_87 : decode cX10_isWord 87 = .ok (.iload 6, 2) := by decide +kernel
theorem dX10_isWord_89 : decode cX10_isWord 89 = .ok (.if_icmp .ne 7, 3) := by decide +kernel
theorem dX10_isWord_92 : decode cX10_isWord 92 = .ok (.iconst 1, 1) := by decide +kernel
theorem dX10_isWord_93 : decode cX10_isWord 93 = .ok (.goto 4, 3) := by decide +kernel
theorem dX10_isWord_96 : decode cX10_isWord 96 = .ok (.iconst 0, 1) := by decide +kernel
theorem dX10_isWord_97 : decode cX10_isWord 97 = .ok (.ireturn, 1) := by decide +kernel
theorem dX10_wordOf_0 : decode cX10_wordOf 0 = .ok (.iload_n 2, 1) := by decide +kernel
theorem dX10_wordOf_1 : decode cX10_wordOf 1 = .ok (.iconst 2, 1) := by decide +kernel
theorem dX10_wordOf_2 : decode cX10_wordOf 2 = .ok (.if_icmp .ne 20, 3) := by decide +kernel
theorem dX10_wordOf_5 : decode cX10_wordOf 5 = .ok (.aload_n 0, 1) := by decide +kernel
theorem dX10_wordOf_6 : decode cX10_wordOf 6 = .ok (.iload_n 1, 1) := by decide +kernel
theorem dX10_wordOf_7 : decode cX10_wordOf 7 = .ok (.iconst 2, 1) := by decide +kernel
theorem dX10_wordOf_8 : decode cX10_wordOf 8 = .ok (.bipush 117, 2) := by decide +kernel
theorem dX10_wordOf_10 : decode cX10_wordOf 10 = .ok (.bipush 112, 2) := by decide +kernel
theorem dX10_wordOf_12 : decode cX10_wordOf 12 = .ok (.iconst 0, 1) := by decide +kernel
theorem dX10_wordOf_13 : decode cX10_wordOf 13 = .ok (.iconst 0, 1) := by decide +kernel
theorem dX10_wordOf_14 : decode cX10_wordOf 14 = .ok (.invokevirtual 313, 3) := by decide +kernel
theorem dX10_wordOf_17 : decode cX10_wordOf 17 = .ok (.ifCond .eq 5, 3) := by decide +kernel
theorem dX10_wordOf_20 : decode cX10_wordOf 20 = .ok (.iconst 1, 1) := by decide +kernel
theorem dX10_wordOf_21 : decode cX10_wordOf 21 = .ok (.ireturn, 1) := by decide +kernel
theorem dX10_wordOf_22 : decode cX10_wordOf 22 = .ok (.iload_n 2, 1) := by decide +kernel
theorem dX10_wordOf_23 : decode cX10_wordOf 23 = .ok (.iconst 3, 1) := by decide +kernel
theorem dX10_wordOf_24 : decode cX10_wordOf 24 = .ok (.if_icmp .ne 26, 3) := by decide +kernel
theorem dX10_wordOf_27 : decode cX10_wordOf 27 = .ok (.aload_n 0, 1) := by decide +kernel
theorem dX10_wordOf_28 : decode cX10_wordOf 28 = .ok (.iload_n 1, 1) := by decide +kernel
theorem dX10_wordOf_29 : decode cX10_wordOf 29 = .ok (.iconst 3, 1) := by decide +kernel
theorem dX10_wordOf_30 : decode cX10_wordOf 30 = .ok (.bipush 97, 2) := by decide +kernel
theorem dX10_wordOf_32 : decode cX10_wordOf 32 = .ok (.bipush 108, 2) := by decide +kernel
theorem dX10_wordOf_34 : decode cX10_wordOf 34 = .ok (.bipush 108, 2) := by decide +kernel
theorem dX10_wordOf_36 : decode cX10_wordOf 36 = .ok (.iconst 0, 1) := by decide +kernel
theorem dX10_wordOf_37 : decode cX10_wordOf 37 = .ok (.invokevirtual 313, 3) := by decide +kernel
theorem dX10_wordOf_40 : decode cX10_wordOf 40 = .ok (.ifCond .eq 8, 3) := by decide +kernel
theorem dX10_wordOf_43 : decode cX10_wordOf 43 = .ok (.bipush 6, 2) := by decide +kernel
theorem dX10_wordOf_45 : decode cX10_wordOf 45 = .ok (.goto 4, 3) := by decide +kernel
theorem dX10_wordOf_48 : decode cX10_wordOf 48 = .ok (.iconst 0, 1) := by decide +kernel
theorem dX10_wordOf_49 : decode cX10_wordOf 49 = .ok (.ireturn, 1) := by decide +kernel
theorem dX10_wordOf_50 : decode cX10_wordOf 50 = .ok (.iload_n 2, 1) := by decide +kernel
theorem dX10_wordOf_51 : decode cX10_wordOf 51 = .ok (.iconst 4, 1) := by decide +kernel
theorem dX10_wordOf_52 : decode cX10_wordOf 52 = .ok (.if_icmp .eq 5, 3) := by decide +kernel
theorem dX10_wordOf_55 : decode cX10_wordOf 55 = .ok (.iconst 0, 1) := by decide +kernel
theorem dX10_wordOf_56 : decode cX10_wordOf 56 = .ok (.ireturn, 1) := by decide +kernel
theorem dX10_wordOf_57 : decode cX10_wordOf 57 = .ok (.aload_n 0, 1) := by decide +kernel
theorem dX10_wordOf_58 : decode cX10_wordOf 58 = .ok (.iload_n 1, 1) := by decide +kernel
theorem dX10_wordOf_59 : decode cX10_wordOf 59 = .ok (.iconst 4, 1) := by decide +kernel
theorem dX10_wordOf_60 : decode cX10_wordOf 60 = .ok (.bipush 100, 2) := by decide +kernel
theorem dX10_wordOf_62 : decode cX10_wordOf 62 = .ok (.bipush 111, 2) := by decide +kernel
theorem dX10_wordOf_64 : decode cX10_wordOf 64 = .ok (.bipush 119, 2) := by decide +kernel
theorem dX10_wordOf_66 : decode cX10_wordOf 66 = .ok (.bipush 110, 2) := by decide +kernel
theorem dX10_wordOf_68 : decode cX10_wordOf 68 = .ok (.invokevirtual 313, 3) := by decide +kernel
theorem dX10_wordOf_71 : decode cX10_wordOf 71 = .ok (.ifCond .eq 7, 3) := by decide +kernel
theorem dX10_wordOf_74 : decode cX10_wordOf 74 = .ok (.iconst 2, 1) := by decide +kernel
theorem dX10_wordOf_75 : decode cX10_wordOf 75 = .ok (.goto 25, 3) := by decide +kernel
theorem dX10_wordOf_78 : decode cX10_wordOf 78 = .ok (.aload_n 0, 1) := by decide +kernel
theorem dX10_wordOf_79 : decode cX10_wordOf 79 = .ok (.iload_n 1, 1) := by decide +kernel
theorem dX10_wordOf_80 : decode cX10_wordOf 80 = .ok (.iconst 4, 1) := by decide +kernel
theorem dX10_wordOf_81 : decode cX10_wordOf 81 = .ok (.bipush 102, 2) := by decide +kernel
theorem dX10_wordOf_83 : decode cX10_wordOf 83 = .ok (.bipush 114, 2) := by decide +kernel
theorem dX10_wordOf_85 : decode cX10_wordOf 85 = .ok (.bipush 101, 2) := by decide +kernel
theorem dX10_wordOf_87 : decode cX10_wordOf 87 = .ok (.bipush 101, 2) := by decide +kernel
theorem dX10_wordOf_89 : decode cX10_wordOf 89 = .ok (.invokevirtual 313, 3) := by decide +kernel
theorem dX10_wordOf_92 : decode cX10_wordOf 92 = .ok (.ifCond .eq 7, 3) := by decide +kernel
theorem dX10_wordOf_95 : decode cX10_wordOf 95 = .ok (.iconst 3, 1) := by decide +kernel
theorem dX10_wordOf_96 : decode cX10_wordOf 96 = .ok (.goto 4, 3) := by decide +kernel
theorem dX10_wordOf_99 : decode cX10_wordOf 99 = .ok (.iconst 0, 1) := by decide +kernel
theorem dX10_wordOf_100 : decode cX10_wordOf 100 = .ok (.istore_n 3, 1) := by decide +kernel
theorem dX10_wordOf_101 : decode cX10_wordOf 101 = .ok (.aload_n 0, 1) := by decide +kernel
theorem dX10_wordOf_102 : decode cX10_wordOf 102 = .ok (.iload_n 1, 1) := by decide +kernel
theorem dX10_wordOf_103 : decode cX10_wordOf 103 = .ok (.iconst 4, 1) := by decide +kernel
theorem dX10_wordOf_104 : decode cX10_wordOf 104 = .ok (.bipush 103, 2) := by decide +kernel
theorem dX10_wordOf_106 : decode cX10_wordOf 106 = .ok (.bipush 111, 2) := by decide +kernel
theorem dX10_wordOf_108 : decode cX10_wordOf 108 = .ok (.bipush 97, 2) := by decide +kernel
theorem dX10_wordOf_110 : decode cX10_wordOf 110 = .ok (.bipush 108, 2) := by decide +kernel
theorem dX10_wordOf_112 : decode cX10_wordOf 112 = .ok (.invokevirtual 313, 3) := by decide +kernel
theorem dX10_wordOf_115 : decode cX10_wordOf 115 = .ok (.ifCond .eq 7, 3) := by decide +kernel
theorem dX10_wordOf_118 : decode cX10_wordOf 118 = .ok (.iconst 4, 1) := by decide +kernel
theorem dX10_wordOf_119 : decode cX10_wordOf 119 = .ok (.goto 4, 3) := by decide +kernel
theorem dX10_wordOf_122 : decode cX10_wordOf 122 = .ok (.iload_n 3, 1) := by decide +kernel
theorem dX10_wordOf_123 : decode cX10_wordOf 123 = .ok (.istore_n 3, 1) := by decide +kernel
theorem dX10_wordOf_124 : decode cX10_wordOf 124 = .ok (.aload_n 0, 1) := by decide +kernel
theorem dX10_wordOf_125 : decode cX10_wordOf 125 = .ok (.iload_n 1, 1) := by decide +kernel
theorem dX10_wordOf_126 : decode cX10_wordOf 126 = .ok (.iconst 4, 1) := by decide +kernel
theorem dX10_wordOf_127 : decode cX10_wordOf 127 = .ok (.bipush 102, 2) := by decide +kernel
theorem dX10_wordOf_129 : decode cX10_wordOf 129 = .ok (.bipush 114, 2) := by decide +kernel
theorem dX10_wordOf_131 : decode cX10_wordOf 131 = .ok (.bipush 111, 2) := by decide +kernel
theorem dX10_wordOf_133 : decode cX10_wordOf 133 = .ok (.bipush 109, 2) := by decide +kernel
theorem dX10_wordOf_135 : decode cX10_wordOf 135 = .ok (.invokevirtual 313, 3) := by decide +kernel
theorem dX10_wordOf_138 : decode cX10_wordOf 138 = .ok (.ifCond .eq 7, 3) := by decide +kernel
theorem dX10_wordOf_141 : decode cX10_wordOf 141 = .ok (.iconst 5, 1) := by decide +kernel
theorem dX10_wordOf_142 : decode cX10_wordOf 142 = .ok (.goto 4, 3) := by decide +kernel
theorem dX10_wordOf_145 : decode cX10_wordOf 145 = .ok (.iload_n 3, 1) := by decide +kernel
theorem dX10_wordOf_146 : decode cX10_wordOf 146 = .ok (.istore_n 3, 1) := by decide +kernel
theorem dX10_wordOf_147 : decode cX10_wordOf 147 = .ok (.aload_n 0, 1) := by decide +kernel
theorem dX10_wordOf_148 : decode cX10_wordOf 148 = .ok (.iload_n 1, 1) := by decide +kernel
theorem dX10_wordOf_149 : decode cX10_wordOf 149 = .ok (.iconst 4, 1) := by decide +kernel
theorem dX10_wordOf_150 : decode cX10_wordOf 150 = .ok (.bipush 110, 2) := by decide +kernel
theorem dX10_wordOf_152 : decode cX10_wordOf 152 = .ok (.bipush 111, 2) := by decide +kernel
theorem dX10_wordOf_154 : decode cX10_wordOf 154 = .ok (.bipush 110, 2) := by decide +kernel
theorem dX10_wordOf_156 : decode cX10_wordOf 156 = .ok (.bipush 101, 2) := by decide +kernel
theorem dX10_wordOf_158 : decode cX10_wordOf 158 = .ok (.invokevirtual 313, 3) := by decide +kernel
theorem dX10_wordOf_161 : decode cX10_wordOf 161 = .ok (.ifCond .eq 8, 3) := by decide +kernel
theorem dX10_wordOf_164 : decode cX10_wordOf 164 = .ok (.bipush 7, 2) := by decide +kernel
theorem dX10_wordOf_166 : decode cX10_wordOf 166 = .ok (.goto 4, 3) := by decide +kernel
theorem dX10_wordOf_169 : decode cX10_wordOf 169 = .ok (.iload_n 3, 1) := by decide +kernel
theorem dX10_wordOf_170 : decode cX10_wordOf 170 = .ok (.ireturn, 1) := by decide +kernel
theorem dX10_does_0 : decode cX10_does 0 = .ok (.iconst 0, 1) := by decide +kernel
theorem dX10_does_1 : decode cX10_does 1 = .ok (.istore_n 3, 1) := by decide +kernel
theorem dX10_does_2 : decode cX10_does 2 = .ok (.iload_n 1, 1) := by decide +kernel
theorem dX10_does_3 : decode cX10_does 3 = .ok (.iload_n 3, 1) := by decide +kernel
theorem dX10_does_4 : decode cX10_does 4 = .ok (.iadd, 1) := by decide +kernel
theorem dX10_does_5 : decode cX10_does 5 = .ok (.iload_n 2, 1) := by decide +kernel
theorem dX10_does_6 : decode cX10_does 6 = .ok (.if_icmp .ge 30, 3) := by decide +kernel
theorem dX10_does_9 : decode cX10_does 9 = .ok (.aload_n 0, 1) := by decide +kernel
theorem dX10_does_10 : decode cX10_does 10 = .ok (.getfield 62, 3) := by decide +kernel
theorem dX10_does_13 : decode cX10_does 13 = .ok (.iload_n 1, 1) := by decide +kernel
theorem dX10_does_14 : decode cX10_does 14 = .ok (.iload_n 3, 1) := by decide +kernel
theorem dX10_does_15 : decode cX10_does 15 = .ok (.iadd, 1) := by decide +kernel
theorem dX10_does_16 : decode cX10_does 16 = .ok (.iaload, 1) := by decide +kernel
theorem dX10_does_17 : decode cX10_does 17 = .ok (.i2l, 1) := by decide +kernel
theorem dX10_does_18 : decode cX10_does 18 = .ok (.ldc2_w 317, 3) := by decide +kernel
theorem dX10_does_21 : decode cX10_does 21 = .ok (.ldc2_w 319, 3) := by decide +kernel
theorem dX10_does_24 : decode cX10_does 24 = .ok (.invokestatic 72, 3) := by decide +kernel
theorem dX10_does_27 : decode cX10_does 27 = .ok (.ifCond .eq 9, 3) := by decide +kernel
theorem dX10_does_30 : decode cX10_does 30 = .ok (.iinc 3 1, 3) := by decide +kernel
theorem dX10_does_33 : decode cX10_does 33 = .ok (.goto (-31), 3) := by decide +kernel
theorem dX10_does_36 : decode cX10_does 36 = .ok (.iload_n 3, 1) := by decide +kernel
theorem dX10_does_37 : decode cX10_does 37 = .ok (.ifCond .ne 7, 3) := by decide +kernel
theorem dX10_does_40 : decode cX10_does 40 = .ok (.iconst 0, 1) := by decide +kernel
theorem dX10_does_41 : decode cX10_does 41 = .ok (.goto 9, 3) := by decide +kernel
theorem dX10_does_44 : decode cX10_does 44 = .ok (.aload_n 0, 1) := by decide +kernel
theorem dX10_does_45 : decode cX10_does 45 = .ok (.iload_n 1, 1) := by decide +kernel
theorem dX10_does_46 : decode cX10_does 46 = .ok (.iload_n 3, 1) := by decide +kernel
theorem dX10_does_47 : decode cX10_does 47 = .ok (.invokevirtual 321, 3) := by decide +kernel
theorem dX10_does_50 : decode cX10_does 50 = .ok (.istore 4, 2) := by decide +kernel
theorem dX10_does_52 : decode cX10_does 52 = .ok (.iload 4, 2) := by decide +kernel
theorem dX10_does_54 : decode cX10_does 54 = .ok (.ifCond .ne 5, 3) := by decide +kernel
theorem dX10_does_57 : decode cX10_does 57 = .ok (.iconst 1, 1) := by decide +kernel
theorem dX10_does_58 : decode cX10_does 58 = .ok (.ireturn, 1) := by decide +kernel
theorem dX10_does_59 : decode cX10_does 59 = .ok (.iload_n 2, 1) := by decide +kernel
theorem dX10_does_60 : decode cX10_does 60 = .ok (.iload_n 1, 1) := by decide +kernel
theorem dX10_does_61 : decode cX10_does 61 = .ok (.isub, 1) := by decide +kernel
theorem dX10_does_62 : decode cX10_does 62 = .ok (.iload_n 3, 1) := by decide +kernel
theorem dX10_does_63 : decode cX10_does 63 = .ok (.isub, 1) := by decide +kernel
theorem dX10_does_64 : decode cX10_does 64 = .ok (.istore 5, 2) := by decide +kernel
theorem dX10_does_66 : decode cX10_does 66 = .ok (.iload 4, 2) := by decide +kernel
theorem dX10_does_68 : decode cX10_does 68 = .ok (.iconst 5, 1) := by decide +kernel
theorem dX10_does_69 : decode cX10_does 69 = .ok (.if_icmp .le 11, 3) := by decide +kernel
theorem dX10_does_72 : decode cX10_does 72 = .ok (.iload 5, 2) := by decide +kernel
theorem dX10_does_74 : decode cX10_does 74 = .ok (.ifCond .eq 35, 3) := by decide +kernel
theorem dX10_does_77 : decode cX10_does 77 = .ok (.goto 30, 3) := by decide +kernel
theorem dX10_does_80 : decode cX10_does 80 = .ok (.iload 5, 2) := by decide +kernel
theorem dX10_does_82 : decode cX10_does 82 = .ok (.iconst 1, 1) := by decide +kernel
theorem dX10_does_83 : decode cX10_does 83 = .ok (.if_icmp .ne 24, 3) := by decide +kernel
theorem dX10_does_86 : decode cX10_does 86 = .ok (.aload_n 0, 1) := by decide +kernel
theorem dX10_does_87 : decode cX10_does 87 = .ok (.getfield 62, 3) := by decide +kernel
theorem dX10_does_90 : decode cX10_does 90 = .ok (.iload_n 1, 1) := by decide +kernel
theorem dX10_does_91 : decode cX10_does 91 = .ok (.iload_n 3, 1) := by decide +kernel
theorem dX10_does_92 : decode cX10_does 92 = .ok (.iadd, 1) := by decide +kernel
theorem dX10_does_93 : decode cX10_does 93 = .ok (.iaload, 1) := by decide +kernel
theorem dX10_does_94 : decode cX10_does 94 = .ok (.i2l, 1) := by decide +kernel
theorem dX10_does_95 : decode cX10_does 95 = .ok (.ldc2_w 324, 3) := by decide +kernel
theorem dX10_does_98 : decode cX10_does 98 = .ok (.ldc2_w 326, 3) := by decide +kernel
theorem dX10_does_101 : decode cX10_does 101 = .ok (.invokestatic 72, 3) := by decide +kernel
theorem dX10_does_104 : decode cX10_does 104 = .ok (.ifCond .ne 5, 3) := by decide +kernel
theorem dX10_does_107 : decode cX10_does 107 = .ok (.iconst 2, 1) := by decide +kernel
theorem dX10_does_108 : decode cX10_does 108 = .ok (.ireturn, 1) := by decide +kernel
theorem dX10_does_109 : decode cX10_does 109 = .ok (.iload 4, 2) := by decide +kernel
theorem dX10_does_111 : decode cX10_does 111 = .ok (.iconst 5, 1) := by decide +kernel
theorem dX10_does_112 : decode cX10_does 112 = .ok (.if_icmp .le 7, 3) := by decide +kernel
theorem dX10_does_115 : decode cX10_does 115 = .ok (.iconst 0, 1) := by decide +kernel
theorem dX10_does_116 : decode cX10_does 116 = .ok (.goto 14, 3) := by decide +kernel
theorem dX10_does_119 : decode cX10_does 119 = .ok (.aload_n 0, 1) := by decide +kernel
theorem dX10_does_120 : decode cX10_does 120 = .ok (.getfield 62, 3) := by decide +kernel
theorem dX10_does_123 : decode cX10_does 123 = .ok (.iload_n 1, 1) := by decide +kernel
theorem dX10_does_124 : decode cX10_does 124 = .ok (.iload_n 3, 1) := by decide +kernel
theorem dX10_does_125 : decode cX10_does 125 = .ok (.iadd, 1) := by decide +kernel
theorem dX10_does_126 : decode cX10_does 126 = .ok (.iaload, 1) := by decide +kernel
theorem dX10_does_127 : decode cX10_does 127 = .ok (.bipush 48, 2) := by decide +kernel
theorem dX10_does_129 : decode cX10_does 129 = .ok (.isub, 1) := by decide +kernel
theorem dX10_does_130 : decode cX10_does 130 = .ok (.istore 6, 2) := by decide +kernel
theorem dX10_does_132 : decode cX10_does 132 = .ok (.iload 4, 2) := by decide +kernel
theorem dX10_does_134 : decode cX10_does 134 = .ok (.iconst 4, 1) := by decide +kernel
theorem dX10_does_135 : decode cX10_does 135 = .ok (.if_icmp .ge 15, 3) := by decide +kernel
theorem dX10_does_138 : decode cX10_does 138 = .ok (.aload_n 0, 1) := by decide +kernel
theorem dX10_does_139 : decode cX10_does 139 = .ok (.iload 6, 2) := by decide +kernel
theorem dX10_does_141 : decode cX10_does 141 = .ok (.invokevirtual 132, 3) := by decide +kernel
theorem dX10_does_144 : decode cX10_does 144 = .ok (.ifCond .ne 25, 3) := by decide +kernel
theorem dX10_does_147 : decode cX10_does 147 = .ok (.goto 20, 3) := by decide +kernel
theorem dX10_does_150 : decode cX10_does 150 = .ok (.iload 4, 2) := by decide +kernel
theorem dX10_does_152 : decode cX10_does 152 = .ok (.bipush 6, 2) := by decide +kernel
theorem dX10_does_154 : decode cX10_does 154 = .ok (.if_icmp .ge 15, 3) := by decide +kernel
theorem dX10_does_157 : decode cX10_does 157 = .ok (.aload_n 0, 1) := by decide +kernel
theorem dX10_does_158 : decode cX10_does 158 = .ok (.iload 6, 2) := by decide +kernel
theorem dX10_does_160 : decode cX10_does 160 = .ok (.i2l, 1) := by decide +kernel
theorem dX10_does_161 : decode cX10_does 161 = .ok (.invokevirtual 116, 3) := by decide +kernel
theorem dX10_does_164 : decode cX10_does 164 = .ok (.ifCond .ne 5, 3) := by decide +kernel
theorem dX10_does_167 : decode cX10_does 167 = .ok (.iconst 3, 1) := by decide +kernel
theorem dX10_does_168 : decode cX10_does 168 = .ok (.ireturn, 1) := by decide +kernel
theorem dX10_does_169 : decode cX10_does 169 = .ok (.iload 4, 2) := by decide +kernel
theorem dX10_does_171 : decode cX10_does 171 = .ok (.iconst 4, 1) := by decide +kernel
theorem dX10_does_172 : decode cX10_does 172 = .ok (.if_icmp .ge 14, 3) := by decide +kernel
theorem dX10_does_175 : decode cX10_does 175 = .ok (.aload_n 0, 1) := by decide +kernel
theorem dX10_does_176 : decode cX10_does 176 = .ok (.getfield 32, 3) := by decide +kernel
theorem dX10_does_179 : decode cX10_does 179 = .ok (.iload 6, 2) := by decide +kernel
theorem dX10_does_181 : decode cX10_does 181 = .ok (.iload 4, 2) := by decide +kernel
theorem dX10_does_183 : decode cX10_does 183 = .ok (.iconst 3, 1) := by decide +kernel
theorem dX10_does_184 : decode cX10_does 184 = .ok (.irem, 1) := by decide +kernel
theorem dX10_does_185 : decode cX10_does 185 = .ok (.iastore, 1) := by decide +kernel
theorem dX10_does_186 : decode cX10_does 186 = .ok (.aload_n 0, 1) := by decide +kernel
theorem dX10_does_187 : decode cX10_does 187 = .ok (.iload 4, 2) := by decide +kernel
theorem dX10_does_189 : decode cX10_does 189 = .ok (.iconst 4, 1) := by decide +kernel
theorem dX10_does_190 : decode cX10_does 190 = .ok (.if_icmp .ne 15, 3) := by decide +kernel
theorem dX10_does_193 : decode cX10_does 193 = .ok (.aload_n 0, 1) := by decide +kernel
theorem dX10_does_194 : decode cX10_does 194 = .ok (.getfield 108, 3) := by decide +kernel
theorem dX10_does_197 : decode cX10_does 197 = .ok (.iconst 1, 1) := by decide +kernel
theorem dX10_does_198 : decode cX10_does 198 = .ok (.iload 6, 2) := by decide +kernel
theorem dX10_does_200 : decode cX10_does 200 = .ok (.ishl, 1) := by decide +kernel
theorem dX10_does_201 : decode cX10_does 201 = .ok (.ixor, 1) := by decide +kernel
theorem dX10_does_202 : decode cX10_does 202 = .ok (.goto 36, 3) := by decide +kernel
theorem dX10_does_205 : decode cX10_does 205 = .ok (.iload 4, 2) := by decide +kernel
theorem dX10_does_207 : decode cX10_does 207 = .ok (.bipush 6, 2) := by decide +kernel
theorem dX10_does_209 : decode cX10_does 209 = .ok (.if_icmp .ne 14, 3) := by decide +kernel
theorem dX10_does_212 : decode cX10_does 212 = .ok (.iconst 1, 1) := by decide +kernel
theorem dX10_does_213 : decode cX10_does 213 = .ok (.aload_n 0, 1) := by decide +kernel
theorem dX10_does_214 : decode cX10_does 214 = .ok (.getfield 68, 3) := by decide +kernel
theorem dX10_does_217 : decode cX10_does 217 = .ok (.ishl, 1) := by decide +kernel
theorem dX10_does_218 : decode cX10_does 218 = .ok (.iconst 1, 1) := by decide +kernel
theorem dX10_does_219 : decode cX10_does 219 = .ok (.isub, 1) := by decide +kernel
theorem dX10_does_220 : decode cX10_does 220 = .ok (.goto 18, 3) := by decide +kernel
theorem dX10_does_223 : decode cX10_does 223 = .ok (.iload 4, 2) := by decide +kernel
theorem dX10_does_225 : decode cX10_does 225 = .ok (.bipush 7, 2) := by decide +kernel
theorem dX10_does_227 : decode cX10_does 227 = .ok (.if_icmp .ne 7, 3) := by decide +kernel
theorem dX10_does_230 : decode cX10_does 230 = .ok (.iconst 0, 1) := by decide +kernel
theorem dX10_does_231 : decode cX10_does 231 = .ok (.goto 7, 3) := by decide +kernel
theorem dX10_does_234 : decode cX10_does 234 = .ok (.aload_n 0, 1) := by decide +kernel
theorem dX10_does_235 : decode cX10_does 235 = .ok (.getfield 108, 3) := by decide +kernel
theorem dX10_does_238 : decode cX10_does 238 = .ok (.putfield 108, 3) := by decide +kernel
theorem dX10_does_241 : decode cX10_does 241 = .ok (.aload_n 0, 1) := by decide +kernel
theorem dX10_does_242 : decode cX10_does 242 = .ok (.iload 4, 2) := by decide +kernel
theorem dX10_does_244 : decode cX10_does 244 = .ok (.iconst 5, 1) := by decide +kernel
theorem dX10_does_245 : decode cX10_does 245 = .ok (.if_icmp .ne 8, 3) := by decide +kernel
theorem dX10_does_248 : decode cX10_does 248 = .ok (.iload 6, 2) := by decide +kernel
theorem dX10_does_250 : decode cX10_does 250 = .ok (.goto 7, 3) := by decide +kernel
theorem dX10_does_253 : decode cX10_does 253 = .ok (.aload_n 0, 1) := by decide +kernel
theorem dX10_does_254 : decode cX10_does 254 = .ok (.getfield 111, 3) := by decide +kernel
theorem dX10_does_257 : decode cX10_does 257 = .ok (.putfield 111, 3) := by decide +kernel
theorem dX10_does_260 : decode cX10_does 260 = .ok (.iconst 0, 1) := by decide +kernel
theorem dX10_does_261 : decode cX10_does 261 = .ok (.ireturn, 1) := by decide +kernel
theorem dX10_obey_0 : decode cX10_obey 0 = .ok (.iconst 0, 1) := by decide +kernel
theorem dX10_obey_1 : decode cX10_obey 1 = .ok (.istore_n 1, 1) := by decide +kernel
theorem dX10_obey_2 : decode cX10_obey 2 = .ok (.iload_n 1, 1) := by decide +kernel
theorem dX10_obey_3 : decode cX10_obey 3 = .ok (.bipush 10, 2) := by decide +kernel
theorem dX10_obey_5 : decode cX10_obey 5 = .ok (.if_icmp .ge 21, 3) := by decide +kernel
theorem dX10_obey_8 : decode cX10_obey 8 = .ok (.aload_n 0, 1) := by decide +kernel
theorem dX10_obey_9 : decode cX10_obey 9 = .ok (.getfield 65, 3) := by decide +kernel
theorem dX10_obey_12 : decode cX10_obey 12 = .ok (.iload_n 1, 1) := by decide +kernel
theorem dX10_obey_13 : decode cX10_obey 13 = .ok (.aload_n 0, 1) := by decide +kernel
theorem dX10_obey_14 : decode cX10_obey 14 = .ok (.getfield 32, 3) := by decide +kernel
theorem dX10_obey_17 : decode cX10_obey 17 = .ok (.iload_n 1, 1) := by decide +kernel
theorem dX10_obey_18 : decode cX10_obey 18 = .ok (.iaload, 1) := by decide +kernel
theorem dX10_obey_19 : decode cX10_obey 19 = .ok (.iastore, 1) := by decide +kernel
theorem dX10_obey_20 : decode cX10_obey 20 = .ok (.iinc 1 1, 3) := by decide +kernel
theorem dX10_obey_23 : decode cX10_obey 23 = .ok (.goto (-21), 3) := by decide +kernel
theorem dX10_obey_26 : decode cX10_obey 26 = .ok (.aload_n 0, 1) := by decide +kernel
theorem dX10_obey_27 : decode cX10_obey 27 = .ok (.getfield 108, 3) := by decide +kernel
theorem dX10_obey_30 : decode cX10_obey 30 = .ok (.istore_n 1, 1) := by decide +kernel
theorem dX10_obey_31 : decode cX10_obey 31 = .ok (.aload_n 0, 1) := by decide +kernel
theorem dX10_obey_32 : decode cX10_obey 32 = .ok (.getfield 111, 3) := by decide +kernel
theorem dX10_obey_35 : decode cX10_obey 35 = .ok (.istore_n 2, 1) := by decide +kernel
theorem dX10_obey_36 : decode cX10_obey 36 = .ok (.aload_n 0, 1) := by decide +kernel
theorem dX10_obey_37 : decode cX10_obey 37 = .ok (.iconst 0, 1) := by decide +kernel
theorem dX10_obey_38 : decode cX10_obey 38 = .ok (.putfield 328, 3) := by decide +kernel
theorem dX10_obey_41 : decode cX10_obey 41 = .ok (.iconst 0, 1) := by decide +kernel
theorem dX10_obey_42 : decode cX10_obey 42 = .ok (.istore_n 3, 1) := by decide +kernel
theorem dX10_obey_43 : decode cX10_obey 43 = .ok (.iconst 0, 1) := by decide +kernel
theorem dX10_obey_44 : decode cX10_obey 44 = .ok (.istore 4, 2) := by decide +kernel
theorem dX10_obey_46 : decode cX10_obey 46 = .ok (.aload_n 0, 1) := by decide +kernel
theorem dX10_obey_47 : decode cX10_obey 47 = .ok (.getfield 307, 3) := by decide +kernel
theorem dX10_obey_50 : decode cX10_obey 50 = .ok (.ifCond .le 119, 3) := by decide +kernel
theorem dX10_obey_53 : decode cX10_obey 53 = .ok (.iload 4, 2) := by decide +kernel
theorem dX10_obey_55 : decode cX10_obey 55 = .ok (.aload_n 0, 1) := by decide +kernel
theorem dX10_obey_56 : decode cX10_obey 56 = .ok (.getfield 307, 3) := by decide +kernel
theorem dX10_obey_59 : decode cX10_obey 59 = .ok (.if_icmp .gt 110, 3) := by decide +kernel
theorem dX10_obey_62 : decode cX10_obey 62 = .ok (.iload 4, 2) := by decide +kernel
theorem dX10_obey_64 : decode cX10_obey 64 = .ok (.istore 5, 2) := by decide +kernel
theorem dX10_obey_66 : decode cX10_obey 66 = .ok (.iload 5, 2) := by decide +kernel
theorem dX10_obey_68 : decode cX10_obey 68 = .ok (.aload_n 0, 1) := by decide +kernel
theorem dX10_obey_69 : decode cX10_obey 69 = .ok (.getfield 307, 3) := by decide +kernel
theorem dX10_obey_72 : decode cX10_obey 72 = .ok (.if_icmp .ge 21, 3) := by decide +kernel
theorem dX10_obey_75 : decode cX10_obey 75 = .ok (.aload_n 0, 1) := by decide +kernel
theorem dX10_obey_76 : decode cX10_obey 76 = .ok (.getfield 62, 3) := by decide +kernel
theorem dX10_obey_79 : decode cX10_obey 79 = .ok (.iload 5, 2) := by decide +kernel
theorem dX10_obey_81 : decode cX10_obey 81 = .ok (.iaload, 1) := by decide +kernel
theorem dX10_obey_82 : decode cX10_obey 82 = .ok (.bipush 59, 2) := by decide +kernel
theorem dX10_obey_84 : decode cX10_obey 84 = .ok (.if_icmp .eq 9, 3) := by decide +kernel
theorem dX10_obey_87 : decode cX10_obey 87 = .ok (.iinc 5 1, 3) := by decide +kernel
theorem dX10_obey_90 : decode cX10_obey 90 = .ok (.goto (-24), 3) := by decide +kernel
theorem dX10_obey_93 : decode cX10_obey 93 = .ok (.aload_n 0, 1) := by decide +kernel
theorem dX10_obey_94 : decode cX10_obey 94 = .ok (.aload_n 0, 1) := by decide +kernel
theorem dX10_obey_95 : decode cX10_obey 95 = .ok (.iload 4, 2) := by decide +kernel
theorem dX10_obey_97 : decode cX10_obey 97 = .ok (.iload 5, 2) := by decide +kernel
theorem dX10_obey_99 : decode cX10_obey 99 = .ok (.invokevirtual 331, 3) := by decide +kernel
theorem dX10_obey_102 : decode cX10_obey 102 = .ok (.putfield 328, 3) := by decide +kernel
theorem dX10_obey_105 : decode cX10_obey 105 = .ok (.aload_n 0, 1) := by decide +kernel
theorem dX10_obey_106 : decode cX10_obey 106 = .ok (.getfield 328, 3) := by decide +kernel
theorem dX10_obey_109 : decode cX10_obey 109 = .ok (.ifCond .eq 48, 3) := by decide +kernel
theorem dX10_obey_112 : decode cX10_obey 112 = .ok (.iconst 0, 1) := by decide +kernel
theorem dX10_obey_113 : decode cX10_obey 113 = .ok (.istore 6, 2) := by decide +kernel
theorem dX10_obey_115 : decode cX10_obey 115 = .ok (.iload 6, 2) := by decide +kernel
theorem dX10_obey_117 : decode cX10_obey 117 = .ok (.bipush 10, 2) := by decide +kernel
theorem dX10_obey_119 : decode cX10_obey 119 = .ok (.if_icmp .ge 23, 3) := by decide +kernel
theorem dX10_obey_122 : decode cX10_obey 122 = .ok (.aload_n 0, 1) := by decide +kernel
theorem dX10_obey_123 : decode cX10_obey 123 = .ok (.getfield 32, 3) := by decide +kernel
theorem dX10_obey_126 : decode cX10_obey 126 = .ok (.iload 6, 2) := by decide +kernel
theorem dX10_obey_128 : decode cX10_obey 128 = .ok (.aload_n 0, 1) := by decide +kernel
theorem dX10_obey_129 : decode cX10_obey 129 = .ok (.getfield 65, 3) := by decide +kernel
theorem dX10_obey_132 : decode cX10_obey 132 = .ok (.iload 6, 2) := by decide +kernel
theorem dX10_obey_134 : decode cX10_obey 134 = .ok (.iaload, 1) := by decide +kernel
theorem dX10_obey_135 : decode cX10_obey 135 = .ok (.iastore, 1) := by decide +kernel
theorem dX10_obey_136 : decode cX10_obey 136 = .ok (.iinc 6 1, 3) := by decide +kernel
theorem dX10_obey_139 : decode cX10_obey 139 = .ok (.goto (-24), 3) := by decide +kernel
theorem dX10_obey_142 : decode cX10_obey 142 = .ok (.aload_n 0, 1) := by decide +kernel
theorem dX10_obey_143 : decode cX10_obey 143 = .ok (.iload_n 1, 1) := by decide +kernel
theorem dX10_obey_144 : decode cX10_obey 144 = .ok (.putfield 108, 3) := by decide +kernel
theorem dX10_obey_147 : decode cX10_obey 147 = .ok (.aload_n 0, 1) := by decide +kernel
theorem dX10_obey_148 : decode cX10_obey 148 = .ok (.iload_n 2, 1) := by decide +kernel
theorem dX10_obey_149 : decode cX10_obey 149 = .ok (.putfield 111, 3) := by decide +kernel
theorem dX10_obey_152 : decode cX10_obey 152 = .ok (.bipush (-100), 2) := by decide +kernel
theorem dX10_obey_154 : decode cX10_obey 154 = .ok (.iload_n 3, 1) := by decide +kernel
theorem dX10_obey_155 : decode cX10_obey 155 = .ok (.isub, 1) := by decide +kernel
theorem dX10_obey_156 : decode cX10_obey 156 = .ok (.ireturn, 1) := by decide +kernel
theorem dX10_obey_157 : decode cX10_obey 157 = .ok (.iinc 3 1, 3) := by decide +kernel
theorem dX10_obey_160 : decode cX10_obey 160 = .ok (.iload 5, 2) := by decide +kernel
theorem dX10_obey_162 : decode cX10_obey 162 = .ok (.iconst 1, 1) := by decide +kernel
theorem dX10_obey_163 : decode cX10_obey 163 = .ok (.iadd, 1) := by decide +kernel
theorem dX10_obey_164 : decode cX10_obey 164 = .ok (.istore 4, 2) := by decide +kernel
theorem dX10_obey_166 : decode cX10_obey 166 = .ok (.goto (-120), 3) := by decide +kernel
theorem dX10_obey_169 : decode cX10_obey 169 = .ok (.iload_n 3, 1) := by decide +kernel
theorem dX10_obey_170 : decode cX10_obey 170 = .ok (.ireturn, 1) := by decide +kernel
theorem dX10_wrong_0 : decode cX10_wrong 0 = .ok (.aload_n 0, 1) := by decide +kernel
theorem dX10_wrong_1 : decode cX10_wrong 1 = .ok (.getfield 328, 3) := by decide +kernel
theorem dX10_wrong_4 : decode cX10_wrong 4 = .ok (.ireturn, 1) := by decide +kernel
theorem dX10_write_0 : decode cX10_write 0 = .ok (.iload_n 1, 1) := by decide +kernel
theorem dX10_write_1 : decode cX10_write 1 = .ok (.invokestatic 87, 3) := by decide +kernel
theorem dX10_write_4 : decode cX10_write 4 = .ok (.ifCond .ne 6, 3) := by decide +kernel
theorem dX10_write_7 : decode cX10_write 7 = .ok (.bipush (-2), 2) := by decide +kernel
theorem dX10_write_9 : decode cX10_write 9 = .ok (.ireturn, 1) := by decide +kernel
theorem dX10_write_10 : decode cX10_write 10 = .ok (.aload_n 0, 1) := by decide +kernel
theorem dX10_write_11 : decode cX10_write 11 = .ok (.getfield 7, 3) := by decide +kernel
theorem dX10_write_14 : decode cX10_write 14 = .ok (.iload_n 1, 1) := by decide +kernel
theorem dX10_write_15 : decode cX10_write 15 = .ok (.iaload, 1) := by decide +kernel
theorem dX10_write_16 : decode cX10_write 16 = .ok (.iconst (-1), 1) := by decide +kernel
theorem dX10_write_17 : decode cX10_write 17 = .ok (.if_icmp .ne 9, 3) := by decide +kernel
theorem dX10_write_20 : decode cX10_write 20 = .ok (.aload_n 0, 1) := by decide +kernel
theorem dX10_write_21 : decode cX10_write 21 = .ok (.iconst 1, 1) := by decide +kernel
theorem dX10_write_22 : decode cX10_write 22 = .ok (.invokevirtual 91, 3) := by decide +kernel
theorem dX10_write_25 : decode cX10_write 25 = .ok (.ireturn, 1) := by decide +kernel
theorem dX10_write_26 : decode cX10_write 26 = .ok (.aload_n 0, 1) := by decide +kernel
theorem dX10_write_27 : decode cX10_write 27 = .ok (.getfield 7, 3) := by decide +kernel
theorem dX10_write_30 : decode cX10_write 30 = .ok (.iload_n 1, 1) := by decide +kernel
theorem dX10_write_31 : decode cX10_write 31 = .ok (.iaload, 1) := by decide +kernel
theorem dX10_write_32 : decode cX10_write 32 = .ok (.iconst 2, 1) := by decide +kernel
theorem dX10_write_33 : decode cX10_write 33 = .ok (.aload_n 0, 1) := by decide +kernel
theorem dX10_write_34 : decode cX10_write 34 = .ok (.getfield 103, 3) := by decide +kernel
theorem dX10_write_37 : decode cX10_write 37 = .ok (.imul, 1) := by decide +kernel
theorem dX10_write_38 : decode cX10_write 38 = .ok (.if_icmp .ge 12, 3) := by decide +kernel
theorem dX10_write_41 : decode cX10_write 41 = .ok (.aload_n 0, 1) := by decide +kernel
theorem dX10_write_42 : decode cX10_write 42 = .ok (.getfield 7, 3) := by decide +kernel
theorem dX10_write_45 : decode cX10_write 45 = .ok (.iload_n 1, 1) := by decide +kernel
theorem dX10_write_46 : decode cX10_write 46 = .ok (.iaload, 1) := by decide +kernel
theorem dX10_write_47 : decode cX10_write 47 = .ok (.goto 9, 3) := by decide +kernel
theorem dX10_write_50 : decode cX10_write 50 = .ok (.iconst 2, 1) := by decide +kernel
theorem dX10_write_51 : decode cX10_write 51 = .ok (.aload_n 0, 1) := by decide +kernel
theorem dX10_write_52 : decode cX10_write 52 = .ok (.getfield 103, 3) := by decide +kernel
theorem dX10_write_55 : decode cX10_write 55 = .ok (.imul, 1) := by decide +kernel
theorem dX10_write_56 : decode cX10_write 56 = .ok (.istore_n 2, 1) := by decide +kernel
theorem dX10_write_57 : decode cX10_write 57 = .ok (.iconst 0, 1) := by decide +kernel
theorem dX10_write_58 : decode cX10_write 58 = .ok (.istore_n 3, 1) := by decide +kernel
theorem dX10_write_59 : decode cX10_write 59 = .ok (.iload_n 3, 1) := by decide +kernel
theorem dX10_write_60 : decode cX10_write 60 = .ok (.iload_n 2, 1) := by decide +kernel
theorem dX10_write_61 : decode cX10_write 61 = .ok (.if_icmp .ge 30, 3) := by decide +kernel
theorem dX10_write_64 : decode cX10_write 64 = .ok (.aload_n 0, 1) := by decide +kernel
theorem dX10_write_65 : decode cX10_write 65 = .ok (.getfield 13, 3) := by decide +kernel
theorem dX10_write_68 : decode cX10_write 68 = .ok (.bipush 40, 2) := by decide +kernel
theorem dX10_write_70 : decode cX10_write 70 = .ok (.iload_n 1, 1) := by decide +kernel
theorem dX10_write_71 : decode cX10_write 71 = .ok (.imul, 1) := by decide +kernel
theorem dX10_write_72 : decode cX10_write 72 = .ok (.iload_n 3, 1) := by decide +kernel
theorem dX10_write_73 : decode cX10_write 73 = .ok (.iadd, 1) := by decide +kernel
theorem dX10_write_74 : decode cX10_write 74 = .ok (.aload_n 0, 1) := by decide +kernel
theorem dX10_write_75 : decode cX10_write 75 = .ok (.iload_n 3, 1) := by decide +kernel
theorem dX10_write_76 : decode cX10_write 76 = .ok (.iconst 2, 1) := by decide +kernel
theorem dX10_write_77 : decode cX10_write 77 = .ok (.idiv, 1) := by decide +kernel
theorem dX10_write_78 : decode cX10_write 78 = .ok (.iload_n 3, 1) := by decide +kernel
theorem dX10_write_79 : decode cX10_write 79 = .ok (.iconst 2, 1) := by decide +kernel
theorem dX10_write_80 : decode cX10_write 80 = .ok (.irem, 1) := by decide +kernel
theorem dX10_write_81 : decode cX10_write 81 = .ok (.invokevirtual 215, 3) := by decide +kernel
theorem dX10_write_84 : decode cX10_write 84 = .ok (.lastore, 1) := by decide +kernel
theorem dX10_write_85 : decode cX10_write 85 = .ok (.iinc 3 1, 3) := by decide +kernel
theorem dX10_write_88 : decode cX10_write 88 = .ok (.goto (-29), 3) := by decide +kernel
theorem dX10_write_91 : decode cX10_write 91 = .ok (.iload_n 2, 1) := by decide +kernel
theorem dX10_write_92 : decode cX10_write 92 = .ok (.ireturn, 1) := by decide +kernel
theorem dX10_unseen_0 : decode cX10_unseen 0 = .ok (.iconst 0, 1) := by decide +kernel
theorem dX10_unseen_1 : decode cX10_unseen 1 = .ok (.istore_n 1, 1) := by decide +kernel
theorem dX10_unseen_2 : decode cX10_unseen 2 = .ok (.iconst 0, 1) := by decide +kernel
theorem dX10_unseen_3 : decode cX10_unseen 3 = .ok (.istore_n 2, 1) := by decide +kernel
theorem dX10_unseen_4 : decode cX10_unseen 4 = .ok (.iload_n 2, 1) := by decide +kernel
theorem dX10_unseen_5 : decode cX10_unseen 5 = .ok (.aload_n 0, 1) := by decide +kernel
theorem dX10_unseen_6 : decode cX10_unseen 6 = .ok (.getfield 103, 3) := by decide +kernel
theorem dX10_unseen_9 : decode cX10_unseen 9 = .ok (.if_icmp .ge 26, 3) := by decide +kernel
theorem dX10_unseen_12 : decode cX10_unseen 12 = .ok (.iload_n 1, 1) := by decide +kernel
theorem dX10_unseen_13 : decode cX10_unseen 13 = .ok (.aload_n 0, 1) := by decide +kernel
theorem dX10_unseen_14 : decode cX10_unseen 14 = .ok (.getfield 32, 3) := by decide +kernel
theorem dX10_unseen_17 : decode cX10_unseen 17 = .ok (.iload_n 2, 1) := by decide +kernel
theorem dX10_unseen_18 : decode cX10_unseen 18 = .ok (.iaload, 1) := by decide +kernel
theorem dX10_unseen_19 : decode cX10_unseen 19 = .ok (.ifCond .ne 7, 3) := by decide +kernel
theorem dX10_unseen_22 : decode cX10_unseen 22 = .ok (.iconst 1, 1) := by decide +kernel
theorem dX10_unseen_23 : decode cX10_unseen 23 = .ok (.goto 4, 3) := by decide +kernel
theorem dX10_unseen_26 : decode cX10_unseen 26 = .ok (.iconst 0, 1) := by decide +kernel
theorem dX10_unseen_27 : decode cX10_unseen 27 = .ok (.iadd, 1) := by decide +kernel
theorem dX10_unseen_28 : decode cX10_unseen 28 = .ok (.istore_n 1, 1) := by decide +kernel
theorem dX10_unseen_29 : decode cX10_unseen 29 = .ok (.iinc 2 1, 3) := by decide +kernel
theorem dX10_unseen_32 : decode cX10_unseen 32 = .ok (.goto (-28), 3) := by decide +kernel
theorem dX10_unseen_35 : decode cX10_unseen 35 = .ok (.iload_n 1, 1) := by decide +kernel
theorem dX10_unseen_36 : decode cX10_unseen 36 = .ok (.ireturn, 1) := by decide +kernel
theorem dX10_allReach_0 : decode cX10_allReach 0 = .ok (.iconst 0, 1) := by decide +kernel
theorem dX10_allReach_1 : decode cX10_allReach 1 = .ok (.istore_n 1, 1) := by decide +kernel
theorem dX10_allReach_2 : decode cX10_allReach 2 = .ok (.iconst 0, 1) := by decide +kernel
theorem dX10_allReach_3 : decode cX10_allReach 3 = .ok (.istore_n 2, 1) := by decide +kernel
theorem dX10_allReach_4 : decode cX10_allReach 4 = .ok (.iload_n 2, 1) := by decide +kernel
theorem dX10_allReach_5 : decode cX10_allReach 5 = .ok (.aload_n 0, 1) := by decide +kernel
theorem dX10_allReach_6 : decode cX10_allReach 6 = .ok (.getfield 103, 3) := by decide +kernel
theorem dX10_allReach_9 : decode cX10_allReach 9 = .ok (.if_icmp .ge 29, 3) := by decide +kernel
theorem dX10_allReach_12 : decode cX10_allReach 12 = .ok (.iload_n 1, 1) := by decide +kernel
theorem dX10_allReach_13 : decode cX10_allReach 13 = .ok (.aload_n 0, 1) := by decide +kernel
theorem dX10_allReach_14 : decode cX10_allReach 14 = .ok (.getfield 32, 3) := by decide +kernel
theorem dX10_allReach_17 : decode cX10_allReach 17 = .ok (.iload_n 2, 1) := by decide +kernel
theorem dX10_allReach_18 : decode cX10_allReach 18 = .ok (.iaload, 1) := by decide +kernel
theorem dX10_allReach_19 : decode cX10_allReach 19 = .ok (.iconst 2, 1) := by decide +kernel
theorem dX10_allReach_20 : decode cX10_allReach 20 = .ok (.if_icmp .ne 7, 3) := by decide +kernel
theorem dX10_allReach_23 : decode cX10_allReach 23 = .ok (.iconst 0, 1) := by decide +kernel
theorem dX10_allReach_24 : decode cX10_allReach 24 = .ok (.goto 6, 3) := by decide +kernel
theorem dX10_allReach_27 : decode cX10_allReach 27 = .ok (.iconst 1, 1) := by decide +kernel
theorem dX10_allReach_28 : decode cX10_allReach 28 = .ok (.iload_n 2, 1) := by decide +kernel
theorem dX10_allReach_29 : decode cX10_allReach 29 = .ok (.ishl, 1) := by decide +kernel
theorem dX10_allReach_30 : decode cX10_allReach 30 = .ok (.ior, 1) := by decide +kernel
theorem dX10_allReach_31 : decode cX10_allReach 31 = .ok (.istore_n 1, 1) := by decide +kernel
theorem dX10_allReach_32 : decode cX10_allReach 32 = .ok (.iinc 2 1, 3) := by decide +kernel
theorem dX10_allReach_35 : decode cX10_allReach 35 = .ok (.goto (-31), 3) := by decide +kernel
theorem dX10_allReach_38 : decode cX10_allReach 38 = .ok (.aload_n 0, 1) := by decide +kernel
theorem dX10_allReach_39 : decode cX10_allReach 39 = .ok (.iload_n 1, 1) := by decide +kernel
theorem dX10_allReach_40 : decode cX10_allReach 40 = .ok (.aload_n 0, 1) := by decide +kernel
theorem dX10_allReach_41 : decode cX10_allReach 41 = .ok (.invokevirtual 149, 3) := by decide +kernel
theorem dX10_allReach_44 : decode cX10_allReach 44 = .ok (.invokevirtual 181, 3) := by decide +kernel
theorem dX10_allReach_47 : decode cX10_allReach 47 = .ok (.ifCond .eq 7, 3) := by decide +kernel
theorem dX10_allReach_50 : decode cX10_allReach 50 = .ok (.iconst 1, 1) := by decide +kernel
theorem dX10_allReach_51 : decode cX10_allReach 51 = .ok (.goto 4, 3) := by decide +kernel
theorem dX10_allReach_54 : decode cX10_allReach 54 = .ok (.iconst 0, 1) := by decide +kernel
theorem dX10_allReach_55 : decode cX10_allReach 55 = .ok (.ireturn, 1) := by decide +kernel
theorem dX10_count_0 : decode cX10_count 0 = .ok (.iload_n 1, 1) := by decide +kernel
theorem dX10_count_1 : decode cX10_count 1 = .ok (.tableswitch 99 0 8 #[51, 56, 61, 66, 71, 79, 84, 89, 94], 51) := by decide +kernel
theorem dX10_count_52 : decode cX10_count 52 = .ok (.aload_n 0, 1) := by decide +kernel
theorem dX10_count_53 : decode cX10_count 53 = .ok (.getfield 68, 3) := by decide +kernel
theorem dX10_count_56 : decode cX10_count 56 = .ok (.ireturn, 1) := by decide +kernel
theorem dX10_count_57 : decode cX10_count 57 = .ok (.aload_n 0, 1) := by decide +kernel
theorem dX10_count_58 : decode cX10_count 58 = .ok (.getfield 103, 3) := by decide +kernel
theorem dX10_count_61 : decode cX10_count 61 = .ok (.ireturn, 1) := by decide +kernel
theorem dX10_count_62 : decode cX10_count 62 = .ok (.aload_n 0, 1) := by decide +kernel
theorem dX10_count_63 : decode cX10_count 63 = .ok (.getfield 111, 3) := by decide +kernel
theorem dX10_count_66 : decode cX10_count 66 = .ok (.ireturn, 1) := by decide +kernel
theorem dX10_count_67 : decode cX10_count 67 = .ok (.aload_n 0, 1) := by decide +kernel
theorem dX10_count_68 : decode cX10_count 68 = .ok (.getfield 108, 3) := by decide +kernel
theorem dX10_count_71 : decode cX10_count 71 = .ok (.ireturn, 1) := by decide +kernel
theorem dX10_count_72 : decode cX10_count 72 = .ok (.aload_n 0, 1) := by decide +kernel
theorem dX10_count_73 : decode cX10_count 73 = .ok (.invokevirtual 149, 3) := by decide +kernel
theorem dX10_count_76 : decode cX10_count 76 = .ok (.invokestatic 178, 3) := by decide +kernel
theorem dX10_count_79 : decode cX10_count 79 = .ok (.ireturn, 1) := by decide +kernel
theorem dX10_count_80 : decode cX10_count 80 = .ok (.aload_n 0, 1) := by decide +kernel
theorem dX10_count_81 : decode cX10_count 81 = .ok (.invokevirtual 334, 3) := by decide +kernel
theorem dX10_count_84 : decode cX10_count 84 = .ok (.ireturn, 1) := by decide +kernel
theorem dX10_count_85 : decode cX10_count 85 = .ok (.aload_n 0, 1) := by decide +kernel
theorem dX10_count_86 : decode cX10_count 86 = .ok (.invokevirtual 337, 3) := by decide +kernel
theorem dX10_count_89 : decode cX10_count 89 = .ok (.ireturn, 1) := by decide +kernel
theorem dX10_count_90 : decode cX10_count 90 = .ok (.aload_n 0, 1) := by decide +kernel
theorem dX10_count_91 : decode cX10_count 91 = .ok (.getfield 307, 3) := by decide +kernel
theorem dX10_count_94 : decode cX10_count 94 = .ok (.ireturn, 1) := by decide +kernel
theorem dX10_count_95 : decode cX10_count 95 = .ok (.aload_n 0, 1) := by decide +kernel
theorem dX10_count_96 : decode cX10_count 96 = .ok (.getfield 82, 3) := by decide +kernel
theorem dX10_count_99 : decode cX10_count 99 = .ok (.ireturn, 1) := by decide +kernel
theorem dX10_count_100 : decode cX10_count 100 = .ok (.bipush (-2), 2) := by decide +kernel
theorem dX10_count_102 : decode cX10_count 102 = .ok (.ireturn, 1) := by decide +kernel
theorem dX10_linkTells_0 : decode cX10_linkTells 0 = .ok (.lload_n 1, 1) := by decide +kernel
theorem dX10_linkTells_1 : decode cX10_linkTells 1 = .ok (.lstore 4, 2) := by decide +kernel
theorem dX10_linkTells_3 : decode cX10_linkTells 3 = .ok (.iconst 0, 1) := by decide +kernel
theorem dX10_linkTells_4 : decode cX10_linkTells 4 = .ok (.istore 6, 2) := by decide +kernel
theorem dX10_linkTells_6 : decode cX10_linkTells 6 = .ok (.iload 6, 2) := by decide +kernel
theorem dX10_linkTells_8 : decode cX10_linkTells 8 = .ok (.iconst 5, 1) := by decide +kernel
theorem dX10_linkTells_9 : decode cX10_linkTells 9 = .ok (.if_icmp .ge 26, 3) := by decide +kernel
theorem dX10_linkTells_12 : decode cX10_linkTells 12 = .ok (.ldc2_w 340, 3) := by decide +kernel
theorem dX10_linkTells_15 : decode cX10_linkTells 15 = .ok (.lload 4, 2) := by decide +kernel
theorem dX10_linkTells_17 : decode cX10_linkTells 17 = .ok (.lmul, 1) := by decide +kernel
theorem dX10_linkTells_18 : decode cX10_linkTells 18 = .ok (.aload_n 0, 1) := by decide +kernel
theorem dX10_linkTells_19 : decode cX10_linkTells 19 = .ok (.iload_n 3, 1) := by decide +kernel
theorem dX10_linkTells_20 : decode cX10_linkTells 20 = .ok (.iload 6, 2) := by decide +kernel
theorem dX10_linkTells_22 : decode cX10_linkTells 22 = .ok (.invokevirtual 137, 3) := by decide +kernel
theorem dX10_linkTells_25 : decode cX10_linkTells 25 = .ok (.i2l, 1) := by decide +kernel
theorem dX10_linkTells_26 : decode cX10_linkTells 26 = .ok (.ladd, 1) := by decide +kernel
theorem dX10_linkTells_27 : decode cX10_linkTells 27 = .ok (.lstore 4, 2) := by decide +kernel
theorem dX10_linkTells_29 : decode cX10_linkTells 29 = .ok (.iinc 6 1, 3) := by decide +kernel
theorem dX10_linkTells_32 : decode cX10_linkTells 32 = .ok (.goto (-26), 3) := by decide +kernel
theorem dX10_linkTells_35 : decode cX10_linkTells 35 = .ok (.ldc2_w 340, 3) := by decide +kernel
theorem dX10_linkTells_38 : decode cX10_linkTells 38 = .ok (.lload 4, 2) := by decide +kernel
theorem dX10_linkTells_40 : decode cX10_linkTells 40 = .ok (.lmul, 1) := by decide +kernel
theorem dX10_linkTells_41 : decode cX10_linkTells 41 = .ok (.aload_n 0, 1) := by decide +kernel
theorem dX10_linkTells_42 : decode cX10_linkTells 42 = .ok (.iload_n 3, 1) := by decide +kernel
theorem dX10_linkTells_43 : decode cX10_linkTells 43 = .ok (.invokevirtual 234, 3) := by decide +kernel
theorem dX10_linkTells_46 : decode cX10_linkTells 46 = .ok (.i2l, 1) := by decide +kernel
theorem dX10_linkTells_47 : decode cX10_linkTells 47 = .ok (.ladd, 1) := by decide +kernel
theorem dX10_linkTells_48 : decode cX10_linkTells 48 = .ok (.lstore 4, 2) := by decide +kernel
theorem dX10_linkTells_50 : decode cX10_linkTells 50 = .ok (.ldc2_w 340, 3) := by decide +kernel
theorem dX10_linkTells_53 : decode cX10_linkTells 53 = .ok (.lload 4, 2) := by decide +kernel
theorem dX10_linkTells_55 : decode cX10_linkTells 55 = .ok (.lmul, 1) := by decide +kernel
theorem dX10_linkTells_56 : decode cX10_linkTells 56 = .ok (.aload_n 0, 1) := by decide +kernel
theorem dX10_linkTells_57 : decode cX10_linkTells 57 = .ok (.iload_n 3, 1) := by decide +kernel
theorem dX10_linkTells_58 : decode cX10_linkTells 58 = .ok (.iconst 0, 1) := by decide +kernel
theorem dX10_linkTells_59 : decode cX10_linkTells 59 = .ok (.invokevirtual 215, 3) := by decide +kernel
theorem dX10_linkTells_62 : decode cX10_linkTells 62 = .ok (.ladd, 1) := by decide +kernel
theorem dX10_linkTells_63 : decode cX10_linkTells 63 = .ok (.lstore 4, 2) := by decide +kernel
theorem dX10_linkTells_65 : decode cX10_linkTells 65 = .ok (.ldc2_w 340, 3) := by decide +kernel
theorem dX10_linkTells_68 : decode cX10_linkTells 68 = .ok (.lload 4, 2) := by decide +kernel
theorem dX10_linkTells_70 : decode cX10_linkTells 70 = .ok (.lmul, 1) := by decide +kernel
theorem dX10_linkTells_71 : decode cX10_linkTells 71 = .ok (.aload_n 0, 1) := by decide +kernel
theorem dX10_linkTells_72 : decode cX10_linkTells 72 = .ok (.iload_n 3, 1) := by decide +kernel
theorem dX10_linkTells_73 : decode cX10_linkTells 73 = .ok (.iconst 1, 1) := by decide +kernel
theorem dX10_linkTells_74 : decode cX10_linkTells 74 = .ok (.invokevirtual 215, 3) := by decide +kernel
theorem dX10_linkTells_77 : decode cX10_linkTells 77 = .ok (.ladd, 1) := by decide +kernel
theorem dX10_linkTells_78 : decode cX10_linkTells 78 = .ok (.lreturn, 1) := by decide +kernel
theorem dX10_pairTells_0 : decode cX10_pairTells 0 = .ok (.lload_n 1, 1) := by decide +kernel
theorem dX10_pairTells_1 : decode cX10_pairTells 1 = .ok (.lstore_n 3, 1) := by decide +kernel
theorem dX10_pairTells_2 : decode cX10_pairTells 2 = .ok (.iconst 0, 1) := by decide +kernel
theorem dX10_pairTells_3 : decode cX10_pairTells 3 = .ok (.istore 5, 2) := by decide +kernel
theorem dX10_pairTells_5 : decode cX10_pairTells 5 = .ok (.iload 5, 2) := by decide +kernel
theorem dX10_pairTells_7 : decode cX10_pairTells 7 = .ok (.aload_n 0, 1) := by decide +kernel
theorem dX10_pairTells_8 : decode cX10_pairTells 8 = .ok (.getfield 68, 3) := by decide +kernel
theorem dX10_pairTells_11 : decode cX10_pairTells 11 = .ok (.if_icmp .ge 62, 3) := by decide +kernel
theorem dX10_pairTells_14 : decode cX10_pairTells 14 = .ok (.iload 5, 2) := by decide +kernel
theorem dX10_pairTells_16 : decode cX10_pairTells 16 = .ok (.iconst 1, 1) := by decide +kernel
theorem dX10_pairTells_17 : decode cX10_pairTells 17 = .ok (.iadd, 1) := by decide +kernel
theorem dX10_pairTells_18 : decode cX10_pairTells 18 = .ok (.istore 6, 2) := by decide +kernel
theorem dX10_pairTells_20 : decode cX10_pairTells 20 = .ok (.iload 6, 2) := by decide +kernel
theorem dX10_pairTells_22 : decode cX10_pairTells 22 = .ok (.aload_n 0, 1) := by decide +kernel
theorem dX10_pairTells_23 : decode cX10_pairTells 23 = .ok (.getfield 68, 3) := by decide +kernel
theorem dX10_pairTells_26 : decode cX10_pairTells 26 = .ok (.if_icmp .ge 41, 3) := by decide +kernel
theorem dX10_pairTells_29 : decode cX10_pairTells 29 = .ok (.ldc2_w 340, 3) := by decide +kernel
theorem dX10_pairTells_32 : decode cX10_pairTells 32 = .ok (.lload_n 3, 1) := by decide +kernel
theorem dX10_pairTells_33 : decode cX10_pairTells 33 = .ok (.lmul, 1) := by decide +kernel
theorem dX10_pairTells_34 : decode cX10_pairTells 34 = .ok (.aload_n 0, 1) := by decide +kernel
theorem dX10_pairTells_35 : decode cX10_pairTells 35 = .ok (.iload 5, 2) := by decide +kernel
theorem dX10_pairTells_37 : decode cX10_pairTells 37 = .ok (.iload 6, 2) := by decide +kernel
theorem dX10_pairTells_39 : decode cX10_pairTells 39 = .ok (.iconst 0, 1) := by decide +kernel
theorem dX10_pairTells_40 : decode cX10_pairTells 40 = .ok (.invokevirtual 171, 3) := by decide +kernel
theorem dX10_pairTells_43 : decode cX10_pairTells 43 = .ok (.ladd, 1) := by decide +kernel
theorem dX10_pairTells_44 : decode cX10_pairTells 44 = .ok (.lstore_n 3, 1) := by decide +kernel
theorem dX10_pairTells_45 : decode cX10_pairTells 45 = .ok (.ldc2_w 340, 3) := by decide +kernel
theorem dX10_pairTells_48 : decode cX10_pairTells 48 = .ok (.lload_n 3, 1) := by decide +kernel
theorem dX10_pairTells_49 : decode cX10_pairTells 49 = .ok (.lmul, 1) := by decide +kernel
theorem dX10_pairTells_50 : decode cX10_pairTells 50 = .ok (.aload_n 0, 1) := by decide +kernel
theorem dX10_pairTells_51 : decode cX10_pairTells 51 = .ok (.iload 5, 2) := by decide +kernel
theorem dX10_pairTells_53 : decode cX10_pairTells 53 = .ok (.iload 6, 2) := by decide +kernel
theorem dX10_pairTells_55 : decode cX10_pairTells 55 = .ok (.iconst 1, 1) := by decide +kernel
theorem dX10_pairTells_56 : decode cX10_pairTells 56 = .ok (.invokevirtual 171, 3) := by decide +kernel
theorem dX10_pairTells_59 : decode cX10_pairTells 59 = .ok (.ladd, 1) := by decide +kernel
theorem dX10_pairTells_60 : decode cX10_pairTells 60 = .ok (.lstore_n 3, 1) := by decide +kernel
theorem dX10_pairTells_61 : decode cX10_pairTells 61 = .ok (.iinc 6 1, 3) := by decide +kernel
theorem dX10_pairTells_64 : decode cX10_pairTells 64 = .ok (.goto (-44), 3) := by decide +kernel
theorem dX10_pairTells_67 : decode cX10_pairTells 67 = .ok (.iinc 5 1, 3) := by decide +kernel
theorem dX10_pairTells_70 : decode cX10_pairTells 70 = .ok (.goto (-65), 3) := by decide +kernel
theorem dX10_pairTells_73 : decode cX10_pairTells 73 = .ok (.lload_n 3, 1) := by decide +kernel
theorem dX10_pairTells_74 : decode cX10_pairTells 74 = .ok (.lreturn, 1) := by decide +kernel
theorem dX10_digest_0 : decode cX10_digest 0 = .ok (.ldc2_w 342, 3) := by decide +kernel
theorem dX10_digest_3 : decode cX10_digest 3 = .ok (.lstore_n 1, 1) := by decide +kernel
theorem dX10_digest_4 : decode cX10_digest 4 = .ok (.iconst 0, 1) := by decide +kernel
theorem dX10_digest_5 : decode cX10_digest 5 = .ok (.istore_n 3, 1) := by decide +kernel
theorem dX10_digest_6 : decode cX10_digest 6 = .ok (.iload_n 3, 1) := by decide +kernel
theorem dX10_digest_7 : decode cX10_digest 7 = .ok (.bipush 8, 2) := by decide +kernel
theorem dX10_digest_9 : decode cX10_digest 9 = .ok (.if_icmp .ge 22, 3) := by decide +kernel
theorem dX10_digest_12 : decode cX10_digest 12 = .ok (.ldc2_w 340, 3) := by decide +kernel
theorem dX10_digest_15 : decode cX10_digest 15 = .ok (.lload_n 1, 1) := by decide +kernel
theorem dX10_digest_16 : decode cX10_digest 16 = .ok (.lmul, 1) := by decide +kernel
theorem dX10_digest_17 : decode cX10_digest 17 = .ok (.aload_n 0, 1) := by decide +kernel
theorem dX10_digest_18 : decode cX10_digest 18 = .ok (.iload_n 3, 1) := by decide +kernel
theorem dX10_digest_19 : decode cX10_digest 19 = .ok (.invokevirtual 344, 3) := by decide +kernel
theorem dX10_digest_22 : decode cX10_digest 22 = .ok (.i2l, 1) := by decide +kernel
theorem dX10_digest_23 : decode cX10_digest 23 = .ok (.ladd, 1) := by decide +kernel
theorem dX10_digest_24 : decode cX10_digest 24 = .ok (.lstore_n 1, 1) := by decide +kernel
theorem dX10_digest_25 : decode cX10_digest 25 = .ok (.iinc 3 1, 3) := by decide +kernel
theorem dX10_digest_28 : decode cX10_digest 28 = .ok (.goto (-22), 3) := by decide +kernel
theorem dX10_digest_31 : decode cX10_digest 31 = .ok (.iconst 0, 1) := by decide +kernel
theorem dX10_digest_32 : decode cX10_digest 32 = .ok (.istore_n 3, 1) := by decide +kernel
theorem dX10_digest_33 : decode cX10_digest 33 = .ok (.iload_n 3, 1) := by decide +kernel
theorem dX10_digest_34 : decode cX10_digest 34 = .ok (.aload_n 0, 1) := by decide +kernel
theorem dX10_digest_35 : decode cX10_digest 35 = .ok (.getfield 103, 3) := by decide +kernel
theorem dX10_digest_38 : decode cX10_digest 38 = .ok (.if_icmp .ge 16, 3) := by decide +kernel
theorem dX10_digest_41 : decode cX10_digest 41 = .ok (.aload_n 0, 1) := by decide +kernel
theorem dX10_digest_42 : decode cX10_digest 42 = .ok (.lload_n 1, 1) := by decide +kernel
theorem dX10_digest_43 : decode cX10_digest 43 = .ok (.iload_n 3, 1) := by decide +kernel
theorem dX10_digest_44 : decode cX10_digest 44 = .ok (.invokevirtual 347, 3) := by decide +kernel
theorem dX10_digest_47 : decode cX10_digest 47 = .ok (.lstore_n 1, 1) := by decide +kernel
theorem dX10_digest_48 : decode cX10_digest 48 = .ok (.iinc 3 1, 3) := by decide +kernel
theorem dX10_digest_51 : decode cX10_digest 51 = .ok (.goto (-18), 3) := by decide +kernel
theorem dX10_digest_54 : decode cX10_digest 54 = .ok (.ldc2_w 340, 3) := by decide +kernel
theorem dX10_digest_57 : decode cX10_digest 57 = .ok (.lload_n 1, 1) := by decide +kernel
theorem dX10_digest_58 : decode cX10_digest 58 = .ok (.lmul, 1) := by decide +kernel
theorem dX10_digest_59 : decode cX10_digest 59 = .ok (.aload_n 0, 1) := by decide +kernel
theorem dX10_digest_60 : decode cX10_digest 60 = .ok (.iconst 0, 1) := by decide +kernel
theorem dX10_digest_61 : decode cX10_digest 61 = .ok (.invokevirtual 168, 3) := by decide +kernel
theorem dX10_digest_64 : decode cX10_digest 64 = .ok (.ladd, 1) := by decide +kernel
theorem dX10_digest_65 : decode cX10_digest 65 = .ok (.lstore_n 1, 1) := by decide +kernel
theorem dX10_digest_66 : decode cX10_digest 66 = .ok (.ldc2_w 340, 3) := by decide +kernel
theorem dX10_digest_69 : decode cX10_digest 69 = .ok (.lload_n 1, 1) := by decide +kernel
theorem dX10_digest_70 : decode cX10_digest 70 = .ok (.lmul, 1) := by decide +kernel
theorem dX10_digest_71 : decode cX10_digest 71 = .ok (.aload_n 0, 1) := by decide +kernel
theorem dX10_digest_72 : decode cX10_digest 72 = .ok (.iconst 1, 1) := by decide +kernel
theorem dX10_digest_73 : decode cX10_digest 73 = .ok (.invokevirtual 168, 3) := by decide +kernel
theorem dX10_digest_76 : decode cX10_digest 76 = .ok (.ladd, 1) := by decide +kernel
theorem dX10_digest_77 : decode cX10_digest 77 = .ok (.lstore_n 1, 1) := by decide +kernel
theorem dX10_digest_78 : decode cX10_digest 78 = .ok (.aload_n 0, 1) := by decide +kernel
theorem dX10_digest_79 : decode cX10_digest 79 = .ok (.invokevirtual 299, 3) := by decide +kernel
theorem dX10_digest_82 : decode cX10_digest 82 = .ok (.iconst 0, 1) := by decide +kernel
theorem dX10_digest_83 : decode cX10_digest 83 = .ok (.istore_n 3, 1) := by decide +kernel
theorem dX10_digest_84 : decode cX10_digest 84 = .ok (.iload_n 3, 1) := by decide +kernel
theorem dX10_digest_85 : decode cX10_digest 85 = .ok (.iconst 5, 1) := by decide +kernel
theorem dX10_digest_86 : decode cX10_digest 86 = .ok (.if_icmp .ge 21, 3) := by decide +kernel
theorem dX10_digest_89 : decode cX10_digest 89 = .ok (.ldc2_w 340, 3) := by decide +kernel
theorem dX10_digest_92 : decode cX10_digest 92 = .ok (.lload_n 1, 1) := by decide +kernel
theorem dX10_digest_93 : decode cX10_digest 93 = .ok (.lmul, 1) := by decide +kernel
theorem dX10_digest_94 : decode cX10_digest 94 = .ok (.aload_n 0, 1) := by decide +kernel
theorem dX10_digest_95 : decode cX10_digest 95 = .ok (.iload_n 3, 1) := by decide +kernel
theorem dX10_digest_96 : decode cX10_digest 96 = .ok (.invokevirtual 302, 3) := by decide +kernel
theorem dX10_digest_99 : decode cX10_digest 99 = .ok (.ladd, 1) := by decide +kernel
theorem dX10_digest_100 : decode cX10_digest 100 = .ok (.lstore_n 1, 1) := by decide +kernel
theorem dX10_digest_101 : decode cX10_digest 101 = .ok (.iinc 3 1, 3) := by decide +kernel
theorem dX10_digest_104 : decode cX10_digest 104 = .ok (.goto (-20), 3) := by decide +kernel
theorem dX10_digest_107 : decode cX10_digest 107 = .ok (.ldc2_w 340, 3) := by decide +kernel
theorem dX10_digest_110 : decode cX10_digest 110 = .ok (.lload_n 1, 1) := by decide +kernel
theorem dX10_digest_111 : decode cX10_digest 111 = .ok (.lmul, 1) := by decide +kernel
theorem dX10_digest_112 : decode cX10_digest 112 = .ok (.aload_n 0, 1) := by decide +kernel
theorem dX10_digest_113 : decode cX10_digest 113 = .ok (.invokevirtual 237, 3) := by decide +kernel
theorem dX10_digest_116 : decode cX10_digest 116 = .ok (.i2l, 1) := by decide +kernel
theorem dX10_digest_117 : decode cX10_digest 117 = .ok (.ladd, 1) := by decide +kernel
theorem dX10_digest_118 : decode cX10_digest 118 = .ok (.lstore_n 1, 1) := by decide +kernel
theorem dX10_digest_119 : decode cX10_digest 119 = .ok (.ldc2_w 340, 3) := by decide +kernel
theorem dX10_digest_122 : decode cX10_digest 122 = .ok (.lload_n 1, 1) := by decide +kernel
theorem dX10_digest_123 : decode cX10_digest 123 = .ok (.lmul, 1) := by decide +kernel
theorem dX10_digest_124 : decode cX10_digest 124 = .ok (.aload_n 0, 1) := by decide +kernel
theorem dX10_digest_125 : decode cX10_digest 125 = .ok (.iconst 0, 1) := by decide +kernel
theorem dX10_digest_126 : decode cX10_digest 126 = .ok (.invokevirtual 175, 3) := by decide +kernel
theorem dX10_digest_129 : decode cX10_digest 129 = .ok (.ladd, 1) := by decide +kernel
theorem dX10_digest_130 : decode cX10_digest 130 = .ok (.lstore_n 1, 1) := by decide +kernel
theorem dX10_digest_131 : decode cX10_digest 131 = .ok (.ldc2_w 340, 3) := by decide +kernel
theorem dX10_digest_134 : decode cX10_digest 134 = .ok (.lload_n 1, 1) := by decide +kernel
theorem dX10_digest_135 : decode cX10_digest 135 = .ok (.lmul, 1) := by decide +kernel
theorem dX10_digest_136 : decode cX10_digest 136 = .ok (.aload_n 0, 1) := by decide +kernel
theorem dX10_digest_137 : decode cX10_digest 137 = .ok (.iconst 1, 1) := by decide +kernel
theorem dX10_digest_138 : decode cX10_digest 138 = .ok (.invokevirtual 175, 3) := by decide +kernel
theorem dX10_digest_141 : decode cX10_digest 141 = .ok (.ladd, 1) := by decide +kernel
theorem dX10_digest_142 : decode cX10_digest 142 = .ok (.lstore_n 1, 1) := by decide +kernel
theorem dX10_digest_143 : decode cX10_digest 143 = .ok (.iconst 0, 1) := by decide +kernel
theorem dX10_digest_144 : decode cX10_digest 144 = .ok (.istore_n 3, 1) := by decide +kernel
theorem dX10_digest_145 : decode cX10_digest 145 = .ok (.iload_n 3, 1) := by decide +kernel
theorem dX10_digest_146 : decode cX10_digest 146 = .ok (.aload_n 0, 1) := by decide +kernel
theorem dX10_digest_147 : decode cX10_digest 147 = .ok (.getfield 103, 3) := by decide +kernel
theorem dX10_digest_150 : decode cX10_digest 150 = .ok (.if_icmp .gt 22, 3) := by decide +kernel
theorem dX10_digest_153 : decode cX10_digest 153 = .ok (.ldc2_w 340, 3) := by decide +kernel
theorem dX10_digest_156 : decode cX10_digest 156 = .ok (.lload_n 1, 1) := by decide +kernel
theorem dX10_digest_157 : decode cX10_digest 157 = .ok (.lmul, 1) := by decide +kernel
theorem dX10_digest_158 : decode cX10_digest 158 = .ok (.aload_n 0, 1) := by decide +kernel
theorem dX10_digest_159 : decode cX10_digest 159 = .ok (.iload_n 3, 1) := by decide +kernel
theorem dX10_digest_160 : decode cX10_digest 160 = .ok (.invokevirtual 185, 3) := by decide +kernel
theorem dX10_digest_163 : decode cX10_digest 163 = .ok (.i2l, 1) := by decide +kernel
theorem dX10_digest_164 : decode cX10_digest 164 = .ok (.ladd, 1) := by decide +kernel
theorem dX10_digest_165 : decode cX10_digest 165 = .ok (.lstore_n 1, 1) := by decide +kernel
theorem dX10_digest_166 : decode cX10_digest 166 = .ok (.iinc 3 1, 3) := by decide +kernel
theorem dX10_digest_169 : decode cX10_digest 169 = .ok (.goto (-24), 3) := by decide +kernel
theorem dX10_digest_172 : decode cX10_digest 172 = .ok (.ldc2_w 340, 3) := by decide +kernel
theorem dX10_digest_175 : decode cX10_digest 175 = .ok (.lload_n 1, 1) := by decide +kernel
theorem dX10_digest_176 : decode cX10_digest 176 = .ok (.lmul, 1) := by decide +kernel
theorem dX10_digest_177 : decode cX10_digest 177 = .ok (.aload_n 0, 1) := by decide +kernel
theorem dX10_digest_178 : decode cX10_digest 178 = .ok (.iconst 1, 1) := by decide +kernel
theorem dX10_digest_179 : decode cX10_digest 179 = .ok (.iconst 2, 1) := by decide +kernel
theorem dX10_digest_180 : decode cX10_digest 180 = .ok (.iconst 0, 1) := by decide +kernel
theorem dX10_digest_181 : decode cX10_digest 181 = .ok (.invokevirtual 203, 3) := by decide +kernel
theorem dX10_digest_184 : decode cX10_digest 184 = .ok (.ladd, 1) := by decide +kernel
theorem dX10_digest_185 : decode cX10_digest 185 = .ok (.lstore_n 1, 1) := by decide +kernel
theorem dX10_digest_186 : decode cX10_digest 186 = .ok (.ldc2_w 340, 3) := by decide +kernel
theorem dX10_digest_189 : decode cX10_digest 189 = .ok (.lload_n 1, 1) := by decide +kernel
theorem dX10_digest_190 : decode cX10_digest 190 = .ok (.lmul, 1) := by decide +kernel
theorem dX10_digest_191 : decode cX10_digest 191 = .ok (.aload_n 0, 1) := by decide +kernel
theorem dX10_digest_192 : decode cX10_digest 192 = .ok (.iconst 1, 1) := by decide +kernel
theorem dX10_digest_193 : decode cX10_digest 193 = .ok (.iconst 2, 1) := by decide +kernel
theorem dX10_digest_194 : decode cX10_digest 194 = .ok (.iconst 1, 1) := by decide +kernel
theorem dX10_digest_195 : decode cX10_digest 195 = .ok (.invokevirtual 203, 3) := by decide +kernel
theorem dX10_digest_198 : decode cX10_digest 198 = .ok (.ladd, 1) := by decide +kernel
theorem dX10_digest_199 : decode cX10_digest 199 = .ok (.lstore_n 1, 1) := by decide +kernel
theorem dX10_digest_200 : decode cX10_digest 200 = .ok (.ldc2_w 340, 3) := by decide +kernel
theorem dX10_digest_203 : decode cX10_digest 203 = .ok (.lload_n 1, 1) := by decide +kernel
theorem dX10_digest_204 : decode cX10_digest 204 = .ok (.lmul, 1) := by decide +kernel
theorem dX10_digest_205 : decode cX10_digest 205 = .ok (.aload_n 0, 1) := by decide +kernel
theorem dX10_digest_206 : decode cX10_digest 206 = .ok (.bipush 9, 2) := by decide +kernel
theorem dX10_digest_208 : decode cX10_digest 208 = .ok (.bipush 10, 2) := by decide +kernel
theorem dX10_digest_210 : decode cX10_digest 210 = .ok (.iconst 0, 1) := by decide +kernel
theorem dX10_digest_211 : decode cX10_digest 211 = .ok (.invokevirtual 203, 3) := by decide +kernel
theorem dX10_digest_214 : decode cX10_digest 214 = .ok (.ladd, 1) := by decide +kernel
theorem dX10_digest_215 : decode cX10_digest 215 = .ok (.lstore_n 1, 1) := by decide +kernel
theorem dX10_digest_216 : decode cX10_digest 216 = .ok (.ldc2_w 340, 3) := by decide +kernel
theorem dX10_digest_219 : decode cX10_digest 219 = .ok (.lload_n 1, 1) := by decide +kernel
theorem dX10_digest_220 : decode cX10_digest 220 = .ok (.lmul, 1) := by decide +kernel
theorem dX10_digest_221 : decode cX10_digest 221 = .ok (.aload_n 0, 1) := by decide +kernel
theorem dX10_digest_222 : decode cX10_digest 222 = .ok (.invokevirtual 206, 3) := by decide +kernel
theorem dX10_digest_225 : decode cX10_digest 225 = .ok (.i2l, 1) := by decide +kernel
theorem dX10_digest_226 : decode cX10_digest 226 = .ok (.ladd, 1) := by decide +kernel
theorem dX10_digest_227 : decode cX10_digest 227 = .ok (.lstore_n 1, 1) := by decide +kernel
theorem dX10_digest_228 : decode cX10_digest 228 = .ok (.ldc2_w 340, 3) := by decide +kernel
theorem dX10_digest_231 : decode cX10_digest 231 = .ok (.lload_n 1, 1) := by decide +kernel
theorem dX10_digest_232 : decode cX10_digest 232 = .ok (.lmul, 1) := by decide +kernel
theorem dX10_digest_233 : decode cX10_digest 233 = .ok (.aload_n 0, 1) := by decide +kernel
theorem dX10_digest_234 : decode cX10_digest 234 = .ok (.invokevirtual 209, 3) := by decide +kernel
theorem dX10_digest_237 : decode cX10_digest 237 = .ok (.i2l, 1) := by decide +kernel
theorem dX10_digest_238 : decode cX10_digest 238 = .ok (.ladd, 1) := by decide +kernel
theorem dX10_digest_239 : decode cX10_digest 239 = .ok (.lstore_n 1, 1) := by decide +kernel
theorem dX10_digest_240 : decode cX10_digest 240 = .ok (.ldc2_w 340, 3) := by decide +kernel
theorem dX10_digest_243 : decode cX10_digest 243 = .ok (.lload_n 1, 1) := by decide +kernel
theorem dX10_digest_244 : decode cX10_digest 244 = .ok (.lmul, 1) := by decide +kernel
theorem dX10_digest_245 : decode cX10_digest 245 = .ok (.aload_n 0, 1) := by decide +kernel
theorem dX10_digest_246 : decode cX10_digest 246 = .ok (.invokevirtual 218, 3) := by decide +kernel
theorem dX10_digest_249 : decode cX10_digest 249 = .ok (.i2l, 1) := by decide +kernel
theorem dX10_digest_250 : decode cX10_digest 250 = .ok (.ladd, 1) := by decide +kernel
theorem dX10_digest_251 : decode cX10_digest 251 = .ok (.lstore_n 1, 1) := by decide +kernel
theorem dX10_digest_252 : decode cX10_digest 252 = .ok (.aload_n 0, 1) := by decide +kernel
theorem dX10_digest_253 : decode cX10_digest 253 = .ok (.lload_n 1, 1) := by decide +kernel
theorem dX10_digest_254 : decode cX10_digest 254 = .ok (.invokevirtual 350, 3) := by decide +kernel
theorem dX10_digest_257 : decode cX10_digest 257 = .ok (.lstore_n 1, 1) := by decide +kernel
theorem dX10_digest_258 : decode cX10_digest 258 = .ok (.ldc2_w 340, 3) := by decide +kernel
theorem dX10_digest_261 : decode cX10_digest 261 = .ok (.lload_n 1, 1) := by decide +kernel
theorem dX10_digest_262 : decode cX10_digest 262 = .ok (.lmul, 1) := by decide +kernel
theorem dX10_digest_263 : decode cX10_digest 263 = .ok (.aload_n 0, 1) := by decide +kernel
theorem dX10_digest_264 : decode cX10_digest 264 = .ok (.getfield 328, 3) := by decide +kernel
theorem dX10_digest_267 : decode cX10_digest 267 = .ok (.i2l, 1) := by decide +kernel
theorem dX10_digest_268 : decode cX10_digest 268 = .ok (.ladd, 1) := by decide +kernel
theorem dX10_digest_269 : decode cX10_digest 269 = .ok (.lreturn, 1) := by decide +kernel
theorem dJ6_numberOfTrailingZeros_0f7a4_0 : decode cJ6_numberOfTrailingZeros_0f7a4 0 = .ok (.iload_n 0, 1) := by decide +kernel
theorem dJ6_numberOfTrailingZeros_0f7a4_1 : decode cJ6_numberOfTrailingZeros_0f7a4 1 = .ok (.iconst (-1), 1) := by decide +kernel
theorem dJ6_numberOfTrailingZeros_0f7a4_2 : decode cJ6_numberOfTrailingZeros_0f7a4 2 = .ok (.ixor, 1) := by decide +kernel
theorem dJ6_numberOfTrailingZeros_0f7a4_3 : decode cJ6_numberOfTrailingZeros_0f7a4 3 = .ok (.iload_n 0, 1) := by decide +kernel
theorem dJ6_numberOfTrailingZeros_0f7a4_4 : decode cJ6_numberOfTrailingZeros_0f7a4 4 = .ok (.iconst 1, 1) := by decide +kernel
theorem dJ6_numberOfTrailingZeros_0f7a4_5 : decode cJ6_numberOfTrailingZeros_0f7a4 5 = .ok (.isub, 1) := by decide +kernel
theorem dJ6_numberOfTrailingZeros_0f7a4_6 : decode cJ6_numberOfTrailingZeros_0f7a4 6 = .ok (.iand, 1) := by decide +kernel
theorem dJ6_numberOfTrailingZeros_0f7a4_7 : decode cJ6_numberOfTrailingZeros_0f7a4 7 = .ok (.istore_n 0, 1) := by decide +kernel
theorem dJ6_numberOfTrailingZeros_0f7a4_8 : decode cJ6_numberOfTrailingZeros_0f7a4 8 = .ok (.iload_n 0, 1) := by decide +kernel
theorem dJ6_numberOfTrailingZeros_0f7a4_9 : decode cJ6_numberOfTrailingZeros_0f7a4 9 = .ok (.ifCond .gt 8, 3) := by decide +kernel
theorem dJ6_numberOfTrailingZeros_0f7a4_12 : decode cJ6_numberOfTrailingZeros_0f7a4 12 = .ok (.iload_n 0, 1) := by decide +kernel
theorem dJ6_numberOfTrailingZeros_0f7a4_13 : decode cJ6_numberOfTrailingZeros_0f7a4 13 = .ok (.bipush 32, 2) := by decide +kernel
theorem dJ6_numberOfTrailingZeros_0f7a4_15 : decode cJ6_numberOfTrailingZeros_0f7a4 15 = .ok (.iand, 1) := by decide +kernel
theorem dJ6_numberOfTrailingZeros_0f7a4_16 : decode cJ6_numberOfTrailingZeros_0f7a4 16 = .ok (.ireturn, 1) := by decide +kernel
theorem dJ6_numberOfTrailingZeros_0f7a4_17 : decode cJ6_numberOfTrailingZeros_0f7a4 17 = .ok (.iconst 1, 1) := by decide +kernel
theorem dJ6_numberOfTrailingZeros_0f7a4_18 : decode cJ6_numberOfTrailingZeros_0f7a4 18 = .ok (.istore_n 1, 1) := by decide +kernel
theorem dJ6_numberOfTrailingZeros_0f7a4_19 : decode cJ6_numberOfTrailingZeros_0f7a4 19 = .ok (.iload_n 0, 1) := by decide +kernel
theorem dJ6_numberOfTrailingZeros_0f7a4_20 : decode cJ6_numberOfTrailingZeros_0f7a4 20 = .ok (.ldc_w 264, 3) := by decide +kernel
theorem dJ6_numberOfTrailingZeros_0f7a4_23 : decode cJ6_numberOfTrailingZeros_0f7a4 23 = .ok (.if_icmp .le 11, 3) := by decide +kernel
theorem dJ6_numberOfTrailingZeros_0f7a4_26 : decode cJ6_numberOfTrailingZeros_0f7a4 26 = .ok (.iinc 1 16, 3) := by decide +kernel
theorem dJ6_numberOfTrailingZeros_0f7a4_29 : decode cJ6_numberOfTrailingZeros_0f7a4 29 = .ok (.iload_n 0, 1) := by decide +kernel
theorem dJ6_numberOfTrailingZeros_0f7a4_30 : decode cJ6_numberOfTrailingZeros_0f7a4 30 = .ok (.bipush 16, 2) := by decide +kernel
theorem dJ6_numberOfTrailingZeros_0f7a4_32 : decode cJ6_numberOfTrailingZeros_0f7a4 32 = .ok (.iushr, 1) := by decide +kernel
theorem dJ6_numberOfTrailingZeros_0f7a4_33 : decode cJ6_numberOfTrailingZeros_0f7a4 33 = .ok (.istore_n 0, 1) := by decide +kernel
theorem dJ6_numberOfTrailingZeros_0f7a4_34 : decode cJ6_numberOfTrailingZeros_0f7a4 34 = .ok (.iload_n 0, 1) := by decide +kernel
theorem dJ6_numberOfTrailingZeros_0f7a4_35 : decode cJ6_numberOfTrailingZeros_0f7a4 35 = .ok (.sipush 256, 3) := by decide +kernel
theorem dJ6_numberOfTrailingZeros_0f7a4_38 : decode cJ6_numberOfTrailingZeros_0f7a4 38 = .ok (.if_icmp .le 11, 3) := by decide +kernel
theorem dJ6_numberOfTrailingZeros_0f7a4_41 : decode cJ6_numberOfTrailingZeros_0f7a4 41 = .ok (.iinc 1 8, 3) := by decide +kernel
theorem dJ6_numberOfTrailingZeros_0f7a4_44 : decode cJ6_numberOfTrailingZeros_0f7a4 44 = .ok (.iload_n 0, 1) := by decide +kernel
theorem dJ6_numberOfTrailingZeros_0f7a4_45 : decode cJ6_numberOfTrailingZeros_0f7a4 45 = .ok (.bipush 8, 2) := by decide +kernel
theorem dJ6_numberOfTrailingZeros_0f7a4_47 : decode cJ6_numberOfTrailingZeros_0f7a4 47 = .ok (.iushr, 1) := by decide +kernel
theorem dJ6_numberOfTrailingZeros_0f7a4_48 : decode cJ6_numberOfTrailingZeros_0f7a4 48 = .ok (.istore_n 0, 1) := by decide +kernel
theorem dJ6_numberOfTrailingZeros_0f7a4_49 : decode cJ6_numberOfTrailingZeros_0f7a4 49 = .ok (.iload_n 0, 1) := by decide +kernel
theorem dJ6_numberOfTrailingZeros_0f7a4_50 : decode cJ6_numberOfTrailingZeros_0f7a4 50 = .ok (.bipush 16, 2) := by decide +kernel
theorem dJ6_numberOfTrailingZeros_0f7a4_52 : decode cJ6_numberOfTrailingZeros_0f7a4 52 = .ok (.if_icmp .le 10, 3) := by decide +kernel
theorem dJ6_numberOfTrailingZeros_0f7a4_55 : decode cJ6_numberOfTrailingZeros_0f7a4 55 = .ok (.iinc 1 4, 3) := by decide +kernel
theorem dJ6_numberOfTrailingZeros_0f7a4_58 : decode cJ6_numberOfTrailingZeros_0f7a4 58 = .ok (.iload_n 0, 1) := by decide +kernel
theorem dJ6_numberOfTrailingZeros_0f7a4_59 : decode cJ6_numberOfTrailingZeros_0f7a4 59 = .ok (.iconst 4, 1) := by decide +kernel
theorem dJ6_numberOfTrailingZeros_0f7a4_60 : decode cJ6_numberOfTrailingZeros_0f7a4 60 = .ok (.iushr, 1) := by decide +kernel
theorem dJ6_numberOfTrailingZeros_0f7a4_61 : decode cJ6_numberOfTrailingZeros_0f7a4 61 = .ok (.istore_n 0, 1) := by decide +kernel
theorem dJ6_numberOfTrailingZeros_0f7a4_62 : decode cJ6_numberOfTrailingZeros_0f7a4 62 = .ok (.iload_n 0, 1) := by decide +kernel
theorem dJ6_numberOfTrailingZeros_0f7a4_63 : decode cJ6_numberOfTrailingZeros_0f7a4 63 = .ok (.iconst 4, 1) := by decide +kernel
theorem dJ6_numberOfTrailingZeros_0f7a4_64 : decode cJ6_numberOfTrailingZeros_0f7a4 64 = .ok (.if_icmp .le 10, 3) := by decide +kernel
theorem dJ6_numberOfTrailingZeros_0f7a4_67 : decode cJ6_numberOfTrailingZeros_0f7a4 67 = .ok (.iinc 1 2, 3) := by decide +kernel
theorem dJ6_numberOfTrailingZeros_0f7a4_70 : decode cJ6_numberOfTrailingZeros_0f7a4 70 = .ok (.iload_n 0, 1) := by decide +kernel
theorem dJ6_numberOfTrailingZeros_0f7a4_71 : decode cJ6_numberOfTrailingZeros_0f7a4 71 = .ok (.iconst 2, 1) := by decide +kernel
theorem dJ6_numberOfTrailingZeros_0f7a4_72 : decode cJ6_numberOfTrailingZeros_0f7a4 72 = .ok (.iushr, 1) := by decide +kernel
theorem dJ6_numberOfTrailingZeros_0f7a4_73 : decode cJ6_numberOfTrailingZeros_0f7a4 73 = .ok (.istore_n 0, 1) := by decide +kernel
theorem dJ6_numberOfTrailingZeros_0f7a4_74 : decode cJ6_numberOfTrailingZeros_0f7a4 74 = .ok (.iload_n 1, 1) := by decide +kernel
theorem dJ6_numberOfTrailingZeros_0f7a4_75 : decode cJ6_numberOfTrailingZeros_0f7a4 75 = .ok (.iload_n 0, 1) := by decide +kernel
theorem dJ6_numberOfTrailingZeros_0f7a4_76 : decode cJ6_numberOfTrailingZeros_0f7a4 76 = .ok (.iconst 1, 1) := by decide +kernel
theorem dJ6_numberOfTrailingZeros_0f7a4_77 : decode cJ6_numberOfTrailingZeros_0f7a4 77 = .ok (.iushr, 1) := by decide +kernel
theorem dJ6_numberOfTrailingZeros_0f7a4_78 : decode cJ6_numberOfTrailingZeros_0f7a4 78 = .ok (.iadd, 1) := by decide +kernel
theorem dJ6_numberOfTrailingZeros_0f7a4_79 : decode cJ6_numberOfTrailingZeros_0f7a4 79 = .ok (.ireturn, 1) := by decide +kernel
theorem dJ6_bitCount_0f7a4_0 : decode cJ6_bitCount_0f7a4 0 = .ok (.iload_n 0, 1) := by decide +kernel
theorem dJ6_bitCount_0f7a4_1 : decode cJ6_bitCount_0f7a4 1 = .ok (.iload_n 0, 1) := by decide +kernel
theorem dJ6_bitCount_0f7a4_2 : decode cJ6_bitCount_0f7a4 2 = .ok (.iconst 1, 1) := by decide +kernel
theorem dJ6_bitCount_0f7a4_3 : decode cJ6_bitCount_0f7a4 3 = .ok (.iushr, 1) := by decide +kernel
theorem dJ6_bitCount_0f7a4_4 : decode cJ6_bitCount_0f7a4 4 = .ok (.ldc_w 265, 3) := by decide +kernel
theorem dJ6_bitCount_0f7a4_7 : decode cJ6_bitCount_0f7a4 7 = .ok (.iand, 1) := by decide +kernel
theorem dJ6_bitCount_0f7a4_8 : decode cJ6_bitCount_0f7a4 8 = .ok (.isub, 1) := by decide +kernel
theorem dJ6_bitCount_0f7a4_9 : decode cJ6_bitCount_0f7a4 9 = .ok (.istore_n 0, 1) := by decide +kernel
theorem dJ6_bitCount_0f7a4_10 : decode cJ6_bitCount_0f7a4 10 = .ok (.iload_n 0, 1) := by decide +kernel
theorem dJ6_bitCount_0f7a4_11 : decode cJ6_bitCount_0f7a4 11 = .ok (.ldc_w 266, 3) := by decide +kernel
theorem dJ6_bitCount_0f7a4_14 : decode cJ6_bitCount_0f7a4 14 = .ok (.iand, 1) := by decide +kernel
theorem dJ6_bitCount_0f7a4_15 : decode cJ6_bitCount_0f7a4 15 = .ok (.iload_n 0, 1) := by decide +kernel
theorem dJ6_bitCount_0f7a4_16 : decode cJ6_bitCount_0f7a4 16 = .ok (.iconst 2, 1) := by decide +kernel
theorem dJ6_bitCount_0f7a4_17 : decode cJ6_bitCount_0f7a4 17 = .ok (.iushr, 1) := by decide +kernel
theorem dJ6_bitCount_0f7a4_18 : decode cJ6_bitCount_0f7a4 18 = .ok (.ldc_w 266, 3) := by decide +kernel
theorem dJ6_bitCount_0f7a4_21 : decode cJ6_bitCount_0f7a4 21 = .ok (.iand, 1) := by decide +kernel
theorem dJ6_bitCount_0f7a4_22 : decode cJ6_bitCount_0f7a4 22 = .ok (.iadd, 1) := by decide +kernel
theorem dJ6_bitCount_0f7a4_23 : decode cJ6_bitCount_0f7a4 23 = .ok (.istore_n 0, 1) := by decide +kernel
theorem dJ6_bitCount_0f7a4_24 : decode cJ6_bitCount_0f7a4 24 = .ok (.iload_n 0, 1) := by decide +kernel
theorem dJ6_bitCount_0f7a4_25 : decode cJ6_bitCount_0f7a4 25 = .ok (.iload_n 0, 1) := by decide +kernel
theorem dJ6_bitCount_0f7a4_26 : decode cJ6_bitCount_0f7a4 26 = .ok (.iconst 4, 1) := by decide +kernel
theorem dJ6_bitCount_0f7a4_27 : decode cJ6_bitCount_0f7a4 27 = .ok (.iushr, 1) := by decide +kernel
theorem dJ6_bitCount_0f7a4_28 : decode cJ6_bitCount_0f7a4 28 = .ok (.iadd, 1) := by decide +kernel
theorem dJ6_bitCount_0f7a4_29 : decode cJ6_bitCount_0f7a4 29 = .ok (.ldc_w 267, 3) := by decide +kernel
theorem dJ6_bitCount_0f7a4_32 : decode cJ6_bitCount_0f7a4 32 = .ok (.iand, 1) := by decide +kernel
theorem dJ6_bitCount_0f7a4_33 : decode cJ6_bitCount_0f7a4 33 = .ok (.istore_n 0, 1) := by decide +kernel
theorem dJ6_bitCount_0f7a4_34 : decode cJ6_bitCount_0f7a4 34 = .ok (.iload_n 0, 1) := by decide +kernel
theorem dJ6_bitCount_0f7a4_35 : decode cJ6_bitCount_0f7a4 35 = .ok (.iload_n 0, 1) := by decide +kernel
theorem dJ6_bitCount_0f7a4_36 : decode cJ6_bitCount_0f7a4 36 = .ok (.bipush 8, 2) := by decide +kernel
theorem dJ6_bitCount_0f7a4_38 : decode cJ6_bitCount_0f7a4 38 = .ok (.iushr, 1) := by decide +kernel
theorem dJ6_bitCount_0f7a4_39 : decode cJ6_bitCount_0f7a4 39 = .ok (.iadd, 1) := by decide +kernel
theorem dJ6_bitCount_0f7a4_40 : decode cJ6_bitCount_0f7a4 40 = .ok (.istore_n 0, 1) := by decide +kernel
theorem dJ6_bitCount_0f7a4_41 : decode cJ6_bitCount_0f7a4 41 = .ok (.iload_n 0, 1) := by decide +kernel
theorem dJ6_bitCount_0f7a4_42 : decode cJ6_bitCount_0f7a4 42 = .ok (.iload_n 0, 1) := by decide +kernel
theorem dJ6_bitCount_0f7a4_43 : decode cJ6_bitCount_0f7a4 43 = .ok (.bipush 16, 2) := by decide +kernel
theorem dJ6_bitCount_0f7a4_45 : decode cJ6_bitCount_0f7a4 45 = .ok (.iushr, 1) := by decide +kernel
theorem dJ6_bitCount_0f7a4_46 : decode cJ6_bitCount_0f7a4 46 = .ok (.iadd, 1) := by decide +kernel
theorem dJ6_bitCount_0f7a4_47 : decode cJ6_bitCount_0f7a4 47 = .ok (.istore_n 0, 1) := by decide +kernel
theorem dJ6_bitCount_0f7a4_48 : decode cJ6_bitCount_0f7a4 48 = .ok (.iload_n 0, 1) := by decide +kernel
theorem dJ6_bitCount_0f7a4_49 : decode cJ6_bitCount_0f7a4 49 = .ok (.bipush 63, 2) := by decide +kernel
theorem dJ6_bitCount_0f7a4_51 : decode cJ6_bitCount_0f7a4 51 = .ok (.iand, 1) := by decide +kernel
theorem dJ6_bitCount_0f7a4_52 : decode cJ6_bitCount_0f7a4 52 = .ok (.ireturn, 1) := by decide +kernel
theorem dJ9_max_7cf53_0 : decode cJ9_max_7cf53 0 = .ok (.iload_n 0, 1) := by decide +kernel
theorem dJ9_max_7cf53_1 : decode cJ9_max_7cf53 1 = .ok (.iload_n 1, 1) := by decide +kernel
theorem dJ9_max_7cf53_2 : decode cJ9_max_7cf53 2 = .ok (.if_icmp .lt 7, 3) := by decide +kernel
theorem dJ9_max_7cf53_5 : decode cJ9_max_7cf53 5 = .ok (.iload_n 0, 1) := by decide +kernel
theorem dJ9_max_7cf53_6 : decode cJ9_max_7cf53 6 = .ok (.goto 4, 3) := by decide +kernel
theorem dJ9_max_7cf53_9 : decode cJ9_max_7cf53 9 = .ok (.iload_n 1, 1) := by decide +kernel
theorem dJ9_max_7cf53_10 : decode cJ9_max_7cf53 10 = .ok (.ireturn, 1) := by decide +kernel
theorem dJ9_min_7cf53_0 : decode cJ9_min_7cf53 0 = .ok (.iload_n 0, 1) := by decide +kernel
theorem dJ9_min_7cf53_1 : decode cJ9_min_7cf53 1 = .ok (.iload_n 1, 1) := by decide +kernel
theorem dJ9_min_7cf53_2 : decode cJ9_min_7cf53 2 = .ok (.if_icmp .gt 7, 3) := by decide +kernel
theorem dJ9_min_7cf53_5 : decode cJ9_min_7cf53 5 = .ok (.iload_n 0, 1) := by decide +kernel
theorem dJ9_min_7cf53_6 : decode cJ9_min_7cf53 6 = .ok (.goto 4, 3) := by decide +kernel
theorem dJ9_min_7cf53_9 : decode cJ9_min_7cf53 9 = .ok (.iload_n 1, 1) := by decide +kernel
theorem dJ9_min_7cf53_10 : decode cJ9_min_7cf53 10 = .ok (.ireturn, 1) := by decide +kernel
theorem dJ0_length_8abf5_0 : decode cJ0_length_8abf5 0 = .ok (.aload_n 0, 1) := by decide +kernel
theorem dJ0_length_8abf5_1 : decode cJ0_length_8abf5 1 = .ok (.getfield 9, 3) := by decide +kernel
theorem dJ0_length_8abf5_4 : decode cJ0_length_8abf5 4 = .ok (.arraylength, 1) := by decide +kernel
theorem dJ0_length_8abf5_5 : decode cJ0_length_8abf5 5 = .ok (.aload_n 0, 1) := by decide +kernel
theorem dJ0_length_8abf5_6 : decode cJ0_length_8abf5 6 = .ok (.invokevirtual 335, 3) := by decide +kernel
theorem dJ0_length_8abf5_9 : decode cJ0_length_8abf5 9 = .ok (.ishr, 1) := by decide +kernel
theorem dJ0_length_8abf5_10 : decode cJ0_length_8abf5 10 = .ok (.ireturn, 1) := by decide +kernel
theorem dJ0_charAt_5068e_0 : decode cJ0_charAt_5068e 0 = .ok (.aload_n 0, 1) := by decide +kernel
theorem dJ0_charAt_5068e_1 : decode cJ0_charAt_5068e 1 = .ok (.invokevirtual 492, 3) := by decide +kernel
theorem dJ0_charAt_5068e_4 : decode cJ0_charAt_5068e 4 = .ok (.ifCond .eq 12, 3) := by decide +kernel
theorem dJ0_charAt_5068e_7 : decode cJ0_charAt_5068e 7 = .ok (.aload_n 0, 1) := by decide +kernel
theorem dJ0_charAt_5068e_8 : decode cJ0_charAt_5068e 8 = .ok (.getfield 9, 3) := by decide +kernel
theorem dJ0_charAt_5068e_11 : decode cJ0_charAt_5068e 11 = .ok (.iload_n 1, 1) := by decide +kernel
theorem dJ0_charAt_5068e_12 : decode cJ0_charAt_5068e 12 = .ok (.invokestatic 495, 3) := by decide +kernel
theorem dJ0_charAt_5068e_15 : decode cJ0_charAt_5068e 15 = .ok (.ireturn, 1) := by decide +kernel
theorem dJ0_charAt_5068e_16 : decode cJ0_charAt_5068e 16 = .ok (.aload_n 0, 1) := by decide +kernel
theorem dJ0_charAt_5068e_17 : decode cJ0_charAt_5068e 17 = .ok (.getfield 9, 3) := by decide +kernel
theorem dJ0_charAt_5068e_20 : decode cJ0_charAt_5068e 20 = .ok (.iload_n 1, 1) := by decide +kernel
theorem dJ0_charAt_5068e_21 : decode cJ0_charAt_5068e 21 = .ok (.invokestatic 498, 3) := by decide +kernel
theorem dJ0_charAt_5068e_24 : decode cJ0_charAt_5068e 24 = .ok (.ireturn, 1) := by decide +kernel
theorem dJ0_coder_7d493_0 : decode cJ0_coder_7d493 0 = .ok (.getstatic 38, 3) := by decide +kernel
theorem dJ0_coder_7d493_3 : decode cJ0_coder_7d493 3 = .ok (.ifCond .eq 10, 3) := by decide +kernel
theorem dJ0_coder_7d493_6 : decode cJ0_coder_7d493 6 = .ok (.aload_n 0, 1) := by decide +kernel
theorem dJ0_coder_7d493_7 : decode cJ0_coder_7d493 7 = .ok (.getfield 15, 3) := by decide +kernel
theorem dJ0_coder_7d493_10 : decode cJ0_coder_7d493 10 = .ok (.goto 4, 3) := by decide +kernel
theorem dJ0_coder_7d493_13 : decode cJ0_coder_7d493 13 = .ok (.iconst 1, 1) := by decide +kernel
theorem dJ0_coder_7d493_14 : decode cJ0_coder_7d493 14 = .ok (.ireturn, 1) := by decide +kernel
theorem dJ0_isLatin1_aae02_0 : decode cJ0_isLatin1_aae02 0 = .ok (.getstatic 38, 3) := by decide +kernel
theorem dJ0_isLatin1_aae02_3 : decode cJ0_isLatin1_aae02 3 = .ok (.ifCond .eq 14, 3) := by decide +kernel
theorem dJ0_isLatin1_aae02_6 : decode cJ0_isLatin1_aae02 6 = .ok (.aload_n 0, 1) := by decide +kernel
theorem dJ0_isLatin1_aae02_7 : decode cJ0_isLatin1_aae02 7 = .ok (.getfield 15, 3) := by decide +kernel
theorem dJ0_isLatin1_aae02_10 : decode cJ0_isLatin1_aae02 10 = .ok (.ifCond .ne 7, 3) := by decide +kernel
theorem dJ0_isLatin1_aae02_13 : decode cJ0_isLatin1_aae02 13 = .ok (.iconst 1, 1) := by decide +kernel
theorem dJ0_isLatin1_aae02_14 : decode cJ0_isLatin1_aae02 14 = .ok (.goto 4, 3) := by decide +kernel
theorem dJ0_isLatin1_aae02_17 : decode cJ0_isLatin1_aae02 17 = .ok (.iconst 0, 1) := by decide +kernel
theorem dJ0_isLatin1_aae02_18 : decode cJ0_isLatin1_aae02 18 = .ok (.ireturn, 1) := by decide +kernel
theorem dJ0_checkIndex_df160_0 : decode cJ0_checkIndex_df160 0 = .ok (.iload_n 0, 1) := by decide +kernel
theorem dJ0_checkIndex_df160_1 : decode cJ0_checkIndex_df160 1 = .ok (.iload_n 1, 1) := by decide +kernel
theorem dJ0_checkIndex_df160_2 : decode cJ0_checkIndex_df160 2 = .ok (.getstatic 1053, 3) := by decide +kernel
theorem dJ0_checkIndex_df160_5 : decode cJ0_checkIndex_df160 5 = .ok (.invokestatic 1059, 3) := by decide +kernel
theorem dJ0_checkIndex_df160_8 : decode cJ0_checkIndex_df160 8 = .ok (.pop, 1) := by decide +kernel
theorem dJ0_checkIndex_df160_9 : decode cJ0_checkIndex_df160 9 = .ok (.return_, 1) := by decide +kernel
theorem dJ1_charAt_3b067_0 : decode cJ1_charAt_3b067 0 = .ok (.iload_n 1, 1) := by decide +kernel
theorem dJ1_charAt_3b067_1 : decode cJ1_charAt_3b067 1 = .ok (.aload_n 0, 1) := by decide +kernel
theorem dJ1_charAt_3b067_2 : decode cJ1_charAt_3b067 2 = .ok (.arraylength, 1) := by decide +kernel
theorem dJ1_charAt_3b067_3 : decode cJ1_charAt_3b067 3 = .ok (.invokestatic 9, 3) := by decide +kernel
theorem dJ1_charAt_3b067_6 : decode cJ1_charAt_3b067 6 = .ok (.aload_n 0, 1) := by decide +kernel
theorem dJ1_charAt_3b067_7 : decode cJ1_charAt_3b067 7 = .ok (.iload_n 1, 1) := by decide +kernel
theorem dJ1_charAt_3b067_8 : decode cJ1_charAt_3b067 8 = .ok (.baload, 1) := by decide +kernel
theorem dJ1_charAt_3b067_9 : decode cJ1_charAt_3b067 9 = .ok (.sipush 255, 3) := by decide +kernel
theorem dJ1_charAt_3b067_12 : decode cJ1_charAt_3b067 12 = .ok (.iand, 1) := by decide +kernel
theorem dJ1_charAt_3b067_13 : decode cJ1_charAt_3b067 13 = .ok (.i2c, 1) := by decide +kernel
theorem dJ1_charAt_3b067_14 : decode cJ1_charAt_3b067 14 = .ok (.ireturn, 1) := by decide +kernel
theorem dJ2_getChar_3b067_0 : decode cJ2_getChar_3b067 0 = .ok (.getstatic 44, 3) := by decide +kernel
theorem dJ2_getChar_3b067_3 : decode cJ2_getChar_3b067 3 = .ok (.ifCond .ne 25, 3) := by decide +kernel
theorem dJ2_getChar_3b067_6 : decode cJ2_getChar_3b067 6 = .ok (.iload_n 1, 1) := by decide +kernel
theorem dJ2_getChar_3b067_7 : decode cJ2_getChar_3b067 7 = .ok (.ifCond .lt 11, 3) := by decide +kernel
theorem dJ2_getChar_3b067_10 : decode cJ2_getChar_3b067 10 = .ok (.iload_n 1, 1) := by decide +kernel
theorem dJ2_getChar_3b067_11 : decode cJ2_getChar_3b067 11 = .ok (.aload_n 0, 1) := by decide +kernel
theorem dJ2_getChar_3b067_12 : decode cJ2_getChar_3b067 12 = .ok (.invokestatic 48, 3) := by decide +kernel
theorem dJ2_getChar_3b067_15 : decode cJ2_getChar_3b067 15 = .ok (.if_icmp .lt 13, 3) := by decide +kernel
theorem dJ2_getChar_3b067_18 : decode cJ2_getChar_3b067 18 = .ok (.new 52, 3) := by decide +kernel
theorem dJ2_getChar_3b067_21 : decode cJ2_getChar_3b067 21 = .ok (.dup, 1) := by decide +kernel
theorem dJ2_getChar_3b067_22 : decode cJ2_getChar_3b067 22 = .ok (.ldc 54, 2) := by decide +kernel
theorem dJ2_getChar_3b067_24 : decode cJ2_getChar_3b067 24 = .ok (.invokespecial 56, 3) := by decide +kernel
theorem dJ2_getChar_3b067_27 : decode cJ2_getChar_3b067 27 = .ok (.athrow, 1) := by decide +kernel
theorem dJ2_getChar_3b067_28 : decode cJ2_getChar_3b067 28 = .ok (.iload_n 1, 1) := by decide +kernel
theorem dJ2_getChar_3b067_29 : decode cJ2_getChar_3b067 29 = .ok (.iconst 1, 1) := by decide +kernel
theorem dJ2_getChar_3b067_30 : decode cJ2_getChar_3b067 30 = .ok (.ishl, 1) := by decide +kernel
theorem dJ2_getChar_3b067_31 : decode cJ2_getChar_3b067 31 = .ok (.istore_n 1, 1) := by decide +kernel
theorem dJ2_getChar_3b067_32 : decode cJ2_getChar_3b067 32 = .ok (.aload_n 0, 1) := by decide +kernel
theorem dJ2_getChar_3b067_33 : decode cJ2_getChar_3b067 33 = .ok (.iload_n 1, 1) := by decide +kernel
theorem dJ2_getChar_3b067_34 : decode cJ2_getChar_3b067 34 = .ok (.iinc 1 1, 3) := by decide +kernel
theorem dJ2_getChar_3b067_37 : decode cJ2_getChar_3b067 37 = .ok (.baload, 1) := by decide +kernel
theorem dJ2_getChar_3b067_38 : decode cJ2_getChar_3b067 38 = .ok (.sipush 255, 3) := by decide +kernel
theorem dJ2_getChar_3b067_41 : decode cJ2_getChar_3b067 41 = .ok (.iand, 1) := by decide +kernel
theorem dJ2_getChar_3b067_42 : decode cJ2_getChar_3b067 42 = .ok (.getstatic 59, 3) := by decide +kernel
theorem dJ2_getChar_3b067_45 : decode cJ2_getChar_3b067 45 = .ok (.ishl, 1) := by decide +kernel
theorem dJ2_getChar_3b067_46 : decode cJ2_getChar_3b067 46 = .ok (.aload_n 0, 1) := by decide +kernel
theorem dJ2_getChar_3b067_47 : decode cJ2_getChar_3b067 47 = .ok (.iload_n 1, 1) := by decide +kernel
theorem dJ2_getChar_3b067_48 : decode cJ2_getChar_3b067 48 = .ok (.baload, 1) := by decide +kernel
theorem dJ2_getChar_3b067_49 : decode cJ2_getChar_3b067 49 = .ok (.sipush 255, 3) := by decide +kernel
theorem dJ2_getChar_3b067_52 : decode cJ2_getChar_3b067 52 = .ok (.iand, 1) := by decide +kernel
theorem dJ2_getChar_3b067_53 : decode cJ2_getChar_3b067 53 = .ok (.getstatic 63, 3) := by decide +kernel
theorem dJ2_getChar_3b067_56 : decode cJ2_getChar_3b067 56 = .ok (.ishl, 1) := by decide +kernel
theorem dJ2_getChar_3b067_57 : decode cJ2_getChar_3b067 57 = .ok (.ior, 1) := by decide +kernel
theorem dJ2_getChar_3b067_58 : decode cJ2_getChar_3b067 58 = .ok (.i2c, 1) := by decide +kernel
theorem dJ2_getChar_3b067_59 : decode cJ2_getChar_3b067 59 = .ok (.ireturn, 1) := by decide +kernel
theorem dJ2_length_9d52b_0 : decode cJ2_length_9d52b 0 = .ok (.aload_n 0, 1) := by decide +kernel
theorem dJ2_length_9d52b_1 : decode cJ2_length_9d52b 1 = .ok (.arraylength, 1) := by decide +kernel
theorem dJ2_length_9d52b_2 : decode cJ2_length_9d52b 2 = .ok (.iconst 1, 1) := by decide +kernel
theorem dJ2_length_9d52b_3 : decode cJ2_length_9d52b 3 = .ok (.ishr, 1) := by decide +kernel
theorem dJ2_length_9d52b_4 : decode cJ2_length_9d52b 4 = .ok (.ireturn, 1) := by decide +kernel
theorem dJ2_charAt_3b067_0 : decode cJ2_charAt_3b067 0 = .ok (.iload_n 1, 1) := by decide +kernel
theorem dJ2_charAt_3b067_1 : decode cJ2_charAt_3b067 1 = .ok (.aload_n 0, 1) := by decide +kernel
theorem dJ2_charAt_3b067_2 : decode cJ2_charAt_3b067 2 = .ok (.invokestatic 67, 3) := by decide +kernel
theorem dJ2_charAt_3b067_5 : decode cJ2_charAt_3b067 5 = .ok (.aload_n 0, 1) := by decide +kernel
theorem dJ2_charAt_3b067_6 : decode cJ2_charAt_3b067 6 = .ok (.iload_n 1, 1) := by decide +kernel
theorem dJ2_charAt_3b067_7 : decode cJ2_charAt_3b067 7 = .ok (.invokestatic 71, 3) := by decide +kernel
theorem dJ2_charAt_3b067_10 : decode cJ2_charAt_3b067 10 = .ok (.ireturn, 1) := by decide +kernel
theorem dJ2_checkIndex_2214a_0 : decode cJ2_checkIndex_2214a 0 = .ok (.iload_n 0, 1) := by decide +kernel
theorem dJ2_checkIndex_2214a_1 : decode cJ2_checkIndex_2214a 1 = .ok (.aload_n 1, 1) := by decide +kernel
theorem dJ2_checkIndex_2214a_2 : decode cJ2_checkIndex_2214a 2 = .ok (.invokestatic 48, 3) := by decide +kernel
theorem dJ2_checkIndex_2214a_5 : decode cJ2_checkIndex_2214a 5 = .ok (.invokestatic 414, 3) := by decide +kernel
theorem dJ2_checkIndex_2214a_8 : decode cJ2_checkIndex_2214a 8 = .ok (.return_, 1) := by decide +kernel
theorem dJ3_checkIndex_8e157_0 : decode cJ3_checkIndex_8e157 0 = .ok (.iload_n 0, 1) := by decide +kernel
theorem dJ3_checkIndex_8e157_1 : decode cJ3_checkIndex_8e157 1 = .ok (.ifCond .lt 8, 3) := by decide +kernel
theorem dJ3_checkIndex_8e157_4 : decode cJ3_checkIndex_8e157 4 = .ok (.iload_n 0, 1) := by decide +kernel
theorem dJ3_checkIndex_8e157_5 : decode cJ3_checkIndex_8e157 5 = .ok (.iload_n 1, 1) := by decide +kernel
theorem dJ3_checkIndex_8e157_6 : decode cJ3_checkIndex_8e157 6 = .ok (.if_icmp .lt 10, 3) := by decide +kernel
theorem dJ3_checkIndex_8e157_9 : decode cJ3_checkIndex_8e157 9 = .ok (.aload_n 2, 1) := by decide +kernel
theorem dJ3_checkIndex_8e157_10 : decode cJ3_checkIndex_8e157 10 = .ok (.iload_n 0, 1) := by decide +kernel
theorem dJ3_checkIndex_8e157_11 : decode cJ3_checkIndex_8e157 11 = .ok (.iload_n 1, 1) := by decide +kernel
theorem dJ3_checkIndex_8e157_12 : decode cJ3_checkIndex_8e157 12 = .ok (.invokestatic 95, 3) := by decide +kernel
theorem dJ3_checkIndex_8e157_15 : decode cJ3_checkIndex_8e157 15 = .ok (.athrow, 1) := by decide +kernel
theorem dJ3_checkIndex_8e157_16 : decode cJ3_checkIndex_8e157 16 = .ok (.iload_n 0, 1) := by decide +kernel
theorem dJ3_checkIndex_8e157_17 : decode cJ3_checkIndex_8e157 17 = .ok (.ireturn, 1) := by decide +kernel
theorem dL_law_0 : decode cL_law 0 = .ok (.new 7, 3) := by decide +kernel
theorem dL_law_3 : decode cL_law 3 = .ok (.dup, 1) := by decide +kernel
theorem dL_law_4 : decode cL_law 4 = .ok (.invokespecial 9, 3) := by decide +kernel
theorem dL_law_7 : decode cL_law 7 = .ok (.astore_n 1, 1) := by decide +kernel
theorem dL_law_8 : decode cL_law 8 = .ok (.new 10, 3) := by decide +kernel
theorem dL_law_11 : decode cL_law 11 = .ok (.dup, 1) := by decide +kernel
theorem dL_law_12 : decode cL_law 12 = .ok (.invokespecial 12, 3) := by decide +kernel
theorem dL_law_15 : decode cL_law 15 = .ok (.astore_n 2, 1) := by decide +kernel
theorem dL_law_16 : decode cL_law 16 = .ok (.iconst 0, 1) := by decide +kernel
theorem dL_law_17 : decode cL_law 17 = .ok (.istore_n 3, 1) := by decide +kernel
theorem dL_law_18 : decode cL_law 18 = .ok (.iload_n 3, 1) := by decide +kernel
theorem dL_law_19 : decode cL_law 19 = .ok (.aload_n 0, 1) := by decide +kernel
theorem dL_law_20 : decode cL_law 20 = .ok (.arraylength, 1) := by decide +kernel
theorem dL_law_21 : decode cL_law 21 = .ok (.bipush 6, 2) := by decide +kernel
theorem dL_law_23 : decode cL_law 23 = .ok (.isub, 1) := by decide +kernel
theorem dL_law_24 : decode cL_law 24 = .ok (.if_icmp .gt 1090, 3) := by decide +kernel
theorem dL_law_27 : decode cL_law 27 = .ok (.aload_n 0, 1) := by decide +kernel
theorem dL_law_28 : decode cL_law 28 = .ok (.iload_n 3, 1) := by decide +kernel
theorem dL_law_29 : decode cL_law 29 = .ok (.iaload, 1) := by decide +kernel
theorem dL_law_30 : decode cL_law 30 = .ok (.bipush 63, 2) := by decide +kernel
theorem dL_law_32 : decode cL_law 32 = .ok (.iand, 1) := by decide +kernel
theorem dL_law_33 : decode cL_law 33 = .ok (.tableswitch 1075 0 32 #[147, 170, 223, 236, 279, 312, 335, 358, 391, 415, 439, 462, 475, 519, 543, 566, 610, 633, 667, 680, 734, 757, 770, 783, 796, 829, 852, 895, 929, 992, 1015, 1038, 1061], 147) := by decide +kernel
theorem dL_law_180 : decode cL_law 180 = .ok (.aload_n 1, 1) := by decide +kernel
theorem dL_law_181 : decode cL_law 181 = .ok (.aload_n 0, 1) := by decide +kernel
theorem dL_law_182 : decode cL_law 182 = .ok (.iload_n 3, 1) := by decide +kernel
theorem dL_law_183 : decode cL_law 183 = .ok (.iconst 1, 1) := by decide +kernel
theorem dL_law_184 : decode cL_law 184 = .ok (.iadd, 1) := by decide +kernel
theorem dL_law_185 : decode cL_law 185 = .ok (.iaload, 1) := by decide +kernel
theorem dL_law_186 : decode cL_law 186 = .ok (.invokevirtual 13, 3) := by decide +kernel
theorem dL_law_189 : decode cL_law 189 = .ok (.aload_n 2, 1) := by decide +kernel
theorem dL_law_190 : decode cL_law 190 = .ok (.aload_n 0, 1) := by decide +kernel
theorem dL_law_191 : decode cL_law 191 = .ok (.iload_n 3, 1) := by decide +kernel
theorem dL_law_192 : decode cL_law 192 = .ok (.iconst 1, 1) := by decide +kernel
theorem dL_law_193 : decode cL_law 193 = .ok (.iadd, 1) := by decide +kernel
theorem dL_law_194 : decode cL_law 194 = .ok (.iaload, 1) := by decide +kernel
theorem dL_law_195 : decode cL_law 195 = .ok (.invokevirtual 17, 3) := by decide +kernel
theorem dL_law_198 : decode cL_law 198 = .ok (.if_icmp .eq 910, 3) := by decide +kernel
theorem dL_law_201 : decode cL_law 201 = .ok (.iconst 0, 1) := by decide +kernel
theorem dL_law_202 : decode cL_law 202 = .ok (.ireturn, 1) := by decide +kernel
theorem dL_law_203 : decode cL_law 203 = .ok (.aload_n 1, 1) := by decide +kernel
theorem dL_law_204 : decode cL_law 204 = .ok (.aload_n 0, 1) := by decide +kernel
theorem dL_law_205 : decode cL_law 205 = .ok (.iload_n 3, 1) := by decide +kernel
theorem dL_law_206 : decode cL_law 206 = .ok (.iconst 1, 1) := by decide +kernel
theorem dL_law_207 : decode cL_law 207 = .ok (.iadd, 1) := by decide +kernel
theorem dL_law_208 : decode cL_law 208 = .ok (.iaload, 1) := by decide +kernel
theorem dL_law_209 : decode cL_law 209 = .ok (.aload_n 0, 1) := by decide +kernel
theorem dL_law_210 : decode cL_law 210 = .ok (.iload_n 3, 1) := by decide +kernel
theorem dL_law_211 : decode cL_law 211 = .ok (.iconst 2, 1) := by decide +kernel
theorem dL_law_212 : decode cL_law 212 = .ok (.iadd, 1) := by decide +kernel
theorem dL_law_213 : decode cL_law 213 = .ok (.iaload, 1) := by decide +kernel
theorem dL_law_214 : decode cL_law 214 = .ok (.aload_n 0, 1) := by decide +kernel
theorem dL_law_215 : decode cL_law 215 = .ok (.iload_n 3, 1) := by decide +kernel
theorem dL_law_216 : decode cL_law 216 = .ok (.iconst 3, 1) := by decide +kernel
theorem dL_law_217 : decode cL_law 217 = .ok (.iadd, 1) := by decide +kernel
theorem dL_law_218 : decode cL_law 218 = .ok (.iaload, 1) := by decide +kernel
theorem dL_law_219 : decode cL_law 219 = .ok (.aload_n 0, 1) := by decide +kernel
theorem dL_law_220 : decode cL_law 220 = .ok (.iload_n 3, 1) := by decide +kernel
theorem dL_law_221 : decode cL_law 221 = .ok (.iconst 4, 1) := by decide +kernel
theorem dL_law_222 : decode cL_law 222 = .ok (.iadd, 1) := by decide +kernel
theorem dL_law_223 : decode cL_law 223 = .ok (.iaload, 1) := by decide +kernel
theorem dL_law_224 : decode cL_law 224 = .ok (.invokevirtual 18, 3) := by decide +kernel
theorem dL_law_227 : decode cL_law 227 = .ok (.aload_n 2, 1) := by decide +kernel
theorem dL_law_228 : decode cL_law 228 = .ok (.aload_n 0, 1) := by decide +kernel
theorem dL_law_229 : decode cL_law 229 = .ok (.iload_n 3, 1) := by decide +kernel
theorem dL_law_230 : decode cL_law 230 = .ok (.iconst 1, 1) := by decide +kernel
theorem dL_law_231 : decode cL_law 231 = .ok (.iadd, 1) := by decide +kernel
theorem dL_law_232 : decode cL_law 232 = .ok (.iaload, 1) := by decide +kernel
theorem dL_law_233 : decode cL_law 233 = .ok (.aload_n 0, 1) := by decide +kernel
theorem dL_law_234 : decode cL_law 234 = .ok (.iload_n 3, 1) := by decide +kernel
theorem dL_law_235 : decode cL_law 235 = .ok (.iconst 2, 1) := by decide +kernel
theorem dL_law_236 : decode cL_law 236 = .ok (.iadd, 1) := by decide +kernel
theorem dL_law_237 : decode cL_law 237 = .ok (.iaload, 1) := by decide +kernel
theorem dL_law_238 : decode cL_law 238 = .ok (.aload_n 0, 1) := by decide +kernel
theorem dL_law_239 : decode cL_law 239 = .ok (.iload_n 3, 1) := by decide +kernel
theorem dL_law_240 : decode cL_law 240 = .ok (.iconst 3, 1) := by decide +kernel
theorem dL_law_241 : decode cL_law 241 = .ok (.iadd, 1) := by decide +kernel
theorem dL_law_242 : decode cL_law 242 = .ok (.iaload, 1) := by decide +kernel
theorem dL_law_243 : decode cL_law 243 = .ok (.aload_n 0, 1) := by decide +kernel
theorem dL_law_244 : decode cL_law 244 = .ok (.iload_n 3, 1) := by decide +kernel
theorem dL_law_245 : decode cL_law 245 = .ok (.iconst 4, 1) := by decide +kernel
theorem dL_law_246 : decode cL_law 246 = .ok (.iadd, 1) := by decide +kernel
theorem dL_law_247 : decode cL_law 247 = .ok (.iaload, 1) := by decide +kernel
theorem dL_law_248 : decode cL_law 248 = .ok (.invokevirtual 22, 3) := by decide +kernel
theorem dL_law_251 : decode cL_law 251 = .ok (.if_icmp .eq 857, 3) := by decide +kernel
theorem dL_law_254 : decode cL_law 254 = .ok (.iconst 0, 1) := by decide +kernel
theorem dL_law_255 : decode cL_law 255 = .ok (.ireturn, 1) := by decide +kernel
theorem dL_law_256 : decode cL_law 256 = .ok (.aload_n 1, 1) := by decide +kernel
theorem dL_law_257 : decode cL_law 257 = .ok (.invokevirtual 23, 3) := by decide +kernel
theorem dL_law_260 : decode cL_law 260 = .ok (.aload_n 2, 1) := by decide +kernel
theorem dL_law_261 : decode cL_law 261 = .ok (.invokevirtual 27, 3) := by decide +kernel
theorem dL_law_264 : decode cL_law 264 = .ok (.if_icmp .eq 844, 3) := by decide +kernel
theorem dL_law_267 : decode cL_law 267 = .ok (.iconst 0, 1) := by decide +kernel
theorem dL_law_268 : decode cL_law 268 = .ok (.ireturn, 1) := by decide +kernel
theorem dL_law_269 : decode cL_law 269 = .ok (.aload_n 1, 1) := by decide +kernel
theorem dL_law_270 : decode cL_law 270 = .ok (.aload_n 0, 1) := by decide +kernel
theorem dL_law_271 : decode cL_law 271 = .ok (.iload_n 3, 1) := by decide +kernel
theorem dL_law_272 : decode cL_law 272 = .ok (.iconst 1, 1) := by decide +kernel
theorem dL_law_273 : decode cL_law 273 = .ok (.iadd, 1) := by decide +kernel
theorem dL_law_274 : decode cL_law 274 = .ok (.iaload, 1) := by decide +kernel
theorem dL_law_275 : decode cL_law 275 = .ok (.aload_n 0, 1) := by decide +kernel
theorem dL_law_276 : decode cL_law 276 = .ok (.iload_n 3, 1) := by decide +kernel
theorem dL_law_277 : decode cL_law 277 = .ok (.iconst 2, 1) := by decide +kernel
theorem dL_law_278 : decode cL_law 278 = .ok (.iadd, 1) := by decide +kernel
theorem dL_law_279 : decode cL_law 279 = .ok (.iaload, 1) := by decide +kernel
theorem dL_law_280 : decode cL_law 280 = .ok (.aload_n 0, 1) := by decide +kernel
theorem dL_law_281 : decode cL_law 281 = .ok (.iload_n 3, 1) := by decide +kernel
theorem dL_law_282 : decode cL_law 282 = .ok (.iconst 3, 1) := by decide +kernel
theorem dL_law_283 : decode cL_law 283 = .ok (.iadd, 1) := by decide +kernel
theorem dL_law_284 : decode cL_law 284 = .ok (.iaload, 1) := by decide +kernel
theorem dL_law_285 : decode cL_law 285 = .ok (.invokevirtual 28, 3) := by decide +kernel
theorem dL_law_288 : decode cL_law 288 = .ok (.aload_n 2, 1) := by decide +kernel
theorem dL_law_289 : decode cL_law 289 = .ok (.aload_n 0, 1) := by decide +kernel
theorem dL_law_290 : decode cL_law 290 = .ok (.iload_n 3, 1) := by decide +kernel
theorem dL_law_291 : decode cL_law 291 = .ok (.iconst 1, 1) := by decide +kernel
theorem dL_law_292 : decode cL_law 292 = .ok (.iadd, 1) := by decide +kernel
theorem dL_law_293 : decode cL_law 293 = .ok (.iaload, 1) := by decide +kernel
theorem dL_law_294 : decode cL_law 294 = .ok (.aload_n 0, 1) := by decide +kernel
theorem dL_law_295 : decode cL_law 295 = .ok (.iload_n 3, 1) := by decide +kernel
theorem dL_law_296 : decode cL_law 296 = .ok (.iconst 2, 1) := by decide +kernel
theorem dL_law_297 : decode cL_law 297 = .ok (.iadd, 1) := by decide +kernel
theorem dL_law_298 : decode cL_law 298 = .ok (.iaload, 1) := by decide +kernel
theorem dL_law_299 : decode cL_law 299 = .ok (.aload_n 0, 1) := by decide +kernel
theorem dL_law_300 : decode cL_law 300 = .ok (.iload_n 3, 1) := by decide +kernel
theorem dL_law_301 : decode cL_law 301 = .ok (.iconst 3, 1) := by decide +kernel
theorem dL_law_302 : decode cL_law 302 = .ok (.iadd, 1) := by decide +kernel
theorem dL_law_303 : decode cL_law 303 = .ok (.iaload, 1) := by decide +kernel
theorem dL_law_304 : decode cL_law 304 = .ok (.invokevirtual 32, 3) := by decide +kernel
theorem dL_law_307 : decode cL_law 307 = .ok (.if_icmp .eq 801, 3) := by decide +kernel
theorem dL_law_310 : decode cL_law 310 = .ok (.iconst 0, 1) := by decide +kernel
theorem dL_law_311 : decode cL_law 311 = .ok (.ireturn, 1) := by decide +kernel
theorem dL_law_312 : decode cL_law 312 = .ok (.aload_n 1, 1) := by decide +kernel
theorem dL_law_313 : decode cL_law 313 = .ok (.aload_n 0, 1) := by decide +kernel
theorem dL_law_314 : decode cL_law 314 = .ok (.iload_n 3, 1) := by decide +kernel
theorem dL_law_315 : decode cL_law 315 = .ok (.iconst 1, 1) := by decide +kernel
theorem dL_law_316 : decode cL_law 316 = .ok (.iadd, 1) := by decide +kernel
theorem dL_law_317 : decode cL_law 317 = .ok (.iaload, 1) := by decide +kernel
theorem dL_law_318 : decode cL_law 318 = .ok (.aload_n 0, 1) := by decide +kernel
theorem dL_law_319 : decode cL_law 319 = .ok (.iload_n 3, 1) := by decide +kernel
theorem dL_law_320 : decode cL_law 320 = .ok (.iconst 2, 1) := by decide +kernel
theorem dL_law_321 : decode cL_law 321 = .ok (.iadd, 1) := by decide +kernel
theorem dL_law_322 : decode cL_law 322 = .ok (.iaload, 1) := by decide +kernel
theorem dL_law_323 : decode cL_law 323 = .ok (.invokevirtual 33, 3) := by decide +kernel
theorem dL_law_326 : decode cL_law 326 = .ok (.aload_n 2, 1) := by decide +kernel
theorem dL_law_327 : decode cL_law 327 = .ok (.aload_n 0, 1) := by decide +kernel
theorem dL_law_328 : decode cL_law 328 = .ok (.iload_n 3, 1) := by decide +kernel
theorem dL_law_329 : decode cL_law 329 = .ok (.iconst 1, 1) := by decide +kernel
theorem dL_law_330 : decode cL_law 330 = .ok (.iadd, 1) := by decide +kernel
theorem dL_law_331 : decode cL_law 331 = .ok (.iaload, 1) := by decide +kernel
theorem dL_law_332 : decode cL_law 332 = .ok (.aload_n 0, 1) := by decide +kernel
theorem dL_law_333 : decode cL_law 333 = .ok (.iload_n 3, 1) := by decide +kernel
theorem dL_law_334 : decode cL_law 334 = .ok (.iconst 2, 1) := by decide +kernel
theorem dL_law_335 : decode cL_law 335 = .ok (.iadd, 1) := by decide +kernel
theorem dL_law_336 : decode cL_law 336 = .ok (.iaload, 1) := by decide +kernel
theorem dL_law_337 : decode cL_law 337 = .ok (.invokevirtual 37, 3) := by decide +kernel
theorem dL_law_340 : decode cL_law 340 = .ok (.if_icmp .eq 768, 3) := by decide +kernel
theorem dL_law_343 : decode cL_law 343 = .ok (.iconst 0, 1) := by decide +kernel
theorem dL_law_344 : decode cL_law 344 = .ok (.ireturn, 1) := by decide +kernel
theorem dL_law_345 : decode cL_law 345 = .ok (.aload_n 1, 1) := by decide +kernel
theorem dL_law_346 : decode cL_law 346 = .ok (.aload_n 0, 1) := by decide +kernel
theorem dL_law_347 : decode cL_law 347 = .ok (.iload_n 3, 1) := by decide +kernel
theorem dL_law_348 : decode cL_law 348 = .ok (.iconst 1, 1) := by decide +kernel
theorem dL_law_349 : decode cL_law 349 = .ok (.iadd, 1) := by decide +kernel
theorem dL_law_350 : decode cL_law 350 = .ok (.iaload, 1) := by decide +kernel
theorem dL_law_351 : decode cL_law 351 = .ok (.invokevirtual 38, 3) := by decide +kernel
theorem dL_law_354 : decode cL_law 354 = .ok (.aload_n 2, 1) := by decide +kernel
theorem dL_law_355 : decode cL_law 355 = .ok (.aload_n 0, 1) := by decide +kernel
theorem dL_law_356 : decode cL_law 356 = .ok (.iload_n 3, 1) := by decide +kernel
theorem dL_law_357 : decode cL_law 357 = .ok (.iconst 1, 1) := by decide +kernel
theorem dL_law_358 : decode cL_law 358 = .ok (.iadd, 1) := by decide +kernel
theorem dL_law_359 : decode cL_law 359 = .ok (.iaload, 1) := by decide +kernel
theorem dL_law_360 : decode cL_law 360 = .ok (.invokevirtual 41, 3) := by decide +kernel
theorem dL_law_363 : decode cL_law 363 = .ok (.if_icmp .eq 745, 3) := by decide +kernel
theorem dL_law_366 : decode cL_law 366 = .ok (.iconst 0, 1) := by decide +kernel
theorem dL_law_367 : decode cL_law 367 = .ok (.ireturn, 1) := by decide +kernel
theorem dL_law_368 : decode cL_law 368 = .ok (.aload_n 1, 1) := by decide +kernel
theorem dL_law_369 : decode cL_law 369 = .ok (.aload_n 0, 1) := by decide +kernel
theorem dL_law_370 : decode cL_law 370 = .ok (.iload_n 3, 1) := by decide +kernel
theorem dL_law_371 : decode cL_law 371 = .ok (.iconst 1, 1) := by decide +kernel
theorem dL_law_372 : decode cL_law 372 = .ok (.iadd, 1) := by decide +kernel
theorem dL_law_373 : decode cL_law 373 = .ok (.iaload, 1) := by decide +kernel
theorem dL_law_374 : decode cL_law 374 = .ok (.invokevirtual 42, 3) := by decide +kernel
theorem dL_law_377 : decode cL_law 377 = .ok (.aload_n 2, 1) := by decide +kernel
theorem dL_law_378 : decode cL_law 378 = .ok (.aload_n 0, 1) := by decide +kernel
theorem dL_law_379 : decode cL_law 379 = .ok (.iload_n 3, 1) := by decide +kernel
theorem dL_law_380 : decode cL_law 380 = .ok (.iconst 1, 1) := by decide +kernel
theorem dL_law_381 : decode cL_law 381 = .ok (.iadd, 1) := by decide +kernel
theorem dL_law_382 : decode cL_law 382 = .ok (.iaload, 1) := by decide +kernel
theorem dL_law_383 : decode cL_law 383 = .ok (.invokevirtual 45, 3) := by decide +kernel
theorem dL_law_386 : decode cL_law 386 = .ok (.if_icmp .eq 722, 3) := by decide +kernel
theorem dL_law_389 : decode cL_law 389 = .ok (.iconst 0, 1) := by decide +kernel
theorem dL_law_390 : decode cL_law 390 = .ok (.ireturn, 1) := by decide +kernel
theorem dL_law_391 : decode cL_law 391 = .ok (.aload_n 1, 1) := by decide +kernel
theorem dL_law_392 : decode cL_law 392 = .ok (.aload_n 0, 1) := by decide +kernel
theorem dL_law_393 : decode cL_law 393 = .ok (.iload_n 3, 1) := by decide +kernel
theorem dL_law_394 : decode cL_law 394 = .ok (.iconst 1, 1) := by decide +kernel
theorem dL_law_395 : decode cL_law 395 = .ok (.iadd, 1) := by decide +kernel
theorem dL_law_396 : decode cL_law 396 = .ok (.iaload, 1) := by decide +kernel
theorem dL_law_397 : decode cL_law 397 = .ok (.aload_n 0, 1) := by decide +kernel
theorem dL_law_398 : decode cL_law 398 = .ok (.iload_n 3, 1) := by decide +kernel
theorem dL_law_399 : decode cL_law 399 = .ok (.iconst 2, 1) := by decide +kernel
theorem dL_law_400 : decode cL_law 400 = .ok (.iadd, 1) := by decide +kernel
theorem dL_law_401 : decode cL_law 401 = .ok (.iaload, 1) := by decide +kernel
theorem dL_law_402 : decode cL_law 402 = .ok (.invokevirtual 46, 3) := by decide +kernel
theorem dL_law_405 : decode cL_law 405 = .ok (.aload_n 2, 1) := by decide +kernel
theorem dL_law_406 : decode cL_law 406 = .ok (.aload_n 0, 1) := by decide +kernel
theorem dL_law_407 : decode cL_law 407 = .ok (.iload_n 3, 1) := by decide +kernel
theorem dL_law_408 : decode cL_law 408 = .ok (.iconst 1, 1) := by decide +kernel
theorem dL_law_409 : decode cL_law 409 = .ok (.iadd, 1) := by decide +kernel
theorem dL_law_410 : decode cL_law 410 = .ok (.iaload, 1) := by decide +kernel
theorem dL_law_411 : decode cL_law 411 = .ok (.aload_n 0, 1) := by decide +kernel
theorem dL_law_412 : decode cL_law 412 = .ok (.iload_n 3, 1) := by decide +kernel
theorem dL_law_413 : decode cL_law 413 = .ok (.iconst 2, 1) := by decide +kernel
theorem dL_law_414 : decode cL_law 414 = .ok (.iadd, 1) := by decide +kernel
theorem dL_law_415 : decode cL_law 415 = .ok (.iaload, 1) := by decide +kernel
theorem dL_law_416 : decode cL_law 416 = .ok (.invokevirtual 49, 3) := by decide +kernel
theorem dL_law_419 : decode cL_law 419 = .ok (.if_icmp .eq 689, 3) := by decide +kernel
theorem dL_law_422 : decode cL_law 422 = .ok (.iconst 0, 1) := by decide +kernel
theorem dL_law_423 : decode cL_law 423 = .ok (.ireturn, 1) := by decide +kernel
theorem dL_law_424 : decode cL_law 424 = .ok (.aload_n 1, 1) := by decide +kernel
theorem dL_law_425 : decode cL_law 425 = .ok (.aload_n 0, 1) := by decide +kernel
theorem dL_law_426 : decode cL_law 426 = .ok (.iload_n 3, 1) := by decide +kernel
theorem dL_law_427 : decode cL_law 427 = .ok (.iconst 1, 1) := by decide +kernel
theorem dL_law_428 : decode cL_law 428 = .ok (.iadd, 1) := by decide +kernel
theorem dL_law_429 : decode cL_law 429 = .ok (.iaload, 1) := by decide +kernel
theorem dL_law_430 : decode cL_law 430 = .ok (.invokevirtual 50, 3) := by decide +kernel
theorem dL_law_433 : decode cL_law 433 = .ok (.aload_n 2, 1) := by decide +kernel
theorem dL_law_434 : decode cL_law 434 = .ok (.aload_n 0, 1) := by decide +kernel
theorem dL_law_435 : decode cL_law 435 = .ok (.iload_n 3, 1) := by decide +kernel
theorem dL_law_436 : decode cL_law 436 = .ok (.iconst 1, 1) := by decide +kernel
theorem dL_law_437 : decode cL_law 437 = .ok (.iadd, 1) := by decide +kernel
theorem dL_law_438 : decode cL_law 438 = .ok (.iaload, 1) := by decide +kernel
theorem dL_law_439 : decode cL_law 439 = .ok (.invokevirtual 54, 3) := by decide +kernel
theorem dL_law_442 : decode cL_law 442 = .ok (.lcmp, 1) := by decide +kernel
theorem dL_law_443 : decode cL_law 443 = .ok (.ifCond .eq 665, 3) := by decide +kernel
theorem dL_law_446 : decode cL_law 446 = .ok (.iconst 0, 1) := by decide +kernel
theorem dL_law_447 : decode cL_law 447 = .ok (.ireturn, 1) := by decide +kernel
theorem dL_law_448 : decode cL_law 448 = .ok (.aload_n 1, 1) := by decide +kernel
theorem dL_law_449 : decode cL_law 449 = .ok (.aload_n 0, 1) := by decide +kernel
theorem dL_law_450 : decode cL_law 450 = .ok (.iload_n 3, 1) := by decide +kernel
theorem dL_law_451 : decode cL_law 451 = .ok (.iconst 1, 1) := by decide +kernel
theorem dL_law_452 : decode cL_law 452 = .ok (.iadd, 1) := by decide +kernel
theorem dL_law_453 : decode cL_law 453 = .ok (.iaload, 1) := by decide +kernel
theorem dL_law_454 : decode cL_law 454 = .ok (.invokevirtual 55, 3) := by decide +kernel
theorem dL_law_457 : decode cL_law 457 = .ok (.aload_n 2, 1) := by decide +kernel
theorem dL_law_458 : decode cL_law 458 = .ok (.aload_n 0, 1) := by decide +kernel
theorem dL_law_459 : decode cL_law 459 = .ok (.iload_n 3, 1) := by decide +kernel
theorem dL_law_460 : decode cL_law 460 = .ok (.iconst 1, 1) := by decide +kernel
theorem dL_law_461 : decode cL_law 461 = .ok (.iadd, 1) := by decide +kernel
theorem dL_law_462 : decode cL_law 462 = .ok (.iaload, 1) := by decide +kernel
theorem dL_law_463 : decode cL_law 463 = .ok (.invokevirtual 58, 3) := by decide +kernel
theorem dL_law_466 : decode cL_law 466 = .ok (.lcmp, 1) := by decide +kernel
theorem dL_law_467 : decode cL_law 467 = .ok (.ifCond .eq 641, 3) := by decide +kernel
theorem dL_law_470 : decode cL_law 470 = .ok (.iconst 0, 1) := by decide +kernel
theorem dL_law_471 : decode cL_law 471 = .ok (.ireturn, 1) := by decide +kernel
theorem dL_law_472 : decode cL_law 472 = .ok (.aload_n 1, 1) := by decide +kernel
theorem dL_law_473 : decode cL_law 473 = .ok (.aload_n 0, 1) := by decide +kernel
theorem dL_law_474 : decode cL_law 474 = .ok (.iload_n 3, 1) := by decide +kernel
theorem dL_law_475 : decode cL_law 475 = .ok (.iconst 1, 1) := by decide +kernel
theorem dL_law_476 : decode cL_law 476 = .ok (.iadd, 1) := by decide +kernel
theorem dL_law_477 : decode cL_law 477 = .ok (.iaload, 1) := by decide +kernel
theorem dL_law_478 : decode cL_law 478 = .ok (.invokevirtual 59, 3) := by decide +kernel
theorem dL_law_481 : decode cL_law 481 = .ok (.aload_n 2, 1) := by decide +kernel
theorem dL_law_482 : decode cL_law 482 = .ok (.aload_n 0, 1) := by decide +kernel
theorem dL_law_483 : decode cL_law 483 = .ok (.iload_n 3, 1) := by decide +kernel
theorem dL_law_484 : decode cL_law 484 = .ok (.iconst 1, 1) := by decide +kernel
theorem dL_law_485 : decode cL_law 485 = .ok (.iadd, 1) := by decide +kernel
theorem dL_law_486 : decode cL_law 486 = .ok (.iaload, 1) := by decide +kernel
theorem dL_law_487 : decode cL_law 487 = .ok (.invokevirtual 62, 3) := by decide +kernel
theorem dL_law_490 : decode cL_law 490 = .ok (.if_icmp .eq 618, 3) := by decide +kernel
theorem dL_law_493 : decode cL_law 493 = .ok (.iconst 0, 1) := by decide +kernel
theorem dL_law_494 : decode cL_law 494 = .ok (.ireturn, 1) := by decide +kernel
theorem dL_law_495 : decode cL_law 495 = .ok (.aload_n 1, 1) := by decide +kernel
theorem dL_law_496 : decode cL_law 496 = .ok (.invokevirtual 63, 3) := by decide +kernel
theorem dL_law_499 : decode cL_law 499 = .ok (.aload_n 2, 1) := by decide +kernel
theorem dL_law_500 : decode cL_law 500 = .ok (.invokevirtual 66, 3) := by decide +kernel
theorem dL_law_503 : decode cL_law 503 = .ok (.if_icmp .eq 605, 3) := by decide +kernel
theorem dL_law_506 : decode cL_law 506 = .ok (.iconst 0, 1) := by decide +kernel
theorem dL_law_507 : decode cL_law 507 = .ok (.ireturn, 1) := by decide +kernel
theorem dL_law_508 : decode cL_law 508 = .ok (.aload_n 1, 1) := by decide +kernel
theorem dL_law_509 : decode cL_law 509 = .ok (.aload_n 0, 1) := by decide +kernel
theorem dL_law_510 : decode cL_law 510 = .ok (.iload_n 3, 1) := by decide +kernel
theorem dL_law_511 : decode cL_law 511 = .ok (.iconst 1, 1) := by decide +kernel
theorem dL_law_512 : decode cL_law 512 = .ok (.iadd, 1) := by decide +kernel
theorem dL_law_513 : decode cL_law 513 = .ok (.iaload, 1) := by decide +kernel
theorem dL_law_514 : decode cL_law 514 = .ok (.aload_n 0, 1) := by decide +kernel
theorem dL_law_515 : decode cL_law 515 = .ok (.iload_n 3, 1) := by decide +kernel
theorem dL_law_516 : decode cL_law 516 = .ok (.iconst 2, 1) := by decide +kernel
theorem dL_law_517 : decode cL_law 517 = .ok (.iadd, 1) := by decide +kernel
theorem dL_law_518 : decode cL_law 518 = .ok (.iaload, 1) := by decide +kernel
theorem dL_law_519 : decode cL_law 519 = .ok (.aload_n 0, 1) := by decide +kernel
theorem dL_law_520 : decode cL_law 520 = .ok (.iload_n 3, 1) := by decide +kernel
theorem dL_law_521 : decode cL_law 521 = .ok (.iconst 3, 1) := by decide +kernel
theorem dL_law_522 : decode cL_law 522 = .ok (.iadd, 1) := by decide +kernel
theorem dL_law_523 : decode cL_law 523 = .ok (.iaload, 1) := by decide +kernel
theorem dL_law_524 : decode cL_law 524 = .ok (.invokevirtual 67, 3) := by decide +kernel
theorem dL_law_527 : decode cL_law 527 = .ok (.aload_n 2, 1) := by decide +kernel
theorem dL_law_528 : decode cL_law 528 = .ok (.aload_n 0, 1) := by decide +kernel
theorem dL_law_529 : decode cL_law 529 = .ok (.iload_n 3, 1) := by decide +kernel
theorem dL_law_530 : decode cL_law 530 = .ok (.iconst 1, 1) := by decide +kernel
theorem dL_law_531 : decode cL_law 531 = .ok (.iadd, 1) := by decide +kernel
theorem dL_law_532 : decode cL_law 532 = .ok (.iaload, 1) := by decide +kernel
theorem dL_law_533 : decode cL_law 533 = .ok (.aload_n 0, 1) := by decide +kernel
theorem dL_law_534 : decode cL_law 534 = .ok (.iload_n 3, 1) := by decide +kernel
theorem dL_law_535 : decode cL_law 535 = .ok (.iconst 2, 1) := by decide +kernel
theorem dL_law_536 : decode cL_law 536 = .ok (.iadd, 1) := by decide +kernel
theorem dL_law_537 : decode cL_law 537 = .ok (.iaload, 1) := by decide +kernel
theorem dL_law_538 : decode cL_law 538 = .ok (.aload_n 0, 1) := by decide +kernel
theorem dL_law_539 : decode cL_law 539 = .ok (.iload_n 3, 1) := by decide +kernel
theorem dL_law_540 : decode cL_law 540 = .ok (.iconst 3, 1) := by decide +kernel
theorem dL_law_541 : decode cL_law 541 = .ok (.iadd, 1) := by decide +kernel
theorem dL_law_542 : decode cL_law 542 = .ok (.iaload, 1) := by decide +kernel
theorem dL_law_543 : decode cL_law 543 = .ok (.invokevirtual 71, 3) := by decide +kernel
theorem dL_law_546 : decode cL_law 546 = .ok (.lcmp, 1) := by decide +kernel
theorem dL_law_547 : decode cL_law 547 = .ok (.ifCond .eq 561, 3) := by decide +kernel
theorem dL_law_550 : decode cL_law 550 = .ok (.iconst 0, 1) := by decide +kernel
theorem dL_law_551 : decode cL_law 551 = .ok (.ireturn, 1) := by decide +kernel
theorem dL_law_552 : decode cL_law 552 = .ok (.aload_n 1, 1) := by decide +kernel
theorem dL_law_553 : decode cL_law 553 = .ok (.aload_n 0, 1) := by decide +kernel
theorem dL_law_554 : decode cL_law 554 = .ok (.iload_n 3, 1) := by decide +kernel
theorem dL_law_555 : decode cL_law 555 = .ok (.iconst 1, 1) := by decide +kernel
theorem dL_law_556 : decode cL_law 556 = .ok (.iadd, 1) := by decide +kernel
theorem dL_law_557 : decode cL_law 557 = .ok (.iaload, 1) := by decide +kernel
theorem dL_law_558 : decode cL_law 558 = .ok (.invokevirtual 72, 3) := by decide +kernel
theorem dL_law_561 : decode cL_law 561 = .ok (.aload_n 2, 1) := by decide +kernel
theorem dL_law_562 : decode cL_law 562 = .ok (.aload_n 0, 1) := by decide +kernel
theorem dL_law_563 : decode cL_law 563 = .ok (.iload_n 3, 1) := by decide +kernel
theorem dL_law_564 : decode cL_law 564 = .ok (.iconst 1, 1) := by decide +kernel
theorem dL_law_565 : decode cL_law 565 = .ok (.iadd, 1) := by decide +kernel
theorem dL_law_566 : decode cL_law 566 = .ok (.iaload, 1) := by decide +kernel
theorem dL_law_567 : decode cL_law 567 = .ok (.invokevirtual 75, 3) := by decide +kernel
theorem dL_law_570 : decode cL_law 570 = .ok (.lcmp, 1) := by decide +kernel
theorem dL_law_571 : decode cL_law 571 = .ok (.ifCond .eq 537, 3) := by decide +kernel
theorem dL_law_574 : decode cL_law 574 = .ok (.iconst 0, 1) := by decide +kernel
theorem dL_law_575 : decode cL_law 575 = .ok (.ireturn, 1) := by decide +kernel
theorem dL_law_576 : decode cL_law 576 = .ok (.aload_n 1, 1) := by decide +kernel
theorem dL_law_577 : decode cL_law 577 = .ok (.aload_n 0, 1) := by decide +kernel
theorem dL_law_578 : decode cL_law 578 = .ok (.iload_n 3, 1) := by decide +kernel
theorem dL_law_579 : decode cL_law 579 = .ok (.iconst 1, 1) := by decide +kernel
theorem dL_law_580 : decode cL_law 580 = .ok (.iadd, 1) := by decide +kernel
theorem dL_law_581 : decode cL_law 581 = .ok (.iaload, 1) := by decide +kernel
theorem dL_law_582 : decode cL_law 582 = .ok (.invokevirtual 76, 3) := by decide +kernel
theorem dL_law_585 : decode cL_law 585 = .ok (.aload_n 2, 1) := by decide +kernel
theorem dL_law_586 : decode cL_law 586 = .ok (.aload_n 0, 1) := by decide +kernel
theorem dL_law_587 : decode cL_law 587 = .ok (.iload_n 3, 1) := by decide +kernel
theorem dL_law_588 : decode cL_law 588 = .ok (.iconst 1, 1) := by decide +kernel
theorem dL_law_589 : decode cL_law 589 = .ok (.iadd, 1) := by decide +kernel
theorem dL_law_590 : decode cL_law 590 = .ok (.iaload, 1) := by decide +kernel
theorem dL_law_591 : decode cL_law 591 = .ok (.invokevirtual 79, 3) := by decide +kernel
theorem dL_law_594 : decode cL_law 594 = .ok (.if_icmp .eq 514, 3) := by decide +kernel
theorem dL_law_597 : decode cL_law 597 = .ok (.iconst 0, 1) := by decide +kernel
theorem dL_law_598 : decode cL_law 598 = .ok (.ireturn, 1) := by decide +kernel
theorem dL_law_599 : decode cL_law 599 = .ok (.aload_n 1, 1) := by decide +kernel
theorem dL_law_600 : decode cL_law 600 = .ok (.aload_n 0, 1) := by decide +kernel
theorem dL_law_601 : decode cL_law 601 = .ok (.iload_n 3, 1) := by decide +kernel
theorem dL_law_602 : decode cL_law 602 = .ok (.iconst 1, 1) := by decide +kernel
theorem dL_law_603 : decode cL_law 603 = .ok (.iadd, 1) := by decide +kernel
theorem dL_law_604 : decode cL_law 604 = .ok (.iaload, 1) := by decide +kernel
theorem dL_law_605 : decode cL_law 605 = .ok (.aload_n 0, 1) := by decide +kernel
theorem dL_law_606 : decode cL_law 606 = .ok (.iload_n 3, 1) := by decide +kernel
theorem dL_law_607 : decode cL_law 607 = .ok (.iconst 2, 1) := by decide +kernel
theorem dL_law_608 : decode cL_law 608 = .ok (.iadd, 1) := by decide +kernel
theorem dL_law_609 : decode cL_law 609 = .ok (.iaload, 1) := by decide +kernel
theorem dL_law_610 : decode cL_law 610 = .ok (.aload_n 0, 1) := by decide +kernel
theorem dL_law_611 : decode cL_law 611 = .ok (.iload_n 3, 1) := by decide +kernel
theorem dL_law_612 : decode cL_law 612 = .ok (.iconst 3, 1) := by decide +kernel
theorem dL_law_613 : decode cL_law 613 = .ok (.iadd, 1) := by decide +kernel
theorem dL_law_614 : decode cL_law 614 = .ok (.iaload, 1) := by decide +kernel
theorem dL_law_615 : decode cL_law 615 = .ok (.invokevirtual 80, 3) := by decide +kernel
theorem dL_law_618 : decode cL_law 618 = .ok (.aload_n 2, 1) := by decide +kernel
theorem dL_law_619 : decode cL_law 619 = .ok (.aload_n 0, 1) := by decide +kernel
theorem dL_law_620 : decode cL_law 620 = .ok (.iload_n 3, 1) := by decide +kernel
theorem dL_law_621 : decode cL_law 621 = .ok (.iconst 1, 1) := by decide +kernel
theorem dL_law_622 : decode cL_law 622 = .ok (.iadd, 1) := by decide +kernel
theorem dL_law_623 : decode cL_law 623 = .ok (.iaload, 1) := by decide +kernel
theorem dL_law_624 : decode cL_law 624 = .ok (.aload_n 0, 1) := by decide +kernel
theorem dL_law_625 : decode cL_law 625 = .ok (.iload_n 3, 1) := by decide +kernel
theorem dL_law_626 : decode cL_law 626 = .ok (.iconst 2, 1) := by decide +kernel
theorem dL_law_627 : decode cL_law 627 = .ok (.iadd, 1) := by decide +kernel
theorem dL_law_628 : decode cL_law 628 = .ok (.iaload, 1) := by decide +kernel
theorem dL_law_629 : decode cL_law 629 = .ok (.aload_n 0, 1) := by decide +kernel
theorem dL_law_630 : decode cL_law 630 = .ok (.iload_n 3, 1) := by decide +kernel
theorem dL_law_631 : decode cL_law 631 = .ok (.iconst 3, 1) := by decide +kernel
theorem dL_law_632 : decode cL_law 632 = .ok (.iadd, 1) := by decide +kernel
theorem dL_law_633 : decode cL_law 633 = .ok (.iaload, 1) := by decide +kernel
theorem dL_law_634 : decode cL_law 634 = .ok (.invokevirtual 83, 3) := by decide +kernel
theorem dL_law_637 : decode cL_law 637 = .ok (.lcmp, 1) := by decide +kernel
theorem dL_law_638 : decode cL_law 638 = .ok (.ifCond .eq 470, 3) := by decide +kernel
theorem dL_law_641 : decode cL_law 641 = .ok (.iconst 0, 1) := by decide +kernel
theorem dL_law_642 : decode cL_law 642 = .ok (.ireturn, 1) := by decide +kernel
theorem dL_law_643 : decode cL_law 643 = .ok (.aload_n 1, 1) := by decide +kernel
theorem dL_law_644 : decode cL_law 644 = .ok (.aload_n 0, 1) := by decide +kernel
theorem dL_law_645 : decode cL_law 645 = .ok (.iload_n 3, 1) := by decide +kernel
theorem dL_law_646 : decode cL_law 646 = .ok (.iconst 1, 1) := by decide +kernel
theorem dL_law_647 : decode cL_law 647 = .ok (.iadd, 1) := by decide +kernel
theorem dL_law_648 : decode cL_law 648 = .ok (.iaload, 1) := by decide +kernel
theorem dL_law_649 : decode cL_law 649 = .ok (.invokevirtual 84, 3) := by decide +kernel
theorem dL_law_652 : decode cL_law 652 = .ok (.aload_n 2, 1) := by decide +kernel
theorem dL_law_653 : decode cL_law 653 = .ok (.aload_n 0, 1) := by decide +kernel
theorem dL_law_654 : decode cL_law 654 = .ok (.iload_n 3, 1) := by decide +kernel
theorem dL_law_655 : decode cL_law 655 = .ok (.iconst 1, 1) := by decide +kernel
theorem dL_law_656 : decode cL_law 656 = .ok (.iadd, 1) := by decide +kernel
theorem dL_law_657 : decode cL_law 657 = .ok (.iaload, 1) := by decide +kernel
theorem dL_law_658 : decode cL_law 658 = .ok (.invokevirtual 87, 3) := by decide +kernel
theorem dL_law_661 : decode cL_law 661 = .ok (.if_icmp .eq 447, 3) := by decide +kernel
theorem dL_law_664 : decode cL_law 664 = .ok (.iconst 0, 1) := by decide +kernel
theorem dL_law_665 : decode cL_law 665 = .ok (.ireturn, 1) := by decide +kernel
theorem dL_law_666 : decode cL_law 666 = .ok (.aload_n 1, 1) := by decide +kernel
theorem dL_law_667 : decode cL_law 667 = .ok (.aload_n 0, 1) := by decide +kernel
theorem dL_law_668 : decode cL_law 668 = .ok (.iload_n 3, 1) := by decide +kernel
theorem dL_law_669 : decode cL_law 669 = .ok (.iconst 1, 1) := by decide +kernel
theorem dL_law_670 : decode cL_law 670 = .ok (.iadd, 1) := by decide +kernel
theorem dL_law_671 : decode cL_law 671 = .ok (.iaload, 1) := by decide +kernel
theorem dL_law_672 : decode cL_law 672 = .ok (.aload_n 0, 1) := by decide +kernel
theorem dL_law_673 : decode cL_law 673 = .ok (.iload_n 3, 1) := by decide +kernel
theorem dL_law_674 : decode cL_law 674 = .ok (.iconst 2, 1) := by decide +kernel
theorem dL_law_675 : decode cL_law 675 = .ok (.iadd, 1) := by decide +kernel
theorem dL_law_676 : decode cL_law 676 = .ok (.iaload, 1) := by decide +kernel
theorem dL_law_677 : decode cL_law 677 = .ok (.invokevirtual 88, 3) := by decide +kernel
theorem dL_law_680 : decode cL_law 680 = .ok (.aload_n 2, 1) := by decide +kernel
theorem dL_law_681 : decode cL_law 681 = .ok (.aload_n 0, 1) := by decide +kernel
theorem dL_law_682 : decode cL_law 682 = .ok (.iload_n 3, 1) := by decide +kernel
theorem dL_law_683 : decode cL_law 683 = .ok (.iconst 1, 1) := by decide +kernel
theorem dL_law_684 : decode cL_law 684 = .ok (.iadd, 1) := by decide +kernel
theorem dL_law_685 : decode cL_law 685 = .ok (.iaload, 1) := by decide +kernel
theorem dL_law_686 : decode cL_law 686 = .ok (.aload_n 0, 1) := by decide +kernel
theorem dL_law_687 : decode cL_law 687 = .ok (.iload_n 3, 1) := by decide +kernel
theorem dL_law_688 : decode cL_law 688 = .ok (.iconst 2, 1) := by decide +kernel
theorem dL_law_689 : decode cL_law 689 = .ok (.iadd, 1) := by decide +kernel
theorem dL_law_690 : decode cL_law 690 = .ok (.iaload, 1) := by decide +kernel
theorem dL_law_691 : decode cL_law 691 = .ok (.invokevirtual 92, 3) := by decide +kernel
theorem dL_law_694 : decode cL_law 694 = .ok (.lcmp, 1) := by decide +kernel
theorem dL_law_695 : decode cL_law 695 = .ok (.ifCond .eq 413, 3) := by decide +kernel
theorem dL_law_698 : decode cL_law 698 = .ok (.iconst 0, 1) := by decide +kernel
theorem dL_law_699 : decode cL_law 699 = .ok (.ireturn, 1) := by decide +kernel
theorem dL_law_700 : decode cL_law 700 = .ok (.aload_n 1, 1) := by decide +kernel
theorem dL_law_701 : decode cL_law 701 = .ok (.invokevirtual 93, 3) := by decide +kernel
theorem dL_law_704 : decode cL_law 704 = .ok (.aload_n 2, 1) := by decide +kernel
theorem dL_law_705 : decode cL_law 705 = .ok (.invokevirtual 96, 3) := by decide +kernel
theorem dL_law_708 : decode cL_law 708 = .ok (.if_icmp .eq 400, 3) := by decide +kernel
theorem dL_law_711 : decode cL_law 711 = .ok (.iconst 0, 1) := by decide +kernel
theorem dL_law_712 : decode cL_law 712 = .ok (.ireturn, 1) := by decide +kernel
theorem dL_law_713 : decode cL_law 713 = .ok (.aload_n 1, 1) := by decide +kernel
theorem dL_law_714 : decode cL_law 714 = .ok (.aload_n 0, 1) := by decide +kernel
theorem dL_law_715 : decode cL_law 715 = .ok (.iload_n 3, 1) := by decide +kernel
theorem dL_law_716 : decode cL_law 716 = .ok (.iconst 1, 1) := by decide +kernel
theorem dL_law_717 : decode cL_law 717 = .ok (.iadd, 1) := by decide +kernel
theorem dL_law_718 : decode cL_law 718 = .ok (.iaload, 1) := by decide +kernel
theorem dL_law_719 : decode cL_law 719 = .ok (.aload_n 0, 1) := by decide +kernel
theorem dL_law_720 : decode cL_law 720 = .ok (.iload_n 3, 1) := by decide +kernel
theorem dL_law_721 : decode cL_law 721 = .ok (.iconst 2, 1) := by decide +kernel
theorem dL_law_722 : decode cL_law 722 = .ok (.iadd, 1) := by decide +kernel
theorem dL_law_723 : decode cL_law 723 = .ok (.iaload, 1) := by decide +kernel
theorem dL_law_724 : decode cL_law 724 = .ok (.aload_n 0, 1) := by decide +kernel
theorem dL_law_725 : decode cL_law 725 = .ok (.iload_n 3, 1) := by decide +kernel
theorem dL_law_726 : decode cL_law 726 = .ok (.iconst 3, 1) := by decide +kernel
theorem dL_law_727 : decode cL_law 727 = .ok (.iadd, 1) := by decide +kernel
theorem dL_law_728 : decode cL_law 728 = .ok (.iaload, 1) := by decide +kernel
theorem dL_law_729 : decode cL_law 729 = .ok (.aload_n 0, 1) := by decide +kernel
theorem dL_law_730 : decode cL_law 730 = .ok (.iload_n 3, 1) := by decide +kernel
theorem dL_law_731 : decode cL_law 731 = .ok (.iconst 4, 1) := by decide +kernel
theorem dL_law_732 : decode cL_law 732 = .ok (.iadd, 1) := by decide +kernel
theorem dL_law_733 : decode cL_law 733 = .ok (.iaload, 1) := by decide +kernel
theorem dL_law_734 : decode cL_law 734 = .ok (.invokevirtual 97, 3) := by decide +kernel
theorem dL_law_737 : decode cL_law 737 = .ok (.aload_n 2, 1) := by decide +kernel
theorem dL_law_738 : decode cL_law 738 = .ok (.aload_n 0, 1) := by decide +kernel
theorem dL_law_739 : decode cL_law 739 = .ok (.iload_n 3, 1) := by decide +kernel
theorem dL_law_740 : decode cL_law 740 = .ok (.iconst 1, 1) := by decide +kernel
theorem dL_law_741 : decode cL_law 741 = .ok (.iadd, 1) := by decide +kernel
theorem dL_law_742 : decode cL_law 742 = .ok (.iaload, 1) := by decide +kernel
theorem dL_law_743 : decode cL_law 743 = .ok (.aload_n 0, 1) := by decide +kernel
theorem dL_law_744 : decode cL_law 744 = .ok (.iload_n 3, 1) := by decide +kernel
theorem dL_law_745 : decode cL_law 745 = .ok (.iconst 2, 1) := by decide +kernel
theorem dL_law_746 : decode cL_law 746 = .ok (.iadd, 1) := by decide +kernel
theorem dL_law_747 : decode cL_law 747 = .ok (.iaload, 1) := by decide +kernel
theorem dL_law_748 : decode cL_law 748 = .ok (.aload_n 0, 1) := by decide +kernel
theorem dL_law_749 : decode cL_law 749 = .ok (.iload_n 3, 1) := by decide +kernel
theorem dL_law_750 : decode cL_law 750 = .ok (.iconst 3, 1) := by decide +kernel
theorem dL_law_751 : decode cL_law 751 = .ok (.iadd, 1) := by decide +kernel
theorem dL_law_752 : decode cL_law 752 = .ok (.iaload, 1) := by decide +kernel
theorem dL_law_753 : decode cL_law 753 = .ok (.aload_n 0, 1) := by decide +kernel
theorem dL_law_754 : decode cL_law 754 = .ok (.iload_n 3, 1) := by decide +kernel
theorem dL_law_755 : decode cL_law 755 = .ok (.iconst 4, 1) := by decide +kernel
theorem dL_law_756 : decode cL_law 756 = .ok (.iadd, 1) := by decide +kernel
theorem dL_law_757 : decode cL_law 757 = .ok (.iaload, 1) := by decide +kernel
theorem dL_law_758 : decode cL_law 758 = .ok (.invokevirtual 101, 3) := by decide +kernel
theorem dL_law_761 : decode cL_law 761 = .ok (.lcmp, 1) := by decide +kernel
theorem dL_law_762 : decode cL_law 762 = .ok (.ifCond .eq 346, 3) := by decide +kernel
theorem dL_law_765 : decode cL_law 765 = .ok (.iconst 0, 1) := by decide +kernel
theorem dL_law_766 : decode cL_law 766 = .ok (.ireturn, 1) := by decide +kernel
theorem dL_law_767 : decode cL_law 767 = .ok (.aload_n 1, 1) := by decide +kernel
theorem dL_law_768 : decode cL_law 768 = .ok (.aload_n 0, 1) := by decide +kernel
theorem dL_law_769 : decode cL_law 769 = .ok (.iload_n 3, 1) := by decide +kernel
theorem dL_law_770 : decode cL_law 770 = .ok (.iconst 1, 1) := by decide +kernel
theorem dL_law_771 : decode cL_law 771 = .ok (.iadd, 1) := by decide +kernel
theorem dL_law_772 : decode cL_law 772 = .ok (.iaload, 1) := by decide +kernel
theorem dL_law_773 : decode cL_law 773 = .ok (.invokevirtual 102, 3) := by decide +kernel
theorem dL_law_776 : decode cL_law 776 = .ok (.aload_n 2, 1) := by decide +kernel
theorem dL_law_777 : decode cL_law 777 = .ok (.aload_n 0, 1) := by decide +kernel
theorem dL_law_778 : decode cL_law 778 = .ok (.iload_n 3, 1) := by decide +kernel
theorem dL_law_779 : decode cL_law 779 = .ok (.iconst 1, 1) := by decide +kernel
theorem dL_law_780 : decode cL_law 780 = .ok (.iadd, 1) := by decide +kernel
theorem dL_law_781 : decode cL_law 781 = .ok (.iaload, 1) := by decide +kernel
theorem dL_law_782 : decode cL_law 782 = .ok (.invokevirtual 105, 3) := by decide +kernel
theorem dL_law_785 : decode cL_law 785 = .ok (.if_icmp .eq 323, 3) := by decide +kernel
theorem dL_law_788 : decode cL_law 788 = .ok (.iconst 0, 1) := by decide +kernel
theorem dL_law_789 : decode cL_law 789 = .ok (.ireturn, 1) := by decide +kernel
theorem dL_law_790 : decode cL_law 790 = .ok (.aload_n 1, 1) := by decide +kernel
theorem dL_law_791 : decode cL_law 791 = .ok (.invokevirtual 106, 3) := by decide +kernel
theorem dL_law_794 : decode cL_law 794 = .ok (.aload_n 2, 1) := by decide +kernel
theorem dL_law_795 : decode cL_law 795 = .ok (.invokevirtual 109, 3) := by decide +kernel
theorem dL_law_798 : decode cL_law 798 = .ok (.if_icmp .eq 310, 3) := by decide +kernel
theorem dL_law_801 : decode cL_law 801 = .ok (.iconst 0, 1) := by decide +kernel
theorem dL_law_802 : decode cL_law 802 = .ok (.ireturn, 1) := by decide +kernel
theorem dL_law_803 : decode cL_law 803 = .ok (.aload_n 1, 1) := by decide +kernel
theorem dL_law_804 : decode cL_law 804 = .ok (.invokevirtual 110, 3) := by decide +kernel
theorem dL_law_807 : decode cL_law 807 = .ok (.aload_n 2, 1) := by decide +kernel
theorem dL_law_808 : decode cL_law 808 = .ok (.invokevirtual 113, 3) := by decide +kernel
theorem dL_law_811 : decode cL_law 811 = .ok (.if_icmp .eq 297, 3) := by decide +kernel
theorem dL_law_814 : decode cL_law 814 = .ok (.iconst 0, 1) := by decide +kernel
theorem dL_law_815 : decode cL_law 815 = .ok (.ireturn, 1) := by decide +kernel
theorem dL_law_816 : decode cL_law 816 = .ok (.aload_n 1, 1) := by decide +kernel
theorem dL_law_817 : decode cL_law 817 = .ok (.invokevirtual 114, 3) := by decide +kernel
theorem dL_law_820 : decode cL_law 820 = .ok (.aload_n 2, 1) := by decide +kernel
theorem dL_law_821 : decode cL_law 821 = .ok (.invokevirtual 117, 3) := by decide +kernel
theorem dL_law_824 : decode cL_law 824 = .ok (.if_icmp .eq 284, 3) := by decide +kernel
theorem dL_law_827 : decode cL_law 827 = .ok (.iconst 0, 1) := by decide +kernel
theorem dL_law_828 : decode cL_law 828 = .ok (.ireturn, 1) := by decide +kernel
theorem dL_law_829 : decode cL_law 829 = .ok (.aload_n 1, 1) := by decide +kernel
theorem dL_law_830 : decode cL_law 830 = .ok (.aload_n 0, 1) := by decide +kernel
theorem dL_law_831 : decode cL_law 831 = .ok (.iload_n 3, 1) := by decide +kernel
theorem dL_law_832 : decode cL_law 832 = .ok (.iconst 1, 1) := by decide +kernel
theorem dL_law_833 : decode cL_law 833 = .ok (.iadd, 1) := by decide +kernel
theorem dL_law_834 : decode cL_law 834 = .ok (.iaload, 1) := by decide +kernel
theorem dL_law_835 : decode cL_law 835 = .ok (.aload_n 0, 1) := by decide +kernel
theorem dL_law_836 : decode cL_law 836 = .ok (.iload_n 3, 1) := by decide +kernel
theorem dL_law_837 : decode cL_law 837 = .ok (.iconst 2, 1) := by decide +kernel
theorem dL_law_838 : decode cL_law 838 = .ok (.iadd, 1) := by decide +kernel
theorem dL_law_839 : decode cL_law 839 = .ok (.iaload, 1) := by decide +kernel
theorem dL_law_840 : decode cL_law 840 = .ok (.invokevirtual 118, 3) := by decide +kernel
theorem dL_law_843 : decode cL_law 843 = .ok (.aload_n 2, 1) := by decide +kernel
theorem dL_law_844 : decode cL_law 844 = .ok (.aload_n 0, 1) := by decide +kernel
theorem dL_law_845 : decode cL_law 845 = .ok (.iload_n 3, 1) := by decide +kernel
theorem dL_law_846 : decode cL_law 846 = .ok (.iconst 1, 1) := by decide +kernel
theorem dL_law_847 : decode cL_law 847 = .ok (.iadd, 1) := by decide +kernel
theorem dL_law_848 : decode cL_law 848 = .ok (.iaload, 1) := by decide +kernel
theorem dL_law_849 : decode cL_law 849 = .ok (.aload_n 0, 1) := by decide +kernel
theorem dL_law_850 : decode cL_law 850 = .ok (.iload_n 3, 1) := by decide +kernel
theorem dL_law_851 : decode cL_law 851 = .ok (.iconst 2, 1) := by decide +kernel
theorem dL_law_852 : decode cL_law 852 = .ok (.iadd, 1) := by decide +kernel
theorem dL_law_853 : decode cL_law 853 = .ok (.iaload, 1) := by decide +kernel
theorem dL_law_854 : decode cL_law 854 = .ok (.invokevirtual 121, 3) := by decide +kernel
theorem dL_law_857 : decode cL_law 857 = .ok (.if_icmp .eq 251, 3) := by decide +kernel
theorem dL_law_860 : decode cL_law 860 = .ok (.iconst 0, 1) := by decide +kernel
theorem dL_law_861 : decode cL_law 861 = .ok (.ireturn, 1) := by decide +kernel
theorem dL_law_862 : decode cL_law 862 = .ok (.aload_n 1, 1) := by decide +kernel
theorem dL_law_863 : decode cL_law 863 = .ok (.aload_n 0, 1) := by decide +kernel
theorem dL_law_864 : decode cL_law 864 = .ok (.iload_n 3, 1) := by decide +kernel
theorem dL_law_865 : decode cL_law 865 = .ok (.iconst 1, 1) := by decide +kernel
theorem dL_law_866 : decode cL_law 866 = .ok (.iadd, 1) := by decide +kernel
theorem dL_law_867 : decode cL_law 867 = .ok (.iaload, 1) := by decide +kernel
theorem dL_law_868 : decode cL_law 868 = .ok (.invokevirtual 122, 3) := by decide +kernel
theorem dL_law_871 : decode cL_law 871 = .ok (.aload_n 2, 1) := by decide +kernel
theorem dL_law_872 : decode cL_law 872 = .ok (.aload_n 0, 1) := by decide +kernel
theorem dL_law_873 : decode cL_law 873 = .ok (.iload_n 3, 1) := by decide +kernel
theorem dL_law_874 : decode cL_law 874 = .ok (.iconst 1, 1) := by decide +kernel
theorem dL_law_875 : decode cL_law 875 = .ok (.iadd, 1) := by decide +kernel
theorem dL_law_876 : decode cL_law 876 = .ok (.iaload, 1) := by decide +kernel
theorem dL_law_877 : decode cL_law 877 = .ok (.invokevirtual 125, 3) := by decide +kernel
theorem dL_law_880 : decode cL_law 880 = .ok (.if_icmp .eq 228, 3) := by decide +kernel
theorem dL_law_883 : decode cL_law 883 = .ok (.iconst 0, 1) := by decide +kernel
theorem dL_law_884 : decode cL_law 884 = .ok (.ireturn, 1) := by decide +kernel
theorem dL_law_885 : decode cL_law 885 = .ok (.aload_n 1, 1) := by decide +kernel
theorem dL_law_886 : decode cL_law 886 = .ok (.aload_n 0, 1) := by decide +kernel
theorem dL_law_887 : decode cL_law 887 = .ok (.iload_n 3, 1) := by decide +kernel
theorem dL_law_888 : decode cL_law 888 = .ok (.iconst 1, 1) := by decide +kernel
theorem dL_law_889 : decode cL_law 889 = .ok (.iadd, 1) := by decide +kernel
theorem dL_law_890 : decode cL_law 890 = .ok (.iaload, 1) := by decide +kernel
theorem dL_law_891 : decode cL_law 891 = .ok (.aload_n 0, 1) := by decide +kernel
theorem dL_law_892 : decode cL_law 892 = .ok (.iload_n 3, 1) := by decide +kernel
theorem dL_law_893 : decode cL_law 893 = .ok (.iconst 2, 1) := by decide +kernel
theorem dL_law_894 : decode cL_law 894 = .ok (.iadd, 1) := by decide +kernel
theorem dL_law_895 : decode cL_law 895 = .ok (.iaload, 1) := by decide +kernel
theorem dL_law_896 : decode cL_law 896 = .ok (.aload_n 0, 1) := by decide +kernel
theorem dL_law_897 : decode cL_law 897 = .ok (.iload_n 3, 1) := by decide +kernel
theorem dL_law_898 : decode cL_law 898 = .ok (.iconst 3, 1) := by decide +kernel
theorem dL_law_899 : decode cL_law 899 = .ok (.iadd, 1) := by decide +kernel
theorem dL_law_900 : decode cL_law 900 = .ok (.iaload, 1) := by decide +kernel
theorem dL_law_901 : decode cL_law 901 = .ok (.invokevirtual 126, 3) := by decide +kernel
theorem dL_law_904 : decode cL_law 904 = .ok (.aload_n 2, 1) := by decide +kernel
theorem dL_law_905 : decode cL_law 905 = .ok (.aload_n 0, 1) := by decide +kernel
theorem dL_law_906 : decode cL_law 906 = .ok (.iload_n 3, 1) := by decide +kernel
theorem dL_law_907 : decode cL_law 907 = .ok (.iconst 1, 1) := by decide +kernel
theorem dL_law_908 : decode cL_law 908 = .ok (.iadd, 1) := by decide +kernel
theorem dL_law_909 : decode cL_law 909 = .ok (.iaload, 1) := by decide +kernel
theorem dL_law_910 : decode cL_law 910 = .ok (.aload_n 0, 1) := by decide +kernel
theorem dL_law_911 : decode cL_law 911 = .ok (.iload_n 3, 1) := by decide +kernel
theorem dL_law_912 : decode cL_law 912 = .ok (.iconst 2, 1) := by decide +kernel
theorem dL_law_913 : decode cL_law 913 = .ok (.iadd, 1) := by decide +kernel
theorem dL_law_914 : decode cL_law 914 = .ok (.iaload, 1) := by decide +kernel
theorem dL_law_915 : decode cL_law 915 = .ok (.aload_n 0, 1) := by decide +kernel
theorem dL_law_916 : decode cL_law 916 = .ok (.iload_n 3, 1) := by decide +kernel
theorem dL_law_917 : decode cL_law 917 = .ok (.iconst 3, 1) := by decide +kernel
theorem dL_law_918 : decode cL_law 918 = .ok (.iadd, 1) := by decide +kernel
theorem dL_law_919 : decode cL_law 919 = .ok (.iaload, 1) := by decide +kernel
theorem dL_law_920 : decode cL_law 920 = .ok (.invokevirtual 129, 3) := by decide +kernel
theorem dL_law_923 : decode cL_law 923 = .ok (.if_icmp .eq 185, 3) := by decide +kernel
theorem dL_law_926 : decode cL_law 926 = .ok (.iconst 0, 1) := by decide +kernel
theorem dL_law_927 : decode cL_law 927 = .ok (.ireturn, 1) := by decide +kernel
theorem dL_law_928 : decode cL_law 928 = .ok (.aload_n 1, 1) := by decide +kernel
theorem dL_law_929 : decode cL_law 929 = .ok (.aload_n 0, 1) := by decide +kernel
theorem dL_law_930 : decode cL_law 930 = .ok (.iload_n 3, 1) := by decide +kernel
theorem dL_law_931 : decode cL_law 931 = .ok (.iconst 1, 1) := by decide +kernel
theorem dL_law_932 : decode cL_law 932 = .ok (.iadd, 1) := by decide +kernel
theorem dL_law_933 : decode cL_law 933 = .ok (.iaload, 1) := by decide +kernel
theorem dL_law_934 : decode cL_law 934 = .ok (.aload_n 0, 1) := by decide +kernel
theorem dL_law_935 : decode cL_law 935 = .ok (.iload_n 3, 1) := by decide +kernel
theorem dL_law_936 : decode cL_law 936 = .ok (.iconst 2, 1) := by decide +kernel
theorem dL_law_937 : decode cL_law 937 = .ok (.iadd, 1) := by decide +kernel
theorem dL_law_938 : decode cL_law 938 = .ok (.iaload, 1) := by decide +kernel
theorem dL_law_939 : decode cL_law 939 = .ok (.invokevirtual 130, 3) := by decide +kernel
theorem dL_law_942 : decode cL_law 942 = .ok (.aload_n 2, 1) := by decide +kernel
theorem dL_law_943 : decode cL_law 943 = .ok (.aload_n 0, 1) := by decide +kernel
theorem dL_law_944 : decode cL_law 944 = .ok (.iload_n 3, 1) := by decide +kernel
theorem dL_law_945 : decode cL_law 945 = .ok (.iconst 1, 1) := by decide +kernel
theorem dL_law_946 : decode cL_law 946 = .ok (.iadd, 1) := by decide +kernel
theorem dL_law_947 : decode cL_law 947 = .ok (.iaload, 1) := by decide +kernel
theorem dL_law_948 : decode cL_law 948 = .ok (.aload_n 0, 1) := by decide +kernel
theorem dL_law_949 : decode cL_law 949 = .ok (.iload_n 3, 1) := by decide +kernel
theorem dL_law_950 : decode cL_law 950 = .ok (.iconst 2, 1) := by decide +kernel
theorem dL_law_951 : decode cL_law 951 = .ok (.iadd, 1) := by decide +kernel
theorem dL_law_952 : decode cL_law 952 = .ok (.iaload, 1) := by decide +kernel
theorem dL_law_953 : decode cL_law 953 = .ok (.invokevirtual 133, 3) := by decide +kernel
theorem dL_law_956 : decode cL_law 956 = .ok (.lcmp, 1) := by decide +kernel
theorem dL_law_957 : decode cL_law 957 = .ok (.ifCond .eq 151, 3) := by decide +kernel
theorem dL_law_960 : decode cL_law 960 = .ok (.iconst 0, 1) := by decide +kernel
theorem dL_law_961 : decode cL_law 961 = .ok (.ireturn, 1) := by decide +kernel
theorem dL_law_962 : decode cL_law 962 = .ok (.aload_n 1, 1) := by decide +kernel
theorem dL_law_963 : decode cL_law 963 = .ok (.aload_n 0, 1) := by decide +kernel
theorem dL_law_964 : decode cL_law 964 = .ok (.iload_n 3, 1) := by decide +kernel
theorem dL_law_965 : decode cL_law 965 = .ok (.iconst 1, 1) := by decide +kernel
theorem dL_law_966 : decode cL_law 966 = .ok (.iadd, 1) := by decide +kernel
theorem dL_law_967 : decode cL_law 967 = .ok (.iaload, 1) := by decide +kernel
theorem dL_law_968 : decode cL_law 968 = .ok (.aload_n 0, 1) := by decide +kernel
theorem dL_law_969 : decode cL_law 969 = .ok (.iload_n 3, 1) := by decide +kernel
theorem dL_law_970 : decode cL_law 970 = .ok (.iconst 2, 1) := by decide +kernel
theorem dL_law_971 : decode cL_law 971 = .ok (.iadd, 1) := by decide +kernel
theorem dL_law_972 : decode cL_law 972 = .ok (.iaload, 1) := by decide +kernel
theorem dL_law_973 : decode cL_law 973 = .ok (.aload_n 0, 1) := by decide +kernel
theorem dL_law_974 : decode cL_law 974 = .ok (.iload_n 3, 1) := by decide +kernel
theorem dL_law_975 : decode cL_law 975 = .ok (.iconst 3, 1) := by decide +kernel
theorem dL_law_976 : decode cL_law 976 = .ok (.iadd, 1) := by decide +kernel
theorem dL_law_977 : decode cL_law 977 = .ok (.iaload, 1) := by decide +kernel
theorem dL_law_978 : decode cL_law 978 = .ok (.aload_n 0, 1) := by decide +kernel
theorem dL_law_979 : decode cL_law 979 = .ok (.iload_n 3, 1) := by decide +kernel
theorem dL_law_980 : decode cL_law 980 = .ok (.iconst 4, 1) := by decide +kernel
theorem dL_law_981 : decode cL_law 981 = .ok (.iadd, 1) := by decide +kernel
theorem dL_law_982 : decode cL_law 982 = .ok (.iaload, 1) := by decide +kernel
theorem dL_law_983 : decode cL_law 983 = .ok (.aload_n 0, 1) := by decide +kernel
theorem dL_law_984 : decode cL_law 984 = .ok (.iload_n 3, 1) := by decide +kernel
theorem dL_law_985 : decode cL_law 985 = .ok (.iconst 5, 1) := by decide +kernel
theorem dL_law_986 : decode cL_law 986 = .ok (.iadd, 1) := by decide +kernel
theorem dL_law_987 : decode cL_law 987 = .ok (.iaload, 1) := by decide +kernel
theorem dL_law_988 : decode cL_law 988 = .ok (.invokevirtual 134, 3) := by decide +kernel
theorem dL_law_991 : decode cL_law 991 = .ok (.aload_n 2, 1) := by decide +kernel
theorem dL_law_992 : decode cL_law 992 = .ok (.aload_n 0, 1) := by decide +kernel
theorem dL_law_993 : decode cL_law 993 = .ok (.iload_n 3, 1) := by decide +kernel
theorem dL_law_994 : decode cL_law 994 = .ok (.iconst 1, 1) := by decide +kernel
theorem dL_law_995 : decode cL_law 995 = .ok (.iadd, 1) := by decide +kernel
theorem dL_law_996 : decode cL_law 996 = .ok (.iaload, 1) := by decide +kernel
theorem dL_law_997 : decode cL_law 997 = .ok (.aload_n 0, 1) := by decide +kernel
theorem dL_law_998 : decode cL_law 998 = .ok (.iload_n 3, 1) := by decide +kernel
theorem dL_law_999 : decode cL_law 999 = .ok (.iconst 2, 1) := by decide +kernel
theorem dL_law_1000 : decode cL_law 1000 = .ok (.iadd, 1) := by decide +kernel
theorem dL_law_1001 : decode cL_law 1001 = .ok (.iaload, 1) := by decide +kernel
theorem dL_law_1002 : decode cL_law 1002 = .ok (.aload_n 0, 1) := by decide +kernel
theorem dL_law_1003 : decode cL_law 1003 = .ok (.iload_n 3, 1) := by decide +kernel
theorem dL_law_1004 : decode cL_law 1004 = .ok (.iconst 3, 1) := by decide +kernel
theorem dL_law_1005 : decode cL_law 1005 = .ok (.iadd, 1) := by decide +kernel
theorem dL_law_1006 : decode cL_law 1006 = .ok (.iaload, 1) := by decide +kernel
theorem dL_law_1007 : decode cL_law 1007 = .ok (.aload_n 0, 1) := by decide +kernel
theorem dL_law_1008 : decode cL_law 1008 = .ok (.iload_n 3, 1) := by decide +kernel
theorem dL_law_1009 : decode cL_law 1009 = .ok (.iconst 4, 1) := by decide +kernel
theorem dL_law_1010 : decode cL_law 1010 = .ok (.iadd, 1) := by decide +kernel
theorem dL_law_1011 : decode cL_law 1011 = .ok (.iaload, 1) := by decide +kernel
theorem dL_law_1012 : decode cL_law 1012 = .ok (.aload_n 0, 1) := by decide +kernel
theorem dL_law_1013 : decode cL_law 1013 = .ok (.iload_n 3, 1) := by decide +kernel
theorem dL_law_1014 : decode cL_law 1014 = .ok (.iconst 5, 1) := by decide +kernel
theorem dL_law_1015 : decode cL_law 1015 = .ok (.iadd, 1) := by decide +kernel
theorem dL_law_1016 : decode cL_law 1016 = .ok (.iaload, 1) := by decide +kernel
theorem dL_law_1017 : decode cL_law 1017 = .ok (.invokevirtual 138, 3) := by decide +kernel
theorem dL_law_1020 : decode cL_law 1020 = .ok (.if_icmp .eq 88, 3) := by decide +kernel
theorem dL_law_1023 : decode cL_law 1023 = .ok (.iconst 0, 1) := by decide +kernel
theorem dL_law_1024 : decode cL_law 1024 = .ok (.ireturn, 1) := by decide +kernel
theorem dL_law_1025 : decode cL_law 1025 = .ok (.aload_n 1, 1) := by decide +kernel
theorem dL_law_1026 : decode cL_law 1026 = .ok (.aload_n 0, 1) := by decide +kernel
theorem dL_law_1027 : decode cL_law 1027 = .ok (.iload_n 3, 1) := by decide +kernel
theorem dL_law_1028 : decode cL_law 1028 = .ok (.iconst 1, 1) := by decide +kernel
theorem dL_law_1029 : decode cL_law 1029 = .ok (.iadd, 1) := by decide +kernel
theorem dL_law_1030 : decode cL_law 1030 = .ok (.iaload, 1) := by decide +kernel
theorem dL_law_1031 : decode cL_law 1031 = .ok (.invokevirtual 139, 3) := by decide +kernel
theorem dL_law_1034 : decode cL_law 1034 = .ok (.aload_n 2, 1) := by decide +kernel
theorem dL_law_1035 : decode cL_law 1035 = .ok (.aload_n 0, 1) := by decide +kernel
theorem dL_law_1036 : decode cL_law 1036 = .ok (.iload_n 3, 1) := by decide +kernel
theorem dL_law_1037 : decode cL_law 1037 = .ok (.iconst 1, 1) := by decide +kernel
theorem dL_law_1038 : decode cL_law 1038 = .ok (.iadd, 1) := by decide +kernel
theorem dL_law_1039 : decode cL_law 1039 = .ok (.iaload, 1) := by decide +kernel
theorem dL_law_1040 : decode cL_law 1040 = .ok (.invokevirtual 142, 3) := by decide +kernel
theorem dL_law_1043 : decode cL_law 1043 = .ok (.if_icmp .eq 65, 3) := by decide +kernel
theorem dL_law_1046 : decode cL_law 1046 = .ok (.iconst 0, 1) := by decide +kernel
theorem dL_law_1047 : decode cL_law 1047 = .ok (.ireturn, 1) := by decide +kernel
theorem dL_law_1048 : decode cL_law 1048 = .ok (.aload_n 1, 1) := by decide +kernel
theorem dL_law_1049 : decode cL_law 1049 = .ok (.aload_n 0, 1) := by decide +kernel
theorem dL_law_1050 : decode cL_law 1050 = .ok (.iload_n 3, 1) := by decide +kernel
theorem dL_law_1051 : decode cL_law 1051 = .ok (.iconst 1, 1) := by decide +kernel
theorem dL_law_1052 : decode cL_law 1052 = .ok (.iadd, 1) := by decide +kernel
theorem dL_law_1053 : decode cL_law 1053 = .ok (.iaload, 1) := by decide +kernel
theorem dL_law_1054 : decode cL_law 1054 = .ok (.invokevirtual 143, 3) := by decide +kernel
theorem dL_law_1057 : decode cL_law 1057 = .ok (.aload_n 2, 1) := by decide +kernel
theorem dL_law_1058 : decode cL_law 1058 = .ok (.aload_n 0, 1) := by decide +kernel
theorem dL_law_1059 : decode cL_law 1059 = .ok (.iload_n 3, 1) := by decide +kernel
theorem dL_law_1060 : decode cL_law 1060 = .ok (.iconst 1, 1) := by decide +kernel
theorem dL_law_1061 : decode cL_law 1061 = .ok (.iadd, 1) := by decide +kernel
theorem dL_law_1062 : decode cL_law 1062 = .ok (.iaload, 1) := by decide +kernel
theorem dL_law_1063 : decode cL_law 1063 = .ok (.invokevirtual 146, 3) := by decide +kernel
theorem dL_law_1066 : decode cL_law 1066 = .ok (.if_icmp .eq 42, 3) := by decide +kernel
theorem dL_law_1069 : decode cL_law 1069 = .ok (.iconst 0, 1) := by decide +kernel
theorem dL_law_1070 : decode cL_law 1070 = .ok (.ireturn, 1) := by decide +kernel
theorem dL_law_1071 : decode cL_law 1071 = .ok (.aload_n 1, 1) := by decide +kernel
theorem dL_law_1072 : decode cL_law 1072 = .ok (.aload_n 0, 1) := by decide +kernel
theorem dL_law_1073 : decode cL_law 1073 = .ok (.iload_n 3, 1) := by decide +kernel
theorem dL_law_1074 : decode cL_law 1074 = .ok (.iconst 1, 1) := by decide +kernel
theorem dL_law_1075 : decode cL_law 1075 = .ok (.iadd, 1) := by decide +kernel
theorem dL_law_1076 : decode cL_law 1076 = .ok (.iaload, 1) := by decide +kernel
theorem dL_law_1077 : decode cL_law 1077 = .ok (.invokevirtual 147, 3) := by decide +kernel
theorem dL_law_1080 : decode cL_law 1080 = .ok (.aload_n 2, 1) := by decide +kernel
theorem dL_law_1081 : decode cL_law 1081 = .ok (.aload_n 0, 1) := by decide +kernel
theorem dL_law_1082 : decode cL_law 1082 = .ok (.iload_n 3, 1) := by decide +kernel
theorem dL_law_1083 : decode cL_law 1083 = .ok (.iconst 1, 1) := by decide +kernel
theorem dL_law_1084 : decode cL_law 1084 = .ok (.iadd, 1) := by decide +kernel
theorem dL_law_1085 : decode cL_law 1085 = .ok (.iaload, 1) := by decide +kernel
theorem dL_law_1086 : decode cL_law 1086 = .ok (.invokevirtual 150, 3) := by decide +kernel
theorem dL_law_1089 : decode cL_law 1089 = .ok (.if_icmp .eq 19, 3) := by decide +kernel
theorem dL_law_1092 : decode cL_law 1092 = .ok (.iconst 0, 1) := by decide +kernel
theorem dL_law_1093 : decode cL_law 1093 = .ok (.ireturn, 1) := by decide +kernel
theorem dL_law_1094 : decode cL_law 1094 = .ok (.aload_n 1, 1) := by decide +kernel
theorem dL_law_1095 : decode cL_law 1095 = .ok (.invokevirtual 151, 3) := by decide +kernel
theorem dL_law_1098 : decode cL_law 1098 = .ok (.aload_n 2, 1) := by decide +kernel
theorem dL_law_1099 : decode cL_law 1099 = .ok (.invokevirtual 155, 3) := by decide +kernel
theorem dL_law_1102 : decode cL_law 1102 = .ok (.lcmp, 1) := by decide +kernel
theorem dL_law_1103 : decode cL_law 1103 = .ok (.ifCond .eq 5, 3) := by decide +kernel
theorem dL_law_1106 : decode cL_law 1106 = .ok (.iconst 0, 1) := by decide +kernel
theorem dL_law_1107 : decode cL_law 1107 = .ok (.ireturn, 1) := by decide +kernel
theorem dL_law_1108 : decode cL_law 1108 = .ok (.iinc 3 6, 3) := by decide +kernel
theorem dL_law_1111 : decode cL_law 1111 = .ok (.goto (-1093), 3) := by decide +kernel
theorem dL_law_1114 : decode cL_law 1114 = .ok (.iconst 1, 1) := by decide +kernel
theorem dL_law_1115 : decode cL_law 1115 = .ok (.ireturn, 1) := by decide +kernel
