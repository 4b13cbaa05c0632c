theorem dX9_init_36 : decode cX9_init 36 = .ok (.getfield 12, 3) := by decide +kernel
theorem dX9_init_39 : decode cX9_init 39 = .ok (.invokespecial 27, 3) := by decide +kernel
theorem dX9_init_42 : decode cX9_init 42 = .ok (.putfield 28, 3) := by decide +kernel
theorem dX9_init_45 : decode cX9_init 45 = .ok (.aload_n 0, 1) := by decide +kernel
theorem dX9_init_46 : decode cX9_init 46 = .ok (.new 32, 3) := by decide +kernel
theorem dX9_init_49 : decode cX9_init 49 = .ok (.dup, 1) := by decide +kernel
theorem dX9_init_50 : decode cX9_init 50 = .ok (.aload_n 0, 1) := by decide +kernel
theorem dX9_init_51 : decode cX9_init 51 = .ok (.getfield 12, 3) := by decide +kernel
theorem dX9_init_54 : decode cX9_init 54 = .ok (.invokespecial 34, 3) := by decide +kernel
theorem dX9_init_57 : decode cX9_init 57 = .ok (.putfield 35, 3) := by decide +kernel
theorem dX9_init_60 : decode cX9_init 60 = .ok (.aload_n 0, 1) := by decide +kernel
theorem dX9_init_61 : decode cX9_init 61 = .ok (.new 39, 3) := by decide +kernel
theorem dX9_init_64 : decode cX9_init 64 = .ok (.dup, 1) := by decide +kernel
theorem dX9_init_65 : decode cX9_init 65 = .ok (.aload_n 0, 1) := by decide +kernel
theorem dX9_init_66 : decode cX9_init 66 = .ok (.getfield 12, 3) := by decide +kernel
theorem dX9_init_69 : decode cX9_init 69 = .ok (.invokespecial 41, 3) := by decide +kernel
theorem dX9_init_72 : decode cX9_init 72 = .ok (.putfield 42, 3) := by decide +kernel
theorem dX9_init_75 : decode cX9_init 75 = .ok (.aload_n 0, 1) := by decide +kernel
theorem dX9_init_76 : decode cX9_init 76 = .ok (.new 46, 3) := by decide +kernel
theorem dX9_init_79 : decode cX9_init 79 = .ok (.dup, 1) := by decide +kernel
theorem dX9_init_80 : decode cX9_init 80 = .ok (.aload_n 0, 1) := by decide +kernel
theorem dX9_init_81 : decode cX9_init 81 = .ok (.getfield 12, 3) := by decide +kernel
theorem dX9_init_84 : decode cX9_init 84 = .ok (.invokespecial 48, 3) := by decide +kernel
theorem dX9_init_87 : decode cX9_init 87 = .ok (.putfield 49, 3) := by decide +kernel
theorem dX9_init_90 : decode cX9_init 90 = .ok (.aload_n 0, 1) := by decide +kernel
theorem dX9_init_91 : decode cX9_init 91 = .ok (.new 53, 3) := by decide +kernel
theorem dX9_init_94 : decode cX9_init 94 = .ok (.dup, 1) := by decide +kernel
theorem dX9_init_95 : decode cX9_init 95 = .ok (.invokespecial 55, 3) := by decide +kernel
theorem dX9_init_98 : decode cX9_init 98 = .ok (.putfield 56, 3) := by decide +kernel
theorem dX9_init_101 : decode cX9_init 101 = .ok (.return_, 1) := by decide +kernel
theorem dX9_stations_0 : decode cX9_stations 0 = .ok (.iload_n 1, 1) := by decide +kernel
theorem dX9_stations_1 : decode cX9_stations 1 = .ok (.iconst 2, 1) := by decide +kernel
theorem dX9_stations_2 : decode cX9_stations 2 = .ok (.if_icmp .lt 9, 3) := by decide +kernel
theorem dX9_stations_5 : decode cX9_stations 5 = .ok (.iload_n 1, 1) := by decide +kernel
theorem dX9_stations_6 : decode cX9_stations 6 = .ok (.bipush 7, 2) := by decide +kernel
theorem dX9_stations_8 : decode cX9_stations 8 = .ok (.if_icmp .le 6, 3) := by decide +kernel
theorem dX9_stations_11 : decode cX9_stations 11 = .ok (.bipush (-2), 2) := by decide +kernel
theorem dX9_stations_13 : decode cX9_stations 13 = .ok (.ireturn, 1) := by decide +kernel
theorem dX9_stations_14 : decode cX9_stations 14 = .ok (.aload_n 0, 1) := by decide +kernel
theorem dX9_stations_15 : decode cX9_stations 15 = .ok (.getfield 12, 3) := by decide +kernel
theorem dX9_stations_18 : decode cX9_stations 18 = .ok (.invokevirtual 60, 3) := by decide +kernel
theorem dX9_stations_21 : decode cX9_stations 21 = .ok (.istore_n 2, 1) := by decide +kernel
theorem dX9_stations_22 : decode cX9_stations 22 = .ok (.aload_n 0, 1) := by decide +kernel
theorem dX9_stations_23 : decode cX9_stations 23 = .ok (.getfield 12, 3) := by decide +kernel
theorem dX9_stations_26 : decode cX9_stations 26 = .ok (.iload_n 1, 1) := by decide +kernel
theorem dX9_stations_27 : decode cX9_stations 27 = .ok (.invokevirtual 64, 3) := by decide +kernel
theorem dX9_stations_30 : decode cX9_stations 30 = .ok (.iload_n 2, 1) := by decide +kernel
theorem dX9_stations_31 : decode cX9_stations 31 = .ok (.ireturn, 1) := by decide +kernel
theorem dX9_link_0 : decode cX9_link 0 = .ok (.aload_n 0, 1) := by decide +kernel
theorem dX9_link_1 : decode cX9_link 1 = .ok (.getfield 12, 3) := by decide +kernel
theorem dX9_link_4 : decode cX9_link 4 = .ok (.iload_n 1, 1) := by decide +kernel
theorem dX9_link_5 : decode cX9_link 5 = .ok (.i2l, 1) := by decide +kernel
theorem dX9_link_6 : decode cX9_link 6 = .ok (.iload_n 2, 1) := by decide +kernel
theorem dX9_link_7 : decode cX9_link 7 = .ok (.i2l, 1) := by decide +kernel
theorem dX9_link_8 : decode cX9_link 8 = .ok (.iload_n 3, 1) := by decide +kernel
theorem dX9_link_9 : decode cX9_link 9 = .ok (.i2l, 1) := by decide +kernel
theorem dX9_link_10 : decode cX9_link 10 = .ok (.iload 4, 2) := by decide +kernel
theorem dX9_link_12 : decode cX9_link 12 = .ok (.i2l, 1) := by decide +kernel
theorem dX9_link_13 : decode cX9_link 13 = .ok (.invokevirtual 68, 3) := by decide +kernel
theorem dX9_link_16 : decode cX9_link 16 = .ok (.ifCond .ne 6, 3) := by decide +kernel
theorem dX9_link_19 : decode cX9_link 19 = .ok (.bipush (-2), 2) := by decide +kernel
theorem dX9_link_21 : decode cX9_link 21 = .ok (.ireturn, 1) := by decide +kernel
theorem dX9_link_22 : decode cX9_link 22 = .ok (.aload_n 0, 1) := by decide +kernel
theorem dX9_link_23 : decode cX9_link 23 = .ok (.getfield 12, 3) := by decide +kernel
theorem dX9_link_26 : decode cX9_link 26 = .ok (.invokevirtual 72, 3) := by decide +kernel
theorem dX9_link_29 : decode cX9_link 29 = .ok (.ifCond .ne 6, 3) := by decide +kernel
theorem dX9_link_32 : decode cX9_link 32 = .ok (.bipush (-4), 2) := by decide +kernel
theorem dX9_link_34 : decode cX9_link 34 = .ok (.ireturn, 1) := by decide +kernel
theorem dX9_link_35 : decode cX9_link 35 = .ok (.aload_n 0, 1) := by decide +kernel
theorem dX9_link_36 : decode cX9_link 36 = .ok (.getfield 12, 3) := by decide +kernel
theorem dX9_link_39 : decode cX9_link 39 = .ok (.iload_n 1, 1) := by decide +kernel
theorem dX9_link_40 : decode cX9_link 40 = .ok (.iload_n 2, 1) := by decide +kernel
theorem dX9_link_41 : decode cX9_link 41 = .ok (.iload_n 3, 1) := by decide +kernel
theorem dX9_link_42 : decode cX9_link 42 = .ok (.iload 4, 2) := by decide +kernel
theorem dX9_link_44 : decode cX9_link 44 = .ok (.invokevirtual 76, 3) := by decide +kernel
theorem dX9_link_47 : decode cX9_link 47 = .ok (.ireturn, 1) := by decide +kernel
theorem dX9_back_0 : decode cX9_back 0 = .ok (.aload_n 0, 1) := by decide +kernel
theorem dX9_back_1 : decode cX9_back 1 = .ok (.getfield 12, 3) := by decide +kernel
theorem dX9_back_4 : decode cX9_back 4 = .ok (.invokevirtual 80, 3) := by decide +kernel
theorem dX9_back_7 : decode cX9_back 7 = .ok (.ifCond .ne 6, 3) := by decide +kernel
theorem dX9_back_10 : decode cX9_back 10 = .ok (.bipush (-3), 2) := by decide +kernel
theorem dX9_back_12 : decode cX9_back 12 = .ok (.ireturn, 1) := by decide +kernel
theorem dX9_back_13 : decode cX9_back 13 = .ok (.aload_n 0, 1) := by decide +kernel
theorem dX9_back_14 : decode cX9_back 14 = .ok (.getfield 12, 3) := by decide +kernel
theorem dX9_back_17 : decode cX9_back 17 = .ok (.invokevirtual 83, 3) := by decide +kernel
theorem dX9_back_20 : decode cX9_back 20 = .ok (.ireturn, 1) := by decide +kernel
theorem dX9_chance_0 : decode cX9_chance 0 = .ok (.aload_n 0, 1) := by decide +kernel
theorem dX9_chance_1 : decode cX9_chance 1 = .ok (.getfield 12, 3) := by decide +kernel
theorem dX9_chance_4 : decode cX9_chance 4 = .ok (.iload_n 1, 1) := by decide +kernel
theorem dX9_chance_5 : decode cX9_chance 5 = .ok (.invokevirtual 86, 3) := by decide +kernel
theorem dX9_chance_8 : decode cX9_chance 8 = .ok (.ifCond .eq 13, 3) := by decide +kernel
theorem dX9_chance_11 : decode cX9_chance 11 = .ok (.iload_n 2, 1) := by decide +kernel
theorem dX9_chance_12 : decode cX9_chance 12 = .ok (.i2l, 1) := by decide +kernel
theorem dX9_chance_13 : decode cX9_chance 13 = .ok (.iload_n 3, 1) := by decide +kernel
theorem dX9_chance_14 : decode cX9_chance 14 = .ok (.i2l, 1) := by decide +kernel
theorem dX9_chance_15 : decode cX9_chance 15 = .ok (.invokestatic 90, 3) := by decide +kernel
theorem dX9_chance_18 : decode cX9_chance 18 = .ok (.ifCond .ne 6, 3) := by decide +kernel
theorem dX9_chance_21 : decode cX9_chance 21 = .ok (.bipush (-2), 2) := by decide +kernel
theorem dX9_chance_23 : decode cX9_chance 23 = .ok (.ireturn, 1) := by decide +kernel
theorem dX9_chance_24 : decode cX9_chance 24 = .ok (.bipush 10, 2) := by decide +kernel
theorem dX9_chance_26 : decode cX9_chance 26 = .ok (.aload_n 0, 1) := by decide +kernel
theorem dX9_chance_27 : decode cX9_chance 27 = .ok (.getfield 12, 3) := by decide +kernel
theorem dX9_chance_30 : decode cX9_chance 30 = .ok (.iload_n 1, 1) := by decide +kernel
theorem dX9_chance_31 : decode cX9_chance 31 = .ok (.invokevirtual 96, 3) := by decide +kernel
theorem dX9_chance_34 : decode cX9_chance 34 = .ok (.imul, 1) := by decide +kernel
theorem dX9_chance_35 : decode cX9_chance 35 = .ok (.aload_n 0, 1) := by decide +kernel
theorem dX9_chance_36 : decode cX9_chance 36 = .ok (.getfield 12, 3) := by decide +kernel
theorem dX9_chance_39 : decode cX9_chance 39 = .ok (.iload_n 1, 1) := by decide +kernel
theorem dX9_chance_40 : decode cX9_chance 40 = .ok (.invokevirtual 100, 3) := by decide +kernel
theorem dX9_chance_43 : decode cX9_chance 43 = .ok (.iadd, 1) := by decide +kernel
theorem dX9_chance_44 : decode cX9_chance 44 = .ok (.istore 4, 2) := by decide +kernel
theorem dX9_chance_46 : decode cX9_chance 46 = .ok (.aload_n 0, 1) := by decide +kernel
theorem dX9_chance_47 : decode cX9_chance 47 = .ok (.getfield 12, 3) := by decide +kernel
theorem dX9_chance_50 : decode cX9_chance 50 = .ok (.iload_n 1, 1) := by decide +kernel
theorem dX9_chance_51 : decode cX9_chance 51 = .ok (.iload_n 2, 1) := by decide +kernel
theorem dX9_chance_52 : decode cX9_chance 52 = .ok (.iload_n 3, 1) := by decide +kernel
theorem dX9_chance_53 : decode cX9_chance 53 = .ok (.invokevirtual 103, 3) := by decide +kernel
theorem dX9_chance_56 : decode cX9_chance 56 = .ok (.iload 4, 2) := by decide +kernel
theorem dX9_chance_58 : decode cX9_chance 58 = .ok (.ireturn, 1) := by decide +kernel
theorem dX9_see_0 : decode cX9_see 0 = .ok (.aload_n 0, 1) := by decide +kernel
theorem dX9_see_1 : decode cX9_see 1 = .ok (.getfield 12, 3) := by decide +kernel
theorem dX9_see_4 : decode cX9_see 4 = .ok (.iload_n 1, 1) := by decide +kernel
theorem dX9_see_5 : decode cX9_see 5 = .ok (.invokevirtual 86, 3) := by decide +kernel
theorem dX9_see_8 : decode cX9_see 8 = .ok (.ifCond .eq 12, 3) := by decide +kernel
theorem dX9_see_11 : decode cX9_see 11 = .ok (.iload_n 2, 1) := by decide +kernel
theorem dX9_see_12 : decode cX9_see 12 = .ok (.ifCond .lt 8, 3) := by decide +kernel
theorem dX9_see_15 : decode cX9_see 15 = .ok (.iload_n 2, 1) := by decide +kernel
theorem dX9_see_16 : decode cX9_see 16 = .ok (.iconst 2, 1) := by decide +kernel
theorem dX9_see_17 : decode cX9_see 17 = .ok (.if_icmp .le 6, 3) := by decide +kernel
theorem dX9_see_20 : decode cX9_see 20 = .ok (.bipush (-2), 2) := by decide +kernel
theorem dX9_see_22 : decode cX9_see 22 = .ok (.ireturn, 1) := by decide +kernel
theorem dX9_see_23 : decode cX9_see 23 = .ok (.aload_n 0, 1) := by decide +kernel
theorem dX9_see_24 : decode cX9_see 24 = .ok (.getfield 12, 3) := by decide +kernel
theorem dX9_see_27 : decode cX9_see 27 = .ok (.iload_n 1, 1) := by decide +kernel
theorem dX9_see_28 : decode cX9_see 28 = .ok (.invokevirtual 107, 3) := by decide +kernel
theorem dX9_see_31 : decode cX9_see 31 = .ok (.istore_n 3, 1) := by decide +kernel
theorem dX9_see_32 : decode cX9_see 32 = .ok (.aload_n 0, 1) := by decide +kernel
theorem dX9_see_33 : decode cX9_see 33 = .ok (.getfield 12, 3) := by decide +kernel
theorem dX9_see_36 : decode cX9_see 36 = .ok (.iload_n 1, 1) := by decide +kernel
theorem dX9_see_37 : decode cX9_see 37 = .ok (.iload_n 2, 1) := by decide +kernel
theorem dX9_see_38 : decode cX9_see 38 = .ok (.invokevirtual 110, 3) := by decide +kernel
theorem dX9_see_41 : decode cX9_see 41 = .ok (.iload_n 3, 1) := by decide +kernel
theorem dX9_see_42 : decode cX9_see 42 = .ok (.ireturn, 1) := by decide +kernel
theorem dX9_source_0 : decode cX9_source 0 = .ok (.aload_n 0, 1) := by decide +kernel
theorem dX9_source_1 : decode cX9_source 1 = .ok (.getfield 12, 3) := by decide +kernel
theorem dX9_source_4 : decode cX9_source 4 = .ok (.iload_n 1, 1) := by decide +kernel
theorem dX9_source_5 : decode cX9_source 5 = .ok (.i2l, 1) := by decide +kernel
theorem dX9_source_6 : decode cX9_source 6 = .ok (.invokevirtual 114, 3) := by decide +kernel
theorem dX9_source_9 : decode cX9_source 9 = .ok (.ifCond .ne 6, 3) := by decide +kernel
theorem dX9_source_12 : decode cX9_source 12 = .ok (.bipush (-2), 2) := by decide +kernel
theorem dX9_source_14 : decode cX9_source 14 = .ok (.ireturn, 1) := by decide +kernel
theorem dX9_source_15 : decode cX9_source 15 = .ok (.aload_n 0, 1) := by decide +kernel
theorem dX9_source_16 : decode cX9_source 16 = .ok (.getfield 12, 3) := by decide +kernel
theorem dX9_source_19 : decode cX9_source 19 = .ok (.invokevirtual 118, 3) := by decide +kernel
theorem dX9_source_22 : decode cX9_source 22 = .ok (.istore_n 2, 1) := by decide +kernel
theorem dX9_source_23 : decode cX9_source 23 = .ok (.aload_n 0, 1) := by decide +kernel
theorem dX9_source_24 : decode cX9_source 24 = .ok (.getfield 12, 3) := by decide +kernel
theorem dX9_source_27 : decode cX9_source 27 = .ok (.iload_n 1, 1) := by decide +kernel
theorem dX9_source_28 : decode cX9_source 28 = .ok (.invokevirtual 121, 3) := by decide +kernel
theorem dX9_source_31 : decode cX9_source 31 = .ok (.iload_n 2, 1) := by decide +kernel
theorem dX9_source_32 : decode cX9_source 32 = .ok (.ireturn, 1) := by decide +kernel
theorem dX9_goals_0 : decode cX9_goals 0 = .ok (.iload_n 1, 1) := by decide +kernel
theorem dX9_goals_1 : decode cX9_goals 1 = .ok (.ifCond .lt 14, 3) := by decide +kernel
theorem dX9_goals_4 : decode cX9_goals 4 = .ok (.iload_n 1, 1) := by decide +kernel
theorem dX9_goals_5 : decode cX9_goals 5 = .ok (.aload_n 0, 1) := by decide +kernel
theorem dX9_goals_6 : decode cX9_goals 6 = .ok (.getfield 12, 3) := by decide +kernel
theorem dX9_goals_9 : decode cX9_goals 9 = .ok (.invokevirtual 124, 3) := by decide +kernel
theorem dX9_goals_12 : decode cX9_goals 12 = .ok (.if_icmp .le 6, 3) := by decide +kernel
theorem dX9_goals_15 : decode cX9_goals 15 = .ok (.bipush (-2), 2) := by decide +kernel
theorem dX9_goals_17 : decode cX9_goals 17 = .ok (.ireturn, 1) := by decide +kernel
theorem dX9_goals_18 : decode cX9_goals 18 = .ok (.aload_n 0, 1) := by decide +kernel
theorem dX9_goals_19 : decode cX9_goals 19 = .ok (.getfield 12, 3) := by decide +kernel
theorem dX9_goals_22 : decode cX9_goals 22 = .ok (.invokevirtual 127, 3) := by decide +kernel
theorem dX9_goals_25 : decode cX9_goals 25 = .ok (.istore_n 2, 1) := by decide +kernel
theorem dX9_goals_26 : decode cX9_goals 26 = .ok (.aload_n 0, 1) := by decide +kernel
theorem dX9_goals_27 : decode cX9_goals 27 = .ok (.getfield 12, 3) := by decide +kernel
theorem dX9_goals_30 : decode cX9_goals 30 = .ok (.iload_n 1, 1) := by decide +kernel
theorem dX9_goals_31 : decode cX9_goals 31 = .ok (.invokevirtual 130, 3) := by decide +kernel
theorem dX9_goals_34 : decode cX9_goals 34 = .ok (.iload_n 2, 1) := by decide +kernel
theorem dX9_goals_35 : decode cX9_goals 35 = .ok (.ireturn, 1) := by decide +kernel
theorem dX9_info_0 : decode cX9_info 0 = .ok (.aload_n 0, 1) := by decide +kernel
theorem dX9_info_1 : decode cX9_info 1 = .ok (.getfield 12, 3) := by decide +kernel
theorem dX9_info_4 : decode cX9_info 4 = .ok (.iload_n 1, 1) := by decide +kernel
theorem dX9_info_5 : decode cX9_info 5 = .ok (.invokevirtual 86, 3) := by decide +kernel
theorem dX9_info_8 : decode cX9_info 8 = .ok (.ifCond .ne 6, 3) := by decide +kernel
theorem dX9_info_11 : decode cX9_info 11 = .ok (.bipush (-2), 2) := by decide +kernel
theorem dX9_info_13 : decode cX9_info 13 = .ok (.ireturn, 1) := by decide +kernel
theorem dX9_info_14 : decode cX9_info 14 = .ok (.iload_n 2, 1) := by decide +kernel
theorem dX9_info_15 : decode cX9_info 15 = .ok (.tableswitch 78 0 4 #[33, 42, 51, 60, 69], 33) := by decide +kernel
theorem dX9_info_48 : decode cX9_info 48 = .ok (.aload_n 0, 1) := by decide +kernel
theorem dX9_info_49 : decode cX9_info 49 = .ok (.getfield 12, 3) := by decide +kernel
theorem dX9_info_52 : decode cX9_info 52 = .ok (.iload_n 1, 1) := by decide +kernel
theorem dX9_info_53 : decode cX9_info 53 = .ok (.invokevirtual 133, 3) := by decide +kernel
theorem dX9_info_56 : decode cX9_info 56 = .ok (.ireturn, 1) := by decide +kernel
theorem dX9_info_57 : decode cX9_info 57 = .ok (.aload_n 0, 1) := by decide +kernel
theorem dX9_info_58 : decode cX9_info 58 = .ok (.getfield 12, 3) := by decide +kernel
theorem dX9_info_61 : decode cX9_info 61 = .ok (.iload_n 1, 1) := by decide +kernel
theorem dX9_info_62 : decode cX9_info 62 = .ok (.invokevirtual 136, 3) := by decide +kernel
theorem dX9_info_65 : decode cX9_info 65 = .ok (.ireturn, 1) := by decide +kernel
theorem dX9_info_66 : decode cX9_info 66 = .ok (.aload_n 0, 1) := by decide +kernel
theorem dX9_info_67 : decode cX9_info 67 = .ok (.getfield 12, 3) := by decide +kernel
theorem dX9_info_70 : decode cX9_info 70 = .ok (.iload_n 1, 1) := by decide +kernel
theorem dX9_info_71 : decode cX9_info 71 = .ok (.invokevirtual 96, 3) := by decide +kernel
theorem dX9_info_74 : decode cX9_info 74 = .ok (.ireturn, 1) := by decide +kernel
theorem dX9_info_75 : decode cX9_info 75 = .ok (.aload_n 0, 1) := by decide +kernel
theorem dX9_info_76 : decode cX9_info 76 = .ok (.getfield 12, 3) := by decide +kernel
theorem dX9_info_79 : decode cX9_info 79 = .ok (.iload_n 1, 1) := by decide +kernel
theorem dX9_info_80 : decode cX9_info 80 = .ok (.invokevirtual 100, 3) := by decide +kernel
theorem dX9_info_83 : decode cX9_info 83 = .ok (.ireturn, 1) := by decide +kernel
theorem dX9_info_84 : decode cX9_info 84 = .ok (.aload_n 0, 1) := by decide +kernel
theorem dX9_info_85 : decode cX9_info 85 = .ok (.getfield 12, 3) := by decide +kernel
theorem dX9_info_88 : decode cX9_info 88 = .ok (.iload_n 1, 1) := by decide +kernel
theorem dX9_info_89 : decode cX9_info 89 = .ok (.invokevirtual 107, 3) := by decide +kernel
theorem dX9_info_92 : decode cX9_info 92 = .ok (.ireturn, 1) := by decide +kernel
theorem dX9_info_93 : decode cX9_info 93 = .ok (.bipush (-2), 2) := by decide +kernel
theorem dX9_info_95 : decode cX9_info 95 = .ok (.ireturn, 1) := by decide +kernel
theorem dX9_reach_0 : decode cX9_reach 0 = .ok (.iload_n 1, 1) := by decide +kernel
theorem dX9_reach_1 : decode cX9_reach 1 = .ok (.invokestatic 139, 3) := by decide +kernel
theorem dX9_reach_4 : decode cX9_reach 4 = .ok (.ifCond .ne 9, 3) := by decide +kernel
theorem dX9_reach_7 : decode cX9_reach 7 = .ok (.bipush (-2), 2) := by decide +kernel
theorem dX9_reach_9 : decode cX9_reach 9 = .ok (.invokestatic 142, 3) := by decide +kernel
theorem dX9_reach_12 : decode cX9_reach 12 = .ok (.lreturn, 1) := by decide +kernel
theorem dX9_reach_13 : decode cX9_reach 13 = .ok (.aload_n 0, 1) := by decide +kernel
theorem dX9_reach_14 : decode cX9_reach 14 = .ok (.getfield 21, 3) := by decide +kernel
theorem dX9_reach_17 : decode cX9_reach 17 = .ok (.invokevirtual 146, 3) := by decide +kernel
theorem dX9_reach_20 : decode cX9_reach 20 = .ok (.aload_n 0, 1) := by decide +kernel
theorem dX9_reach_21 : decode cX9_reach 21 = .ok (.getfield 21, 3) := by decide +kernel
theorem dX9_reach_24 : decode cX9_reach 24 = .ok (.aload_n 0, 1) := by decide +kernel
theorem dX9_reach_25 : decode cX9_reach 25 = .ok (.getfield 21, 3) := by decide +kernel
theorem dX9_reach_28 : decode cX9_reach 28 = .ok (.invokevirtual 149, 3) := by decide +kernel
theorem dX9_reach_31 : decode cX9_reach 31 = .ok (.iload_n 1, 1) := by decide +kernel
theorem dX9_reach_32 : decode cX9_reach 32 = .ok (.invokevirtual 153, 3) := by decide +kernel
theorem dX9_reach_35 : decode cX9_reach 35 = .ok (.lreturn, 1) := by decide +kernel
theorem dX9_joined_0 : decode cX9_joined 0 = .ok (.iload_n 1, 1) := by decide +kernel
theorem dX9_joined_1 : decode cX9_joined 1 = .ok (.ifCond .lt 8, 3) := by decide +kernel
theorem dX9_joined_4 : decode cX9_joined 4 = .ok (.iload_n 1, 1) := by decide +kernel
theorem dX9_joined_5 : decode cX9_joined 5 = .ok (.iconst 4, 1) := by decide +kernel
theorem dX9_joined_6 : decode cX9_joined 6 = .ok (.if_icmp .le 9, 3) := by decide +kernel
theorem dX9_joined_9 : decode cX9_joined 9 = .ok (.bipush (-2), 2) := by decide +kernel
theorem dX9_joined_11 : decode cX9_joined 11 = .ok (.invokestatic 142, 3) := by decide +kernel
theorem dX9_joined_14 : decode cX9_joined 14 = .ok (.lreturn, 1) := by decide +kernel
theorem dX9_joined_15 : decode cX9_joined 15 = .ok (.aload_n 0, 1) := by decide +kernel
theorem dX9_joined_16 : decode cX9_joined 16 = .ok (.getfield 42, 3) := by decide +kernel
theorem dX9_joined_19 : decode cX9_joined 19 = .ok (.invokevirtual 157, 3) := by decide +kernel
theorem dX9_joined_22 : decode cX9_joined 22 = .ok (.aload_n 0, 1) := by decide +kernel
theorem dX9_joined_23 : decode cX9_joined 23 = .ok (.getfield 42, 3) := by decide +kernel
theorem dX9_joined_26 : decode cX9_joined 26 = .ok (.iload_n 1, 1) := by decide +kernel
theorem dX9_joined_27 : decode cX9_joined 27 = .ok (.invokevirtual 160, 3) := by decide +kernel
theorem dX9_joined_30 : decode cX9_joined 30 = .ok (.lreturn, 1) := by decide +kernel
theorem dX9_wide_0 : decode cX9_wide 0 = .ok (.aload_n 0, 1) := by decide +kernel
theorem dX9_wide_1 : decode cX9_wide 1 = .ok (.getfield 12, 3) := by decide +kernel
theorem dX9_wide_4 : decode cX9_wide 4 = .ok (.iload_n 1, 1) := by decide +kernel
theorem dX9_wide_5 : decode cX9_wide 5 = .ok (.invokevirtual 86, 3) := by decide +kernel
theorem dX9_wide_8 : decode cX9_wide 8 = .ok (.ifCond .ne 6, 3) := by decide +kernel
theorem dX9_wide_11 : decode cX9_wide 11 = .ok (.bipush (-2), 2) := by decide +kernel
theorem dX9_wide_13 : decode cX9_wide 13 = .ok (.ireturn, 1) := by decide +kernel
theorem dX9_wide_14 : decode cX9_wide 14 = .ok (.aload_n 0, 1) := by decide +kernel
theorem dX9_wide_15 : decode cX9_wide 15 = .ok (.getfield 35, 3) := by decide +kernel
theorem dX9_wide_18 : decode cX9_wide 18 = .ok (.iload_n 1, 1) := by decide +kernel
theorem dX9_wide_19 : decode cX9_wide 19 = .ok (.invokevirtual 162, 3) := by decide +kernel
theorem dX9_wide_22 : decode cX9_wide 22 = .ok (.ireturn, 1) := by decide +kernel
theorem dX9_widest_0 : decode cX9_widest 0 = .ok (.aload_n 0, 1) := by decide +kernel
theorem dX9_widest_1 : decode cX9_widest 1 = .ok (.getfield 35, 3) := by decide +kernel
theorem dX9_widest_4 : decode cX9_widest 4 = .ok (.invokevirtual 165, 3) := by decide +kernel
theorem dX9_widest_7 : decode cX9_widest 7 = .ok (.ireturn, 1) := by decide +kernel
theorem dX9_pair_0 : decode cX9_pair 0 = .ok (.aload_n 0, 1) := by decide +kernel
theorem dX9_pair_1 : decode cX9_pair 1 = .ok (.getfield 12, 3) := by decide +kernel
theorem dX9_pair_4 : decode cX9_pair 4 = .ok (.iload_n 1, 1) := by decide +kernel
theorem dX9_pair_5 : decode cX9_pair 5 = .ok (.i2l, 1) := by decide +kernel
theorem dX9_pair_6 : decode cX9_pair 6 = .ok (.invokevirtual 114, 3) := by decide +kernel
theorem dX9_pair_9 : decode cX9_pair 9 = .ok (.ifCond .eq 22, 3) := by decide +kernel
theorem dX9_pair_12 : decode cX9_pair 12 = .ok (.aload_n 0, 1) := by decide +kernel
theorem dX9_pair_13 : decode cX9_pair 13 = .ok (.getfield 12, 3) := by decide +kernel
theorem dX9_pair_16 : decode cX9_pair 16 = .ok (.iload_n 2, 1) := by decide +kernel
theorem dX9_pair_17 : decode cX9_pair 17 = .ok (.i2l, 1) := by decide +kernel
theorem dX9_pair_18 : decode cX9_pair 18 = .ok (.invokevirtual 114, 3) := by decide +kernel
theorem dX9_pair_21 : decode cX9_pair 21 = .ok (.ifCond .eq 10, 3) := by decide +kernel
theorem dX9_pair_24 : decode cX9_pair 24 = .ok (.iload_n 3, 1) := by decide +kernel
theorem dX9_pair_25 : decode cX9_pair 25 = .ok (.invokestatic 139, 3) := by decide +kernel
theorem dX9_pair_28 : decode cX9_pair 28 = .ok (.ifCond .ne 9, 3) := by decide +kernel
theorem dX9_pair_31 : decode cX9_pair 31 = .ok (.bipush (-2), 2) := by decide +kernel
theorem dX9_pair_33 : decode cX9_pair 33 = .ok (.invokestatic 142, 3) := by decide +kernel
theorem dX9_pair_36 : decode cX9_pair 36 = .ok (.lreturn, 1) := by decide +kernel
theorem dX9_pair_37 : decode cX9_pair 37 = .ok (.aload_n 0, 1) := by decide +kernel
theorem dX9_pair_38 : decode cX9_pair 38 = .ok (.getfield 21, 3) := by decide +kernel
theorem dX9_pair_41 : decode cX9_pair 41 = .ok (.invokevirtual 146, 3) := by decide +kernel
theorem dX9_pair_44 : decode cX9_pair 44 = .ok (.aload_n 0, 1) := by decide +kernel
theorem dX9_pair_45 : decode cX9_pair 45 = .ok (.getfield 21, 3) := by decide +kernel
theorem dX9_pair_48 : decode cX9_pair 48 = .ok (.aload_n 0, 1) := by decide +kernel
theorem dX9_pair_49 : decode cX9_pair 49 = .ok (.getfield 21, 3) := by decide +kernel
theorem dX9_pair_52 : decode cX9_pair 52 = .ok (.iload_n 1, 1) := by decide +kernel
theorem dX9_pair_53 : decode cX9_pair 53 = .ok (.iload_n 2, 1) := by decide +kernel
theorem dX9_pair_54 : decode cX9_pair 54 = .ok (.invokevirtual 168, 3) := by decide +kernel
theorem dX9_pair_57 : decode cX9_pair 57 = .ok (.iload_n 3, 1) := by decide +kernel
theorem dX9_pair_58 : decode cX9_pair 58 = .ok (.invokevirtual 153, 3) := by decide +kernel
theorem dX9_pair_61 : decode cX9_pair 61 = .ok (.lreturn, 1) := by decide +kernel
theorem dX9_rule_0 : decode cX9_rule 0 = .ok (.iload_n 1, 1) := by decide +kernel
theorem dX9_rule_1 : decode cX9_rule 1 = .ok (.invokestatic 139, 3) := by decide +kernel
theorem dX9_rule_4 : decode cX9_rule 4 = .ok (.ifCond .ne 9, 3) := by decide +kernel
theorem dX9_rule_7 : decode cX9_rule 7 = .ok (.bipush (-2), 2) := by decide +kernel
theorem dX9_rule_9 : decode cX9_rule 9 = .ok (.invokestatic 142, 3) := by decide +kernel
theorem dX9_rule_12 : decode cX9_rule 12 = .ok (.lreturn, 1) := by decide +kernel
theorem dX9_rule_13 : decode cX9_rule 13 = .ok (.aload_n 0, 1) := by decide +kernel
theorem dX9_rule_14 : decode cX9_rule 14 = .ok (.getfield 21, 3) := by decide +kernel
theorem dX9_rule_17 : decode cX9_rule 17 = .ok (.invokevirtual 146, 3) := by decide +kernel
theorem dX9_rule_20 : decode cX9_rule 20 = .ok (.aload_n 0, 1) := by decide +kernel
theorem dX9_rule_21 : decode cX9_rule 21 = .ok (.getfield 21, 3) := by decide +kernel
theorem dX9_rule_24 : decode cX9_rule 24 = .ok (.aload_n 0, 1) := by decide +kernel
theorem dX9_rule_25 : decode cX9_rule 25 = .ok (.getfield 21, 3) := by decide +kernel
theorem dX9_rule_28 : decode cX9_rule 28 = .ok (.invokevirtual 172, 3) := by decide +kernel
theorem dX9_rule_31 : decode cX9_rule 31 = .ok (.iload_n 1, 1) := by decide +kernel
theorem dX9_rule_32 : decode cX9_rule 32 = .ok (.invokevirtual 153, 3) := by decide +kernel
theorem dX9_rule_35 : decode cX9_rule 35 = .ok (.lreturn, 1) := by decide +kernel
theorem dX9_sets_0 : decode cX9_sets 0 = .ok (.iload_n 1, 1) := by decide +kernel
theorem dX9_sets_1 : decode cX9_sets 1 = .ok (.ifCond .lt 14, 3) := by decide +kernel
theorem dX9_sets_4 : decode cX9_sets 4 = .ok (.iload_n 1, 1) := by decide +kernel
theorem dX9_sets_5 : decode cX9_sets 5 = .ok (.aload_n 0, 1) := by decide +kernel
theorem dX9_sets_6 : decode cX9_sets 6 = .ok (.getfield 12, 3) := by decide +kernel
theorem dX9_sets_9 : decode cX9_sets 9 = .ok (.invokevirtual 80, 3) := by decide +kernel
theorem dX9_sets_12 : decode cX9_sets 12 = .ok (.if_icmp .le 6, 3) := by decide +kernel
theorem dX9_sets_15 : decode cX9_sets 15 = .ok (.bipush (-2), 2) := by decide +kernel
theorem dX9_sets_17 : decode cX9_sets 17 = .ok (.ireturn, 1) := by decide +kernel
theorem dX9_sets_18 : decode cX9_sets 18 = .ok (.aload_n 0, 1) := by decide +kernel
theorem dX9_sets_19 : decode cX9_sets 19 = .ok (.getfield 28, 3) := by decide +kernel
theorem dX9_sets_22 : decode cX9_sets 22 = .ok (.invokevirtual 175, 3) := by decide +kernel
theorem dX9_sets_25 : decode cX9_sets 25 = .ok (.aload_n 0, 1) := by decide +kernel
theorem dX9_sets_26 : decode cX9_sets 26 = .ok (.getfield 28, 3) := by decide +kernel
theorem dX9_sets_29 : decode cX9_sets 29 = .ok (.iload_n 1, 1) := by decide +kernel
theorem dX9_sets_30 : decode cX9_sets 30 = .ok (.invokevirtual 176, 3) := by decide +kernel
theorem dX9_sets_33 : decode cX9_sets 33 = .ok (.ireturn, 1) := by decide +kernel
theorem dX9_like_0 : decode cX9_like 0 = .ok (.iload_n 2, 1) := by decide +kernel
theorem dX9_like_1 : decode cX9_like 1 = .ok (.iconst 1, 1) := by decide +kernel
theorem dX9_like_2 : decode cX9_like 2 = .ok (.if_icmp .lt 25, 3) := by decide +kernel
theorem dX9_like_5 : decode cX9_like 5 = .ok (.iload_n 2, 1) := by decide +kernel
theorem dX9_like_6 : decode cX9_like 6 = .ok (.bipush 99, 2) := by decide +kernel
theorem dX9_like_8 : decode cX9_like 8 = .ok (.if_icmp .gt 19, 3) := by decide +kernel
theorem dX9_like_11 : decode cX9_like 11 = .ok (.iload_n 1, 1) := by decide +kernel
theorem dX9_like_12 : decode cX9_like 12 = .ok (.ifCond .lt 15, 3) := by decide +kernel
theorem dX9_like_15 : decode cX9_like 15 = .ok (.iload_n 1, 1) := by decide +kernel
theorem dX9_like_16 : decode cX9_like 16 = .ok (.iload_n 2, 1) := by decide +kernel
theorem dX9_like_17 : decode cX9_like 17 = .ok (.if_icmp .gt 10, 3) := by decide +kernel
theorem dX9_like_20 : decode cX9_like 20 = .ok (.iload_n 3, 1) := by decide +kernel
theorem dX9_like_21 : decode cX9_like 21 = .ok (.invokestatic 139, 3) := by decide +kernel
theorem dX9_like_24 : decode cX9_like 24 = .ok (.ifCond .ne 9, 3) := by decide +kernel
theorem dX9_like_27 : decode cX9_like 27 = .ok (.bipush (-2), 2) := by decide +kernel
theorem dX9_like_29 : decode cX9_like 29 = .ok (.invokestatic 142, 3) := by decide +kernel
theorem dX9_like_32 : decode cX9_like 32 = .ok (.lreturn, 1) := by decide +kernel
theorem dX9_like_33 : decode cX9_like 33 = .ok (.aload_n 0, 1) := by decide +kernel
theorem dX9_like_34 : decode cX9_like 34 = .ok (.getfield 28, 3) := by decide +kernel
theorem dX9_like_37 : decode cX9_like 37 = .ok (.invokevirtual 175, 3) := by decide +kernel
theorem dX9_like_40 : decode cX9_like 40 = .ok (.aload_n 0, 1) := by decide +kernel
theorem dX9_like_41 : decode cX9_like 41 = .ok (.iload_n 1, 1) := by decide +kernel
theorem dX9_like_42 : decode cX9_like 42 = .ok (.iload_n 2, 1) := by decide +kernel
theorem dX9_like_43 : decode cX9_like 43 = .ok (.iload_n 3, 1) := by decide +kernel
theorem dX9_like_44 : decode cX9_like 44 = .ok (.invokevirtual 179, 3) := by decide +kernel
theorem dX9_like_47 : decode cX9_like 47 = .ok (.lreturn, 1) := by decide +kernel
theorem dX9_least_0 : decode cX9_least 0 = .ok (.iload_n 1, 1) := by decide +kernel
theorem dX9_least_1 : decode cX9_least 1 = .ok (.invokestatic 139, 3) := by decide +kernel
theorem dX9_least_4 : decode cX9_least 4 = .ok (.ifCond .ne 6, 3) := by decide +kernel
theorem dX9_least_7 : decode cX9_least 7 = .ok (.bipush (-2), 2) := by decide +kernel
theorem dX9_least_9 : decode cX9_least 9 = .ok (.ireturn, 1) := by decide +kernel
theorem dX9_least_10 : decode cX9_least 10 = .ok (.iload_n 1, 1) := by decide +kernel
theorem dX9_least_11 : decode cX9_least 11 = .ok (.ifCond .ne 13, 3) := by decide +kernel
theorem dX9_least_14 : decode cX9_least 14 = .ok (.aload_n 0, 1) := by decide +kernel
theorem dX9_least_15 : decode cX9_least 15 = .ok (.getfield 28, 3) := by decide +kernel
theorem dX9_least_18 : decode cX9_least 18 = .ok (.invokevirtual 183, 3) := by decide +kernel
theorem dX9_least_21 : decode cX9_least 21 = .ok (.goto 10, 3) := by decide +kernel
theorem dX9_least_24 : decode cX9_least 24 = .ok (.aload_n 0, 1) := by decide +kernel
theorem dX9_least_25 : decode cX9_least 25 = .ok (.getfield 28, 3) := by decide +kernel
theorem dX9_least_28 : decode cX9_least 28 = .ok (.invokevirtual 186, 3) := by decide +kernel
theorem dX9_least_31 : decode cX9_least 31 = .ok (.ireturn, 1) := by decide +kernel
theorem dX9_worth_0 : decode cX9_worth 0 = .ok (.aload_n 0, 1) := by decide +kernel
theorem dX9_worth_1 : decode cX9_worth 1 = .ok (.getfield 12, 3) := by decide +kernel
theorem dX9_worth_4 : decode cX9_worth 4 = .ok (.iload_n 1, 1) := by decide +kernel
theorem dX9_worth_5 : decode cX9_worth 5 = .ok (.invokevirtual 86, 3) := by decide +kernel
theorem dX9_worth_8 : decode cX9_worth 8 = .ok (.ifCond .eq 10, 3) := by decide +kernel
theorem dX9_worth_11 : decode cX9_worth 11 = .ok (.iload_n 2, 1) := by decide +kernel
theorem dX9_worth_12 : decode cX9_worth 12 = .ok (.invokestatic 139, 3) := by decide +kernel
theorem dX9_worth_15 : decode cX9_worth 15 = .ok (.ifCond .ne 9, 3) := by decide +kernel
theorem dX9_worth_18 : decode cX9_worth 18 = .ok (.bipush (-2), 2) := by decide +kernel
theorem dX9_worth_20 : decode cX9_worth 20 = .ok (.invokestatic 142, 3) := by decide +kernel
theorem dX9_worth_23 : decode cX9_worth 23 = .ok (.lreturn, 1) := by decide +kernel
theorem dX9_worth_24 : decode cX9_worth 24 = .ok (.aload_n 0, 1) := by decide +kernel
theorem dX9_worth_25 : decode cX9_worth 25 = .ok (.getfield 21, 3) := by decide +kernel
theorem dX9_worth_28 : decode cX9_worth 28 = .ok (.invokevirtual 146, 3) := by decide +kernel
theorem dX9_worth_31 : decode cX9_worth 31 = .ok (.aload_n 0, 1) := by decide +kernel
theorem dX9_worth_32 : decode cX9_worth 32 = .ok (.getfield 21, 3) := by decide +kernel
theorem dX9_worth_35 : decode cX9_worth 35 = .ok (.aload_n 0, 1) := by decide +kernel
theorem dX9_worth_36 : decode cX9_worth 36 = .ok (.getfield 21, 3) := by decide +kernel
theorem dX9_worth_39 : decode cX9_worth 39 = .ok (.iload_n 1, 1) := by decide +kernel
theorem dX9_worth_40 : decode cX9_worth 40 = .ok (.invokevirtual 189, 3) := by decide +kernel
theorem dX9_worth_43 : decode cX9_worth 43 = .ok (.iload_n 2, 1) := by decide +kernel
theorem dX9_worth_44 : decode cX9_worth 44 = .ok (.invokevirtual 153, 3) := by decide +kernel
theorem dX9_worth_47 : decode cX9_worth 47 = .ok (.lreturn, 1) := by decide +kernel
theorem dX9_worthiest_0 : decode cX9_worthiest 0 = .ok (.aload_n 0, 1) := by decide +kernel
theorem dX9_worthiest_1 : decode cX9_worthiest 1 = .ok (.getfield 21, 3) := by decide +kernel
theorem dX9_worthiest_4 : decode cX9_worthiest 4 = .ok (.invokevirtual 146, 3) := by decide +kernel
theorem dX9_worthiest_7 : decode cX9_worthiest 7 = .ok (.aload_n 0, 1) := by decide +kernel
theorem dX9_worthiest_8 : decode cX9_worthiest 8 = .ok (.getfield 21, 3) := by decide +kernel
theorem dX9_worthiest_11 : decode cX9_worthiest 11 = .ok (.invokevirtual 192, 3) := by decide +kernel
theorem dX9_worthiest_14 : decode cX9_worthiest 14 = .ok (.ireturn, 1) := by decide +kernel
theorem dX9_better_0 : decode cX9_better 0 = .ok (.aload_n 0, 1) := by decide +kernel
theorem dX9_better_1 : decode cX9_better 1 = .ok (.getfield 12, 3) := by decide +kernel
theorem dX9_better_4 : decode cX9_better 4 = .ok (.iload_n 1, 1) := by decide +kernel
theorem dX9_better_5 : decode cX9_better 5 = .ok (.invokevirtual 86, 3) := by decide +kernel
theorem dX9_better_8 : decode cX9_better 8 = .ok (.ifCond .eq 21, 3) := by decide +kernel
theorem dX9_better_11 : decode cX9_better 11 = .ok (.iload_n 2, 1) := by decide +kernel
theorem dX9_better_12 : decode cX9_better 12 = .ok (.i2l, 1) := by decide +kernel
theorem dX9_better_13 : decode cX9_better 13 = .ok (.iload_n 3, 1) := by decide +kernel
theorem dX9_better_14 : decode cX9_better 14 = .ok (.i2l, 1) := by decide +kernel
theorem dX9_better_15 : decode cX9_better 15 = .ok (.invokestatic 90, 3) := by decide +kernel
theorem dX9_better_18 : decode cX9_better 18 = .ok (.ifCond .eq 11, 3) := by decide +kernel
theorem dX9_better_21 : decode cX9_better 21 = .ok (.iload 4, 2) := by decide +kernel
theorem dX9_better_23 : decode cX9_better 23 = .ok (.invokestatic 139, 3) := by decide +kernel
theorem dX9_better_26 : decode cX9_better 26 = .ok (.ifCond .ne 9, 3) := by decide +kernel
theorem dX9_better_29 : decode cX9_better 29 = .ok (.bipush (-2), 2) := by decide +kernel
theorem dX9_better_31 : decode cX9_better 31 = .ok (.invokestatic 142, 3) := by decide +kernel
theorem dX9_better_34 : decode cX9_better 34 = .ok (.lreturn, 1) := by decide +kernel
theorem dX9_better_35 : decode cX9_better 35 = .ok (.aload_n 0, 1) := by decide +kernel
theorem dX9_better_36 : decode cX9_better 36 = .ok (.getfield 21, 3) := by decide +kernel
theorem dX9_better_39 : decode cX9_better 39 = .ok (.iload_n 1, 1) := by decide +kernel
theorem dX9_better_40 : decode cX9_better 40 = .ok (.iload_n 2, 1) := by decide +kernel
theorem dX9_better_41 : decode cX9_better 41 = .ok (.iload_n 3, 1) := by decide +kernel
theorem dX9_better_42 : decode cX9_better 42 = .ok (.invokevirtual 195, 3) := by decide +kernel
theorem dX9_better_45 : decode cX9_better 45 = .ok (.aload_n 0, 1) := by decide +kernel
theorem dX9_better_46 : decode cX9_better 46 = .ok (.getfield 21, 3) := by decide +kernel
theorem dX9_better_49 : decode cX9_better 49 = .ok (.aload_n 0, 1) := by decide +kernel
theorem dX9_better_50 : decode cX9_better 50 = .ok (.getfield 21, 3) := by decide +kernel
theorem dX9_better_53 : decode cX9_better 53 = .ok (.invokevirtual 149, 3) := by decide +kernel
theorem dX9_better_56 : decode cX9_better 56 = .ok (.iload 4, 2) := by decide +kernel
theorem dX9_better_58 : decode cX9_better 58 = .ok (.invokevirtual 153, 3) := by decide +kernel
theorem dX9_better_61 : decode cX9_better 61 = .ok (.lreturn, 1) := by decide +kernel
theorem dX9_type_0 : decode cX9_type 0 = .ok (.iload_n 1, 1) := by decide +kernel
theorem dX9_type_1 : decode cX9_type 1 = .ok (.ifCond .lt 10, 3) := by decide +kernel
theorem dX9_type_4 : decode cX9_type 4 = .ok (.iload_n 1, 1) := by decide +kernel
theorem dX9_type_5 : decode cX9_type 5 = .ok (.sipush 255, 3) := by decide +kernel
theorem dX9_type_8 : decode cX9_type 8 = .ok (.if_icmp .le 6, 3) := by decide +kernel
theorem dX9_type_11 : decode cX9_type 11 = .ok (.bipush (-2), 2) := by decide +kernel
theorem dX9_type_13 : decode cX9_type 13 = .ok (.ireturn, 1) := by decide +kernel
theorem dX9_type_14 : decode cX9_type 14 = .ok (.aload_n 0, 1) := by decide +kernel
theorem dX9_type_15 : decode cX9_type 15 = .ok (.getfield 49, 3) := by decide +kernel
theorem dX9_type_18 : decode cX9_type 18 = .ok (.invokevirtual 198, 3) := by decide +kernel
theorem dX9_type_21 : decode cX9_type 21 = .ok (.ifCond .eq 6, 3) := by decide +kernel
theorem dX9_type_24 : decode cX9_type 24 = .ok (.bipush (-4), 2) := by decide +kernel
theorem dX9_type_26 : decode cX9_type 26 = .ok (.ireturn, 1) := by decide +kernel
theorem dX9_type_27 : decode cX9_type 27 = .ok (.aload_n 0, 1) := by decide +kernel
theorem dX9_type_28 : decode cX9_type 28 = .ok (.getfield 49, 3) := by decide +kernel
theorem dX9_type_31 : decode cX9_type 31 = .ok (.iload_n 1, 1) := by decide +kernel
theorem dX9_type_32 : decode cX9_type 32 = .ok (.invokevirtual 201, 3) := by decide +kernel
theorem dX9_type_35 : decode cX9_type 35 = .ok (.ireturn, 1) := by decide +kernel
theorem dX9_wipe_0 : decode cX9_wipe 0 = .ok (.aload_n 0, 1) := by decide +kernel
theorem dX9_wipe_1 : decode cX9_wipe 1 = .ok (.getfield 49, 3) := by decide +kernel
theorem dX9_wipe_4 : decode cX9_wipe 4 = .ok (.invokevirtual 204, 3) := by decide +kernel
theorem dX9_wipe_7 : decode cX9_wipe 7 = .ok (.ireturn, 1) := by decide +kernel
theorem dX9_obey_0 : decode cX9_obey 0 = .ok (.aload_n 0, 1) := by decide +kernel
theorem dX9_obey_1 : decode cX9_obey 1 = .ok (.getfield 49, 3) := by decide +kernel
theorem dX9_obey_4 : decode cX9_obey 4 = .ok (.invokevirtual 207, 3) := by decide +kernel
theorem dX9_obey_7 : decode cX9_obey 7 = .ok (.ireturn, 1) := by decide +kernel
theorem dX9_wrong_0 : decode cX9_wrong 0 = .ok (.aload_n 0, 1) := by decide +kernel
theorem dX9_wrong_1 : decode cX9_wrong 1 = .ok (.getfield 49, 3) := by decide +kernel
theorem dX9_wrong_4 : decode cX9_wrong 4 = .ok (.invokevirtual 210, 3) := by decide +kernel
theorem dX9_wrong_7 : decode cX9_wrong 7 = .ok (.ireturn, 1) := by decide +kernel
theorem dX9_sheet_0 : decode cX9_sheet 0 = .ok (.aload_n 0, 1) := by decide +kernel
theorem dX9_sheet_1 : decode cX9_sheet 1 = .ok (.getfield 56, 3) := by decide +kernel
theorem dX9_sheet_4 : decode cX9_sheet 4 = .ok (.iload_n 1, 1) := by decide +kernel
theorem dX9_sheet_5 : decode cX9_sheet 5 = .ok (.invokevirtual 213, 3) := by decide +kernel
theorem dX9_sheet_8 : decode cX9_sheet 8 = .ok (.ifCond .eq 9, 3) := by decide +kernel
theorem dX9_sheet_11 : decode cX9_sheet 11 = .ok (.iload_n 2, 1) := by decide +kernel
theorem dX9_sheet_12 : decode cX9_sheet 12 = .ok (.bipush 40, 2) := by decide +kernel
theorem dX9_sheet_14 : decode cX9_sheet 14 = .ok (.if_icmp .le 6, 3) := by decide +kernel
theorem dX9_sheet_17 : decode cX9_sheet 17 = .ok (.bipush (-2), 2) := by decide +kernel
theorem dX9_sheet_19 : decode cX9_sheet 19 = .ok (.ireturn, 1) := by decide +kernel
theorem dX9_sheet_20 : decode cX9_sheet 20 = .ok (.iload_n 2, 1) := by decide +kernel
theorem dX9_sheet_21 : decode cX9_sheet 21 = .ok (.ifCond .ge 12, 3) := by decide +kernel
theorem dX9_sheet_24 : decode cX9_sheet 24 = .ok (.aload_n 0, 1) := by decide +kernel
theorem dX9_sheet_25 : decode cX9_sheet 25 = .ok (.getfield 56, 3) := by decide +kernel
theorem dX9_sheet_28 : decode cX9_sheet 28 = .ok (.iconst 3, 1) := by decide +kernel
theorem dX9_sheet_29 : decode cX9_sheet 29 = .ok (.invokevirtual 216, 3) := by decide +kernel
theorem dX9_sheet_32 : decode cX9_sheet 32 = .ok (.ireturn, 1) := by decide +kernel
theorem dX9_sheet_33 : decode cX9_sheet 33 = .ok (.aload_n 0, 1) := by decide +kernel
theorem dX9_sheet_34 : decode cX9_sheet 34 = .ok (.getfield 56, 3) := by decide +kernel
theorem dX9_sheet_37 : decode cX9_sheet 37 = .ok (.iload_n 1, 1) := by decide +kernel
theorem dX9_sheet_38 : decode cX9_sheet 38 = .ok (.iload_n 2, 1) := by decide +kernel
theorem dX9_sheet_39 : decode cX9_sheet 39 = .ok (.invokevirtual 219, 3) := by decide +kernel
theorem dX9_sheet_42 : decode cX9_sheet 42 = .ok (.ireturn, 1) := by decide +kernel
theorem dX9_lose_0 : decode cX9_lose 0 = .ok (.aload_n 0, 1) := by decide +kernel
theorem dX9_lose_1 : decode cX9_lose 1 = .ok (.getfield 56, 3) := by decide +kernel
theorem dX9_lose_4 : decode cX9_lose 4 = .ok (.iload_n 1, 1) := by decide +kernel
theorem dX9_lose_5 : decode cX9_lose 5 = .ok (.invokevirtual 222, 3) := by decide +kernel
theorem dX9_lose_8 : decode cX9_lose 8 = .ok (.istore_n 2, 1) := by decide +kernel
theorem dX9_lose_9 : decode cX9_lose 9 = .ok (.iload_n 2, 1) := by decide +kernel
theorem dX9_lose_10 : decode cX9_lose 10 = .ok (.ifCond .eq 5, 3) := by decide +kernel
theorem dX9_lose_13 : decode cX9_lose 13 = .ok (.iload_n 2, 1) := by decide +kernel
theorem dX9_lose_14 : decode cX9_lose 14 = .ok (.ireturn, 1) := by decide +kernel
theorem dX9_lose_15 : decode cX9_lose 15 = .ok (.aload_n 0, 1) := by decide +kernel
theorem dX9_lose_16 : decode cX9_lose 16 = .ok (.getfield 56, 3) := by decide +kernel
theorem dX9_lose_19 : decode cX9_lose 19 = .ok (.iload_n 1, 1) := by decide +kernel
theorem dX9_lose_20 : decode cX9_lose 20 = .ok (.invokevirtual 225, 3) := by decide +kernel
theorem dX9_lose_23 : decode cX9_lose 23 = .ok (.ireturn, 1) := by decide +kernel
theorem dX9_lay_0 : decode cX9_lay 0 = .ok (.aload_n 0, 1) := by decide +kernel
theorem dX9_lay_1 : decode cX9_lay 1 = .ok (.getfield 56, 3) := by decide +kernel
theorem dX9_lay_4 : decode cX9_lay 4 = .ok (.iload_n 1, 1) := by decide +kernel
theorem dX9_lay_5 : decode cX9_lay 5 = .ok (.iload_n 2, 1) := by decide +kernel
theorem dX9_lay_6 : decode cX9_lay 6 = .ok (.invokevirtual 228, 3) := by decide +kernel
theorem dX9_lay_9 : decode cX9_lay 9 = .ok (.istore 4, 2) := by decide +kernel
theorem dX9_lay_11 : decode cX9_lay 11 = .ok (.iload 4, 2) := by decide +kernel
theorem dX9_lay_13 : decode cX9_lay 13 = .ok (.ifCond .eq 6, 3) := by decide +kernel
theorem dX9_lay_16 : decode cX9_lay 16 = .ok (.iload 4, 2) := by decide +kernel
theorem dX9_lay_18 : decode cX9_lay 18 = .ok (.ireturn, 1) := by decide +kernel
theorem dX9_lay_19 : decode cX9_lay 19 = .ok (.aload_n 0, 1) := by decide +kernel
theorem dX9_lay_20 : decode cX9_lay 20 = .ok (.getfield 56, 3) := by decide +kernel
theorem dX9_lay_23 : decode cX9_lay 23 = .ok (.iload_n 1, 1) := by decide +kernel
theorem dX9_lay_24 : decode cX9_lay 24 = .ok (.iload_n 2, 1) := by decide +kernel
theorem dX9_lay_25 : decode cX9_lay 25 = .ok (.iload_n 3, 1) := by decide +kernel
theorem dX9_lay_26 : decode cX9_lay 26 = .ok (.i2l, 1) := by decide +kernel
theorem dX9_lay_27 : decode cX9_lay 27 = .ok (.invokevirtual 231, 3) := by decide +kernel
theorem dX9_lay_30 : decode cX9_lay 30 = .ok (.iconst 1, 1) := by decide +kernel
theorem dX9_lay_31 : decode cX9_lay 31 = .ok (.ireturn, 1) := by decide +kernel
theorem dX9_get_0 : decode cX9_get 0 = .ok (.aload_n 0, 1) := by decide +kernel
theorem dX9_get_1 : decode cX9_get 1 = .ok (.getfield 56, 3) := by decide +kernel
theorem dX9_get_4 : decode cX9_get 4 = .ok (.iload_n 1, 1) := by decide +kernel
theorem dX9_get_5 : decode cX9_get 5 = .ok (.iload_n 2, 1) := by decide +kernel
theorem dX9_get_6 : decode cX9_get 6 = .ok (.invokevirtual 228, 3) := by decide +kernel
theorem dX9_get_9 : decode cX9_get 9 = .ok (.istore_n 3, 1) := by decide +kernel
theorem dX9_get_10 : decode cX9_get 10 = .ok (.iload_n 3, 1) := by decide +kernel
theorem dX9_get_11 : decode cX9_get 11 = .ok (.ifCond .eq 8, 3) := by decide +kernel
theorem dX9_get_14 : decode cX9_get 14 = .ok (.iload_n 3, 1) := by decide +kernel
theorem dX9_get_15 : decode cX9_get 15 = .ok (.invokestatic 142, 3) := by decide +kernel
theorem dX9_get_18 : decode cX9_get 18 = .ok (.lreturn, 1) := by decide +kernel
theorem dX9_get_19 : decode cX9_get 19 = .ok (.aload_n 0, 1) := by decide +kernel
theorem dX9_get_20 : decode cX9_get 20 = .ok (.getfield 56, 3) := by decide +kernel
theorem dX9_get_23 : decode cX9_get 23 = .ok (.iload_n 1, 1) := by decide +kernel
theorem dX9_get_24 : decode cX9_get 24 = .ok (.iload_n 2, 1) := by decide +kernel
theorem dX9_get_25 : decode cX9_get 25 = .ok (.invokevirtual 235, 3) := by decide +kernel
theorem dX9_get_28 : decode cX9_get 28 = .ok (.lreturn, 1) := by decide +kernel
theorem dX9_copy_0 : decode cX9_copy 0 = .ok (.aload_n 0, 1) := by decide +kernel
theorem dX9_copy_1 : decode cX9_copy 1 = .ok (.getfield 56, 3) := by decide +kernel
theorem dX9_copy_4 : decode cX9_copy 4 = .ok (.iload_n 1, 1) := by decide +kernel
theorem dX9_copy_5 : decode cX9_copy 5 = .ok (.invokevirtual 213, 3) := by decide +kernel
theorem dX9_copy_8 : decode cX9_copy 8 = .ok (.ifCond .eq 14, 3) := by decide +kernel
theorem dX9_copy_11 : decode cX9_copy 11 = .ok (.aload_n 0, 1) := by decide +kernel
theorem dX9_copy_12 : decode cX9_copy 12 = .ok (.getfield 56, 3) := by decide +kernel
theorem dX9_copy_15 : decode cX9_copy 15 = .ok (.iload_n 3, 1) := by decide +kernel
theorem dX9_copy_16 : decode cX9_copy 16 = .ok (.invokevirtual 213, 3) := by decide +kernel
theorem dX9_copy_19 : decode cX9_copy 19 = .ok (.ifCond .ne 6, 3) := by decide +kernel
theorem dX9_copy_22 : decode cX9_copy 22 = .ok (.bipush (-2), 2) := by decide +kernel
theorem dX9_copy_24 : decode cX9_copy 24 = .ok (.ireturn, 1) := by decide +kernel
theorem dX9_copy_25 : decode cX9_copy 25 = .ok (.aload_n 0, 1) := by decide +kernel
theorem dX9_copy_26 : decode cX9_copy 26 = .ok (.getfield 56, 3) := by decide +kernel
theorem dX9_copy_29 : decode cX9_copy 29 = .ok (.iload_n 1, 1) := by decide +kernel
theorem dX9_copy_30 : decode cX9_copy 30 = .ok (.invokevirtual 238, 3) := by decide +kernel
theorem dX9_copy_33 : decode cX9_copy 33 = .ok (.ifCond .ne 14, 3) := by decide +kernel
theorem dX9_copy_36 : decode cX9_copy 36 = .ok (.aload_n 0, 1) := by decide +kernel
theorem dX9_copy_37 : decode cX9_copy 37 = .ok (.getfield 56, 3) := by decide +kernel
theorem dX9_copy_40 : decode cX9_copy 40 = .ok (.iload_n 3, 1) := by decide +kernel
theorem dX9_copy_41 : decode cX9_copy 41 = .ok (.invokevirtual 238, 3) := by decide +kernel
theorem dX9_copy_44 : decode cX9_copy 44 = .ok (.ifCond .eq 12, 3) := by decide +kernel
theorem dX9_copy_47 : decode cX9_copy 47 = .ok (.aload_n 0, 1) := by decide +kernel
theorem dX9_copy_48 : decode cX9_copy 48 = .ok (.getfield 56, 3) := by decide +kernel
theorem dX9_copy_51 : decode cX9_copy 51 = .ok (.iconst 1, 1) := by decide +kernel
theorem dX9_copy_52 : decode cX9_copy 52 = .ok (.invokevirtual 216, 3) := by decide +kernel
theorem dX9_copy_55 : decode cX9_copy 55 = .ok (.ireturn, 1) := by decide +kernel
theorem dX9_copy_56 : decode cX9_copy 56 = .ok (.aload_n 0, 1) := by decide +kernel
theorem dX9_copy_57 : decode cX9_copy 57 = .ok (.getfield 56, 3) := by decide +kernel
theorem dX9_copy_60 : decode cX9_copy 60 = .ok (.iload_n 1, 1) := by decide +kernel
theorem dX9_copy_61 : decode cX9_copy 61 = .ok (.iload_n 2, 1) := by decide +kernel
theorem dX9_copy_62 : decode cX9_copy 62 = .ok (.iload 5, 2) := by decide +kernel
theorem dX9_copy_64 : decode cX9_copy 64 = .ok (.invokevirtual 241, 3) := by decide +kernel
theorem dX9_copy_67 : decode cX9_copy 67 = .ok (.ifCond .eq 18, 3) := by decide +kernel
theorem dX9_copy_70 : decode cX9_copy 70 = .ok (.aload_n 0, 1) := by decide +kernel
theorem dX9_copy_71 : decode cX9_copy 71 = .ok (.getfield 56, 3) := by decide +kernel
theorem dX9_copy_74 : decode cX9_copy 74 = .ok (.iload_n 3, 1) := by decide +kernel
theorem dX9_copy_75 : decode cX9_copy 75 = .ok (.iload 4, 2) := by decide +kernel
theorem dX9_copy_77 : decode cX9_copy 77 = .ok (.iload 5, 2) := by decide +kernel
theorem dX9_copy_79 : decode cX9_copy 79 = .ok (.invokevirtual 241, 3) := by decide +kernel
theorem dX9_copy_82 : decode cX9_copy 82 = .ok (.ifCond .ne 12, 3) := by decide +kernel
theorem dX9_copy_85 : decode cX9_copy 85 = .ok (.aload_n 0, 1) := by decide +kernel
theorem dX9_copy_86 : decode cX9_copy 86 = .ok (.getfield 56, 3) := by decide +kernel
theorem dX9_copy_89 : decode cX9_copy 89 = .ok (.iconst 2, 1) := by decide +kernel
theorem dX9_copy_90 : decode cX9_copy 90 = .ok (.invokevirtual 216, 3) := by decide +kernel
theorem dX9_copy_93 : decode cX9_copy 93 = .ok (.ireturn, 1) := by decide +kernel
theorem dX9_copy_94 : decode cX9_copy 94 = .ok (.aload_n 0, 1) := by decide +kernel
theorem dX9_copy_95 : decode cX9_copy 95 = .ok (.getfield 56, 3) := by decide +kernel
theorem dX9_copy_98 : decode cX9_copy 98 = .ok (.iload_n 1, 1) := by decide +kernel
theorem dX9_copy_99 : decode cX9_copy 99 = .ok (.iload_n 2, 1) := by decide +kernel
theorem dX9_copy_100 : decode cX9_copy 100 = .ok (.iload_n 3, 1) := by decide +kernel
theorem dX9_copy_101 : decode cX9_copy 101 = .ok (.iload 4, 2) := by decide +kernel
theorem dX9_copy_103 : decode cX9_copy 103 = .ok (.iload 5, 2) := by decide +kernel
theorem dX9_copy_105 : decode cX9_copy 105 = .ok (.invokevirtual 245, 3) := by decide +kernel
theorem dX9_copy_108 : decode cX9_copy 108 = .ok (.iconst 1, 1) := by decide +kernel
theorem dX9_copy_109 : decode cX9_copy 109 = .ok (.ireturn, 1) := by decide +kernel
theorem dX9_read_0 : decode cX9_read 0 = .ok (.aload_n 0, 1) := by decide +kernel
theorem dX9_read_1 : decode cX9_read 1 = .ok (.getfield 56, 3) := by decide +kernel
theorem dX9_read_4 : decode cX9_read 4 = .ok (.iload_n 1, 1) := by decide +kernel
theorem dX9_read_5 : decode cX9_read 5 = .ok (.invokevirtual 222, 3) := by decide +kernel
theorem dX9_read_8 : decode cX9_read 8 = .ok (.istore_n 2, 1) := by decide +kernel
theorem dX9_read_9 : decode cX9_read 9 = .ok (.iload_n 2, 1) := by decide +kernel
theorem dX9_read_10 : decode cX9_read 10 = .ok (.ifCond .eq 5, 3) := by decide +kernel
theorem dX9_read_13 : decode cX9_read 13 = .ok (.iload_n 2, 1) := by decide +kernel
theorem dX9_read_14 : decode cX9_read 14 = .ok (.ireturn, 1) := by decide +kernel
theorem dX9_read_15 : decode cX9_read 15 = .ok (.aload_n 0, 1) := by decide +kernel
theorem dX9_read_16 : decode cX9_read 16 = .ok (.getfield 56, 3) := by decide +kernel
theorem dX9_read_19 : decode cX9_read 19 = .ok (.iload_n 1, 1) := by decide +kernel
theorem dX9_read_20 : decode cX9_read 20 = .ok (.invokevirtual 249, 3) := by decide +kernel
theorem dX9_read_23 : decode cX9_read 23 = .ok (.iconst 4, 1) := by decide +kernel
theorem dX9_read_24 : decode cX9_read 24 = .ok (.idiv, 1) := by decide +kernel
theorem dX9_read_25 : decode cX9_read 25 = .ok (.istore_n 3, 1) := by decide +kernel
theorem dX9_read_26 : decode cX9_read 26 = .ok (.iconst 0, 1) := by decide +kernel
theorem dX9_read_27 : decode cX9_read 27 = .ok (.istore 4, 2) := by decide +kernel
theorem dX9_read_29 : decode cX9_read 29 = .ok (.iload 4, 2) := by decide +kernel
theorem dX9_read_31 : decode cX9_read 31 = .ok (.iload_n 3, 1) := by decide +kernel
theorem dX9_read_32 : decode cX9_read 32 = .ok (.if_icmp .ge 31, 3) := by decide +kernel
theorem dX9_read_35 : decode cX9_read 35 = .ok (.aload_n 0, 1) := by decide +kernel
theorem dX9_read_36 : decode cX9_read 36 = .ok (.getfield 12, 3) := by decide +kernel
theorem dX9_read_39 : decode cX9_read 39 = .ok (.invokevirtual 72, 3) := by decide +kernel
theorem dX9_read_42 : decode cX9_read 42 = .ok (.ifCond .eq 21, 3) := by decide +kernel
theorem dX9_read_45 : decode cX9_read 45 = .ok (.aload_n 0, 1) := by decide +kernel
theorem dX9_read_46 : decode cX9_read 46 = .ok (.iload_n 1, 1) := by decide +kernel
theorem dX9_read_47 : decode cX9_read 47 = .ok (.iconst 4, 1) := by decide +kernel
theorem dX9_read_48 : decode cX9_read 48 = .ok (.iload 4, 2) := by decide +kernel
theorem dX9_read_50 : decode cX9_read 50 = .ok (.imul, 1) := by decide +kernel
theorem dX9_read_51 : decode cX9_read 51 = .ok (.invokevirtual 252, 3) := by decide +kernel
theorem dX9_read_54 : decode cX9_read 54 = .ok (.ifCond .eq 9, 3) := by decide +kernel
theorem dX9_read_57 : decode cX9_read 57 = .ok (.iinc 4 1, 3) := by decide +kernel
theorem dX9_read_60 : decode cX9_read 60 = .ok (.goto (-31), 3) := by decide +kernel
theorem dX9_read_63 : decode cX9_read 63 = .ok (.iload 4, 2) := by decide +kernel
theorem dX9_read_65 : decode cX9_read 65 = .ok (.ireturn, 1) := by decide +kernel
theorem dX9_write_0 : decode cX9_write 0 = .ok (.aload_n 0, 1) := by decide +kernel
theorem dX9_write_1 : decode cX9_write 1 = .ok (.getfield 56, 3) := by decide +kernel
theorem dX9_write_4 : decode cX9_write 4 = .ok (.iload_n 1, 1) := by decide +kernel
theorem dX9_write_5 : decode cX9_write 5 = .ok (.invokevirtual 222, 3) := by decide +kernel
theorem dX9_write_8 : decode cX9_write 8 = .ok (.istore_n 2, 1) := by decide +kernel
theorem dX9_write_9 : decode cX9_write 9 = .ok (.iload_n 2, 1) := by decide +kernel
theorem dX9_write_10 : decode cX9_write 10 = .ok (.ifCond .eq 5, 3) := by decide +kernel
theorem dX9_write_13 : decode cX9_write 13 = .ok (.iload_n 2, 1) := by decide +kernel
theorem dX9_write_14 : decode cX9_write 14 = .ok (.ireturn, 1) := by decide +kernel
theorem dX9_write_15 : decode cX9_write 15 = .ok (.aload_n 0, 1) := by decide +kernel
theorem dX9_write_16 : decode cX9_write 16 = .ok (.getfield 56, 3) := by decide +kernel
theorem dX9_write_19 : decode cX9_write 19 = .ok (.iload_n 1, 1) := by decide +kernel
theorem dX9_write_20 : decode cX9_write 20 = .ok (.invokevirtual 249, 3) := by decide +kernel
theorem dX9_write_23 : decode cX9_write 23 = .ok (.iconst 2, 1) := by decide +kernel
theorem dX9_write_24 : decode cX9_write 24 = .ok (.aload_n 0, 1) := by decide +kernel
theorem dX9_write_25 : decode cX9_write 25 = .ok (.getfield 12, 3) := by decide +kernel
theorem dX9_write_28 : decode cX9_write 28 = .ok (.invokevirtual 80, 3) := by decide +kernel
theorem dX9_write_31 : decode cX9_write 31 = .ok (.imul, 1) := by decide +kernel
theorem dX9_write_32 : decode cX9_write 32 = .ok (.invokestatic 256, 3) := by decide +kernel
theorem dX9_write_35 : decode cX9_write 35 = .ok (.istore_n 3, 1) := by decide +kernel
theorem dX9_write_36 : decode cX9_write 36 = .ok (.aload_n 0, 1) := by decide +kernel
theorem dX9_write_37 : decode cX9_write 37 = .ok (.getfield 21, 3) := by decide +kernel
theorem dX9_write_40 : decode cX9_write 40 = .ok (.invokevirtual 146, 3) := by decide +kernel
theorem dX9_write_43 : decode cX9_write 43 = .ok (.iconst 0, 1) := by decide +kernel
theorem dX9_write_44 : decode cX9_write 44 = .ok (.istore 4, 2) := by decide +kernel
theorem dX9_write_46 : decode cX9_write 46 = .ok (.iload 4, 2) := by decide +kernel
theorem dX9_write_48 : decode cX9_write 48 = .ok (.iload_n 3, 1) := by decide +kernel
theorem dX9_write_49 : decode cX9_write 49 = .ok (.if_icmp .ge 41, 3) := by decide +kernel
theorem dX9_write_52 : decode cX9_write 52 = .ok (.aload_n 0, 1) := by decide +kernel
theorem dX9_write_53 : decode cX9_write 53 = .ok (.getfield 56, 3) := by decide +kernel
theorem dX9_write_56 : decode cX9_write 56 = .ok (.iload_n 1, 1) := by decide +kernel
theorem dX9_write_57 : decode cX9_write 57 = .ok (.iload 4, 2) := by decide +kernel
theorem dX9_write_59 : decode cX9_write 59 = .ok (.aload_n 0, 1) := by decide +kernel
theorem dX9_write_60 : decode cX9_write 60 = .ok (.getfield 21, 3) := by decide +kernel
theorem dX9_write_63 : decode cX9_write 63 = .ok (.aload_n 0, 1) := by decide +kernel
theorem dX9_write_64 : decode cX9_write 64 = .ok (.getfield 21, 3) := by decide +kernel
theorem dX9_write_67 : decode cX9_write 67 = .ok (.iload 4, 2) := by decide +kernel
theorem dX9_write_69 : decode cX9_write 69 = .ok (.iconst 2, 1) := by decide +kernel
theorem dX9_write_70 : decode cX9_write 70 = .ok (.idiv, 1) := by decide +kernel
theorem dX9_write_71 : decode cX9_write 71 = .ok (.invokevirtual 189, 3) := by decide +kernel
theorem dX9_write_74 : decode cX9_write 74 = .ok (.iload 4, 2) := by decide +kernel
theorem dX9_write_76 : decode cX9_write 76 = .ok (.iconst 2, 1) := by decide +kernel
theorem dX9_write_77 : decode cX9_write 77 = .ok (.irem, 1) := by decide +kernel
theorem dX9_write_78 : decode cX9_write 78 = .ok (.invokevirtual 153, 3) := by decide +kernel
theorem dX9_write_81 : decode cX9_write 81 = .ok (.invokevirtual 231, 3) := by decide +kernel
theorem dX9_write_84 : decode cX9_write 84 = .ok (.iinc 4 1, 3) := by decide +kernel
theorem dX9_write_87 : decode cX9_write 87 = .ok (.goto (-41), 3) := by decide +kernel
theorem dX9_write_90 : decode cX9_write 90 = .ok (.iload_n 3, 1) := by decide +kernel
theorem dX9_write_91 : decode cX9_write 91 = .ok (.ireturn, 1) := by decide +kernel
theorem dX9_count_0 : decode cX9_count 0 = .ok (.iload_n 1, 1) := by decide +kernel
theorem dX9_count_1 : decode cX9_count 1 = .ok (.tableswitch 156 0 8 #[51, 59, 67, 75, 83, 94, 106, 140, 148], 51) := by decide +kernel
theorem dX9_count_52 : decode cX9_count 52 = .ok (.aload_n 0, 1) := by decide +kernel
theorem dX9_count_53 : decode cX9_count 53 = .ok (.getfield 12, 3) := by decide +kernel
theorem dX9_count_56 : decode cX9_count 56 = .ok (.invokevirtual 60, 3) := by decide +kernel
theorem dX9_count_59 : decode cX9_count 59 = .ok (.ireturn, 1) := by decide +kernel
theorem dX9_count_60 : decode cX9_count 60 = .ok (.aload_n 0, 1) := by decide +kernel
theorem dX9_count_61 : decode cX9_count 61 = .ok (.getfield 12, 3) := by decide +kernel
theorem dX9_count_64 : decode cX9_count 64 = .ok (.invokevirtual 80, 3) := by decide +kernel
theorem dX9_count_67 : decode cX9_count 67 = .ok (.ireturn, 1) := by decide +kernel
theorem dX9_count_68 : decode cX9_count 68 = .ok (.aload_n 0, 1) := by decide +kernel
theorem dX9_count_69 : decode cX9_count 69 = .ok (.getfield 12, 3) := by decide +kernel
theorem dX9_count_72 : decode cX9_count 72 = .ok (.invokevirtual 118, 3) := by decide +kernel
theorem dX9_count_75 : decode cX9_count 75 = .ok (.ireturn, 1) := by decide +kernel
theorem dX9_count_76 : decode cX9_count 76 = .ok (.aload_n 0, 1) := by decide +kernel
theorem dX9_count_77 : decode cX9_count 77 = .ok (.getfield 12, 3) := by decide +kernel
theorem dX9_count_80 : decode cX9_count 80 = .ok (.invokevirtual 127, 3) := by decide +kernel
theorem dX9_count_83 : decode cX9_count 83 = .ok (.ireturn, 1) := by decide +kernel
theorem dX9_count_84 : decode cX9_count 84 = .ok (.aload_n 0, 1) := by decide +kernel
theorem dX9_count_85 : decode cX9_count 85 = .ok (.getfield 12, 3) := by decide +kernel
theorem dX9_count_88 : decode cX9_count 88 = .ok (.invokevirtual 261, 3) := by decide +kernel
theorem dX9_count_91 : decode cX9_count 91 = .ok (.invokestatic 264, 3) := by decide +kernel
theorem dX9_count_94 : decode cX9_count 94 = .ok (.ireturn, 1) := by decide +kernel
theorem dX9_count_95 : decode cX9_count 95 = .ok (.aload_n 0, 1) := by decide +kernel
theorem dX9_count_96 : decode cX9_count 96 = .ok (.getfield 12, 3) := by decide +kernel
theorem dX9_count_99 : decode cX9_count 99 = .ok (.iconst 0, 1) := by decide +kernel
theorem dX9_count_100 : decode cX9_count 100 = .ok (.invokevirtual 269, 3) := by decide +kernel
theorem dX9_count_103 : decode cX9_count 103 = .ok (.invokestatic 264, 3) := by decide +kernel
theorem dX9_count_106 : decode cX9_count 106 = .ok (.ireturn, 1) := by decide +kernel
theorem dX9_count_107 : decode cX9_count 107 = .ok (.aload_n 0, 1) := by decide +kernel
theorem dX9_count_108 : decode cX9_count 108 = .ok (.getfield 12, 3) := by decide +kernel
theorem dX9_count_111 : decode cX9_count 111 = .ok (.aload_n 0, 1) := by decide +kernel
theorem dX9_count_112 : decode cX9_count 112 = .ok (.getfield 12, 3) := by decide +kernel
theorem dX9_count_115 : decode cX9_count 115 = .ok (.invokevirtual 272, 3) := by decide +kernel
theorem dX9_count_118 : decode cX9_count 118 = .ok (.aload_n 0, 1) := by decide +kernel
theorem dX9_count_119 : decode cX9_count 119 = .ok (.getfield 12, 3) := by decide +kernel
theorem dX9_count_122 : decode cX9_count 122 = .ok (.iconst 2, 1) := by decide +kernel
theorem dX9_count_123 : decode cX9_count 123 = .ok (.invokevirtual 269, 3) := by decide +kernel
theorem dX9_count_126 : decode cX9_count 126 = .ok (.iconst (-1), 1) := by decide +kernel
theorem dX9_count_127 : decode cX9_count 127 = .ok (.ixor, 1) := by decide +kernel
theorem dX9_count_128 : decode cX9_count 128 = .ok (.iand, 1) := by decide +kernel
theorem dX9_count_129 : decode cX9_count 129 = .ok (.invokevirtual 275, 3) := by decide +kernel
theorem dX9_count_132 : decode cX9_count 132 = .ok (.ifCond .eq 7, 3) := by decide +kernel
theorem dX9_count_135 : decode cX9_count 135 = .ok (.iconst 1, 1) := by decide +kernel
theorem dX9_count_136 : decode cX9_count 136 = .ok (.goto 4, 3) := by decide +kernel
theorem dX9_count_139 : decode cX9_count 139 = .ok (.iconst 0, 1) := by decide +kernel
theorem dX9_count_140 : decode cX9_count 140 = .ok (.ireturn, 1) := by decide +kernel
theorem dX9_count_141 : decode cX9_count 141 = .ok (.aload_n 0, 1) := by decide +kernel
theorem dX9_count_142 : decode cX9_count 142 = .ok (.getfield 49, 3) := by decide +kernel
theorem dX9_count_145 : decode cX9_count 145 = .ok (.invokevirtual 278, 3) := by decide +kernel
theorem dX9_count_148 : decode cX9_count 148 = .ok (.ireturn, 1) := by decide +kernel
theorem dX9_count_149 : decode cX9_count 149 = .ok (.aload_n 0, 1) := by decide +kernel
theorem dX9_count_150 : decode cX9_count 150 = .ok (.getfield 56, 3) := by decide +kernel
theorem dX9_count_153 : decode cX9_count 153 = .ok (.invokevirtual 281, 3) := by decide +kernel
theorem dX9_count_156 : decode cX9_count 156 = .ok (.ireturn, 1) := by decide +kernel
theorem dX9_count_157 : decode cX9_count 157 = .ok (.bipush (-2), 2) := by decide +kernel
theorem dX9_count_159 : decode cX9_count 159 = .ok (.ireturn, 1) := by decide +kernel
theorem dX9_digest_0 : decode cX9_digest 0 = .ok (.aload_n 0, 1) := by decide +kernel
theorem dX9_digest_1 : decode cX9_digest 1 = .ok (.getfield 21, 3) := by decide +kernel
theorem dX9_digest_4 : decode cX9_digest 4 = .ok (.invokevirtual 146, 3) := by decide +kernel
theorem dX9_digest_7 : decode cX9_digest 7 = .ok (.aload_n 0, 1) := by decide +kernel
theorem dX9_digest_8 : decode cX9_digest 8 = .ok (.getfield 28, 3) := by decide +kernel
theorem dX9_digest_11 : decode cX9_digest 11 = .ok (.invokevirtual 175, 3) := by decide +kernel
theorem dX9_digest_14 : decode cX9_digest 14 = .ok (.aload_n 0, 1) := by decide +kernel
theorem dX9_digest_15 : decode cX9_digest 15 = .ok (.getfield 42, 3) := by decide +kernel
theorem dX9_digest_18 : decode cX9_digest 18 = .ok (.invokevirtual 157, 3) := by decide +kernel
theorem dX9_digest_21 : decode cX9_digest 21 = .ok (.ldc2_w 284, 3) := by decide +kernel
theorem dX9_digest_24 : decode cX9_digest 24 = .ok (.lstore_n 1, 1) := by decide +kernel
theorem dX9_digest_25 : decode cX9_digest 25 = .ok (.iconst 0, 1) := by decide +kernel
theorem dX9_digest_26 : decode cX9_digest 26 = .ok (.istore_n 3, 1) := by decide +kernel
theorem dX9_digest_27 : decode cX9_digest 27 = .ok (.iload_n 3, 1) := by decide +kernel
theorem dX9_digest_28 : decode cX9_digest 28 = .ok (.bipush 7, 2) := by decide +kernel
theorem dX9_digest_30 : decode cX9_digest 30 = .ok (.if_icmp .gt 20, 3) := by decide +kernel
theorem dX9_digest_33 : decode cX9_digest 33 = .ok (.lload_n 1, 1) := by decide +kernel
theorem dX9_digest_34 : decode cX9_digest 34 = .ok (.aload_n 0, 1) := by decide +kernel
theorem dX9_digest_35 : decode cX9_digest 35 = .ok (.iload_n 3, 1) := by decide +kernel
theorem dX9_digest_36 : decode cX9_digest 36 = .ok (.invokevirtual 286, 3) := by decide +kernel
theorem dX9_digest_39 : decode cX9_digest 39 = .ok (.i2l, 1) := by decide +kernel
theorem dX9_digest_40 : decode cX9_digest 40 = .ok (.invokestatic 289, 3) := by decide +kernel
theorem dX9_digest_43 : decode cX9_digest 43 = .ok (.lstore_n 1, 1) := by decide +kernel
theorem dX9_digest_44 : decode cX9_digest 44 = .ok (.iinc 3 1, 3) := by decide +kernel
theorem dX9_digest_47 : decode cX9_digest 47 = .ok (.goto (-20), 3) := by decide +kernel
theorem dX9_digest_50 : decode cX9_digest 50 = .ok (.aload_n 0, 1) := by decide +kernel
theorem dX9_digest_51 : decode cX9_digest 51 = .ok (.lload_n 1, 1) := by decide +kernel
theorem dX9_digest_52 : decode cX9_digest 52 = .ok (.invokevirtual 293, 3) := by decide +kernel
theorem dX9_digest_55 : decode cX9_digest 55 = .ok (.lstore_n 1, 1) := by decide +kernel
theorem dX9_digest_56 : decode cX9_digest 56 = .ok (.aload_n 0, 1) := by decide +kernel
theorem dX9_digest_57 : decode cX9_digest 57 = .ok (.lload_n 1, 1) := by decide +kernel
theorem dX9_digest_58 : decode cX9_digest 58 = .ok (.invokevirtual 297, 3) := by decide +kernel
theorem dX9_digest_61 : decode cX9_digest 61 = .ok (.lstore_n 1, 1) := by decide +kernel
theorem dX9_digest_62 : decode cX9_digest 62 = .ok (.aload_n 0, 1) := by decide +kernel
theorem dX9_digest_63 : decode cX9_digest 63 = .ok (.lload_n 1, 1) := by decide +kernel
theorem dX9_digest_64 : decode cX9_digest 64 = .ok (.invokevirtual 300, 3) := by decide +kernel
theorem dX9_digest_67 : decode cX9_digest 67 = .ok (.lstore_n 1, 1) := by decide +kernel
theorem dX9_digest_68 : decode cX9_digest 68 = .ok (.lload_n 1, 1) := by decide +kernel
theorem dX9_digest_69 : decode cX9_digest 69 = .ok (.aload_n 0, 1) := by decide +kernel
theorem dX9_digest_70 : decode cX9_digest 70 = .ok (.getfield 21, 3) := by decide +kernel
theorem dX9_digest_73 : decode cX9_digest 73 = .ok (.invokevirtual 192, 3) := by decide +kernel
theorem dX9_digest_76 : decode cX9_digest 76 = .ok (.i2l, 1) := by decide +kernel
theorem dX9_digest_77 : decode cX9_digest 77 = .ok (.invokestatic 289, 3) := by decide +kernel
theorem dX9_digest_80 : decode cX9_digest 80 = .ok (.lstore_n 1, 1) := by decide +kernel
theorem dX9_digest_81 : decode cX9_digest 81 = .ok (.aload_n 0, 1) := by decide +kernel
theorem dX9_digest_82 : decode cX9_digest 82 = .ok (.lload_n 1, 1) := by decide +kernel
theorem dX9_digest_83 : decode cX9_digest 83 = .ok (.invokevirtual 303, 3) := by decide +kernel
theorem dX9_digest_86 : decode cX9_digest 86 = .ok (.lstore_n 1, 1) := by decide +kernel
theorem dX9_digest_87 : decode cX9_digest 87 = .ok (.lload_n 1, 1) := by decide +kernel
theorem dX9_digest_88 : decode cX9_digest 88 = .ok (.aload_n 0, 1) := by decide +kernel
theorem dX9_digest_89 : decode cX9_digest 89 = .ok (.getfield 49, 3) := by decide +kernel
theorem dX9_digest_92 : decode cX9_digest 92 = .ok (.invokevirtual 210, 3) := by decide +kernel
theorem dX9_digest_95 : decode cX9_digest 95 = .ok (.i2l, 1) := by decide +kernel
theorem dX9_digest_96 : decode cX9_digest 96 = .ok (.invokestatic 289, 3) := by decide +kernel
theorem dX9_digest_99 : decode cX9_digest 99 = .ok (.lreturn, 1) := by decide +kernel
theorem dX9_isSide_0 : decode cX9_isSide 0 = .ok (.iload_n 0, 1) := by decide +kernel
theorem dX9_isSide_1 : decode cX9_isSide 1 = .ok (.ifCond .eq 8, 3) := by decide +kernel
theorem dX9_isSide_4 : decode cX9_isSide 4 = .ok (.iload_n 0, 1) := by decide +kernel
theorem dX9_isSide_5 : decode cX9_isSide 5 = .ok (.iconst 1, 1) := by decide +kernel
theorem dX9_isSide_6 : decode cX9_isSide 6 = .ok (.if_icmp .ne 7, 3) := by decide +kernel
theorem dX9_isSide_9 : decode cX9_isSide 9 = .ok (.iconst 1, 1) := by decide +kernel
theorem dX9_isSide_10 : decode cX9_isSide 10 = .ok (.goto 4, 3) := by decide +kernel
theorem dX9_isSide_13 : decode cX9_isSide 13 = .ok (.iconst 0, 1) := by decide +kernel
theorem dX9_isSide_14 : decode cX9_isSide 14 = .ok (.ireturn, 1) := by decide +kernel
theorem dX9_refused_0 : decode cX9_refused 0 = .ok (.ldc2_w 306, 3) := by decide +kernel
theorem dX9_refused_3 : decode cX9_refused 3 = .ok (.iload_n 0, 1) := by decide +kernel
theorem dX9_refused_4 : decode cX9_refused 4 = .ok (.i2l, 1) := by decide +kernel
theorem dX9_refused_5 : decode cX9_refused 5 = .ok (.lsub, 1) := by decide +kernel
theorem dX9_refused_6 : decode cX9_refused 6 = .ok (.lreturn, 1) := by decide +kernel
theorem dX9_mixed_0 : decode cX9_mixed 0 = .ok (.ldc2_w 308, 3) := by decide +kernel
theorem dX9_mixed_3 : decode cX9_mixed 3 = .ok (.lload_n 0, 1) := by decide +kernel
theorem dX9_mixed_4 : decode cX9_mixed 4 = .ok (.lmul, 1) := by decide +kernel
theorem dX9_mixed_5 : decode cX9_mixed 5 = .ok (.lload_n 2, 1) := by decide +kernel
theorem dX9_mixed_6 : decode cX9_mixed 6 = .ok (.ladd, 1) := by decide +kernel
theorem dX9_mixed_7 : decode cX9_mixed 7 = .ok (.lreturn, 1) := by decide +kernel
theorem dX9_alike_0 : decode cX9_alike 0 = .ok (.aload_n 0, 1) := by decide +kernel
theorem dX9_alike_1 : decode cX9_alike 1 = .ok (.getfield 28, 3) := by decide +kernel
theorem dX9_alike_4 : decode cX9_alike 4 = .ok (.iload_n 1, 1) := by decide +kernel
theorem dX9_alike_5 : decode cX9_alike 5 = .ok (.iload_n 2, 1) := by decide +kernel
theorem dX9_alike_6 : decode cX9_alike 6 = .ok (.iload_n 3, 1) := by decide +kernel
theorem dX9_alike_7 : decode cX9_alike 7 = .ok (.invokevirtual 310, 3) := by decide +kernel
theorem dX9_alike_10 : decode cX9_alike 10 = .ok (.lstore 4, 2) := by decide +kernel
theorem dX9_alike_12 : decode cX9_alike 12 = .ok (.lload 4, 2) := by decide +kernel
theorem dX9_alike_14 : decode cX9_alike 14 = .ok (.lconst 0, 1) := by decide +kernel
theorem dX9_alike_15 : decode cX9_alike 15 = .ok (.lcmp, 1) := by decide +kernel
theorem dX9_alike_16 : decode cX9_alike 16 = .ok (.ifCond .ge 11, 3) := by decide +kernel
theorem dX9_alike_19 : decode cX9_alike 19 = .ok (.bipush (-5), 2) := by decide +kernel
theorem dX9_alike_21 : decode cX9_alike 21 = .ok (.invokestatic 142, 3) := by decide +kernel
theorem dX9_alike_24 : decode cX9_alike 24 = .ok (.goto 5, 3) := by decide +kernel
theorem dX9_alike_27 : decode cX9_alike 27 = .ok (.lload 4, 2) := by decide +kernel
theorem dX9_alike_29 : decode cX9_alike 29 = .ok (.lreturn, 1) := by decide +kernel
theorem dX9_addFrom_0 : decode cX9_addFrom 0 = .ok (.aload_n 0, 1) := by decide +kernel
theorem dX9_addFrom_1 : decode cX9_addFrom 1 = .ok (.getfield 56, 3) := by decide +kernel
theorem dX9_addFrom_4 : decode cX9_addFrom 4 = .ok (.iload_n 1, 1) := by decide +kernel
theorem dX9_addFrom_5 : decode cX9_addFrom 5 = .ok (.iload_n 2, 1) := by decide +kernel
theorem dX9_addFrom_6 : decode cX9_addFrom 6 = .ok (.invokevirtual 235, 3) := by decide +kernel
theorem dX9_addFrom_9 : decode cX9_addFrom 9 = .ok (.lstore_n 3, 1) := by decide +kernel
theorem dX9_addFrom_10 : decode cX9_addFrom 10 = .ok (.aload_n 0, 1) := by decide +kernel
theorem dX9_addFrom_11 : decode cX9_addFrom 11 = .ok (.getfield 56, 3) := by decide +kernel
theorem dX9_addFrom_14 : decode cX9_addFrom 14 = .ok (.iload_n 1, 1) := by decide +kernel
theorem dX9_addFrom_15 : decode cX9_addFrom 15 = .ok (.iload_n 2, 1) := by decide +kernel
theorem dX9_addFrom_16 : decode cX9_addFrom 16 = .ok (.iconst 1, 1) := by decide +kernel
theorem dX9_addFrom_17 : decode cX9_addFrom 17 = .ok (.iadd, 1) := by decide +kernel
theorem dX9_addFrom_18 : decode cX9_addFrom 18 = .ok (.invokevirtual 235, 3) := by decide +kernel
theorem dX9_addFrom_21 : decode cX9_addFrom 21 = .ok (.lstore 5, 2) := by decide +kernel
theorem dX9_addFrom_23 : decode cX9_addFrom 23 = .ok (.aload_n 0, 1) := by decide +kernel
theorem dX9_addFrom_24 : decode cX9_addFrom 24 = .ok (.getfield 56, 3) := by decide +kernel
theorem dX9_addFrom_27 : decode cX9_addFrom 27 = .ok (.iload_n 1, 1) := by decide +kernel
theorem dX9_addFrom_28 : decode cX9_addFrom 28 = .ok (.iload_n 2, 1) := by decide +kernel
theorem dX9_addFrom_29 : decode cX9_addFrom 29 = .ok (.iconst 2, 1) := by decide +kernel
theorem dX9_addFrom_30 : decode cX9_addFrom 30 = .ok (.iadd, 1) := by decide +kernel
theorem dX9_addFrom_31 : decode cX9_addFrom 31 = .ok (.invokevirtual 235, 3) := by decide +kernel
theorem dX9_addFrom_34 : decode cX9_addFrom 34 = .ok (.lstore 7, 2) := by decide +kernel
theorem dX9_addFrom_36 : decode cX9_addFrom 36 = .ok (.aload_n 0, 1) := by decide +kernel
theorem dX9_addFrom_37 : decode cX9_addFrom 37 = .ok (.getfield 56, 3) := by decide +kernel
theorem dX9_addFrom_40 : decode cX9_addFrom 40 = .ok (.iload_n 1, 1) := by decide +kernel
theorem dX9_addFrom_41 : decode cX9_addFrom 41 = .ok (.iload_n 2, 1) := by decide +kernel
theorem dX9_addFrom_42 : decode cX9_addFrom 42 = .ok (.iconst 3, 1) := by decide +kernel
theorem dX9_addFrom_43 : decode cX9_addFrom 43 = .ok (.iadd, 1) := by decide +kernel
theorem dX9_addFrom_44 : decode cX9_addFrom 44 = .ok (.invokevirtual 235, 3) := by decide +kernel
theorem dX9_addFrom_47 : decode cX9_addFrom 47 = .ok (.lstore 9, 2) := by decide +kernel
theorem dX9_addFrom_49 : decode cX9_addFrom 49 = .ok (.aload_n 0, 1) := by decide +kernel
theorem dX9_addFrom_50 : decode cX9_addFrom 50 = .ok (.getfield 12, 3) := by decide +kernel
theorem dX9_addFrom_53 : decode cX9_addFrom 53 = .ok (.lload_n 3, 1) := by decide +kernel
theorem dX9_addFrom_54 : decode cX9_addFrom 54 = .ok (.lload 5, 2) := by decide +kernel
theorem dX9_addFrom_56 : decode cX9_addFrom 56 = .ok (.lload 7, 2) := by decide +kernel
theorem dX9_addFrom_58 : decode cX9_addFrom 58 = .ok (.lload 9, 2) := by decide +kernel
theorem dX9_addFrom_60 : decode cX9_addFrom 60 = .ok (.invokevirtual 68, 3) := by decide +kernel
theorem dX9_addFrom_63 : decode cX9_addFrom 63 = .ok (.ifCond .ne 5, 3) := by decide +kernel
theorem dX9_addFrom_66 : decode cX9_addFrom 66 = .ok (.iconst 0, 1) := by decide +kernel
theorem dX9_addFrom_67 : decode cX9_addFrom 67 = .ok (.ireturn, 1) := by decide +kernel
theorem dX9_addFrom_68 : decode cX9_addFrom 68 = .ok (.aload_n 0, 1) := by decide +kernel
theorem dX9_addFrom_69 : decode cX9_addFrom 69 = .ok (.getfield 12, 3) := by decide +kernel
theorem dX9_addFrom_72 : decode cX9_addFrom 72 = .ok (.lload_n 3, 1) := by decide +kernel
theorem dX9_addFrom_73 : decode cX9_addFrom 73 = .ok (.l2i, 1) := by decide +kernel
theorem dX9_addFrom_74 : decode cX9_addFrom 74 = .ok (.lload 5, 2) := by decide +kernel
theorem dX9_addFrom_76 : decode cX9_addFrom 76 = .ok (.l2i, 1) := by decide +kernel
theorem dX9_addFrom_77 : decode cX9_addFrom 77 = .ok (.lload 7, 2) := by decide +kernel
theorem dX9_addFrom_79 : decode cX9_addFrom 79 = .ok (.l2i, 1) := by decide +kernel
theorem dX9_addFrom_80 : decode cX9_addFrom 80 = .ok (.lload 9, 2) := by decide +kernel
theorem dX9_addFrom_82 : decode cX9_addFrom 82 = .ok (.l2i, 1) := by decide +kernel
theorem dX9_addFrom_83 : decode cX9_addFrom 83 = .ok (.invokevirtual 76, 3) := by decide +kernel
theorem dX9_addFrom_86 : decode cX9_addFrom 86 = .ok (.pop, 1) := by decide +kernel
theorem dX9_addFrom_87 : decode cX9_addFrom 87 = .ok (.iconst 1, 1) := by decide +kernel
theorem dX9_addFrom_88 : decode cX9_addFrom 88 = .ok (.ireturn, 1) := by decide +kernel
theorem dX9_withFraction_0 : decode cX9_withFraction 0 = .ok (.lload_n 1, 1) := by decide +kernel
theorem dX9_withFraction_1 : decode cX9_withFraction 1 = .ok (.aload_n 0, 1) := by decide +kernel
theorem dX9_withFraction_2 : decode cX9_withFraction 2 = .ok (.getfield 21, 3) := by decide +kernel
theorem dX9_withFraction_5 : decode cX9_withFraction 5 = .ok (.lload_n 3, 1) := by decide +kernel
theorem dX9_withFraction_6 : decode cX9_withFraction 6 = .ok (.iconst 0, 1) := by decide +kernel
theorem dX9_withFraction_7 : decode cX9_withFraction 7 = .ok (.invokevirtual 153, 3) := by decide +kernel
theorem dX9_withFraction_10 : decode cX9_withFraction 10 = .ok (.invokestatic 289, 3) := by decide +kernel
theorem dX9_withFraction_13 : decode cX9_withFraction 13 = .ok (.aload_n 0, 1) := by decide +kernel
theorem dX9_withFraction_14 : decode cX9_withFraction 14 = .ok (.getfield 21, 3) := by decide +kernel
theorem dX9_withFraction_17 : decode cX9_withFraction 17 = .ok (.lload_n 3, 1) := by decide +kernel
theorem dX9_withFraction_18 : decode cX9_withFraction 18 = .ok (.iconst 1, 1) := by decide +kernel
theorem dX9_withFraction_19 : decode cX9_withFraction 19 = .ok (.invokevirtual 153, 3) := by decide +kernel
theorem dX9_withFraction_22 : decode cX9_withFraction 22 = .ok (.invokestatic 289, 3) := by decide +kernel
theorem dX9_withFraction_25 : decode cX9_withFraction 25 = .ok (.lreturn, 1) := by decide +kernel
theorem dX9_withLinks_0 : decode cX9_withLinks 0 = .ok (.iconst 0, 1) := by decide +kernel
theorem dX9_withLinks_1 : decode cX9_withLinks 1 = .ok (.istore_n 3, 1) := by decide +kernel
theorem dX9_withLinks_2 : decode cX9_withLinks 2 = .ok (.iload_n 3, 1) := by decide +kernel
theorem dX9_withLinks_3 : decode cX9_withLinks 3 = .ok (.aload_n 0, 1) := by decide +kernel
theorem dX9_withLinks_4 : decode cX9_withLinks 4 = .ok (.getfield 12, 3) := by decide +kernel
theorem dX9_withLinks_7 : decode cX9_withLinks 7 = .ok (.invokevirtual 80, 3) := by decide +kernel
theorem dX9_withLinks_10 : decode cX9_withLinks 10 = .ok (.if_icmp .ge 65, 3) := by decide +kernel
theorem dX9_withLinks_13 : decode cX9_withLinks 13 = .ok (.iconst 0, 1) := by decide +kernel
theorem dX9_withLinks_14 : decode cX9_withLinks 14 = .ok (.istore 4, 2) := by decide +kernel
theorem dX9_withLinks_16 : decode cX9_withLinks 16 = .ok (.iload 4, 2) := by decide +kernel
theorem dX9_withLinks_18 : decode cX9_withLinks 18 = .ok (.iconst 4, 1) := by decide +kernel
theorem dX9_withLinks_19 : decode cX9_withLinks 19 = .ok (.if_icmp .gt 22, 3) := by decide +kernel
theorem dX9_withLinks_22 : decode cX9_withLinks 22 = .ok (.lload_n 1, 1) := by decide +kernel
theorem dX9_withLinks_23 : decode cX9_withLinks 23 = .ok (.aload_n 0, 1) := by decide +kernel
theorem dX9_withLinks_24 : decode cX9_withLinks 24 = .ok (.iload_n 3, 1) := by decide +kernel
theorem dX9_withLinks_25 : decode cX9_withLinks 25 = .ok (.iload 4, 2) := by decide +kernel
theorem dX9_withLinks_27 : decode cX9_withLinks 27 = .ok (.invokevirtual 313, 3) := by decide +kernel
theorem dX9_withLinks_30 : decode cX9_withLinks 30 = .ok (.i2l, 1) := by decide +kernel
theorem dX9_withLinks_31 : decode cX9_withLinks 31 = .ok (.invokestatic 289, 3) := by decide +kernel
theorem dX9_withLinks_34 : decode cX9_withLinks 34 = .ok (.lstore_n 1, 1) := by decide +kernel
theorem dX9_withLinks_35 : decode cX9_withLinks 35 = .ok (.iinc 4 1, 3) := by decide +kernel
theorem dX9_withLinks_38 : decode cX9_withLinks 38 = .ok (.goto (-22), 3) := by decide +kernel
theorem dX9_withLinks_41 : decode cX9_withLinks 41 = .ok (.lload_n 1, 1) := by decide +kernel
theorem dX9_withLinks_42 : decode cX9_withLinks 42 = .ok (.aload_n 0, 1) := by decide +kernel
theorem dX9_withLinks_43 : decode cX9_withLinks 43 = .ok (.getfield 35, 3) := by decide +kernel
theorem dX9_withLinks_46 : decode cX9_withLinks 46 = .ok (.iload_n 3, 1) := by decide +kernel
theorem dX9_withLinks_47 : decode cX9_withLinks 47 = .ok (.invokevirtual 162, 3) := by decide +kernel
theorem dX9_withLinks_50 : decode cX9_withLinks 50 = .ok (.i2l, 1) := by decide +kernel
theorem dX9_withLinks_51 : decode cX9_withLinks 51 = .ok (.invokestatic 289, 3) := by decide +kernel
theorem dX9_withLinks_54 : decode cX9_withLinks 54 = .ok (.lstore_n 1, 1) := by decide +kernel
theorem dX9_withLinks_55 : decode cX9_withLinks 55 = .ok (.aload_n 0, 1) := by decide +kernel
theorem dX9_withLinks_56 : decode cX9_withLinks 56 = .ok (.lload_n 1, 1) := by decide +kernel
theorem dX9_withLinks_57 : decode cX9_withLinks 57 = .ok (.aload_n 0, 1) := by decide +kernel
theorem dX9_withLinks_58 : decode cX9_withLinks 58 = .ok (.getfield 21, 3) := by decide +kernel
theorem dX9_withLinks_61 : decode cX9_withLinks 61 = .ok (.iload_n 3, 1) := by decide +kernel
theorem dX9_withLinks_62 : decode cX9_withLinks 62 = .ok (.invokevirtual 189, 3) := by decide +kernel
theorem dX9_withLinks_65 : decode cX9_withLinks 65 = .ok (.invokevirtual 316, 3) := by decide +kernel
theorem dX9_withLinks_68 : decode cX9_withLinks 68 = .ok (.lstore_n 1, 1) := by decide +kernel
theorem dX9_withLinks_69 : decode cX9_withLinks 69 = .ok (.iinc 3 1, 3) := by decide +kernel
theorem dX9_withLinks_72 : decode cX9_withLinks 72 = .ok (.goto (-70), 3) := by decide +kernel
theorem dX9_withLinks_75 : decode cX9_withLinks 75 = .ok (.lload_n 1, 1) := by decide +kernel
theorem dX9_withLinks_76 : decode cX9_withLinks 76 = .ok (.lreturn, 1) := by decide +kernel
theorem dX9_withChances_0 : decode cX9_withChances 0 = .ok (.aload_n 0, 1) := by decide +kernel
theorem dX9_withChances_1 : decode cX9_withChances 1 = .ok (.lload_n 1, 1) := by decide +kernel
theorem dX9_withChances_2 : decode cX9_withChances 2 = .ok (.aload_n 0, 1) := by decide +kernel
theorem dX9_withChances_3 : decode cX9_withChances 3 = .ok (.getfield 21, 3) := by decide +kernel
theorem dX9_withChances_6 : decode cX9_withChances 6 = .ok (.invokevirtual 149, 3) := by decide +kernel
theorem dX9_withChances_9 : decode cX9_withChances 9 = .ok (.invokevirtual 316, 3) := by decide +kernel
theorem dX9_withChances_12 : decode cX9_withChances 12 = .ok (.lstore_n 1, 1) := by decide +kernel
theorem dX9_withChances_13 : decode cX9_withChances 13 = .ok (.iconst 0, 1) := by decide +kernel
theorem dX9_withChances_14 : decode cX9_withChances 14 = .ok (.istore_n 3, 1) := by decide +kernel
theorem dX9_withChances_15 : decode cX9_withChances 15 = .ok (.iload_n 3, 1) := by decide +kernel
theorem dX9_withChances_16 : decode cX9_withChances 16 = .ok (.iconst 4, 1) := by decide +kernel
theorem dX9_withChances_17 : decode cX9_withChances 17 = .ok (.if_icmp .gt 22, 3) := by decide +kernel
theorem dX9_withChances_20 : decode cX9_withChances 20 = .ok (.lload_n 1, 1) := by decide +kernel
theorem dX9_withChances_21 : decode cX9_withChances 21 = .ok (.aload_n 0, 1) := by decide +kernel
theorem dX9_withChances_22 : decode cX9_withChances 22 = .ok (.getfield 42, 3) := by decide +kernel
theorem dX9_withChances_25 : decode cX9_withChances 25 = .ok (.iload_n 3, 1) := by decide +kernel
theorem dX9_withChances_26 : decode cX9_withChances 26 = .ok (.invokevirtual 160, 3) := by decide +kernel
theorem dX9_withChances_29 : decode cX9_withChances 29 = .ok (.invokestatic 289, 3) := by decide +kernel
theorem dX9_withChances_32 : decode cX9_withChances 32 = .ok (.lstore_n 1, 1) := by decide +kernel
theorem dX9_withChances_33 : decode cX9_withChances 33 = .ok (.iinc 3 1, 3) := by decide +kernel
theorem dX9_withChances_36 : decode cX9_withChances 36 = .ok (.goto (-21), 3) := by decide +kernel
theorem dX9_withChances_39 : decode cX9_withChances 39 = .ok (.lload_n 1, 1) := by decide +kernel
theorem dX9_withChances_40 : decode cX9_withChances 40 = .ok (.aload_n 0, 1) := by decide +kernel
theorem dX9_withChances_41 : decode cX9_withChances 41 = .ok (.getfield 35, 3) := by decide +kernel
theorem dX9_withChances_44 : decode cX9_withChances 44 = .ok (.invokevirtual 165, 3) := by decide +kernel
theorem dX9_withChances_47 : decode cX9_withChances 47 = .ok (.i2l, 1) := by decide +kernel
theorem dX9_withChances_48 : decode cX9_withChances 48 = .ok (.invokestatic 289, 3) := by decide +kernel
theorem dX9_withChances_51 : decode cX9_withChances 51 = .ok (.lstore_n 1, 1) := by decide +kernel
theorem dX9_withChances_52 : decode cX9_withChances 52 = .ok (.aload_n 0, 1) := by decide +kernel
theorem dX9_withChances_53 : decode cX9_withChances 53 = .ok (.lload_n 1, 1) := by decide +kernel
theorem dX9_withChances_54 : decode cX9_withChances 54 = .ok (.aload_n 0, 1) := by decide +kernel
theorem dX9_withChances_55 : decode cX9_withChances 55 = .ok (.getfield 21, 3) := by decide +kernel
theorem dX9_withChances_58 : decode cX9_withChances 58 = .ok (.invokevirtual 172, 3) := by decide +kernel
theorem dX9_withChances_61 : decode cX9_withChances 61 = .ok (.invokevirtual 316, 3) := by decide +kernel
theorem dX9_withChances_64 : decode cX9_withChances 64 = .ok (.lreturn, 1) := by decide +kernel
theorem dX9_withSets_0 : decode cX9_withSets 0 = .ok (.iconst 0, 1) := by decide +kernel
theorem dX9_withSets_1 : decode cX9_withSets 1 = .ok (.istore_n 3, 1) := by decide +kernel
theorem dX9_withSets_2 : decode cX9_withSets 2 = .ok (.iload_n 3, 1) := by decide +kernel
theorem dX9_withSets_3 : decode cX9_withSets 3 = .ok (.aload_n 0, 1) := by decide +kernel
theorem dX9_withSets_4 : decode cX9_withSets 4 = .ok (.getfield 12, 3) := by decide +kernel
theorem dX9_withSets_7 : decode cX9_withSets 7 = .ok (.invokevirtual 80, 3) := by decide +kernel
theorem dX9_withSets_10 : decode cX9_withSets 10 = .ok (.if_icmp .gt 23, 3) := by decide +kernel
theorem dX9_withSets_13 : decode cX9_withSets 13 = .ok (.lload_n 1, 1) := by decide +kernel
theorem dX9_withSets_14 : decode cX9_withSets 14 = .ok (.aload_n 0, 1) := by decide +kernel
theorem dX9_withSets_15 : decode cX9_withSets 15 = .ok (.getfield 28, 3) := by decide +kernel
theorem dX9_withSets_18 : decode cX9_withSets 18 = .ok (.iload_n 3, 1) := by decide +kernel
theorem dX9_withSets_19 : decode cX9_withSets 19 = .ok (.invokevirtual 176, 3) := by decide +kernel
theorem dX9_withSets_22 : decode cX9_withSets 22 = .ok (.i2l, 1) := by decide +kernel
theorem dX9_withSets_23 : decode cX9_withSets 23 = .ok (.invokestatic 289, 3) := by decide +kernel
theorem dX9_withSets_26 : decode cX9_withSets 26 = .ok (.lstore_n 1, 1) := by decide +kernel
theorem dX9_withSets_27 : decode cX9_withSets 27 = .ok (.iinc 3 1, 3) := by decide +kernel
theorem dX9_withSets_30 : decode cX9_withSets 30 = .ok (.goto (-28), 3) := by decide +kernel
theorem dX9_withSets_33 : decode cX9_withSets 33 = .ok (.lload_n 1, 1) := by decide +kernel
theorem dX9_withSets_34 : decode cX9_withSets 34 = .ok (.aload_n 0, 1) := by decide +kernel
theorem dX9_withSets_35 : decode cX9_withSets 35 = .ok (.iconst 1, 1) := by decide +kernel
theorem dX9_withSets_36 : decode cX9_withSets 36 = .ok (.iconst 2, 1) := by decide +kernel
theorem dX9_withSets_37 : decode cX9_withSets 37 = .ok (.iconst 0, 1) := by decide +kernel
theorem dX9_withSets_38 : decode cX9_withSets 38 = .ok (.invokevirtual 179, 3) := by decide +kernel
theorem dX9_withSets_41 : decode cX9_withSets 41 = .ok (.invokestatic 289, 3) := by decide +kernel
theorem dX9_withSets_44 : decode cX9_withSets 44 = .ok (.lstore_n 1, 1) := by decide +kernel
theorem dX9_withSets_45 : decode cX9_withSets 45 = .ok (.lload_n 1, 1) := by decide +kernel
theorem dX9_withSets_46 : decode cX9_withSets 46 = .ok (.aload_n 0, 1) := by decide +kernel
theorem dX9_withSets_47 : decode cX9_withSets 47 = .ok (.iconst 1, 1) := by decide +kernel
theorem dX9_withSets_48 : decode cX9_withSets 48 = .ok (.iconst 2, 1) := by decide +kernel
theorem dX9_withSets_49 : decode cX9_withSets 49 = .ok (.iconst 1, 1) := by decide +kernel
theorem dX9_withSets_50 : decode cX9_withSets 50 = .ok (.invokevirtual 179, 3) := by decide +kernel
theorem dX9_withSets_53 : decode cX9_withSets 53 = .ok (.invokestatic 289, 3) := by decide +kernel
theorem dX9_withSets_56 : decode cX9_withSets 56 = .ok (.lstore_n 1, 1) := by decide +kernel
theorem dX9_withSets_57 : decode cX9_withSets 57 = .ok (.lload_n 1, 1) := by decide +kernel
theorem dX9_withSets_58 : decode cX9_withSets 58 = .ok (.aload_n 0, 1) := by decide +kernel
theorem dX9_withSets_59 : decode cX9_withSets 59 = .ok (.bipush 9, 2) := by decide +kernel
theorem dX9_withSets_61 : decode cX9_withSets 61 = .ok (.bipush 10, 2) := by decide +kernel
theorem dX9_withSets_63 : decode cX9_withSets 63 = .ok (.iconst 0, 1) := by decide +kernel
theorem dX9_withSets_64 : decode cX9_withSets 64 = .ok (.invokevirtual 179, 3) := by decide +kernel
theorem dX9_withSets_67 : decode cX9_withSets 67 = .ok (.invokestatic 289, 3) := by decide +kernel
theorem dX9_withSets_70 : decode cX9_withSets 70 = .ok (.lstore_n 1, 1) := by decide +kernel
theorem dX9_withSets_71 : decode cX9_withSets 71 = .ok (.lload_n 1, 1) := by decide +kernel
theorem dX9_withSets_72 : decode cX9_withSets 72 = .ok (.aload_n 0, 1) := by decide +kernel
theorem dX9_withSets_73 : decode cX9_withSets 73 = .ok (.getfield 28, 3) := by decide +kernel
theorem dX9_withSets_76 : decode cX9_withSets 76 = .ok (.invokevirtual 183, 3) := by decide +kernel
theorem dX9_withSets_79 : decode cX9_withSets 79 = .ok (.i2l, 1) := by decide +kernel
theorem dX9_withSets_80 : decode cX9_withSets 80 = .ok (.invokestatic 289, 3) := by decide +kernel
theorem dX9_withSets_83 : decode cX9_withSets 83 = .ok (.lstore_n 1, 1) := by decide +kernel
theorem dX9_withSets_84 : decode cX9_withSets 84 = .ok (.lload_n 1, 1) := by decide +kernel
theorem dX9_withSets_85 : decode cX9_withSets 85 = .ok (.aload_n 0, 1) := by decide +kernel
theorem dX9_withSets_86 : decode cX9_withSets 86 = .ok (.getfield 28, 3) := by decide +kernel
theorem dX9_withSets_89 : decode cX9_withSets 89 = .ok (.invokevirtual 186, 3) := by decide +kernel
theorem dX9_withSets_92 : decode cX9_withSets 92 = .ok (.i2l, 1) := by decide +kernel
theorem dX9_withSets_93 : decode cX9_withSets 93 = .ok (.invokestatic 289, 3) := by decide +kernel
theorem dX9_withSets_96 : decode cX9_withSets 96 = .ok (.lreturn, 1) := by decide +kernel
theorem dX9_withPairs_0 : decode cX9_withPairs 0 = .ok (.iconst 0, 1) := by decide +kernel
theorem dX9_withPairs_1 : decode cX9_withPairs 1 = .ok (.istore_n 3, 1) := by decide +kernel
theorem dX9_withPairs_2 : decode cX9_withPairs 2 = .ok (.iload_n 3, 1) := by decide +kernel
theorem dX9_withPairs_3 : decode cX9_withPairs 3 = .ok (.aload_n 0, 1) := by decide +kernel
theorem dX9_withPairs_4 : decode cX9_withPairs 4 = .ok (.getfield 12, 3) := by decide +kernel
theorem dX9_withPairs_7 : decode cX9_withPairs 7 = .ok (.invokevirtual 60, 3) := by decide +kernel
theorem dX9_withPairs_10 : decode cX9_withPairs 10 = .ok (.if_icmp .ge 48, 3) := by decide +kernel
theorem dX9_withPairs_13 : decode cX9_withPairs 13 = .ok (.iload_n 3, 1) := by decide +kernel
theorem dX9_withPairs_14 : decode cX9_withPairs 14 = .ok (.iconst 1, 1) := by decide +kernel
theorem dX9_withPairs_15 : decode cX9_withPairs 15 = .ok (.iadd, 1) := by decide +kernel
theorem dX9_withPairs_16 : decode cX9_withPairs 16 = .ok (.istore 4, 2) := by decide +kernel
theorem dX9_withPairs_18 : decode cX9_withPairs 18 = .ok (.iload 4, 2) := by decide +kernel
theorem dX9_withPairs_20 : decode cX9_withPairs 20 = .ok (.aload_n 0, 1) := by decide +kernel
theorem dX9_withPairs_21 : decode cX9_withPairs 21 = .ok (.getfield 12, 3) := by decide +kernel
theorem dX9_withPairs_24 : decode cX9_withPairs 24 = .ok (.invokevirtual 60, 3) := by decide +kernel
theorem dX9_withPairs_27 : decode cX9_withPairs 27 = .ok (.if_icmp .ge 25, 3) := by decide +kernel
theorem dX9_withPairs_30 : decode cX9_withPairs 30 = .ok (.aload_n 0, 1) := by decide +kernel
theorem dX9_withPairs_31 : decode cX9_withPairs 31 = .ok (.lload_n 1, 1) := by decide +kernel
theorem dX9_withPairs_32 : decode cX9_withPairs 32 = .ok (.aload_n 0, 1) := by decide +kernel
theorem dX9_withPairs_33 : decode cX9_withPairs 33 = .ok (.getfield 21, 3) := by decide +kernel
theorem dX9_withPairs_36 : decode cX9_withPairs 36 = .ok (.iload_n 3, 1) := by decide +kernel
theorem dX9_withPairs_37 : decode cX9_withPairs 37 = .ok (.iload 4, 2) := by decide +kernel
theorem dX9_withPairs_39 : decode cX9_withPairs 39 = .ok (.invokevirtual 168, 3) := by decide +kernel
theorem dX9_withPairs_42 : decode cX9_withPairs 42 = .ok (.invokevirtual 316, 3) := by decide +kernel
theorem dX9_withPairs_45 : decode cX9_withPairs 45 = .ok (.lstore_n 1, 1) := by decide +kernel
theorem dX9_withPairs_46 : decode cX9_withPairs 46 = .ok (.iinc 4 1, 3) := by decide +kernel
theorem dX9_withPairs_49 : decode cX9_withPairs 49 = .ok (.goto (-31), 3) := by decide +kernel
theorem dX9_withPairs_52 : decode cX9_withPairs 52 = .ok (.iinc 3 1, 3) := by decide +kernel
theorem dX9_withPairs_55 : decode cX9_withPairs 55 = .ok (.goto (-53), 3) := by decide +kernel
theorem dX9_withPairs_58 : decode cX9_withPairs 58 = .ok (.lload_n 1, 1) := by decide +kernel
theorem dX9_withPairs_59 : decode cX9_withPairs 59 = .ok (.lreturn, 1) := by decide +kernel
theorem dX10_init_0 : decode cX10_init 0 = .ok (.aload_n 0, 1) := by decide +kernel
theorem dX10_init_1 : decode cX10_init 1 = .ok (.invokespecial 1, 3) := by decide +kernel
theorem dX10_init_4 : decode cX10_init 4 = .ok (.aload_n 0, 1) := by decide +kernel
theorem dX10_init_5 : decode cX10_init 5 = .ok (.iconst 3, 1) := by decide +kernel
theorem dX10_init_6 : decode cX10_init 6 = .ok (.newarray .int, 2) := by decide +kernel
theorem dX10_init_8 : decode cX10_init 8 = .ok (.putfield 7, 3) := by decide +kernel
theorem dX10_init_11 : decode cX10_init 11 = .ok (.aload_n 0, 1) := by decide +kernel
theorem dX10_init_12 : decode cX10_init 12 = .ok (.bipush 120, 2) := by decide +kernel
theorem dX10_init_14 : decode cX10_init 14 = .ok (.newarray .long, 2) := by decide +kernel
theorem dX10_init_16 : decode cX10_init 16 = .ok (.putfield 13, 3) := by decide +kernel
theorem dX10_init_19 : decode cX10_init 19 = .ok (.aload_n 0, 1) := by decide +kernel
theorem dX10_init_20 : decode cX10_init 20 = .ok (.bipush 40, 2) := by decide +kernel
theorem dX10_init_22 : decode cX10_init 22 = .ok (.newarray .long, 2) := by decide +kernel
theorem dX10_init_24 : decode cX10_init 24 = .ok (.putfield 17, 3) := by decide +kernel
theorem dX10_init_27 : decode cX10_init 27 = .ok (.aload_n 0, 1) := by decide +kernel
theorem dX10_init_28 : decode cX10_init 28 = .ok (.bipush 10, 2) := by decide +kernel
theorem dX10_init_30 : decode cX10_init 30 = .ok (.newarray .int, 2) := by decide +kernel
theorem dX10_init_32 : decode cX10_init 32 = .ok (.putfield 20, 3) := by decide +kernel
theorem dX10_init_35 : decode cX10_init 35 = .ok (.aload_n 0, 1) := by decide +kernel
theorem dX10_init_36 : decode cX10_init 36 = .ok (.bipush 10, 2) := by decide +kernel
theorem dX10_init_38 : decode cX10_init 38 = .ok (.newarray .int, 2) := by decide +kernel
theorem dX10_init_40 : decode cX10_init 40 = .ok (.putfield 23, 3) := by decide +kernel
theorem dX10_init_43 : decode cX10_init 43 = .ok (.aload_n 0, 1) := by decide +kernel
theorem dX10_init_44 : decode cX10_init 44 = .ok (.bipush 10, 2) := by decide +kernel
theorem dX10_init_46 : decode cX10_init 46 = .ok (.newarray .int, 2) := by decide +kernel
theorem dX10_init_48 : decode cX10_init 48 = .ok (.putfield 26, 3) := by decide +kernel
theorem dX10_init_51 : decode cX10_init 51 = .ok (.aload_n 0, 1) := by decide +kernel
theorem dX10_init_52 : decode cX10_init 52 = .ok (.bipush 10, 2) := by decide +kernel
theorem dX10_init_54 : decode cX10_init 54 = .ok (.newarray .int, 2) := by decide +kernel
theorem dX10_init_56 : decode cX10_init 56 = .ok (.putfield 29, 3) := by decide +kernel
theorem dX10_init_59 : decode cX10_init 59 = .ok (.aload_n 0, 1) := by decide +kernel
theorem dX10_init_60 : decode cX10_init 60 = .ok (.bipush 10, 2) := by decide +kernel
theorem dX10_init_62 : decode cX10_init 62 = .ok (.newarray .int, 2) := by decide +kernel
theorem dX10_init_64 : decode cX10_init 64 = .ok (.putfield 32, 3) := by decide +kernel
theorem dX10_init_67 : decode cX10_init 67 = .ok (.aload_n 0, 1) := by decide +kernel
theorem dX10_init_68 : decode cX10_init 68 = .ok (.bipush 10, 2) := by decide +kernel
theorem dX10_init_70 : decode cX10_init 70 = .ok (.newarray .int, 2) := by decide +kernel
theorem dX10_init_72 : decode cX10_init 72 = .ok (.putfield 35, 3) := by decide +kernel
theorem dX10_init_75 : decode cX10_init 75 = .ok (.aload_n 0, 1) := by decide +kernel
theorem dX10_init_76 : decode cX10_init 76 = .ok (.bipush 10, 2) := by decide +kernel
theorem dX10_init_78 : decode cX10_init 78 = .ok (.newarray .int, 2) := by decide +kernel
theorem dX10_init_80 : decode cX10_init 80 = .ok (.putfield 38, 3) := by decide +kernel
theorem dX10_init_83 : decode cX10_init 83 = .ok (.aload_n 0, 1) := by decide +kernel
theorem dX10_init_84 : decode cX10_init 84 = .ok (.sipush 1024, 3) := by decide +kernel
theorem dX10_init_87 : decode cX10_init 87 = .ok (.newarray .int, 2) := by decide +kernel
theorem dX10_init_89 : decode cX10_init 89 = .ok (.putfield 41, 3) := by decide +kernel
theorem dX10_init_92 : decode cX10_init 92 = .ok (.aload_n 0, 1) := by decide +kernel
theorem dX10_init_93 : decode cX10_init 93 = .ok (.bipush 120, 2) := by decide +kernel
theorem dX10_init_95 : decode cX10_init 95 = .ok (.newarray .int, 2) := by decide +kernel
theorem dX10_init_97 : decode cX10_init 97 = .ok (.putfield 44, 3) := by decide +kernel
theorem dX10_init_100 : decode cX10_init 100 = .ok (.aload_n 0, 1) := by decide +kernel
theorem dX10_init_101 : decode cX10_init 101 = .ok (.bipush 120, 2) := by decide +kernel
theorem dX10_init_103 : decode cX10_init 103 = .ok (.newarray .int, 2) := by decide +kernel
theorem dX10_init_105 : decode cX10_init 105 = .ok (.putfield 47, 3) := by decide +kernel
theorem dX10_init_108 : decode cX10_init 108 = .ok (.aload_n 0, 1) := by decide +kernel
theorem dX10_init_109 : decode cX10_init 109 = .ok (.bipush 120, 2) := by decide +kernel
theorem dX10_init_111 : decode cX10_init 111 = .ok (.newarray .int, 2) := by decide +kernel
theorem dX10_init_113 : decode cX10_init 113 = .ok (.putfield 50, 3) := by decide +kernel
theorem dX10_init_116 : decode cX10_init 116 = .ok (.aload_n 0, 1) := by decide +kernel
theorem dX10_init_117 : decode cX10_init 117 = .ok (.bipush 12, 2) := by decide +kernel
theorem dX10_init_119 : decode cX10_init 119 = .ok (.newarray .int, 2) := by decide +kernel
theorem dX10_init_121 : decode cX10_init 121 = .ok (.putfield 53, 3) := by decide +kernel
theorem dX10_init_124 : decode cX10_init 124 = .ok (.aload_n 0, 1) := by decide +kernel
theorem dX10_init_125 : decode cX10_init 125 = .ok (.bipush 12, 2) := by decide +kernel
theorem dX10_init_127 : decode cX10_init 127 = .ok (.newarray .int, 2) := by decide +kernel
theorem dX10_init_129 : decode cX10_init 129 = .ok (.putfield 56, 3) := by decide +kernel
theorem dX10_init_132 : decode cX10_init 132 = .ok (.aload_n 0, 1) := by decide +kernel
theorem dX10_init_133 : decode cX10_init 133 = .ok (.bipush 12, 2) := by decide +kernel
theorem dX10_init_135 : decode cX10_init 135 = .ok (.newarray .int, 2) := by decide +kernel
theorem dX10_init_137 : decode cX10_init 137 = .ok (.putfield 59, 3) := by decide +kernel
theorem dX10_init_140 : decode cX10_init 140 = .ok (.aload_n 0, 1) := by decide +kernel
theorem dX10_init_141 : decode cX10_init 141 = .ok (.bipush 60, 2) := by decide +kernel
theorem dX10_init_143 : decode cX10_init 143 = .ok (.newarray .int, 2) := by decide +kernel
theorem dX10_init_145 : decode cX10_init 145 = .ok (.putfield 62, 3) := by decide +kernel
theorem dX10_init_148 : decode cX10_init 148 = .ok (.aload_n 0, 1) := by decide +kernel
theorem dX10_init_149 : decode cX10_init 149 = .ok (.bipush 10, 2) := by decide +kernel
theorem dX10_init_151 : decode cX10_init 151 = .ok (.newarray .int, 2) := by decide +kernel
theorem dX10_init_153 : decode cX10_init 153 = .ok (.putfield 65, 3) := by decide +kernel
theorem dX10_init_156 : decode cX10_init 156 = .ok (.aload_n 0, 1) := by decide +kernel
theorem dX10_init_157 : decode cX10_init 157 = .ok (.iconst 4, 1) := by decide +kernel
theorem dX10_init_158 : decode cX10_init 158 = .ok (.putfield 68, 3) := by decide +kernel
theorem dX10_init_161 : decode cX10_init 161 = .ok (.iconst 0, 1) := by decide +kernel
theorem dX10_init_162 : decode cX10_init 162 = .ok (.istore_n 1, 1) := by decide +kernel
theorem dX10_init_163 : decode cX10_init 163 = .ok (.iload_n 1, 1) := by decide +kernel
theorem dX10_init_164 : decode cX10_init 164 = .ok (.iconst 3, 1) := by decide +kernel
theorem dX10_init_165 : decode cX10_init 165 = .ok (.if_icmp .ge 16, 3) := by decide +kernel
theorem dX10_init_168 : decode cX10_init 168 = .ok (.aload_n 0, 1) := by decide +kernel
theorem dX10_init_169 : decode cX10_init 169 = .ok (.getfield 7, 3) := by decide +kernel
theorem dX10_init_172 : decode cX10_init 172 = .ok (.iload_n 1, 1) := by decide +kernel
theorem dX10_init_173 : decode cX10_init 173 = .ok (.iconst (-1), 1) := by decide +kernel
theorem dX10_init_174 : decode cX10_init 174 = .ok (.iastore, 1) := by decide +kernel
theorem dX10_init_175 : decode cX10_init 175 = .ok (.iinc 1 1, 3) := by decide +kernel
theorem dX10_init_178 : decode cX10_init 178 = .ok (.goto (-15), 3) := by decide +kernel
theorem dX10_init_181 : decode cX10_init 181 = .ok (.return_, 1) := by decide +kernel
theorem dX10_in_0 : decode cX10_in 0 = .ok (.lload_n 0, 1) := by decide +kernel
theorem dX10_in_1 : decode cX10_in 1 = .ok (.lload_n 2, 1) := by decide +kernel
theorem dX10_in_2 : decode cX10_in 2 = .ok (.lcmp, 1) := by decide +kernel
theorem dX10_in_3 : decode cX10_in 3 = .ok (.ifCond .lt 14, 3) := by decide +kernel
theorem dX10_in_6 : decode cX10_in 6 = .ok (.lload_n 0, 1) := by decide +kernel
theorem dX10_in_7 : decode cX10_in 7 = .ok (.lload 4, 2) := by decide +kernel
theorem dX10_in_9 : decode cX10_in 9 = .ok (.lcmp, 1) := by decide +kernel
theorem dX10_in_10 : decode cX10_in 10 = .ok (.ifCond .gt 7, 3) := by decide +kernel
theorem dX10_in_13 : decode cX10_in 13 = .ok (.iconst 1, 1) := by decide +kernel
theorem dX10_in_14 : decode cX10_in 14 = .ok (.goto 4, 3) := by decide +kernel
theorem dX10_in_17 : decode cX10_in 17 = .ok (.iconst 0, 1) := by decide +kernel
theorem dX10_in_18 : decode cX10_in 18 = .ok (.ireturn, 1) := by decide +kernel
theorem dX10_isTwo_0 : decode cX10_isTwo 0 = .ok (.iload_n 0, 1) := by decide +kernel
theorem dX10_isTwo_1 : decode cX10_isTwo 1 = .ok (.i2l, 1) := by decide +kernel
theorem dX10_isTwo_2 : decode cX10_isTwo 2 = .ok (.lconst 0, 1) := by decide +kernel
theorem dX10_isTwo_3 : decode cX10_isTwo 3 = .ok (.lconst 1, 1) := by decide +kernel
theorem dX10_isTwo_4 : decode cX10_isTwo 4 = .ok (.invokestatic 72, 3) := by decide +kernel
theorem dX10_isTwo_7 : decode cX10_isTwo 7 = .ok (.ireturn, 1) := by decide +kernel
theorem dX10_no_0 : decode cX10_no 0 = .ok (.ldc2_w 76, 3) := by decide +kernel
theorem dX10_no_3 : decode cX10_no 3 = .ok (.iload_n 0, 1) := by decide +kernel
theorem dX10_no_4 : decode cX10_no 4 = .ok (.i2l, 1) := by decide +kernel
theorem dX10_no_5 : decode cX10_no 5 = .ok (.lsub, 1) := by decide +kernel
theorem dX10_no_6 : decode cX10_no 6 = .ok (.lreturn, 1) := by decide +kernel
theorem dX10_bitsIn_0 : decode cX10_bitsIn 0 = .ok (.iconst 0, 1) := by decide +kernel
theorem dX10_bitsIn_1 : decode cX10_bitsIn 1 = .ok (.istore_n 1, 1) := by decide +kernel
theorem dX10_bitsIn_2 : decode cX10_bitsIn 2 = .ok (.iconst 0, 1) := by decide +kernel
theorem dX10_bitsIn_3 : decode cX10_bitsIn 3 = .ok (.istore_n 2, 1) := by decide +kernel
theorem dX10_bitsIn_4 : decode cX10_bitsIn 4 = .ok (.iload_n 2, 1) := by decide +kernel
theorem dX10_bitsIn_5 : decode cX10_bitsIn 5 = .ok (.bipush 10, 2) := by decide +kernel
theorem dX10_bitsIn_7 : decode cX10_bitsIn 7 = .ok (.if_icmp .ge 17, 3) := by decide +kernel
theorem dX10_bitsIn_10 : decode cX10_bitsIn 10 = .ok (.iload_n 1, 1) := by decide +kernel
theorem dX10_bitsIn_11 : decode cX10_bitsIn 11 = .ok (.iload_n 0, 1) := by decide +kernel
theorem dX10_bitsIn_12 : decode cX10_bitsIn 12 = .ok (.iload_n 2, 1) := by decide +kernel
theorem dX10_bitsIn_13 : decode cX10_bitsIn 13 = .ok (.ishr, 1) := by decide +kernel
theorem dX10_bitsIn_14 : decode cX10_bitsIn 14 = .ok (.iconst 1, 1) := by decide +kernel
theorem dX10_bitsIn_15 : decode cX10_bitsIn 15 = .ok (.iand, 1) := by decide +kernel
theorem dX10_bitsIn_16 : decode cX10_bitsIn 16 = .ok (.iadd, 1) := by decide +kernel
theorem dX10_bitsIn_17 : decode cX10_bitsIn 17 = .ok (.istore_n 1, 1) := by decide +kernel
theorem dX10_bitsIn_18 : decode cX10_bitsIn 18 = .ok (.iinc 2 1, 3) := by decide +kernel
theorem dX10_bitsIn_21 : decode cX10_bitsIn 21 = .ok (.goto (-17), 3) := by decide +kernel
theorem dX10_bitsIn_24 : decode cX10_bitsIn 24 = .ok (.iload_n 1, 1) := by decide +kernel
theorem dX10_bitsIn_25 : decode cX10_bitsIn 25 = .ok (.ireturn, 1) := by decide +kernel
theorem dX10_divisor_0 : decode cX10_divisor 0 = .ok (.lload_n 0, 1) := by decide +kernel
theorem dX10_divisor_1 : decode cX10_divisor 1 = .ok (.lconst 0, 1) := by decide +kernel
theorem dX10_divisor_2 : decode cX10_divisor 2 = .ok (.lcmp, 1) := by decide +kernel
theorem dX10_divisor_3 : decode cX10_divisor 3 = .ok (.ifCond .ge 9, 3) := by decide +kernel
theorem dX10_divisor_6 : decode cX10_divisor 6 = .ok (.lconst 0, 1) := by decide +kernel
theorem dX10_divisor_7 : decode cX10_divisor 7 = .ok (.lload_n 0, 1) := by decide +kernel
theorem dX10_divisor_8 : decode cX10_divisor 8 = .ok (.lsub, 1) := by decide +kernel
theorem dX10_divisor_9 : decode cX10_divisor 9 = .ok (.goto 4, 3) := by decide +kernel
theorem dX10_divisor_12 : decode cX10_divisor 12 = .ok (.lload_n 0, 1) := by decide +kernel
theorem dX10_divisor_13 : decode cX10_divisor 13 = .ok (.lstore 4, 2) := by decide +kernel
theorem dX10_divisor_15 : decode cX10_divisor 15 = .ok (.lload_n 2, 1) := by decide +kernel
theorem dX10_divisor_16 : decode cX10_divisor 16 = .ok (.lstore 6, 2) := by decide +kernel
theorem dX10_divisor_18 : decode cX10_divisor 18 = .ok (.iconst 0, 1) := by decide +kernel
theorem dX10_divisor_19 : decode cX10_divisor 19 = .ok (.istore 8, 2) := by decide +kernel
theorem dX10_divisor_21 : decode cX10_divisor 21 = .ok (.iload 8, 2) := by decide +kernel
theorem dX10_divisor_23 : decode cX10_divisor 23 = .ok (.sipush 200, 3) := by decide +kernel
theorem dX10_divisor_26 : decode cX10_divisor 26 = .ok (.if_icmp .ge 31, 3) := by decide +kernel
theorem dX10_divisor_29 : decode cX10_divisor 29 = .ok (.lload 6, 2) := by decide +kernel
theorem dX10_divisor_31 : decode cX10_divisor 31 = .ok (.lconst 0, 1) := by decide +kernel
theorem dX10_divisor_32 : decode cX10_divisor 32 = .ok (.lcmp, 1) := by decide +kernel
theorem dX10_divisor_33 : decode cX10_divisor 33 = .ok (.ifCond .eq 24, 3) := by decide +kernel
theorem dX10_divisor_36 : decode cX10_divisor 36 = .ok (.lload 4, 2) := by decide +kernel
theorem dX10_divisor_38 : decode cX10_divisor 38 = .ok (.lload 6, 2) := by decide +kernel
theorem dX10_divisor_40 : decode cX10_divisor 40 = .ok (.lrem, 1) := by decide +kernel
theorem dX10_divisor_41 : decode cX10_divisor 41 = .ok (.lstore 9, 2) := by decide +kernel
theorem dX10_divisor_43 : decode cX10_divisor 43 = .ok (.lload 6, 2) := by decide +kernel
theorem dX10_divisor_45 : decode cX10_divisor 45 = .ok (.lstore 4, 2) := by decide +kernel
theorem dX10_divisor_47 : decode cX10_divisor 47 = .ok (.lload 9, 2) := by decide +kernel
theorem dX10_divisor_49 : decode cX10_divisor 49 = .ok (.lstore 6, 2) := by decide +kernel
theorem dX10_divisor_51 : decode cX10_divisor 51 = .ok (.iinc 8 1, 3) := by decide +kernel
theorem dX10_divisor_54 : decode cX10_divisor 54 = .ok (.goto (-33), 3) := by decide +kernel
theorem dX10_divisor_57 : decode cX10_divisor 57 = .ok (.lload 4, 2) := by decide +kernel
theorem dX10_divisor_59 : decode cX10_divisor 59 = .ok (.lreturn, 1) := by decide +kernel
theorem dX10_part_0 : decode cX10_part 0 = .ok (.iload 4, 2) := by decide +kernel
theorem dX10_part_2 : decode cX10_part 2 = .ok (.ifCond .ne 7, 3) := by decide +kernel
theorem dX10_part_5 : decode cX10_part 5 = .ok (.lload_n 0, 1) := by decide +kernel
theorem dX10_part_6 : decode cX10_part 6 = .ok (.goto 4, 3) := by decide +kernel
theorem dX10_part_9 : decode cX10_part 9 = .ok (.lload_n 2, 1) := by decide +kernel
theorem dX10_part_10 : decode cX10_part 10 = .ok (.lload_n 0, 1) := by decide +kernel
theorem dX10_part_11 : decode cX10_part 11 = .ok (.lload_n 2, 1) := by decide +kernel
theorem dX10_part_12 : decode cX10_part 12 = .ok (.invokestatic 78, 3) := by decide +kernel
theorem dX10_part_15 : decode cX10_part 15 = .ok (.ldiv, 1) := by decide +kernel
theorem dX10_part_16 : decode cX10_part 16 = .ok (.lreturn, 1) := by decide +kernel
theorem dX10_finds_0 : decode cX10_finds 0 = .ok (.aload_n 0, 1) := by decide +kernel
theorem dX10_finds_1 : decode cX10_finds 1 = .ok (.iload_n 1, 1) := by decide +kernel
theorem dX10_finds_2 : decode cX10_finds 2 = .ok (.putfield 82, 3) := by decide +kernel
theorem dX10_finds_5 : decode cX10_finds 5 = .ok (.bipush (-10), 2) := by decide +kernel
theorem dX10_finds_7 : decode cX10_finds 7 = .ok (.iload_n 1, 1) := by decide +kernel
theorem dX10_finds_8 : decode cX10_finds 8 = .ok (.isub, 1) := by decide +kernel
theorem dX10_finds_9 : decode cX10_finds 9 = .ok (.ireturn, 1) := by decide +kernel
theorem dX10_isSheet_0 : decode cX10_isSheet 0 = .ok (.iload_n 0, 1) := by decide +kernel
theorem dX10_isSheet_1 : decode cX10_isSheet 1 = .ok (.i2l, 1) := by decide +kernel
theorem dX10_isSheet_2 : decode cX10_isSheet 2 = .ok (.lconst 0, 1) := by decide +kernel
theorem dX10_isSheet_3 : decode cX10_isSheet 3 = .ok (.ldc2_w 85, 3) := by decide +kernel
theorem dX10_isSheet_6 : decode cX10_isSheet 6 = .ok (.invokestatic 72, 3) := by decide +kernel
theorem dX10_isSheet_9 : decode cX10_isSheet 9 = .ok (.ireturn, 1) := by decide +kernel
theorem dX10_sheet_0 : decode cX10_sheet 0 = .ok (.iload_n 1, 1) := by decide +kernel
theorem dX10_sheet_1 : decode cX10_sheet 1 = .ok (.invokestatic 87, 3) := by decide +kernel
theorem dX10_sheet_4 : decode cX10_sheet 4 = .ok (.ifCond .eq 9, 3) := by decide +kernel
theorem dX10_sheet_7 : decode cX10_sheet 7 = .ok (.iload_n 2, 1) := by decide +kernel
theorem dX10_sheet_8 : decode cX10_sheet 8 = .ok (.bipush 40, 2) := by decide +kernel
theorem dX10_sheet_10 : decode cX10_sheet 10 = .ok (.if_icmp .le 6, 3) := by decide +kernel
theorem dX10_sheet_13 : decode cX10_sheet 13 = .ok (.bipush (-2), 2) := by decide +kernel
theorem dX10_sheet_15 : decode cX10_sheet 15 = .ok (.ireturn, 1) := by decide +kernel
theorem dX10_sheet_16 : decode cX10_sheet 16 = .ok (.iload_n 2, 1) := by decide +kernel
theorem dX10_sheet_17 : decode cX10_sheet 17 = .ok (.ifCond .ge 9, 3) := by decide +kernel
theorem dX10_sheet_20 : decode cX10_sheet 20 = .ok (.aload_n 0, 1) := by decide +kernel
theorem dX10_sheet_21 : decode cX10_sheet 21 = .ok (.iconst 3, 1) := by decide +kernel
theorem dX10_sheet_22 : decode cX10_sheet 22 = .ok (.invokevirtual 91, 3) := by decide +kernel
theorem dX10_sheet_25 : decode cX10_sheet 25 = .ok (.ireturn, 1) := by decide +kernel
theorem dX10_sheet_26 : decode cX10_sheet 26 = .ok (.aload_n 0, 1) := by decide +kernel
theorem dX10_sheet_27 : decode cX10_sheet 27 = .ok (.getfield 7, 3) := by decide +kernel
theorem dX10_sheet_30 : decode cX10_sheet 30 = .ok (.iload_n 1, 1) := by decide +kernel
theorem dX10_sheet_31 : decode cX10_sheet 31 = .ok (.iload_n 2, 1) := by decide +kernel
theorem dX10_sheet_32 : decode cX10_sheet 32 = .ok (.iastore, 1) := by decide +kernel
theorem dX10_sheet_33 : decode cX10_sheet 33 = .ok (.iconst 0, 1) := by decide +kernel
theorem dX10_sheet_34 : decode cX10_sheet 34 = .ok (.istore_n 3, 1) := by decide +kernel
theorem dX10_sheet_35 : decode cX10_sheet 35 = .ok (.iload_n 3, 1) := by decide +kernel
theorem dX10_sheet_36 : decode cX10_sheet 36 = .ok (.iload_n 2, 1) := by decide +kernel
theorem dX10_sheet_37 : decode cX10_sheet 37 = .ok (.if_icmp .ge 21, 3) := by decide +kernel
theorem dX10_sheet_40 : decode cX10_sheet 40 = .ok (.aload_n 0, 1) := by decide +kernel
theorem dX10_sheet_41 : decode cX10_sheet 41 = .ok (.getfield 13, 3) := by decide +kernel
theorem dX10_sheet_44 : decode cX10_sheet 44 = .ok (.bipush 40, 2) := by decide +kernel
theorem dX10_sheet_46 : decode cX10_sheet 46 = .ok (.iload_n 1, 1) := by decide +kernel
theorem dX10_sheet_47 : decode cX10_sheet 47 = .ok (.imul, 1) := by decide +kernel
theorem dX10_sheet_48 : decode cX10_sheet 48 = .ok (.iload_n 3, 1) := by decide +kernel
theorem dX10_sheet_49 : decode cX10_sheet 49 = .ok (.iadd, 1) := by decide +kernel
theorem dX10_sheet_50 : decode cX10_sheet 50 = .ok (.lconst 0, 1) := by decide +kernel
theorem dX10_sheet_51 : decode cX10_sheet 51 = .ok (.lastore, 1) := by decide +kernel
theorem dX10_sheet_52 : decode cX10_sheet 52 = .ok (.iinc 3 1, 3) := by decide +kernel
theorem dX10_sheet_55 : decode cX10_sheet 55 = .ok (.goto (-20), 3) := by decide +kernel
theorem dX10_sheet_58 : decode cX10_sheet 58 = .ok (.iload_n 2, 1) := by decide +kernel
theorem dX10_sheet_59 : decode cX10_sheet 59 = .ok (.ireturn, 1) := by decide +kernel
theorem dX10_lose_0 : decode cX10_lose 0 = .ok (.iload_n 1, 1) := by decide +kernel
theorem dX10_lose_1 : decode cX10_lose 1 = .ok (.invokestatic 87, 3) := by decide +kernel
theorem dX10_lose_4 : decode cX10_lose 4 = .ok (.ifCond .ne 6, 3) := by decide +kernel
theorem dX10_lose_7 : decode cX10_lose 7 = .ok (.bipush (-2), 2) := by decide +kernel
theorem dX10_lose_9 : decode cX10_lose 9 = .ok (.ireturn, 1) := by decide +kernel
theorem dX10_lose_10 : decode cX10_lose 10 = .ok (.aload_n 0, 1) := by decide +kernel
theorem dX10_lose_11 : decode cX10_lose 11 = .ok (.getfield 7, 3) := by decide +kernel
theorem dX10_lose_14 : decode cX10_lose 14 = .ok (.iload_n 1, 1) := by decide +kernel
theorem dX10_lose_15 : decode cX10_lose 15 = .ok (.iaload, 1) := by decide +kernel
theorem dX10_lose_16 : decode cX10_lose 16 = .ok (.iconst (-1), 1) := by decide +kernel
theorem dX10_lose_17 : decode cX10_lose 17 = .ok (.if_icmp .ne 9, 3) := by decide +kernel
theorem dX10_lose_20 : decode cX10_lose 20 = .ok (.aload_n 0, 1) := by decide +kernel
theorem dX10_lose_21 : decode cX10_lose 21 = .ok (.iconst 1, 1) := by decide +kernel
theorem dX10_lose_22 : decode cX10_lose 22 = .ok (.invokevirtual 91, 3) := by decide +kernel
theorem dX10_lose_25 : decode cX10_lose 25 = .ok (.ireturn, 1) := by decide +kernel
theorem dX10_lose_26 : decode cX10_lose 26 = .ok (.aload_n 0, 1) := by decide +kernel
theorem dX10_lose_27 : decode cX10_lose 27 = .ok (.getfield 7, 3) := by decide +kernel
theorem dX10_lose_30 : decode cX10_lose 30 = .ok (.iload_n 1, 1) := by decide +kernel
theorem dX10_lose_31 : decode cX10_lose 31 = .ok (.iaload, 1) := by decide +kernel
theorem dX10_lose_32 : decode cX10_lose 32 = .ok (.istore_n 2, 1) := by decide +kernel
theorem dX10_lose_33 : decode cX10_lose 33 = .ok (.aload_n 0, 1) := by decide +kernel
theorem dX10_lose_34 : decode cX10_lose 34 = .ok (.getfield 7, 3) := by decide +kernel
theorem dX10_lose_37 : decode cX10_lose 37 = .ok (.iload_n 1, 1) := by decide +kernel
theorem dX10_lose_38 : decode cX10_lose 38 = .ok (.iconst (-1), 1) := by decide +kernel
theorem dX10_lose_39 : decode cX10_lose 39 = .ok (.iastore, 1) := by decide +kernel
theorem dX10_lose_40 : decode cX10_lose 40 = .ok (.iload_n 2, 1) := by decide +kernel
theorem dX10_lose_41 : decode cX10_lose 41 = .ok (.ireturn, 1) := by decide +kernel
theorem dX10_lacks_0 : decode cX10_lacks 0 = .ok (.aload_n 0, 1) := by decide +kernel
theorem dX10_lacks_1 : decode cX10_lacks 1 = .ok (.getfield 7, 3) := by decide +kernel
theorem dX10_lacks_4 : decode cX10_lacks 4 = .ok (.iload_n 1, 1) := by decide +kernel
theorem dX10_lacks_5 : decode cX10_lacks 5 = .ok (.iaload, 1) := by decide +kernel
theorem dX10_lacks_6 : decode cX10_lacks 6 = .ok (.iconst (-1), 1) := by decide +kernel
theorem dX10_lacks_7 : decode cX10_lacks 7 = .ok (.if_icmp .ne 11, 3) := by decide +kernel
theorem dX10_lacks_10 : decode cX10_lacks 10 = .ok (.aload_n 0, 1) := by decide +kernel
theorem dX10_lacks_11 : decode cX10_lacks 11 = .ok (.iconst 1, 1) := by decide +kernel
theorem dX10_lacks_12 : decode cX10_lacks 12 = .ok (.invokevirtual 91, 3) := by decide +kernel
theorem dX10_lacks_15 : decode cX10_lacks 15 = .ok (.goto 30, 3) := by decide +kernel
theorem dX10_lacks_18 : decode cX10_lacks 18 = .ok (.iload_n 2, 1) := by decide +kernel
theorem dX10_lacks_19 : decode cX10_lacks 19 = .ok (.i2l, 1) := by decide +kernel
theorem dX10_lacks_20 : decode cX10_lacks 20 = .ok (.lconst 0, 1) := by decide +kernel
theorem dX10_lacks_21 : decode cX10_lacks 21 = .ok (.aload_n 0, 1) := by decide +kernel
theorem dX10_lacks_22 : decode cX10_lacks 22 = .ok (.getfield 7, 3) := by decide +kernel
theorem dX10_lacks_25 : decode cX10_lacks 25 = .ok (.iload_n 1, 1) := by decide +kernel
theorem dX10_lacks_26 : decode cX10_lacks 26 = .ok (.iaload, 1) := by decide +kernel
theorem dX10_lacks_27 : decode cX10_lacks 27 = .ok (.iconst 1, 1) := by decide +kernel
theorem dX10_lacks_28 : decode cX10_lacks 28 = .ok (.isub, 1) := by decide +kernel
theorem dX10_lacks_29 : decode cX10_lacks 29 = .ok (.i2l, 1) := by decide +kernel
theorem dX10_lacks_30 : decode cX10_lacks 30 = .ok (.invokestatic 72, 3) := by decide +kernel
theorem dX10_lacks_33 : decode cX10_lacks 33 = .ok (.ifCond .eq 7, 3) := by decide +kernel
theorem dX10_lacks_36 : decode cX10_lacks 36 = .ok (.iconst 0, 1) := by decide +kernel
theorem dX10_lacks_37 : decode cX10_lacks 37 = .ok (.goto 8, 3) := by decide +kernel
theorem dX10_lacks_40 : decode cX10_lacks 40 = .ok (.aload_n 0, 1) := by decide +kernel
theorem dX10_lacks_41 : decode cX10_lacks 41 = .ok (.iconst 2, 1) := by decide +kernel
theorem dX10_lacks_42 : decode cX10_lacks 42 = .ok (.invokevirtual 91, 3) := by decide +kernel
theorem dX10_lacks_45 : decode cX10_lacks 45 = .ok (.ireturn, 1) := by decide +kernel
theorem dX10_lay_0 : decode cX10_lay 0 = .ok (.iload_n 1, 1) := by decide +kernel
theorem dX10_lay_1 : decode cX10_lay 1 = .ok (.invokestatic 87, 3) := by decide +kernel
theorem dX10_lay_4 : decode cX10_lay 4 = .ok (.ifCond .ne 6, 3) := by decide +kernel
theorem dX10_lay_7 : decode cX10_lay 7 = .ok (.bipush (-2), 2) := by decide +kernel
theorem dX10_lay_9 : decode cX10_lay 9 = .ok (.ireturn, 1) := by decide +kernel
theorem dX10_lay_10 : decode cX10_lay 10 = .ok (.aload_n 0, 1) := by decide +kernel
theorem dX10_lay_11 : decode cX10_lay 11 = .ok (.iload_n 1, 1) := by decide +kernel
theorem dX10_lay_12 : decode cX10_lay 12 = .ok (.iload_n 2, 1) := by decide +kernel
theorem dX10_lay_13 : decode cX10_lay 13 = .ok (.invokevirtual 95, 3) := by decide +kernel
theorem dX10_lay_16 : decode cX10_lay 16 = .ok (.istore 4, 2) := by decide +kernel
theorem dX10_lay_18 : decode cX10_lay 18 = .ok (.iload 4, 2) := by decide +kernel
theorem dX10_lay_20 : decode cX10_lay 20 = .ok (.ifCond .eq 6, 3) := by decide +kernel
theorem dX10_lay_23 : decode cX10_lay 23 = .ok (.iload 4, 2) := by decide +kernel
theorem dX10_lay_25 : decode cX10_lay 25 = .ok (.ireturn, 1) := by decide +kernel
theorem dX10_lay_26 : decode cX10_lay 26 = .ok (.aload_n 0, 1) := by decide +kernel
theorem dX10_lay_27 : decode cX10_lay 27 = .ok (.getfield 13, 3) := by decide +kernel
theorem dX10_lay_30 : decode cX10_lay 30 = .ok (.bipush 40, 2) := by decide +kernel
theorem dX10_lay_32 : decode cX10_lay 32 = .ok (.iload_n 1, 1) := by decide +kernel
theorem dX10_lay_33 : decode cX10_lay 33 = .ok (.imul, 1) := by decide +kernel
theorem dX10_lay_34 : decode cX10_lay 34 = .ok (.iload_n 2, 1) := by decide +kernel
theorem dX10_lay_35 : decode cX10_lay 35 = .ok (.iadd, 1) := by decide +kernel
theorem dX10_lay_36 : decode cX10_lay 36 = .ok (.iload_n 3, 1) := by decide +kernel
theorem dX10_lay_37 : decode cX10_lay 37 = .ok (.i2l, 1) := by decide +kernel
theorem dX10_lay_38 : decode cX10_lay 38 = .ok (.lastore, 1) := by decide +kernel
theorem dX10_lay_39 : decode cX10_lay 39 = .ok (.iconst 1, 1) := by decide +kernel
theorem dX10_lay_40 : decode cX10_lay 40 = .ok (.ireturn, 1) := by decide +kernel
theorem dX10_get_0 : decode cX10_get 0 = .ok (.iload_n 1, 1) := by decide +kernel
theorem dX10_get_1 : decode cX10_get 1 = .ok (.invokestatic 87, 3) := by decide +kernel
theorem dX10_get_4 : decode cX10_get 4 = .ok (.ifCond .ne 9, 3) := by decide +kernel
theorem dX10_get_7 : decode cX10_get 7 = .ok (.bipush (-2), 2) := by decide +kernel
theorem dX10_get_9 : decode cX10_get 9 = .ok (.invokestatic 99, 3) := by decide +kernel
theorem dX10_get_12 : decode cX10_get 12 = .ok (.lreturn, 1) := by decide +kernel
theorem dX10_get_13 : decode cX10_get 13 = .ok (.aload_n 0, 1) := by decide +kernel
theorem dX10_get_14 : decode cX10_get 14 = .ok (.iload_n 1, 1) := by decide +kernel
theorem dX10_get_15 : decode cX10_get 15 = .ok (.iload_n 2, 1) := by decide +kernel
theorem dX10_get_16 : decode cX10_get 16 = .ok (.invokevirtual 95, 3) := by decide +kernel
theorem dX10_get_19 : decode cX10_get 19 = .ok (.istore_n 3, 1) := by decide +kernel
theorem dX10_get_20 : decode cX10_get 20 = .ok (.iload_n 3, 1) := by decide +kernel
theorem dX10_get_21 : decode cX10_get 21 = .ok (.ifCond .eq 10, 3) := by decide +kernel
theorem dX10_get_24 : decode cX10_get 24 = .ok (.iload_n 3, 1) := by decide +kernel
theorem dX10_get_25 : decode cX10_get 25 = .ok (.invokestatic 99, 3) := by decide +kernel
theorem dX10_get_28 : decode cX10_get 28 = .ok (.goto 14, 3) := by decide +kernel
theorem dX10_get_31 : decode cX10_get 31 = .ok (.aload_n 0, 1) := by decide +kernel
theorem dX10_get_32 : decode cX10_get 32 = .ok (.getfield 13, 3) := by decide +kernel
theorem dX10_get_35 : decode cX10_get 35 = .ok (.bipush 40, 2) := by decide +kernel
theorem dX10_get_37 : decode cX10_get 37 = .ok (.iload_n 1, 1) := by decide +kernel
theorem dX10_get_38 : decode cX10_get 38 = .ok (.imul, 1) := by decide +kernel
theorem dX10_get_39 : decode cX10_get 39 = .ok (.iload_n 2, 1) := by decide +kernel
theorem dX10_get_40 : decode cX10_get 40 = .ok (.iadd, 1) := by decide +kernel
theorem dX10_get_41 : decode cX10_get 41 = .ok (.laload, 1) := by decide +kernel
theorem dX10_get_42 : decode cX10_get 42 = .ok (.lreturn, 1) := by decide +kernel
theorem dX10_copy_0 : decode cX10_copy 0 = .ok (.iload_n 1, 1) := by decide +kernel
theorem dX10_copy_1 : decode cX10_copy 1 = .ok (.invokestatic 87, 3) := by decide +kernel
theorem dX10_copy_4 : decode cX10_copy 4 = .ok (.ifCond .eq 10, 3) := by decide +kernel
theorem dX10_copy_7 : decode cX10_copy 7 = .ok (.iload_n 3, 1) := by decide +kernel
theorem dX10_copy_8 : decode cX10_copy 8 = .ok (.invokestatic 87, 3) := by decide +kernel
theorem dX10_copy_11 : decode cX10_copy 11 = .ok (.ifCond .ne 6, 3) := by decide +kernel
theorem dX10_copy_14 : decode cX10_copy 14 = .ok (.bipush (-2), 2) := by decide +kernel
theorem dX10_copy_16 : decode cX10_copy 16 = .ok (.ireturn, 1) := by decide +kernel
theorem dX10_copy_17 : decode cX10_copy 17 = .ok (.aload_n 0, 1) := by decide +kernel
theorem dX10_copy_18 : decode cX10_copy 18 = .ok (.getfield 7, 3) := by decide +kernel
theorem dX10_copy_21 : decode cX10_copy 21 = .ok (.iload_n 1, 1) := by decide +kernel
theorem dX10_copy_22 : decode cX10_copy 22 = .ok (.iaload, 1) := by decide +kernel
theorem dX10_copy_23 : decode cX10_copy 23 = .ok (.iconst (-1), 1) := by decide +kernel
theorem dX10_copy_24 : decode cX10_copy 24 = .ok (.if_icmp .eq 13, 3) := by decide +kernel
theorem dX10_copy_27 : decode cX10_copy 27 = .ok (.aload_n 0, 1) := by decide +kernel
theorem dX10_copy_28 : decode cX10_copy 28 = .ok (.getfield 7, 3) := by decide +kernel
theorem dX10_copy_31 : decode cX10_copy 31 = .ok (.iload_n 3, 1) := by decide +kernel
theorem dX10_copy_32 : decode cX10_copy 32 = .ok (.iaload, 1) := by decide +kernel
theorem dX10_copy_33 : decode cX10_copy 33 = .ok (.iconst (-1), 1) := by decide +kernel
theorem dX10_copy_34 : decode cX10_copy 34 = .ok (.if_icmp .ne 9, 3) := by decide +kernel
theorem dX10_copy_37 : decode cX10_copy 37 = .ok (.aload_n 0, 1) := by decide +kernel
theorem dX10_copy_38 : decode cX10_copy 38 = .ok (.iconst 1, 1) := by decide +kernel
theorem dX10_copy_39 : decode cX10_copy 39 = .ok (.invokevirtual 91, 3) := by decide +kernel
theorem dX10_copy_42 : decode cX10_copy 42 = .ok (.ireturn, 1) := by decide +kernel
theorem dX10_copy_43 : decode cX10_copy 43 = .ok (.iload_n 2, 1) := by decide +kernel
theorem dX10_copy_44 : decode cX10_copy 44 = .ok (.ifCond .lt 48, 3) := by decide +kernel
theorem dX10_copy_47 : decode cX10_copy 47 = .ok (.iload 4, 2) := by decide +kernel
theorem dX10_copy_49 : decode cX10_copy 49 = .ok (.ifCond .lt 43, 3) := by decide +kernel
theorem dX10_copy_52 : decode cX10_copy 52 = .ok (.iload 5, 2) := by decide +kernel
theorem dX10_copy_54 : decode cX10_copy 54 = .ok (.ifCond .lt 38, 3) := by decide +kernel
theorem dX10_copy_57 : decode cX10_copy 57 = .ok (.iload_n 2, 1) := by decide +kernel
theorem dX10_copy_58 : decode cX10_copy 58 = .ok (.i2l, 1) := by decide +kernel
theorem dX10_copy_59 : decode cX10_copy 59 = .ok (.iload 5, 2) := by decide +kernel
theorem dX10_copy_61 : decode cX10_copy 61 = .ok (.i2l, 1) := by decide +kernel
theorem dX10_copy_62 : decode cX10_copy 62 = .ok (.ladd, 1) := by decide +kernel
theorem dX10_copy_63 : decode cX10_copy 63 = .ok (.aload_n 0, 1) := by decide +kernel
theorem dX10_copy_64 : decode cX10_copy 64 = .ok (.getfield 7, 3) := by decide +kernel
theorem dX10_copy_67 : decode cX10_copy 67 = .ok (.iload_n 1, 1) := by decide +kernel
theorem dX10_copy_68 : decode cX10_copy 68 = .ok (.iaload, 1) := by decide +kernel
theorem dX10_copy_69 : decode cX10_copy 69 = .ok (.i2l, 1) := by decide +kernel
theorem dX10_copy_70 : decode cX10_copy 70 = .ok (.lcmp, 1) := by decide +kernel
theorem dX10_copy_71 : decode cX10_copy 71 = .ok (.ifCond .gt 21, 3) := by decide +kernel
theorem dX10_copy_74 : decode cX10_copy 74 = .ok (.iload 4, 2) := by decide +kernel
theorem dX10_copy_76 : decode cX10_copy 76 = .ok (.i2l, 1) := by decide +kernel
theorem dX10_copy_77 : decode cX10_copy 77 = .ok (.iload 5, 2) := by decide +kernel
theorem dX10_copy_79 : decode cX10_copy 79 = .ok (.i2l, 1) := by decide +kernel
theorem dX10_copy_80 : decode cX10_copy 80 = .ok (.ladd, 1) := by decide +kernel
theorem dX10_copy_81 : decode cX10_copy 81 = .ok (.aload_n 0, 1) := by decide +kernel
theorem dX10_copy_82 : decode cX10_copy 82 = .ok (.getfield 7, 3) := by decide +kernel
theorem dX10_copy_85 : decode cX10_copy 85 = .ok (.iload_n 3, 1) := by decide +kernel
theorem dX10_copy_86 : decode cX10_copy 86 = .ok (.iaload, 1) := by decide +kernel
theorem dX10_copy_87 : decode cX10_copy 87 = .ok (.i2l, 1) := by decide +kernel
theorem dX10_copy_88 : decode cX10_copy 88 = .ok (.lcmp, 1) := by decide +kernel
theorem dX10_copy_89 : decode cX10_copy 89 = .ok (.ifCond .le 9, 3) := by decide +kernel
theorem dX10_copy_92 : decode cX10_copy 92 = .ok (.aload_n 0, 1) := by decide +kernel
theorem dX10_copy_93 : decode cX10_copy 93 = .ok (.iconst 2, 1) := by decide +kernel
theorem dX10_copy_94 : decode cX10_copy 94 = .ok (.invokevirtual 91, 3) := by decide +kernel
theorem dX10_copy_97 : decode cX10_copy 97 = .ok (.ireturn, 1) := by decide +kernel
theorem dX10_copy_98 : decode cX10_copy 98 = .ok (.iconst 0, 1) := by decide +kernel
theorem dX10_copy_99 : decode cX10_copy 99 = .ok (.istore 6, 2) := by decide +kernel
theorem dX10_copy_101 : decode cX10_copy 101 = .ok (.iload 6, 2) := by decide +kernel
theorem dX10_copy_103 : decode cX10_copy 103 = .ok (.iload 5, 2) := by decide +kernel
theorem dX10_copy_105 : decode cX10_copy 105 = .ok (.if_icmp .ge 30, 3) := by decide +kernel
theorem dX10_copy_108 : decode cX10_copy 108 = .ok (.aload_n 0, 1) := by decide +kernel
theorem dX10_copy_109 : decode cX10_copy 109 = .ok (.getfield 17, 3) := by decide +kernel
theorem dX10_copy_112 : decode cX10_copy 112 = .ok (.iload 6, 2) := by decide +kernel
theorem dX10_copy_114 : decode cX10_copy 114 = .ok (.aload_n 0, 1) := by decide +kernel
theorem dX10_copy_115 : decode cX10_copy 115 = .ok (.getfield 13, 3) := by decide +kernel
theorem dX10_copy_118 : decode cX10_copy 118 = .ok (.bipush 40, 2) := by decide +kernel
theorem dX10_copy_120 : decode cX10_copy 120 = .ok (.iload_n 1, 1) := by decide +kernel
theorem dX10_copy_121 : decode cX10_copy 121 = .ok (.imul, 1) := by decide +kernel
theorem dX10_copy_122 : decode cX10_copy 122 = .ok (.iload_n 2, 1) := by decide +kernel
theorem dX10_copy_123 : decode cX10_copy 123 = .ok (.iadd, 1) := by decide +kernel
theorem dX10_copy_124 : decode cX10_copy 124 = .ok (.iload 6, 2) := by decide +kernel
theorem dX10_copy_126 : decode cX10_copy 126 = .ok (.iadd, 1) := by decide +kernel
theorem dX10_copy_127 : decode cX10_copy 127 = .ok (.laload, 1) := by decide +kernel
theorem dX10_copy_128 : decode cX10_copy 128 = .ok (.lastore, 1) := by decide +kernel
theorem dX10_copy_129 : decode cX10_copy 129 = .ok (.iinc 6 1, 3) := by decide +kernel
theorem dX10_copy_132 : decode cX10_copy 132 = .ok (.goto (-31), 3) := by decide +kernel
theorem dX10_copy_135 : decode cX10_copy 135 = .ok (.iconst 0, 1) := by decide +kernel
theorem dX10_copy_136 : decode cX10_copy 136 = .ok (.istore 6, 2) := by decide +kernel
theorem dX10_copy_138 : decode cX10_copy 138 = .ok (.iload 6, 2) := by decide +kernel
theorem dX10_copy_140 : decode cX10_copy 140 = .ok (.iload 5, 2) := by decide +kernel
theorem dX10_copy_142 : decode cX10_copy 142 = .ok (.if_icmp .ge 31, 3) := by decide +kernel
theorem dX10_copy_145 : decode cX10_copy 145 = .ok (.aload_n 0, 1) := by decide +kernel
theorem dX10_copy_146 : decode cX10_copy 146 = .ok (.getfield 13, 3) := by decide +kernel
theorem dX10_copy_149 : decode cX10_copy 149 = .ok (.bipush 40, 2) := by decide +kernel
theorem dX10_copy_151 : decode cX10_copy 151 = .ok (.iload_n 3, 1) := by decide +kernel
theorem dX10_copy_152 : decode cX10_copy 152 = .ok (.imul, 1) := by decide +kernel
theorem dX10_copy_153 : decode cX10_copy 153 = .ok (.iload 4, 2) := by decide +kernel
theorem dX10_copy_155 : decode cX10_copy 155 = .ok (.iadd, 1) := by decide +kernel
theorem dX10_copy_156 : decode cX10_copy 156 = .ok (.iload 6, 2) := by decide +kernel
theorem dX10_copy_158 : decode cX10_copy 158 = .ok (.iadd, 1) := by decide +kernel
theorem dX10_copy_159 : decode cX10_copy 159 = .ok (.aload_n 0, 1) := by decide +kernel
theorem dX10_copy_160 : decode cX10_copy 160 = .ok (.getfield 17, 3) := by decide +kernel
theorem dX10_copy_163 : decode cX10_copy 163 = .ok (.iload 6, 2) := by decide +kernel
theorem dX10_copy_165 : decode cX10_copy 165 = .ok (.laload, 1) := by decide +kernel
theorem dX10_copy_166 : decode cX10_copy 166 = .ok (.lastore, 1) := by decide +kernel
theorem dX10_copy_167 : decode cX10_copy 167 = .ok (.iinc 6 1, 3) := by decide +kernel
theorem dX10_copy_170 : decode cX10_copy 170 = .ok (.goto (-32), 3) := by decide +kernel
theorem dX10_copy_173 : decode cX10_copy 173 = .ok (.iconst 1, 1) := by decide +kernel
theorem dX10_copy_174 : decode cX10_copy 174 = .ok (.ireturn, 1) := by decide +kernel
theorem dX10_isStation_0 : decode cX10_isStation 0 = .ok (.lload_n 1, 1) := by decide +kernel
theorem dX10_isStation_1 : decode cX10_isStation 1 = .ok (.lconst 0, 1) := by decide +kernel
theorem dX10_isStation_2 : decode cX10_isStation 2 = .ok (.aload_n 0, 1) := by decide +kernel
theorem dX10_isStation_3 : decode cX10_isStation 3 = .ok (.getfield 68, 3) := by decide +kernel
theorem dX10_isStation_6 : decode cX10_isStation 6 = .ok (.iconst 1, 1) := by decide +kernel
theorem dX10_isStation_7 : decode cX10_isStation 7 = .ok (.isub, 1) := by decide +kernel
theorem dX10_isStation_8 : decode cX10_isStation 8 = .ok (.i2l, 1) := by decide +kernel
theorem dX10_isStation_9 : decode cX10_isStation 9 = .ok (.invokestatic 72, 3) := by decide +kernel
theorem dX10_isStation_12 : decode cX10_isStation 12 = .ok (.ireturn, 1) := by decide +kernel
theorem dX10_isLink_0 : decode cX10_isLink 0 = .ok (.iload_n 1, 1) := by decide +kernel
theorem dX10_isLink_1 : decode cX10_isLink 1 = .ok (.i2l, 1) := by decide +kernel
theorem dX10_isLink_2 : decode cX10_isLink 2 = .ok (.lconst 0, 1) := by decide +kernel
theorem dX10_isLink_3 : decode cX10_isLink 3 = .ok (.aload_n 0, 1) := by decide +kernel
theorem dX10_isLink_4 : decode cX10_isLink 4 = .ok (.getfield 103, 3) := by decide +kernel
theorem dX10_isLink_7 : decode cX10_isLink 7 = .ok (.iconst 1, 1) := by decide +kernel
theorem dX10_isLink_8 : decode cX10_isLink 8 = .ok (.isub, 1) := by decide +kernel
theorem dX10_isLink_9 : decode cX10_isLink 9 = .ok (.i2l, 1) := by decide +kernel
theorem dX10_isLink_10 : decode cX10_isLink 10 = .ok (.invokestatic 72, 3) := by decide +kernel
theorem dX10_isLink_13 : decode cX10_isLink 13 = .ok (.ireturn, 1) := by decide +kernel
theorem dX10_stations_0 : decode cX10_stations 0 = .ok (.iload_n 1, 1) := by decide +kernel
theorem dX10_stations_1 : decode cX10_stations 1 = .ok (.i2l, 1) := by decide +kernel
theorem dX10_stations_2 : decode cX10_stations 2 = .ok (.ldc2_w 85, 3) := by decide +kernel
theorem dX10_stations_5 : decode cX10_stations 5 = .ok (.ldc2_w 106, 3) := by decide +kernel
theorem dX10_stations_8 : decode cX10_stations 8 = .ok (.invokestatic 72, 3) := by decide +kernel
theorem dX10_stations_11 : decode cX10_stations 11 = .ok (.ifCond .ne 6, 3) := by decide +kernel
theorem dX10_stations_14 : decode cX10_stations 14 = .ok (.bipush (-2), 2) := by decide +kernel
theorem dX10_stations_16 : decode cX10_stations 16 = .ok (.ireturn, 1) := by decide +kernel
theorem dX10_stations_17 : decode cX10_stations 17 = .ok (.aload_n 0, 1) := by decide +kernel
theorem dX10_stations_18 : decode cX10_stations 18 = .ok (.getfield 68, 3) := by decide +kernel
theorem dX10_stations_21 : decode cX10_stations 21 = .ok (.istore_n 2, 1) := by decide +kernel
theorem dX10_stations_22 : decode cX10_stations 22 = .ok (.aload_n 0, 1) := by decide +kernel
theorem dX10_stations_23 : decode cX10_stations 23 = .ok (.iload_n 1, 1) := by decide +kernel
theorem dX10_stations_24 : decode cX10_stations 24 = .ok (.putfield 68, 3) := by decide +kernel
theorem dX10_stations_27 : decode cX10_stations 27 = .ok (.aload_n 0, 1) := by decide +kernel
theorem dX10_stations_28 : decode cX10_stations 28 = .ok (.iconst 0, 1) := by decide +kernel
theorem dX10_stations_29 : decode cX10_stations 29 = .ok (.putfield 103, 3) := by decide +kernel
theorem dX10_stations_32 : decode cX10_stations 32 = .ok (.aload_n 0, 1) := by decide +kernel
theorem dX10_stations_33 : decode cX10_stations 33 = .ok (.iconst 0, 1) := by decide +kernel
theorem dX10_stations_34 : decode cX10_stations 34 = .ok (.putfield 108, 3) := by decide +kernel
theorem dX10_stations_37 : decode cX10_stations 37 = .ok (.aload_n 0, 1) := by decide +kernel
theorem dX10_stations_38 : decode cX10_stations 38 = .ok (.iconst 0, 1) := by decide +kernel
theorem dX10_stations_39 : decode cX10_stations 39 = .ok (.putfield 111, 3) := by decide +kernel
theorem dX10_stations_42 : decode cX10_stations 42 = .ok (.iload_n 2, 1) := by decide +kernel
theorem dX10_stations_43 : decode cX10_stations 43 = .ok (.ireturn, 1) := by decide +kernel
theorem dX10_isChance_0 : decode cX10_isChance 0 = .ok (.lload_n 2, 1) := by decide +kernel
theorem dX10_isChance_1 : decode cX10_isChance 1 = .ok (.lconst 1, 1) := by decide +kernel
theorem dX10_isChance_2 : decode cX10_isChance 2 = .ok (.ldc2_w 114, 3) := by decide +kernel
theorem dX10_isChance_5 : decode cX10_isChance 5 = .ok (.invokestatic 72, 3) := by decide +kernel
theorem dX10_isChance_8 : decode cX10_isChance 8 = .ok (.ifCond .eq 16, 3) := by decide +kernel
theorem dX10_isChance_11 : decode cX10_isChance 11 = .ok (.lload_n 0, 1) := by decide +kernel
theorem dX10_isChance_12 : decode cX10_isChance 12 = .ok (.lconst 0, 1) := by decide +kernel
theorem dX10_isChance_13 : decode cX10_isChance 13 = .ok (.lload_n 2, 1) := by decide +kernel
theorem dX10_isChance_14 : decode cX10_isChance 14 = .ok (.invokestatic 72, 3) := by decide +kernel
theorem dX10_isChance_17 : decode cX10_isChance 17 = .ok (.ifCond .eq 7, 3) := by decide +kernel
theorem dX10_isChance_20 : decode cX10_isChance 20 = .ok (.iconst 1, 1) := by decide +kernel
theorem dX10_isChance_21 : decode cX10_isChance 21 = .ok (.goto 4, 3) := by decide +kernel
theorem dX10_isChance_24 : decode cX10_isChance 24 = .ok (.iconst 0, 1) := by decide +kernel
theorem dX10_isChance_25 : decode cX10_isChance 25 = .ok (.ireturn, 1) := by decide +kernel
theorem dX10_mayLink_0 : decode cX10_mayLink 0 = .ok (.aload_n 0, 1) := by decide +kernel
theorem dX10_mayLink_1 : decode cX10_mayLink 1 = .ok (.lload_n 1, 1) := by decide +kernel
theorem dX10_mayLink_2 : decode cX10_mayLink 2 = .ok (.invokevirtual 116, 3) := by decide +kernel
theorem dX10_mayLink_5 : decode cX10_mayLink 5 = .ok (.ifCond .eq 31, 3) := by decide +kernel
theorem dX10_mayLink_8 : decode cX10_mayLink 8 = .ok (.aload_n 0, 1) := by decide +kernel
theorem dX10_mayLink_9 : decode cX10_mayLink 9 = .ok (.lload_n 3, 1) := by decide +kernel
theorem dX10_mayLink_10 : decode cX10_mayLink 10 = .ok (.invokevirtual 116, 3) := by decide +kernel
theorem dX10_mayLink_13 : decode cX10_mayLink 13 = .ok (.ifCond .eq 23, 3) := by decide +kernel
theorem dX10_mayLink_16 : decode cX10_mayLink 16 = .ok (.lload_n 1, 1) := by decide +kernel
theorem dX10_mayLink_17 : decode cX10_mayLink 17 = .ok (.lload_n 3, 1) := by decide +kernel
theorem dX10_mayLink_18 : decode cX10_mayLink 18 = .ok (.lcmp, 1) := by decide +kernel
theorem dX10_mayLink_19 : decode cX10_mayLink 19 = .ok (.ifCond .eq 17, 3) := by decide +kernel
theorem dX10_mayLink_22 : decode cX10_mayLink 22 = .ok (.lload 5, 2) := by decide +kernel
theorem dX10_mayLink_24 : decode cX10_mayLink 24 = .ok (.lload 7, 2) := by decide +kernel
theorem dX10_mayLink_26 : decode cX10_mayLink 26 = .ok (.invokestatic 120, 3) := by decide +kernel
theorem dX10_mayLink_29 : decode cX10_mayLink 29 = .ok (.ifCond .eq 7, 3) := by decide +kernel
theorem dX10_mayLink_32 : decode cX10_mayLink 32 = .ok (.iconst 1, 1) := by decide +kernel
theorem dX10_mayLink_33 : decode cX10_mayLink 33 = .ok (.goto 4, 3) := by decide +kernel
theorem dX10_mayLink_36 : decode cX10_mayLink 36 = .ok (.iconst 0, 1) := by decide +kernel
theorem dX10_mayLink_37 : decode cX10_mayLink 37 = .ok (.ireturn, 1) := by decide +kernel
theorem dX10_adds_0 : decode cX10_adds 0 = .ok (.aload_n 0, 1) := by decide +kernel
theorem dX10_adds_1 : decode cX10_adds 1 = .ok (.getfield 20, 3) := by decide +kernel
theorem dX10_adds_4 : decode cX10_adds 4 = .ok (.aload_n 0, 1) := by decide +kernel
theorem dX10_adds_5 : decode cX10_adds 5 = .ok (.getfield 103, 3) := by decide +kernel
theorem dX10_adds_8 : decode cX10_adds 8 = .ok (.iload_n 1, 1) := by decide +kernel
theorem dX10_adds_9 : decode cX10_adds 9 = .ok (.iload_n 2, 1) := by decide +kernel
theorem dX10_adds_10 : decode cX10_adds 10 = .ok (.if_icmp .ge 7, 3) := by decide +kernel
theorem dX10_adds_13 : decode cX10_adds 13 = .ok (.iload_n 1, 1) := by decide +kernel
theorem dX10_adds_14 : decode cX10_adds 14 = .ok (.goto 4, 3) := by decide +kernel
theorem dX10_adds_17 : decode cX10_adds 17 = .ok (.iload_n 2, 1) := by decide +kernel
theorem dX10_adds_18 : decode cX10_adds 18 = .ok (.iastore, 1) := by decide +kernel
theorem dX10_adds_19 : decode cX10_adds 19 = .ok (.aload_n 0, 1) := by decide +kernel
theorem dX10_adds_20 : decode cX10_adds 20 = .ok (.getfield 23, 3) := by decide +kernel
theorem dX10_adds_23 : decode cX10_adds 23 = .ok (.aload_n 0, 1) := by decide +kernel
theorem dX10_adds_24 : decode cX10_adds 24 = .ok (.getfield 103, 3) := by decide +kernel
theorem dX10_adds_27 : decode cX10_adds 27 = .ok (.iload_n 1, 1) := by decide +kernel
theorem dX10_adds_28 : decode cX10_adds 28 = .ok (.iload_n 2, 1) := by decide +kernel
theorem dX10_adds_29 : decode cX10_adds 29 = .ok (.if_icmp .ge 7, 3) := by decide +kernel
theorem dX10_adds_32 : decode cX10_adds 32 = .ok (.iload_n 2, 1) := by decide +kernel
theorem dX10_adds_33 : decode cX10_adds 33 = .ok (.goto 4, 3) := by decide +kernel
theorem dX10_adds_36 : decode cX10_adds 36 = .ok (.iload_n 1, 1) := by decide +kernel
theorem dX10_adds_37 : decode cX10_adds 37 = .ok (.iastore, 1) := by decide +kernel
theorem dX10_adds_38 : decode cX10_adds 38 = .ok (.aload_n 0, 1) := by decide +kernel
theorem dX10_adds_39 : decode cX10_adds 39 = .ok (.getfield 26, 3) := by decide +kernel
theorem dX10_adds_42 : decode cX10_adds 42 = .ok (.aload_n 0, 1) := by decide +kernel
theorem dX10_adds_43 : decode cX10_adds 43 = .ok (.getfield 103, 3) := by decide +kernel
theorem dX10_adds_46 : decode cX10_adds 46 = .ok (.iload_n 3, 1) := by decide +kernel
theorem dX10_adds_47 : decode cX10_adds 47 = .ok (.iastore, 1) := by decide +kernel
theorem dX10_adds_48 : decode cX10_adds 48 = .ok (.aload_n 0, 1) := by decide +kernel
theorem dX10_adds_49 : decode cX10_adds 49 = .ok (.getfield 29, 3) := by decide +kernel
theorem dX10_adds_52 : decode cX10_adds 52 = .ok (.aload_n 0, 1) := by decide +kernel
theorem dX10_adds_53 : decode cX10_adds 53 = .ok (.getfield 103, 3) := by decide +kernel
theorem dX10_adds_56 : decode cX10_adds 56 = .ok (.iload 4, 2) := by decide +kernel
theorem dX10_adds_58 : decode cX10_adds 58 = .ok (.iastore, 1) := by decide +kernel
theorem dX10_adds_59 : decode cX10_adds 59 = .ok (.aload_n 0, 1) := by decide +kernel
theorem dX10_adds_60 : decode cX10_adds 60 = .ok (.getfield 32, 3) := by decide +kernel
theorem dX10_adds_63 : decode cX10_adds 63 = .ok (.aload_n 0, 1) := by decide +kernel
theorem dX10_adds_64 : decode cX10_adds 64 = .ok (.getfield 103, 3) := by decide +kernel
theorem dX10_adds_67 : decode cX10_adds 67 = .ok (.iconst 0, 1) := by decide +kernel
theorem dX10_adds_68 : decode cX10_adds 68 = .ok (.iastore, 1) := by decide +kernel
theorem dX10_adds_69 : decode cX10_adds 69 = .ok (.aload_n 0, 1) := by decide +kernel
theorem dX10_adds_70 : decode cX10_adds 70 = .ok (.dup, 1) := by decide +kernel
theorem dX10_adds_71 : decode cX10_adds 71 = .ok (.getfield 103, 3) := by decide +kernel
theorem dX10_adds_74 : decode cX10_adds 74 = .ok (.iconst 1, 1) := by decide +kernel
theorem dX10_adds_75 : decode cX10_adds 75 = .ok (.iadd, 1) := by decide +kernel
theorem dX10_adds_76 : decode cX10_adds 76 = .ok (.putfield 103, 3) := by decide +kernel
theorem dX10_adds_79 : decode cX10_adds 79 = .ok (.return_, 1) := by decide +kernel
theorem dX10_link_0 : decode cX10_link 0 = .ok (.aload_n 0, 1) := by decide +kernel
theorem dX10_link_1 : decode cX10_link 1 = .ok (.iload_n 1, 1) := by decide +kernel
theorem dX10_link_2 : decode cX10_link 2 = .ok (.i2l, 1) := by decide +kernel
theorem dX10_link_3 : decode cX10_link 3 = .ok (.iload_n 2, 1) := by decide +kernel
theorem dX10_link_4 : decode cX10_link 4 = .ok (.i2l, 1) := by decide +kernel
theorem dX10_link_5 : decode cX10_link 5 = .ok (.iload_n 3, 1) := by decide +kernel
theorem dX10_link_6 : decode cX10_link 6 = .ok (.i2l, 1) := by decide +kernel
theorem dX10_link_7 : decode cX10_link 7 = .ok (.iload 4, 2) := by decide +kernel
theorem dX10_link_9 : decode cX10_link 9 = .ok (.i2l, 1) := by decide +kernel
theorem dX10_link_10 : decode cX10_link 10 = .ok (.invokevirtual 124, 3) := by decide +kernel
theorem dX10_link_13 : decode cX10_link 13 = .ok (.ifCond .ne 6, 3) := by decide +kernel
theorem dX10_link_16 : decode cX10_link 16 = .ok (.bipush (-2), 2) := by decide +kernel
theorem dX10_link_18 : decode cX10_link 18 = .ok (.ireturn, 1) := by decide +kernel
theorem dX10_link_19 : decode cX10_link 19 = .ok (.aload_n 0, 1) := by decide +kernel
theorem dX10_link_20 : decode cX10_link 20 = .ok (.getfield 103, 3) := by decide +kernel
theorem dX10_link_23 : decode cX10_link 23 = .ok (.bipush 10, 2) := by decide +kernel
theorem dX10_link_25 : decode cX10_link 25 = .ok (.if_icmp .ne 6, 3) := by decide +kernel
theorem dX10_link_28 : decode cX10_link 28 = .ok (.bipush (-4), 2) := by decide +kernel
theorem dX10_link_30 : decode cX10_link 30 = .ok (.ireturn, 1) := by decide +kernel
theorem dX10_link_31 : decode cX10_link 31 = .ok (.aload_n 0, 1) := by decide +kernel
theorem dX10_link_32 : decode cX10_link 32 = .ok (.iload_n 1, 1) := by decide +kernel
theorem dX10_link_33 : decode cX10_link 33 = .ok (.iload_n 2, 1) := by decide +kernel
theorem dX10_link_34 : decode cX10_link 34 = .ok (.iload_n 3, 1) := by decide +kernel
theorem dX10_link_35 : decode cX10_link 35 = .ok (.iload 4, 2) := by decide +kernel
theorem dX10_link_37 : decode cX10_link 37 = .ok (.invokevirtual 128, 3) := by decide +kernel
theorem dX10_link_40 : decode cX10_link 40 = .ok (.aload_n 0, 1) := by decide +kernel
theorem dX10_link_41 : decode cX10_link 41 = .ok (.getfield 103, 3) := by decide +kernel
theorem dX10_link_44 : decode cX10_link 44 = .ok (.iconst 1, 1) := by decide +kernel
theorem dX10_link_45 : decode cX10_link 45 = .ok (.isub, 1) := by decide +kernel
theorem dX10_link_46 : decode cX10_link 46 = .ok (.ireturn, 1) := by decide +kernel
theorem dX10_back_0 : decode cX10_back 0 = .ok (.aload_n 0, 1) := by decide +kernel
theorem dX10_back_1 : decode cX10_back 1 = .ok (.getfield 103, 3) := by decide +kernel
theorem dX10_back_4 : decode cX10_back 4 = .ok (.ifCond .ne 6, 3) := by decide +kernel
theorem dX10_back_7 : decode cX10_back 7 = .ok (.bipush (-3), 2) := by decide +kernel
theorem dX10_back_9 : decode cX10_back 9 = .ok (.ireturn, 1) := by decide +kernel
theorem dX10_back_10 : decode cX10_back 10 = .ok (.aload_n 0, 1) := by decide +kernel
theorem dX10_back_11 : decode cX10_back 11 = .ok (.dup, 1) := by decide +kernel
theorem dX10_back_12 : decode cX10_back 12 = .ok (.getfield 103, 3) := by decide +kernel
theorem dX10_back_15 : decode cX10_back 15 = .ok (.iconst 1, 1) := by decide +kernel
theorem dX10_back_16 : decode cX10_back 16 = .ok (.isub, 1) := by decide +kernel
theorem dX10_back_17 : decode cX10_back 17 = .ok (.putfield 103, 3) := by decide +kernel
theorem dX10_back_20 : decode cX10_back 20 = .ok (.aload_n 0, 1) := by decide +kernel
theorem dX10_back_21 : decode cX10_back 21 = .ok (.getfield 103, 3) := by decide +kernel
theorem dX10_back_24 : decode cX10_back 24 = .ok (.ireturn, 1) := by decide +kernel
theorem dX10_chance_0 : decode cX10_chance 0 = .ok (.aload_n 0, 1) := by decide +kernel
theorem dX10_chance_1 : decode cX10_chance 1 = .ok (.iload_n 1, 1) := by decide +kernel
theorem dX10_chance_2 : decode cX10_chance 2 = .ok (.invokevirtual 132, 3) := by decide +kernel
theorem dX10_chance_5 : decode cX10_chance 5 = .ok (.ifCond .eq 13, 3) := by decide +kernel
theorem dX10_chance_8 : decode cX10_chance 8 = .ok (.iload_n 2, 1) := by decide +kernel
theorem dX10_chance_9 : decode cX10_chance 9 = .ok (.i2l, 1) := by decide +kernel
theorem dX10_chance_10 : decode cX10_chance 10 = .ok (.iload_n 3, 1) := by decide +kernel
theorem dX10_chance_11 : decode cX10_chance 11 = .ok (.i2l, 1) := by decide +kernel
theorem dX10_chance_12 : decode cX10_chance 12 = .ok (.invokestatic 120, 3) := by decide +kernel
theorem dX10_chance_15 : decode cX10_chance 15 = .ok (.ifCond .ne 6, 3) := by decide +kernel
theorem dX10_chance_18 : decode cX10_chance 18 = .ok (.bipush (-2), 2) := by decide +kernel
theorem dX10_chance_20 : decode cX10_chance 20 = .ok (.ireturn, 1) := by decide +kernel
theorem dX10_chance_21 : decode cX10_chance 21 = .ok (.bipush 10, 2) := by decide +kernel
theorem dX10_chance_23 : decode cX10_chance 23 = .ok (.aload_n 0, 1) := by decide +kernel
theorem dX10_chance_24 : decode cX10_chance 24 = .ok (.getfield 26, 3) := by decide +kernel
theorem dX10_chance_27 : decode cX10_chance 27 = .ok (.iload_n 1, 1) := by decide +kernel
theorem dX10_chance_28 : decode cX10_chance 28 = .ok (.iaload, 1) := by decide +kernel
theorem dX10_chance_29 : decode cX10_chance 29 = .ok (.imul, 1) := by decide +kernel
theorem dX10_chance_30 : decode cX10_chance 30 = .ok (.aload_n 0, 1) := by decide +kernel
theorem dX10_chance_31 : decode cX10_chance 31 = .ok (.getfield 29, 3) := by decide +kernel
theorem dX10_chance_34 : decode cX10_chance 34 = .ok (.iload_n 1, 1) := by decide +kernel
theorem dX10_chance_35 : decode cX10_chance 35 = .ok (.iaload, 1) := by decide +kernel
theorem dX10_chance_36 : decode cX10_chance 36 = .ok (.iadd, 1) := by decide +kernel
theorem dX10_chance_37 : decode cX10_chance 37 = .ok (.istore 4, 2) := by decide +kernel
theorem dX10_chance_39 : decode cX10_chance 39 = .ok (.aload_n 0, 1) := by decide +kernel
theorem dX10_chance_40 : decode cX10_chance 40 = .ok (.getfield 26, 3) := by decide +kernel
theorem dX10_chance_43 : decode cX10_chance 43 = .ok (.iload_n 1, 1) := by decide +kernel
theorem dX10_chance_44 : decode cX10_chance 44 = .ok (.iload_n 2, 1) := by decide +kernel
theorem dX10_chance_45 : decode cX10_chance 45 = .ok (.iastore, 1) := by decide +kernel
theorem dX10_chance_46 : decode cX10_chance 46 = .ok (.aload_n 0, 1) := by decide +kernel
theorem dX10_chance_47 : decode cX10_chance 47 = .ok (.getfield 29, 3) := by decide +kernel
theorem dX10_chance_50 : decode cX10_chance 50 = .ok (.iload_n 1, 1) := by decide +kernel
theorem dX10_chance_51 : decode cX10_chance 51 = .ok (.iload_n 3, 1) := by decide +kernel
theorem dX10_chance_52 : decode cX10_chance 52 = .ok (.iastore, 1) := by decide +kernel
theorem dX10_chance_53 : decode cX10_chance 53 = .ok (.iload 4, 2) := by decide +kernel
theorem dX10_chance_55 : decode cX10_chance 55 = .ok (.ireturn, 1) := by decide +kernel
theorem dX10_see_0 : decode cX10_see 0 = .ok (.aload_n 0, 1) := by decide +kernel
theorem dX10_see_1 : decode cX10_see 1 = .ok (.iload_n 1, 1) := by decide +kernel
theorem dX10_see_2 : decode cX10_see 2 = .ok (.invokevirtual 132, 3) := by decide +kernel
theorem dX10_see_5 : decode cX10_see 5 = .ok (.ifCond .eq 15, 3) := by decide +kernel
theorem dX10_see_8 : decode cX10_see 8 = .ok (.iload_n 2, 1) := by decide +kernel
theorem dX10_see_9 : decode cX10_see 9 = .ok (.i2l, 1) := by decide +kernel
theorem dX10_see_10 : decode cX10_see 10 = .ok (.lconst 0, 1) := by decide +kernel
theorem dX10_see_11 : decode cX10_see 11 = .ok (.ldc2_w 85, 3) := by decide +kernel
theorem dX10_see_14 : decode cX10_see 14 = .ok (.invokestatic 72, 3) := by decide +kernel
theorem dX10_see_17 : decode cX10_see 17 = .ok (.ifCond .ne 6, 3) := by decide +kernel
theorem dX10_see_20 : decode cX10_see 20 = .ok (.bipush (-2), 2) := by decide +kernel
theorem dX10_see_22 : decode cX10_see 22 = .ok (.ireturn, 1) := by decide +kernel
theorem dX10_see_23 : decode cX10_see 23 = .ok (.aload_n 0, 1) := by decide +kernel
theorem dX10_see_24 : decode cX10_see 24 = .ok (.getfield 32, 3) := by decide +kernel
theorem dX10_see_27 : decode cX10_see 27 = .ok (.iload_n 1, 1) := by decide +kernel
theorem dX10_see_28 : decode cX10_see 28 = .ok (.iaload, 1) := by decide +kernel
theorem dX10_see_29 : decode cX10_see 29 = .ok (.istore_n 3, 1) := by decide +kernel
theorem dX10_see_30 : decode cX10_see 30 = .ok (.aload_n 0, 1) := by decide +kernel
theorem dX10_see_31 : decode cX10_see 31 = .ok (.getfield 32, 3) := by decide +kernel
theorem dX10_see_34 : decode cX10_see 34 = .ok (.iload_n 1, 1) := by decide +kernel
theorem dX10_see_35 : decode cX10_see 35 = .ok (.iload_n 2, 1) := by decide +kernel
theorem dX10_see_36 : decode cX10_see 36 = .ok (.iastore, 1) := by decide +kernel
theorem dX10_see_37 : decode cX10_see 37 = .ok (.iload_n 3, 1) := by decide +kernel
theorem dX10_see_38 : decode cX10_see 38 = .ok (.ireturn, 1) := by decide +kernel
theorem dX10_source_0 : decode cX10_source 0 = .ok (.aload_n 0, 1) := by decide +kernel
theorem dX10_source_1 : decode cX10_source 1 = .ok (.iload_n 1, 1) := by decide +kernel
theorem dX10_source_2 : decode cX10_source 2 = .ok (.i2l, 1) := by decide +kernel
theorem dX10_source_3 : decode cX10_source 3 = .ok (.invokevirtual 116, 3) := by decide +kernel
theorem dX10_source_6 : decode cX10_source 6 = .ok (.ifCond .ne 6, 3) := by decide +kernel
theorem dX10_source_9 : decode cX10_source 9 = .ok (.bipush (-2), 2) := by decide +kernel
theorem dX10_source_11 : decode cX10_source 11 = .ok (.ireturn, 1) := by decide +kernel
theorem dX10_source_12 : decode cX10_source 12 = .ok (.aload_n 0, 1) := by decide +kernel
theorem dX10_source_13 : decode cX10_source 13 = .ok (.getfield 111, 3) := by decide +kernel
theorem dX10_source_16 : decode cX10_source 16 = .ok (.istore_n 2, 1) := by decide +kernel
theorem dX10_source_17 : decode cX10_source 17 = .ok (.aload_n 0, 1) := by decide +kernel
theorem dX10_source_18 : decode cX10_source 18 = .ok (.iload_n 1, 1) := by decide +kernel
theorem dX10_source_19 : decode cX10_source 19 = .ok (.putfield 111, 3) := by decide +kernel
theorem dX10_source_22 : decode cX10_source 22 = .ok (.iload_n 2, 1) := by decide +kernel
theorem dX10_source_23 : decode cX10_source 23 = .ok (.ireturn, 1) := by decide +kernel
theorem dX10_goals_0 : decode cX10_goals 0 = .ok (.iload_n 1, 1) := by decide +kernel
theorem dX10_goals_1 : decode cX10_goals 1 = .ok (.i2l, 1) := by decide +kernel
theorem dX10_goals_2 : decode cX10_goals 2 = .ok (.lconst 0, 1) := by decide +kernel
theorem dX10_goals_3 : decode cX10_goals 3 = .ok (.iconst 1, 1) := by decide +kernel
theorem dX10_goals_4 : decode cX10_goals 4 = .ok (.aload_n 0, 1) := by decide +kernel
theorem dX10_goals_5 : decode cX10_goals 5 = .ok (.getfield 68, 3) := by decide +kernel
theorem dX10_goals_8 : decode cX10_goals 8 = .ok (.ishl, 1) := by decide +kernel
theorem dX10_goals_9 : decode cX10_goals 9 = .ok (.iconst 1, 1) := by decide +kernel
theorem dX10_goals_10 : decode cX10_goals 10 = .ok (.isub, 1) := by decide +kernel
theorem dX10_goals_11 : decode cX10_goals 11 = .ok (.i2l, 1) := by decide +kernel
theorem dX10_goals_12 : decode cX10_goals 12 = .ok (.invokestatic 72, 3) := by decide +kernel
theorem dX10_goals_15 : decode cX10_goals 15 = .ok (.ifCond .ne 6, 3) := by decide +kernel
theorem dX10_goals_18 : decode cX10_goals 18 = .ok (.bipush (-2), 2) := by decide +kernel
theorem dX10_goals_20 : decode cX10_goals 20 = .ok (.ireturn, 1) := by decide +kernel
theorem dX10_goals_21 : decode cX10_goals 21 = .ok (.aload_n 0, 1) := by decide +kernel
theorem dX10_goals_22 : decode cX10_goals 22 = .ok (.getfield 108, 3) := by decide +kernel
theorem dX10_goals_25 : decode cX10_goals 25 = .ok (.istore_n 2, 1) := by decide +kernel
theorem dX10_goals_26 : decode cX10_goals 26 = .ok (.aload_n 0, 1) := by decide +kernel
theorem dX10_goals_27 : decode cX10_goals 27 = .ok (.iload_n 1, 1) := by decide +kernel
theorem dX10_goals_28 : decode cX10_goals 28 = .ok (.putfield 108, 3) := by decide +kernel
theorem dX10_goals_31 : decode cX10_goals 31 = .ok (.iload_n 2, 1) := by decide +kernel
theorem dX10_goals_32 : decode cX10_goals 32 = .ok (.ireturn, 1) := by decide +kernel
theorem dX10_infoBy_0 : decode cX10_infoBy 0 = .ok (.iload_n 2, 1) := by decide +kernel
theorem dX10_infoBy_1 : decode cX10_infoBy 1 = .ok (.tableswitch 59 0 3 #[31, 38, 45, 52], 31) := by decide +kernel
theorem dX10_infoBy_32 : decode cX10_infoBy 32 = .ok (.aload_n 0, 1) := by decide +kernel
theorem dX10_infoBy_33 : decode cX10_infoBy 33 = .ok (.getfield 20, 3) := by decide +kernel
theorem dX10_infoBy_36 : decode cX10_infoBy 36 = .ok (.iload_n 1, 1) := by decide +kernel
theorem dX10_infoBy_37 : decode cX10_infoBy 37 = .ok (.iaload, 1) := by decide +kernel
theorem dX10_infoBy_38 : decode cX10_infoBy 38 = .ok (.ireturn, 1) := by decide +kernel
theorem dX10_infoBy_39 : decode cX10_infoBy 39 = .ok (.aload_n 0, 1) := by decide +kernel
theorem dX10_infoBy_40 : decode cX10_infoBy 40 = .ok (.getfield 23, 3) := by decide +kernel
theorem dX10_infoBy_43 : decode cX10_infoBy 43 = .ok (.iload_n 1, 1) := by decide +kernel
theorem dX10_infoBy_44 : decode cX10_infoBy 44 = .ok (.iaload, 1) := by decide +kernel
theorem dX10_infoBy_45 : decode cX10_infoBy 45 = .ok (.ireturn, 1) := by decide +kernel
theorem dX10_infoBy_46 : decode cX10_infoBy 46 = .ok (.aload_n 0, 1) := by decide +kernel
theorem dX10_infoBy_47 : decode cX10_infoBy 47 = .ok (.getfield 26, 3) := by decide +kernel
theorem dX10_infoBy_50 : decode cX10_infoBy 50 = .ok (.iload_n 1, 1) := by decide +kernel
theorem dX10_infoBy_51 : decode cX10_infoBy 51 = .ok (.iaload, 1) := by decide +kernel
theorem dX10_infoBy_52 : decode cX10_infoBy 52 = .ok (.ireturn, 1) := by decide +kernel
theorem dX10_infoBy_53 : decode cX10_infoBy 53 = .ok (.aload_n 0, 1) := by decide +kernel
theorem dX10_infoBy_54 : decode cX10_infoBy 54 = .ok (.getfield 29, 3) := by decide +kernel
theorem dX10_infoBy_57 : decode cX10_infoBy 57 = .ok (.iload_n 1, 1) := by decide +kernel
theorem dX10_infoBy_58 : decode cX10_infoBy 58 = .ok (.iaload, 1) := by decide +kernel
theorem dX10_infoBy_59 : decode cX10_infoBy 59 = .ok (.ireturn, 1) := by decide +kernel
theorem dX10_infoBy_60 : decode cX10_infoBy 60 = .ok (.aload_n 0, 1) := by decide +kernel
theorem dX10_infoBy_61 : decode cX10_infoBy 61 = .ok (.getfield 32, 3) := by decide +kernel
theorem dX10_infoBy_64 : decode cX10_infoBy 64 = .ok (.iload_n 1, 1) := by decide +kernel
theorem dX10_infoBy_65 : decode cX10_infoBy 65 = .ok (.iaload, 1) := by decide +kernel
theorem dX10_infoBy_66 : decode cX10_infoBy 66 = .ok (.ireturn, 1) := by decide +kernel
theorem dX10_info_0 : decode cX10_info 0 = .ok (.aload_n 0, 1) := by decide +kernel
theorem dX10_info_1 : decode cX10_info 1 = .ok (.iload_n 1, 1) := by decide +kernel
theorem dX10_info_2 : decode cX10_info 2 = .ok (.invokevirtual 132, 3) := by decide +kernel
theorem dX10_info_5 : decode cX10_info 5 = .ok (.ifCond .eq 24, 3) := by decide +kernel
theorem dX10_info_8 : decode cX10_info 8 = .ok (.iload_n 2, 1) := by decide +kernel
theorem dX10_info_9 : decode cX10_info 9 = .ok (.i2l, 1) := by decide +kernel
theorem dX10_info_10 : decode cX10_info 10 = .ok (.lconst 0, 1) := by decide +kernel
theorem dX10_info_11 : decode cX10_info 11 = .ok (.ldc2_w 135, 3) := by decide +kernel
theorem dX10_info_14 : decode cX10_info 14 = .ok (.invokestatic 72, 3) := by decide +kernel
theorem dX10_info_17 : decode cX10_info 17 = .ok (.ifCond .eq 12, 3) := by decide +kernel
theorem dX10_info_20 : decode cX10_info 20 = .ok (.aload_n 0, 1) := by decide +kernel
theorem dX10_info_21 : decode cX10_info 21 = .ok (.iload_n 1, 1) := by decide +kernel
theorem dX10_info_22 : decode cX10_info 22 = .ok (.iload_n 2, 1) := by decide +kernel
theorem dX10_info_23 : decode cX10_info 23 = .ok (.invokevirtual 137, 3) := by decide +kernel
theorem dX10_info_26 : decode cX10_info 26 = .ok (.goto 5, 3) := by decide +kernel
theorem dX10_info_29 : decode cX10_info 29 = .ok (.bipush (-2), 2) := by decide +kernel
theorem dX10_info_31 : decode cX10_info 31 = .ok (.ireturn, 1) := by decide +kernel
theorem dX10_read_0 : decode cX10_read 0 = .ok (.iload_n 1, 1) := by decide +kernel
theorem dX10_read_1 : decode cX10_read 1 = .ok (.invokestatic 87, 3) := by decide +kernel
theorem dX10_read_4 : decode cX10_read 4 = .ok (.ifCond .ne 6, 3) := by decide +kernel
theorem dX10_read_7 : decode cX10_read 7 = .ok (.bipush (-2), 2) := by decide +kernel
theorem dX10_read_9 : decode cX10_read 9 = .ok (.ireturn, 1) := by decide +kernel
theorem dX10_read_10 : decode cX10_read 10 = .ok (.aload_n 0, 1) := by decide +kernel
theorem dX10_read_11 : decode cX10_read 11 = .ok (.getfield 7, 3) := by decide +kernel
theorem dX10_read_14 : decode cX10_read 14 = .ok (.iload_n 1, 1) := by decide +kernel
theorem dX10_read_15 : decode cX10_read 15 = .ok (.iaload, 1) := by decide +kernel
theorem dX10_read_16 : decode cX10_read 16 = .ok (.iconst (-1), 1) := by decide +kernel
theorem dX10_read_17 : decode cX10_read 17 = .ok (.if_icmp .ne 9, 3) := by decide +kernel
theorem dX10_read_20 : decode cX10_read 20 = .ok (.aload_n 0, 1) := by decide +kernel
theorem dX10_read_21 : decode cX10_read 21 = .ok (.iconst 1, 1) := by decide +kernel
theorem dX10_read_22 : decode cX10_read 22 = .ok (.invokevirtual 91, 3) := by decide +kernel
theorem dX10_read_25 : decode cX10_read 25 = .ok (.ireturn, 1) := by decide +kernel
theorem dX10_read_26 : decode cX10_read 26 = .ok (.iconst 0, 1) := by decide +kernel
theorem dX10_read_27 : decode cX10_read 27 = .ok (.istore_n 2, 1) := by decide +kernel
theorem dX10_read_28 : decode cX10_read 28 = .ok (.iconst 1, 1) := by decide +kernel
theorem dX10_read_29 : decode cX10_read 29 = .ok (.istore_n 3, 1) := by decide +kernel
theorem dX10_read_30 : decode cX10_read 30 = .ok (.iconst 0, 1) := by decide +kernel
theorem dX10_read_31 : decode cX10_read 31 = .ok (.istore 4, 2) := by decide +kernel
theorem dX10_read_33 : decode cX10_read 33 = .ok (.iconst 4, 1) := by decide +kernel
theorem dX10_read_34 : decode cX10_read 34 = .ok (.iload 4, 2) := by decide +kernel
theorem dX10_read_36 : decode cX10_read 36 = .ok (.imul, 1) := by decide +kernel
theorem dX10_read_37 : decode cX10_read 37 = .ok (.iconst 3, 1) := by decide +kernel
theorem dX10_read_38 : decode cX10_read 38 = .ok (.iadd, 1) := by decide +kernel
theorem dX10_read_39 : decode cX10_read 39 = .ok (.aload_n 0, 1) := by decide +kernel
theorem dX10_read_40 : decode cX10_read 40 = .ok (.getfield 7, 3) := by decide +kernel
theorem dX10_read_43 : decode cX10_read 43 = .ok (.iload_n 1, 1) := by decide +kernel
theorem dX10_read_44 : decode cX10_read 44 = .ok (.iaload, 1) := by decide +kernel
theorem dX10_read_45 : decode cX10_read 45 = .ok (.if_icmp .ge 129, 3) := by decide +kernel
theorem dX10_read_48 : decode cX10_read 48 = .ok (.iload_n 3, 1) := by decide +kernel
theorem dX10_read_49 : decode cX10_read 49 = .ok (.ifCond .eq 125, 3) := by decide +kernel
theorem dX10_read_52 : decode cX10_read 52 = .ok (.bipush 40, 2) := by decide +kernel
theorem dX10_read_54 : decode cX10_read 54 = .ok (.iload_n 1, 1) := by decide +kernel
theorem dX10_read_55 : decode cX10_read 55 = .ok (.imul, 1) := by decide +kernel
theorem dX10_read_56 : decode cX10_read 56 = .ok (.iconst 4, 1) := by decide +kernel
theorem dX10_read_57 : decode cX10_read 57 = .ok (.iload 4, 2) := by decide +kernel
theorem dX10_read_59 : decode cX10_read 59 = .ok (.imul, 1) := by decide +kernel
theorem dX10_read_60 : decode cX10_read 60 = .ok (.iadd, 1) := by decide +kernel
theorem dX10_read_61 : decode cX10_read 61 = .ok (.istore 5, 2) := by decide +kernel
theorem dX10_read_63 : decode cX10_read 63 = .ok (.aload_n 0, 1) := by decide +kernel
theorem dX10_read_64 : decode cX10_read 64 = .ok (.getfield 103, 3) := by decide +kernel
theorem dX10_read_67 : decode cX10_read 67 = .ok (.bipush 10, 2) := by decide +kernel
theorem dX10_read_69 : decode cX10_read 69 = .ok (.if_icmp .ge 48, 3) := by decide +kernel
theorem dX10_read_72 : decode cX10_read 72 = .ok (.aload_n 0, 1) := by decide +kernel
theorem dX10_read_73 : decode cX10_read 73 = .ok (.aload_n 0, 1) := by decide +kernel
theorem dX10_read_74 : decode cX10_read 74 = .ok (.getfield 13, 3) := by decide +kernel
theorem dX10_read_77 : decode cX10_read 77 = .ok (.iload 5, 2) := by decide +kernel
theorem dX10_read_79 : decode cX10_read 79 = .ok (.laload, 1) := by decide +kernel
theorem dX10_read_80 : decode cX10_read 80 = .ok (.aload_n 0, 1) := by decide +kernel
theorem dX10_read_81 : decode cX10_read 81 = .ok (.getfield 13, 3) := by decide +kernel
theorem dX10_read_84 : decode cX10_read 84 = .ok (.iload 5, 2) := by decide +kernel
theorem dX10_read_86 : decode cX10_read 86 = .ok (.iconst 1, 1) := by decide +kernel
theorem dX10_read_87 : decode cX10_read 87 = .ok (.iadd, 1) := by decide +kernel
theorem dX10_read_88 : decode cX10_read 88 = .ok (.laload, 1) := by decide +kernel
theorem dX10_read_89 : decode cX10_read 89 = .ok (.aload_n 0, 1) := by decide +kernel
theorem dX10_read_90 : decode cX10_read 90 = .ok (.getfield 13, 3) := by decide +kernel
theorem dX10_read_93 : decode cX10_read 93 = .ok (.iload 5, 2) := by decide +kernel
theorem dX10_read_95 : decode cX10_read 95 = .ok (.iconst 2, 1) := by decide +kernel
theorem dX10_read_96 : decode cX10_read 96 = .ok (.iadd, 1) := by decide +kernel
theorem dX10_read_97 : decode cX10_read 97 = .ok (.laload, 1) := by decide +kernel
theorem dX10_read_98 : decode cX10_read 98 = .ok (.aload_n 0, 1) := by decide +kernel
theorem dX10_read_99 : decode cX10_read 99 = .ok (.getfield 13, 3) := by decide +kernel
theorem dX10_read_102 : decode cX10_read 102 = .ok (.iload 5, 2) := by decide +kernel
theorem dX10_read_104 : decode cX10_read 104 = .ok (.iconst 3, 1) := by decide +kernel
theorem dX10_read_105 : decode cX10_read 105 = .ok (.iadd, 1) := by decide +kernel
theorem dX10_read_106 : decode cX10_read 106 = .ok (.laload, 1) := by decide +kernel
theorem dX10_read_107 : decode cX10_read 107 = .ok (.invokevirtual 124, 3) := by decide +kernel
theorem dX10_read_110 : decode cX10_read 110 = .ok (.ifCond .eq 7, 3) := by decide +kernel
theorem dX10_read_113 : decode cX10_read 113 = .ok (.iconst 1, 1) := by decide +kernel
theorem dX10_read_114 : decode cX10_read 114 = .ok (.goto 4, 3) := by decide +kernel
theorem dX10_read_117 : decode cX10_read 117 = .ok (.iconst 0, 1) := by decide +kernel
theorem dX10_read_118 : decode cX10_read 118 = .ok (.istore_n 3, 1) := by decide +kernel
theorem dX10_read_119 : decode cX10_read 119 = .ok (.iload_n 3, 1) := by decide +kernel
theorem dX10_read_120 : decode cX10_read 120 = .ok (.ifCond .eq 48, 3) := by decide +kernel
theorem dX10_read_123 : decode cX10_read 123 = .ok (.aload_n 0, 1) := by decide +kernel
theorem dX10_read_124 : decode cX10_read 124 = .ok (.aload_n 0, 1) := by decide +kernel
theorem dX10_read_125 : decode cX10_read 125 = .ok (.getfield 13, 3) := by decide +kernel
theorem dX10_read_128 : decode cX10_read 128 = .ok (.iload 5, 2) := by decide +kernel
theorem dX10_read_130 : decode cX10_read 130 = .ok (.laload, 1) := by decide +kernel
theorem dX10_read_131 : decode cX10_read 131 = .ok (.l2i, 1) := by decide +kernel
theorem dX10_read_132 : decode cX10_read 132 = .ok (.aload_n 0, 1) := by decide +kernel
theorem dX10_read_133 : decode cX10_read 133 = .ok (.getfield 13, 3) := by decide +kernel
theorem dX10_read_136 : decode cX10_read 136 = .ok (.iload 5, 2) := by decide +kernel
theorem dX10_read_138 : decode cX10_read 138 = .ok (.iconst 1, 1) := by decide +kernel
theorem dX10_read_139 : decode cX10_read 139 = .ok (.iadd, 1) := by decide +kernel
theorem dX10_read_140 : decode cX10_read 140 = .ok (.laload, 1) := by decide +kernel
theorem dX10_read_141 : decode cX10_read 141 = .ok (.l2i, 1) := by decide +kernel
theorem dX10_read_142 : decode cX10_read 142 = .ok (.aload_n 0, 1) := by decide +kernel
theorem dX10_read_143 : decode cX10_read 143 = .ok (.getfield 13, 3) := by decide +kernel
theorem dX10_read_146 : decode cX10_read 146 = .ok (.iload 5, 2) := by decide +kernel
theorem dX10_read_148 : decode cX10_read 148 = .ok (.iconst 2, 1) := by decide +kernel
theorem dX10_read_149 : decode cX10_read 149 = .ok (.iadd, 1) := by decide +kernel
theorem dX10_read_150 : decode cX10_read 150 = .ok (.laload, 1) := by decide +kernel
theorem dX10_read_151 : decode cX10_read 151 = .ok (.l2i, 1) := by decide +kernel
theorem dX10_read_152 : decode cX10_read 152 = .ok (.aload_n 0, 1) := by decide +kernel
theorem dX10_read_153 : decode cX10_read 153 = .ok (.getfield 13, 3) := by decide +kernel
theorem dX10_read_156 : decode cX10_read 156 = .ok (.iload 5, 2) := by decide +kernel
theorem dX10_read_158 : decode cX10_read 158 = .ok (.iconst 3, 1) := by decide +kernel
theorem dX10_read_159 : decode cX10_read 159 = .ok (.iadd, 1) := by decide +kernel
theorem dX10_read_160 : decode cX10_read 160 = .ok (.laload, 1) := by decide +kernel
theorem dX10_read_161 : decode cX10_read 161 = .ok (.l2i, 1) := by decide +kernel
theorem dX10_read_162 : decode cX10_read 162 = .ok (.invokevirtual 128, 3) := by decide +kernel
theorem dX10_read_165 : decode cX10_read 165 = .ok (.iinc 2 1, 3) := by decide +kernel
theorem dX10_read_168 : decode cX10_read 168 = .ok (.iinc 4 1, 3) := by decide +kernel
theorem dX10_read_171 : decode cX10_read 171 = .ok (.goto (-138), 3) := by decide +kernel
theorem dX10_read_174 : decode cX10_read 174 = .ok (.iload_n 2, 1) := by decide +kernel
theorem dX10_read_175 : decode cX10_read 175 = .ok (.ireturn, 1) := by decide +kernel
theorem dX10_wanted_0 : decode cX10_wanted 0 = .ok (.aload_n 0, 1) := by decide +kernel
theorem dX10_wanted_1 : decode cX10_wanted 1 = .ok (.getfield 108, 3) := by decide +kernel
theorem dX10_wanted_4 : decode cX10_wanted 4 = .ok (.iconst 1, 1) := by decide +kernel
theorem dX10_wanted_5 : decode cX10_wanted 5 = .ok (.aload_n 0, 1) := by decide +kernel
theorem dX10_wanted_6 : decode cX10_wanted 6 = .ok (.getfield 111, 3) := by decide +kernel
theorem dX10_wanted_9 : decode cX10_wanted 9 = .ok (.ishl, 1) := by decide +kernel
theorem dX10_wanted_10 : decode cX10_wanted 10 = .ok (.ior, 1) := by decide +kernel
theorem dX10_wanted_11 : decode cX10_wanted 11 = .ok (.ireturn, 1) := by decide +kernel
theorem dX10_joinedWith_0 : decode cX10_joinedWith 0 = .ok (.iconst 1, 1) := by decide +kernel
theorem dX10_joinedWith_1 : decode cX10_joinedWith 1 = .ok (.iload_n 2, 1) := by decide +kernel
theorem dX10_joinedWith_2 : decode cX10_joinedWith 2 = .ok (.ishl, 1) := by decide +kernel
theorem dX10_joinedWith_3 : decode cX10_joinedWith 3 = .ok (.istore_n 3, 1) := by decide +kernel
theorem dX10_joinedWith_4 : decode cX10_joinedWith 4 = .ok (.iconst 1, 1) := by decide +kernel
theorem dX10_joinedWith_5 : decode cX10_joinedWith 5 = .ok (.istore 4, 2) := by decide +kernel
theorem dX10_joinedWith_7 : decode cX10_joinedWith 7 = .ok (.iload 4, 2) := by decide +kernel
theorem dX10_joinedWith_9 : decode cX10_joinedWith 9 = .ok (.ifCond .eq 82, 3) := by decide +kernel
theorem dX10_joinedWith_12 : decode cX10_joinedWith 12 = .ok (.iconst 0, 1) := by decide +kernel
theorem dX10_joinedWith_13 : decode cX10_joinedWith 13 = .ok (.istore 4, 2) := by decide +kernel
theorem dX10_joinedWith_15 : decode cX10_joinedWith 15 = .ok (.iconst 0, 1) := by decide +kernel
theorem dX10_joinedWith_16 : decode cX10_joinedWith 16 = .ok (.istore 5, 2) := by decide +kernel
theorem dX10_joinedWith_18 : decode cX10_joinedWith 18 = .ok (.iload 5, 2) := by decide +kernel
theorem dX10_joinedWith_20 : decode cX10_joinedWith 20 = .ok (.aload_n 0, 1) := by decide +kernel
theorem dX10_joinedWith_21 : decode cX10_joinedWith 21 = .ok (.getfield 103, 3) := by decide +kernel
theorem dX10_joinedWith_24 : decode cX10_joinedWith 24 = .ok (.if_icmp .ge 64, 3) := by decide +kernel
theorem dX10_joinedWith_27 : decode cX10_joinedWith 27 = .ok (.iconst 1, 1) := by decide +kernel
theorem dX10_joinedWith_28 : decode cX10_joinedWith 28 = .ok (.aload_n 0, 1) := by decide +kernel
theorem dX10_joinedWith_29 : decode cX10_joinedWith 29 = .ok (.getfield 20, 3) := by decide +kernel
theorem dX10_joinedWith_32 : decode cX10_joinedWith 32 = .ok (.iload 5, 2) := by decide +kernel
theorem dX10_joinedWith_34 : decode cX10_joinedWith 34 = .ok (.iaload, 1) := by decide +kernel
theorem dX10_joinedWith_35 : decode cX10_joinedWith 35 = .ok (.ishl, 1) := by decide +kernel
theorem dX10_joinedWith_36 : decode cX10_joinedWith 36 = .ok (.iconst 1, 1) := by decide +kernel
theorem dX10_joinedWith_37 : decode cX10_joinedWith 37 = .ok (.aload_n 0, 1) := by decide +kernel
theorem dX10_joinedWith_38 : decode cX10_joinedWith 38 = .ok (.getfield 23, 3) := by decide +kernel
theorem dX10_joinedWith_41 : decode cX10_joinedWith 41 = .ok (.iload 5, 2) := by decide +kernel
theorem dX10_joinedWith_43 : decode cX10_joinedWith 43 = .ok (.iaload, 1) := by decide +kernel
theorem dX10_joinedWith_44 : decode cX10_joinedWith 44 = .ok (.ishl, 1) := by decide +kernel
theorem dX10_joinedWith_45 : decode cX10_joinedWith 45 = .ok (.ior, 1) := by decide +kernel
theorem dX10_joinedWith_46 : decode cX10_joinedWith 46 = .ok (.istore 6, 2) := by decide +kernel
theorem dX10_joinedWith_48 : decode cX10_joinedWith 48 = .ok (.iload_n 1, 1) := by decide +kernel
theorem dX10_joinedWith_49 : decode cX10_joinedWith 49 = .ok (.iload 5, 2) := by decide +kernel
theorem dX10_joinedWith_51 : decode cX10_joinedWith 51 = .ok (.ishr, 1) := by decide +kernel
theorem dX10_joinedWith_52 : decode cX10_joinedWith 52 = .ok (.iconst 1, 1) := by decide +kernel
theorem dX10_joinedWith_53 : decode cX10_joinedWith 53 = .ok (.iand, 1) := by decide +kernel
theorem dX10_joinedWith_54 : decode cX10_joinedWith 54 = .ok (.iconst 1, 1) := by decide +kernel
theorem dX10_joinedWith_55 : decode cX10_joinedWith 55 = .ok (.if_icmp .ne 27, 3) := by decide +kernel
theorem dX10_joinedWith_58 : decode cX10_joinedWith 58 = .ok (.iload_n 3, 1) := by decide +kernel
theorem dX10_joinedWith_59 : decode cX10_joinedWith 59 = .ok (.iload 6, 2) := by decide +kernel
theorem dX10_joinedWith_61 : decode cX10_joinedWith 61 = .ok (.iand, 1) := by decide +kernel
theorem dX10_joinedWith_62 : decode cX10_joinedWith 62 = .ok (.ifCond .eq 20, 3) := by decide +kernel
theorem dX10_joinedWith_65 : decode cX10_joinedWith 65 = .ok (.iload_n 3, 1) := by decide +kernel
theorem dX10_joinedWith_66 : decode cX10_joinedWith 66 = .ok (.iload 6, 2) := by decide +kernel
theorem dX10_joinedWith_68 : decode cX10_joinedWith 68 = .ok (.iand, 1) := by decide +kernel
theorem dX10_joinedWith_69 : decode cX10_joinedWith 69 = .ok (.iload 6, 2) := by decide +kernel
theorem dX10_joinedWith_71 : decode cX10_joinedWith 71 = .ok (.if_icmp .eq 11, 3) := by decide +kernel
theorem dX10_joinedWith_74 : decode cX10_joinedWith 74 = .ok (.iload_n 3, 1) := by decide +kernel
theorem dX10_joinedWith_75 : decode cX10_joinedWith 75 = .ok (.iload 6, 2) := by decide +kernel
theorem dX10_joinedWith_77 : decode cX10_joinedWith 77 = .ok (.ior, 1) := by decide +kernel
theorem dX10_joinedWith_78 : decode cX10_joinedWith 78 = .ok (.istore_n 3, 1) := by decide +kernel
theorem dX10_joinedWith_79 : decode cX10_joinedWith 79 = .ok (.iconst 1, 1) := by decide +kernel
theorem dX10_joinedWith_80 : decode cX10_joinedWith 80 = .ok (.istore 4, 2) := by decide +kernel
theorem dX10_joinedWith_82 : decode cX10_joinedWith 82 = .ok (.iinc 5 1, 3) := by decide +kernel
theorem dX10_joinedWith_85 : decode cX10_joinedWith 85 = .ok (.goto (-67), 3) := by decide +kernel
theorem dX10_joinedWith_88 : decode cX10_joinedWith 88 = .ok (.goto (-81), 3) := by decide +kernel
theorem dX10_joinedWith_91 : decode cX10_joinedWith 91 = .ok (.iload_n 3, 1) := by decide +kernel
theorem dX10_joinedWith_92 : decode cX10_joinedWith 92 = .ok (.ireturn, 1) := by decide +kernel
theorem dX10_reaches_0 : decode cX10_reaches 0 = .ok (.aload_n 0, 1) := by decide +kernel
theorem dX10_reaches_1 : decode cX10_reaches 1 = .ok (.iload_n 1, 1) := by decide +kernel
theorem dX10_reaches_2 : decode cX10_reaches 2 = .ok (.aload_n 0, 1) := by decide +kernel
theorem dX10_reaches_3 : decode cX10_reaches 3 = .ok (.getfield 111, 3) := by decide +kernel
theorem dX10_reaches_6 : decode cX10_reaches 6 = .ok (.invokevirtual 140, 3) := by decide +kernel
theorem dX10_reaches_9 : decode cX10_reaches 9 = .ok (.iload_n 2, 1) := by decide +kernel
theorem dX10_reaches_10 : decode cX10_reaches 10 = .ok (.iand, 1) := by decide +kernel
theorem dX10_reaches_11 : decode cX10_reaches 11 = .ok (.iload_n 2, 1) := by decide +kernel
theorem dX10_reaches_12 : decode cX10_reaches 12 = .ok (.if_icmp .ne 7, 3) := by decide +kernel
theorem dX10_reaches_15 : decode cX10_reaches 15 = .ok (.iconst 1, 1) := by decide +kernel
theorem dX10_reaches_16 : decode cX10_reaches 16 = .ok (.goto 4, 3) := by decide +kernel
theorem dX10_reaches_19 : decode cX10_reaches 19 = .ok (.iconst 0, 1) := by decide +kernel
theorem dX10_reaches_20 : decode cX10_reaches 20 = .ok (.ireturn, 1) := by decide +kernel
theorem dX10_asItIs_0 : decode cX10_asItIs 0 = .ok (.iconst 0, 1) := by decide +kernel
theorem dX10_asItIs_1 : decode cX10_asItIs 1 = .ok (.istore_n 1, 1) := by decide +kernel
theorem dX10_asItIs_2 : decode cX10_asItIs 2 = .ok (.iload_n 1, 1) := by decide +kernel
theorem dX10_asItIs_3 : decode cX10_asItIs 3 = .ok (.aload_n 0, 1) := by decide +kernel
theorem dX10_asItIs_4 : decode cX10_asItIs 4 = .ok (.getfield 103, 3) := by decide +kernel
theorem dX10_asItIs_7 : decode cX10_asItIs 7 = .ok (.if_icmp .ge 73, 3) := by decide +kernel
theorem dX10_asItIs_10 : decode cX10_asItIs 10 = .ok (.aload_n 0, 1) := by decide +kernel
theorem dX10_asItIs_11 : decode cX10_asItIs 11 = .ok (.getfield 35, 3) := by decide +kernel
theorem dX10_asItIs_14 : decode cX10_asItIs 14 = .ok (.iload_n 1, 1) := by decide +kernel
theorem dX10_asItIs_15 : decode cX10_asItIs 15 = .ok (.aload_n 0, 1) := by decide +kernel
theorem dX10_asItIs_16 : decode cX10_asItIs 16 = .ok (.getfield 32, 3) := by decide +kernel
theorem dX10_asItIs_19 : decode cX10_asItIs 19 = .ok (.iload_n 1, 1) := by decide +kernel
theorem dX10_asItIs_20 : decode cX10_asItIs 20 = .ok (.iaload, 1) := by decide +kernel
theorem dX10_asItIs_21 : decode cX10_asItIs 21 = .ok (.ifCond .ne 12, 3) := by decide +kernel
theorem dX10_asItIs_24 : decode cX10_asItIs 24 = .ok (.aload_n 0, 1) := by decide +kernel
theorem dX10_asItIs_25 : decode cX10_asItIs 25 = .ok (.getfield 26, 3) := by decide +kernel
theorem dX10_asItIs_28 : decode cX10_asItIs 28 = .ok (.iload_n 1, 1) := by decide +kernel
theorem dX10_asItIs_29 : decode cX10_asItIs 29 = .ok (.iaload, 1) := by decide +kernel
theorem dX10_asItIs_30 : decode cX10_asItIs 30 = .ok (.goto 18, 3) := by decide +kernel
theorem dX10_asItIs_33 : decode cX10_asItIs 33 = .ok (.aload_n 0, 1) := by decide +kernel
theorem dX10_asItIs_34 : decode cX10_asItIs 34 = .ok (.getfield 32, 3) := by decide +kernel
theorem dX10_asItIs_37 : decode cX10_asItIs 37 = .ok (.iload_n 1, 1) := by decide +kernel
theorem dX10_asItIs_38 : decode cX10_asItIs 38 = .ok (.iaload, 1) := by decide +kernel
theorem dX10_asItIs_39 : decode cX10_asItIs 39 = .ok (.iconst 1, 1) := by decide +kernel
theorem dX10_asItIs_40 : decode cX10_asItIs 40 = .ok (.if_icmp .ne 7, 3) := by decide +kernel
theorem dX10_asItIs_43 : decode cX10_asItIs 43 = .ok (.iconst 1, 1) := by decide +kernel
theorem dX10_asItIs_44 : decode cX10_asItIs 44 = .ok (.goto 4, 3) := by decide +kernel
theorem dX10_asItIs_47 : decode cX10_asItIs 47 = .ok (.iconst 0, 1) := by decide +kernel
theorem dX10_asItIs_48 : decode cX10_asItIs 48 = .ok (.iastore, 1) := by decide +kernel
theorem dX10_asItIs_49 : decode cX10_asItIs 49 = .ok (.aload_n 0, 1) := by decide +kernel
theorem dX10_asItIs_50 : decode cX10_asItIs 50 = .ok (.getfield 38, 3) := by decide +kernel
theorem dX10_asItIs_53 : decode cX10_asItIs 53 = .ok (.iload_n 1, 1) := by decide +kernel
theorem dX10_asItIs_54 : decode cX10_asItIs 54 = .ok (.aload_n 0, 1) := by decide +kernel
theorem dX10_asItIs_55 : decode cX10_asItIs 55 = .ok (.getfield 32, 3) := by decide +kernel
theorem dX10_asItIs_58 : decode cX10_asItIs 58 = .ok (.iload_n 1, 1) := by decide +kernel
theorem dX10_asItIs_59 : decode cX10_asItIs 59 = .ok (.iaload, 1) := by decide +kernel
theorem dX10_asItIs_60 : decode cX10_asItIs 60 = .ok (.ifCond .ne 12, 3) := by decide +kernel
theorem dX10_asItIs_63 : decode cX10_asItIs 63 = .ok (.aload_n 0, 1) := by decide +kernel
theorem dX10_asItIs_64 : decode cX10_asItIs 64 = .ok (.getfield 29, 3) := by decide +kernel
theorem dX10_asItIs_67 : decode cX10_asItIs 67 = .ok (.iload_n 1, 1) := by decide +kernel
theorem dX10_asItIs_68 : decode cX10_asItIs 68 = .ok (.iaload, 1) := by decide +kernel
theorem dX10_asItIs_69 : decode cX10_asItIs 69 = .ok (.goto 4, 3) := by decide +kernel
theorem dX10_asItIs_72 : decode cX10_asItIs 72 = .ok (.iconst 1, 1) := by decide +kernel
theorem dX10_asItIs_73 : decode cX10_asItIs 73 = .ok (.iastore, 1) := by decide +kernel
theorem dX10_asItIs_74 : decode cX10_asItIs 74 = .ok (.iinc 1 1, 3) := by decide +kernel
theorem dX10_asItIs_77 : decode cX10_asItIs 77 = .ok (.goto (-75), 3) := by decide +kernel
theorem dX10_asItIs_80 : decode cX10_asItIs 80 = .ok (.return_, 1) := by decide +kernel
theorem dX10_below_0 : decode cX10_below 0 = .ok (.lconst 1, 1) := by decide +kernel
theorem dX10_below_1 : decode cX10_below 1 = .ok (.lstore_n 1, 1) := by decide +kernel
theorem dX10_below_2 : decode cX10_below 2 = .ok (.iconst 0, 1) := by decide +kernel
theorem dX10_below_3 : decode cX10_below 3 = .ok (.istore_n 3, 1) := by decide +kernel
theorem dX10_below_4 : decode cX10_below 4 = .ok (.iload_n 3, 1) := by decide +kernel
theorem dX10_below_5 : decode cX10_below 5 = .ok (.aload_n 0, 1) := by decide +kernel
theorem dX10_below_6 : decode cX10_below 6 = .ok (.getfield 103, 3) := by decide +kernel
theorem dX10_below_9 : decode cX10_below 9 = .ok (.if_icmp .ge 19, 3) := by decide +kernel
theorem dX10_below_12 : decode cX10_below 12 = .ok (.lload_n 1, 1) := by decide +kernel
theorem dX10_below_13 : decode cX10_below 13 = .ok (.aload_n 0, 1) := by decide +kernel
theorem dX10_below_14 : decode cX10_below 14 = .ok (.getfield 38, 3) := by decide +kernel
theorem dX10_below_17 : decode cX10_below 17 = .ok (.iload_n 3, 1) := by decide +kernel
theorem dX10_below_18 : decode cX10_below 18 = .ok (.iaload, 1) := by decide +kernel
theorem dX10_below_19 : decode cX10_below 19 = .ok (.i2l, 1) := by decide +kernel
theorem dX10_below_20 : decode cX10_below 20 = .ok (.lmul, 1) := by decide +kernel
theorem dX10_below_21 : decode cX10_below 21 = .ok (.lstore_n 1, 1) := by decide +kernel
theorem dX10_below_22 : decode cX10_below 22 = .ok (.iinc 3 1, 3) := by decide +kernel
theorem dX10_below_25 : decode cX10_below 25 = .ok (.goto (-21), 3) := by decide +kernel
theorem dX10_below_28 : decode cX10_below 28 = .ok (.lload_n 1, 1) := by decide +kernel
theorem dX10_below_29 : decode cX10_below 29 = .ok (.lreturn, 1) := by decide +kernel
theorem dX10_weight_0 : decode cX10_weight 0 = .ok (.lconst 1, 1) := by decide +kernel
theorem dX10_weight_1 : decode cX10_weight 1 = .ok (.lstore_n 2, 1) := by decide +kernel
theorem dX10_weight_2 : decode cX10_weight 2 = .ok (.iconst 0, 1) := by decide +kernel
theorem dX10_weight_3 : decode cX10_weight 3 = .ok (.istore 4, 2) := by decide +kernel
theorem dX10_weight_5 : decode cX10_weight 5 = .ok (.iload 4, 2) := by decide +kernel
theorem dX10_weight_7 : decode cX10_weight 7 = .ok (.aload_n 0, 1) := by decide +kernel
theorem dX10_weight_8 : decode cX10_weight 8 = .ok (.getfield 103, 3) := by decide +kernel
theorem dX10_weight_11 : decode cX10_weight 11 = .ok (.if_icmp .ge 49, 3) := by decide +kernel
theorem dX10_weight_14 : decode cX10_weight 14 = .ok (.lload_n 2, 1) := by decide +kernel
theorem dX10_weight_15 : decode cX10_weight 15 = .ok (.iload_n 1, 1) := by decide +kernel
theorem dX10_weight_16 : decode cX10_weight 16 = .ok (.iload 4, 2) := by decide +kernel
theorem dX10_weight_18 : decode cX10_weight 18 = .ok (.ishr, 1) := by decide +kernel
theorem dX10_weight_19 : decode cX10_weight 19 = .ok (.iconst 1, 1) := by decide +kernel
theorem dX10_weight_20 : decode cX10_weight 20 = .ok (.iand, 1) := by decide +kernel
theorem dX10_weight_21 : decode cX10_weight 21 = .ok (.iconst 1, 1) := by decide +kernel
theorem dX10_weight_22 : decode cX10_weight 22 = .ok (.if_icmp .ne 14, 3) := by decide +kernel
theorem dX10_weight_25 : decode cX10_weight 25 = .ok (.aload_n 0, 1) := by decide +kernel
theorem dX10_weight_26 : decode cX10_weight 26 = .ok (.getfield 35, 3) := by decide +kernel
theorem dX10_weight_29 : decode cX10_weight 29 = .ok (.iload 4, 2) := by decide +kernel
theorem dX10_weight_31 : decode cX10_weight 31 = .ok (.iaload, 1) := by decide +kernel
theorem dX10_weight_32 : decode cX10_weight 32 = .ok (.i2l, 1) := by decide +kernel
theorem dX10_weight_33 : decode cX10_weight 33 = .ok (.goto 19, 3) := by decide +kernel
theorem dX10_weight_36 : decode cX10_weight 36 = .ok (.aload_n 0, 1) := by decide +kernel
theorem dX10_weight_37 : decode cX10_weight 37 = .ok (.getfield 38, 3) := by decide +kernel
theorem dX10_weight_40 : decode cX10_weight 40 = .ok (.iload 4, 2) := by decide +kernel
theorem dX10_weight_42 : decode cX10_weight 42 = .ok (.iaload, 1) := by decide +kernel
theorem dX10_weight_43 : decode cX10_weight 43 = .ok (.aload_n 0, 1) := by decide +kernel
theorem dX10_weight_44 : decode cX10_weight 44 = .ok (.getfield 35, 3) := by decide +kernel
theorem dX10_weight_47 : decode cX10_weight 47 = .ok (.iload 4, 2) := by decide +kernel
theorem dX10_weight_49 : decode cX10_weight 49 = .ok (.iaload, 1) := by decide +kernel
theorem dX10_weight_50 : decode cX10_weight 50 = .ok (.isub, 1) := by decide +kernel
theorem dX10_weight_51 : decode cX10_weight 51 = .ok (.i2l, 1) := by decide +kernel
theorem dX10_weight_52 : decode cX10_weight 52 = .ok (.lmul, 1) := by decide +kernel
theorem dX10_weight_53 : decode cX10_weight 53 = .ok (.lstore_n 2, 1) := by decide +kernel
theorem dX10_weight_54 : decode cX10_weight 54 = .ok (.iinc 4 1, 3) := by decide +kernel
theorem dX10_weight_57 : decode cX10_weight 57 = .ok (.goto (-52), 3) := by decide +kernel
theorem dX10_weight_60 : decode cX10_weight 60 = .ok (.lload_n 2, 1) := by decide +kernel
theorem dX10_weight_61 : decode cX10_weight 61 = .ok (.lreturn, 1) := by decide +kernel
theorem dX10_above_0 : decode cX10_above 0 = .ok (.lconst 0, 1) := by decide +kernel
theorem dX10_above_1 : decode cX10_above 1 = .ok (.lstore_n 3, 1) := by decide +kernel
theorem dX10_above_2 : decode cX10_above 2 = .ok (.iconst 0, 1) := by decide +kernel
theorem dX10_above_3 : decode cX10_above 3 = .ok (.istore 5, 2) := by decide +kernel
theorem dX10_above_5 : decode cX10_above 5 = .ok (.iload 5, 2) := by decide +kernel
theorem dX10_above_7 : decode cX10_above 7 = .ok (.iconst 1, 1) := by decide +kernel
theorem dX10_above_8 : decode cX10_above 8 = .ok (.aload_n 0, 1) := by decide +kernel
theorem dX10_above_9 : decode cX10_above 9 = .ok (.getfield 103, 3) := by decide +kernel
theorem dX10_above_12 : decode cX10_above 12 = .ok (.ishl, 1) := by decide +kernel
theorem dX10_above_13 : decode cX10_above 13 = .ok (.if_icmp .ge 46, 3) := by decide +kernel
theorem dX10_above_16 : decode cX10_above 16 = .ok (.aload_n 0, 1) := by decide +kernel
theorem dX10_above_17 : decode cX10_above 17 = .ok (.iload 5, 2) := by decide +kernel
theorem dX10_above_19 : decode cX10_above 19 = .ok (.invokevirtual 143, 3) := by decide +kernel
theorem dX10_above_22 : decode cX10_above 22 = .ok (.lstore 6, 2) := by decide +kernel
theorem dX10_above_24 : decode cX10_above 24 = .ok (.lload_n 3, 1) := by decide +kernel
theorem dX10_above_25 : decode cX10_above 25 = .ok (.lload 6, 2) := by decide +kernel
theorem dX10_above_27 : decode cX10_above 27 = .ok (.lconst 0, 1) := by decide +kernel
theorem dX10_above_28 : decode cX10_above 28 = .ok (.lcmp, 1) := by decide +kernel
theorem dX10_above_29 : decode cX10_above 29 = .ok (.ifCond .le 21, 3) := by decide +kernel
theorem dX10_above_32 : decode cX10_above 32 = .ok (.aload_n 0, 1) := by decide +kernel
theorem dX10_above_33 : decode cX10_above 33 = .ok (.iload 5, 2) := by decide +kernel
theorem dX10_above_35 : decode cX10_above 35 = .ok (.iload_n 1, 1) := by decide +kernel
theorem dX10_above_36 : decode cX10_above 36 = .ok (.invokevirtual 140, 3) := by decide +kernel
theorem dX10_above_39 : decode cX10_above 39 = .ok (.iload_n 2, 1) := by decide +kernel
theorem dX10_above_40 : decode cX10_above 40 = .ok (.iand, 1) := by decide +kernel
theorem dX10_above_41 : decode cX10_above 41 = .ok (.iload_n 2, 1) := by decide +kernel
theorem dX10_above_42 : decode cX10_above 42 = .ok (.if_icmp .ne 8, 3) := by decide +kernel
theorem dX10_above_45 : decode cX10_above 45 = .ok (.lload 6, 2) := by decide +kernel
theorem dX10_above_47 : decode cX10_above 47 = .ok (.goto 4, 3) := by decide +kernel
theorem dX10_above_50 : decode cX10_above 50 = .ok (.lconst 0, 1) := by decide +kernel
theorem dX10_above_51 : decode cX10_above 51 = .ok (.ladd, 1) := by decide +kernel
theorem dX10_above_52 : decode cX10_above 52 = .ok (.lstore_n 3, 1) := by decide +kernel
theorem dX10_above_53 : decode cX10_above 53 = .ok (.iinc 5 1, 3) := by decide +kernel
theorem dX10_above_56 : decode cX10_above 56 = .ok (.goto (-51), 3) := by decide +kernel
theorem dX10_above_59 : decode cX10_above 59 = .ok (.lload_n 3, 1) := by decide +kernel
theorem dX10_above_60 : decode cX10_above 60 = .ok (.lreturn, 1) := by decide +kernel
theorem dX10_reachBy_0 : decode cX10_reachBy 0 = .ok (.aload_n 0, 1) := by decide +kernel
theorem dX10_reachBy_1 : decode cX10_reachBy 1 = .ok (.invokevirtual 146, 3) := by decide +kernel
theorem dX10_reachBy_4 : decode cX10_reachBy 4 = .ok (.aload_n 0, 1) := by decide +kernel
theorem dX10_reachBy_5 : decode cX10_reachBy 5 = .ok (.aload_n 0, 1) := by decide +kernel
theorem dX10_reachBy_6 : decode cX10_reachBy 6 = .ok (.getfield 111, 3) := by decide +kernel
theorem dX10_reachBy_9 : decode cX10_reachBy 9 = .ok (.aload_n 0, 1) := by decide +kernel
theorem dX10_reachBy_10 : decode cX10_reachBy 10 = .ok (.invokevirtual 149, 3) := by decide +kernel
theorem dX10_reachBy_13 : decode cX10_reachBy 13 = .ok (.invokevirtual 153, 3) := by decide +kernel
theorem dX10_reachBy_16 : decode cX10_reachBy 16 = .ok (.aload_n 0, 1) := by decide +kernel
theorem dX10_reachBy_17 : decode cX10_reachBy 17 = .ok (.invokevirtual 157, 3) := by decide +kernel
theorem dX10_reachBy_20 : decode cX10_reachBy 20 = .ok (.iload_n 1, 1) := by decide +kernel
theorem dX10_reachBy_21 : decode cX10_reachBy 21 = .ok (.invokestatic 161, 3) := by decide +kernel
theorem dX10_reachBy_24 : decode cX10_reachBy 24 = .ok (.lreturn, 1) := by decide +kernel
theorem dX10_reach_0 : decode cX10_reach 0 = .ok (.iload_n 1, 1) := by decide +kernel
theorem dX10_reach_1 : decode cX10_reach 1 = .ok (.invokestatic 165, 3) := by decide +kernel
theorem dX10_reach_4 : decode cX10_reach 4 = .ok (.ifCond .eq 11, 3) := by decide +kernel
theorem dX10_reach_7 : decode cX10_reach 7 = .ok (.aload_n 0, 1) := by decide +kernel
theorem dX10_reach_8 : decode cX10_reach 8 = .ok (.iload_n 1, 1) := by decide +kernel
theorem dX10_reach_9 : decode cX10_reach 9 = .ok (.invokevirtual 168, 3) := by decide +kernel
theorem dX10_reach_12 : decode cX10_reach 12 = .ok (.goto 8, 3) := by decide +kernel
theorem dX10_reach_15 : decode cX10_reach 15 = .ok (.bipush (-2), 2) := by decide +kernel
theorem dX10_reach_17 : decode cX10_reach 17 = .ok (.invokestatic 99, 3) := by decide +kernel
theorem dX10_reach_20 : decode cX10_reach 20 = .ok (.lreturn, 1) := by decide +kernel
theorem dX10_pairBy_0 : decode cX10_pairBy 0 = .ok (.aload_n 0, 1) := by decide +kernel
theorem dX10_pairBy_1 : decode cX10_pairBy 1 = .ok (.invokevirtual 146, 3) := by decide +kernel
theorem dX10_pairBy_4 : decode cX10_pairBy 4 = .ok (.aload_n 0, 1) := by decide +kernel
theorem dX10_pairBy_5 : decode cX10_pairBy 5 = .ok (.iload_n 1, 1) := by decide +kernel
theorem dX10_pairBy_6 : decode cX10_pairBy 6 = .ok (.iconst 1, 1) := by decide +kernel
theorem dX10_pairBy_7 : decode cX10_pairBy 7 = .ok (.iload_n 2, 1) := by decide +kernel
theorem dX10_pairBy_8 : decode cX10_pairBy 8 = .ok (.ishl, 1) := by decide +kernel
theorem dX10_pairBy_9 : decode cX10_pairBy 9 = .ok (.invokevirtual 153, 3) := by decide +kernel
theorem dX10_pairBy_12 : decode cX10_pairBy 12 = .ok (.aload_n 0, 1) := by decide +kernel
theorem dX10_pairBy_13 : decode cX10_pairBy 13 = .ok (.invokevirtual 157, 3) := by decide +kernel
theorem dX10_pairBy_16 : decode cX10_pairBy 16 = .ok (.iload_n 3, 1) := by decide +kernel
theorem dX10_pairBy_17 : decode cX10_pairBy 17 = .ok (.invokestatic 161, 3) := by decide +kernel
theorem dX10_pairBy_20 : decode cX10_pairBy 20 = .ok (.lreturn, 1) := by decide +kernel
theorem dX10_pair_0 : decode cX10_pair 0 = .ok (.aload_n 0, 1) := by decide +kernel
theorem dX10_pair_1 : decode cX10_pair 1 = .ok (.iload_n 1, 1) := by decide +kernel
theorem dX10_pair_2 : decode cX10_pair 2 = .ok (.i2l, 1) := by decide +kernel
theorem dX10_pair_3 : decode cX10_pair 3 = .ok (.invokevirtual 116, 3) := by decide +kernel
theorem dX10_pair_6 : decode cX10_pair 6 = .ok (.ifCond .eq 29, 3) := by decide +kernel
theorem dX10_pair_9 : decode cX10_pair 9 = .ok (.aload_n 0, 1) := by decide +kernel
theorem dX10_pair_10 : decode cX10_pair 10 = .ok (.iload_n 2, 1) := by decide +kernel
theorem dX10_pair_11 : decode cX10_pair 11 = .ok (.i2l, 1) := by decide +kernel
theorem dX10_pair_12 : decode cX10_pair 12 = .ok (.invokevirtual 116, 3) := by decide +kernel
theorem dX10_pair_15 : decode cX10_pair 15 = .ok (.ifCond .eq 20, 3) := by decide +kernel
theorem dX10_pair_18 : decode cX10_pair 18 = .ok (.iload_n 3, 1) := by decide +kernel
theorem dX10_pair_19 : decode cX10_pair 19 = .ok (.invokestatic 165, 3) := by decide +kernel
theorem dX10_pair_22 : decode cX10_pair 22 = .ok (.ifCond .eq 13, 3) := by decide +kernel
theorem dX10_pair_25 : decode cX10_pair 25 = .ok (.aload_n 0, 1) := by decide +kernel
theorem dX10_pair_26 : decode cX10_pair 26 = .ok (.iload_n 1, 1) := by decide +kernel
theorem dX10_pair_27 : decode cX10_pair 27 = .ok (.iload_n 2, 1) := by decide +kernel
theorem dX10_pair_28 : decode cX10_pair 28 = .ok (.iload_n 3, 1) := by decide +kernel
theorem dX10_pair_29 : decode cX10_pair 29 = .ok (.invokevirtual 171, 3) := by decide +kernel
theorem dX10_pair_32 : decode cX10_pair 32 = .ok (.goto 8, 3) := by decide +kernel
theorem dX10_pair_35 : decode cX10_pair 35 = .ok (.bipush (-2), 2) := by decide +kernel
theorem dX10_pair_37 : decode cX10_pair 37 = .ok (.invokestatic 99, 3) := by decide +kernel
theorem dX10_pair_40 : decode cX10_pair 40 = .ok (.lreturn, 1) := by decide +kernel
theorem dX10_ruleBy_0 : decode cX10_ruleBy 0 = .ok (.aload_n 0, 1) := by decide +kernel
theorem dX10_ruleBy_1 : decode cX10_ruleBy 1 = .ok (.invokevirtual 146, 3) := by decide +kernel
theorem dX10_ruleBy_4 : decode cX10_ruleBy 4 = .ok (.lconst 0, 1) := by decide +kernel
theorem dX10_ruleBy_5 : decode cX10_ruleBy 5 = .ok (.lstore_n 2, 1) := by decide +kernel
theorem dX10_ruleBy_6 : decode cX10_ruleBy 6 = .ok (.iconst 0, 1) := by decide +kernel
theorem dX10_ruleBy_7 : decode cX10_ruleBy 7 = .ok (.istore 4, 2) := by decide +kernel
theorem dX10_ruleBy_9 : decode cX10_ruleBy 9 = .ok (.iload 4, 2) := by decide +kernel
theorem dX10_ruleBy_11 : decode cX10_ruleBy 11 = .ok (.aload_n 0, 1) := by decide +kernel
theorem dX10_ruleBy_12 : decode cX10_ruleBy 12 = .ok (.getfield 68, 3) := by decide +kernel
theorem dX10_ruleBy_15 : decode cX10_ruleBy 15 = .ok (.if_icmp .ge 24, 3) := by decide +kernel
theorem dX10_ruleBy_18 : decode cX10_ruleBy 18 = .ok (.lload_n 2, 1) := by decide +kernel
theorem dX10_ruleBy_19 : decode cX10_ruleBy 19 = .ok (.aload_n 0, 1) := by decide +kernel
theorem dX10_ruleBy_20 : decode cX10_ruleBy 20 = .ok (.aload_n 0, 1) := by decide +kernel
theorem dX10_ruleBy_21 : decode cX10_ruleBy 21 = .ok (.getfield 111, 3) := by decide +kernel
theorem dX10_ruleBy_24 : decode cX10_ruleBy 24 = .ok (.iconst 1, 1) := by decide +kernel
theorem dX10_ruleBy_25 : decode cX10_ruleBy 25 = .ok (.iload 4, 2) := by decide +kernel
theorem dX10_ruleBy_27 : decode cX10_ruleBy 27 = .ok (.ishl, 1) := by decide +kernel
theorem dX10_ruleBy_28 : decode cX10_ruleBy 28 = .ok (.invokevirtual 153, 3) := by decide +kernel
theorem dX10_ruleBy_31 : decode cX10_ruleBy 31 = .ok (.ladd, 1) := by decide +kernel
theorem dX10_ruleBy_32 : decode cX10_ruleBy 32 = .ok (.lstore_n 2, 1) := by decide +kernel
theorem dX10_ruleBy_33 : decode cX10_ruleBy 33 = .ok (.iinc 4 1, 3) := by decide +kernel
theorem dX10_ruleBy_36 : decode cX10_ruleBy 36 = .ok (.goto (-27), 3) := by decide +kernel
theorem dX10_ruleBy_39 : decode cX10_ruleBy 39 = .ok (.lload_n 2, 1) := by decide +kernel
theorem dX10_ruleBy_40 : decode cX10_ruleBy 40 = .ok (.aload_n 0, 1) := by decide +kernel
theorem dX10_ruleBy_41 : decode cX10_ruleBy 41 = .ok (.invokevirtual 157, 3) := by decide +kernel
theorem dX10_ruleBy_44 : decode cX10_ruleBy 44 = .ok (.iload_n 1, 1) := by decide +kernel
theorem dX10_ruleBy_45 : decode cX10_ruleBy 45 = .ok (.invokestatic 161, 3) := by decide +kernel
theorem dX10_ruleBy_48 : decode cX10_ruleBy 48 = .ok (.lreturn, 1) := by decide +kernel
theorem dX10_rule_0 : decode cX10_rule 0 = .ok (.iload_n 1, 1) := by decide +kernel
theorem dX10_rule_1 : decode cX10_rule 1 = .ok (.invokestatic 165, 3) := by decide +kernel
theorem dX10_rule_4 : decode cX10_rule 4 = .ok (.ifCond .eq 11, 3) := by decide +kernel
theorem dX10_rule_7 : decode cX10_rule 7 = .ok (.aload_n 0, 1) := by decide +kernel
theorem dX10_rule_8 : decode cX10_rule 8 = .ok (.iload_n 1, 1) := by decide +kernel
theorem dX10_rule_9 : decode cX10_rule 9 = .ok (.invokevirtual 175, 3) := by decide +kernel
theorem dX10_rule_12 : decode cX10_rule 12 = .ok (.goto 8, 3) := by decide +kernel
theorem dX10_rule_15 : decode cX10_rule 15 = .ok (.bipush (-2), 2) := by decide +kernel
theorem dX10_rule_17 : decode cX10_rule 17 = .ok (.invokestatic 99, 3) := by decide +kernel
theorem dX10_rule_20 : decode cX10_rule 20 = .ok (.lreturn, 1) := by decide +kernel
theorem dX10_setsOf_0 : decode cX10_setsOf 0 = .ok (.iconst 0, 1) := by decide +kernel
theorem dX10_setsOf_1 : decode cX10_setsOf 1 = .ok (.istore_n 2, 1) := by decide +kernel
theorem dX10_setsOf_2 : decode cX10_setsOf 2 = .ok (.iconst 0, 1) := by decide +kernel
theorem dX10_setsOf_3 : decode cX10_setsOf 3 = .ok (.istore_n 3, 1) := by decide +kernel
theorem dX10_setsOf_4 : decode cX10_setsOf 4 = .ok (.iload_n 3, 1) := by decide +kernel
theorem dX10_setsOf_5 : decode cX10_setsOf 5 = .ok (.iconst 1, 1) := by decide +kernel
theorem dX10_setsOf_6 : decode cX10_setsOf 6 = .ok (.aload_n 0, 1) := by decide +kernel
theorem dX10_setsOf_7 : decode cX10_setsOf 7 = .ok (.getfield 103, 3) := by decide +kernel
theorem dX10_setsOf_10 : decode cX10_setsOf 10 = .ok (.ishl, 1) := by decide +kernel
theorem dX10_setsOf_11 : decode cX10_setsOf 11 = .ok (.if_icmp .ge 37, 3) := by decide +kernel
theorem dX10_setsOf_14 : decode cX10_setsOf 14 = .ok (.iload_n 2, 1) := by decide +kernel
theorem dX10_setsOf_15 : decode cX10_setsOf 15 = .ok (.iload_n 3, 1) := by decide +kernel
theorem dX10_setsOf_16 : decode cX10_setsOf 16 = .ok (.invokestatic 178, 3) := by decide +kernel
theorem dX10_setsOf_19 : decode cX10_setsOf 19 = .ok (.iload_n 1, 1) := by decide +kernel
theorem dX10_setsOf_20 : decode cX10_setsOf 20 = .ok (.if_icmp .ne 19, 3) := by decide +kernel
theorem dX10_setsOf_23 : decode cX10_setsOf 23 = .ok (.aload_n 0, 1) := by decide +kernel
theorem dX10_setsOf_24 : decode cX10_setsOf 24 = .ok (.iload_n 3, 1) := by decide +kernel
theorem dX10_setsOf_25 : decode cX10_setsOf 25 = .ok (.aload_n 0, 1) := by decide +kernel
theorem dX10_setsOf_26 : decode cX10_setsOf 26 = .ok (.invokevirtual 149, 3) := by decide +kernel
theorem dX10_setsOf_29 : decode cX10_setsOf 29 = .ok (.invokevirtual 181, 3) := by decide +kernel
theorem dX10_setsOf_32 : decode cX10_setsOf 32 = .ok (.ifCond .eq 7, 3) := by decide +kernel
theorem dX10_setsOf_35 : decode cX10_setsOf 35 = .ok (.iconst 1, 1) := by decide +kernel
theorem dX10_setsOf_36 : decode cX10_setsOf 36 = .ok (.goto 4, 3) := by decide +kernel
theorem dX10_setsOf_39 : decode cX10_setsOf 39 = .ok (.iconst 0, 1) := by decide +kernel
theorem dX10_setsOf_40 : decode cX10_setsOf 40 = .ok (.iadd, 1) := by decide +kernel
theorem dX10_setsOf_41 : decode cX10_setsOf 41 = .ok (.istore_n 2, 1) := by decide +kernel
theorem dX10_setsOf_42 : decode cX10_setsOf 42 = .ok (.iinc 3 1, 3) := by decide +kernel
theorem dX10_setsOf_45 : decode cX10_setsOf 45 = .ok (.goto (-41), 3) := by decide +kernel
theorem dX10_setsOf_48 : decode cX10_setsOf 48 = .ok (.iload_n 2, 1) := by decide +kernel
theorem dX10_setsOf_49 : decode cX10_setsOf 49 = .ok (.ireturn, 1) := by decide +kernel
theorem dX10_sets_0 : decode cX10_sets 0 = .ok (.iload_n 1, 1) := by decide +kernel
theorem dX10_sets_1 : decode cX10_sets 1 = .ok (.i2l, 1) := by decide +kernel
theorem dX10_sets_2 : decode cX10_sets 2 = .ok (.lconst 0, 1) := by decide +kernel
theorem dX10_sets_3 : decode cX10_sets 3 = .ok (.aload_n 0, 1) := by decide +kernel
theorem dX10_sets_4 : decode cX10_sets 4 = .ok (.getfield 103, 3) := by decide +kernel
theorem dX10_sets_7 : decode cX10_sets 7 = .ok (.i2l, 1) := by decide +kernel
theorem dX10_sets_8 : decode cX10_sets 8 = .ok (.invokestatic 72, 3) := by decide +kernel
theorem dX10_sets_11 : decode cX10_sets 11 = .ok (.ifCond .eq 11, 3) := by decide +kernel
theorem dX10_sets_14 : decode cX10_sets 14 = .ok (.aload_n 0, 1) := by decide +kernel
theorem dX10_sets_15 : decode cX10_sets 15 = .ok (.iload_n 1, 1) := by decide +kernel
theorem dX10_sets_16 : decode cX10_sets 16 = .ok (.invokevirtual 185, 3) := by decide +kernel
theorem dX10_sets_19 : decode cX10_sets 19 = .ok (.goto 5, 3) := by decide +kernel
theorem dX10_sets_22 : decode cX10_sets 22 = .ok (.bipush (-2), 2) := by decide +kernel
theorem dX10_sets_24 : decode cX10_sets 24 = .ok (.ireturn, 1) := by decide +kernel
theorem dX10_times_0 : decode cX10_times 0 = .ok (.aload_n 0, 1) := by decide +kernel
theorem dX10_times_1 : decode cX10_times 1 = .ok (.aload_n 0, 1) := by decide +kernel
theorem dX10_times_2 : decode cX10_times 2 = .ok (.getfield 188, 3) := by decide +kernel
theorem dX10_times_5 : decode cX10_times 5 = .ok (.ifCond .ne 19, 3) := by decide +kernel
theorem dX10_times_8 : decode cX10_times 8 = .ok (.lload_n 1, 1) := by decide +kernel
theorem dX10_times_9 : decode cX10_times 9 = .ok (.lconst 0, 1) := by decide +kernel
theorem dX10_times_10 : decode cX10_times 10 = .ok (.lcmp, 1) := by decide +kernel
theorem dX10_times_11 : decode cX10_times 11 = .ok (.ifCond .le 17, 3) := by decide +kernel
theorem dX10_times_14 : decode cX10_times 14 = .ok (.lload_n 3, 1) := by decide +kernel
theorem dX10_times_15 : decode cX10_times 15 = .ok (.ldc2_w 192, 3) := by decide +kernel
theorem dX10_times_18 : decode cX10_times 18 = .ok (.lload_n 1, 1) := by decide +kernel
theorem dX10_times_19 : decode cX10_times 19 = .ok (.ldiv, 1) := by decide +kernel
theorem dX10_times_20 : decode cX10_times 20 = .ok (.lcmp, 1) := by decide +kernel
theorem dX10_times_21 : decode cX10_times 21 = .ok (.ifCond .le 7, 3) := by decide +kernel
theorem dX10_times_24 : decode cX10_times 24 = .ok (.iconst 1, 1) := by decide +kernel
theorem dX10_times_25 : decode cX10_times 25 = .ok (.goto 4, 3) := by decide +kernel
theorem dX10_times_28 : decode cX10_times 28 = .ok (.iconst 0, 1) := by decide +kernel
theorem dX10_times_29 : decode cX10_times 29 = .ok (.putfield 188, 3) := by decide +kernel
theorem dX10_times_32 : decode cX10_times 32 = .ok (.lload_n 1, 1) := by decide +kernel
theorem dX10_times_33 : decode cX10_times 33 = .ok (.lload_n 3, 1) := by decide +kernel
theorem dX10_times_34 : decode cX10_times 34 = .ok (.lmul, 1) := by decide +kernel
theorem dX10_times_35 : decode cX10_times 35 = .ok (.lreturn, 1) := by decide +kernel
theorem dX10_power_0 : decode cX10_power 0 = .ok (.lconst 1, 1) := by decide +kernel
theorem dX10_power_1 : decode cX10_power 1 = .ok (.lstore 4, 2) := by decide +kernel
theorem dX10_power_3 : decode cX10_power 3 = .ok (.iconst 0, 1) := by decide +kernel
theorem dX10_power_4 : decode cX10_power 4 = .ok (.istore 6, 2) := by decide +kernel
theorem dX10_power_6 : decode cX10_power 6 = .ok (.iload 6, 2) := by decide +kernel
theorem dX10_power_8 : decode cX10_power 8 = .ok (.iload_n 3, 1) := by decide +kernel
theorem dX10_power_9 : decode cX10_power 9 = .ok (.if_icmp .ge 18, 3) := by decide +kernel
theorem dX10_power_12 : decode cX10_power 12 = .ok (.aload_n 0, 1) := by decide +kernel
theorem dX10_power_13 : decode cX10_power 13 = .ok (.lload 4, 2) := by decide +kernel
theorem dX10_power_15 : decode cX10_power 15 = .ok (.lload_n 1, 1) := by decide +kernel
theorem dX10_power_16 : decode cX10_power 16 = .ok (.invokevirtual 194, 3) := by decide +kernel
theorem dX10_power_19 : decode cX10_power 19 = .ok (.lstore 4, 2) := by decide +kernel
theorem dX10_power_21 : decode cX10_power 21 = .ok (.iinc 6 1, 3) := by decide +kernel
theorem dX10_power_24 : decode cX10_power 24 = .ok (.goto (-18), 3) := by decide +kernel
theorem dX10_power_27 : decode cX10_power 27 = .ok (.lload 4, 2) := by decide +kernel
theorem dX10_power_29 : decode cX10_power 29 = .ok (.lreturn, 1) := by decide +kernel
theorem dX10_likeBy_0 : decode cX10_likeBy 0 = .ok (.aload_n 0, 1) := by decide +kernel
theorem dX10_likeBy_1 : decode cX10_likeBy 1 = .ok (.iconst 0, 1) := by decide +kernel
theorem dX10_likeBy_2 : decode cX10_likeBy 2 = .ok (.putfield 188, 3) := by decide +kernel
theorem dX10_likeBy_5 : decode cX10_likeBy 5 = .ok (.lconst 0, 1) := by decide +kernel
theorem dX10_likeBy_6 : decode cX10_likeBy 6 = .ok (.lstore 4, 2) := by decide +kernel
theorem dX10_likeBy_8 : decode cX10_likeBy 8 = .ok (.iconst 0, 1) := by decide +kernel
theorem dX10_likeBy_9 : decode cX10_likeBy 9 = .ok (.istore 6, 2) := by decide +kernel
theorem dX10_likeBy_11 : decode cX10_likeBy 11 = .ok (.iload 6, 2) := by decide +kernel
theorem dX10_likeBy_13 : decode cX10_likeBy 13 = .ok (.aload_n 0, 1) := by decide +kernel
theorem dX10_likeBy_14 : decode cX10_likeBy 14 = .ok (.getfield 103, 3) := by decide +kernel
theorem dX10_likeBy_17 : decode cX10_likeBy 17 = .ok (.if_icmp .gt 91, 3) := by decide +kernel
theorem dX10_likeBy_20 : decode cX10_likeBy 20 = .ok (.aload_n 0, 1) := by decide +kernel
theorem dX10_likeBy_21 : decode cX10_likeBy 21 = .ok (.getfield 188, 3) := by decide +kernel
theorem dX10_likeBy_24 : decode cX10_likeBy 24 = .ok (.ifCond .ne 84, 3) := by decide +kernel
theorem dX10_likeBy_27 : decode cX10_likeBy 27 = .ok (.aload_n 0, 1) := by decide +kernel
theorem dX10_likeBy_28 : decode cX10_likeBy 28 = .ok (.aload_n 0, 1) := by decide +kernel
theorem dX10_likeBy_29 : decode cX10_likeBy 29 = .ok (.aload_n 0, 1) := by decide +kernel
theorem dX10_likeBy_30 : decode cX10_likeBy 30 = .ok (.iload 6, 2) := by decide +kernel
theorem dX10_likeBy_32 : decode cX10_likeBy 32 = .ok (.invokevirtual 185, 3) := by decide +kernel
theorem dX10_likeBy_35 : decode cX10_likeBy 35 = .ok (.i2l, 1) := by decide +kernel
theorem dX10_likeBy_36 : decode cX10_likeBy 36 = .ok (.aload_n 0, 1) := by decide +kernel
theorem dX10_likeBy_37 : decode cX10_likeBy 37 = .ok (.iload_n 1, 1) := by decide +kernel
theorem dX10_likeBy_38 : decode cX10_likeBy 38 = .ok (.i2l, 1) := by decide +kernel
theorem dX10_likeBy_39 : decode cX10_likeBy 39 = .ok (.iload 6, 2) := by decide +kernel
theorem dX10_likeBy_41 : decode cX10_likeBy 41 = .ok (.invokevirtual 197, 3) := by decide +kernel
theorem dX10_likeBy_44 : decode cX10_likeBy 44 = .ok (.invokevirtual 194, 3) := by decide +kernel
theorem dX10_likeBy_47 : decode cX10_likeBy 47 = .ok (.aload_n 0, 1) := by decide +kernel
theorem dX10_likeBy_48 : decode cX10_likeBy 48 = .ok (.iload_n 2, 1) := by decide +kernel
theorem dX10_likeBy_49 : decode cX10_likeBy 49 = .ok (.iload_n 1, 1) := by decide +kernel
theorem dX10_likeBy_50 : decode cX10_likeBy 50 = .ok (.isub, 1) := by decide +kernel
theorem dX10_likeBy_51 : decode cX10_likeBy 51 = .ok (.i2l, 1) := by decide +kernel
theorem dX10_likeBy_52 : decode cX10_likeBy 52 = .ok (.aload_n 0, 1) := by decide +kernel
theorem dX10_likeBy_53 : decode cX10_likeBy 53 = .ok (.getfield 103, 3) := by decide +kernel
theorem dX10_likeBy_56 : decode cX10_likeBy 56 = .ok (.iload 6, 2) := by decide +kernel
theorem dX10_likeBy_58 : decode cX10_likeBy 58 = .ok (.isub, 1) := by decide +kernel
theorem dX10_likeBy_59 : decode cX10_likeBy 59 = .ok (.invokevirtual 197, 3) := by decide +kernel
theorem dX10_likeBy_62 : decode cX10_likeBy 62 = .ok (.invokevirtual 194, 3) := by decide +kernel
theorem dX10_likeBy_65 : decode cX10_likeBy 65 = .ok (.lstore 7, 2) := by decide +kernel
theorem dX10_likeBy_67 : decode cX10_likeBy 67 = .ok (.aload_n 0, 1) := by decide +kernel
theorem dX10_likeBy_68 : decode cX10_likeBy 68 = .ok (.aload_n 0, 1) := by decide +kernel
theorem dX10_likeBy_69 : decode cX10_likeBy 69 = .ok (.getfield 188, 3) := by decide +kernel
theorem dX10_likeBy_72 : decode cX10_likeBy 72 = .ok (.ifCond .ne 15, 3) := by decide +kernel
theorem dX10_likeBy_75 : decode cX10_likeBy 75 = .ok (.lload 7, 2) := by decide +kernel
theorem dX10_likeBy_77 : decode cX10_likeBy 77 = .ok (.ldc2_w 192, 3) := by decide +kernel
theorem dX10_likeBy_80 : decode cX10_likeBy 80 = .ok (.lload 4, 2) := by decide +kernel
theorem dX10_likeBy_82 : decode cX10_likeBy 82 = .ok (.lsub, 1) := by decide +kernel
theorem dX10_likeBy_83 : decode cX10_likeBy 83 = .ok (.lcmp, 1) := by decide +kernel
theorem dX10_likeBy_84 : decode cX10_likeBy 84 = .ok (.ifCond .le 7, 3) := by decide +kernel
theorem dX10_likeBy_87 : decode cX10_likeBy 87 = .ok (.iconst 1, 1) := by decide +kernel
theorem dX10_likeBy_88 : decode cX10_likeBy 88 = .ok (.goto 4, 3) := by decide +kernel
theorem dX10_likeBy_91 : decode cX10_likeBy 91 = .ok (.iconst 0, 1) := by decide +kernel
theorem dX10_likeBy_92 : decode cX10_likeBy 92 = .ok (.putfield 188, 3) := by decide +kernel
theorem dX10_likeBy_95 : decode cX10_likeBy 95 = .ok (.lload 4, 2) := by decide +kernel
theorem dX10_likeBy_97 : decode cX10_likeBy 97 = .ok (.lload 7, 2) := by decide +kernel
theorem dX10_likeBy_99 : decode cX10_likeBy 99 = .ok (.ladd, 1) := by decide +kernel
theorem dX10_likeBy_100 : decode cX10_likeBy 100 = .ok (.lstore 4, 2) := by decide +kernel
theorem dX10_likeBy_102 : decode cX10_likeBy 102 = .ok (.iinc 6 1, 3) := by decide +kernel
theorem dX10_likeBy_105 : decode cX10_likeBy 105 = .ok (.goto (-94), 3) := by decide +kernel
theorem dX10_likeBy_108 : decode cX10_likeBy 108 = .ok (.aload_n 0, 1) := by decide +kernel
theorem dX10_likeBy_109 : decode cX10_likeBy 109 = .ok (.iload_n 2, 1) := by decide +kernel
theorem dX10_likeBy_110 : decode cX10_likeBy 110 = .ok (.i2l, 1) := by decide +kernel
theorem dX10_likeBy_111 : decode cX10_likeBy 111 = .ok (.aload_n 0, 1) := by decide +kernel
theorem dX10_likeBy_112 : decode cX10_likeBy 112 = .ok (.getfield 103, 3) := by decide +kernel
theorem dX10_likeBy_115 : decode cX10_likeBy 115 = .ok (.invokevirtual 197, 3) := by decide +kernel
theorem dX10_likeBy_118 : decode cX10_likeBy 118 = .ok (.lstore 6, 2) := by decide +kernel
theorem dX10_likeBy_120 : decode cX10_likeBy 120 = .ok (.aload_n 0, 1) := by decide +kernel
theorem dX10_likeBy_121 : decode cX10_likeBy 121 = .ok (.getfield 188, 3) := by decide +kernel
theorem dX10_likeBy_124 : decode cX10_likeBy 124 = .ok (.ifCond .eq 11, 3) := by decide +kernel
theorem dX10_likeBy_127 : decode cX10_likeBy 127 = .ok (.bipush (-5), 2) := by decide +kernel
theorem dX10_likeBy_129 : decode cX10_likeBy 129 = .ok (.invokestatic 99, 3) := by decide +kernel
theorem dX10_likeBy_132 : decode cX10_likeBy 132 = .ok (.goto 14, 3) := by decide +kernel
theorem dX10_likeBy_135 : decode cX10_likeBy 135 = .ok (.iload_n 3, 1) := by decide +kernel
theorem dX10_likeBy_136 : decode cX10_likeBy 136 = .ok (.ifCond .ne 8, 3) := by decide +kernel
theorem dX10_likeBy_139 : decode cX10_likeBy 139 = .ok (.lload 4, 2) := by decide +kernel
theorem dX10_likeBy_141 : decode cX10_likeBy 141 = .ok (.goto 5, 3) := by decide +kernel
theorem dX10_likeBy_144 : decode cX10_likeBy 144 = .ok (.lload 6, 2) := by decide +kernel
theorem dX10_likeBy_146 : decode cX10_likeBy 146 = .ok (.lreturn, 1) := by decide +kernel
theorem dX10_like_0 : decode cX10_like 0 = .ok (.iload_n 2, 1) := by decide +kernel
theorem dX10_like_1 : decode cX10_like 1 = .ok (.i2l, 1) := by decide +kernel
theorem dX10_like_2 : decode cX10_like 2 = .ok (.lconst 1, 1) := by decide +kernel
theorem dX10_like_3 : decode cX10_like 3 = .ok (.ldc2_w 201, 3) := by decide +kernel
theorem dX10_like_6 : decode cX10_like 6 = .ok (.invokestatic 72, 3) := by decide +kernel
theorem dX10_like_9 : decode cX10_like 9 = .ok (.ifCond .eq 31, 3) := by decide +kernel
theorem dX10_like_12 : decode cX10_like 12 = .ok (.iload_n 1, 1) := by decide +kernel
theorem dX10_like_13 : decode cX10_like 13 = .ok (.i2l, 1) := by decide +kernel
theorem dX10_like_14 : decode cX10_like 14 = .ok (.lconst 0, 1) := by decide +kernel
theorem dX10_like_15 : decode cX10_like 15 = .ok (.iload_n 2, 1) := by decide +kernel
theorem dX10_like_16 : decode cX10_like 16 = .ok (.i2l, 1) := by decide +kernel
theorem dX10_like_17 : decode cX10_like 17 = .ok (.invokestatic 72, 3) := by decide +kernel
theorem dX10_like_20 : decode cX10_like 20 = .ok (.ifCond .eq 20, 3) := by decide +kernel
theorem dX10_like_23 : decode cX10_like 23 = .ok (.iload_n 3, 1) := by decide +kernel
theorem dX10_like_24 : decode cX10_like 24 = .ok (.invokestatic 165, 3) := by decide +kernel
theorem dX10_like_27 : decode cX10_like 27 = .ok (.ifCond .eq 13, 3) := by decide +kernel
theorem dX10_like_30 : decode cX10_like 30 = .ok (.aload_n 0, 1) := by decide +kernel
theorem dX10_like_31 : decode cX10_like 31 = .ok (.iload_n 1, 1) := by decide +kernel
theorem dX10_like_32 : decode cX10_like 32 = .ok (.iload_n 2, 1) := by decide +kernel
theorem dX10_like_33 : decode cX10_like 33 = .ok (.iload_n 3, 1) := by decide +kernel
theorem dX10_like_34 : decode cX10_like 34 = .ok (.invokevirtual 203, 3) := by decide +kernel
theorem dX10_like_37 : decode cX10_like 37 = .ok (.goto 8, 3) := by decide +kernel
theorem dX10_like_40 : decode cX10_like 40 = .ok (.bipush (-2), 2) := by decide +kernel
theorem dX10_like_42 : decode cX10_like 42 = .ok (.invokestatic 99, 3) := by decide +kernel
theorem dX10_like_45 : decode cX10_like 45 = .ok (.lreturn, 1) := by decide +kernel
theorem dX10_leastWay_0 : decode cX10_leastWay 0 = .ok (.iconst 0, 1) := by decide +kernel
theorem dX10_leastWay_1 : decode cX10_leastWay 1 = .ok (.istore_n 1, 1) := by decide +kernel
theorem dX10_leastWay_2 : decode cX10_leastWay 2 = .ok (.iload_n 1, 1) := by decide +kernel
theorem dX10_leastWay_3 : decode cX10_leastWay 3 = .ok (.aload_n 0, 1) := by decide +kernel
theorem dX10_leastWay_4 : decode cX10_leastWay 4 = .ok (.getfield 103, 3) := by decide +kernel
theorem dX10_leastWay_7 : decode cX10_leastWay 7 = .ok (.if_icmp .gt 19, 3) := by decide +kernel
theorem dX10_leastWay_10 : decode cX10_leastWay 10 = .ok (.aload_n 0, 1) := by decide +kernel
theorem dX10_leastWay_11 : decode cX10_leastWay 11 = .ok (.iload_n 1, 1) := by decide +kernel
theorem dX10_leastWay_12 : decode cX10_leastWay 12 = .ok (.invokevirtual 185, 3) := by decide +kernel
theorem dX10_leastWay_15 : decode cX10_leastWay 15 = .ok (.ifCond .le 5, 3) := by decide +kernel
theorem dX10_leastWay_18 : decode cX10_leastWay 18 = .ok (.iload_n 1, 1) := by decide +kernel
theorem dX10_leastWay_19 : decode cX10_leastWay 19 = .ok (.ireturn, 1) := by decide +kernel
theorem dX10_leastWay_20 : decode cX10_leastWay 20 = .ok (.iinc 1 1, 3) := by decide +kernel
theorem dX10_leastWay_23 : decode cX10_leastWay 23 = .ok (.goto (-21), 3) := by decide +kernel
theorem dX10_leastWay_26 : decode cX10_leastWay 26 = .ok (.iconst (-1), 1) := by decide +kernel
theorem dX10_leastWay_27 : decode cX10_leastWay 27 = .ok (.ireturn, 1) := by decide +kernel
theorem dX10_leastCut_0 : decode cX10_leastCut 0 = .ok (.iconst (-1), 1) := by decide +kernel
theorem dX10_leastCut_1 : decode cX10_leastCut 1 = .ok (.istore_n 1, 1) := by decide +kernel
theorem dX10_leastCut_2 : decode cX10_leastCut 2 = .ok (.iconst 0, 1) := by decide +kernel
theorem dX10_leastCut_3 : decode cX10_leastCut 3 = .ok (.istore_n 2, 1) := by decide +kernel
theorem dX10_leastCut_4 : decode cX10_leastCut 4 = .ok (.iload_n 2, 1) := by decide +kernel
theorem dX10_leastCut_5 : decode cX10_leastCut 5 = .ok (.iconst 1, 1) := by decide +kernel
theorem dX10_leastCut_6 : decode cX10_leastCut 6 = .ok (.aload_n 0, 1) := by decide +kernel
theorem dX10_leastCut_7 : decode cX10_leastCut 7 = .ok (.getfield 103, 3) := by decide +kernel
theorem dX10_leastCut_10 : decode cX10_leastCut 10 = .ok (.ishl, 1) := by decide +kernel
theorem dX10_leastCut_11 : decode cX10_leastCut 11 = .ok (.if_icmp .ge 47, 3) := by decide +kernel
theorem dX10_leastCut_14 : decode cX10_leastCut 14 = .ok (.aload_n 0, 1) := by decide +kernel
theorem dX10_leastCut_15 : decode cX10_leastCut 15 = .ok (.getfield 103, 3) := by decide +kernel
theorem dX10_leastCut_18 : decode cX10_leastCut 18 = .ok (.iload_n 2, 1) := by decide +kernel
theorem dX10_leastCut_19 : decode cX10_leastCut 19 = .ok (.invokestatic 178, 3) := by decide +kernel
theorem dX10_leastCut_22 : decode cX10_leastCut 22 = .ok (.isub, 1) := by decide +kernel
theorem dX10_leastCut_23 : decode cX10_leastCut 23 = .ok (.istore_n 3, 1) := by decide +kernel
theorem dX10_leastCut_24 : decode cX10_leastCut 24 = .ok (.aload_n 0, 1) := by decide +kernel
theorem dX10_leastCut_25 : decode cX10_leastCut 25 = .ok (.iload_n 2, 1) := by decide +kernel
theorem dX10_leastCut_26 : decode cX10_leastCut 26 = .ok (.aload_n 0, 1) := by decide +kernel
theorem dX10_leastCut_27 : decode cX10_leastCut 27 = .ok (.invokevirtual 149, 3) := by decide +kernel
theorem dX10_leastCut_30 : decode cX10_leastCut 30 = .ok (.invokevirtual 181, 3) := by decide +kernel
theorem dX10_leastCut_33 : decode cX10_leastCut 33 = .ok (.ifCond .ne 17, 3) := by decide +kernel
theorem dX10_leastCut_36 : decode cX10_leastCut 36 = .ok (.iload_n 1, 1) := by decide +kernel
theorem dX10_leastCut_37 : decode cX10_leastCut 37 = .ok (.iconst (-1), 1) := by decide +kernel
theorem dX10_leastCut_38 : decode cX10_leastCut 38 = .ok (.if_icmp .eq 8, 3) := by decide +kernel
theorem dX10_leastCut_41 : decode cX10_leastCut 41 = .ok (.iload_n 3, 1) := by decide +kernel
theorem dX10_leastCut_42 : decode cX10_leastCut 42 = .ok (.iload_n 1, 1) := by decide +kernel
theorem dX10_leastCut_43 : decode cX10_leastCut 43 = .ok (.if_icmp .ge 7, 3) := by decide +kernel
theorem dX10_leastCut_46 : decode cX10_leastCut 46 = .ok (.iload_n 3, 1) := by decide +kernel
theorem dX10_leastCut_47 : decode cX10_leastCut 47 = .ok (.goto 4, 3) := by decide +kernel
theorem dX10_leastCut_50 : decode cX10_leastCut 50 = .ok (.iload_n 1, 1) := by decide +kernel
theorem dX10_leastCut_51 : decode cX10_leastCut 51 = .ok (.istore_n 1, 1) := by decide +kernel
theorem dX10_leastCut_52 : decode cX10_leastCut 52 = .ok (.iinc 2 1, 3) := by decide +kernel
theorem dX10_leastCut_55 : decode cX10_leastCut 55 = .ok (.goto (-51), 3) := by decide +kernel
theorem dX10_leastCut_58 : decode cX10_leastCut 58 = .ok (.iload_n 1, 1) := by decide +kernel
theorem dX10_leastCut_59 : decode cX10_leastCut 59 = .ok (.ireturn, 1) := by decide +kernel
theorem dX10_least_0 : decode cX10_least 0 = .ok (.iload_n 1, 1) := by decide +kernel
theorem dX10_least_1 : decode cX10_least 1 = .ok (.invokestatic 165, 3) := by decide +kernel
theorem dX10_least_4 : decode cX10_least 4 = .ok (.ifCond .ne 8, 3) := by decide +kernel
theorem dX10_least_7 : decode cX10_least 7 = .ok (.bipush (-2), 2) := by decide +kernel
theorem dX10_least_9 : decode cX10_least 9 = .ok (.goto 18, 3) := by decide +kernel
theorem dX10_least_12 : decode cX10_least 12 = .ok (.iload_n 1, 1) := by decide +kernel
theorem dX10_least_13 : decode cX10_least 13 = .ok (.ifCond .ne 10, 3) := by decide +kernel
theorem dX10_least_16 : decode cX10_least 16 = .ok (.aload_n 0, 1) := by decide +kernel
theorem dX10_least_17 : decode cX10_least 17 = .ok (.invokevirtual 206, 3) := by decide +kernel
theorem dX10_least_20 : decode cX10_least 20 = .ok (.goto 7, 3) := by decide +kernel
theorem dX10_least_23 : decode cX10_least 23 = .ok (.aload_n 0, 1) := by decide +kernel
theorem dX10_least_24 : decode cX10_least 24 = .ok (.invokevirtual 209, 3) := by decide +kernel
theorem dX10_least_27 : decode cX10_least 27 = .ok (.ireturn, 1) := by decide +kernel
theorem dX10_worthAbove_0 : decode cX10_worthAbove 0 = .ok (.aload_n 0, 1) := by decide +kernel
theorem dX10_worthAbove_1 : decode cX10_worthAbove 1 = .ok (.invokevirtual 146, 3) := by decide +kernel
theorem dX10_worthAbove_4 : decode cX10_worthAbove 4 = .ok (.aload_n 0, 1) := by decide +kernel
theorem dX10_worthAbove_5 : decode cX10_worthAbove 5 = .ok (.getfield 38, 3) := by decide +kernel
theorem dX10_worthAbove_8 : decode cX10_worthAbove 8 = .ok (.iload_n 1, 1) := by decide +kernel
theorem dX10_worthAbove_9 : decode cX10_worthAbove 9 = .ok (.iconst 1, 1) := by decide +kernel
theorem dX10_worthAbove_10 : decode cX10_worthAbove 10 = .ok (.iastore, 1) := by decide +kernel
theorem dX10_worthAbove_11 : decode cX10_worthAbove 11 = .ok (.aload_n 0, 1) := by decide +kernel
theorem dX10_worthAbove_12 : decode cX10_worthAbove 12 = .ok (.getfield 35, 3) := by decide +kernel
theorem dX10_worthAbove_15 : decode cX10_worthAbove 15 = .ok (.iload_n 1, 1) := by decide +kernel
theorem dX10_worthAbove_16 : decode cX10_worthAbove 16 = .ok (.iconst 1, 1) := by decide +kernel
theorem dX10_worthAbove_17 : decode cX10_worthAbove 17 = .ok (.iastore, 1) := by decide +kernel
theorem dX10_worthAbove_18 : decode cX10_worthAbove 18 = .ok (.aload_n 0, 1) := by decide +kernel
theorem dX10_worthAbove_19 : decode cX10_worthAbove 19 = .ok (.aload_n 0, 1) := by decide +kernel
theorem dX10_worthAbove_20 : decode cX10_worthAbove 20 = .ok (.getfield 111, 3) := by decide +kernel
theorem dX10_worthAbove_23 : decode cX10_worthAbove 23 = .ok (.aload_n 0, 1) := by decide +kernel
theorem dX10_worthAbove_24 : decode cX10_worthAbove 24 = .ok (.invokevirtual 149, 3) := by decide +kernel
theorem dX10_worthAbove_27 : decode cX10_worthAbove 27 = .ok (.invokevirtual 153, 3) := by decide +kernel
theorem dX10_worthAbove_30 : decode cX10_worthAbove 30 = .ok (.lstore_n 2, 1) := by decide +kernel
theorem dX10_worthAbove_31 : decode cX10_worthAbove 31 = .ok (.aload_n 0, 1) := by decide +kernel
theorem dX10_worthAbove_32 : decode cX10_worthAbove 32 = .ok (.getfield 35, 3) := by decide +kernel
theorem dX10_worthAbove_35 : decode cX10_worthAbove 35 = .ok (.iload_n 1, 1) := by decide +kernel
theorem dX10_worthAbove_36 : decode cX10_worthAbove 36 = .ok (.iconst 0, 1) := by decide +kernel
theorem dX10_worthAbove_37 : decode cX10_worthAbove 37 = .ok (.iastore, 1) := by decide +kernel
theorem dX10_worthAbove_38 : decode cX10_worthAbove 38 = .ok (.lload_n 2, 1) := by decide +kernel
theorem dX10_worthAbove_39 : decode cX10_worthAbove 39 = .ok (.aload_n 0, 1) := by decide +kernel
theorem dX10_worthAbove_40 : decode cX10_worthAbove 40 = .ok (.aload_n 0, 1) := by decide +kernel
theorem dX10_worthAbove_41 : decode cX10_worthAbove 41 = .ok (.getfield 111, 3) := by decide +kernel
theorem dX10_worthAbove_44 : decode cX10_worthAbove 44 = .ok (.aload_n 0, 1) := by decide +kernel
theorem dX10_worthAbove_45 : decode cX10_worthAbove 45 = .ok (.invokevirtual 149, 3) := by decide +kernel
theorem dX10_worthAbove_48 : decode cX10_worthAbove 48 = .ok (.invokevirtual 153, 3) := by decide +kernel
theorem dX10_worthAbove_51 : decode cX10_worthAbove 51 = .ok (.lsub, 1) := by decide +kernel
theorem dX10_worthAbove_52 : decode cX10_worthAbove 52 = .ok (.lreturn, 1) := by decide +kernel
theorem dX10_worthBy_0 : decode cX10_worthBy 0 = .ok (.aload_n 0, 1) := by decide +kernel
theorem dX10_worthBy_1 : decode cX10_worthBy 1 = .ok (.iload_n 1, 1) := by decide +kernel
theorem dX10_worthBy_2 : decode cX10_worthBy 2 = .ok (.invokevirtual 212, 3) := by decide +kernel
theorem dX10_worthBy_5 : decode cX10_worthBy 5 = .ok (.lstore_n 3, 1) := by decide +kernel
theorem dX10_worthBy_6 : decode cX10_worthBy 6 = .ok (.lload_n 3, 1) := by decide +kernel
theorem dX10_worthBy_7 : decode cX10_worthBy 7 = .ok (.aload_n 0, 1) := by decide +kernel
theorem dX10_worthBy_8 : decode cX10_worthBy 8 = .ok (.invokevirtual 157, 3) := by decide +kernel
theorem dX10_worthBy_11 : decode cX10_worthBy 11 = .ok (.iload_n 2, 1) := by decide +kernel
theorem dX10_worthBy_12 : decode cX10_worthBy 12 = .ok (.invokestatic 161, 3) := by decide +kernel
theorem dX10_worthBy_15 : decode cX10_worthBy 15 = .ok (.lreturn, 1) := by decide +kernel
theorem dX10_worth_0 : decode cX10_worth 0 = .ok (.aload_n 0, 1) := by decide +kernel
theorem dX10_worth_1 : decode cX10_worth 1 = .ok (.iload_n 1, 1) := by decide +kernel
theorem dX10_worth_2 : decode cX10_worth 2 = .ok (.invokevirtual 132, 3) := by decide +kernel
theorem dX10_worth_5 : decode cX10_worth 5 = .ok (.ifCond .eq 19, 3) := by decide +kernel
theorem dX10_worth_8 : decode cX10_worth 8 = .ok (.iload_n 2, 1) := by decide +kernel
theorem dX10_worth_9 : decode cX10_worth 9 = .ok (.invokestatic 165, 3) := by decide +kernel
theorem dX10_worth_12 : decode cX10_worth 12 = .ok (.ifCond .eq 12, 3) := by decide +kernel
theorem dX10_worth_15 : decode cX10_worth 15 = .ok (.aload_n 0, 1) := by decide +kernel
theorem dX10_worth_16 : decode cX10_worth 16 = .ok (.iload_n 1, 1) := by decide +kernel
theorem dX10_worth_17 : decode cX10_worth 17 = .ok (.iload_n 2, 1) := by decide +kernel
theorem dX10_worth_18 : decode cX10_worth 18 = .ok (.invokevirtual 215, 3) := by decide +kernel
theorem dX10_worth_21 : decode cX10_worth 21 = .ok (.goto 8, 3) := by decide +kernel
theorem dX10_worth_24 : decode cX10_worth 24 = .ok (.bipush (-2), 2) := by decide +kernel
theorem dX10_worth_26 : decode cX10_worth 26 = .ok (.invokestatic 99, 3) := by decide +kernel
theorem dX10_worth_29 : decode cX10_worth 29 = .ok (.lreturn, 1) := by decide +kernel
theorem dX10_worthiestNow_0 : decode cX10_worthiestNow 0 = .ok (.iconst (-1), 1) := by decide +kernel
theorem dX10_worthiestNow_1 : decode cX10_worthiestNow 1 = .ok (.istore_n 1, 1) := by decide +kernel
theorem dX10_worthiestNow_2 : decode cX10_worthiestNow 2 = .ok (.lconst 0, 1) := by decide +kernel
theorem dX10_worthiestNow_3 : decode cX10_worthiestNow 3 = .ok (.lstore_n 2, 1) := by decide +kernel
theorem dX10_worthiestNow_4 : decode cX10_worthiestNow 4 = .ok (.lconst 1, 1) := by decide +kernel
theorem dX10_worthiestNow_5 : decode cX10_worthiestNow 5 = .ok (.lstore 4, 2) := by decide +kernel
theorem dX10_worthiestNow_7 : decode cX10_worthiestNow 7 = .ok (.iconst 0, 1) := by decide +kernel
theorem dX10_worthiestNow_8 : decode cX10_worthiestNow 8 = .ok (.istore 6, 2) := by decide +kernel
theorem dX10_worthiestNow_10 : decode cX10_worthiestNow 10 = .ok (.iload 6, 2) := by decide +kernel
theorem dX10_worthiestNow_12 : decode cX10_worthiestNow 12 = .ok (.aload_n 0, 1) := by decide +kernel
theorem dX10_worthiestNow_13 : decode cX10_worthiestNow 13 = .ok (.getfield 103, 3) := by decide +kernel
theorem dX10_worthiestNow_16 : decode cX10_worthiestNow 16 = .ok (.if_icmp .ge 111, 3) := by decide +kernel
theorem dX10_worthiestNow_19 : decode cX10_worthiestNow 19 = .ok (.aload_n 0, 1) := by decide +kernel
theorem dX10_worthiestNow_20 : decode cX10_worthiestNow 20 = .ok (.iload 6, 2) := by decide +kernel
theorem dX10_worthiestNow_22 : decode cX10_worthiestNow 22 = .ok (.invokevirtual 212, 3) := by decide +kernel
theorem dX10_worthiestNow_25 : decode cX10_worthiestNow 25 = .ok (.lstore 7, 2) := by decide +kernel
theorem dX10_worthiestNow_27 : decode cX10_worthiestNow 27 = .ok (.aload_n 0, 1) := by decide +kernel
theorem dX10_worthiestNow_28 : decode cX10_worthiestNow 28 = .ok (.invokevirtual 157, 3) := by decide +kernel
theorem dX10_worthiestNow_31 : decode cX10_worthiestNow 31 = .ok (.lstore 9, 2) := by decide +kernel
theorem dX10_worthiestNow_33 : decode cX10_worthiestNow 33 = .ok (.lload 9, 2) := by decide +kernel
theorem dX10_worthiestNow_35 : decode cX10_worthiestNow 35 = .ok (.lload 4, 2) := by decide +kernel
theorem dX10_worthiestNow_37 : decode cX10_worthiestNow 37 = .ok (.invokestatic 78, 3) := by decide +kernel
theorem dX10_worthiestNow_40 : decode cX10_worthiestNow 40 = .ok (.lstore 11, 2) := by decide +kernel
theorem dX10_worthiestNow_42 : decode cX10_worthiestNow 42 = .ok (.aload_n 0, 1) := by decide +kernel
theorem dX10_worthiestNow_43 : decode cX10_worthiestNow 43 = .ok (.getfield 32, 3) := by decide +kernel
theorem dX10_worthiestNow_46 : decode cX10_worthiestNow 46 = .ok (.iload 6, 2) := by decide +kernel
theorem dX10_worthiestNow_48 : decode cX10_worthiestNow 48 = .ok (.iaload, 1) := by decide +kernel
theorem dX10_worthiestNow_49 : decode cX10_worthiestNow 49 = .ok (.ifCond .ne 31, 3) := by decide +kernel
theorem dX10_worthiestNow_52 : decode cX10_worthiestNow 52 = .ok (.iload_n 1, 1) := by decide +kernel
theorem dX10_worthiestNow_53 : decode cX10_worthiestNow 53 = .ok (.iconst (-1), 1) := by decide +kernel
theorem dX10_worthiestNow_54 : decode cX10_worthiestNow 54 = .ok (.if_icmp .eq 22, 3) := by decide +kernel
theorem dX10_worthiestNow_57 : decode cX10_worthiestNow 57 = .ok (.lload 7, 2) := by decide +kernel
theorem dX10_worthiestNow_59 : decode cX10_worthiestNow 59 = .ok (.lload 4, 2) := by decide +kernel
theorem dX10_worthiestNow_61 : decode cX10_worthiestNow 61 = .ok (.lload 11, 2) := by decide +kernel
theorem dX10_worthiestNow_63 : decode cX10_worthiestNow 63 = .ok (.ldiv, 1) := by decide +kernel
theorem dX10_worthiestNow_64 : decode cX10_worthiestNow 64 = .ok (.lmul, 1) := by decide +kernel
theorem dX10_worthiestNow_65 : decode cX10_worthiestNow 65 = .ok (.lload_n 2, 1) := by decide +kernel
theorem dX10_worthiestNow_66 : decode cX10_worthiestNow 66 = .ok (.lload 9, 2) := by decide +kernel
theorem dX10_worthiestNow_68 : decode cX10_worthiestNow 68 = .ok (.lload 11, 2) := by decide +kernel
theorem dX10_worthiestNow_70 : decode cX10_worthiestNow 70 = .ok (.ldiv, 1) := by decide +kernel
theorem dX10_worthiestNow_71 : decode cX10_worthiestNow 71 = .ok (.lmul, 1) := by decide +kernel
theorem dX10_worthiestNow_72 : decode cX10_worthiestNow 72 = .ok (.lcmp, 1) := by decide +kernel
theorem dX10_worthiestNow_73 : decode cX10_worthiestNow 73 = .ok (.ifCond .le 7, 3) := by decide +kernel
theorem dX10_worthiestNow_76 : decode cX10_worthiestNow 76 = .ok (.iconst 1, 1) := by decide +kernel
theorem dX10_worthiestNow_77 : decode cX10_worthiestNow 77 = .ok (.goto 4, 3) := by decide +kernel
theorem dX10_worthiestNow_80 : decode cX10_worthiestNow 80 = .ok (.iconst 0, 1) := by decide +kernel
theorem dX10_worthiestNow_81 : decode cX10_worthiestNow 81 = .ok (.istore 13, 2) := by decide +kernel
theorem dX10_worthiestNow_83 : decode cX10_worthiestNow 83 = .ok (.iload 13, 2) := by decide +kernel
theorem dX10_worthiestNow_85 : decode cX10_worthiestNow 85 = .ok (.ifCond .eq 8, 3) := by decide +kernel
theorem dX10_worthiestNow_88 : decode cX10_worthiestNow 88 = .ok (.iload 6, 2) := by decide +kernel
theorem dX10_worthiestNow_90 : decode cX10_worthiestNow 90 = .ok (.goto 4, 3) := by decide +kernel
theorem dX10_worthiestNow_93 : decode cX10_worthiestNow 93 = .ok (.iload_n 1, 1) := by decide +kernel
theorem dX10_worthiestNow_94 : decode cX10_worthiestNow 94 = .ok (.istore_n 1, 1) := by decide +kernel
theorem dX10_worthiestNow_95 : decode cX10_worthiestNow 95 = .ok (.iload 13, 2) := by decide +kernel
theorem dX10_worthiestNow_97 : decode cX10_worthiestNow 97 = .ok (.ifCond .eq 8, 3) := by decide +kernel
theorem dX10_worthiestNow_100 : decode cX10_worthiestNow 100 = .ok (.lload 7, 2) := by decide +kernel
theorem dX10_worthiestNow_102 : decode cX10_worthiestNow 102 = .ok (.goto 4, 3) := by decide +kernel
theorem dX10_worthiestNow_105 : decode cX10_worthiestNow 105 = .ok (.lload_n 2, 1) := by decide +kernel
theorem dX10_worthiestNow_106 : decode cX10_worthiestNow 106 = .ok (.lstore_n 2, 1) := by decide +kernel
theorem dX10_worthiestNow_107 : decode cX10_worthiestNow 107 = .ok (.iload 13, 2) := by decide +kernel
theorem dX10_worthiestNow_109 : decode cX10_worthiestNow 109 = .ok (.ifCond .eq 8, 3) := by decide +kernel
theorem dX10_worthiestNow_112 : decode cX10_worthiestNow 112 = .ok (.lload 9, 2) := by decide +kernel
theorem dX10_worthiestNow_114 : decode cX10_worthiestNow 114 = .ok (.goto 5, 3) := by decide +kernel
theorem dX10_worthiestNow_117 : decode cX10_worthiestNow 117 = .ok (.lload 4, 2) := by decide +kernel
theorem dX10_worthiestNow_119 : decode cX10_worthiestNow 119 = .ok (.lstore 4, 2) := by decide +kernel
theorem dX10_worthiestNow_121 : decode cX10_worthiestNow 121 = .ok (.iinc 6 1, 3) := by decide +kernel
theorem dX10_worthiestNow_124 : decode cX10_worthiestNow 124 = .ok (.goto (-114), 3) := by decide +kernel
theorem dX10_worthiestNow_127 : decode cX10_worthiestNow 127 = .ok (.iload_n 1, 1) := by decide +kernel
theorem dX10_worthiestNow_128 : decode cX10_worthiestNow 128 = .ok (.ireturn, 1) := by decide +kernel
theorem dX10_worthiest_0 : decode cX10_worthiest 0 = .ok (.aload_n 0, 1) := by decide +kernel
theorem dX10_worthiest_1 : decode cX10_worthiest 1 = .ok (.invokevirtual 218, 3) := by decide +kernel
theorem dX10_worthiest_4 : decode cX10_worthiest 4 = .ok (.ireturn, 1) := by decide +kernel
theorem dX10_betterBy_0 : decode cX10_betterBy 0 = .ok (.aload_n 0, 1) := by decide +kernel
theorem dX10_betterBy_1 : decode cX10_betterBy 1 = .ok (.invokevirtual 146, 3) := by decide +kernel
theorem dX10_betterBy_4 : decode cX10_betterBy 4 = .ok (.aload_n 0, 1) := by decide +kernel
theorem dX10_betterBy_5 : decode cX10_betterBy 5 = .ok (.getfield 35, 3) := by decide +kernel
theorem dX10_betterBy_8 : decode cX10_betterBy 8 = .ok (.iload_n 1, 1) := by decide +kernel
theorem dX10_betterBy_9 : decode cX10_betterBy 9 = .ok (.iload_n 2, 1) := by decide +kernel
theorem dX10_betterBy_10 : decode cX10_betterBy 10 = .ok (.iastore, 1) := by decide +kernel
theorem dX10_betterBy_11 : decode cX10_betterBy 11 = .ok (.aload_n 0, 1) := by decide +kernel
theorem dX10_betterBy_12 : decode cX10_betterBy 12 = .ok (.getfield 38, 3) := by decide +kernel
theorem dX10_betterBy_15 : decode cX10_betterBy 15 = .ok (.iload_n 1, 1) := by decide +kernel
theorem dX10_betterBy_16 : decode cX10_betterBy 16 = .ok (.iload_n 3, 1) := by decide +kernel
theorem dX10_betterBy_17 : decode cX10_betterBy 17 = .ok (.iastore, 1) := by decide +kernel
theorem dX10_betterBy_18 : decode cX10_betterBy 18 = .ok (.aload_n 0, 1) := by decide +kernel
theorem dX10_betterBy_19 : decode cX10_betterBy 19 = .ok (.aload_n 0, 1) := by decide +kernel
theorem dX10_betterBy_20 : decode cX10_betterBy 20 = .ok (.getfield 111, 3) := by decide +kernel
theorem dX10_betterBy_23 : decode cX10_betterBy 23 = .ok (.aload_n 0, 1) := by decide +kernel
theorem dX10_betterBy_24 : decode cX10_betterBy 24 = .ok (.invokevirtual 149, 3) := by decide +kernel
theorem dX10_betterBy_27 : decode cX10_betterBy 27 = .ok (.invokevirtual 153, 3) := by decide +kernel
theorem dX10_betterBy_30 : decode cX10_betterBy 30 = .ok (.aload_n 0, 1) := by decide +kernel
theorem dX10_betterBy_31 : decode cX10_betterBy 31 = .ok (.invokevirtual 157, 3) := by decide +kernel
theorem dX10_betterBy_34 : decode cX10_betterBy 34 = .ok (.iload 4, 2) := by decide +kernel
theorem dX10_betterBy_36 : decode cX10_betterBy 36 = .ok (.invokestatic 161, 3) := by decide +kernel
theorem dX10_betterBy_39 : decode cX10_betterBy 39 = .ok (.lreturn, 1) := by decide +kernel
theorem dX10_better_0 : decode cX10_better 0 = .ok (.aload_n 0, 1) := by decide +kernel
theorem dX10_better_1 : decode cX10_better 1 = .ok (.iload_n 1, 1) := by decide +kernel
theorem dX10_better_2 : decode cX10_better 2 = .ok (.invokevirtual 132, 3) := by decide +kernel
theorem dX10_better_5 : decode cX10_better 5 = .ok (.ifCond .eq 33, 3) := by decide +kernel
theorem dX10_better_8 : decode cX10_better 8 = .ok (.iload_n 2, 1) := by decide +kernel
theorem dX10_better_9 : decode cX10_better 9 = .ok (.i2l, 1) := by decide +kernel
theorem dX10_better_10 : decode cX10_better 10 = .ok (.iload_n 3, 1) := by decide +kernel
theorem dX10_better_11 : decode cX10_better 11 = .ok (.i2l, 1) := by decide +kernel
theorem dX10_better_12 : decode cX10_better 12 = .ok (.invokestatic 120, 3) := by decide +kernel
theorem dX10_better_15 : decode cX10_better 15 = .ok (.ifCond .eq 23, 3) := by decide +kernel
theorem dX10_better_18 : decode cX10_better 18 = .ok (.iload 4, 2) := by decide +kernel
theorem dX10_better_20 : decode cX10_better 20 = .ok (.invokestatic 165, 3) := by decide +kernel
theorem dX10_better_23 : decode cX10_better 23 = .ok (.ifCond .eq 15, 3) := by decide +kernel
theorem dX10_better_26 : decode cX10_better 26 = .ok (.aload_n 0, 1) := by decide +kernel
theorem dX10_better_27 : decode cX10_better 27 = .ok (.iload_n 1, 1) := by decide +kernel
theorem dX10_better_28 : decode cX10_better 28 = .ok (.iload_n 2, 1) := by decide +kernel
theorem dX10_better_29 : decode cX10_better 29 = .ok (.iload_n 3, 1) := by decide +kernel
theorem dX10_better_30 : decode cX10_better 30 = .ok (.iload 4, 2) := by decide +kernel
theorem dX10_better_32 : decode cX10_better 32 = .ok (.invokevirtual 221, 3) := by decide +kernel
theorem dX10_better_35 : decode cX10_better 35 = .ok (.goto 8, 3) := by decide +kernel
theorem dX10_better_38 : decode cX10_better 38 = .ok (.bipush (-2), 2) := by decide +kernel
theorem dX10_better_40 : decode cX10_better 40 = .ok (.invokestatic 99, 3) := by decide +kernel
theorem dX10_better_43 : decode cX10_better 43 = .ok (.lreturn, 1) := by decide +kernel
theorem dX10_isOpen_0 : decode cX10_isOpen 0 = .ok (.iconst 0, 1) := by decide +kernel
theorem dX10_isOpen_1 : decode cX10_isOpen 1 = .ok (.istore_n 3, 1) := by decide +kernel
theorem dX10_isOpen_2 : decode cX10_isOpen 2 = .ok (.iload_n 2, 1) := by decide +kernel
theorem dX10_isOpen_3 : decode cX10_isOpen 3 = .ok (.iconst 1, 1) := by decide +kernel
theorem dX10_isOpen_4 : decode cX10_isOpen 4 = .ok (.iadd, 1) := by decide +kernel
theorem dX10_isOpen_5 : decode cX10_isOpen 5 = .ok (.istore 4, 2) := by decide +kernel
theorem dX10_isOpen_7 : decode cX10_isOpen 7 = .ok (.iload 4, 2) := by decide +kernel
theorem dX10_isOpen_9 : decode cX10_isOpen 9 = .ok (.aload_n 0, 1) := by decide +kernel
theorem dX10_isOpen_10 : decode cX10_isOpen 10 = .ok (.getfield 103, 3) := by decide +kernel
theorem dX10_isOpen_13 : decode cX10_isOpen 13 = .ok (.if_icmp .ge 41, 3) := by decide +kernel
theorem dX10_isOpen_16 : decode cX10_isOpen 16 = .ok (.iload_n 3, 1) := by decide +kernel
theorem dX10_isOpen_17 : decode cX10_isOpen 17 = .ok (.ifCond .ne 25, 3) := by decide +kernel
theorem dX10_isOpen_20 : decode cX10_isOpen 20 = .ok (.aload_n 0, 1) := by decide +kernel
theorem dX10_isOpen_21 : decode cX10_isOpen 21 = .ok (.getfield 20, 3) := by decide +kernel
theorem dX10_isOpen_24 : decode cX10_isOpen 24 = .ok (.iload 4, 2) := by decide +kernel
theorem dX10_isOpen_26 : decode cX10_isOpen 26 = .ok (.iaload, 1) := by decide +kernel
theorem dX10_isOpen_27 : decode cX10_isOpen 27 = .ok (.iload_n 1, 1) := by decide +kernel
theorem dX10_isOpen_28 : decode cX10_isOpen 28 = .ok (.if_icmp .eq 14, 3) := by decide +kernel
theorem dX10_isOpen_31 : decode cX10_isOpen 31 = .ok (.aload_n 0, 1) := by decide +kernel
theorem dX10_isOpen_32 : decode cX10_isOpen 32 = .ok (.getfield 23, 3) := by decide +kernel
theorem dX10_isOpen_35 : decode cX10_isOpen 35 = .ok (.iload 4, 2) := by decide +kernel
theorem dX10_isOpen_37 : decode cX10_isOpen 37 = .ok (.iaload, 1) := by decide +kernel
theorem dX10_isOpen_38 : decode cX10_isOpen 38 = .ok (.iload_n 1, 1) := by decide +kernel
theorem dX10_isOpen_39 : decode cX10_isOpen 39 = .ok (.if_icmp .ne 7, 3) := by decide +kernel
theorem dX10_isOpen_42 : decode cX10_isOpen 42 = .ok (.iconst 1, 1) := by decide +kernel
theorem dX10_isOpen_43 : decode cX10_isOpen 43 = .ok (.goto 4, 3) := by decide +kernel
theorem dX10_isOpen_46 : decode cX10_isOpen 46 = .ok (.iconst 0, 1) := by decide +kernel
theorem dX10_isOpen_47 : decode cX10_isOpen 47 = .ok (.istore_n 3, 1) := by decide +kernel
theorem dX10_isOpen_48 : decode cX10_isOpen 48 = .ok (.iinc 4 1, 3) := by decide +kernel
theorem dX10_isOpen_51 : decode cX10_isOpen 51 = .ok (.goto (-44), 3) := by decide +kernel
theorem dX10_isOpen_54 : decode cX10_isOpen 54 = .ok (.iload_n 3, 1) := by decide +kernel
theorem dX10_isOpen_55 : decode cX10_isOpen 55 = .ok (.ireturn, 1) := by decide +kernel
theorem dX10_keyOf_0 : decode cX10_keyOf 0 = .ok (.aload_n 0, 1) := by decide +kernel
theorem dX10_keyOf_1 : decode cX10_keyOf 1 = .ok (.invokevirtual 149, 3) := by decide +kernel
theorem dX10_keyOf_4 : decode cX10_keyOf 4 = .ok (.istore_n 3, 1) := by decide +kernel
theorem dX10_keyOf_5 : decode cX10_keyOf 5 = .ok (.aload_n 0, 1) := by decide +kernel
theorem dX10_keyOf_6 : decode cX10_keyOf 6 = .ok (.iload_n 1, 1) := by decide +kernel
theorem dX10_keyOf_7 : decode cX10_keyOf 7 = .ok (.iload_n 3, 1) := by decide +kernel
theorem dX10_keyOf_8 : decode cX10_keyOf 8 = .ok (.invokevirtual 181, 3) := by decide +kernel
theorem dX10_keyOf_11 : decode cX10_keyOf 11 = .ok (.ifCond .eq 5, 3) := by decide +kernel
theorem dX10_keyOf_14 : decode cX10_keyOf 14 = .ok (.iconst (-1), 1) := by decide +kernel
theorem dX10_keyOf_15 : decode cX10_keyOf 15 = .ok (.ireturn, 1) := by decide +kernel
theorem dX10_keyOf_16 : decode cX10_keyOf 16 = .ok (.iconst 0, 1) := by decide +kernel
theorem dX10_keyOf_17 : decode cX10_keyOf 17 = .ok (.istore 4, 2) := by decide +kernel
theorem dX10_keyOf_19 : decode cX10_keyOf 19 = .ok (.iconst 0, 1) := by decide +kernel
theorem dX10_keyOf_20 : decode cX10_keyOf 20 = .ok (.istore 5, 2) := by decide +kernel
theorem dX10_keyOf_22 : decode cX10_keyOf 22 = .ok (.iload 5, 2) := by decide +kernel
theorem dX10_keyOf_24 : decode cX10_keyOf 24 = .ok (.aload_n 0, 1) := by decide +kernel
theorem dX10_keyOf_25 : decode cX10_keyOf 25 = .ok (.getfield 68, 3) := by decide +kernel
theorem dX10_keyOf_28 : decode cX10_keyOf 28 = .ok (.if_icmp .ge 134, 3) := by decide +kernel
theorem dX10_keyOf_31 : decode cX10_keyOf 31 = .ok (.aload_n 0, 1) := by decide +kernel
theorem dX10_keyOf_32 : decode cX10_keyOf 32 = .ok (.iload_n 1, 1) := by decide +kernel
theorem dX10_keyOf_33 : decode cX10_keyOf 33 = .ok (.iload 5, 2) := by decide +kernel
theorem dX10_keyOf_35 : decode cX10_keyOf 35 = .ok (.invokevirtual 140, 3) := by decide +kernel
theorem dX10_keyOf_38 : decode cX10_keyOf 38 = .ok (.istore 6, 2) := by decide +kernel
theorem dX10_keyOf_40 : decode cX10_keyOf 40 = .ok (.iload_n 3, 1) := by decide +kernel
theorem dX10_keyOf_41 : decode cX10_keyOf 41 = .ok (.iload 5, 2) := by decide +kernel
theorem dX10_keyOf_43 : decode cX10_keyOf 43 = .ok (.ishr, 1) := by decide +kernel
theorem dX10_keyOf_44 : decode cX10_keyOf 44 = .ok (.iconst 1, 1) := by decide +kernel
theorem dX10_keyOf_45 : decode cX10_keyOf 45 = .ok (.iand, 1) := by decide +kernel
theorem dX10_keyOf_46 : decode cX10_keyOf 46 = .ok (.iconst 1, 1) := by decide +kernel
theorem dX10_keyOf_47 : decode cX10_keyOf 47 = .ok (.if_icmp .ne 12, 3) := by decide +kernel
theorem dX10_keyOf_50 : decode cX10_keyOf 50 = .ok (.iload 6, 2) := by decide +kernel
theorem dX10_keyOf_52 : decode cX10_keyOf 52 = .ok (.iload_n 2, 1) := by decide +kernel
theorem dX10_keyOf_53 : decode cX10_keyOf 53 = .ok (.iand, 1) := by decide +kernel
theorem dX10_keyOf_54 : decode cX10_keyOf 54 = .ok (.ifCond .ne 5, 3) := by decide +kernel
theorem dX10_keyOf_57 : decode cX10_keyOf 57 = .ok (.iconst (-1), 1) := by decide +kernel
theorem dX10_keyOf_58 : decode cX10_keyOf 58 = .ok (.ireturn, 1) := by decide +kernel
theorem dX10_keyOf_59 : decode cX10_keyOf 59 = .ok (.bipush 7, 2) := by decide +kernel
theorem dX10_keyOf_61 : decode cX10_keyOf 61 = .ok (.istore 7, 2) := by decide +kernel
theorem dX10_keyOf_63 : decode cX10_keyOf 63 = .ok (.aload_n 0, 1) := by decide +kernel
theorem dX10_keyOf_64 : decode cX10_keyOf 64 = .ok (.getfield 68, 3) := by decide +kernel
theorem dX10_keyOf_67 : decode cX10_keyOf 67 = .ok (.iconst 1, 1) := by decide +kernel
theorem dX10_keyOf_68 : decode cX10_keyOf 68 = .ok (.isub, 1) := by decide +kernel
theorem dX10_keyOf_69 : decode cX10_keyOf 69 = .ok (.istore 8, 2) := by decide +kernel
theorem dX10_keyOf_71 : decode cX10_keyOf 71 = .ok (.iload 8, 2) := by decide +kernel
theorem dX10_keyOf_73 : decode cX10_keyOf 73 = .ok (.ifCond .lt 31, 3) := by decide +kernel
theorem dX10_keyOf_76 : decode cX10_keyOf 76 = .ok (.iload 6, 2) := by decide +kernel
theorem dX10_keyOf_78 : decode cX10_keyOf 78 = .ok (.iload_n 2, 1) := by decide +kernel
theorem dX10_keyOf_79 : decode cX10_keyOf 79 = .ok (.iand, 1) := by decide +kernel
theorem dX10_keyOf_80 : decode cX10_keyOf 80 = .ok (.iload 8, 2) := by decide +kernel
theorem dX10_keyOf_82 : decode cX10_keyOf 82 = .ok (.ishr, 1) := by decide +kernel
theorem dX10_keyOf_83 : decode cX10_keyOf 83 = .ok (.iconst 1, 1) := by decide +kernel
theorem dX10_keyOf_84 : decode cX10_keyOf 84 = .ok (.iand, 1) := by decide +kernel
theorem dX10_keyOf_85 : decode cX10_keyOf 85 = .ok (.iconst 1, 1) := by decide +kernel
theorem dX10_keyOf_86 : decode cX10_keyOf 86 = .ok (.if_icmp .ne 8, 3) := by decide +kernel
theorem dX10_keyOf_89 : decode cX10_keyOf 89 = .ok (.iload 8, 2) := by decide +kernel
theorem dX10_keyOf_91 : decode cX10_keyOf 91 = .ok (.goto 5, 3) := by decide +kernel
theorem dX10_keyOf_94 : decode cX10_keyOf 94 = .ok (.iload 7, 2) := by decide +kernel
theorem dX10_keyOf_96 : decode cX10_keyOf 96 = .ok (.istore 7, 2) := by decide +kernel
theorem dX10_keyOf_98 : decode cX10_keyOf 98 = .ok (.iinc 8 (-1), 3) := by decide +kernel
theorem dX10_keyOf_101 : decode cX10_keyOf 101 = .ok (.goto (-30), 3) := by decide +kernel
theorem dX10_keyOf_104 : decode cX10_keyOf 104 = .ok (.iload_n 2, 1) := by decide +kernel
theorem dX10_keyOf_105 : decode cX10_keyOf 105 = .ok (.iload 5, 2) := by decide +kernel
theorem dX10_keyOf_107 : decode cX10_keyOf 107 = .ok (.ishr, 1) := by decide +kernel
theorem dX10_keyOf_108 : decode cX10_keyOf 108 = .ok (.iconst 1, 1) := by decide +kernel
theorem dX10_keyOf_109 : decode cX10_keyOf 109 = .ok (.iand, 1) := by decide +kernel
theorem dX10_keyOf_110 : decode cX10_keyOf 110 = .ok (.iconst 1, 1) := by decide +kernel
theorem dX10_keyOf_111 : decode cX10_keyOf 111 = .ok (.if_icmp .ne 7, 3) := by decide +kernel
theorem dX10_keyOf_114 : decode cX10_keyOf 114 = .ok (.iconst 1, 1) := by decide +kernel
theorem dX10_keyOf_115 : decode cX10_keyOf 115 = .ok (.goto 4, 3) := by decide +kernel
theorem dX10_keyOf_118 : decode cX10_keyOf 118 = .ok (.iconst 0, 1) := by decide +kernel
theorem dX10_keyOf_119 : decode cX10_keyOf 119 = .ok (.istore 8, 2) := by decide +kernel
theorem dX10_keyOf_121 : decode cX10_keyOf 121 = .ok (.bipush 16, 2) := by decide +kernel
theorem dX10_keyOf_123 : decode cX10_keyOf 123 = .ok (.iload 4, 2) := by decide +kernel
theorem dX10_keyOf_125 : decode cX10_keyOf 125 = .ok (.imul, 1) := by decide +kernel
theorem dX10_keyOf_126 : decode cX10_keyOf 126 = .ok (.iload 8, 2) := by decide +kernel
theorem dX10_keyOf_128 : decode cX10_keyOf 128 = .ok (.ifCond .eq 23, 3) := by decide +kernel
theorem dX10_keyOf_131 : decode cX10_keyOf 131 = .ok (.iconst 2, 1) := by decide +kernel
theorem dX10_keyOf_132 : decode cX10_keyOf 132 = .ok (.iload 7, 2) := by decide +kernel
theorem dX10_keyOf_134 : decode cX10_keyOf 134 = .ok (.imul, 1) := by decide +kernel
theorem dX10_keyOf_135 : decode cX10_keyOf 135 = .ok (.iload 6, 2) := by decide +kernel
theorem dX10_keyOf_137 : decode cX10_keyOf 137 = .ok (.iload_n 3, 1) := by decide +kernel
theorem dX10_keyOf_138 : decode cX10_keyOf 138 = .ok (.iand, 1) := by decide +kernel
theorem dX10_keyOf_139 : decode cX10_keyOf 139 = .ok (.ifCond .eq 7, 3) := by decide +kernel
theorem dX10_keyOf_142 : decode cX10_keyOf 142 = .ok (.iconst 1, 1) := by decide +kernel
theorem dX10_keyOf_143 : decode cX10_keyOf 143 = .ok (.goto 4, 3) := by decide +kernel
theorem dX10_keyOf_146 : decode cX10_keyOf 146 = .ok (.iconst 0, 1) := by decide +kernel
theorem dX10_keyOf_147 : decode cX10_keyOf 147 = .ok (.iadd, 1) := by decide +kernel
theorem dX10_keyOf_148 : decode cX10_keyOf 148 = .ok (.goto 5, 3) := by decide +kernel
theorem dX10_keyOf_151 : decode cX10_keyOf 151 = .ok (.bipush 15, 2) := by decide +kernel
theorem dX10_keyOf_153 : decode cX10_keyOf 153 = .ok (.iadd, 1) := by decide +kernel
theorem dX10_keyOf_154 : decode cX10_keyOf 154 = .ok (.istore 4, 2) := by decide +kernel
theorem dX10_keyOf_156 : decode cX10_keyOf 156 = .ok (.iinc 5 1, 3) := by decide +kernel
theorem dX10_keyOf_159 : decode cX10_keyOf 159 = .ok (.goto (-137), 3) := by decide +kernel
theorem dX10_keyOf_162 : decode cX10_keyOf 162 = .ok (.iload 4, 2) := by decide +kernel
theorem dX10_keyOf_164 : decode cX10_keyOf 164 = .ok (.ireturn, 1) := by decide +kernel
theorem dX10_isPossible_0 : decode cX10_isPossible 0 = .ok (.iconst 1, 1) := by decide +kernel
theorem dX10_isPossible_1 : decode cX10_isPossible 1 = .ok (.istore_n 3, 1) := by decide +kernel
theorem dX10_isPossible_2 : decode cX10_isPossible 2 = .ok (.iconst 0, 1) := by decide +kernel
theorem dX10_isPossible_3 : decode cX10_isPossible 3 = .ok (.istore 4, 2) := by decide +kernel
theorem dX10_isPossible_5 : decode cX10_isPossible 5 = .ok (.iload 4, 2) := by decide +kernel
theorem dX10_isPossible_7 : decode cX10_isPossible 7 = .ok (.iload_n 2, 1) := by decide +kernel
theorem dX10_isPossible_8 : decode cX10_isPossible 8 = .ok (.if_icmp .gt 65, 3) := by decide +kernel
theorem dX10_isPossible_11 : decode cX10_isPossible 11 = .ok (.iload_n 1, 1) := by decide +kernel
theorem dX10_isPossible_12 : decode cX10_isPossible 12 = .ok (.iload 4, 2) := by decide +kernel
theorem dX10_isPossible_14 : decode cX10_isPossible 14 = .ok (.ishr, 1) := by decide +kernel
theorem dX10_isPossible_15 : decode cX10_isPossible 15 = .ok (.iconst 1, 1) := by decide +kernel
theorem dX10_isPossible_16 : decode cX10_isPossible 16 = .ok (.iand, 1) := by decide +kernel
theorem dX10_isPossible_17 : decode cX10_isPossible 17 = .ok (.istore 5, 2) := by decide +kernel
theorem dX10_isPossible_19 : decode cX10_isPossible 19 = .ok (.iload_n 3, 1) := by decide +kernel
theorem dX10_isPossible_20 : decode cX10_isPossible 20 = .ok (.ifCond .eq 45, 3) := by decide +kernel
theorem dX10_isPossible_23 : decode cX10_isPossible 23 = .ok (.aload_n 0, 1) := by decide +kernel
theorem dX10_isPossible_24 : decode cX10_isPossible 24 = .ok (.getfield 35, 3) := by decide +kernel
theorem dX10_isPossible_27 : decode cX10_isPossible 27 = .ok (.iload 4, 2) := by decide +kernel
theorem dX10_isPossible_29 : decode cX10_isPossible 29 = .ok (.iaload, 1) := by decide +kernel
theorem dX10_isPossible_30 : decode cX10_isPossible 30 = .ok (.ifCond .gt 8, 3) := by decide +kernel
theorem dX10_isPossible_33 : decode cX10_isPossible 33 = .ok (.iload 5, 2) := by decide +kernel
theorem dX10_isPossible_35 : decode cX10_isPossible 35 = .ok (.ifCond .ne 30, 3) := by decide +kernel
theorem dX10_isPossible_38 : decode cX10_isPossible 38 = .ok (.aload_n 0, 1) := by decide +kernel
theorem dX10_isPossible_39 : decode cX10_isPossible 39 = .ok (.getfield 35, 3) := by decide +kernel
theorem dX10_isPossible_42 : decode cX10_isPossible 42 = .ok (.iload 4, 2) := by decide +kernel
theorem dX10_isPossible_44 : decode cX10_isPossible 44 = .ok (.iaload, 1) := by decide +kernel
theorem dX10_isPossible_45 : decode cX10_isPossible 45 = .ok (.aload_n 0, 1) := by decide +kernel
theorem dX10_isPossible_46 : decode cX10_isPossible 46 = .ok (.getfield 38, 3) := by decide +kernel
theorem dX10_isPossible_49 : decode cX10_isPossible 49 = .ok (.iload 4, 2) := by decide +kernel
theorem dX10_isPossible_51 : decode cX10_isPossible 51 = .ok (.iaload, 1) := by decide +kernel
theorem dX10_isPossible_52 : decode cX10_isPossible 52 = .ok (.if_icmp .lt 9, 3) := by decide +kernel
theorem dX10_isPossible_55 : decode cX10_isPossible 55 = .ok (.iload 5, 2) := by decide +kernel
theorem dX10_isPossible_57 : decode cX10_isPossible 57 = .ok (.iconst 1, 1) := by decide +kernel
theorem dX10_isPossible_58 : decode cX10_isPossible 58 = .ok (.if_icmp .ne 7, 3) := by decide +kernel
theorem dX10_isPossible_61 : decode cX10_isPossible 61 = .ok (.iconst 1, 1) := by decide +kernel
theorem dX10_isPossible_62 : decode cX10_isPossible 62 = .ok (.goto 4, 3) := by decide +kernel
theorem dX10_isPossible_65 : decode cX10_isPossible 65 = .ok (.iconst 0, 1) := by decide +kernel
theorem dX10_isPossible_66 : decode cX10_isPossible 66 = .ok (.istore_n 3, 1) := by decide +kernel
theorem dX10_isPossible_67 : decode cX10_isPossible 67 = .ok (.iinc 4 1, 3) := by decide +kernel
theorem dX10_isPossible_70 : decode cX10_isPossible 70 = .ok (.goto (-65), 3) := by decide +kernel
theorem dX10_isPossible_73 : decode cX10_isPossible 73 = .ok (.iload_n 3, 1) := by decide +kernel
theorem dX10_isPossible_74 : decode cX10_isPossible 74 = .ok (.ireturn, 1) := by decide +kernel
theorem dX10_wideBy_0 : decode cX10_wideBy 0 = .ok (.aload_n 0, 1) := by decide +kernel
theorem dX10_wideBy_1 : decode cX10_wideBy 1 = .ok (.invokevirtual 146, 3) := by decide +kernel
theorem dX10_wideBy_4 : decode cX10_wideBy 4 = .ok (.iconst 0, 1) := by decide +kernel
theorem dX10_wideBy_5 : decode cX10_wideBy 5 = .ok (.istore_n 2, 1) := by decide +kernel
theorem dX10_wideBy_6 : decode cX10_wideBy 6 = .ok (.iconst 0, 1) := by decide +kernel
theorem dX10_wideBy_7 : decode cX10_wideBy 7 = .ok (.istore_n 3, 1) := by decide +kernel
theorem dX10_wideBy_8 : decode cX10_wideBy 8 = .ok (.iload_n 3, 1) := by decide +kernel
theorem dX10_wideBy_9 : decode cX10_wideBy 9 = .ok (.aload_n 0, 1) := by decide +kernel
theorem dX10_wideBy_10 : decode cX10_wideBy 10 = .ok (.getfield 68, 3) := by decide +kernel
theorem dX10_wideBy_13 : decode cX10_wideBy 13 = .ok (.if_icmp .ge 28, 3) := by decide +kernel
theorem dX10_wideBy_16 : decode cX10_wideBy 16 = .ok (.iload_n 2, 1) := by decide +kernel
theorem dX10_wideBy_17 : decode cX10_wideBy 17 = .ok (.aload_n 0, 1) := by decide +kernel
theorem dX10_wideBy_18 : decode cX10_wideBy 18 = .ok (.iload_n 3, 1) := by decide +kernel
theorem dX10_wideBy_19 : decode cX10_wideBy 19 = .ok (.iload_n 1, 1) := by decide +kernel
theorem dX10_wideBy_20 : decode cX10_wideBy 20 = .ok (.invokevirtual 225, 3) := by decide +kernel
theorem dX10_wideBy_23 : decode cX10_wideBy 23 = .ok (.ifCond .eq 9, 3) := by decide +kernel
theorem dX10_wideBy_26 : decode cX10_wideBy 26 = .ok (.iconst 1, 1) := by decide +kernel
theorem dX10_wideBy_27 : decode cX10_wideBy 27 = .ok (.iload_n 3, 1) := by decide +kernel
theorem dX10_wideBy_28 : decode cX10_wideBy 28 = .ok (.ishl, 1) := by decide +kernel
theorem dX10_wideBy_29 : decode cX10_wideBy 29 = .ok (.goto 4, 3) := by decide +kernel
theorem dX10_wideBy_32 : decode cX10_wideBy 32 = .ok (.iconst 0, 1) := by decide +kernel
theorem dX10_wideBy_33 : decode cX10_wideBy 33 = .ok (.ior, 1) := by decide +kernel
theorem dX10_wideBy_34 : decode cX10_wideBy 34 = .ok (.istore_n 2, 1) := by decide +kernel
theorem dX10_wideBy_35 : decode cX10_wideBy 35 = .ok (.iinc 3 1, 3) := by decide +kernel
theorem dX10_wideBy_38 : decode cX10_wideBy 38 = .ok (.goto (-30), 3) := by decide +kernel
theorem dX10_wideBy_41 : decode cX10_wideBy 41 = .ok (.iconst 0, 1) := by decide +kernel
theorem dX10_wideBy_42 : decode cX10_wideBy 42 = .ok (.istore_n 3, 1) := by decide +kernel
theorem dX10_wideBy_43 : decode cX10_wideBy 43 = .ok (.iconst 0, 1) := by decide +kernel
theorem dX10_wideBy_44 : decode cX10_wideBy 44 = .ok (.istore 4, 2) := by decide +kernel
theorem dX10_wideBy_46 : decode cX10_wideBy 46 = .ok (.iload 4, 2) := by decide +kernel
theorem dX10_wideBy_48 : decode cX10_wideBy 48 = .ok (.iconst 1, 1) := by decide +kernel
theorem dX10_wideBy_49 : decode cX10_wideBy 49 = .ok (.iload_n 1, 1) := by decide +kernel
theorem dX10_wideBy_50 : decode cX10_wideBy 50 = .ok (.iconst 1, 1) := by decide +kernel
theorem dX10_wideBy_51 : decode cX10_wideBy 51 = .ok (.iadd, 1) := by decide +kernel
theorem dX10_wideBy_52 : decode cX10_wideBy 52 = .ok (.ishl, 1) := by decide +kernel
theorem dX10_wideBy_53 : decode cX10_wideBy 53 = .ok (.if_icmp .ge 100, 3) := by decide +kernel
theorem dX10_wideBy_56 : decode cX10_wideBy 56 = .ok (.aload_n 0, 1) := by decide +kernel
theorem dX10_wideBy_57 : decode cX10_wideBy 57 = .ok (.iload 4, 2) := by decide +kernel
theorem dX10_wideBy_59 : decode cX10_wideBy 59 = .ok (.iload_n 1, 1) := by decide +kernel
theorem dX10_wideBy_60 : decode cX10_wideBy 60 = .ok (.invokevirtual 228, 3) := by decide +kernel
theorem dX10_wideBy_63 : decode cX10_wideBy 63 = .ok (.ifCond .eq 13, 3) := by decide +kernel
theorem dX10_wideBy_66 : decode cX10_wideBy 66 = .ok (.aload_n 0, 1) := by decide +kernel
theorem dX10_wideBy_67 : decode cX10_wideBy 67 = .ok (.iload 4, 2) := by decide +kernel
theorem dX10_wideBy_69 : decode cX10_wideBy 69 = .ok (.iload_n 2, 1) := by decide +kernel
theorem dX10_wideBy_70 : decode cX10_wideBy 70 = .ok (.invokevirtual 231, 3) := by decide +kernel
theorem dX10_wideBy_73 : decode cX10_wideBy 73 = .ok (.goto 4, 3) := by decide +kernel
theorem dX10_wideBy_76 : decode cX10_wideBy 76 = .ok (.iconst (-1), 1) := by decide +kernel
theorem dX10_wideBy_77 : decode cX10_wideBy 77 = .ok (.istore 5, 2) := by decide +kernel
theorem dX10_wideBy_79 : decode cX10_wideBy 79 = .ok (.iload 5, 2) := by decide +kernel
theorem dX10_wideBy_81 : decode cX10_wideBy 81 = .ok (.iconst (-1), 1) := by decide +kernel
theorem dX10_wideBy_82 : decode cX10_wideBy 82 = .ok (.if_icmp .eq 7, 3) := by decide +kernel
theorem dX10_wideBy_85 : decode cX10_wideBy 85 = .ok (.iconst 1, 1) := by decide +kernel
theorem dX10_wideBy_86 : decode cX10_wideBy 86 = .ok (.goto 4, 3) := by decide +kernel
theorem dX10_wideBy_89 : decode cX10_wideBy 89 = .ok (.iconst 0, 1) := by decide +kernel
theorem dX10_wideBy_90 : decode cX10_wideBy 90 = .ok (.istore 6, 2) := by decide +kernel
theorem dX10_wideBy_92 : decode cX10_wideBy 92 = .ok (.iconst 0, 1) := by decide +kernel
theorem dX10_wideBy_93 : decode cX10_wideBy 93 = .ok (.istore 7, 2) := by decide +kernel
theorem dX10_wideBy_95 : decode cX10_wideBy 95 = .ok (.iload 7, 2) := by decide +kernel
theorem dX10_wideBy_97 : decode cX10_wideBy 97 = .ok (.iload_n 3, 1) := by decide +kernel
theorem dX10_wideBy_98 : decode cX10_wideBy 98 = .ok (.if_icmp .ge 33, 3) := by decide +kernel
theorem dX10_wideBy_101 : decode cX10_wideBy 101 = .ok (.iload 6, 2) := by decide +kernel
theorem dX10_wideBy_103 : decode cX10_wideBy 103 = .ok (.ifCond .eq 28, 3) := by decide +kernel
theorem dX10_wideBy_106 : decode cX10_wideBy 106 = .ok (.aload_n 0, 1) := by decide +kernel
theorem dX10_wideBy_107 : decode cX10_wideBy 107 = .ok (.getfield 41, 3) := by decide +kernel
theorem dX10_wideBy_110 : decode cX10_wideBy 110 = .ok (.iload 7, 2) := by decide +kernel
theorem dX10_wideBy_112 : decode cX10_wideBy 112 = .ok (.iaload, 1) := by decide +kernel
theorem dX10_wideBy_113 : decode cX10_wideBy 113 = .ok (.iload 5, 2) := by decide +kernel
theorem dX10_wideBy_115 : decode cX10_wideBy 115 = .ok (.if_icmp .eq 7, 3) := by decide +kernel
theorem dX10_wideBy_118 : decode cX10_wideBy 118 = .ok (.iconst 1, 1) := by decide +kernel
theorem dX10_wideBy_119 : decode cX10_wideBy 119 = .ok (.goto 4, 3) := by decide +kernel
theorem dX10_wideBy_122 : decode cX10_wideBy 122 = .ok (.iconst 0, 1) := by decide +kernel
theorem dX10_wideBy_123 : decode cX10_wideBy 123 = .ok (.istore 6, 2) := by decide +kernel
theorem dX10_wideBy_125 : decode cX10_wideBy 125 = .ok (.iinc 7 1, 3) := by decide +kernel
theorem dX10_wideBy_128 : decode cX10_wideBy 128 = .ok (.goto (-33), 3) := by decide +kernel
theorem dX10_wideBy_131 : decode cX10_wideBy 131 = .ok (.iload 6, 2) := by decide +kernel
theorem dX10_wideBy_133 : decode cX10_wideBy 133 = .ok (.ifCond .eq 14, 3) := by decide +kernel
theorem dX10_wideBy_136 : decode cX10_wideBy 136 = .ok (.aload_n 0, 1) := by decide +kernel
theorem dX10_wideBy_137 : decode cX10_wideBy 137 = .ok (.getfield 41, 3) := by decide +kernel
theorem dX10_wideBy_140 : decode cX10_wideBy 140 = .ok (.iload_n 3, 1) := by decide +kernel
theorem dX10_wideBy_141 : decode cX10_wideBy 141 = .ok (.iload 5, 2) := by decide +kernel
theorem dX10_wideBy_143 : decode cX10_wideBy 143 = .ok (.iastore, 1) := by decide +kernel
theorem dX10_wideBy_144 : decode cX10_wideBy 144 = .ok (.iinc 3 1, 3) := by decide +kernel
theorem dX10_wideBy_147 : decode cX10_wideBy 147 = .ok (.iinc 4 1, 3) := by decide +kernel
theorem dX10_wideBy_150 : decode cX10_wideBy 150 = .ok (.goto (-104), 3) := by decide +kernel
theorem dX10_wideBy_153 : decode cX10_wideBy 153 = .ok (.iload_n 3, 1) := by decide +kernel
theorem dX10_wideBy_154 : decode cX10_wideBy 154 = .ok (.ireturn, 1) := by decide +kernel
theorem dX10_wide_0 : decode cX10_wide 0 = .ok (.aload_n 0, 1) := by decide +kernel
theorem dX10_wide_1 : decode cX10_wide 1 = .ok (.iload_n 1, 1) := by decide +kernel
theorem dX10_wide_2 : decode cX10_wide 2 = .ok (.invokevirtual 132, 3) := by decide +kernel
theorem dX10_wide_5 : decode cX10_wide 5 = .ok (.ifCond .eq 11, 3) := by decide +kernel
theorem dX10_wide_8 : decode cX10_wide 8 = .ok (.aload_n 0, 1) := by decide +kernel
theorem dX10_wide_9 : decode cX10_wide 9 = .ok (.iload_n 1, 1) := by decide +kernel
theorem dX10_wide_10 : decode cX10_wide 10 = .ok (.invokevirtual 234, 3) := by decide +kernel
theorem dX10_wide_13 : decode cX10_wide 13 = .ok (.goto 5, 3) := by decide +kernel
theorem dX10_wide_16 : decode cX10_wide 16 = .ok (.bipush (-2), 2) := by decide +kernel
theorem dX10_wide_18 : decode cX10_wide 18 = .ok (.ireturn, 1) := by decide +kernel
theorem dX10_widestNow_0 : decode cX10_widestNow 0 = .ok (.iconst 0, 1) := by decide +kernel
theorem dX10_widestNow_1 : decode cX10_widestNow 1 = .ok (.istore_n 1, 1) := by decide +kernel
theorem dX10_widestNow_2 : decode cX10_widestNow 2 = .ok (.iconst 0, 1) := by decide +kernel
theorem dX10_widestNow_3 : decode cX10_widestNow 3 = .ok (.istore_n 2, 1) := by decide +kernel
theorem dX10_widestNow_4 : decode cX10_widestNow 4 = .ok (.iload_n 2, 1) := by decide +kernel
theorem dX10_widestNow_5 : decode cX10_widestNow 5 = .ok (.aload_n 0, 1) := by decide +kernel
theorem dX10_widestNow_6 : decode cX10_widestNow 6 = .ok (.getfield 103, 3) := by decide +kernel
theorem dX10_widestNow_9 : decode cX10_widestNow 9 = .ok (.if_icmp .ge 26, 3) := by decide +kernel
theorem dX10_widestNow_12 : decode cX10_widestNow 12 = .ok (.aload_n 0, 1) := by decide +kernel
theorem dX10_widestNow_13 : decode cX10_widestNow 13 = .ok (.iload_n 2, 1) := by decide +kernel
theorem dX10_widestNow_14 : decode cX10_widestNow 14 = .ok (.invokevirtual 234, 3) := by decide +kernel
theorem dX10_widestNow_17 : decode cX10_widestNow 17 = .ok (.istore_n 3, 1) := by decide +kernel
theorem dX10_widestNow_18 : decode cX10_widestNow 18 = .ok (.iload_n 3, 1) := by decide +kernel
theorem dX10_widestNow_19 : decode cX10_widestNow 19 = .ok (.iload_n 1, 1) := by decide +kernel
theorem dX10_widestNow_20 : decode cX10_widestNow 20 = .ok (.if_icmp .le 7, 3) := by decide +kernel
theorem dX10_widestNow_23 : decode cX10_widestNow 23 = .ok (.iload_n 3, 1) := by decide +kernel
theorem dX10_widestNow_24 : decode cX10_widestNow 24 = .ok (.goto 4, 3) := by decide +kernel
theorem dX10_widestNow_27 : decode cX10_widestNow 27 = .ok (.iload_n 1, 1) := by decide +kernel
theorem dX10_widestNow_28 : decode cX10_widestNow 28 = .ok (.istore_n 1, 1) := by decide +kernel
theorem dX10_widestNow_29 : decode cX10_widestNow 29 = .ok (.iinc 2 1, 3) := by decide +kernel
theorem dX10_widestNow_32 : decode cX10_widestNow 32 = .ok (.goto (-28), 3) := by decide +kernel
theorem dX10_widestNow_35 : decode cX10_widestNow 35 = .ok (.iload_n 1, 1) := by decide +kernel
theorem dX10_widestNow_36 : decode cX10_widestNow 36 = .ok (.ireturn, 1) := by decide +kernel
theorem dX10_widest_0 : decode cX10_widest 0 = .ok (.aload_n 0, 1) := by decide +kernel
theorem dX10_widest_1 : decode cX10_widest 1 = .ok (.invokevirtual 237, 3) := by decide +kernel
theorem dX10_widest_4 : decode cX10_widest 4 = .ok (.ireturn, 1) := by decide +kernel
theorem dX10_has_0 : decode cX10_has 0 = .ok (.aload_n 0, 1) := by decide +kernel
theorem dX10_has_1 : decode cX10_has 1 = .ok (.getfield 53, 3) := by decide +kernel
theorem dX10_has_4 : decode cX10_has 4 = .ok (.iload_n 1, 1) := by decide +kernel
theorem dX10_has_5 : decode cX10_has 5 = .ok (.iaload, 1) := by decide +kernel
theorem dX10_has_6 : decode cX10_has 6 = .ok (.iload_n 2, 1) := by decide +kernel
theorem dX10_has_7 : decode cX10_has 7 = .ok (.ishr, 1) := by decide +kernel
theorem dX10_has_8 : decode cX10_has 8 = .ok (.iconst 1, 1) := by decide +kernel
theorem dX10_has_9 : decode cX10_has 9 = .ok (.iand, 1) := by decide +kernel
theorem dX10_has_10 : decode cX10_has 10 = .ok (.iconst 1, 1) := by decide +kernel
theorem dX10_has_11 : decode cX10_has 11 = .ok (.if_icmp .ne 7, 3) := by decide +kernel
theorem dX10_has_14 : decode cX10_has 14 = .ok (.iconst 1, 1) := by decide +kernel
theorem dX10_has_15 : decode cX10_has 15 = .ok (.goto 4, 3) := by decide +kernel
theorem dX10_has_18 : decode cX10_has 18 = .ok (.iconst 0, 1) := by decide +kernel
theorem dX10_has_19 : decode cX10_has 19 = .ok (.ireturn, 1) := by decide +kernel
theorem dX10_drops_0 : decode cX10_drops 0 = .ok (.aload_n 0, 1) := by decide +kernel
theorem dX10_drops_1 : decode cX10_drops 1 = .ok (.getfield 53, 3) := by decide +kernel
theorem dX10_drops_4 : decode cX10_drops 4 = .ok (.iload_n 1, 1) := by decide +kernel
theorem dX10_drops_5 : decode cX10_drops 5 = .ok (.dup2, 1) := by decide +kernel
theorem dX10_drops_6 : decode cX10_drops 6 = .ok (.iaload, 1) := by decide +kernel
theorem dX10_drops_7 : decode cX10_drops 7 = .ok (.iconst 1, 1) := by decide +kernel
theorem dX10_drops_8 : decode cX10_drops 8 = .ok (.iload_n 2, 1) := by decide +kernel
theorem dX10_drops_9 : decode cX10_drops 9 = .ok (.ishl, 1) := by decide +kernel
theorem dX10_drops_10 : decode cX10_drops 10 = .ok (.iconst (-1), 1) := by decide +kernel
theorem dX10_drops_11 : decode cX10_drops 11 = .ok (.ixor, 1) := by decide +kernel
theorem dX10_drops_12 : decode cX10_drops 12 = .ok (.iand, 1) := by decide +kernel
theorem dX10_drops_13 : decode cX10_drops 13 = .ok (.iastore, 1) := by decide +kernel
theorem dX10_drops_14 : decode cX10_drops 14 = .ok (.aload_n 0, 1) := by decide +kernel
theorem dX10_drops_15 : decode cX10_drops 15 = .ok (.dup, 1) := by decide +kernel
theorem dX10_drops_16 : decode cX10_drops 16 = .ok (.getfield 240, 3) := by decide +kernel
theorem dX10_drops_19 : decode cX10_drops 19 = .ok (.iconst 1, 1) := by decide +kernel
theorem dX10_drops_20 : decode cX10_drops 20 = .ok (.iadd, 1) := by decide +kernel
theorem dX10_drops_21 : decode cX10_drops 21 = .ok (.putfield 240, 3) := by decide +kernel
theorem dX10_drops_24 : decode cX10_drops 24 = .ok (.return_, 1) := by decide +kernel
theorem dX10_isAt_0 : decode cX10_isAt 0 = .ok (.aload_n 0, 1) := by decide +kernel
theorem dX10_isAt_1 : decode cX10_isAt 1 = .ok (.getfield 44, 3) := by decide +kernel
theorem dX10_isAt_4 : decode cX10_isAt 4 = .ok (.bipush 10, 2) := by decide +kernel
theorem dX10_isAt_6 : decode cX10_isAt 6 = .ok (.iload_n 1, 1) := by decide +kernel
theorem dX10_isAt_7 : decode cX10_isAt 7 = .ok (.imul, 1) := by decide +kernel
theorem dX10_isAt_8 : decode cX10_isAt 8 = .ok (.iload_n 2, 1) := by decide +kernel
theorem dX10_isAt_9 : decode cX10_isAt 9 = .ok (.iadd, 1) := by decide +kernel
theorem dX10_isAt_10 : decode cX10_isAt 10 = .ok (.iaload, 1) := by decide +kernel
theorem dX10_isAt_11 : decode cX10_isAt 11 = .ok (.iload_n 3, 1) := by decide +kernel
theorem dX10_isAt_12 : decode cX10_isAt 12 = .ok (.if_icmp .eq 18, 3) := by decide +kernel
theorem dX10_isAt_15 : decode cX10_isAt 15 = .ok (.aload_n 0, 1) := by decide +kernel
theorem dX10_isAt_16 : decode cX10_isAt 16 = .ok (.getfield 47, 3) := by decide +kernel
theorem dX10_isAt_19 : decode cX10_isAt 19 = .ok (.bipush 10, 2) := by decide +kernel
theorem dX10_isAt_21 : decode cX10_isAt 21 = .ok (.iload_n 1, 1) := by decide +kernel
theorem dX10_isAt_22 : decode cX10_isAt 22 = .ok (.imul, 1) := by decide +kernel
theorem dX10_isAt_23 : decode cX10_isAt 23 = .ok (.iload_n 2, 1) := by decide +kernel
theorem dX10_isAt_24 : decode cX10_isAt 24 = .ok (.iadd, 1) := by decide +kernel
theorem dX10_isAt_25 : decode cX10_isAt 25 = .ok (.iaload, 1) := by decide +kernel
theorem dX10_isAt_26 : decode cX10_isAt 26 = .ok (.iload_n 3, 1) := by decide +kernel
theorem dX10_isAt_27 : decode cX10_isAt 27 = .ok (.if_icmp .ne 7, 3) := by decide +kernel
theorem dX10_isAt_30 : decode cX10_isAt 30 = .ok (.iconst 1, 1) := by decide +kernel
theorem dX10_isAt_31 : decode cX10_isAt 31 = .ok (.goto 4, 3) := by decide +kernel
theorem dX10_isAt_34 : decode cX10_isAt 34 = .ok (.iconst 0, 1) := by decide +kernel
theorem dX10_isAt_35 : decode cX10_isAt 35 = .ok (.ireturn, 1) := by decide +kernel
theorem dX10_linksAt_0 : decode cX10_linksAt 0 = .ok (.iconst 0, 1) := by decide +kernel
