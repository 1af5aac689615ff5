theorem dX0_init_0 : decode cX0_init 0 = .ok (.aload_n 0, 1) := by decide +kernel
theorem dX0_init_1 : decode cX0_init 1 = .ok (.invokespecial 3, 3) := by decide +kernel
theorem dX0_init_4 : decode cX0_init 4 = .ok (.aload_n 0, 1) := by decide +kernel
theorem dX0_init_5 : decode cX0_init 5 = .ok (.bipush 6, 2) := by decide +kernel
theorem dX0_init_7 : decode cX0_init 7 = .ok (.newarray .boolean, 2) := by decide +kernel
theorem dX0_init_9 : decode cX0_init 9 = .ok (.putfield 9, 3) := by decide +kernel
theorem dX0_init_12 : decode cX0_init 12 = .ok (.aload_n 0, 1) := by decide +kernel
theorem dX0_init_13 : decode cX0_init 13 = .ok (.bipush 6, 2) := by decide +kernel
theorem dX0_init_15 : decode cX0_init 15 = .ok (.newarray .int, 2) := by decide +kernel
theorem dX0_init_17 : decode cX0_init 17 = .ok (.putfield 15, 3) := by decide +kernel
theorem dX0_init_20 : decode cX0_init 20 = .ok (.aload_n 0, 1) := by decide +kernel
theorem dX0_init_21 : decode cX0_init 21 = .ok (.bipush 6, 2) := by decide +kernel
theorem dX0_init_23 : decode cX0_init 23 = .ok (.newarray .int, 2) := by decide +kernel
theorem dX0_init_25 : decode cX0_init 25 = .ok (.putfield 19, 3) := by decide +kernel
theorem dX0_init_28 : decode cX0_init 28 = .ok (.aload_n 0, 1) := by decide +kernel
theorem dX0_init_29 : decode cX0_init 29 = .ok (.bipush 12, 2) := by decide +kernel
theorem dX0_init_31 : decode cX0_init 31 = .ok (.newarray .int, 2) := by decide +kernel
theorem dX0_init_33 : decode cX0_init 33 = .ok (.putfield 22, 3) := by decide +kernel
theorem dX0_init_36 : decode cX0_init 36 = .ok (.aload_n 0, 1) := by decide +kernel
theorem dX0_init_37 : decode cX0_init 37 = .ok (.bipush 12, 2) := by decide +kernel
theorem dX0_init_39 : decode cX0_init 39 = .ok (.newarray .int, 2) := by decide +kernel
theorem dX0_init_41 : decode cX0_init 41 = .ok (.putfield 25, 3) := by decide +kernel
theorem dX0_init_44 : decode cX0_init 44 = .ok (.aload_n 0, 1) := by decide +kernel
theorem dX0_init_45 : decode cX0_init 45 = .ok (.iconst 0, 1) := by decide +kernel
theorem dX0_init_46 : decode cX0_init 46 = .ok (.putfield 28, 3) := by decide +kernel
theorem dX0_init_49 : decode cX0_init 49 = .ok (.return_, 1) := by decide +kernel
set_option maxRecDepth 20000 in
theorem ggX0_explore_X0_reach : GoodIn wsX0_explore wsX0_reach := goodIn_r _ [7, 1, 8, 9, 26, 27, 28, 29, 30, 31] (by decide +kernel) (by decide +kernel)
set_option maxRecDepth 20000 in
theorem gX0_explore_X0_reach : GoodIn wsX0_explore (wsV RX0 32 RX0 yX0_reach wsX0_reach) := goodIn_app (goodIn_of _ (by decide +kernel)) ggX0_explore_X0_reach
set_option maxRecDepth 20000 in
theorem ggX0_explore_X0_followEdges : GoodIn wsX0_explore wsX0_followEdges := goodIn_r _ [13, 14, 15, 16, 1, 8, 17, 9, 18, 3, 4, 5, 6, 7, 32, 33, 34, 35, 36, 37, 26, 27, 28, 29, 30, 31] (by decide +kernel) (by decide +kernel)
set_option maxRecDepth 20000 in
theorem gX0_explore_X0_followEdges : GoodIn wsX0_explore (wsV RX0 41 RX0 yX0_followEdges wsX0_followEdges) := goodIn_app (goodIn_of _ (by decide +kernel)) ggX0_explore_X0_followEdges
set_option maxRecDepth 20000 in
theorem ggX0_explore_X0_listPeriods : GoodIn wsX0_explore wsX0_listPeriods := goodIn_r _ [22, 23, 14, 15, 16, 1, 24, 8, 17, 25, 9, 18, 26, 27, 28, 29, 30, 31, 32, 33, 34, 35, 36, 37] (by decide +kernel) (by decide +kernel)
set_option maxRecDepth 20000 in
theorem gX0_explore_X0_listPeriods : GoodIn wsX0_explore (wsV RX0 45 RX0 yX0_listPeriods wsX0_listPeriods) := goodIn_app (goodIn_of _ (by decide +kernel)) ggX0_explore_X0_listPeriods
theorem dX0_explore_0 : decode cX0_explore 0 = .ok (.iconst 0, 1) := by decide +kernel
theorem dX0_explore_1 : decode cX0_explore 1 = .ok (.istore_n 3, 1) := by decide +kernel
theorem dX0_explore_2 : decode cX0_explore 2 = .ok (.iload_n 3, 1) := by decide +kernel
theorem dX0_explore_3 : decode cX0_explore 3 = .ok (.bipush 6, 2) := by decide +kernel
theorem dX0_explore_5 : decode cX0_explore 5 = .ok (.if_icmp .ge 16, 3) := by decide +kernel
theorem dX0_explore_8 : decode cX0_explore 8 = .ok (.aload_n 0, 1) := by decide +kernel
theorem dX0_explore_9 : decode cX0_explore 9 = .ok (.getfield 9, 3) := by decide +kernel
theorem dX0_explore_12 : decode cX0_explore 12 = .ok (.iload_n 3, 1) := by decide +kernel
theorem dX0_explore_13 : decode cX0_explore 13 = .ok (.iconst 0, 1) := by decide +kernel
theorem dX0_explore_14 : decode cX0_explore 14 = .ok (.bastore, 1) := by decide +kernel
theorem dX0_explore_15 : decode cX0_explore 15 = .ok (.iinc 3 1, 3) := by decide +kernel
theorem dX0_explore_18 : decode cX0_explore 18 = .ok (.goto (-16), 3) := by decide +kernel
theorem dX0_explore_21 : decode cX0_explore 21 = .ok (.aload_n 0, 1) := by decide +kernel
theorem dX0_explore_22 : decode cX0_explore 22 = .ok (.iload_n 2, 1) := by decide +kernel
theorem dX0_explore_23 : decode cX0_explore 23 = .ok (.iconst 0, 1) := by decide +kernel
theorem dX0_explore_24 : decode cX0_explore 24 = .ok (.iconst 0, 1) := by decide +kernel
theorem dX0_explore_25 : decode cX0_explore 25 = .ok (.invokevirtual 32, 3) := by decide +kernel
theorem dX0_explore_28 : decode cX0_explore 28 = .ok (.iconst 1, 1) := by decide +kernel
theorem dX0_explore_29 : decode cX0_explore 29 = .ok (.istore_n 3, 1) := by decide +kernel
theorem dX0_explore_30 : decode cX0_explore 30 = .ok (.iload_n 3, 1) := by decide +kernel
theorem dX0_explore_31 : decode cX0_explore 31 = .ok (.aload_n 1, 1) := by decide +kernel
theorem dX0_explore_32 : decode cX0_explore 32 = .ok (.getfield 36, 3) := by decide +kernel
theorem dX0_explore_35 : decode cX0_explore 35 = .ok (.if_icmp .ge 14, 3) := by decide +kernel
theorem dX0_explore_38 : decode cX0_explore 38 = .ok (.aload_n 0, 1) := by decide +kernel
theorem dX0_explore_39 : decode cX0_explore 39 = .ok (.aload_n 1, 1) := by decide +kernel
theorem dX0_explore_40 : decode cX0_explore 40 = .ok (.invokevirtual 41, 3) := by decide +kernel
theorem dX0_explore_43 : decode cX0_explore 43 = .ok (.iinc 3 1, 3) := by decide +kernel
theorem dX0_explore_46 : decode cX0_explore 46 = .ok (.goto (-16), 3) := by decide +kernel
theorem dX0_explore_49 : decode cX0_explore 49 = .ok (.aload_n 0, 1) := by decide +kernel
theorem dX0_explore_50 : decode cX0_explore 50 = .ok (.aload_n 1, 1) := by decide +kernel
theorem dX0_explore_51 : decode cX0_explore 51 = .ok (.invokevirtual 45, 3) := by decide +kernel
theorem dX0_explore_54 : decode cX0_explore 54 = .ok (.return_, 1) := by decide +kernel
theorem dX0_reach_0 : decode cX0_reach 0 = .ok (.aload_n 0, 1) := by decide +kernel
theorem dX0_reach_1 : decode cX0_reach 1 = .ok (.getfield 9, 3) := by decide +kernel
theorem dX0_reach_4 : decode cX0_reach 4 = .ok (.iload_n 1, 1) := by decide +kernel
theorem dX0_reach_5 : decode cX0_reach 5 = .ok (.iconst 1, 1) := by decide +kernel
theorem dX0_reach_6 : decode cX0_reach 6 = .ok (.bastore, 1) := by decide +kernel
theorem dX0_reach_7 : decode cX0_reach 7 = .ok (.aload_n 0, 1) := by decide +kernel
theorem dX0_reach_8 : decode cX0_reach 8 = .ok (.getfield 15, 3) := by decide +kernel
theorem dX0_reach_11 : decode cX0_reach 11 = .ok (.iload_n 1, 1) := by decide +kernel
theorem dX0_reach_12 : decode cX0_reach 12 = .ok (.iload_n 2, 1) := by decide +kernel
theorem dX0_reach_13 : decode cX0_reach 13 = .ok (.iastore, 1) := by decide +kernel
theorem dX0_reach_14 : decode cX0_reach 14 = .ok (.aload_n 0, 1) := by decide +kernel
theorem dX0_reach_15 : decode cX0_reach 15 = .ok (.getfield 19, 3) := by decide +kernel
theorem dX0_reach_18 : decode cX0_reach 18 = .ok (.iload_n 1, 1) := by decide +kernel
theorem dX0_reach_19 : decode cX0_reach 19 = .ok (.iload_n 3, 1) := by decide +kernel
theorem dX0_reach_20 : decode cX0_reach 20 = .ok (.iastore, 1) := by decide +kernel
theorem dX0_reach_21 : decode cX0_reach 21 = .ok (.return_, 1) := by decide +kernel
set_option maxRecDepth 20000 in
theorem ggX0_followEdges_X0_reach : GoodIn wsX0_followEdges wsX0_reach := goodIn_r _ [13, 4, 5, 7, 20, 21, 22, 23, 24, 25] (by decide +kernel) (by decide +kernel)
set_option maxRecDepth 20000 in
theorem gX0_followEdges_X0_reach : GoodIn wsX0_followEdges (wsV RX0 32 RX0 yX0_reach wsX0_reach) := goodIn_app (goodIn_of _ (by decide +kernel)) ggX0_followEdges_X0_reach
theorem dX0_followEdges_0 : decode cX0_followEdges 0 = .ok (.iconst 0, 1) := by decide +kernel
theorem dX0_followEdges_1 : decode cX0_followEdges 1 = .ok (.istore_n 2, 1) := by decide +kernel
theorem dX0_followEdges_2 : decode cX0_followEdges 2 = .ok (.iload_n 2, 1) := by decide +kernel
theorem dX0_followEdges_3 : decode cX0_followEdges 3 = .ok (.aload_n 1, 1) := by decide +kernel
theorem dX0_followEdges_4 : decode cX0_followEdges 4 = .ok (.getfield 48, 3) := by decide +kernel
theorem dX0_followEdges_7 : decode cX0_followEdges 7 = .ok (.if_icmp .ge 130, 3) := by decide +kernel
theorem dX0_followEdges_10 : decode cX0_followEdges 10 = .ok (.aload_n 1, 1) := by decide +kernel
theorem dX0_followEdges_11 : decode cX0_followEdges 11 = .ok (.getfield 51, 3) := by decide +kernel
theorem dX0_followEdges_14 : decode cX0_followEdges 14 = .ok (.iload_n 2, 1) := by decide +kernel
theorem dX0_followEdges_15 : decode cX0_followEdges 15 = .ok (.iaload, 1) := by decide +kernel
theorem dX0_followEdges_16 : decode cX0_followEdges 16 = .ok (.istore_n 3, 1) := by decide +kernel
theorem dX0_followEdges_17 : decode cX0_followEdges 17 = .ok (.aload_n 1, 1) := by decide +kernel
theorem dX0_followEdges_18 : decode cX0_followEdges 18 = .ok (.getfield 54, 3) := by decide +kernel
theorem dX0_followEdges_21 : decode cX0_followEdges 21 = .ok (.iload_n 2, 1) := by decide +kernel
theorem dX0_followEdges_22 : decode cX0_followEdges 22 = .ok (.iaload, 1) := by decide +kernel
theorem dX0_followEdges_23 : decode cX0_followEdges 23 = .ok (.istore 4, 2) := by decide +kernel
theorem dX0_followEdges_25 : decode cX0_followEdges 25 = .ok (.aload_n 0, 1) := by decide +kernel
theorem dX0_followEdges_26 : decode cX0_followEdges 26 = .ok (.getfield 9, 3) := by decide +kernel
theorem dX0_followEdges_29 : decode cX0_followEdges 29 = .ok (.iload_n 3, 1) := by decide +kernel
theorem dX0_followEdges_30 : decode cX0_followEdges 30 = .ok (.baload, 1) := by decide +kernel
theorem dX0_followEdges_31 : decode cX0_followEdges 31 = .ok (.ifCond .eq 48, 3) := by decide +kernel
theorem dX0_followEdges_34 : decode cX0_followEdges 34 = .ok (.aload_n 0, 1) := by decide +kernel
theorem dX0_followEdges_35 : decode cX0_followEdges 35 = .ok (.getfield 9, 3) := by decide +kernel
theorem dX0_followEdges_38 : decode cX0_followEdges 38 = .ok (.iload 4, 2) := by decide +kernel
theorem dX0_followEdges_40 : decode cX0_followEdges 40 = .ok (.baload, 1) := by decide +kernel
theorem dX0_followEdges_41 : decode cX0_followEdges 41 = .ok (.ifCond .ne 38, 3) := by decide +kernel
theorem dX0_followEdges_44 : decode cX0_followEdges 44 = .ok (.aload_n 0, 1) := by decide +kernel
theorem dX0_followEdges_45 : decode cX0_followEdges 45 = .ok (.iload 4, 2) := by decide +kernel
theorem dX0_followEdges_47 : decode cX0_followEdges 47 = .ok (.aload_n 0, 1) := by decide +kernel
theorem dX0_followEdges_48 : decode cX0_followEdges 48 = .ok (.getfield 15, 3) := by decide +kernel
theorem dX0_followEdges_51 : decode cX0_followEdges 51 = .ok (.iload_n 3, 1) := by decide +kernel
theorem dX0_followEdges_52 : decode cX0_followEdges 52 = .ok (.iaload, 1) := by decide +kernel
theorem dX0_followEdges_53 : decode cX0_followEdges 53 = .ok (.aload_n 1, 1) := by decide +kernel
theorem dX0_followEdges_54 : decode cX0_followEdges 54 = .ok (.getfield 57, 3) := by decide +kernel
theorem dX0_followEdges_57 : decode cX0_followEdges 57 = .ok (.iload_n 2, 1) := by decide +kernel
theorem dX0_followEdges_58 : decode cX0_followEdges 58 = .ok (.iaload, 1) := by decide +kernel
theorem dX0_followEdges_59 : decode cX0_followEdges 59 = .ok (.iadd, 1) := by decide +kernel
theorem dX0_followEdges_60 : decode cX0_followEdges 60 = .ok (.aload_n 0, 1) := by decide +kernel
theorem dX0_followEdges_61 : decode cX0_followEdges 61 = .ok (.getfield 19, 3) := by decide +kernel
theorem dX0_followEdges_64 : decode cX0_followEdges 64 = .ok (.iload_n 3, 1) := by decide +kernel
theorem dX0_followEdges_65 : decode cX0_followEdges 65 = .ok (.iaload, 1) := by decide +kernel
theorem dX0_followEdges_66 : decode cX0_followEdges 66 = .ok (.aload_n 1, 1) := by decide +kernel
theorem dX0_followEdges_67 : decode cX0_followEdges 67 = .ok (.getfield 60, 3) := by decide +kernel
theorem dX0_followEdges_70 : decode cX0_followEdges 70 = .ok (.iload_n 2, 1) := by decide +kernel
theorem dX0_followEdges_71 : decode cX0_followEdges 71 = .ok (.iaload, 1) := by decide +kernel
theorem dX0_followEdges_72 : decode cX0_followEdges 72 = .ok (.iadd, 1) := by decide +kernel
theorem dX0_followEdges_73 : decode cX0_followEdges 73 = .ok (.invokevirtual 32, 3) := by decide +kernel
theorem dX0_followEdges_76 : decode cX0_followEdges 76 = .ok (.goto 55, 3) := by decide +kernel
theorem dX0_followEdges_79 : decode cX0_followEdges 79 = .ok (.aload_n 0, 1) := by decide +kernel
theorem dX0_followEdges_80 : decode cX0_followEdges 80 = .ok (.getfield 9, 3) := by decide +kernel
theorem dX0_followEdges_83 : decode cX0_followEdges 83 = .ok (.iload 4, 2) := by decide +kernel
theorem dX0_followEdges_85 : decode cX0_followEdges 85 = .ok (.baload, 1) := by decide +kernel
theorem dX0_followEdges_86 : decode cX0_followEdges 86 = .ok (.ifCond .eq 45, 3) := by decide +kernel
theorem dX0_followEdges_89 : decode cX0_followEdges 89 = .ok (.aload_n 0, 1) := by decide +kernel
theorem dX0_followEdges_90 : decode cX0_followEdges 90 = .ok (.getfield 9, 3) := by decide +kernel
theorem dX0_followEdges_93 : decode cX0_followEdges 93 = .ok (.iload_n 3, 1) := by decide +kernel
theorem dX0_followEdges_94 : decode cX0_followEdges 94 = .ok (.baload, 1) := by decide +kernel
theorem dX0_followEdges_95 : decode cX0_followEdges 95 = .ok (.ifCond .ne 36, 3) := by decide +kernel
theorem dX0_followEdges_98 : decode cX0_followEdges 98 = .ok (.aload_n 0, 1) := by decide +kernel
theorem dX0_followEdges_99 : decode cX0_followEdges 99 = .ok (.iload_n 3, 1) := by decide +kernel
theorem dX0_followEdges_100 : decode cX0_followEdges 100 = .ok (.aload_n 0, 1) := by decide +kernel
theorem dX0_followEdges_101 : decode cX0_followEdges 101 = .ok (.getfield 15, 3) := by decide +kernel
theorem dX0_followEdges_104 : decode cX0_followEdges 104 = .ok (.iload 4, 2) := by decide +kernel
theorem dX0_followEdges_106 : decode cX0_followEdges 106 = .ok (.iaload, 1) := by decide +kernel
theorem dX0_followEdges_107 : decode cX0_followEdges 107 = .ok (.aload_n 1, 1) := by decide +kernel
theorem dX0_followEdges_108 : decode cX0_followEdges 108 = .ok (.getfield 57, 3) := by decide +kernel
theorem dX0_followEdges_111 : decode cX0_followEdges 111 = .ok (.iload_n 2, 1) := by decide +kernel
theorem dX0_followEdges_112 : decode cX0_followEdges 112 = .ok (.iaload, 1) := by decide +kernel
theorem dX0_followEdges_113 : decode cX0_followEdges 113 = .ok (.isub, 1) := by decide +kernel
theorem dX0_followEdges_114 : decode cX0_followEdges 114 = .ok (.aload_n 0, 1) := by decide +kernel
theorem dX0_followEdges_115 : decode cX0_followEdges 115 = .ok (.getfield 19, 3) := by decide +kernel
theorem dX0_followEdges_118 : decode cX0_followEdges 118 = .ok (.iload 4, 2) := by decide +kernel
theorem dX0_followEdges_120 : decode cX0_followEdges 120 = .ok (.iaload, 1) := by decide +kernel
theorem dX0_followEdges_121 : decode cX0_followEdges 121 = .ok (.aload_n 1, 1) := by decide +kernel
theorem dX0_followEdges_122 : decode cX0_followEdges 122 = .ok (.getfield 60, 3) := by decide +kernel
theorem dX0_followEdges_125 : decode cX0_followEdges 125 = .ok (.iload_n 2, 1) := by decide +kernel
theorem dX0_followEdges_126 : decode cX0_followEdges 126 = .ok (.iaload, 1) := by decide +kernel
theorem dX0_followEdges_127 : decode cX0_followEdges 127 = .ok (.isub, 1) := by decide +kernel
theorem dX0_followEdges_128 : decode cX0_followEdges 128 = .ok (.invokevirtual 32, 3) := by decide +kernel
theorem dX0_followEdges_131 : decode cX0_followEdges 131 = .ok (.iinc 2 1, 3) := by decide +kernel
theorem dX0_followEdges_134 : decode cX0_followEdges 134 = .ok (.goto (-132), 3) := by decide +kernel
theorem dX0_followEdges_137 : decode cX0_followEdges 137 = .ok (.return_, 1) := by decide +kernel
theorem dX0_listPeriods_0 : decode cX0_listPeriods 0 = .ok (.aload_n 0, 1) := by decide +kernel
theorem dX0_listPeriods_1 : decode cX0_listPeriods 1 = .ok (.iconst 0, 1) := by decide +kernel
theorem dX0_listPeriods_2 : decode cX0_listPeriods 2 = .ok (.putfield 28, 3) := by decide +kernel
theorem dX0_listPeriods_5 : decode cX0_listPeriods 5 = .ok (.iconst 0, 1) := by decide +kernel
theorem dX0_listPeriods_6 : decode cX0_listPeriods 6 = .ok (.istore_n 2, 1) := by decide +kernel
theorem dX0_listPeriods_7 : decode cX0_listPeriods 7 = .ok (.iload_n 2, 1) := by decide +kernel
theorem dX0_listPeriods_8 : decode cX0_listPeriods 8 = .ok (.aload_n 1, 1) := by decide +kernel
theorem dX0_listPeriods_9 : decode cX0_listPeriods 9 = .ok (.getfield 48, 3) := by decide +kernel
theorem dX0_listPeriods_12 : decode cX0_listPeriods 12 = .ok (.if_icmp .ge 113, 3) := by decide +kernel
theorem dX0_listPeriods_15 : decode cX0_listPeriods 15 = .ok (.aload_n 1, 1) := by decide +kernel
theorem dX0_listPeriods_16 : decode cX0_listPeriods 16 = .ok (.getfield 51, 3) := by decide +kernel
theorem dX0_listPeriods_19 : decode cX0_listPeriods 19 = .ok (.iload_n 2, 1) := by decide +kernel
theorem dX0_listPeriods_20 : decode cX0_listPeriods 20 = .ok (.iaload, 1) := by decide +kernel
theorem dX0_listPeriods_21 : decode cX0_listPeriods 21 = .ok (.istore_n 3, 1) := by decide +kernel
theorem dX0_listPeriods_22 : decode cX0_listPeriods 22 = .ok (.aload_n 1, 1) := by decide +kernel
theorem dX0_listPeriods_23 : decode cX0_listPeriods 23 = .ok (.getfield 54, 3) := by decide +kernel
theorem dX0_listPeriods_26 : decode cX0_listPeriods 26 = .ok (.iload_n 2, 1) := by decide +kernel
theorem dX0_listPeriods_27 : decode cX0_listPeriods 27 = .ok (.iaload, 1) := by decide +kernel
theorem dX0_listPeriods_28 : decode cX0_listPeriods 28 = .ok (.istore 4, 2) := by decide +kernel
theorem dX0_listPeriods_30 : decode cX0_listPeriods 30 = .ok (.aload_n 0, 1) := by decide +kernel
theorem dX0_listPeriods_31 : decode cX0_listPeriods 31 = .ok (.getfield 9, 3) := by decide +kernel
theorem dX0_listPeriods_34 : decode cX0_listPeriods 34 = .ok (.iload_n 3, 1) := by decide +kernel
theorem dX0_listPeriods_35 : decode cX0_listPeriods 35 = .ok (.baload, 1) := by decide +kernel
theorem dX0_listPeriods_36 : decode cX0_listPeriods 36 = .ok (.ifCond .eq 83, 3) := by decide +kernel
theorem dX0_listPeriods_39 : decode cX0_listPeriods 39 = .ok (.aload_n 0, 1) := by decide +kernel
theorem dX0_listPeriods_40 : decode cX0_listPeriods 40 = .ok (.getfield 9, 3) := by decide +kernel
theorem dX0_listPeriods_43 : decode cX0_listPeriods 43 = .ok (.iload 4, 2) := by decide +kernel
theorem dX0_listPeriods_45 : decode cX0_listPeriods 45 = .ok (.baload, 1) := by decide +kernel
theorem dX0_listPeriods_46 : decode cX0_listPeriods 46 = .ok (.ifCond .eq 73, 3) := by decide +kernel
theorem dX0_listPeriods_49 : decode cX0_listPeriods 49 = .ok (.aload_n 0, 1) := by decide +kernel
theorem dX0_listPeriods_50 : decode cX0_listPeriods 50 = .ok (.getfield 22, 3) := by decide +kernel
theorem dX0_listPeriods_53 : decode cX0_listPeriods 53 = .ok (.aload_n 0, 1) := by decide +kernel
theorem dX0_listPeriods_54 : decode cX0_listPeriods 54 = .ok (.getfield 28, 3) := by decide +kernel
theorem dX0_listPeriods_57 : decode cX0_listPeriods 57 = .ok (.aload_n 0, 1) := by decide +kernel
theorem dX0_listPeriods_58 : decode cX0_listPeriods 58 = .ok (.getfield 15, 3) := by decide +kernel
theorem dX0_listPeriods_61 : decode cX0_listPeriods 61 = .ok (.iload_n 3, 1) := by decide +kernel
theorem dX0_listPeriods_62 : decode cX0_listPeriods 62 = .ok (.iaload, 1) := by decide +kernel
theorem dX0_listPeriods_63 : decode cX0_listPeriods 63 = .ok (.aload_n 1, 1) := by decide +kernel
theorem dX0_listPeriods_64 : decode cX0_listPeriods 64 = .ok (.getfield 57, 3) := by decide +kernel
theorem dX0_listPeriods_67 : decode cX0_listPeriods 67 = .ok (.iload_n 2, 1) := by decide +kernel
theorem dX0_listPeriods_68 : decode cX0_listPeriods 68 = .ok (.iaload, 1) := by decide +kernel
theorem dX0_listPeriods_69 : decode cX0_listPeriods 69 = .ok (.iadd, 1) := by decide +kernel
theorem dX0_listPeriods_70 : decode cX0_listPeriods 70 = .ok (.aload_n 0, 1) := by decide +kernel
theorem dX0_listPeriods_71 : decode cX0_listPeriods 71 = .ok (.getfield 15, 3) := by decide +kernel
theorem dX0_listPeriods_74 : decode cX0_listPeriods 74 = .ok (.iload 4, 2) := by decide +kernel
theorem dX0_listPeriods_76 : decode cX0_listPeriods 76 = .ok (.iaload, 1) := by decide +kernel
theorem dX0_listPeriods_77 : decode cX0_listPeriods 77 = .ok (.isub, 1) := by decide +kernel
theorem dX0_listPeriods_78 : decode cX0_listPeriods 78 = .ok (.iastore, 1) := by decide +kernel
theorem dX0_listPeriods_79 : decode cX0_listPeriods 79 = .ok (.aload_n 0, 1) := by decide +kernel
theorem dX0_listPeriods_80 : decode cX0_listPeriods 80 = .ok (.getfield 25, 3) := by decide +kernel
theorem dX0_listPeriods_83 : decode cX0_listPeriods 83 = .ok (.aload_n 0, 1) := by decide +kernel
theorem dX0_listPeriods_84 : decode cX0_listPeriods 84 = .ok (.getfield 28, 3) := by decide +kernel
theorem dX0_listPeriods_87 : decode cX0_listPeriods 87 = .ok (.aload_n 0, 1) := by decide +kernel
theorem dX0_listPeriods_88 : decode cX0_listPeriods 88 = .ok (.getfield 19, 3) := by decide +kernel
theorem dX0_listPeriods_91 : decode cX0_listPeriods 91 = .ok (.iload_n 3, 1) := by decide +kernel
theorem dX0_listPeriods_92 : decode cX0_listPeriods 92 = .ok (.iaload, 1) := by decide +kernel
theorem dX0_listPeriods_93 : decode cX0_listPeriods 93 = .ok (.aload_n 1, 1) := by decide +kernel
theorem dX0_listPeriods_94 : decode cX0_listPeriods 94 = .ok (.getfield 60, 3) := by decide +kernel
theorem dX0_listPeriods_97 : decode cX0_listPeriods 97 = .ok (.iload_n 2, 1) := by decide +kernel
theorem dX0_listPeriods_98 : decode cX0_listPeriods 98 = .ok (.iaload, 1) := by decide +kernel
theorem dX0_listPeriods_99 : decode cX0_listPeriods 99 = .ok (.iadd, 1) := by decide +kernel
theorem dX0_listPeriods_100 : decode cX0_listPeriods 100 = .ok (.aload_n 0, 1) := by decide +kernel
theorem dX0_listPeriods_101 : decode cX0_listPeriods 101 = .ok (.getfield 19, 3) := by decide +kernel
theorem dX0_listPeriods_104 : decode cX0_listPeriods 104 = .ok (.iload 4, 2) := by decide +kernel
theorem dX0_listPeriods_106 : decode cX0_listPeriods 106 = .ok (.iaload, 1) := by decide +kernel
theorem dX0_listPeriods_107 : decode cX0_listPeriods 107 = .ok (.isub, 1) := by decide +kernel
theorem dX0_listPeriods_108 : decode cX0_listPeriods 108 = .ok (.iastore, 1) := by decide +kernel
theorem dX0_listPeriods_109 : decode cX0_listPeriods 109 = .ok (.aload_n 0, 1) := by decide +kernel
theorem dX0_listPeriods_110 : decode cX0_listPeriods 110 = .ok (.dup, 1) := by decide +kernel
theorem dX0_listPeriods_111 : decode cX0_listPeriods 111 = .ok (.getfield 28, 3) := by decide +kernel
theorem dX0_listPeriods_114 : decode cX0_listPeriods 114 = .ok (.iconst 1, 1) := by decide +kernel
theorem dX0_listPeriods_115 : decode cX0_listPeriods 115 = .ok (.iadd, 1) := by decide +kernel
theorem dX0_listPeriods_116 : decode cX0_listPeriods 116 = .ok (.putfield 28, 3) := by decide +kernel
theorem dX0_listPeriods_119 : decode cX0_listPeriods 119 = .ok (.iinc 2 1, 3) := by decide +kernel
theorem dX0_listPeriods_122 : decode cX0_listPeriods 122 = .ok (.goto (-115), 3) := by decide +kernel
theorem dX0_listPeriods_125 : decode cX0_listPeriods 125 = .ok (.return_, 1) := by decide +kernel
theorem dX0_isWhole_0 : decode cX0_isWhole 0 = .ok (.iconst 0, 1) := by decide +kernel
theorem dX0_isWhole_1 : decode cX0_isWhole 1 = .ok (.istore_n 2, 1) := by decide +kernel
theorem dX0_isWhole_2 : decode cX0_isWhole 2 = .ok (.iload_n 2, 1) := by decide +kernel
theorem dX0_isWhole_3 : decode cX0_isWhole 3 = .ok (.aload_n 1, 1) := by decide +kernel
theorem dX0_isWhole_4 : decode cX0_isWhole 4 = .ok (.getfield 36, 3) := by decide +kernel
theorem dX0_isWhole_7 : decode cX0_isWhole 7 = .ok (.if_icmp .ge 20, 3) := by decide +kernel
theorem dX0_isWhole_10 : decode cX0_isWhole 10 = .ok (.aload_n 0, 1) := by decide +kernel
theorem dX0_isWhole_11 : decode cX0_isWhole 11 = .ok (.getfield 9, 3) := by decide +kernel
theorem dX0_isWhole_14 : decode cX0_isWhole 14 = .ok (.iload_n 2, 1) := by decide +kernel
theorem dX0_isWhole_15 : decode cX0_isWhole 15 = .ok (.baload, 1) := by decide +kernel
theorem dX0_isWhole_16 : decode cX0_isWhole 16 = .ok (.ifCond .ne 5, 3) := by decide +kernel
theorem dX0_isWhole_19 : decode cX0_isWhole 19 = .ok (.iconst 0, 1) := by decide +kernel
theorem dX0_isWhole_20 : decode cX0_isWhole 20 = .ok (.ireturn, 1) := by decide +kernel
theorem dX0_isWhole_21 : decode cX0_isWhole 21 = .ok (.iinc 2 1, 3) := by decide +kernel
theorem dX0_isWhole_24 : decode cX0_isWhole 24 = .ok (.goto (-22), 3) := by decide +kernel
theorem dX0_isWhole_27 : decode cX0_isWhole 27 = .ok (.iconst 1, 1) := by decide +kernel
theorem dX0_isWhole_28 : decode cX0_isWhole 28 = .ok (.ireturn, 1) := by decide +kernel
set_option maxRecDepth 20000 in
theorem ggX0_latticeRank_X0_commonArea : GoodIn wsX0_latticeRank wsX0_commonArea := goodIn_r _ [8, 1, 2, 3, 9, 10, 11, 12, 13, 14, 15, 16, 17] (by decide +kernel) (by decide +kernel)
set_option maxRecDepth 20000 in
theorem gX0_latticeRank_X0_commonArea : GoodIn wsX0_latticeRank (wsV RX0 63 RX0 yX0_commonArea wsX0_commonArea) := goodIn_app (goodIn_of _ (by decide +kernel)) ggX0_latticeRank_X0_commonArea
theorem dX0_latticeRank_0 : decode cX0_latticeRank 0 = .ok (.aload_n 0, 1) := by decide +kernel
theorem dX0_latticeRank_1 : decode cX0_latticeRank 1 = .ok (.invokevirtual 63, 3) := by decide +kernel
theorem dX0_latticeRank_4 : decode cX0_latticeRank 4 = .ok (.lconst 0, 1) := by decide +kernel
theorem dX0_latticeRank_5 : decode cX0_latticeRank 5 = .ok (.lcmp, 1) := by decide +kernel
theorem dX0_latticeRank_6 : decode cX0_latticeRank 6 = .ok (.ifCond .eq 5, 3) := by decide +kernel
theorem dX0_latticeRank_9 : decode cX0_latticeRank 9 = .ok (.iconst 2, 1) := by decide +kernel
theorem dX0_latticeRank_10 : decode cX0_latticeRank 10 = .ok (.ireturn, 1) := by decide +kernel
theorem dX0_latticeRank_11 : decode cX0_latticeRank 11 = .ok (.iconst 0, 1) := by decide +kernel
theorem dX0_latticeRank_12 : decode cX0_latticeRank 12 = .ok (.istore_n 1, 1) := by decide +kernel
theorem dX0_latticeRank_13 : decode cX0_latticeRank 13 = .ok (.iload_n 1, 1) := by decide +kernel
theorem dX0_latticeRank_14 : decode cX0_latticeRank 14 = .ok (.aload_n 0, 1) := by decide +kernel
theorem dX0_latticeRank_15 : decode cX0_latticeRank 15 = .ok (.getfield 28, 3) := by decide +kernel
theorem dX0_latticeRank_18 : decode cX0_latticeRank 18 = .ok (.if_icmp .ge 29, 3) := by decide +kernel
theorem dX0_latticeRank_21 : decode cX0_latticeRank 21 = .ok (.aload_n 0, 1) := by decide +kernel
theorem dX0_latticeRank_22 : decode cX0_latticeRank 22 = .ok (.getfield 22, 3) := by decide +kernel
theorem dX0_latticeRank_25 : decode cX0_latticeRank 25 = .ok (.iload_n 1, 1) := by decide +kernel
theorem dX0_latticeRank_26 : decode cX0_latticeRank 26 = .ok (.iaload, 1) := by decide +kernel
theorem dX0_latticeRank_27 : decode cX0_latticeRank 27 = .ok (.ifCond .ne 12, 3) := by decide +kernel
theorem dX0_latticeRank_30 : decode cX0_latticeRank 30 = .ok (.aload_n 0, 1) := by decide +kernel
theorem dX0_latticeRank_31 : decode cX0_latticeRank 31 = .ok (.getfield 25, 3) := by decide +kernel
theorem dX0_latticeRank_34 : decode cX0_latticeRank 34 = .ok (.iload_n 1, 1) := by decide +kernel
theorem dX0_latticeRank_35 : decode cX0_latticeRank 35 = .ok (.iaload, 1) := by decide +kernel
theorem dX0_latticeRank_36 : decode cX0_latticeRank 36 = .ok (.ifCond .eq 5, 3) := by decide +kernel
theorem dX0_latticeRank_39 : decode cX0_latticeRank 39 = .ok (.iconst 1, 1) := by decide +kernel
theorem dX0_latticeRank_40 : decode cX0_latticeRank 40 = .ok (.ireturn, 1) := by decide +kernel
theorem dX0_latticeRank_41 : decode cX0_latticeRank 41 = .ok (.iinc 1 1, 3) := by decide +kernel
theorem dX0_latticeRank_44 : decode cX0_latticeRank 44 = .ok (.goto (-31), 3) := by decide +kernel
theorem dX0_latticeRank_47 : decode cX0_latticeRank 47 = .ok (.iconst 0, 1) := by decide +kernel
theorem dX0_latticeRank_48 : decode cX0_latticeRank 48 = .ok (.ireturn, 1) := by decide +kernel
set_option maxRecDepth 20000 in
theorem ggX0_latticeIndex_X0_commonArea : GoodIn wsX0_latticeIndex wsX0_commonArea := goodIn_r _ [5, 6, 7, 8, 9, 10, 11, 12, 13, 14, 15, 16, 17] (by decide +kernel) (by decide +kernel)
set_option maxRecDepth 20000 in
theorem gX0_latticeIndex_X0_commonArea : GoodIn wsX0_latticeIndex (wsV RX0 63 RX0 yX0_commonArea wsX0_commonArea) := goodIn_app (goodIn_of _ (by decide +kernel)) ggX0_latticeIndex_X0_commonArea
theorem dX0_latticeIndex_0 : decode cX0_latticeIndex 0 = .ok (.aload_n 0, 1) := by decide +kernel
theorem dX0_latticeIndex_1 : decode cX0_latticeIndex 1 = .ok (.invokevirtual 63, 3) := by decide +kernel
theorem dX0_latticeIndex_4 : decode cX0_latticeIndex 4 = .ok (.lstore_n 1, 1) := by decide +kernel
theorem dX0_latticeIndex_5 : decode cX0_latticeIndex 5 = .ok (.lload_n 1, 1) := by decide +kernel
theorem dX0_latticeIndex_6 : decode cX0_latticeIndex 6 = .ok (.lconst 0, 1) := by decide +kernel
theorem dX0_latticeIndex_7 : decode cX0_latticeIndex 7 = .ok (.lcmp, 1) := by decide +kernel
theorem dX0_latticeIndex_8 : decode cX0_latticeIndex 8 = .ok (.ifCond .ne 7, 3) := by decide +kernel
theorem dX0_latticeIndex_11 : decode cX0_latticeIndex 11 = .ok (.iconst (-1), 1) := by decide +kernel
theorem dX0_latticeIndex_12 : decode cX0_latticeIndex 12 = .ok (.goto 5, 3) := by decide +kernel
theorem dX0_latticeIndex_15 : decode cX0_latticeIndex 15 = .ok (.lload_n 1, 1) := by decide +kernel
theorem dX0_latticeIndex_16 : decode cX0_latticeIndex 16 = .ok (.l2i, 1) := by decide +kernel
theorem dX0_latticeIndex_17 : decode cX0_latticeIndex 17 = .ok (.ireturn, 1) := by decide +kernel
set_option maxRecDepth 20000 in
theorem ggX0_commonArea_X5_greatestDivisor : GoodIn wsX0_commonArea wsX5_greatestDivisor := goodIn_r _ [6] (by decide +kernel) (by decide +kernel)
set_option maxRecDepth 20000 in
theorem gX0_commonArea_X5_greatestDivisor_n67 : GoodIn wsX0_commonArea (wsX5_greatestDivisor) := ggX0_commonArea_X5_greatestDivisor
theorem dX0_commonArea_0 : decode cX0_commonArea 0 = .ok (.lconst 0, 1) := by decide +kernel
theorem dX0_commonArea_1 : decode cX0_commonArea 1 = .ok (.lstore_n 1, 1) := by decide +kernel
theorem dX0_commonArea_2 : decode cX0_commonArea 2 = .ok (.iconst 0, 1) := by decide +kernel
theorem dX0_commonArea_3 : decode cX0_commonArea 3 = .ok (.istore_n 3, 1) := by decide +kernel
theorem dX0_commonArea_4 : decode cX0_commonArea 4 = .ok (.iload_n 3, 1) := by decide +kernel
theorem dX0_commonArea_5 : decode cX0_commonArea 5 = .ok (.aload_n 0, 1) := by decide +kernel
theorem dX0_commonArea_6 : decode cX0_commonArea 6 = .ok (.getfield 28, 3) := by decide +kernel
theorem dX0_commonArea_9 : decode cX0_commonArea 9 = .ok (.if_icmp .ge 71, 3) := by decide +kernel
theorem dX0_commonArea_12 : decode cX0_commonArea 12 = .ok (.iload_n 3, 1) := by decide +kernel
theorem dX0_commonArea_13 : decode cX0_commonArea 13 = .ok (.iconst 1, 1) := by decide +kernel
theorem dX0_commonArea_14 : decode cX0_commonArea 14 = .ok (.iadd, 1) := by decide +kernel
theorem dX0_commonArea_15 : decode cX0_commonArea 15 = .ok (.istore 4, 2) := by decide +kernel
theorem dX0_commonArea_17 : decode cX0_commonArea 17 = .ok (.iload 4, 2) := by decide +kernel
theorem dX0_commonArea_19 : decode cX0_commonArea 19 = .ok (.aload_n 0, 1) := by decide +kernel
theorem dX0_commonArea_20 : decode cX0_commonArea 20 = .ok (.getfield 28, 3) := by decide +kernel
theorem dX0_commonArea_23 : decode cX0_commonArea 23 = .ok (.if_icmp .ge 51, 3) := by decide +kernel
theorem dX0_commonArea_26 : decode cX0_commonArea 26 = .ok (.aload_n 0, 1) := by decide +kernel
theorem dX0_commonArea_27 : decode cX0_commonArea 27 = .ok (.getfield 22, 3) := by decide +kernel
theorem dX0_commonArea_30 : decode cX0_commonArea 30 = .ok (.iload_n 3, 1) := by decide +kernel
theorem dX0_commonArea_31 : decode cX0_commonArea 31 = .ok (.iaload, 1) := by decide +kernel
theorem dX0_commonArea_32 : decode cX0_commonArea 32 = .ok (.i2l, 1) := by decide +kernel
theorem dX0_commonArea_33 : decode cX0_commonArea 33 = .ok (.aload_n 0, 1) := by decide +kernel
theorem dX0_commonArea_34 : decode cX0_commonArea 34 = .ok (.getfield 25, 3) := by decide +kernel
theorem dX0_commonArea_37 : decode cX0_commonArea 37 = .ok (.iload 4, 2) := by decide +kernel
theorem dX0_commonArea_39 : decode cX0_commonArea 39 = .ok (.iaload, 1) := by decide +kernel
theorem dX0_commonArea_40 : decode cX0_commonArea 40 = .ok (.i2l, 1) := by decide +kernel
theorem dX0_commonArea_41 : decode cX0_commonArea 41 = .ok (.lmul, 1) := by decide +kernel
theorem dX0_commonArea_42 : decode cX0_commonArea 42 = .ok (.aload_n 0, 1) := by decide +kernel
theorem dX0_commonArea_43 : decode cX0_commonArea 43 = .ok (.getfield 22, 3) := by decide +kernel
theorem dX0_commonArea_46 : decode cX0_commonArea 46 = .ok (.iload 4, 2) := by decide +kernel
theorem dX0_commonArea_48 : decode cX0_commonArea 48 = .ok (.iaload, 1) := by decide +kernel
theorem dX0_commonArea_49 : decode cX0_commonArea 49 = .ok (.i2l, 1) := by decide +kernel
theorem dX0_commonArea_50 : decode cX0_commonArea 50 = .ok (.aload_n 0, 1) := by decide +kernel
theorem dX0_commonArea_51 : decode cX0_commonArea 51 = .ok (.getfield 25, 3) := by decide +kernel
theorem dX0_commonArea_54 : decode cX0_commonArea 54 = .ok (.iload_n 3, 1) := by decide +kernel
theorem dX0_commonArea_55 : decode cX0_commonArea 55 = .ok (.iaload, 1) := by decide +kernel
theorem dX0_commonArea_56 : decode cX0_commonArea 56 = .ok (.i2l, 1) := by decide +kernel
theorem dX0_commonArea_57 : decode cX0_commonArea 57 = .ok (.lmul, 1) := by decide +kernel
theorem dX0_commonArea_58 : decode cX0_commonArea 58 = .ok (.lsub, 1) := by decide +kernel
theorem dX0_commonArea_59 : decode cX0_commonArea 59 = .ok (.lstore 5, 2) := by decide +kernel
theorem dX0_commonArea_61 : decode cX0_commonArea 61 = .ok (.lload_n 1, 1) := by decide +kernel
theorem dX0_commonArea_62 : decode cX0_commonArea 62 = .ok (.lload 5, 2) := by decide +kernel
theorem dX0_commonArea_64 : decode cX0_commonArea 64 = .ok (.invokestatic 67, 3) := by decide +kernel
theorem dX0_commonArea_67 : decode cX0_commonArea 67 = .ok (.lstore_n 1, 1) := by decide +kernel
theorem dX0_commonArea_68 : decode cX0_commonArea 68 = .ok (.iinc 4 1, 3) := by decide +kernel
theorem dX0_commonArea_71 : decode cX0_commonArea 71 = .ok (.goto (-54), 3) := by decide +kernel
theorem dX0_commonArea_74 : decode cX0_commonArea 74 = .ok (.iinc 3 1, 3) := by decide +kernel
theorem dX0_commonArea_77 : decode cX0_commonArea 77 = .ok (.goto (-73), 3) := by decide +kernel
theorem dX0_commonArea_80 : decode cX0_commonArea 80 = .ok (.lload_n 1, 1) := by decide +kernel
theorem dX0_commonArea_81 : decode cX0_commonArea 81 = .ok (.lreturn, 1) := by decide +kernel
theorem dX1_init_0 : decode cX1_init 0 = .ok (.aload_n 0, 1) := by decide +kernel
theorem dX1_init_1 : decode cX1_init 1 = .ok (.invokespecial 3, 3) := by decide +kernel
theorem dX1_init_4 : decode cX1_init 4 = .ok (.aload_n 0, 1) := by decide +kernel
theorem dX1_init_5 : decode cX1_init 5 = .ok (.bipush 6, 2) := by decide +kernel
theorem dX1_init_7 : decode cX1_init 7 = .ok (.newarray .int, 2) := by decide +kernel
theorem dX1_init_9 : decode cX1_init 9 = .ok (.putfield 9, 3) := by decide +kernel
theorem dX1_init_12 : decode cX1_init 12 = .ok (.aload_n 0, 1) := by decide +kernel
theorem dX1_init_13 : decode cX1_init 13 = .ok (.bipush 6, 2) := by decide +kernel
theorem dX1_init_15 : decode cX1_init 15 = .ok (.bipush 24, 2) := by decide +kernel
theorem dX1_init_17 : decode cX1_init 17 = .ok (.multianewarray 15 2, 4) := by decide +kernel
theorem dX1_init_21 : decode cX1_init 21 = .ok (.putfield 17, 3) := by decide +kernel
theorem dX1_init_24 : decode cX1_init 24 = .ok (.aload_n 0, 1) := by decide +kernel
theorem dX1_init_25 : decode cX1_init 25 = .ok (.bipush 6, 2) := by decide +kernel
theorem dX1_init_27 : decode cX1_init 27 = .ok (.bipush 24, 2) := by decide +kernel
theorem dX1_init_29 : decode cX1_init 29 = .ok (.multianewarray 15 2, 4) := by decide +kernel
theorem dX1_init_33 : decode cX1_init 33 = .ok (.putfield 20, 3) := by decide +kernel
theorem dX1_init_36 : decode cX1_init 36 = .ok (.aload_n 0, 1) := by decide +kernel
theorem dX1_init_37 : decode cX1_init 37 = .ok (.bipush 6, 2) := by decide +kernel
theorem dX1_init_39 : decode cX1_init 39 = .ok (.bipush 24, 2) := by decide +kernel
theorem dX1_init_41 : decode cX1_init 41 = .ok (.multianewarray 15 2, 4) := by decide +kernel
theorem dX1_init_45 : decode cX1_init 45 = .ok (.putfield 23, 3) := by decide +kernel
theorem dX1_init_48 : decode cX1_init 48 = .ok (.return_, 1) := by decide +kernel
set_option maxRecDepth 20000 in
theorem ggX1_listAll_X1_put : GoodIn wsX1_listAll wsX1_put := goodIn_r _ [11, 1, 12, 13, 14, 15, 16, 17, 18] (by decide +kernel) (by decide +kernel)
set_option maxRecDepth 20000 in
theorem gX1_listAll_X1_put : GoodIn wsX1_listAll (wsV RX1 44 RX1 yX1_put wsX1_put) := goodIn_app (goodIn_of _ (by decide +kernel)) ggX1_listAll_X1_put
theorem dX1_listAll_0 : decode cX1_listAll 0 = .ok (.iconst 0, 1) := by decide +kernel
theorem dX1_listAll_1 : decode cX1_listAll 1 = .ok (.istore_n 2, 1) := by decide +kernel
theorem dX1_listAll_2 : decode cX1_listAll 2 = .ok (.iload_n 2, 1) := by decide +kernel
theorem dX1_listAll_3 : decode cX1_listAll 3 = .ok (.bipush 6, 2) := by decide +kernel
theorem dX1_listAll_5 : decode cX1_listAll 5 = .ok (.if_icmp .ge 16, 3) := by decide +kernel
theorem dX1_listAll_8 : decode cX1_listAll 8 = .ok (.aload_n 0, 1) := by decide +kernel
theorem dX1_listAll_9 : decode cX1_listAll 9 = .ok (.getfield 9, 3) := by decide +kernel
theorem dX1_listAll_12 : decode cX1_listAll 12 = .ok (.iload_n 2, 1) := by decide +kernel
theorem dX1_listAll_13 : decode cX1_listAll 13 = .ok (.iconst 0, 1) := by decide +kernel
theorem dX1_listAll_14 : decode cX1_listAll 14 = .ok (.iastore, 1) := by decide +kernel
theorem dX1_listAll_15 : decode cX1_listAll 15 = .ok (.iinc 2 1, 3) := by decide +kernel
theorem dX1_listAll_18 : decode cX1_listAll 18 = .ok (.goto (-16), 3) := by decide +kernel
theorem dX1_listAll_21 : decode cX1_listAll 21 = .ok (.iconst 0, 1) := by decide +kernel
theorem dX1_listAll_22 : decode cX1_listAll 22 = .ok (.istore_n 2, 1) := by decide +kernel
theorem dX1_listAll_23 : decode cX1_listAll 23 = .ok (.iload_n 2, 1) := by decide +kernel
theorem dX1_listAll_24 : decode cX1_listAll 24 = .ok (.aload_n 1, 1) := by decide +kernel
theorem dX1_listAll_25 : decode cX1_listAll 25 = .ok (.getfield 26, 3) := by decide +kernel
theorem dX1_listAll_28 : decode cX1_listAll 28 = .ok (.if_icmp .ge 67, 3) := by decide +kernel
theorem dX1_listAll_31 : decode cX1_listAll 31 = .ok (.aload_n 0, 1) := by decide +kernel
theorem dX1_listAll_32 : decode cX1_listAll 32 = .ok (.aload_n 1, 1) := by decide +kernel
theorem dX1_listAll_33 : decode cX1_listAll 33 = .ok (.getfield 32, 3) := by decide +kernel
theorem dX1_listAll_36 : decode cX1_listAll 36 = .ok (.iload_n 2, 1) := by decide +kernel
theorem dX1_listAll_37 : decode cX1_listAll 37 = .ok (.iaload, 1) := by decide +kernel
theorem dX1_listAll_38 : decode cX1_listAll 38 = .ok (.aload_n 1, 1) := by decide +kernel
theorem dX1_listAll_39 : decode cX1_listAll 39 = .ok (.getfield 35, 3) := by decide +kernel
theorem dX1_listAll_42 : decode cX1_listAll 42 = .ok (.iload_n 2, 1) := by decide +kernel
theorem dX1_listAll_43 : decode cX1_listAll 43 = .ok (.iaload, 1) := by decide +kernel
theorem dX1_listAll_44 : decode cX1_listAll 44 = .ok (.aload_n 1, 1) := by decide +kernel
theorem dX1_listAll_45 : decode cX1_listAll 45 = .ok (.getfield 38, 3) := by decide +kernel
theorem dX1_listAll_48 : decode cX1_listAll 48 = .ok (.iload_n 2, 1) := by decide +kernel
theorem dX1_listAll_49 : decode cX1_listAll 49 = .ok (.iaload, 1) := by decide +kernel
theorem dX1_listAll_50 : decode cX1_listAll 50 = .ok (.aload_n 1, 1) := by decide +kernel
theorem dX1_listAll_51 : decode cX1_listAll 51 = .ok (.getfield 41, 3) := by decide +kernel
theorem dX1_listAll_54 : decode cX1_listAll 54 = .ok (.iload_n 2, 1) := by decide +kernel
theorem dX1_listAll_55 : decode cX1_listAll 55 = .ok (.iaload, 1) := by decide +kernel
theorem dX1_listAll_56 : decode cX1_listAll 56 = .ok (.invokevirtual 44, 3) := by decide +kernel
theorem dX1_listAll_59 : decode cX1_listAll 59 = .ok (.aload_n 0, 1) := by decide +kernel
theorem dX1_listAll_60 : decode cX1_listAll 60 = .ok (.aload_n 1, 1) := by decide +kernel
theorem dX1_listAll_61 : decode cX1_listAll 61 = .ok (.getfield 35, 3) := by decide +kernel
theorem dX1_listAll_64 : decode cX1_listAll 64 = .ok (.iload_n 2, 1) := by decide +kernel
theorem dX1_listAll_65 : decode cX1_listAll 65 = .ok (.iaload, 1) := by decide +kernel
theorem dX1_listAll_66 : decode cX1_listAll 66 = .ok (.aload_n 1, 1) := by decide +kernel
theorem dX1_listAll_67 : decode cX1_listAll 67 = .ok (.getfield 32, 3) := by decide +kernel
theorem dX1_listAll_70 : decode cX1_listAll 70 = .ok (.iload_n 2, 1) := by decide +kernel
theorem dX1_listAll_71 : decode cX1_listAll 71 = .ok (.iaload, 1) := by decide +kernel
theorem dX1_listAll_72 : decode cX1_listAll 72 = .ok (.aload_n 1, 1) := by decide +kernel
theorem dX1_listAll_73 : decode cX1_listAll 73 = .ok (.getfield 38, 3) := by decide +kernel
theorem dX1_listAll_76 : decode cX1_listAll 76 = .ok (.iload_n 2, 1) := by decide +kernel
theorem dX1_listAll_77 : decode cX1_listAll 77 = .ok (.iaload, 1) := by decide +kernel
theorem dX1_listAll_78 : decode cX1_listAll 78 = .ok (.ineg, 1) := by decide +kernel
theorem dX1_listAll_79 : decode cX1_listAll 79 = .ok (.aload_n 1, 1) := by decide +kernel
theorem dX1_listAll_80 : decode cX1_listAll 80 = .ok (.getfield 41, 3) := by decide +kernel
theorem dX1_listAll_83 : decode cX1_listAll 83 = .ok (.iload_n 2, 1) := by decide +kernel
theorem dX1_listAll_84 : decode cX1_listAll 84 = .ok (.iaload, 1) := by decide +kernel
theorem dX1_listAll_85 : decode cX1_listAll 85 = .ok (.ineg, 1) := by decide +kernel
theorem dX1_listAll_86 : decode cX1_listAll 86 = .ok (.invokevirtual 44, 3) := by decide +kernel
theorem dX1_listAll_89 : decode cX1_listAll 89 = .ok (.iinc 2 1, 3) := by decide +kernel
theorem dX1_listAll_92 : decode cX1_listAll 92 = .ok (.goto (-69), 3) := by decide +kernel
theorem dX1_listAll_95 : decode cX1_listAll 95 = .ok (.return_, 1) := by decide +kernel
theorem dX1_put_0 : decode cX1_put 0 = .ok (.aload_n 0, 1) := by decide +kernel
theorem dX1_put_1 : decode cX1_put 1 = .ok (.getfield 9, 3) := by decide +kernel
theorem dX1_put_4 : decode cX1_put 4 = .ok (.iload_n 1, 1) := by decide +kernel
theorem dX1_put_5 : decode cX1_put 5 = .ok (.iaload, 1) := by decide +kernel
theorem dX1_put_6 : decode cX1_put 6 = .ok (.istore 5, 2) := by decide +kernel
theorem dX1_put_8 : decode cX1_put 8 = .ok (.iload 5, 2) := by decide +kernel
theorem dX1_put_10 : decode cX1_put 10 = .ok (.bipush 24, 2) := by decide +kernel
theorem dX1_put_12 : decode cX1_put 12 = .ok (.if_icmp .ge 44, 3) := by decide +kernel
theorem dX1_put_15 : decode cX1_put 15 = .ok (.aload_n 0, 1) := by decide +kernel
theorem dX1_put_16 : decode cX1_put 16 = .ok (.getfield 17, 3) := by decide +kernel
theorem dX1_put_19 : decode cX1_put 19 = .ok (.iload_n 1, 1) := by decide +kernel
theorem dX1_put_20 : decode cX1_put 20 = .ok (.aaload, 1) := by decide +kernel
theorem dX1_put_21 : decode cX1_put 21 = .ok (.iload 5, 2) := by decide +kernel
theorem dX1_put_23 : decode cX1_put 23 = .ok (.iload_n 2, 1) := by decide +kernel
theorem dX1_put_24 : decode cX1_put 24 = .ok (.iastore, 1) := by decide +kernel
theorem dX1_put_25 : decode cX1_put 25 = .ok (.aload_n 0, 1) := by decide +kernel
theorem dX1_put_26 : decode cX1_put 26 = .ok (.getfield 20, 3) := by decide +kernel
theorem dX1_put_29 : decode cX1_put 29 = .ok (.iload_n 1, 1) := by decide +kernel
theorem dX1_put_30 : decode cX1_put 30 = .ok (.aaload, 1) := by decide +kernel
theorem dX1_put_31 : decode cX1_put 31 = .ok (.iload 5, 2) := by decide +kernel
theorem dX1_put_33 : decode cX1_put 33 = .ok (.iload_n 3, 1) := by decide +kernel
theorem dX1_put_34 : decode cX1_put 34 = .ok (.iastore, 1) := by decide +kernel
theorem dX1_put_35 : decode cX1_put 35 = .ok (.aload_n 0, 1) := by decide +kernel
theorem dX1_put_36 : decode cX1_put 36 = .ok (.getfield 23, 3) := by decide +kernel
theorem dX1_put_39 : decode cX1_put 39 = .ok (.iload_n 1, 1) := by decide +kernel
theorem dX1_put_40 : decode cX1_put 40 = .ok (.aaload, 1) := by decide +kernel
theorem dX1_put_41 : decode cX1_put 41 = .ok (.iload 5, 2) := by decide +kernel
theorem dX1_put_43 : decode cX1_put 43 = .ok (.iload 4, 2) := by decide +kernel
theorem dX1_put_45 : decode cX1_put 45 = .ok (.iastore, 1) := by decide +kernel
theorem dX1_put_46 : decode cX1_put 46 = .ok (.aload_n 0, 1) := by decide +kernel
theorem dX1_put_47 : decode cX1_put 47 = .ok (.getfield 9, 3) := by decide +kernel
theorem dX1_put_50 : decode cX1_put 50 = .ok (.iload_n 1, 1) := by decide +kernel
theorem dX1_put_51 : decode cX1_put 51 = .ok (.dup2, 1) := by decide +kernel
theorem dX1_put_52 : decode cX1_put 52 = .ok (.iaload, 1) := by decide +kernel
theorem dX1_put_53 : decode cX1_put 53 = .ok (.iconst 1, 1) := by decide +kernel
theorem dX1_put_54 : decode cX1_put 54 = .ok (.iadd, 1) := by decide +kernel
theorem dX1_put_55 : decode cX1_put 55 = .ok (.iastore, 1) := by decide +kernel
theorem dX1_put_56 : decode cX1_put 56 = .ok (.return_, 1) := by decide +kernel
theorem dX2_init_0 : decode cX2_init 0 = .ok (.aload_n 0, 1) := by decide +kernel
theorem dX2_init_1 : decode cX2_init 1 = .ok (.invokespecial 3, 3) := by decide +kernel
theorem dX2_init_4 : decode cX2_init 4 = .ok (.aload_n 0, 1) := by decide +kernel
theorem dX2_init_5 : decode cX2_init 5 = .ok (.iconst 1, 1) := by decide +kernel
theorem dX2_init_6 : decode cX2_init 6 = .ok (.putfield 9, 3) := by decide +kernel
theorem dX2_init_9 : decode cX2_init 9 = .ok (.aload_n 0, 1) := by decide +kernel
theorem dX2_init_10 : decode cX2_init 10 = .ok (.iconst 0, 1) := by decide +kernel
theorem dX2_init_11 : decode cX2_init 11 = .ok (.putfield 15, 3) := by decide +kernel
theorem dX2_init_14 : decode cX2_init 14 = .ok (.aload_n 0, 1) := by decide +kernel
theorem dX2_init_15 : decode cX2_init 15 = .ok (.bipush 12, 2) := by decide +kernel
theorem dX2_init_17 : decode cX2_init 17 = .ok (.newarray .int, 2) := by decide +kernel
theorem dX2_init_19 : decode cX2_init 19 = .ok (.putfield 18, 3) := by decide +kernel
theorem dX2_init_22 : decode cX2_init 22 = .ok (.aload_n 0, 1) := by decide +kernel
theorem dX2_init_23 : decode cX2_init 23 = .ok (.bipush 12, 2) := by decide +kernel
theorem dX2_init_25 : decode cX2_init 25 = .ok (.newarray .int, 2) := by decide +kernel
theorem dX2_init_27 : decode cX2_init 27 = .ok (.putfield 22, 3) := by decide +kernel
theorem dX2_init_30 : decode cX2_init 30 = .ok (.aload_n 0, 1) := by decide +kernel
theorem dX2_init_31 : decode cX2_init 31 = .ok (.bipush 12, 2) := by decide +kernel
theorem dX2_init_33 : decode cX2_init 33 = .ok (.newarray .int, 2) := by decide +kernel
theorem dX2_init_35 : decode cX2_init 35 = .ok (.putfield 25, 3) := by decide +kernel
theorem dX2_init_38 : decode cX2_init 38 = .ok (.aload_n 0, 1) := by decide +kernel
theorem dX2_init_39 : decode cX2_init 39 = .ok (.bipush 12, 2) := by decide +kernel
theorem dX2_init_41 : decode cX2_init 41 = .ok (.newarray .int, 2) := by decide +kernel
theorem dX2_init_43 : decode cX2_init 43 = .ok (.putfield 28, 3) := by decide +kernel
theorem dX2_init_46 : decode cX2_init 46 = .ok (.return_, 1) := by decide +kernel
theorem dX2_clear_0 : decode cX2_clear 0 = .ok (.aload_n 0, 1) := by decide +kernel
theorem dX2_clear_1 : decode cX2_clear 1 = .ok (.iload_n 1, 1) := by decide +kernel
theorem dX2_clear_2 : decode cX2_clear 2 = .ok (.putfield 9, 3) := by decide +kernel
theorem dX2_clear_5 : decode cX2_clear 5 = .ok (.aload_n 0, 1) := by decide +kernel
theorem dX2_clear_6 : decode cX2_clear 6 = .ok (.iconst 0, 1) := by decide +kernel
theorem dX2_clear_7 : decode cX2_clear 7 = .ok (.putfield 15, 3) := by decide +kernel
theorem dX2_clear_10 : decode cX2_clear 10 = .ok (.return_, 1) := by decide +kernel
set_option maxRecDepth 20000 in
theorem ggX2_copyFrom_X2_clear : GoodIn wsX2_copyFrom wsX2_clear := goodIn_r _ [11, 1, 2, 20, 21, 22, 23, 24, 25] (by decide +kernel) (by decide +kernel)
set_option maxRecDepth 20000 in
theorem gX2_copyFrom_X2_clear : GoodIn wsX2_copyFrom (wsV RX2 31 RX2 yX2_clear wsX2_clear) := goodIn_app (goodIn_of _ (by decide +kernel)) ggX2_copyFrom_X2_clear
set_option maxRecDepth 20000 in
theorem ggX2_copyFrom_X2_append : GoodIn wsX2_copyFrom wsX2_append := goodIn_r _ [15, 2, 16, 17, 18, 10, 19, 3, 4, 5, 6, 20, 21, 22, 23, 24, 25] (by decide +kernel) (by decide +kernel)
set_option maxRecDepth 20000 in
theorem gX2_copyFrom_X2_append : GoodIn wsX2_copyFrom (wsV RX2 35 RX2 yX2_append wsX2_append) := goodIn_app (goodIn_of _ (by decide +kernel)) ggX2_copyFrom_X2_append
theorem dX2_copyFrom_0 : decode cX2_copyFrom 0 = .ok (.aload_n 0, 1) := by decide +kernel
theorem dX2_copyFrom_1 : decode cX2_copyFrom 1 = .ok (.aload_n 1, 1) := by decide +kernel
theorem dX2_copyFrom_2 : decode cX2_copyFrom 2 = .ok (.getfield 9, 3) := by decide +kernel
theorem dX2_copyFrom_5 : decode cX2_copyFrom 5 = .ok (.invokevirtual 31, 3) := by decide +kernel
theorem dX2_copyFrom_8 : decode cX2_copyFrom 8 = .ok (.iconst 0, 1) := by decide +kernel
theorem dX2_copyFrom_9 : decode cX2_copyFrom 9 = .ok (.istore_n 2, 1) := by decide +kernel
theorem dX2_copyFrom_10 : decode cX2_copyFrom 10 = .ok (.iload_n 2, 1) := by decide +kernel
theorem dX2_copyFrom_11 : decode cX2_copyFrom 11 = .ok (.aload_n 1, 1) := by decide +kernel
theorem dX2_copyFrom_12 : decode cX2_copyFrom 12 = .ok (.getfield 15, 3) := by decide +kernel
theorem dX2_copyFrom_15 : decode cX2_copyFrom 15 = .ok (.if_icmp .ge 37, 3) := by decide +kernel
theorem dX2_copyFrom_18 : decode cX2_copyFrom 18 = .ok (.aload_n 0, 1) := by decide +kernel
theorem dX2_copyFrom_19 : decode cX2_copyFrom 19 = .ok (.aload_n 1, 1) := by decide +kernel
theorem dX2_copyFrom_20 : decode cX2_copyFrom 20 = .ok (.getfield 18, 3) := by decide +kernel
theorem dX2_copyFrom_23 : decode cX2_copyFrom 23 = .ok (.iload_n 2, 1) := by decide +kernel
theorem dX2_copyFrom_24 : decode cX2_copyFrom 24 = .ok (.iaload, 1) := by decide +kernel
theorem dX2_copyFrom_25 : decode cX2_copyFrom 25 = .ok (.aload_n 1, 1) := by decide +kernel
theorem dX2_copyFrom_26 : decode cX2_copyFrom 26 = .ok (.getfield 22, 3) := by decide +kernel
theorem dX2_copyFrom_29 : decode cX2_copyFrom 29 = .ok (.iload_n 2, 1) := by decide +kernel
theorem dX2_copyFrom_30 : decode cX2_copyFrom 30 = .ok (.iaload, 1) := by decide +kernel
theorem dX2_copyFrom_31 : decode cX2_copyFrom 31 = .ok (.aload_n 1, 1) := by decide +kernel
theorem dX2_copyFrom_32 : decode cX2_copyFrom 32 = .ok (.getfield 25, 3) := by decide +kernel
theorem dX2_copyFrom_35 : decode cX2_copyFrom 35 = .ok (.iload_n 2, 1) := by decide +kernel
theorem dX2_copyFrom_36 : decode cX2_copyFrom 36 = .ok (.iaload, 1) := by decide +kernel
theorem dX2_copyFrom_37 : decode cX2_copyFrom 37 = .ok (.aload_n 1, 1) := by decide +kernel
theorem dX2_copyFrom_38 : decode cX2_copyFrom 38 = .ok (.getfield 28, 3) := by decide +kernel
theorem dX2_copyFrom_41 : decode cX2_copyFrom 41 = .ok (.iload_n 2, 1) := by decide +kernel
theorem dX2_copyFrom_42 : decode cX2_copyFrom 42 = .ok (.iaload, 1) := by decide +kernel
theorem dX2_copyFrom_43 : decode cX2_copyFrom 43 = .ok (.invokevirtual 35, 3) := by decide +kernel
theorem dX2_copyFrom_46 : decode cX2_copyFrom 46 = .ok (.iinc 2 1, 3) := by decide +kernel
theorem dX2_copyFrom_49 : decode cX2_copyFrom 49 = .ok (.goto (-39), 3) := by decide +kernel
theorem dX2_copyFrom_52 : decode cX2_copyFrom 52 = .ok (.return_, 1) := by decide +kernel
set_option maxRecDepth 20000 in
theorem ggX2_append_X2_setEdge : GoodIn wsX2_append wsX2_setEdge := goodIn_r _ [6, 7, 8, 9, 10, 11, 12, 13, 14, 15, 16] (by decide +kernel) (by decide +kernel)
set_option maxRecDepth 20000 in
theorem gX2_append_X2_setEdge : GoodIn wsX2_append (wsV RX2 39 RX2 yX2_setEdge wsX2_setEdge) := goodIn_app (goodIn_of _ (by decide +kernel)) ggX2_append_X2_setEdge
theorem dX2_append_0 : decode cX2_append 0 = .ok (.aload_n 0, 1) := by decide +kernel
theorem dX2_append_1 : decode cX2_append 1 = .ok (.getfield 15, 3) := by decide +kernel
theorem dX2_append_4 : decode cX2_append 4 = .ok (.bipush 12, 2) := by decide +kernel
theorem dX2_append_6 : decode cX2_append 6 = .ok (.if_icmp .ge 26, 3) := by decide +kernel
theorem dX2_append_9 : decode cX2_append 9 = .ok (.aload_n 0, 1) := by decide +kernel
theorem dX2_append_10 : decode cX2_append 10 = .ok (.aload_n 0, 1) := by decide +kernel
theorem dX2_append_11 : decode cX2_append 11 = .ok (.getfield 15, 3) := by decide +kernel
theorem dX2_append_14 : decode cX2_append 14 = .ok (.iload_n 1, 1) := by decide +kernel
theorem dX2_append_15 : decode cX2_append 15 = .ok (.iload_n 2, 1) := by decide +kernel
theorem dX2_append_16 : decode cX2_append 16 = .ok (.iload_n 3, 1) := by decide +kernel
theorem dX2_append_17 : decode cX2_append 17 = .ok (.iload 4, 2) := by decide +kernel
theorem dX2_append_19 : decode cX2_append 19 = .ok (.invokevirtual 39, 3) := by decide +kernel
theorem dX2_append_22 : decode cX2_append 22 = .ok (.aload_n 0, 1) := by decide +kernel
theorem dX2_append_23 : decode cX2_append 23 = .ok (.dup, 1) := by decide +kernel
theorem dX2_append_24 : decode cX2_append 24 = .ok (.getfield 15, 3) := by decide +kernel
theorem dX2_append_27 : decode cX2_append 27 = .ok (.iconst 1, 1) := by decide +kernel
theorem dX2_append_28 : decode cX2_append 28 = .ok (.iadd, 1) := by decide +kernel
theorem dX2_append_29 : decode cX2_append 29 = .ok (.putfield 15, 3) := by decide +kernel
theorem dX2_append_32 : decode cX2_append 32 = .ok (.return_, 1) := by decide +kernel
theorem dX2_setEdge_0 : decode cX2_setEdge 0 = .ok (.aload_n 0, 1) := by decide +kernel
theorem dX2_setEdge_1 : decode cX2_setEdge 1 = .ok (.getfield 18, 3) := by decide +kernel
theorem dX2_setEdge_4 : decode cX2_setEdge 4 = .ok (.iload_n 1, 1) := by decide +kernel
theorem dX2_setEdge_5 : decode cX2_setEdge 5 = .ok (.iload_n 2, 1) := by decide +kernel
theorem dX2_setEdge_6 : decode cX2_setEdge 6 = .ok (.iastore, 1) := by decide +kernel
theorem dX2_setEdge_7 : decode cX2_setEdge 7 = .ok (.aload_n 0, 1) := by decide +kernel
theorem dX2_setEdge_8 : decode cX2_setEdge 8 = .ok (.getfield 22, 3) := by decide +kernel
theorem dX2_setEdge_11 : decode cX2_setEdge 11 = .ok (.iload_n 1, 1) := by decide +kernel
theorem dX2_setEdge_12 : decode cX2_setEdge 12 = .ok (.iload_n 3, 1) := by decide +kernel
theorem dX2_setEdge_13 : decode cX2_setEdge 13 = .ok (.iastore, 1) := by decide +kernel
theorem dX2_setEdge_14 : decode cX2_setEdge 14 = .ok (.aload_n 0, 1) := by decide +kernel
theorem dX2_setEdge_15 : decode cX2_setEdge 15 = .ok (.getfield 25, 3) := by decide +kernel
theorem dX2_setEdge_18 : decode cX2_setEdge 18 = .ok (.iload_n 1, 1) := by decide +kernel
theorem dX2_setEdge_19 : decode cX2_setEdge 19 = .ok (.iload 4, 2) := by decide +kernel
theorem dX2_setEdge_21 : decode cX2_setEdge 21 = .ok (.iastore, 1) := by decide +kernel
theorem dX2_setEdge_22 : decode cX2_setEdge 22 = .ok (.aload_n 0, 1) := by decide +kernel
theorem dX2_setEdge_23 : decode cX2_setEdge 23 = .ok (.getfield 28, 3) := by decide +kernel
theorem dX2_setEdge_26 : decode cX2_setEdge 26 = .ok (.iload_n 1, 1) := by decide +kernel
theorem dX2_setEdge_27 : decode cX2_setEdge 27 = .ok (.iload 5, 2) := by decide +kernel
theorem dX2_setEdge_29 : decode cX2_setEdge 29 = .ok (.iastore, 1) := by decide +kernel
theorem dX2_setEdge_30 : decode cX2_setEdge 30 = .ok (.return_, 1) := by decide +kernel
set_option maxRecDepth 20000 in
theorem ggX2_dropEdge_X2_setEdge : GoodIn wsX2_dropEdge wsX2_setEdge := goodIn_r _ [10, 2, 3, 4, 5, 11, 12, 13, 14, 15, 16] (by decide +kernel) (by decide +kernel)
set_option maxRecDepth 20000 in
theorem gX2_dropEdge_X2_setEdge : GoodIn wsX2_dropEdge (wsV RX2 39 RX2 yX2_setEdge wsX2_setEdge) := goodIn_app (goodIn_of _ (by decide +kernel)) ggX2_dropEdge_X2_setEdge
theorem dX2_dropEdge_0 : decode cX2_dropEdge 0 = .ok (.iload_n 1, 1) := by decide +kernel
theorem dX2_dropEdge_1 : decode cX2_dropEdge 1 = .ok (.iconst 1, 1) := by decide +kernel
theorem dX2_dropEdge_2 : decode cX2_dropEdge 2 = .ok (.iadd, 1) := by decide +kernel
theorem dX2_dropEdge_3 : decode cX2_dropEdge 3 = .ok (.istore_n 2, 1) := by decide +kernel
theorem dX2_dropEdge_4 : decode cX2_dropEdge 4 = .ok (.iload_n 2, 1) := by decide +kernel
theorem dX2_dropEdge_5 : decode cX2_dropEdge 5 = .ok (.aload_n 0, 1) := by decide +kernel
theorem dX2_dropEdge_6 : decode cX2_dropEdge 6 = .ok (.getfield 15, 3) := by decide +kernel
theorem dX2_dropEdge_9 : decode cX2_dropEdge 9 = .ok (.if_icmp .ge 40, 3) := by decide +kernel
theorem dX2_dropEdge_12 : decode cX2_dropEdge 12 = .ok (.aload_n 0, 1) := by decide +kernel
theorem dX2_dropEdge_13 : decode cX2_dropEdge 13 = .ok (.iload_n 2, 1) := by decide +kernel
theorem dX2_dropEdge_14 : decode cX2_dropEdge 14 = .ok (.iconst 1, 1) := by decide +kernel
theorem dX2_dropEdge_15 : decode cX2_dropEdge 15 = .ok (.isub, 1) := by decide +kernel
theorem dX2_dropEdge_16 : decode cX2_dropEdge 16 = .ok (.aload_n 0, 1) := by decide +kernel
theorem dX2_dropEdge_17 : decode cX2_dropEdge 17 = .ok (.getfield 18, 3) := by decide +kernel
theorem dX2_dropEdge_20 : decode cX2_dropEdge 20 = .ok (.iload_n 2, 1) := by decide +kernel
theorem dX2_dropEdge_21 : decode cX2_dropEdge 21 = .ok (.iaload, 1) := by decide +kernel
theorem dX2_dropEdge_22 : decode cX2_dropEdge 22 = .ok (.aload_n 0, 1) := by decide +kernel
theorem dX2_dropEdge_23 : decode cX2_dropEdge 23 = .ok (.getfield 22, 3) := by decide +kernel
theorem dX2_dropEdge_26 : decode cX2_dropEdge 26 = .ok (.iload_n 2, 1) := by decide +kernel
theorem dX2_dropEdge_27 : decode cX2_dropEdge 27 = .ok (.iaload, 1) := by decide +kernel
theorem dX2_dropEdge_28 : decode cX2_dropEdge 28 = .ok (.aload_n 0, 1) := by decide +kernel
theorem dX2_dropEdge_29 : decode cX2_dropEdge 29 = .ok (.getfield 25, 3) := by decide +kernel
theorem dX2_dropEdge_32 : decode cX2_dropEdge 32 = .ok (.iload_n 2, 1) := by decide +kernel
theorem dX2_dropEdge_33 : decode cX2_dropEdge 33 = .ok (.iaload, 1) := by decide +kernel
theorem dX2_dropEdge_34 : decode cX2_dropEdge 34 = .ok (.aload_n 0, 1) := by decide +kernel
theorem dX2_dropEdge_35 : decode cX2_dropEdge 35 = .ok (.getfield 28, 3) := by decide +kernel
theorem dX2_dropEdge_38 : decode cX2_dropEdge 38 = .ok (.iload_n 2, 1) := by decide +kernel
theorem dX2_dropEdge_39 : decode cX2_dropEdge 39 = .ok (.iaload, 1) := by decide +kernel
theorem dX2_dropEdge_40 : decode cX2_dropEdge 40 = .ok (.invokevirtual 39, 3) := by decide +kernel
theorem dX2_dropEdge_43 : decode cX2_dropEdge 43 = .ok (.iinc 2 1, 3) := by decide +kernel
theorem dX2_dropEdge_46 : decode cX2_dropEdge 46 = .ok (.goto (-42), 3) := by decide +kernel
theorem dX2_dropEdge_49 : decode cX2_dropEdge 49 = .ok (.aload_n 0, 1) := by decide +kernel
theorem dX2_dropEdge_50 : decode cX2_dropEdge 50 = .ok (.dup, 1) := by decide +kernel
theorem dX2_dropEdge_51 : decode cX2_dropEdge 51 = .ok (.getfield 15, 3) := by decide +kernel
theorem dX2_dropEdge_54 : decode cX2_dropEdge 54 = .ok (.iconst 1, 1) := by decide +kernel
theorem dX2_dropEdge_55 : decode cX2_dropEdge 55 = .ok (.isub, 1) := by decide +kernel
theorem dX2_dropEdge_56 : decode cX2_dropEdge 56 = .ok (.putfield 15, 3) := by decide +kernel
theorem dX2_dropEdge_59 : decode cX2_dropEdge 59 = .ok (.return_, 1) := by decide +kernel
set_option maxRecDepth 20000 in
theorem ggX2_edgeBetween_X2_isStored : GoodIn wsX2_edgeBetween wsX2_isStored := goodIn_r _ [6, 7, 8, 9, 10, 11, 12, 13, 14, 15, 16] (by decide +kernel) (by decide +kernel)
set_option maxRecDepth 20000 in
theorem gX2_edgeBetween_X2_isStored : GoodIn wsX2_edgeBetween (wsV RX2 43 RX2 yX2_isStored wsX2_isStored) := goodIn_app (goodIn_of _ (by decide +kernel)) ggX2_edgeBetween_X2_isStored
theorem dX2_edgeBetween_0 : decode cX2_edgeBetween 0 = .ok (.iconst 0, 1) := by decide +kernel
theorem dX2_edgeBetween_1 : decode cX2_edgeBetween 1 = .ok (.istore 5, 2) := by decide +kernel
theorem dX2_edgeBetween_3 : decode cX2_edgeBetween 3 = .ok (.iload 5, 2) := by decide +kernel
theorem dX2_edgeBetween_5 : decode cX2_edgeBetween 5 = .ok (.aload_n 0, 1) := by decide +kernel
theorem dX2_edgeBetween_6 : decode cX2_edgeBetween 6 = .ok (.getfield 15, 3) := by decide +kernel
theorem dX2_edgeBetween_9 : decode cX2_edgeBetween 9 = .ok (.if_icmp .ge 42, 3) := by decide +kernel
theorem dX2_edgeBetween_12 : decode cX2_edgeBetween 12 = .ok (.aload_n 0, 1) := by decide +kernel
theorem dX2_edgeBetween_13 : decode cX2_edgeBetween 13 = .ok (.iload 5, 2) := by decide +kernel
theorem dX2_edgeBetween_15 : decode cX2_edgeBetween 15 = .ok (.iload_n 1, 1) := by decide +kernel
theorem dX2_edgeBetween_16 : decode cX2_edgeBetween 16 = .ok (.iload_n 2, 1) := by decide +kernel
theorem dX2_edgeBetween_17 : decode cX2_edgeBetween 17 = .ok (.iload_n 3, 1) := by decide +kernel
theorem dX2_edgeBetween_18 : decode cX2_edgeBetween 18 = .ok (.iload 4, 2) := by decide +kernel
theorem dX2_edgeBetween_20 : decode cX2_edgeBetween 20 = .ok (.invokevirtual 43, 3) := by decide +kernel
theorem dX2_edgeBetween_23 : decode cX2_edgeBetween 23 = .ok (.ifCond .ne 19, 3) := by decide +kernel
theorem dX2_edgeBetween_26 : decode cX2_edgeBetween 26 = .ok (.aload_n 0, 1) := by decide +kernel
theorem dX2_edgeBetween_27 : decode cX2_edgeBetween 27 = .ok (.iload 5, 2) := by decide +kernel
theorem dX2_edgeBetween_29 : decode cX2_edgeBetween 29 = .ok (.iload_n 2, 1) := by decide +kernel
theorem dX2_edgeBetween_30 : decode cX2_edgeBetween 30 = .ok (.iload_n 1, 1) := by decide +kernel
theorem dX2_edgeBetween_31 : decode cX2_edgeBetween 31 = .ok (.iload_n 3, 1) := by decide +kernel
theorem dX2_edgeBetween_32 : decode cX2_edgeBetween 32 = .ok (.ineg, 1) := by decide +kernel
theorem dX2_edgeBetween_33 : decode cX2_edgeBetween 33 = .ok (.iload 4, 2) := by decide +kernel
theorem dX2_edgeBetween_35 : decode cX2_edgeBetween 35 = .ok (.ineg, 1) := by decide +kernel
theorem dX2_edgeBetween_36 : decode cX2_edgeBetween 36 = .ok (.invokevirtual 43, 3) := by decide +kernel
theorem dX2_edgeBetween_39 : decode cX2_edgeBetween 39 = .ok (.ifCond .eq 6, 3) := by decide +kernel
theorem dX2_edgeBetween_42 : decode cX2_edgeBetween 42 = .ok (.iload 5, 2) := by decide +kernel
theorem dX2_edgeBetween_44 : decode cX2_edgeBetween 44 = .ok (.ireturn, 1) := by decide +kernel
theorem dX2_edgeBetween_45 : decode cX2_edgeBetween 45 = .ok (.iinc 5 1, 3) := by decide +kernel
theorem dX2_edgeBetween_48 : decode cX2_edgeBetween 48 = .ok (.goto (-45), 3) := by decide +kernel
theorem dX2_edgeBetween_51 : decode cX2_edgeBetween 51 = .ok (.iconst (-1), 1) := by decide +kernel
theorem dX2_edgeBetween_52 : decode cX2_edgeBetween 52 = .ok (.ireturn, 1) := by decide +kernel
theorem dX2_isStored_0 : decode cX2_isStored 0 = .ok (.aload_n 0, 1) := by decide +kernel
theorem dX2_isStored_1 : decode cX2_isStored 1 = .ok (.getfield 18, 3) := by decide +kernel
theorem dX2_isStored_4 : decode cX2_isStored 4 = .ok (.iload_n 1, 1) := by decide +kernel
theorem dX2_isStored_5 : decode cX2_isStored 5 = .ok (.iaload, 1) := by decide +kernel
theorem dX2_isStored_6 : decode cX2_isStored 6 = .ok (.iload_n 2, 1) := by decide +kernel
theorem dX2_isStored_7 : decode cX2_isStored 7 = .ok (.if_icmp .ne 39, 3) := by decide +kernel
theorem dX2_isStored_10 : decode cX2_isStored 10 = .ok (.aload_n 0, 1) := by decide +kernel
theorem dX2_isStored_11 : decode cX2_isStored 11 = .ok (.getfield 22, 3) := by decide +kernel
theorem dX2_isStored_14 : decode cX2_isStored 14 = .ok (.iload_n 1, 1) := by decide +kernel
theorem dX2_isStored_15 : decode cX2_isStored 15 = .ok (.iaload, 1) := by decide +kernel
theorem dX2_isStored_16 : decode cX2_isStored 16 = .ok (.iload_n 3, 1) := by decide +kernel
theorem dX2_isStored_17 : decode cX2_isStored 17 = .ok (.if_icmp .ne 29, 3) := by decide +kernel
theorem dX2_isStored_20 : decode cX2_isStored 20 = .ok (.aload_n 0, 1) := by decide +kernel
theorem dX2_isStored_21 : decode cX2_isStored 21 = .ok (.getfield 25, 3) := by decide +kernel
theorem dX2_isStored_24 : decode cX2_isStored 24 = .ok (.iload_n 1, 1) := by decide +kernel
theorem dX2_isStored_25 : decode cX2_isStored 25 = .ok (.iaload, 1) := by decide +kernel
theorem dX2_isStored_26 : decode cX2_isStored 26 = .ok (.iload 4, 2) := by decide +kernel
theorem dX2_isStored_28 : decode cX2_isStored 28 = .ok (.if_icmp .ne 18, 3) := by decide +kernel
theorem dX2_isStored_31 : decode cX2_isStored 31 = .ok (.aload_n 0, 1) := by decide +kernel
theorem dX2_isStored_32 : decode cX2_isStored 32 = .ok (.getfield 28, 3) := by decide +kernel
theorem dX2_isStored_35 : decode cX2_isStored 35 = .ok (.iload_n 1, 1) := by decide +kernel
theorem dX2_isStored_36 : decode cX2_isStored 36 = .ok (.iaload, 1) := by decide +kernel
theorem dX2_isStored_37 : decode cX2_isStored 37 = .ok (.iload 5, 2) := by decide +kernel
theorem dX2_isStored_39 : decode cX2_isStored 39 = .ok (.if_icmp .ne 7, 3) := by decide +kernel
theorem dX2_isStored_42 : decode cX2_isStored 42 = .ok (.iconst 1, 1) := by decide +kernel
theorem dX2_isStored_43 : decode cX2_isStored 43 = .ok (.goto 4, 3) := by decide +kernel
theorem dX2_isStored_46 : decode cX2_isStored 46 = .ok (.iconst 0, 1) := by decide +kernel
theorem dX2_isStored_47 : decode cX2_isStored 47 = .ok (.ireturn, 1) := by decide +kernel
theorem dX2_renameNodes_0 : decode cX2_renameNodes 0 = .ok (.iconst 0, 1) := by decide +kernel
theorem dX2_renameNodes_1 : decode cX2_renameNodes 1 = .ok (.istore 4, 2) := by decide +kernel
theorem dX2_renameNodes_3 : decode cX2_renameNodes 3 = .ok (.iload 4, 2) := by decide +kernel
theorem dX2_renameNodes_5 : decode cX2_renameNodes 5 = .ok (.aload_n 0, 1) := by decide +kernel
theorem dX2_renameNodes_6 : decode cX2_renameNodes 6 = .ok (.getfield 15, 3) := by decide +kernel
theorem dX2_renameNodes_9 : decode cX2_renameNodes 9 = .ok (.if_icmp .ge 75, 3) := by decide +kernel
theorem dX2_renameNodes_12 : decode cX2_renameNodes 12 = .ok (.aload_n 0, 1) := by decide +kernel
theorem dX2_renameNodes_13 : decode cX2_renameNodes 13 = .ok (.getfield 18, 3) := by decide +kernel
theorem dX2_renameNodes_16 : decode cX2_renameNodes 16 = .ok (.iload 4, 2) := by decide +kernel
theorem dX2_renameNodes_18 : decode cX2_renameNodes 18 = .ok (.iaload, 1) := by decide +kernel
theorem dX2_renameNodes_19 : decode cX2_renameNodes 19 = .ok (.iload_n 1, 1) := by decide +kernel
theorem dX2_renameNodes_20 : decode cX2_renameNodes 20 = .ok (.if_icmp .ne 25, 3) := by decide +kernel
theorem dX2_renameNodes_23 : decode cX2_renameNodes 23 = .ok (.aload_n 0, 1) := by decide +kernel
theorem dX2_renameNodes_24 : decode cX2_renameNodes 24 = .ok (.getfield 25, 3) := by decide +kernel
theorem dX2_renameNodes_27 : decode cX2_renameNodes 27 = .ok (.iload 4, 2) := by decide +kernel
theorem dX2_renameNodes_29 : decode cX2_renameNodes 29 = .ok (.dup2, 1) := by decide +kernel
theorem dX2_renameNodes_30 : decode cX2_renameNodes 30 = .ok (.iaload, 1) := by decide +kernel
theorem dX2_renameNodes_31 : decode cX2_renameNodes 31 = .ok (.iload_n 2, 1) := by decide +kernel
theorem dX2_renameNodes_32 : decode cX2_renameNodes 32 = .ok (.isub, 1) := by decide +kernel
theorem dX2_renameNodes_33 : decode cX2_renameNodes 33 = .ok (.iastore, 1) := by decide +kernel
theorem dX2_renameNodes_34 : decode cX2_renameNodes 34 = .ok (.aload_n 0, 1) := by decide +kernel
theorem dX2_renameNodes_35 : decode cX2_renameNodes 35 = .ok (.getfield 28, 3) := by decide +kernel
theorem dX2_renameNodes_38 : decode cX2_renameNodes 38 = .ok (.iload 4, 2) := by decide +kernel
theorem dX2_renameNodes_40 : decode cX2_renameNodes 40 = .ok (.dup2, 1) := by decide +kernel
theorem dX2_renameNodes_41 : decode cX2_renameNodes 41 = .ok (.iaload, 1) := by decide +kernel
theorem dX2_renameNodes_42 : decode cX2_renameNodes 42 = .ok (.iload_n 3, 1) := by decide +kernel
theorem dX2_renameNodes_43 : decode cX2_renameNodes 43 = .ok (.isub, 1) := by decide +kernel
theorem dX2_renameNodes_44 : decode cX2_renameNodes 44 = .ok (.iastore, 1) := by decide +kernel
theorem dX2_renameNodes_45 : decode cX2_renameNodes 45 = .ok (.aload_n 0, 1) := by decide +kernel
theorem dX2_renameNodes_46 : decode cX2_renameNodes 46 = .ok (.getfield 22, 3) := by decide +kernel
theorem dX2_renameNodes_49 : decode cX2_renameNodes 49 = .ok (.iload 4, 2) := by decide +kernel
theorem dX2_renameNodes_51 : decode cX2_renameNodes 51 = .ok (.iaload, 1) := by decide +kernel
theorem dX2_renameNodes_52 : decode cX2_renameNodes 52 = .ok (.iload_n 1, 1) := by decide +kernel
theorem dX2_renameNodes_53 : decode cX2_renameNodes 53 = .ok (.if_icmp .ne 25, 3) := by decide +kernel
theorem dX2_renameNodes_56 : decode cX2_renameNodes 56 = .ok (.aload_n 0, 1) := by decide +kernel
theorem dX2_renameNodes_57 : decode cX2_renameNodes 57 = .ok (.getfield 25, 3) := by decide +kernel
theorem dX2_renameNodes_60 : decode cX2_renameNodes 60 = .ok (.iload 4, 2) := by decide +kernel
theorem dX2_renameNodes_62 : decode cX2_renameNodes 62 = .ok (.dup2, 1) := by decide +kernel
theorem dX2_renameNodes_63 : decode cX2_renameNodes 63 = .ok (.iaload, 1) := by decide +kernel
theorem dX2_renameNodes_64 : decode cX2_renameNodes 64 = .ok (.iload_n 2, 1) := by decide +kernel
theorem dX2_renameNodes_65 : decode cX2_renameNodes 65 = .ok (.iadd, 1) := by decide +kernel
theorem dX2_renameNodes_66 : decode cX2_renameNodes 66 = .ok (.iastore, 1) := by decide +kernel
theorem dX2_renameNodes_67 : decode cX2_renameNodes 67 = .ok (.aload_n 0, 1) := by decide +kernel
theorem dX2_renameNodes_68 : decode cX2_renameNodes 68 = .ok (.getfield 28, 3) := by decide +kernel
theorem dX2_renameNodes_71 : decode cX2_renameNodes 71 = .ok (.iload 4, 2) := by decide +kernel
theorem dX2_renameNodes_73 : decode cX2_renameNodes 73 = .ok (.dup2, 1) := by decide +kernel
theorem dX2_renameNodes_74 : decode cX2_renameNodes 74 = .ok (.iaload, 1) := by decide +kernel
theorem dX2_renameNodes_75 : decode cX2_renameNodes 75 = .ok (.iload_n 3, 1) := by decide +kernel
theorem dX2_renameNodes_76 : decode cX2_renameNodes 76 = .ok (.iadd, 1) := by decide +kernel
theorem dX2_renameNodes_77 : decode cX2_renameNodes 77 = .ok (.iastore, 1) := by decide +kernel
theorem dX2_renameNodes_78 : decode cX2_renameNodes 78 = .ok (.iinc 4 1, 3) := by decide +kernel
theorem dX2_renameNodes_81 : decode cX2_renameNodes 81 = .ok (.goto (-78), 3) := by decide +kernel
theorem dX2_renameNodes_84 : decode cX2_renameNodes 84 = .ok (.return_, 1) := by decide +kernel
theorem dX2_turnShifts_0 : decode cX2_turnShifts 0 = .ok (.iconst 0, 1) := by decide +kernel
theorem dX2_turnShifts_1 : decode cX2_turnShifts 1 = .ok (.istore_n 2, 1) := by decide +kernel
theorem dX2_turnShifts_2 : decode cX2_turnShifts 2 = .ok (.iload_n 2, 1) := by decide +kernel
theorem dX2_turnShifts_3 : decode cX2_turnShifts 3 = .ok (.aload_n 0, 1) := by decide +kernel
theorem dX2_turnShifts_4 : decode cX2_turnShifts 4 = .ok (.getfield 15, 3) := by decide +kernel
theorem dX2_turnShifts_7 : decode cX2_turnShifts 7 = .ok (.if_icmp .ge 103, 3) := by decide +kernel
theorem dX2_turnShifts_10 : decode cX2_turnShifts 10 = .ok (.aload_n 0, 1) := by decide +kernel
theorem dX2_turnShifts_11 : decode cX2_turnShifts 11 = .ok (.getfield 25, 3) := by decide +kernel
theorem dX2_turnShifts_14 : decode cX2_turnShifts 14 = .ok (.iload_n 2, 1) := by decide +kernel
theorem dX2_turnShifts_15 : decode cX2_turnShifts 15 = .ok (.iaload, 1) := by decide +kernel
theorem dX2_turnShifts_16 : decode cX2_turnShifts 16 = .ok (.istore_n 3, 1) := by decide +kernel
theorem dX2_turnShifts_17 : decode cX2_turnShifts 17 = .ok (.aload_n 0, 1) := by decide +kernel
theorem dX2_turnShifts_18 : decode cX2_turnShifts 18 = .ok (.getfield 28, 3) := by decide +kernel
theorem dX2_turnShifts_21 : decode cX2_turnShifts 21 = .ok (.iload_n 2, 1) := by decide +kernel
theorem dX2_turnShifts_22 : decode cX2_turnShifts 22 = .ok (.iaload, 1) := by decide +kernel
theorem dX2_turnShifts_23 : decode cX2_turnShifts 23 = .ok (.istore 4, 2) := by decide +kernel
theorem dX2_turnShifts_25 : decode cX2_turnShifts 25 = .ok (.iload_n 1, 1) := by decide +kernel
theorem dX2_turnShifts_26 : decode cX2_turnShifts 26 = .ok (.tableswitch 70 0 2 #[26, 44, 57], 26) := by decide +kernel
theorem dX2_turnShifts_52 : decode cX2_turnShifts 52 = .ok (.aload_n 0, 1) := by decide +kernel
theorem dX2_turnShifts_53 : decode cX2_turnShifts 53 = .ok (.getfield 25, 3) := by decide +kernel
theorem dX2_turnShifts_56 : decode cX2_turnShifts 56 = .ok (.iload_n 2, 1) := by decide +kernel
theorem dX2_turnShifts_57 : decode cX2_turnShifts 57 = .ok (.iload 4, 2) := by decide +kernel
theorem dX2_turnShifts_59 : decode cX2_turnShifts 59 = .ok (.iastore, 1) := by decide +kernel
theorem dX2_turnShifts_60 : decode cX2_turnShifts 60 = .ok (.aload_n 0, 1) := by decide +kernel
theorem dX2_turnShifts_61 : decode cX2_turnShifts 61 = .ok (.getfield 28, 3) := by decide +kernel
theorem dX2_turnShifts_64 : decode cX2_turnShifts 64 = .ok (.iload_n 2, 1) := by decide +kernel
theorem dX2_turnShifts_65 : decode cX2_turnShifts 65 = .ok (.iload_n 3, 1) := by decide +kernel
theorem dX2_turnShifts_66 : decode cX2_turnShifts 66 = .ok (.iastore, 1) := by decide +kernel
theorem dX2_turnShifts_67 : decode cX2_turnShifts 67 = .ok (.goto 37, 3) := by decide +kernel
theorem dX2_turnShifts_70 : decode cX2_turnShifts 70 = .ok (.aload_n 0, 1) := by decide +kernel
theorem dX2_turnShifts_71 : decode cX2_turnShifts 71 = .ok (.getfield 25, 3) := by decide +kernel
theorem dX2_turnShifts_74 : decode cX2_turnShifts 74 = .ok (.iload_n 2, 1) := by decide +kernel
theorem dX2_turnShifts_75 : decode cX2_turnShifts 75 = .ok (.iload_n 3, 1) := by decide +kernel
theorem dX2_turnShifts_76 : decode cX2_turnShifts 76 = .ok (.iload 4, 2) := by decide +kernel
theorem dX2_turnShifts_78 : decode cX2_turnShifts 78 = .ok (.iadd, 1) := by decide +kernel
theorem dX2_turnShifts_79 : decode cX2_turnShifts 79 = .ok (.iastore, 1) := by decide +kernel
theorem dX2_turnShifts_80 : decode cX2_turnShifts 80 = .ok (.goto 24, 3) := by decide +kernel
theorem dX2_turnShifts_83 : decode cX2_turnShifts 83 = .ok (.aload_n 0, 1) := by decide +kernel
theorem dX2_turnShifts_84 : decode cX2_turnShifts 84 = .ok (.getfield 25, 3) := by decide +kernel
theorem dX2_turnShifts_87 : decode cX2_turnShifts 87 = .ok (.iload_n 2, 1) := by decide +kernel
theorem dX2_turnShifts_88 : decode cX2_turnShifts 88 = .ok (.iload_n 3, 1) := by decide +kernel
theorem dX2_turnShifts_89 : decode cX2_turnShifts 89 = .ok (.iload 4, 2) := by decide +kernel
theorem dX2_turnShifts_91 : decode cX2_turnShifts 91 = .ok (.isub, 1) := by decide +kernel
theorem dX2_turnShifts_92 : decode cX2_turnShifts 92 = .ok (.iastore, 1) := by decide +kernel
theorem dX2_turnShifts_93 : decode cX2_turnShifts 93 = .ok (.goto 11, 3) := by decide +kernel
theorem dX2_turnShifts_96 : decode cX2_turnShifts 96 = .ok (.aload_n 0, 1) := by decide +kernel
theorem dX2_turnShifts_97 : decode cX2_turnShifts 97 = .ok (.getfield 25, 3) := by decide +kernel
theorem dX2_turnShifts_100 : decode cX2_turnShifts 100 = .ok (.iload_n 2, 1) := by decide +kernel
theorem dX2_turnShifts_101 : decode cX2_turnShifts 101 = .ok (.iload_n 3, 1) := by decide +kernel
theorem dX2_turnShifts_102 : decode cX2_turnShifts 102 = .ok (.ineg, 1) := by decide +kernel
theorem dX2_turnShifts_103 : decode cX2_turnShifts 103 = .ok (.iastore, 1) := by decide +kernel
theorem dX2_turnShifts_104 : decode cX2_turnShifts 104 = .ok (.iinc 2 1, 3) := by decide +kernel
theorem dX2_turnShifts_107 : decode cX2_turnShifts 107 = .ok (.goto (-105), 3) := by decide +kernel
theorem dX2_turnShifts_110 : decode cX2_turnShifts 110 = .ok (.return_, 1) := by decide +kernel
set_option maxRecDepth 20000 in
theorem ggX2_hasShiftsInRange_X5_isShift : GoodIn wsX2_hasShiftsInRange wsX5_isShift := goodIn_r _ [6] (by decide +kernel) (by decide +kernel)
set_option maxRecDepth 20000 in
theorem gX2_hasShiftsInRange_X5_isShift_n47 : GoodIn wsX2_hasShiftsInRange (wsX5_isShift) := ggX2_hasShiftsInRange_X5_isShift
theorem dX2_hasShiftsInRange_0 : decode cX2_hasShiftsInRange 0 = .ok (.iconst 0, 1) := by decide +kernel
theorem dX2_hasShiftsInRange_1 : decode cX2_hasShiftsInRange 1 = .ok (.istore_n 1, 1) := by decide +kernel
theorem dX2_hasShiftsInRange_2 : decode cX2_hasShiftsInRange 2 = .ok (.iload_n 1, 1) := by decide +kernel
theorem dX2_hasShiftsInRange_3 : decode cX2_hasShiftsInRange 3 = .ok (.aload_n 0, 1) := by decide +kernel
theorem dX2_hasShiftsInRange_4 : decode cX2_hasShiftsInRange 4 = .ok (.getfield 15, 3) := by decide +kernel
theorem dX2_hasShiftsInRange_7 : decode cX2_hasShiftsInRange 7 = .ok (.if_icmp .ge 35, 3) := by decide +kernel
theorem dX2_hasShiftsInRange_10 : decode cX2_hasShiftsInRange 10 = .ok (.aload_n 0, 1) := by decide +kernel
theorem dX2_hasShiftsInRange_11 : decode cX2_hasShiftsInRange 11 = .ok (.getfield 25, 3) := by decide +kernel
theorem dX2_hasShiftsInRange_14 : decode cX2_hasShiftsInRange 14 = .ok (.iload_n 1, 1) := by decide +kernel
theorem dX2_hasShiftsInRange_15 : decode cX2_hasShiftsInRange 15 = .ok (.iaload, 1) := by decide +kernel
theorem dX2_hasShiftsInRange_16 : decode cX2_hasShiftsInRange 16 = .ok (.invokestatic 47, 3) := by decide +kernel
theorem dX2_hasShiftsInRange_19 : decode cX2_hasShiftsInRange 19 = .ok (.ifCond .eq 15, 3) := by decide +kernel
theorem dX2_hasShiftsInRange_22 : decode cX2_hasShiftsInRange 22 = .ok (.aload_n 0, 1) := by decide +kernel
theorem dX2_hasShiftsInRange_23 : decode cX2_hasShiftsInRange 23 = .ok (.getfield 28, 3) := by decide +kernel
theorem dX2_hasShiftsInRange_26 : decode cX2_hasShiftsInRange 26 = .ok (.iload_n 1, 1) := by decide +kernel
theorem dX2_hasShiftsInRange_27 : decode cX2_hasShiftsInRange 27 = .ok (.iaload, 1) := by decide +kernel
theorem dX2_hasShiftsInRange_28 : decode cX2_hasShiftsInRange 28 = .ok (.invokestatic 47, 3) := by decide +kernel
theorem dX2_hasShiftsInRange_31 : decode cX2_hasShiftsInRange 31 = .ok (.ifCond .ne 5, 3) := by decide +kernel
theorem dX2_hasShiftsInRange_34 : decode cX2_hasShiftsInRange 34 = .ok (.iconst 0, 1) := by decide +kernel
theorem dX2_hasShiftsInRange_35 : decode cX2_hasShiftsInRange 35 = .ok (.ireturn, 1) := by decide +kernel
theorem dX2_hasShiftsInRange_36 : decode cX2_hasShiftsInRange 36 = .ok (.iinc 1 1, 3) := by decide +kernel
theorem dX2_hasShiftsInRange_39 : decode cX2_hasShiftsInRange 39 = .ok (.goto (-37), 3) := by decide +kernel
theorem dX2_hasShiftsInRange_42 : decode cX2_hasShiftsInRange 42 = .ok (.iconst 1, 1) := by decide +kernel
theorem dX2_hasShiftsInRange_43 : decode cX2_hasShiftsInRange 43 = .ok (.ireturn, 1) := by decide +kernel
theorem dX2_shiftsUnlike_0 : decode cX2_shiftsUnlike 0 = .ok (.iconst 0, 1) := by decide +kernel
theorem dX2_shiftsUnlike_1 : decode cX2_shiftsUnlike 1 = .ok (.istore_n 2, 1) := by decide +kernel
theorem dX2_shiftsUnlike_2 : decode cX2_shiftsUnlike 2 = .ok (.iconst 0, 1) := by decide +kernel
theorem dX2_shiftsUnlike_3 : decode cX2_shiftsUnlike 3 = .ok (.istore_n 3, 1) := by decide +kernel
theorem dX2_shiftsUnlike_4 : decode cX2_shiftsUnlike 4 = .ok (.iload_n 3, 1) := by decide +kernel
theorem dX2_shiftsUnlike_5 : decode cX2_shiftsUnlike 5 = .ok (.aload_n 0, 1) := by decide +kernel
theorem dX2_shiftsUnlike_6 : decode cX2_shiftsUnlike 6 = .ok (.getfield 15, 3) := by decide +kernel
theorem dX2_shiftsUnlike_9 : decode cX2_shiftsUnlike 9 = .ok (.if_icmp .ge 50, 3) := by decide +kernel
theorem dX2_shiftsUnlike_12 : decode cX2_shiftsUnlike 12 = .ok (.iload_n 3, 1) := by decide +kernel
theorem dX2_shiftsUnlike_13 : decode cX2_shiftsUnlike 13 = .ok (.aload_n 1, 1) := by decide +kernel
theorem dX2_shiftsUnlike_14 : decode cX2_shiftsUnlike 14 = .ok (.getfield 15, 3) := by decide +kernel
theorem dX2_shiftsUnlike_17 : decode cX2_shiftsUnlike 17 = .ok (.if_icmp .ge 42, 3) := by decide +kernel
theorem dX2_shiftsUnlike_20 : decode cX2_shiftsUnlike 20 = .ok (.aload_n 0, 1) := by decide +kernel
theorem dX2_shiftsUnlike_21 : decode cX2_shiftsUnlike 21 = .ok (.getfield 25, 3) := by decide +kernel
theorem dX2_shiftsUnlike_24 : decode cX2_shiftsUnlike 24 = .ok (.iload_n 3, 1) := by decide +kernel
theorem dX2_shiftsUnlike_25 : decode cX2_shiftsUnlike 25 = .ok (.iaload, 1) := by decide +kernel
theorem dX2_shiftsUnlike_26 : decode cX2_shiftsUnlike 26 = .ok (.aload_n 1, 1) := by decide +kernel
theorem dX2_shiftsUnlike_27 : decode cX2_shiftsUnlike 27 = .ok (.getfield 25, 3) := by decide +kernel
theorem dX2_shiftsUnlike_30 : decode cX2_shiftsUnlike 30 = .ok (.iload_n 3, 1) := by decide +kernel
theorem dX2_shiftsUnlike_31 : decode cX2_shiftsUnlike 31 = .ok (.iaload, 1) := by decide +kernel
theorem dX2_shiftsUnlike_32 : decode cX2_shiftsUnlike 32 = .ok (.if_icmp .ne 18, 3) := by decide +kernel
theorem dX2_shiftsUnlike_35 : decode cX2_shiftsUnlike 35 = .ok (.aload_n 0, 1) := by decide +kernel
theorem dX2_shiftsUnlike_36 : decode cX2_shiftsUnlike 36 = .ok (.getfield 28, 3) := by decide +kernel
theorem dX2_shiftsUnlike_39 : decode cX2_shiftsUnlike 39 = .ok (.iload_n 3, 1) := by decide +kernel
theorem dX2_shiftsUnlike_40 : decode cX2_shiftsUnlike 40 = .ok (.iaload, 1) := by decide +kernel
theorem dX2_shiftsUnlike_41 : decode cX2_shiftsUnlike 41 = .ok (.aload_n 1, 1) := by decide +kernel
theorem dX2_shiftsUnlike_42 : decode cX2_shiftsUnlike 42 = .ok (.getfield 28, 3) := by decide +kernel
theorem dX2_shiftsUnlike_45 : decode cX2_shiftsUnlike 45 = .ok (.iload_n 3, 1) := by decide +kernel
theorem dX2_shiftsUnlike_46 : decode cX2_shiftsUnlike 46 = .ok (.iaload, 1) := by decide +kernel
theorem dX2_shiftsUnlike_47 : decode cX2_shiftsUnlike 47 = .ok (.if_icmp .eq 6, 3) := by decide +kernel
theorem dX2_shiftsUnlike_50 : decode cX2_shiftsUnlike 50 = .ok (.iinc 2 1, 3) := by decide +kernel
theorem dX2_shiftsUnlike_53 : decode cX2_shiftsUnlike 53 = .ok (.iinc 3 1, 3) := by decide +kernel
theorem dX2_shiftsUnlike_56 : decode cX2_shiftsUnlike 56 = .ok (.goto (-52), 3) := by decide +kernel
theorem dX2_shiftsUnlike_59 : decode cX2_shiftsUnlike 59 = .ok (.iload_n 2, 1) := by decide +kernel
theorem dX2_shiftsUnlike_60 : decode cX2_shiftsUnlike 60 = .ok (.ireturn, 1) := by decide +kernel
theorem dX3_init_0 : decode cX3_init 0 = .ok (.aload_n 0, 1) := by decide +kernel
theorem dX3_init_1 : decode cX3_init 1 = .ok (.invokespecial 3, 3) := by decide +kernel
theorem dX3_init_4 : decode cX3_init 4 = .ok (.aload_n 0, 1) := by decide +kernel
theorem dX3_init_5 : decode cX3_init 5 = .ok (.iconst 5, 1) := by decide +kernel
theorem dX3_init_6 : decode cX3_init 6 = .ok (.bipush 7, 2) := by decide +kernel
theorem dX3_init_8 : decode cX3_init 8 = .ok (.multianewarray 9 2, 4) := by decide +kernel
theorem dX3_init_12 : decode cX3_init 12 = .ok (.putfield 11, 3) := by decide +kernel
theorem dX3_init_15 : decode cX3_init 15 = .ok (.aload_n 0, 1) := by decide +kernel
theorem dX3_init_16 : decode cX3_init 16 = .ok (.iconst 0, 1) := by decide +kernel
theorem dX3_init_17 : decode cX3_init 17 = .ok (.putfield 16, 3) := by decide +kernel
theorem dX3_init_20 : decode cX3_init 20 = .ok (.aload_n 0, 1) := by decide +kernel
theorem dX3_init_21 : decode cX3_init 21 = .ok (.lconst 1, 1) := by decide +kernel
theorem dX3_init_22 : decode cX3_init 22 = .ok (.putfield 20, 3) := by decide +kernel
theorem dX3_init_25 : decode cX3_init 25 = .ok (.return_, 1) := by decide +kernel
set_option maxRecDepth 20000 in
theorem ggX3_solve_X3_clearRows : GoodIn wsX3_solve wsX3_clearRows := goodIn_r _ [13, 2, 14, 33, 34, 35] (by decide +kernel) (by decide +kernel)
set_option maxRecDepth 20000 in
theorem gX3_solve_X3_clearRows : GoodIn wsX3_solve (wsV RX3 29 RX3 yX3_clearRows wsX3_clearRows) := goodIn_app (goodIn_of _ (by decide +kernel)) ggX3_solve_X3_clearRows
set_option maxRecDepth 20000 in
theorem ggX3_solve_X3_addEnd : GoodIn wsX3_solve wsX3_addEnd := goodIn_r _ [18, 14, 2, 33, 34, 35] (by decide +kernel) (by decide +kernel)
set_option maxRecDepth 20000 in
theorem gX3_solve_X3_addEnd : GoodIn wsX3_solve (wsV RX3 48 RX3 yX3_addEnd wsX3_addEnd) := goodIn_app (goodIn_of _ (by decide +kernel)) ggX3_solve_X3_addEnd
set_option maxRecDepth 20000 in
theorem ggX3_solve_X3_eliminate : GoodIn wsX3_solve wsX3_eliminate := goodIn_r _ [22, 14, 8, 2, 23, 24, 25, 12, 26, 33, 34, 35] (by decide +kernel) (by decide +kernel)
set_option maxRecDepth 20000 in
theorem gX3_solve_X3_eliminate : GoodIn wsX3_solve (wsV RX3 52 RX3 yX3_eliminate wsX3_eliminate) := goodIn_app (goodIn_of _ (by decide +kernel)) ggX3_solve_X3_eliminate
theorem dX3_solve_0 : decode cX3_solve 0 = .ok (.aload_n 0, 1) := by decide +kernel
theorem dX3_solve_1 : decode cX3_solve 1 = .ok (.aload_n 1, 1) := by decide +kernel
theorem dX3_solve_2 : decode cX3_solve 2 = .ok (.getfield 24, 3) := by decide +kernel
theorem dX3_solve_5 : decode cX3_solve 5 = .ok (.iconst 1, 1) := by decide +kernel
theorem dX3_solve_6 : decode cX3_solve 6 = .ok (.isub, 1) := by decide +kernel
theorem dX3_solve_7 : decode cX3_solve 7 = .ok (.putfield 16, 3) := by decide +kernel
theorem dX3_solve_10 : decode cX3_solve 10 = .ok (.aload_n 0, 1) := by decide +kernel
theorem dX3_solve_11 : decode cX3_solve 11 = .ok (.invokevirtual 29, 3) := by decide +kernel
theorem dX3_solve_14 : decode cX3_solve 14 = .ok (.iconst 0, 1) := by decide +kernel
theorem dX3_solve_15 : decode cX3_solve 15 = .ok (.istore_n 2, 1) := by decide +kernel
theorem dX3_solve_16 : decode cX3_solve 16 = .ok (.iload_n 2, 1) := by decide +kernel
theorem dX3_solve_17 : decode cX3_solve 17 = .ok (.aload_n 1, 1) := by decide +kernel
theorem dX3_solve_18 : decode cX3_solve 18 = .ok (.getfield 32, 3) := by decide +kernel
theorem dX3_solve_21 : decode cX3_solve 21 = .ok (.if_icmp .ge 67, 3) := by decide +kernel
theorem dX3_solve_24 : decode cX3_solve 24 = .ok (.aload_n 0, 1) := by decide +kernel
theorem dX3_solve_25 : decode cX3_solve 25 = .ok (.aload_n 1, 1) := by decide +kernel
theorem dX3_solve_26 : decode cX3_solve 26 = .ok (.getfield 35, 3) := by decide +kernel
theorem dX3_solve_29 : decode cX3_solve 29 = .ok (.iload_n 2, 1) := by decide +kernel
theorem dX3_solve_30 : decode cX3_solve 30 = .ok (.iaload, 1) := by decide +kernel
theorem dX3_solve_31 : decode cX3_solve 31 = .ok (.aload_n 1, 1) := by decide +kernel
theorem dX3_solve_32 : decode cX3_solve 32 = .ok (.getfield 39, 3) := by decide +kernel
theorem dX3_solve_35 : decode cX3_solve 35 = .ok (.iload_n 2, 1) := by decide +kernel
theorem dX3_solve_36 : decode cX3_solve 36 = .ok (.iaload, 1) := by decide +kernel
theorem dX3_solve_37 : decode cX3_solve 37 = .ok (.aload_n 1, 1) := by decide +kernel
theorem dX3_solve_38 : decode cX3_solve 38 = .ok (.getfield 42, 3) := by decide +kernel
theorem dX3_solve_41 : decode cX3_solve 41 = .ok (.iload_n 2, 1) := by decide +kernel
theorem dX3_solve_42 : decode cX3_solve 42 = .ok (.iaload, 1) := by decide +kernel
theorem dX3_solve_43 : decode cX3_solve 43 = .ok (.aload_n 1, 1) := by decide +kernel
theorem dX3_solve_44 : decode cX3_solve 44 = .ok (.getfield 45, 3) := by decide +kernel
theorem dX3_solve_47 : decode cX3_solve 47 = .ok (.iload_n 2, 1) := by decide +kernel
theorem dX3_solve_48 : decode cX3_solve 48 = .ok (.iaload, 1) := by decide +kernel
theorem dX3_solve_49 : decode cX3_solve 49 = .ok (.invokevirtual 48, 3) := by decide +kernel
theorem dX3_solve_52 : decode cX3_solve 52 = .ok (.aload_n 0, 1) := by decide +kernel
theorem dX3_solve_53 : decode cX3_solve 53 = .ok (.aload_n 1, 1) := by decide +kernel
theorem dX3_solve_54 : decode cX3_solve 54 = .ok (.getfield 39, 3) := by decide +kernel
theorem dX3_solve_57 : decode cX3_solve 57 = .ok (.iload_n 2, 1) := by decide +kernel
theorem dX3_solve_58 : decode cX3_solve 58 = .ok (.iaload, 1) := by decide +kernel
theorem dX3_solve_59 : decode cX3_solve 59 = .ok (.aload_n 1, 1) := by decide +kernel
theorem dX3_solve_60 : decode cX3_solve 60 = .ok (.getfield 35, 3) := by decide +kernel
theorem dX3_solve_63 : decode cX3_solve 63 = .ok (.iload_n 2, 1) := by decide +kernel
theorem dX3_solve_64 : decode cX3_solve 64 = .ok (.iaload, 1) := by decide +kernel
theorem dX3_solve_65 : decode cX3_solve 65 = .ok (.aload_n 1, 1) := by decide +kernel
theorem dX3_solve_66 : decode cX3_solve 66 = .ok (.getfield 42, 3) := by decide +kernel
theorem dX3_solve_69 : decode cX3_solve 69 = .ok (.iload_n 2, 1) := by decide +kernel
theorem dX3_solve_70 : decode cX3_solve 70 = .ok (.iaload, 1) := by decide +kernel
theorem dX3_solve_71 : decode cX3_solve 71 = .ok (.ineg, 1) := by decide +kernel
theorem dX3_solve_72 : decode cX3_solve 72 = .ok (.aload_n 1, 1) := by decide +kernel
theorem dX3_solve_73 : decode cX3_solve 73 = .ok (.getfield 45, 3) := by decide +kernel
theorem dX3_solve_76 : decode cX3_solve 76 = .ok (.iload_n 2, 1) := by decide +kernel
theorem dX3_solve_77 : decode cX3_solve 77 = .ok (.iaload, 1) := by decide +kernel
theorem dX3_solve_78 : decode cX3_solve 78 = .ok (.ineg, 1) := by decide +kernel
theorem dX3_solve_79 : decode cX3_solve 79 = .ok (.invokevirtual 48, 3) := by decide +kernel
theorem dX3_solve_82 : decode cX3_solve 82 = .ok (.iinc 2 1, 3) := by decide +kernel
theorem dX3_solve_85 : decode cX3_solve 85 = .ok (.goto (-69), 3) := by decide +kernel
theorem dX3_solve_88 : decode cX3_solve 88 = .ok (.aload_n 0, 1) := by decide +kernel
theorem dX3_solve_89 : decode cX3_solve 89 = .ok (.lconst 1, 1) := by decide +kernel
theorem dX3_solve_90 : decode cX3_solve 90 = .ok (.putfield 20, 3) := by decide +kernel
theorem dX3_solve_93 : decode cX3_solve 93 = .ok (.iconst 0, 1) := by decide +kernel
theorem dX3_solve_94 : decode cX3_solve 94 = .ok (.istore_n 2, 1) := by decide +kernel
theorem dX3_solve_95 : decode cX3_solve 95 = .ok (.iload_n 2, 1) := by decide +kernel
theorem dX3_solve_96 : decode cX3_solve 96 = .ok (.aload_n 0, 1) := by decide +kernel
theorem dX3_solve_97 : decode cX3_solve 97 = .ok (.getfield 16, 3) := by decide +kernel
theorem dX3_solve_100 : decode cX3_solve 100 = .ok (.if_icmp .ge 14, 3) := by decide +kernel
theorem dX3_solve_103 : decode cX3_solve 103 = .ok (.aload_n 0, 1) := by decide +kernel
theorem dX3_solve_104 : decode cX3_solve 104 = .ok (.iload_n 2, 1) := by decide +kernel
theorem dX3_solve_105 : decode cX3_solve 105 = .ok (.invokevirtual 52, 3) := by decide +kernel
theorem dX3_solve_108 : decode cX3_solve 108 = .ok (.iinc 2 1, 3) := by decide +kernel
theorem dX3_solve_111 : decode cX3_solve 111 = .ok (.goto (-16), 3) := by decide +kernel
theorem dX3_solve_114 : decode cX3_solve 114 = .ok (.return_, 1) := by decide +kernel
theorem dX3_clearRows_0 : decode cX3_clearRows 0 = .ok (.iconst 0, 1) := by decide +kernel
theorem dX3_clearRows_1 : decode cX3_clearRows 1 = .ok (.istore_n 1, 1) := by decide +kernel
theorem dX3_clearRows_2 : decode cX3_clearRows 2 = .ok (.iload_n 1, 1) := by decide +kernel
theorem dX3_clearRows_3 : decode cX3_clearRows 3 = .ok (.aload_n 0, 1) := by decide +kernel
theorem dX3_clearRows_4 : decode cX3_clearRows 4 = .ok (.getfield 16, 3) := by decide +kernel
theorem dX3_clearRows_7 : decode cX3_clearRows 7 = .ok (.if_icmp .ge 36, 3) := by decide +kernel
theorem dX3_clearRows_10 : decode cX3_clearRows 10 = .ok (.iconst 0, 1) := by decide +kernel
theorem dX3_clearRows_11 : decode cX3_clearRows 11 = .ok (.istore_n 2, 1) := by decide +kernel
theorem dX3_clearRows_12 : decode cX3_clearRows 12 = .ok (.iload_n 2, 1) := by decide +kernel
theorem dX3_clearRows_13 : decode cX3_clearRows 13 = .ok (.aload_n 0, 1) := by decide +kernel
theorem dX3_clearRows_14 : decode cX3_clearRows 14 = .ok (.getfield 16, 3) := by decide +kernel
theorem dX3_clearRows_17 : decode cX3_clearRows 17 = .ok (.iconst 2, 1) := by decide +kernel
theorem dX3_clearRows_18 : decode cX3_clearRows 18 = .ok (.iadd, 1) := by decide +kernel
theorem dX3_clearRows_19 : decode cX3_clearRows 19 = .ok (.if_icmp .ge 18, 3) := by decide +kernel
theorem dX3_clearRows_22 : decode cX3_clearRows 22 = .ok (.aload_n 0, 1) := by decide +kernel
theorem dX3_clearRows_23 : decode cX3_clearRows 23 = .ok (.getfield 11, 3) := by decide +kernel
theorem dX3_clearRows_26 : decode cX3_clearRows 26 = .ok (.iload_n 1, 1) := by decide +kernel
theorem dX3_clearRows_27 : decode cX3_clearRows 27 = .ok (.aaload, 1) := by decide +kernel
theorem dX3_clearRows_28 : decode cX3_clearRows 28 = .ok (.iload_n 2, 1) := by decide +kernel
theorem dX3_clearRows_29 : decode cX3_clearRows 29 = .ok (.lconst 0, 1) := by decide +kernel
theorem dX3_clearRows_30 : decode cX3_clearRows 30 = .ok (.lastore, 1) := by decide +kernel
theorem dX3_clearRows_31 : decode cX3_clearRows 31 = .ok (.iinc 2 1, 3) := by decide +kernel
theorem dX3_clearRows_34 : decode cX3_clearRows 34 = .ok (.goto (-22), 3) := by decide +kernel
theorem dX3_clearRows_37 : decode cX3_clearRows 37 = .ok (.iinc 1 1, 3) := by decide +kernel
theorem dX3_clearRows_40 : decode cX3_clearRows 40 = .ok (.goto (-38), 3) := by decide +kernel
theorem dX3_clearRows_43 : decode cX3_clearRows 43 = .ok (.return_, 1) := by decide +kernel
theorem dX3_addEnd_0 : decode cX3_addEnd 0 = .ok (.iload_n 1, 1) := by decide +kernel
theorem dX3_addEnd_1 : decode cX3_addEnd 1 = .ok (.ifCond .le 78, 3) := by decide +kernel
theorem dX3_addEnd_4 : decode cX3_addEnd 4 = .ok (.aload_n 0, 1) := by decide +kernel
theorem dX3_addEnd_5 : decode cX3_addEnd 5 = .ok (.getfield 11, 3) := by decide +kernel
theorem dX3_addEnd_8 : decode cX3_addEnd 8 = .ok (.iload_n 1, 1) := by decide +kernel
theorem dX3_addEnd_9 : decode cX3_addEnd 9 = .ok (.iconst 1, 1) := by decide +kernel
theorem dX3_addEnd_10 : decode cX3_addEnd 10 = .ok (.isub, 1) := by decide +kernel
theorem dX3_addEnd_11 : decode cX3_addEnd 11 = .ok (.aaload, 1) := by decide +kernel
theorem dX3_addEnd_12 : decode cX3_addEnd 12 = .ok (.iload_n 1, 1) := by decide +kernel
theorem dX3_addEnd_13 : decode cX3_addEnd 13 = .ok (.iconst 1, 1) := by decide +kernel
theorem dX3_addEnd_14 : decode cX3_addEnd 14 = .ok (.isub, 1) := by decide +kernel
theorem dX3_addEnd_15 : decode cX3_addEnd 15 = .ok (.dup2, 1) := by decide +kernel
theorem dX3_addEnd_16 : decode cX3_addEnd 16 = .ok (.laload, 1) := by decide +kernel
theorem dX3_addEnd_17 : decode cX3_addEnd 17 = .ok (.lconst 1, 1) := by decide +kernel
theorem dX3_addEnd_18 : decode cX3_addEnd 18 = .ok (.ladd, 1) := by decide +kernel
theorem dX3_addEnd_19 : decode cX3_addEnd 19 = .ok (.lastore, 1) := by decide +kernel
theorem dX3_addEnd_20 : decode cX3_addEnd 20 = .ok (.iload_n 2, 1) := by decide +kernel
theorem dX3_addEnd_21 : decode cX3_addEnd 21 = .ok (.ifCond .le 19, 3) := by decide +kernel
theorem dX3_addEnd_24 : decode cX3_addEnd 24 = .ok (.aload_n 0, 1) := by decide +kernel
theorem dX3_addEnd_25 : decode cX3_addEnd 25 = .ok (.getfield 11, 3) := by decide +kernel
theorem dX3_addEnd_28 : decode cX3_addEnd 28 = .ok (.iload_n 1, 1) := by decide +kernel
theorem dX3_addEnd_29 : decode cX3_addEnd 29 = .ok (.iconst 1, 1) := by decide +kernel
theorem dX3_addEnd_30 : decode cX3_addEnd 30 = .ok (.isub, 1) := by decide +kernel
theorem dX3_addEnd_31 : decode cX3_addEnd 31 = .ok (.aaload, 1) := by decide +kernel
theorem dX3_addEnd_32 : decode cX3_addEnd 32 = .ok (.iload_n 2, 1) := by decide +kernel
theorem dX3_addEnd_33 : decode cX3_addEnd 33 = .ok (.iconst 1, 1) := by decide +kernel
theorem dX3_addEnd_34 : decode cX3_addEnd 34 = .ok (.isub, 1) := by decide +kernel
theorem dX3_addEnd_35 : decode cX3_addEnd 35 = .ok (.dup2, 1) := by decide +kernel
theorem dX3_addEnd_36 : decode cX3_addEnd 36 = .ok (.laload, 1) := by decide +kernel
theorem dX3_addEnd_37 : decode cX3_addEnd 37 = .ok (.lconst 1, 1) := by decide +kernel
theorem dX3_addEnd_38 : decode cX3_addEnd 38 = .ok (.lsub, 1) := by decide +kernel
theorem dX3_addEnd_39 : decode cX3_addEnd 39 = .ok (.lastore, 1) := by decide +kernel
theorem dX3_addEnd_40 : decode cX3_addEnd 40 = .ok (.aload_n 0, 1) := by decide +kernel
theorem dX3_addEnd_41 : decode cX3_addEnd 41 = .ok (.getfield 11, 3) := by decide +kernel
theorem dX3_addEnd_44 : decode cX3_addEnd 44 = .ok (.iload_n 1, 1) := by decide +kernel
theorem dX3_addEnd_45 : decode cX3_addEnd 45 = .ok (.iconst 1, 1) := by decide +kernel
theorem dX3_addEnd_46 : decode cX3_addEnd 46 = .ok (.isub, 1) := by decide +kernel
theorem dX3_addEnd_47 : decode cX3_addEnd 47 = .ok (.aaload, 1) := by decide +kernel
theorem dX3_addEnd_48 : decode cX3_addEnd 48 = .ok (.aload_n 0, 1) := by decide +kernel
theorem dX3_addEnd_49 : decode cX3_addEnd 49 = .ok (.getfield 16, 3) := by decide +kernel
theorem dX3_addEnd_52 : decode cX3_addEnd 52 = .ok (.dup2, 1) := by decide +kernel
theorem dX3_addEnd_53 : decode cX3_addEnd 53 = .ok (.laload, 1) := by decide +kernel
theorem dX3_addEnd_54 : decode cX3_addEnd 54 = .ok (.iload_n 3, 1) := by decide +kernel
theorem dX3_addEnd_55 : decode cX3_addEnd 55 = .ok (.i2l, 1) := by decide +kernel
theorem dX3_addEnd_56 : decode cX3_addEnd 56 = .ok (.ladd, 1) := by decide +kernel
theorem dX3_addEnd_57 : decode cX3_addEnd 57 = .ok (.lastore, 1) := by decide +kernel
theorem dX3_addEnd_58 : decode cX3_addEnd 58 = .ok (.aload_n 0, 1) := by decide +kernel
theorem dX3_addEnd_59 : decode cX3_addEnd 59 = .ok (.getfield 11, 3) := by decide +kernel
theorem dX3_addEnd_62 : decode cX3_addEnd 62 = .ok (.iload_n 1, 1) := by decide +kernel
theorem dX3_addEnd_63 : decode cX3_addEnd 63 = .ok (.iconst 1, 1) := by decide +kernel
theorem dX3_addEnd_64 : decode cX3_addEnd 64 = .ok (.isub, 1) := by decide +kernel
theorem dX3_addEnd_65 : decode cX3_addEnd 65 = .ok (.aaload, 1) := by decide +kernel
theorem dX3_addEnd_66 : decode cX3_addEnd 66 = .ok (.aload_n 0, 1) := by decide +kernel
theorem dX3_addEnd_67 : decode cX3_addEnd 67 = .ok (.getfield 16, 3) := by decide +kernel
theorem dX3_addEnd_70 : decode cX3_addEnd 70 = .ok (.iconst 1, 1) := by decide +kernel
theorem dX3_addEnd_71 : decode cX3_addEnd 71 = .ok (.iadd, 1) := by decide +kernel
theorem dX3_addEnd_72 : decode cX3_addEnd 72 = .ok (.dup2, 1) := by decide +kernel
theorem dX3_addEnd_73 : decode cX3_addEnd 73 = .ok (.laload, 1) := by decide +kernel
theorem dX3_addEnd_74 : decode cX3_addEnd 74 = .ok (.iload 4, 2) := by decide +kernel
theorem dX3_addEnd_76 : decode cX3_addEnd 76 = .ok (.i2l, 1) := by decide +kernel
theorem dX3_addEnd_77 : decode cX3_addEnd 77 = .ok (.ladd, 1) := by decide +kernel
theorem dX3_addEnd_78 : decode cX3_addEnd 78 = .ok (.lastore, 1) := by decide +kernel
theorem dX3_addEnd_79 : decode cX3_addEnd 79 = .ok (.return_, 1) := by decide +kernel
set_option maxRecDepth 20000 in
theorem ggX3_eliminate_X3_reduceRow : GoodIn wsX3_eliminate wsX3_reduceRow := goodIn_r _ [8, 1, 3, 2, 9, 10, 11] (by decide +kernel) (by decide +kernel)
set_option maxRecDepth 20000 in
theorem gX3_eliminate_X3_reduceRow : GoodIn wsX3_eliminate (wsV RX3 56 RX3 yX3_reduceRow wsX3_reduceRow) := goodIn_app (goodIn_of _ (by decide +kernel)) ggX3_eliminate_X3_reduceRow
theorem dX3_eliminate_0 : decode cX3_eliminate 0 = .ok (.aload_n 0, 1) := by decide +kernel
theorem dX3_eliminate_1 : decode cX3_eliminate 1 = .ok (.getfield 11, 3) := by decide +kernel
theorem dX3_eliminate_4 : decode cX3_eliminate 4 = .ok (.iload_n 1, 1) := by decide +kernel
theorem dX3_eliminate_5 : decode cX3_eliminate 5 = .ok (.aaload, 1) := by decide +kernel
theorem dX3_eliminate_6 : decode cX3_eliminate 6 = .ok (.iload_n 1, 1) := by decide +kernel
theorem dX3_eliminate_7 : decode cX3_eliminate 7 = .ok (.laload, 1) := by decide +kernel
theorem dX3_eliminate_8 : decode cX3_eliminate 8 = .ok (.lstore_n 2, 1) := by decide +kernel
theorem dX3_eliminate_9 : decode cX3_eliminate 9 = .ok (.lload_n 2, 1) := by decide +kernel
theorem dX3_eliminate_10 : decode cX3_eliminate 10 = .ok (.lconst 0, 1) := by decide +kernel
theorem dX3_eliminate_11 : decode cX3_eliminate 11 = .ok (.lcmp, 1) := by decide +kernel
theorem dX3_eliminate_12 : decode cX3_eliminate 12 = .ok (.ifCond .eq 12, 3) := by decide +kernel
theorem dX3_eliminate_15 : decode cX3_eliminate 15 = .ok (.aload_n 0, 1) := by decide +kernel
theorem dX3_eliminate_16 : decode cX3_eliminate 16 = .ok (.getfield 20, 3) := by decide +kernel
theorem dX3_eliminate_19 : decode cX3_eliminate 19 = .ok (.lconst 0, 1) := by decide +kernel
theorem dX3_eliminate_20 : decode cX3_eliminate 20 = .ok (.lcmp, 1) := by decide +kernel
theorem dX3_eliminate_21 : decode cX3_eliminate 21 = .ok (.ifCond .ne 4, 3) := by decide +kernel
theorem dX3_eliminate_24 : decode cX3_eliminate 24 = .ok (.return_, 1) := by decide +kernel
theorem dX3_eliminate_25 : decode cX3_eliminate 25 = .ok (.iconst 0, 1) := by decide +kernel
theorem dX3_eliminate_26 : decode cX3_eliminate 26 = .ok (.istore 4, 2) := by decide +kernel
theorem dX3_eliminate_28 : decode cX3_eliminate 28 = .ok (.iload 4, 2) := by decide +kernel
theorem dX3_eliminate_30 : decode cX3_eliminate 30 = .ok (.aload_n 0, 1) := by decide +kernel
theorem dX3_eliminate_31 : decode cX3_eliminate 31 = .ok (.getfield 16, 3) := by decide +kernel
theorem dX3_eliminate_34 : decode cX3_eliminate 34 = .ok (.if_icmp .ge 23, 3) := by decide +kernel
theorem dX3_eliminate_37 : decode cX3_eliminate 37 = .ok (.iload 4, 2) := by decide +kernel
theorem dX3_eliminate_39 : decode cX3_eliminate 39 = .ok (.iload_n 1, 1) := by decide +kernel
theorem dX3_eliminate_40 : decode cX3_eliminate 40 = .ok (.if_icmp .eq 11, 3) := by decide +kernel
theorem dX3_eliminate_43 : decode cX3_eliminate 43 = .ok (.aload_n 0, 1) := by decide +kernel
theorem dX3_eliminate_44 : decode cX3_eliminate 44 = .ok (.iload 4, 2) := by decide +kernel
theorem dX3_eliminate_46 : decode cX3_eliminate 46 = .ok (.iload_n 1, 1) := by decide +kernel
theorem dX3_eliminate_47 : decode cX3_eliminate 47 = .ok (.lload_n 2, 1) := by decide +kernel
theorem dX3_eliminate_48 : decode cX3_eliminate 48 = .ok (.invokevirtual 56, 3) := by decide +kernel
theorem dX3_eliminate_51 : decode cX3_eliminate 51 = .ok (.iinc 4 1, 3) := by decide +kernel
theorem dX3_eliminate_54 : decode cX3_eliminate 54 = .ok (.goto (-26), 3) := by decide +kernel
theorem dX3_eliminate_57 : decode cX3_eliminate 57 = .ok (.aload_n 0, 1) := by decide +kernel
theorem dX3_eliminate_58 : decode cX3_eliminate 58 = .ok (.lload_n 2, 1) := by decide +kernel
theorem dX3_eliminate_59 : decode cX3_eliminate 59 = .ok (.putfield 20, 3) := by decide +kernel
theorem dX3_eliminate_62 : decode cX3_eliminate 62 = .ok (.return_, 1) := by decide +kernel
theorem dX3_reduceRow_0 : decode cX3_reduceRow 0 = .ok (.aload_n 0, 1) := by decide +kernel
theorem dX3_reduceRow_1 : decode cX3_reduceRow 1 = .ok (.getfield 11, 3) := by decide +kernel
theorem dX3_reduceRow_4 : decode cX3_reduceRow 4 = .ok (.iload_n 1, 1) := by decide +kernel
theorem dX3_reduceRow_5 : decode cX3_reduceRow 5 = .ok (.aaload, 1) := by decide +kernel
theorem dX3_reduceRow_6 : decode cX3_reduceRow 6 = .ok (.iload_n 2, 1) := by decide +kernel
theorem dX3_reduceRow_7 : decode cX3_reduceRow 7 = .ok (.laload, 1) := by decide +kernel
theorem dX3_reduceRow_8 : decode cX3_reduceRow 8 = .ok (.lstore 5, 2) := by decide +kernel
theorem dX3_reduceRow_10 : decode cX3_reduceRow 10 = .ok (.iconst 0, 1) := by decide +kernel
theorem dX3_reduceRow_11 : decode cX3_reduceRow 11 = .ok (.istore 7, 2) := by decide +kernel
theorem dX3_reduceRow_13 : decode cX3_reduceRow 13 = .ok (.iload 7, 2) := by decide +kernel
theorem dX3_reduceRow_15 : decode cX3_reduceRow 15 = .ok (.aload_n 0, 1) := by decide +kernel
theorem dX3_reduceRow_16 : decode cX3_reduceRow 16 = .ok (.getfield 16, 3) := by decide +kernel
theorem dX3_reduceRow_19 : decode cX3_reduceRow 19 = .ok (.iconst 2, 1) := by decide +kernel
theorem dX3_reduceRow_20 : decode cX3_reduceRow 20 = .ok (.iadd, 1) := by decide +kernel
theorem dX3_reduceRow_21 : decode cX3_reduceRow 21 = .ok (.if_icmp .ge 47, 3) := by decide +kernel
theorem dX3_reduceRow_24 : decode cX3_reduceRow 24 = .ok (.aload_n 0, 1) := by decide +kernel
theorem dX3_reduceRow_25 : decode cX3_reduceRow 25 = .ok (.getfield 11, 3) := by decide +kernel
theorem dX3_reduceRow_28 : decode cX3_reduceRow 28 = .ok (.iload_n 1, 1) := by decide +kernel
theorem dX3_reduceRow_29 : decode cX3_reduceRow 29 = .ok (.aaload, 1) := by decide +kernel
theorem dX3_reduceRow_30 : decode cX3_reduceRow 30 = .ok (.iload 7, 2) := by decide +kernel
theorem dX3_reduceRow_32 : decode cX3_reduceRow 32 = .ok (.lload_n 3, 1) := by decide +kernel
theorem dX3_reduceRow_33 : decode cX3_reduceRow 33 = .ok (.aload_n 0, 1) := by decide +kernel
theorem dX3_reduceRow_34 : decode cX3_reduceRow 34 = .ok (.getfield 11, 3) := by decide +kernel
theorem dX3_reduceRow_37 : decode cX3_reduceRow 37 = .ok (.iload_n 1, 1) := by decide +kernel
theorem dX3_reduceRow_38 : decode cX3_reduceRow 38 = .ok (.aaload, 1) := by decide +kernel
theorem dX3_reduceRow_39 : decode cX3_reduceRow 39 = .ok (.iload 7, 2) := by decide +kernel
theorem dX3_reduceRow_41 : decode cX3_reduceRow 41 = .ok (.laload, 1) := by decide +kernel
theorem dX3_reduceRow_42 : decode cX3_reduceRow 42 = .ok (.lmul, 1) := by decide +kernel
theorem dX3_reduceRow_43 : decode cX3_reduceRow 43 = .ok (.lload 5, 2) := by decide +kernel
theorem dX3_reduceRow_45 : decode cX3_reduceRow 45 = .ok (.aload_n 0, 1) := by decide +kernel
theorem dX3_reduceRow_46 : decode cX3_reduceRow 46 = .ok (.getfield 11, 3) := by decide +kernel
theorem dX3_reduceRow_49 : decode cX3_reduceRow 49 = .ok (.iload_n 2, 1) := by decide +kernel
theorem dX3_reduceRow_50 : decode cX3_reduceRow 50 = .ok (.aaload, 1) := by decide +kernel
theorem dX3_reduceRow_51 : decode cX3_reduceRow 51 = .ok (.iload 7, 2) := by decide +kernel
theorem dX3_reduceRow_53 : decode cX3_reduceRow 53 = .ok (.laload, 1) := by decide +kernel
theorem dX3_reduceRow_54 : decode cX3_reduceRow 54 = .ok (.lmul, 1) := by decide +kernel
theorem dX3_reduceRow_55 : decode cX3_reduceRow 55 = .ok (.lsub, 1) := by decide +kernel
theorem dX3_reduceRow_56 : decode cX3_reduceRow 56 = .ok (.aload_n 0, 1) := by decide +kernel
theorem dX3_reduceRow_57 : decode cX3_reduceRow 57 = .ok (.getfield 20, 3) := by decide +kernel
theorem dX3_reduceRow_60 : decode cX3_reduceRow 60 = .ok (.ldiv, 1) := by decide +kernel
theorem dX3_reduceRow_61 : decode cX3_reduceRow 61 = .ok (.lastore, 1) := by decide +kernel
theorem dX3_reduceRow_62 : decode cX3_reduceRow 62 = .ok (.iinc 7 1, 3) := by decide +kernel
theorem dX3_reduceRow_65 : decode cX3_reduceRow 65 = .ok (.goto (-52), 3) := by decide +kernel
theorem dX3_reduceRow_68 : decode cX3_reduceRow 68 = .ok (.return_, 1) := by decide +kernel
theorem dX3_unreduced_0 : decode cX3_unreduced 0 = .ok (.iload_n 1, 1) := by decide +kernel
theorem dX3_unreduced_1 : decode cX3_unreduced 1 = .ok (.iconst 1, 1) := by decide +kernel
theorem dX3_unreduced_2 : decode cX3_unreduced 2 = .ok (.if_icmp .ge 7, 3) := by decide +kernel
theorem dX3_unreduced_5 : decode cX3_unreduced 5 = .ok (.lconst 0, 1) := by decide +kernel
theorem dX3_unreduced_6 : decode cX3_unreduced 6 = .ok (.goto 18, 3) := by decide +kernel
theorem dX3_unreduced_9 : decode cX3_unreduced 9 = .ok (.aload_n 0, 1) := by decide +kernel
theorem dX3_unreduced_10 : decode cX3_unreduced 10 = .ok (.getfield 11, 3) := by decide +kernel
theorem dX3_unreduced_13 : decode cX3_unreduced 13 = .ok (.iload_n 1, 1) := by decide +kernel
theorem dX3_unreduced_14 : decode cX3_unreduced 14 = .ok (.iconst 1, 1) := by decide +kernel
theorem dX3_unreduced_15 : decode cX3_unreduced 15 = .ok (.isub, 1) := by decide +kernel
theorem dX3_unreduced_16 : decode cX3_unreduced 16 = .ok (.aaload, 1) := by decide +kernel
theorem dX3_unreduced_17 : decode cX3_unreduced 17 = .ok (.aload_n 0, 1) := by decide +kernel
theorem dX3_unreduced_18 : decode cX3_unreduced 18 = .ok (.getfield 16, 3) := by decide +kernel
theorem dX3_unreduced_21 : decode cX3_unreduced 21 = .ok (.iload_n 2, 1) := by decide +kernel
theorem dX3_unreduced_22 : decode cX3_unreduced 22 = .ok (.iadd, 1) := by decide +kernel
theorem dX3_unreduced_23 : decode cX3_unreduced 23 = .ok (.laload, 1) := by decide +kernel
theorem dX3_unreduced_24 : decode cX3_unreduced 24 = .ok (.lreturn, 1) := by decide +kernel
set_option maxRecDepth 20000 in
theorem ggX3_top_X3_unreduced : GoodIn wsX3_top wsX3_unreduced := goodIn_r _ [5, 6, 7, 16, 17, 18] (by decide +kernel) (by decide +kernel)
set_option maxRecDepth 20000 in
theorem gX3_top_X3_unreduced : GoodIn wsX3_top (wsV RX3 60 RX3 yX3_unreduced wsX3_unreduced) := goodIn_app (goodIn_of _ (by decide +kernel)) ggX3_top_X3_unreduced
set_option maxRecDepth 20000 in
theorem ggX3_top_X3_lowered : GoodIn wsX3_top wsX3_lowered := goodIn_r _ [11, 12, 1, 2, 3, 4, 5, 6, 7, 13, 14, 15, 16, 17, 18] (by decide +kernel) (by decide +kernel)
set_option maxRecDepth 20000 in
theorem gX3_top_X3_lowered : GoodIn wsX3_top (wsV RX3 64 RX3 yX3_lowered wsX3_lowered) := goodIn_app (goodIn_of _ (by decide +kernel)) ggX3_top_X3_lowered
theorem dX3_top_0 : decode cX3_top 0 = .ok (.aload_n 0, 1) := by decide +kernel
theorem dX3_top_1 : decode cX3_top 1 = .ok (.aload_n 0, 1) := by decide +kernel
theorem dX3_top_2 : decode cX3_top 2 = .ok (.iload_n 1, 1) := by decide +kernel
theorem dX3_top_3 : decode cX3_top 3 = .ok (.iload_n 2, 1) := by decide +kernel
theorem dX3_top_4 : decode cX3_top 4 = .ok (.invokevirtual 60, 3) := by decide +kernel
theorem dX3_top_7 : decode cX3_top 7 = .ok (.iload_n 1, 1) := by decide +kernel
theorem dX3_top_8 : decode cX3_top 8 = .ok (.iload_n 2, 1) := by decide +kernel
theorem dX3_top_9 : decode cX3_top 9 = .ok (.invokevirtual 64, 3) := by decide +kernel
theorem dX3_top_12 : decode cX3_top 12 = .ok (.lreturn, 1) := by decide +kernel
set_option maxRecDepth 20000 in
theorem ggX3_bottom_X3_lowered : GoodIn wsX3_bottom wsX3_lowered := goodIn_r _ [6, 1, 7, 8, 9, 5, 10, 11, 12, 13, 14, 15, 16, 17, 18] (by decide +kernel) (by decide +kernel)
set_option maxRecDepth 20000 in
theorem gX3_bottom_X3_lowered : GoodIn wsX3_bottom (wsV RX3 64 RX3 yX3_lowered wsX3_lowered) := goodIn_app (goodIn_of _ (by decide +kernel)) ggX3_bottom_X3_lowered
theorem dX3_bottom_0 : decode cX3_bottom 0 = .ok (.aload_n 0, 1) := by decide +kernel
theorem dX3_bottom_1 : decode cX3_bottom 1 = .ok (.aload_n 0, 1) := by decide +kernel
theorem dX3_bottom_2 : decode cX3_bottom 2 = .ok (.getfield 20, 3) := by decide +kernel
theorem dX3_bottom_5 : decode cX3_bottom 5 = .ok (.iload_n 1, 1) := by decide +kernel
theorem dX3_bottom_6 : decode cX3_bottom 6 = .ok (.iload_n 2, 1) := by decide +kernel
theorem dX3_bottom_7 : decode cX3_bottom 7 = .ok (.invokevirtual 64, 3) := by decide +kernel
theorem dX3_bottom_10 : decode cX3_bottom 10 = .ok (.lreturn, 1) := by decide +kernel
set_option maxRecDepth 20000 in
theorem ggX3_lowered_X3_unreduced : GoodIn wsX3_lowered wsX3_unreduced := goodIn_r _ [6, 7, 8, 12, 13, 14] (by decide +kernel) (by decide +kernel)
set_option maxRecDepth 20000 in
theorem gX3_lowered_X3_unreduced : GoodIn wsX3_lowered (wsV RX3 60 RX3 yX3_unreduced wsX3_unreduced) := goodIn_app (goodIn_of _ (by decide +kernel)) ggX3_lowered_X3_unreduced
set_option maxRecDepth 20000 in
theorem ggX3_lowered_X5_greatestDivisor : GoodIn wsX3_lowered wsX5_greatestDivisor := goodIn_r _ [11] (by decide +kernel) (by decide +kernel)
set_option maxRecDepth 20000 in
theorem gX3_lowered_X5_greatestDivisor_n68 : GoodIn wsX3_lowered (wsX5_greatestDivisor) := ggX3_lowered_X5_greatestDivisor
theorem dX3_lowered_0 : decode cX3_lowered 0 = .ok (.aload_n 0, 1) := by decide +kernel
theorem dX3_lowered_1 : decode cX3_lowered 1 = .ok (.iload_n 3, 1) := by decide +kernel
theorem dX3_lowered_2 : decode cX3_lowered 2 = .ok (.iload 4, 2) := by decide +kernel
theorem dX3_lowered_4 : decode cX3_lowered 4 = .ok (.invokevirtual 60, 3) := by decide +kernel
theorem dX3_lowered_7 : decode cX3_lowered 7 = .ok (.aload_n 0, 1) := by decide +kernel
theorem dX3_lowered_8 : decode cX3_lowered 8 = .ok (.getfield 20, 3) := by decide +kernel
theorem dX3_lowered_11 : decode cX3_lowered 11 = .ok (.invokestatic 68, 3) := by decide +kernel
theorem dX3_lowered_14 : decode cX3_lowered 14 = .ok (.lstore 5, 2) := by decide +kernel
theorem dX3_lowered_16 : decode cX3_lowered 16 = .ok (.lload 5, 2) := by decide +kernel
theorem dX3_lowered_18 : decode cX3_lowered 18 = .ok (.lconst 0, 1) := by decide +kernel
theorem dX3_lowered_19 : decode cX3_lowered 19 = .ok (.lcmp, 1) := by decide +kernel
theorem dX3_lowered_20 : decode cX3_lowered 20 = .ok (.ifCond .ne 7, 3) := by decide +kernel
theorem dX3_lowered_23 : decode cX3_lowered 23 = .ok (.lload_n 1, 1) := by decide +kernel
theorem dX3_lowered_24 : decode cX3_lowered 24 = .ok (.goto 7, 3) := by decide +kernel
theorem dX3_lowered_27 : decode cX3_lowered 27 = .ok (.lload_n 1, 1) := by decide +kernel
theorem dX3_lowered_28 : decode cX3_lowered 28 = .ok (.lload 5, 2) := by decide +kernel
theorem dX3_lowered_30 : decode cX3_lowered 30 = .ok (.ldiv, 1) := by decide +kernel
theorem dX3_lowered_31 : decode cX3_lowered 31 = .ok (.lreturn, 1) := by decide +kernel
set_option maxRecDepth 20000 in
theorem ggX3_meet_X3_isWholeApart : GoodIn wsX3_meet wsX3_isWholeApart := goodIn_r _ [5, 6, 7, 8, 9, 4, 10, 11, 12, 13, 14, 15] (by decide +kernel) (by decide +kernel)
set_option maxRecDepth 20000 in
theorem gX3_meet_X3_isWholeApart : GoodIn wsX3_meet (wsV RX3 72 RX3 yX3_isWholeApart wsX3_isWholeApart) := goodIn_app (goodIn_of _ (by decide +kernel)) ggX3_meet_X3_isWholeApart
theorem dX3_meet_0 : decode cX3_meet 0 = .ok (.aload_n 0, 1) := by decide +kernel
theorem dX3_meet_1 : decode cX3_meet 1 = .ok (.iload_n 1, 1) := by decide +kernel
theorem dX3_meet_2 : decode cX3_meet 2 = .ok (.iload_n 2, 1) := by decide +kernel
theorem dX3_meet_3 : decode cX3_meet 3 = .ok (.iconst 0, 1) := by decide +kernel
theorem dX3_meet_4 : decode cX3_meet 4 = .ok (.invokevirtual 72, 3) := by decide +kernel
theorem dX3_meet_7 : decode cX3_meet 7 = .ok (.ifCond .eq 17, 3) := by decide +kernel
theorem dX3_meet_10 : decode cX3_meet 10 = .ok (.aload_n 0, 1) := by decide +kernel
theorem dX3_meet_11 : decode cX3_meet 11 = .ok (.iload_n 1, 1) := by decide +kernel
theorem dX3_meet_12 : decode cX3_meet 12 = .ok (.iload_n 2, 1) := by decide +kernel
theorem dX3_meet_13 : decode cX3_meet 13 = .ok (.iconst 1, 1) := by decide +kernel
theorem dX3_meet_14 : decode cX3_meet 14 = .ok (.invokevirtual 72, 3) := by decide +kernel
theorem dX3_meet_17 : decode cX3_meet 17 = .ok (.ifCond .eq 7, 3) := by decide +kernel
theorem dX3_meet_20 : decode cX3_meet 20 = .ok (.iconst 1, 1) := by decide +kernel
theorem dX3_meet_21 : decode cX3_meet 21 = .ok (.goto 4, 3) := by decide +kernel
theorem dX3_meet_24 : decode cX3_meet 24 = .ok (.iconst 0, 1) := by decide +kernel
theorem dX3_meet_25 : decode cX3_meet 25 = .ok (.ireturn, 1) := by decide +kernel
set_option maxRecDepth 20000 in
theorem ggX3_isWholeApart_X3_unreduced : GoodIn wsX3_isWholeApart wsX3_unreduced := goodIn_r _ [6, 7, 8, 9, 10, 11] (by decide +kernel) (by decide +kernel)
set_option maxRecDepth 20000 in
theorem gX3_isWholeApart_X3_unreduced : GoodIn wsX3_isWholeApart (wsV RX3 60 RX3 yX3_unreduced wsX3_unreduced) := goodIn_app (goodIn_of _ (by decide +kernel)) ggX3_isWholeApart_X3_unreduced
theorem dX3_isWholeApart_0 : decode cX3_isWholeApart 0 = .ok (.aload_n 0, 1) := by decide +kernel
theorem dX3_isWholeApart_1 : decode cX3_isWholeApart 1 = .ok (.getfield 20, 3) := by decide +kernel
theorem dX3_isWholeApart_4 : decode cX3_isWholeApart 4 = .ok (.lconst 0, 1) := by decide +kernel
theorem dX3_isWholeApart_5 : decode cX3_isWholeApart 5 = .ok (.lcmp, 1) := by decide +kernel
theorem dX3_isWholeApart_6 : decode cX3_isWholeApart 6 = .ok (.ifCond .eq 30, 3) := by decide +kernel
theorem dX3_isWholeApart_9 : decode cX3_isWholeApart 9 = .ok (.aload_n 0, 1) := by decide +kernel
theorem dX3_isWholeApart_10 : decode cX3_isWholeApart 10 = .ok (.iload_n 1, 1) := by decide +kernel
theorem dX3_isWholeApart_11 : decode cX3_isWholeApart 11 = .ok (.iload_n 3, 1) := by decide +kernel
theorem dX3_isWholeApart_12 : decode cX3_isWholeApart 12 = .ok (.invokevirtual 60, 3) := by decide +kernel
theorem dX3_isWholeApart_15 : decode cX3_isWholeApart 15 = .ok (.aload_n 0, 1) := by decide +kernel
theorem dX3_isWholeApart_16 : decode cX3_isWholeApart 16 = .ok (.iload_n 2, 1) := by decide +kernel
theorem dX3_isWholeApart_17 : decode cX3_isWholeApart 17 = .ok (.iload_n 3, 1) := by decide +kernel
theorem dX3_isWholeApart_18 : decode cX3_isWholeApart 18 = .ok (.invokevirtual 60, 3) := by decide +kernel
theorem dX3_isWholeApart_21 : decode cX3_isWholeApart 21 = .ok (.lsub, 1) := by decide +kernel
theorem dX3_isWholeApart_22 : decode cX3_isWholeApart 22 = .ok (.aload_n 0, 1) := by decide +kernel
theorem dX3_isWholeApart_23 : decode cX3_isWholeApart 23 = .ok (.getfield 20, 3) := by decide +kernel
theorem dX3_isWholeApart_26 : decode cX3_isWholeApart 26 = .ok (.lrem, 1) := by decide +kernel
theorem dX3_isWholeApart_27 : decode cX3_isWholeApart 27 = .ok (.lconst 0, 1) := by decide +kernel
theorem dX3_isWholeApart_28 : decode cX3_isWholeApart 28 = .ok (.lcmp, 1) := by decide +kernel
theorem dX3_isWholeApart_29 : decode cX3_isWholeApart 29 = .ok (.ifCond .ne 7, 3) := by decide +kernel
theorem dX3_isWholeApart_32 : decode cX3_isWholeApart 32 = .ok (.iconst 1, 1) := by decide +kernel
theorem dX3_isWholeApart_33 : decode cX3_isWholeApart 33 = .ok (.goto 4, 3) := by decide +kernel
theorem dX3_isWholeApart_36 : decode cX3_isWholeApart 36 = .ok (.iconst 0, 1) := by decide +kernel
theorem dX3_isWholeApart_37 : decode cX3_isWholeApart 37 = .ok (.ireturn, 1) := by decide +kernel
theorem dX4_init_0 : decode cX4_init 0 = .ok (.aload_n 0, 1) := by decide +kernel
theorem dX4_init_1 : decode cX4_init 1 = .ok (.invokespecial 5, 3) := by decide +kernel
theorem dX4_init_4 : decode cX4_init 4 = .ok (.aload_n 0, 1) := by decide +kernel
theorem dX4_init_5 : decode cX4_init 5 = .ok (.sipush 6534, 3) := by decide +kernel
theorem dX4_init_8 : decode cX4_init 8 = .ok (.newarray .int, 2) := by decide +kernel
theorem dX4_init_10 : decode cX4_init 10 = .ok (.putfield 11, 3) := by decide +kernel
theorem dX4_init_13 : decode cX4_init 13 = .ok (.aload_n 0, 1) := by decide +kernel
theorem dX4_init_14 : decode cX4_init 14 = .ok (.sipush 6534, 3) := by decide +kernel
theorem dX4_init_17 : decode cX4_init 17 = .ok (.newarray .int, 2) := by decide +kernel
theorem dX4_init_19 : decode cX4_init 19 = .ok (.putfield 15, 3) := by decide +kernel
theorem dX4_init_22 : decode cX4_init 22 = .ok (.aload_n 0, 1) := by decide +kernel
theorem dX4_init_23 : decode cX4_init 23 = .ok (.iconst 0, 1) := by decide +kernel
theorem dX4_init_24 : decode cX4_init 24 = .ok (.putfield 18, 3) := by decide +kernel
theorem dX4_init_27 : decode cX4_init 27 = .ok (.aload_n 0, 1) := by decide +kernel
theorem dX4_init_28 : decode cX4_init 28 = .ok (.iconst 0, 1) := by decide +kernel
theorem dX4_init_29 : decode cX4_init 29 = .ok (.putfield 22, 3) := by decide +kernel
theorem dX4_init_32 : decode cX4_init 32 = .ok (.iconst 0, 1) := by decide +kernel
theorem dX4_init_33 : decode cX4_init 33 = .ok (.istore_n 1, 1) := by decide +kernel
theorem dX4_init_34 : decode cX4_init 34 = .ok (.iload_n 1, 1) := by decide +kernel
theorem dX4_init_35 : decode cX4_init 35 = .ok (.sipush 6534, 3) := by decide +kernel
theorem dX4_init_38 : decode cX4_init 38 = .ok (.if_icmp .ge 16, 3) := by decide +kernel
theorem dX4_init_41 : decode cX4_init 41 = .ok (.aload_n 0, 1) := by decide +kernel
theorem dX4_init_42 : decode cX4_init 42 = .ok (.getfield 11, 3) := by decide +kernel
theorem dX4_init_45 : decode cX4_init 45 = .ok (.iload_n 1, 1) := by decide +kernel
theorem dX4_init_46 : decode cX4_init 46 = .ok (.iconst (-1), 1) := by decide +kernel
theorem dX4_init_47 : decode cX4_init 47 = .ok (.iastore, 1) := by decide +kernel
theorem dX4_init_48 : decode cX4_init 48 = .ok (.iinc 1 1, 3) := by decide +kernel
theorem dX4_init_51 : decode cX4_init 51 = .ok (.goto (-17), 3) := by decide +kernel
theorem dX4_init_54 : decode cX4_init 54 = .ok (.return_, 1) := by decide +kernel
theorem dX4_nodeAt_0 : decode cX4_nodeAt 0 = .ok (.iload_n 2, 1) := by decide +kernel
theorem dX4_nodeAt_1 : decode cX4_nodeAt 1 = .ok (.bipush (-16), 2) := by decide +kernel
theorem dX4_nodeAt_3 : decode cX4_nodeAt 3 = .ok (.if_icmp .lt 21, 3) := by decide +kernel
theorem dX4_nodeAt_6 : decode cX4_nodeAt 6 = .ok (.iload_n 2, 1) := by decide +kernel
theorem dX4_nodeAt_7 : decode cX4_nodeAt 7 = .ok (.bipush 16, 2) := by decide +kernel
theorem dX4_nodeAt_9 : decode cX4_nodeAt 9 = .ok (.if_icmp .gt 15, 3) := by decide +kernel
theorem dX4_nodeAt_12 : decode cX4_nodeAt 12 = .ok (.iload_n 3, 1) := by decide +kernel
theorem dX4_nodeAt_13 : decode cX4_nodeAt 13 = .ok (.bipush (-16), 2) := by decide +kernel
theorem dX4_nodeAt_15 : decode cX4_nodeAt 15 = .ok (.if_icmp .lt 9, 3) := by decide +kernel
theorem dX4_nodeAt_18 : decode cX4_nodeAt 18 = .ok (.iload_n 3, 1) := by decide +kernel
theorem dX4_nodeAt_19 : decode cX4_nodeAt 19 = .ok (.bipush 16, 2) := by decide +kernel
theorem dX4_nodeAt_21 : decode cX4_nodeAt 21 = .ok (.if_icmp .le 5, 3) := by decide +kernel
theorem dX4_nodeAt_24 : decode cX4_nodeAt 24 = .ok (.iconst (-1), 1) := by decide +kernel
theorem dX4_nodeAt_25 : decode cX4_nodeAt 25 = .ok (.ireturn, 1) := by decide +kernel
theorem dX4_nodeAt_26 : decode cX4_nodeAt 26 = .ok (.iload_n 2, 1) := by decide +kernel
theorem dX4_nodeAt_27 : decode cX4_nodeAt 27 = .ok (.bipush 16, 2) := by decide +kernel
theorem dX4_nodeAt_29 : decode cX4_nodeAt 29 = .ok (.iadd, 1) := by decide +kernel
theorem dX4_nodeAt_30 : decode cX4_nodeAt 30 = .ok (.bipush 33, 2) := by decide +kernel
theorem dX4_nodeAt_32 : decode cX4_nodeAt 32 = .ok (.imul, 1) := by decide +kernel
theorem dX4_nodeAt_33 : decode cX4_nodeAt 33 = .ok (.iload_n 3, 1) := by decide +kernel
theorem dX4_nodeAt_34 : decode cX4_nodeAt 34 = .ok (.iadd, 1) := by decide +kernel
theorem dX4_nodeAt_35 : decode cX4_nodeAt 35 = .ok (.bipush 16, 2) := by decide +kernel
theorem dX4_nodeAt_37 : decode cX4_nodeAt 37 = .ok (.iadd, 1) := by decide +kernel
theorem dX4_nodeAt_38 : decode cX4_nodeAt 38 = .ok (.bipush 6, 2) := by decide +kernel
theorem dX4_nodeAt_40 : decode cX4_nodeAt 40 = .ok (.imul, 1) := by decide +kernel
theorem dX4_nodeAt_41 : decode cX4_nodeAt 41 = .ok (.iload_n 1, 1) := by decide +kernel
theorem dX4_nodeAt_42 : decode cX4_nodeAt 42 = .ok (.iadd, 1) := by decide +kernel
theorem dX4_nodeAt_43 : decode cX4_nodeAt 43 = .ok (.ireturn, 1) := by decide +kernel
theorem dX4_stepsTo_0 : decode cX4_stepsTo 0 = .ok (.iload_n 1, 1) := by decide +kernel
theorem dX4_stepsTo_1 : decode cX4_stepsTo 1 = .ok (.ifCond .lt 10, 3) := by decide +kernel
theorem dX4_stepsTo_4 : decode cX4_stepsTo 4 = .ok (.iload_n 1, 1) := by decide +kernel
theorem dX4_stepsTo_5 : decode cX4_stepsTo 5 = .ok (.sipush 6534, 3) := by decide +kernel
theorem dX4_stepsTo_8 : decode cX4_stepsTo 8 = .ok (.if_icmp .lt 7, 3) := by decide +kernel
theorem dX4_stepsTo_11 : decode cX4_stepsTo 11 = .ok (.iconst (-1), 1) := by decide +kernel
theorem dX4_stepsTo_12 : decode cX4_stepsTo 12 = .ok (.goto 9, 3) := by decide +kernel
theorem dX4_stepsTo_15 : decode cX4_stepsTo 15 = .ok (.aload_n 0, 1) := by decide +kernel
theorem dX4_stepsTo_16 : decode cX4_stepsTo 16 = .ok (.getfield 11, 3) := by decide +kernel
theorem dX4_stepsTo_19 : decode cX4_stepsTo 19 = .ok (.iload_n 1, 1) := by decide +kernel
theorem dX4_stepsTo_20 : decode cX4_stepsTo 20 = .ok (.iaload, 1) := by decide +kernel
theorem dX4_stepsTo_21 : decode cX4_stepsTo 21 = .ok (.ireturn, 1) := by decide +kernel
theorem dX4_forget_0 : decode cX4_forget 0 = .ok (.iconst 0, 1) := by decide +kernel
theorem dX4_forget_1 : decode cX4_forget 1 = .ok (.istore_n 1, 1) := by decide +kernel
theorem dX4_forget_2 : decode cX4_forget 2 = .ok (.iload_n 1, 1) := by decide +kernel
theorem dX4_forget_3 : decode cX4_forget 3 = .ok (.aload_n 0, 1) := by decide +kernel
theorem dX4_forget_4 : decode cX4_forget 4 = .ok (.getfield 22, 3) := by decide +kernel
theorem dX4_forget_7 : decode cX4_forget 7 = .ok (.if_icmp .ge 21, 3) := by decide +kernel
theorem dX4_forget_10 : decode cX4_forget 10 = .ok (.aload_n 0, 1) := by decide +kernel
theorem dX4_forget_11 : decode cX4_forget 11 = .ok (.getfield 11, 3) := by decide +kernel
theorem dX4_forget_14 : decode cX4_forget 14 = .ok (.aload_n 0, 1) := by decide +kernel
theorem dX4_forget_15 : decode cX4_forget 15 = .ok (.getfield 15, 3) := by decide +kernel
theorem dX4_forget_18 : decode cX4_forget 18 = .ok (.iload_n 1, 1) := by decide +kernel
theorem dX4_forget_19 : decode cX4_forget 19 = .ok (.iaload, 1) := by decide +kernel
theorem dX4_forget_20 : decode cX4_forget 20 = .ok (.iconst (-1), 1) := by decide +kernel
theorem dX4_forget_21 : decode cX4_forget 21 = .ok (.iastore, 1) := by decide +kernel
theorem dX4_forget_22 : decode cX4_forget 22 = .ok (.iinc 1 1, 3) := by decide +kernel
theorem dX4_forget_25 : decode cX4_forget 25 = .ok (.goto (-23), 3) := by decide +kernel
theorem dX4_forget_28 : decode cX4_forget 28 = .ok (.aload_n 0, 1) := by decide +kernel
theorem dX4_forget_29 : decode cX4_forget 29 = .ok (.iconst 0, 1) := by decide +kernel
theorem dX4_forget_30 : decode cX4_forget 30 = .ok (.putfield 18, 3) := by decide +kernel
theorem dX4_forget_33 : decode cX4_forget 33 = .ok (.aload_n 0, 1) := by decide +kernel
theorem dX4_forget_34 : decode cX4_forget 34 = .ok (.iconst 0, 1) := by decide +kernel
theorem dX4_forget_35 : decode cX4_forget 35 = .ok (.putfield 22, 3) := by decide +kernel
theorem dX4_forget_38 : decode cX4_forget 38 = .ok (.return_, 1) := by decide +kernel
theorem dX4_mark_0 : decode cX4_mark 0 = .ok (.iload_n 1, 1) := by decide +kernel
theorem dX4_mark_1 : decode cX4_mark 1 = .ok (.ifCond .lt 57, 3) := by decide +kernel
theorem dX4_mark_4 : decode cX4_mark 4 = .ok (.iload_n 1, 1) := by decide +kernel
theorem dX4_mark_5 : decode cX4_mark 5 = .ok (.sipush 6534, 3) := by decide +kernel
theorem dX4_mark_8 : decode cX4_mark 8 = .ok (.if_icmp .ge 50, 3) := by decide +kernel
theorem dX4_mark_11 : decode cX4_mark 11 = .ok (.aload_n 0, 1) := by decide +kernel
theorem dX4_mark_12 : decode cX4_mark 12 = .ok (.getfield 11, 3) := by decide +kernel
theorem dX4_mark_15 : decode cX4_mark 15 = .ok (.iload_n 1, 1) := by decide +kernel
theorem dX4_mark_16 : decode cX4_mark 16 = .ok (.iaload, 1) := by decide +kernel
theorem dX4_mark_17 : decode cX4_mark 17 = .ok (.iconst (-1), 1) := by decide +kernel
theorem dX4_mark_18 : decode cX4_mark 18 = .ok (.if_icmp .ne 40, 3) := by decide +kernel
theorem dX4_mark_21 : decode cX4_mark 21 = .ok (.aload_n 0, 1) := by decide +kernel
theorem dX4_mark_22 : decode cX4_mark 22 = .ok (.getfield 22, 3) := by decide +kernel
theorem dX4_mark_25 : decode cX4_mark 25 = .ok (.sipush 6534, 3) := by decide +kernel
theorem dX4_mark_28 : decode cX4_mark 28 = .ok (.if_icmp .ge 30, 3) := by decide +kernel
theorem dX4_mark_31 : decode cX4_mark 31 = .ok (.aload_n 0, 1) := by decide +kernel
theorem dX4_mark_32 : decode cX4_mark 32 = .ok (.getfield 11, 3) := by decide +kernel
theorem dX4_mark_35 : decode cX4_mark 35 = .ok (.iload_n 1, 1) := by decide +kernel
theorem dX4_mark_36 : decode cX4_mark 36 = .ok (.iload_n 2, 1) := by decide +kernel
theorem dX4_mark_37 : decode cX4_mark 37 = .ok (.iastore, 1) := by decide +kernel
theorem dX4_mark_38 : decode cX4_mark 38 = .ok (.aload_n 0, 1) := by decide +kernel
theorem dX4_mark_39 : decode cX4_mark 39 = .ok (.getfield 15, 3) := by decide +kernel
theorem dX4_mark_42 : decode cX4_mark 42 = .ok (.aload_n 0, 1) := by decide +kernel
theorem dX4_mark_43 : decode cX4_mark 43 = .ok (.getfield 22, 3) := by decide +kernel
theorem dX4_mark_46 : decode cX4_mark 46 = .ok (.iload_n 1, 1) := by decide +kernel
theorem dX4_mark_47 : decode cX4_mark 47 = .ok (.iastore, 1) := by decide +kernel
theorem dX4_mark_48 : decode cX4_mark 48 = .ok (.aload_n 0, 1) := by decide +kernel
theorem dX4_mark_49 : decode cX4_mark 49 = .ok (.dup, 1) := by decide +kernel
theorem dX4_mark_50 : decode cX4_mark 50 = .ok (.getfield 22, 3) := by decide +kernel
theorem dX4_mark_53 : decode cX4_mark 53 = .ok (.iconst 1, 1) := by decide +kernel
theorem dX4_mark_54 : decode cX4_mark 54 = .ok (.iadd, 1) := by decide +kernel
theorem dX4_mark_55 : decode cX4_mark 55 = .ok (.putfield 22, 3) := by decide +kernel
theorem dX4_mark_58 : decode cX4_mark 58 = .ok (.return_, 1) := by decide +kernel
set_option maxRecDepth 20000 in
theorem ggX4_close_X4_mark : GoodIn wsX4_close wsX4_mark := goodIn_r _ [7, 8, 1, 9, 10, 11, 12, 13] (by decide +kernel) (by decide +kernel)
set_option maxRecDepth 20000 in
theorem gX4_close_X4_mark : GoodIn wsX4_close (wsV RX4 25 RX4 yX4_mark wsX4_mark) := goodIn_app (goodIn_of _ (by decide +kernel)) ggX4_close_X4_mark
theorem dX4_close_0 : decode cX4_close 0 = .ok (.aload_n 0, 1) := by decide +kernel
theorem dX4_close_1 : decode cX4_close 1 = .ok (.iload_n 1, 1) := by decide +kernel
theorem dX4_close_2 : decode cX4_close 2 = .ok (.iconst 0, 1) := by decide +kernel
theorem dX4_close_3 : decode cX4_close 3 = .ok (.invokevirtual 25, 3) := by decide +kernel
theorem dX4_close_6 : decode cX4_close 6 = .ok (.aload_n 0, 1) := by decide +kernel
theorem dX4_close_7 : decode cX4_close 7 = .ok (.aload_n 0, 1) := by decide +kernel
theorem dX4_close_8 : decode cX4_close 8 = .ok (.getfield 22, 3) := by decide +kernel
theorem dX4_close_11 : decode cX4_close 11 = .ok (.putfield 18, 3) := by decide +kernel
theorem dX4_close_14 : decode cX4_close 14 = .ok (.return_, 1) := by decide +kernel
set_option maxRecDepth 20000 in
theorem ggX4_walk_X4_stepsTo : GoodIn wsX4_walk wsX4_stepsTo := goodIn_r _ [9, 4, 26, 27, 28, 29] (by decide +kernel) (by decide +kernel)
set_option maxRecDepth 20000 in
theorem gX4_walk_X4_stepsTo : GoodIn wsX4_walk (wsV RX4 29 RX4 yX4_stepsTo wsX4_stepsTo) := goodIn_app (goodIn_of _ (by decide +kernel)) ggX4_walk_X4_stepsTo
set_option maxRecDepth 20000 in
theorem ggX4_walk_X4_leave : GoodIn wsX4_walk wsX4_leave := goodIn_r _ [13, 4, 14, 15, 16, 17, 18, 19, 20, 8, 21, 22, 23, 24, 25, 2, 3, 26, 27, 28, 29, 30, 31, 32, 33] (by decide +kernel) (by decide +kernel)
set_option maxRecDepth 20000 in
theorem gX4_walk_X4_leave : GoodIn wsX4_walk (wsV RX4 33 RX4 yX4_leave wsX4_leave) := goodIn_app (goodIn_of _ (by decide +kernel)) ggX4_walk_X4_leave
theorem dX4_walk_0 : decode cX4_walk 0 = .ok (.aload_n 0, 1) := by decide +kernel
theorem dX4_walk_1 : decode cX4_walk 1 = .ok (.getfield 18, 3) := by decide +kernel
theorem dX4_walk_4 : decode cX4_walk 4 = .ok (.istore 4, 2) := by decide +kernel
theorem dX4_walk_6 : decode cX4_walk 6 = .ok (.iload 4, 2) := by decide +kernel
theorem dX4_walk_8 : decode cX4_walk 8 = .ok (.sipush 6534, 3) := by decide +kernel
theorem dX4_walk_11 : decode cX4_walk 11 = .ok (.if_icmp .ge 55, 3) := by decide +kernel
theorem dX4_walk_14 : decode cX4_walk 14 = .ok (.iload 4, 2) := by decide +kernel
theorem dX4_walk_16 : decode cX4_walk 16 = .ok (.aload_n 0, 1) := by decide +kernel
theorem dX4_walk_17 : decode cX4_walk 17 = .ok (.getfield 22, 3) := by decide +kernel
theorem dX4_walk_20 : decode cX4_walk 20 = .ok (.if_icmp .ge 46, 3) := by decide +kernel
theorem dX4_walk_23 : decode cX4_walk 23 = .ok (.aload_n 0, 1) := by decide +kernel
theorem dX4_walk_24 : decode cX4_walk 24 = .ok (.getfield 15, 3) := by decide +kernel
theorem dX4_walk_27 : decode cX4_walk 27 = .ok (.iload 4, 2) := by decide +kernel
theorem dX4_walk_29 : decode cX4_walk 29 = .ok (.iaload, 1) := by decide +kernel
theorem dX4_walk_30 : decode cX4_walk 30 = .ok (.istore 5, 2) := by decide +kernel
theorem dX4_walk_32 : decode cX4_walk 32 = .ok (.aload_n 0, 1) := by decide +kernel
theorem dX4_walk_33 : decode cX4_walk 33 = .ok (.getfield 11, 3) := by decide +kernel
theorem dX4_walk_36 : decode cX4_walk 36 = .ok (.iload 5, 2) := by decide +kernel
theorem dX4_walk_38 : decode cX4_walk 38 = .ok (.iaload, 1) := by decide +kernel
theorem dX4_walk_39 : decode cX4_walk 39 = .ok (.iload_n 2, 1) := by decide +kernel
theorem dX4_walk_40 : decode cX4_walk 40 = .ok (.if_icmp .ge 12, 3) := by decide +kernel
theorem dX4_walk_43 : decode cX4_walk 43 = .ok (.aload_n 0, 1) := by decide +kernel
theorem dX4_walk_44 : decode cX4_walk 44 = .ok (.iload_n 3, 1) := by decide +kernel
theorem dX4_walk_45 : decode cX4_walk 45 = .ok (.invokevirtual 29, 3) := by decide +kernel
theorem dX4_walk_48 : decode cX4_walk 48 = .ok (.iconst (-1), 1) := by decide +kernel
theorem dX4_walk_49 : decode cX4_walk 49 = .ok (.if_icmp .eq 4, 3) := by decide +kernel
theorem dX4_walk_52 : decode cX4_walk 52 = .ok (.return_, 1) := by decide +kernel
theorem dX4_walk_53 : decode cX4_walk 53 = .ok (.aload_n 0, 1) := by decide +kernel
theorem dX4_walk_54 : decode cX4_walk 54 = .ok (.aload_n 1, 1) := by decide +kernel
theorem dX4_walk_55 : decode cX4_walk 55 = .ok (.iload 5, 2) := by decide +kernel
theorem dX4_walk_57 : decode cX4_walk 57 = .ok (.invokevirtual 33, 3) := by decide +kernel
theorem dX4_walk_60 : decode cX4_walk 60 = .ok (.iinc 4 1, 3) := by decide +kernel
theorem dX4_walk_63 : decode cX4_walk 63 = .ok (.goto (-57), 3) := by decide +kernel
theorem dX4_walk_66 : decode cX4_walk 66 = .ok (.return_, 1) := by decide +kernel
set_option maxRecDepth 20000 in
theorem ggX4_leave_X4_nodeAt : GoodIn wsX4_leave wsX4_nodeAt := goodIn_r _ [10] (by decide +kernel) (by decide +kernel)
set_option maxRecDepth 20000 in
theorem gX4_leave_X4_nodeAt : GoodIn wsX4_leave (wsV RX4 52 RX4 yX4_nodeAt wsX4_nodeAt) := goodIn_app (goodIn_of _ (by decide +kernel)) ggX4_leave_X4_nodeAt
set_option maxRecDepth 20000 in
theorem ggX4_leave_X4_mark : GoodIn wsX4_leave wsX4_mark := goodIn_r _ [14, 1, 15, 16, 17, 18, 19, 20] (by decide +kernel) (by decide +kernel)
set_option maxRecDepth 20000 in
theorem gX4_leave_X4_mark : GoodIn wsX4_leave (wsV RX4 25 RX4 yX4_mark wsX4_mark) := goodIn_app (goodIn_of _ (by decide +kernel)) ggX4_leave_X4_mark
theorem dX4_leave_0 : decode cX4_leave 0 = .ok (.iload_n 2, 1) := by decide +kernel
theorem dX4_leave_1 : decode cX4_leave 1 = .ok (.bipush 6, 2) := by decide +kernel
theorem dX4_leave_3 : decode cX4_leave 3 = .ok (.irem, 1) := by decide +kernel
theorem dX4_leave_4 : decode cX4_leave 4 = .ok (.istore_n 3, 1) := by decide +kernel
theorem dX4_leave_5 : decode cX4_leave 5 = .ok (.iload_n 2, 1) := by decide +kernel
theorem dX4_leave_6 : decode cX4_leave 6 = .ok (.bipush 6, 2) := by decide +kernel
theorem dX4_leave_8 : decode cX4_leave 8 = .ok (.idiv, 1) := by decide +kernel
theorem dX4_leave_9 : decode cX4_leave 9 = .ok (.istore 4, 2) := by decide +kernel
theorem dX4_leave_11 : decode cX4_leave 11 = .ok (.iload 4, 2) := by decide +kernel
theorem dX4_leave_13 : decode cX4_leave 13 = .ok (.bipush 33, 2) := by decide +kernel
theorem dX4_leave_15 : decode cX4_leave 15 = .ok (.idiv, 1) := by decide +kernel
theorem dX4_leave_16 : decode cX4_leave 16 = .ok (.bipush 16, 2) := by decide +kernel
theorem dX4_leave_18 : decode cX4_leave 18 = .ok (.isub, 1) := by decide +kernel
theorem dX4_leave_19 : decode cX4_leave 19 = .ok (.istore 5, 2) := by decide +kernel
theorem dX4_leave_21 : decode cX4_leave 21 = .ok (.iload 4, 2) := by decide +kernel
theorem dX4_leave_23 : decode cX4_leave 23 = .ok (.bipush 33, 2) := by decide +kernel
theorem dX4_leave_25 : decode cX4_leave 25 = .ok (.irem, 1) := by decide +kernel
theorem dX4_leave_26 : decode cX4_leave 26 = .ok (.bipush 16, 2) := by decide +kernel
theorem dX4_leave_28 : decode cX4_leave 28 = .ok (.isub, 1) := by decide +kernel
theorem dX4_leave_29 : decode cX4_leave 29 = .ok (.istore 6, 2) := by decide +kernel
theorem dX4_leave_31 : decode cX4_leave 31 = .ok (.aload_n 0, 1) := by decide +kernel
theorem dX4_leave_32 : decode cX4_leave 32 = .ok (.getfield 11, 3) := by decide +kernel
theorem dX4_leave_35 : decode cX4_leave 35 = .ok (.iload_n 2, 1) := by decide +kernel
theorem dX4_leave_36 : decode cX4_leave 36 = .ok (.iaload, 1) := by decide +kernel
theorem dX4_leave_37 : decode cX4_leave 37 = .ok (.iconst 1, 1) := by decide +kernel
theorem dX4_leave_38 : decode cX4_leave 38 = .ok (.iadd, 1) := by decide +kernel
theorem dX4_leave_39 : decode cX4_leave 39 = .ok (.istore 7, 2) := by decide +kernel
theorem dX4_leave_41 : decode cX4_leave 41 = .ok (.aload_n 1, 1) := by decide +kernel
theorem dX4_leave_42 : decode cX4_leave 42 = .ok (.getfield 37, 3) := by decide +kernel
theorem dX4_leave_45 : decode cX4_leave 45 = .ok (.iload_n 3, 1) := by decide +kernel
theorem dX4_leave_46 : decode cX4_leave 46 = .ok (.aaload, 1) := by decide +kernel
theorem dX4_leave_47 : decode cX4_leave 47 = .ok (.astore 8, 2) := by decide +kernel
theorem dX4_leave_49 : decode cX4_leave 49 = .ok (.aload_n 1, 1) := by decide +kernel
theorem dX4_leave_50 : decode cX4_leave 50 = .ok (.getfield 43, 3) := by decide +kernel
theorem dX4_leave_53 : decode cX4_leave 53 = .ok (.iload_n 3, 1) := by decide +kernel
theorem dX4_leave_54 : decode cX4_leave 54 = .ok (.aaload, 1) := by decide +kernel
theorem dX4_leave_55 : decode cX4_leave 55 = .ok (.astore 9, 2) := by decide +kernel
theorem dX4_leave_57 : decode cX4_leave 57 = .ok (.aload_n 1, 1) := by decide +kernel
theorem dX4_leave_58 : decode cX4_leave 58 = .ok (.getfield 46, 3) := by decide +kernel
theorem dX4_leave_61 : decode cX4_leave 61 = .ok (.iload_n 3, 1) := by decide +kernel
theorem dX4_leave_62 : decode cX4_leave 62 = .ok (.aaload, 1) := by decide +kernel
theorem dX4_leave_63 : decode cX4_leave 63 = .ok (.astore 10, 2) := by decide +kernel
theorem dX4_leave_65 : decode cX4_leave 65 = .ok (.iconst 0, 1) := by decide +kernel
theorem dX4_leave_66 : decode cX4_leave 66 = .ok (.istore 11, 2) := by decide +kernel
theorem dX4_leave_68 : decode cX4_leave 68 = .ok (.iload 11, 2) := by decide +kernel
theorem dX4_leave_70 : decode cX4_leave 70 = .ok (.aload_n 1, 1) := by decide +kernel
theorem dX4_leave_71 : decode cX4_leave 71 = .ok (.getfield 49, 3) := by decide +kernel
theorem dX4_leave_74 : decode cX4_leave 74 = .ok (.iload_n 3, 1) := by decide +kernel
theorem dX4_leave_75 : decode cX4_leave 75 = .ok (.iaload, 1) := by decide +kernel
theorem dX4_leave_76 : decode cX4_leave 76 = .ok (.if_icmp .ge 40, 3) := by decide +kernel
theorem dX4_leave_79 : decode cX4_leave 79 = .ok (.aload_n 0, 1) := by decide +kernel
theorem dX4_leave_80 : decode cX4_leave 80 = .ok (.aload_n 0, 1) := by decide +kernel
theorem dX4_leave_81 : decode cX4_leave 81 = .ok (.aload 8, 2) := by decide +kernel
theorem dX4_leave_83 : decode cX4_leave 83 = .ok (.iload 11, 2) := by decide +kernel
theorem dX4_leave_85 : decode cX4_leave 85 = .ok (.iaload, 1) := by decide +kernel
theorem dX4_leave_86 : decode cX4_leave 86 = .ok (.iload 5, 2) := by decide +kernel
theorem dX4_leave_88 : decode cX4_leave 88 = .ok (.aload 9, 2) := by decide +kernel
theorem dX4_leave_90 : decode cX4_leave 90 = .ok (.iload 11, 2) := by decide +kernel
theorem dX4_leave_92 : decode cX4_leave 92 = .ok (.iaload, 1) := by decide +kernel
theorem dX4_leave_93 : decode cX4_leave 93 = .ok (.iadd, 1) := by decide +kernel
theorem dX4_leave_94 : decode cX4_leave 94 = .ok (.iload 6, 2) := by decide +kernel
theorem dX4_leave_96 : decode cX4_leave 96 = .ok (.aload 10, 2) := by decide +kernel
theorem dX4_leave_98 : decode cX4_leave 98 = .ok (.iload 11, 2) := by decide +kernel
theorem dX4_leave_100 : decode cX4_leave 100 = .ok (.iaload, 1) := by decide +kernel
theorem dX4_leave_101 : decode cX4_leave 101 = .ok (.iadd, 1) := by decide +kernel
theorem dX4_leave_102 : decode cX4_leave 102 = .ok (.invokevirtual 52, 3) := by decide +kernel
theorem dX4_leave_105 : decode cX4_leave 105 = .ok (.iload 7, 2) := by decide +kernel
theorem dX4_leave_107 : decode cX4_leave 107 = .ok (.invokevirtual 25, 3) := by decide +kernel
theorem dX4_leave_110 : decode cX4_leave 110 = .ok (.iinc 11 1, 3) := by decide +kernel
theorem dX4_leave_113 : decode cX4_leave 113 = .ok (.goto (-45), 3) := by decide +kernel
theorem dX4_leave_116 : decode cX4_leave 116 = .ok (.return_, 1) := by decide +kernel
theorem dX4_nodesAfter_0 : decode cX4_nodesAfter 0 = .ok (.iconst 0, 1) := by decide +kernel
theorem dX4_nodesAfter_1 : decode cX4_nodesAfter 1 = .ok (.istore_n 2, 1) := by decide +kernel
theorem dX4_nodesAfter_2 : decode cX4_nodesAfter 2 = .ok (.aload_n 0, 1) := by decide +kernel
theorem dX4_nodesAfter_3 : decode cX4_nodesAfter 3 = .ok (.getfield 18, 3) := by decide +kernel
theorem dX4_nodesAfter_6 : decode cX4_nodesAfter 6 = .ok (.istore_n 3, 1) := by decide +kernel
theorem dX4_nodesAfter_7 : decode cX4_nodesAfter 7 = .ok (.iload_n 3, 1) := by decide +kernel
theorem dX4_nodesAfter_8 : decode cX4_nodesAfter 8 = .ok (.aload_n 0, 1) := by decide +kernel
theorem dX4_nodesAfter_9 : decode cX4_nodesAfter 9 = .ok (.getfield 22, 3) := by decide +kernel
theorem dX4_nodesAfter_12 : decode cX4_nodesAfter 12 = .ok (.if_icmp .ge 27, 3) := by decide +kernel
theorem dX4_nodesAfter_15 : decode cX4_nodesAfter 15 = .ok (.aload_n 0, 1) := by decide +kernel
theorem dX4_nodesAfter_16 : decode cX4_nodesAfter 16 = .ok (.getfield 11, 3) := by decide +kernel
theorem dX4_nodesAfter_19 : decode cX4_nodesAfter 19 = .ok (.aload_n 0, 1) := by decide +kernel
theorem dX4_nodesAfter_20 : decode cX4_nodesAfter 20 = .ok (.getfield 15, 3) := by decide +kernel
theorem dX4_nodesAfter_23 : decode cX4_nodesAfter 23 = .ok (.iload_n 3, 1) := by decide +kernel
theorem dX4_nodesAfter_24 : decode cX4_nodesAfter 24 = .ok (.iaload, 1) := by decide +kernel
theorem dX4_nodesAfter_25 : decode cX4_nodesAfter 25 = .ok (.iaload, 1) := by decide +kernel
theorem dX4_nodesAfter_26 : decode cX4_nodesAfter 26 = .ok (.iload_n 1, 1) := by decide +kernel
theorem dX4_nodesAfter_27 : decode cX4_nodesAfter 27 = .ok (.if_icmp .ne 6, 3) := by decide +kernel
theorem dX4_nodesAfter_30 : decode cX4_nodesAfter 30 = .ok (.iinc 2 1, 3) := by decide +kernel
theorem dX4_nodesAfter_33 : decode cX4_nodesAfter 33 = .ok (.iinc 3 1, 3) := by decide +kernel
theorem dX4_nodesAfter_36 : decode cX4_nodesAfter 36 = .ok (.goto (-29), 3) := by decide +kernel
theorem dX4_nodesAfter_39 : decode cX4_nodesAfter 39 = .ok (.iload_n 2, 1) := by decide +kernel
theorem dX4_nodesAfter_40 : decode cX4_nodesAfter 40 = .ok (.ireturn, 1) := by decide +kernel
set_option maxRecDepth 20000 in
theorem ggX5_init_X2_init : GoodIn wsX5_init wsX2_init := goodIn_r _ [30, 31, 2, 3, 32, 33, 4, 34, 35, 36, 37, 81, 82, 83, 84, 85, 86] (by decide +kernel) (by decide +kernel)
set_option maxRecDepth 20000 in
theorem gX5_init_X2_init_n15 : GoodIn wsX5_init (wsX2_init) := ggX5_init_X2_init
set_option maxRecDepth 20000 in
theorem ggX5_init_X1_init : GoodIn wsX5_init wsX1_init := goodIn_r _ [39, 40, 2, 3, 4, 41, 42, 43, 44, 45, 87, 88, 89, 90] (by decide +kernel) (by decide +kernel)
set_option maxRecDepth 20000 in
theorem gX5_init_X1_init_n33 : GoodIn wsX5_init (wsX1_init) := ggX5_init_X1_init
set_option maxRecDepth 20000 in
theorem ggX5_init_X4_init : GoodIn wsX5_init wsX4_init := goodIn_r _ [48, 49, 2, 3, 4, 50, 51, 52, 53, 91, 92, 93, 94] (by decide +kernel) (by decide +kernel)
set_option maxRecDepth 20000 in
theorem gX5_init_X4_init : GoodIn wsX5_init (wsX4_init) := ggX5_init_X4_init
set_option maxRecDepth 20000 in
theorem ggX5_init_X0_init : GoodIn wsX5_init wsX0_init := goodIn_r _ [55, 56, 2, 3, 57, 58, 4, 59, 60, 61, 62, 63, 95, 96, 97, 98, 99, 100] (by decide +kernel) (by decide +kernel)
set_option maxRecDepth 20000 in
theorem gX5_init_X0_init_n47 : GoodIn wsX5_init (wsX0_init) := ggX5_init_X0_init
set_option maxRecDepth 20000 in
theorem ggX5_init_X3_init : GoodIn wsX5_init wsX3_init := goodIn_r _ [65, 66, 2, 3, 67, 68, 69, 70, 71, 101, 102, 103] (by decide +kernel) (by decide +kernel)
set_option maxRecDepth 20000 in
theorem gX5_init_X3_init_n54 : GoodIn wsX5_init (wsX3_init) := ggX5_init_X3_init
