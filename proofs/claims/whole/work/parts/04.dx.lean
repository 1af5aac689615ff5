theorem dX5_init_0 : decode cX5_init 0 = .ok (.aload_n 0, 1) := by decide +kernel
theorem dX5_init_1 : decode cX5_init 1 = .ok (.invokespecial 1, 3) := by decide +kernel
theorem dX5_init_4 : decode cX5_init 4 = .ok (.aload_n 0, 1) := by decide +kernel
theorem dX5_init_5 : decode cX5_init 5 = .ok (.bipush 6, 2) := by decide +kernel
theorem dX5_init_7 : decode cX5_init 7 = .ok (.newarray .int, 2) := by decide +kernel
theorem dX5_init_9 : decode cX5_init 9 = .ok (.putfield 9, 3) := by decide +kernel
theorem dX5_init_12 : decode cX5_init 12 = .ok (.aload_n 0, 1) := by decide +kernel
theorem dX5_init_13 : decode cX5_init 13 = .ok (.new 13, 3) := by decide +kernel
theorem dX5_init_16 : decode cX5_init 16 = .ok (.dup, 1) := by decide +kernel
theorem dX5_init_17 : decode cX5_init 17 = .ok (.invokespecial 15, 3) := by decide +kernel
theorem dX5_init_20 : decode cX5_init 20 = .ok (.putfield 16, 3) := by decide +kernel
theorem dX5_init_23 : decode cX5_init 23 = .ok (.aload_n 0, 1) := by decide +kernel
theorem dX5_init_24 : decode cX5_init 24 = .ok (.new 13, 3) := by decide +kernel
theorem dX5_init_27 : decode cX5_init 27 = .ok (.dup, 1) := by decide +kernel
theorem dX5_init_28 : decode cX5_init 28 = .ok (.invokespecial 15, 3) := by decide +kernel
theorem dX5_init_31 : decode cX5_init 31 = .ok (.putfield 20, 3) := by decide +kernel
theorem dX5_init_34 : decode cX5_init 34 = .ok (.aload_n 0, 1) := by decide +kernel
theorem dX5_init_35 : decode cX5_init 35 = .ok (.iconst 5, 1) := by decide +kernel
theorem dX5_init_36 : decode cX5_init 36 = .ok (.anewarray 13, 3) := by decide +kernel
theorem dX5_init_39 : decode cX5_init 39 = .ok (.putfield 23, 3) := by decide +kernel
theorem dX5_init_42 : decode cX5_init 42 = .ok (.iconst 0, 1) := by decide +kernel
theorem dX5_init_43 : decode cX5_init 43 = .ok (.istore_n 1, 1) := by decide +kernel
theorem dX5_init_44 : decode cX5_init 44 = .ok (.iload_n 1, 1) := by decide +kernel
theorem dX5_init_45 : decode cX5_init 45 = .ok (.iconst 5, 1) := by decide +kernel
theorem dX5_init_46 : decode cX5_init 46 = .ok (.if_icmp .ge 22, 3) := by decide +kernel
theorem dX5_init_49 : decode cX5_init 49 = .ok (.aload_n 0, 1) := by decide +kernel
theorem dX5_init_50 : decode cX5_init 50 = .ok (.getfield 23, 3) := by decide +kernel
theorem dX5_init_53 : decode cX5_init 53 = .ok (.iload_n 1, 1) := by decide +kernel
theorem dX5_init_54 : decode cX5_init 54 = .ok (.new 13, 3) := by decide +kernel
theorem dX5_init_57 : decode cX5_init 57 = .ok (.dup, 1) := by decide +kernel
theorem dX5_init_58 : decode cX5_init 58 = .ok (.invokespecial 15, 3) := by decide +kernel
theorem dX5_init_61 : decode cX5_init 61 = .ok (.aastore, 1) := by decide +kernel
theorem dX5_init_62 : decode cX5_init 62 = .ok (.iinc 1 1, 3) := by decide +kernel
theorem dX5_init_65 : decode cX5_init 65 = .ok (.goto (-21), 3) := by decide +kernel
theorem dX5_init_68 : decode cX5_init 68 = .ok (.aload_n 0, 1) := by decide +kernel
theorem dX5_init_69 : decode cX5_init 69 = .ok (.iconst 0, 1) := by decide +kernel
theorem dX5_init_70 : decode cX5_init 70 = .ok (.putfield 27, 3) := by decide +kernel
theorem dX5_init_73 : decode cX5_init 73 = .ok (.aload_n 0, 1) := by decide +kernel
theorem dX5_init_74 : decode cX5_init 74 = .ok (.new 31, 3) := by decide +kernel
theorem dX5_init_77 : decode cX5_init 77 = .ok (.dup, 1) := by decide +kernel
theorem dX5_init_78 : decode cX5_init 78 = .ok (.invokespecial 33, 3) := by decide +kernel
theorem dX5_init_81 : decode cX5_init 81 = .ok (.putfield 34, 3) := by decide +kernel
theorem dX5_init_84 : decode cX5_init 84 = .ok (.aload_n 0, 1) := by decide +kernel
theorem dX5_init_85 : decode cX5_init 85 = .ok (.new 38, 3) := by decide +kernel
theorem dX5_init_88 : decode cX5_init 88 = .ok (.dup, 1) := by decide +kernel
theorem dX5_init_89 : decode cX5_init 89 = .ok (.invokespecial 40, 3) := by decide +kernel
theorem dX5_init_92 : decode cX5_init 92 = .ok (.putfield 41, 3) := by decide +kernel
theorem dX5_init_95 : decode cX5_init 95 = .ok (.aload_n 0, 1) := by decide +kernel
theorem dX5_init_96 : decode cX5_init 96 = .ok (.new 45, 3) := by decide +kernel
theorem dX5_init_99 : decode cX5_init 99 = .ok (.dup, 1) := by decide +kernel
theorem dX5_init_100 : decode cX5_init 100 = .ok (.invokespecial 47, 3) := by decide +kernel
theorem dX5_init_103 : decode cX5_init 103 = .ok (.putfield 48, 3) := by decide +kernel
theorem dX5_init_106 : decode cX5_init 106 = .ok (.aload_n 0, 1) := by decide +kernel
theorem dX5_init_107 : decode cX5_init 107 = .ok (.new 52, 3) := by decide +kernel
theorem dX5_init_110 : decode cX5_init 110 = .ok (.dup, 1) := by decide +kernel
theorem dX5_init_111 : decode cX5_init 111 = .ok (.invokespecial 54, 3) := by decide +kernel
theorem dX5_init_114 : decode cX5_init 114 = .ok (.putfield 55, 3) := by decide +kernel
theorem dX5_init_117 : decode cX5_init 117 = .ok (.return_, 1) := by decide +kernel
set_option maxRecDepth 20000 in
theorem ggX5_reset_X5_fail : GoodIn wsX5_reset wsX5_fail := goodIn_r _ [8, 9, 63, 64, 65, 66, 67, 68, 69, 70, 71] (by decide +kernel) (by decide +kernel)
set_option maxRecDepth 20000 in
theorem gX5_reset_X5_fail : GoodIn wsX5_reset (wsV RX5 59 RX5 yX5_fail wsX5_fail) := goodIn_app (goodIn_of _ (by decide +kernel)) ggX5_reset_X5_fail
set_option maxRecDepth 20000 in
theorem ggX5_reset_X2_clear : GoodIn wsX5_reset wsX2_clear := goodIn_r _ [14, 15, 16, 72, 73, 74, 75, 76, 77] (by decide +kernel) (by decide +kernel)
set_option maxRecDepth 20000 in
theorem gX5_reset_X2_clear : GoodIn wsX5_reset (wsV RX5 66 RX2 yX2_clear wsX2_clear) := goodIn_app (goodIn_of _ (by decide +kernel)) ggX5_reset_X2_clear
set_option maxRecDepth 20000 in
theorem ggX5_reset_X5_commitDraft : GoodIn wsX5_reset wsX5_commitDraft := goodIn_r _ [20, 1, 3, 21, 22, 23, 24, 7, 25, 26, 27, 28, 29, 30, 13, 31, 15, 16, 32, 33, 34, 35, 36, 11, 12, 14, 37, 38, 39, 40, 41, 42, 43, 44, 45, 46, 47, 48, 49, 50, 51, 52, 53, 54, 55, 56, 57, 58, 59, 60, 61, 62, 63, 64, 65, 66, 67, 68, 69, 70, 71, 72, 73, 74, 75, 76, 77, 78, 79, 80, 81] (by decide +kernel) (by decide +kernel)
set_option maxRecDepth 20000 in
theorem gX5_reset_X5_commitDraft : GoodIn wsX5_reset (wsV RX5 70 RX5 yX5_commitDraft wsX5_commitDraft) := goodIn_app (goodIn_of _ (by decide +kernel)) ggX5_reset_X5_commitDraft
theorem dX5_reset_0 : decode cX5_reset 0 = .ok (.iload_n 1, 1) := by decide +kernel
theorem dX5_reset_1 : decode cX5_reset 1 = .ok (.iconst 1, 1) := by decide +kernel
theorem dX5_reset_2 : decode cX5_reset 2 = .ok (.if_icmp .lt 9, 3) := by decide +kernel
theorem dX5_reset_5 : decode cX5_reset 5 = .ok (.iload_n 1, 1) := by decide +kernel
theorem dX5_reset_6 : decode cX5_reset 6 = .ok (.bipush 6, 2) := by decide +kernel
theorem dX5_reset_8 : decode cX5_reset 8 = .ok (.if_icmp .le 10, 3) := by decide +kernel
theorem dX5_reset_11 : decode cX5_reset 11 = .ok (.aload_n 0, 1) := by decide +kernel
theorem dX5_reset_12 : decode cX5_reset 12 = .ok (.bipush (-2), 2) := by decide +kernel
theorem dX5_reset_14 : decode cX5_reset 14 = .ok (.invokevirtual 59, 3) := by decide +kernel
theorem dX5_reset_17 : decode cX5_reset 17 = .ok (.ireturn, 1) := by decide +kernel
theorem dX5_reset_18 : decode cX5_reset 18 = .ok (.aload_n 0, 1) := by decide +kernel
theorem dX5_reset_19 : decode cX5_reset 19 = .ok (.getfield 16, 3) := by decide +kernel
theorem dX5_reset_22 : decode cX5_reset 22 = .ok (.getfield 63, 3) := by decide +kernel
theorem dX5_reset_25 : decode cX5_reset 25 = .ok (.istore_n 2, 1) := by decide +kernel
theorem dX5_reset_26 : decode cX5_reset 26 = .ok (.aload_n 0, 1) := by decide +kernel
theorem dX5_reset_27 : decode cX5_reset 27 = .ok (.getfield 20, 3) := by decide +kernel
theorem dX5_reset_30 : decode cX5_reset 30 = .ok (.iload_n 1, 1) := by decide +kernel
theorem dX5_reset_31 : decode cX5_reset 31 = .ok (.invokevirtual 66, 3) := by decide +kernel
theorem dX5_reset_34 : decode cX5_reset 34 = .ok (.aload_n 0, 1) := by decide +kernel
theorem dX5_reset_35 : decode cX5_reset 35 = .ok (.invokevirtual 70, 3) := by decide +kernel
theorem dX5_reset_38 : decode cX5_reset 38 = .ok (.iload_n 2, 1) := by decide +kernel
theorem dX5_reset_39 : decode cX5_reset 39 = .ok (.ireturn, 1) := by decide +kernel
set_option maxRecDepth 20000 in
theorem ggX5_addEdge_X5_isVertex : GoodIn wsX5_addEdge wsX5_isVertex := goodIn_r _ [8, 1, 9, 79, 80, 81, 82, 83, 84, 85, 86, 87, 88, 89, 90, 91, 92, 93] (by decide +kernel) (by decide +kernel)
set_option maxRecDepth 20000 in
theorem gX5_addEdge_X5_isVertex : GoodIn wsX5_addEdge (wsV RX5 73 RX5 yX5_isVertex wsX5_isVertex) := goodIn_app (goodIn_of _ (by decide +kernel)) ggX5_addEdge_X5_isVertex
set_option maxRecDepth 20000 in
theorem ggX5_addEdge_X5_isShift : GoodIn wsX5_addEdge wsX5_isShift := goodIn_r _ [12] (by decide +kernel) (by decide +kernel)
set_option maxRecDepth 20000 in
theorem gX5_addEdge_X5_isShift : GoodIn wsX5_addEdge (va_wsS RX5 77 yX5_isShift wsX5_isShift) := goodIn_app (goodIn_of _ (by decide +kernel)) ggX5_addEdge_X5_isShift
set_option maxRecDepth 20000 in
theorem ggX5_addEdge_X5_fail : GoodIn wsX5_addEdge wsX5_fail := goodIn_r _ [16, 17, 79, 80, 81, 82, 83, 84, 85, 86, 87] (by decide +kernel) (by decide +kernel)
set_option maxRecDepth 20000 in
theorem gX5_addEdge_X5_fail : GoodIn wsX5_addEdge (wsV RX5 59 RX5 yX5_fail wsX5_fail) := goodIn_app (goodIn_of _ (by decide +kernel)) ggX5_addEdge_X5_fail
set_option maxRecDepth 20000 in
theorem ggX5_addEdge_X2_edgeBetween : GoodIn wsX5_addEdge wsX2_edgeBetween := goodIn_r _ [22, 23, 24, 25, 26, 21, 27, 28, 29, 30, 31, 88, 89, 90, 91, 92, 93] (by decide +kernel) (by decide +kernel)
set_option maxRecDepth 20000 in
theorem gX5_addEdge_X2_edgeBetween : GoodIn wsX5_addEdge (wsV RX5 80 RX2 yX2_edgeBetween wsX2_edgeBetween) := goodIn_app (goodIn_of _ (by decide +kernel)) ggX5_addEdge_X2_edgeBetween
set_option maxRecDepth 20000 in
theorem ggX5_addEdge_X2_copyFrom : GoodIn wsX5_addEdge wsX2_copyFrom := goodIn_r _ [35, 36, 23, 28, 29, 30, 31, 37, 38, 39, 21, 40, 41, 42, 43, 44, 45, 46, 47, 48, 88, 89, 90, 91, 92, 93] (by decide +kernel) (by decide +kernel)
set_option maxRecDepth 20000 in
theorem gX5_addEdge_X2_copyFrom : GoodIn wsX5_addEdge (wsV RX5 87 RX2 yX2_copyFrom wsX2_copyFrom) := goodIn_app (goodIn_of _ (by decide +kernel)) ggX5_addEdge_X2_copyFrom
set_option maxRecDepth 20000 in
theorem ggX5_addEdge_X2_append : GoodIn wsX5_addEdge wsX2_append := goodIn_r _ [44, 23, 45, 46, 47, 21, 48, 28, 29, 30, 31, 88, 89, 90, 91, 92, 93] (by decide +kernel) (by decide +kernel)
set_option maxRecDepth 20000 in
theorem gX5_addEdge_X2_append : GoodIn wsX5_addEdge (wsV RX5 91 RX2 yX2_append wsX2_append) := goodIn_app (goodIn_of _ (by decide +kernel)) ggX5_addEdge_X2_append
set_option maxRecDepth 20000 in
theorem ggX5_addEdge_X5_commitDraft : GoodIn wsX5_addEdge wsX5_commitDraft := goodIn_r _ [53, 1, 3, 54, 55, 56, 57, 7, 58, 59, 60, 32, 33, 34, 21, 35, 36, 23, 28, 29, 30, 31, 37, 38, 39, 40, 41, 42, 43, 44, 45, 46, 47, 48, 61, 62, 63, 64, 65, 66, 67, 68, 69, 70, 71, 72, 73, 74, 75, 76, 77, 78, 79, 80, 81, 82, 83, 84, 85, 86, 87, 88, 89, 90, 91, 92, 93, 94, 95, 96, 97] (by decide +kernel) (by decide +kernel)
set_option maxRecDepth 20000 in
theorem gX5_addEdge_X5_commitDraft : GoodIn wsX5_addEdge (wsV RX5 70 RX5 yX5_commitDraft wsX5_commitDraft) := goodIn_app (goodIn_of _ (by decide +kernel)) ggX5_addEdge_X5_commitDraft
theorem dX5_addEdge_0 : decode cX5_addEdge 0 = .ok (.aload_n 0, 1) := by decide +kernel
theorem dX5_addEdge_1 : decode cX5_addEdge 1 = .ok (.iload_n 1, 1) := by decide +kernel
theorem dX5_addEdge_2 : decode cX5_addEdge 2 = .ok (.invokevirtual 73, 3) := by decide +kernel
theorem dX5_addEdge_5 : decode cX5_addEdge 5 = .ok (.ifCond .eq 26, 3) := by decide +kernel
theorem dX5_addEdge_8 : decode cX5_addEdge 8 = .ok (.aload_n 0, 1) := by decide +kernel
theorem dX5_addEdge_9 : decode cX5_addEdge 9 = .ok (.iload_n 2, 1) := by decide +kernel
theorem dX5_addEdge_10 : decode cX5_addEdge 10 = .ok (.invokevirtual 73, 3) := by decide +kernel
theorem dX5_addEdge_13 : decode cX5_addEdge 13 = .ok (.ifCond .eq 18, 3) := by decide +kernel
theorem dX5_addEdge_16 : decode cX5_addEdge 16 = .ok (.iload_n 3, 1) := by decide +kernel
theorem dX5_addEdge_17 : decode cX5_addEdge 17 = .ok (.invokestatic 77, 3) := by decide +kernel
theorem dX5_addEdge_20 : decode cX5_addEdge 20 = .ok (.ifCond .eq 11, 3) := by decide +kernel
theorem dX5_addEdge_23 : decode cX5_addEdge 23 = .ok (.iload 4, 2) := by decide +kernel
theorem dX5_addEdge_25 : decode cX5_addEdge 25 = .ok (.invokestatic 77, 3) := by decide +kernel
theorem dX5_addEdge_28 : decode cX5_addEdge 28 = .ok (.ifCond .ne 10, 3) := by decide +kernel
theorem dX5_addEdge_31 : decode cX5_addEdge 31 = .ok (.aload_n 0, 1) := by decide +kernel
theorem dX5_addEdge_32 : decode cX5_addEdge 32 = .ok (.bipush (-2), 2) := by decide +kernel
theorem dX5_addEdge_34 : decode cX5_addEdge 34 = .ok (.invokevirtual 59, 3) := by decide +kernel
theorem dX5_addEdge_37 : decode cX5_addEdge 37 = .ok (.ireturn, 1) := by decide +kernel
theorem dX5_addEdge_38 : decode cX5_addEdge 38 = .ok (.iload_n 1, 1) := by decide +kernel
theorem dX5_addEdge_39 : decode cX5_addEdge 39 = .ok (.iload_n 2, 1) := by decide +kernel
theorem dX5_addEdge_40 : decode cX5_addEdge 40 = .ok (.if_icmp .ne 19, 3) := by decide +kernel
theorem dX5_addEdge_43 : decode cX5_addEdge 43 = .ok (.iload_n 3, 1) := by decide +kernel
theorem dX5_addEdge_44 : decode cX5_addEdge 44 = .ok (.ifCond .ne 15, 3) := by decide +kernel
theorem dX5_addEdge_47 : decode cX5_addEdge 47 = .ok (.iload 4, 2) := by decide +kernel
theorem dX5_addEdge_49 : decode cX5_addEdge 49 = .ok (.ifCond .ne 10, 3) := by decide +kernel
theorem dX5_addEdge_52 : decode cX5_addEdge 52 = .ok (.aload_n 0, 1) := by decide +kernel
theorem dX5_addEdge_53 : decode cX5_addEdge 53 = .ok (.bipush (-2), 2) := by decide +kernel
theorem dX5_addEdge_55 : decode cX5_addEdge 55 = .ok (.invokevirtual 59, 3) := by decide +kernel
theorem dX5_addEdge_58 : decode cX5_addEdge 58 = .ok (.ireturn, 1) := by decide +kernel
theorem dX5_addEdge_59 : decode cX5_addEdge 59 = .ok (.aload_n 0, 1) := by decide +kernel
theorem dX5_addEdge_60 : decode cX5_addEdge 60 = .ok (.getfield 16, 3) := by decide +kernel
theorem dX5_addEdge_63 : decode cX5_addEdge 63 = .ok (.iload_n 1, 1) := by decide +kernel
theorem dX5_addEdge_64 : decode cX5_addEdge 64 = .ok (.iload_n 2, 1) := by decide +kernel
theorem dX5_addEdge_65 : decode cX5_addEdge 65 = .ok (.iload_n 3, 1) := by decide +kernel
theorem dX5_addEdge_66 : decode cX5_addEdge 66 = .ok (.iload 4, 2) := by decide +kernel
theorem dX5_addEdge_68 : decode cX5_addEdge 68 = .ok (.invokevirtual 80, 3) := by decide +kernel
theorem dX5_addEdge_71 : decode cX5_addEdge 71 = .ok (.iconst (-1), 1) := by decide +kernel
theorem dX5_addEdge_72 : decode cX5_addEdge 72 = .ok (.if_icmp .eq 10, 3) := by decide +kernel
theorem dX5_addEdge_75 : decode cX5_addEdge 75 = .ok (.aload_n 0, 1) := by decide +kernel
theorem dX5_addEdge_76 : decode cX5_addEdge 76 = .ok (.bipush (-3), 2) := by decide +kernel
theorem dX5_addEdge_78 : decode cX5_addEdge 78 = .ok (.invokevirtual 59, 3) := by decide +kernel
theorem dX5_addEdge_81 : decode cX5_addEdge 81 = .ok (.ireturn, 1) := by decide +kernel
theorem dX5_addEdge_82 : decode cX5_addEdge 82 = .ok (.aload_n 0, 1) := by decide +kernel
theorem dX5_addEdge_83 : decode cX5_addEdge 83 = .ok (.getfield 16, 3) := by decide +kernel
theorem dX5_addEdge_86 : decode cX5_addEdge 86 = .ok (.getfield 84, 3) := by decide +kernel
theorem dX5_addEdge_89 : decode cX5_addEdge 89 = .ok (.bipush 12, 2) := by decide +kernel
theorem dX5_addEdge_91 : decode cX5_addEdge 91 = .ok (.if_icmp .lt 10, 3) := by decide +kernel
theorem dX5_addEdge_94 : decode cX5_addEdge 94 = .ok (.aload_n 0, 1) := by decide +kernel
theorem dX5_addEdge_95 : decode cX5_addEdge 95 = .ok (.bipush (-4), 2) := by decide +kernel
theorem dX5_addEdge_97 : decode cX5_addEdge 97 = .ok (.invokevirtual 59, 3) := by decide +kernel
theorem dX5_addEdge_100 : decode cX5_addEdge 100 = .ok (.ireturn, 1) := by decide +kernel
theorem dX5_addEdge_101 : decode cX5_addEdge 101 = .ok (.aload_n 0, 1) := by decide +kernel
theorem dX5_addEdge_102 : decode cX5_addEdge 102 = .ok (.getfield 20, 3) := by decide +kernel
theorem dX5_addEdge_105 : decode cX5_addEdge 105 = .ok (.aload_n 0, 1) := by decide +kernel
theorem dX5_addEdge_106 : decode cX5_addEdge 106 = .ok (.getfield 16, 3) := by decide +kernel
theorem dX5_addEdge_109 : decode cX5_addEdge 109 = .ok (.invokevirtual 87, 3) := by decide +kernel
theorem dX5_addEdge_112 : decode cX5_addEdge 112 = .ok (.aload_n 0, 1) := by decide +kernel
theorem dX5_addEdge_113 : decode cX5_addEdge 113 = .ok (.getfield 20, 3) := by decide +kernel
theorem dX5_addEdge_116 : decode cX5_addEdge 116 = .ok (.iload_n 1, 1) := by decide +kernel
theorem dX5_addEdge_117 : decode cX5_addEdge 117 = .ok (.iload_n 2, 1) := by decide +kernel
theorem dX5_addEdge_118 : decode cX5_addEdge 118 = .ok (.iload_n 3, 1) := by decide +kernel
theorem dX5_addEdge_119 : decode cX5_addEdge 119 = .ok (.iload 4, 2) := by decide +kernel
theorem dX5_addEdge_121 : decode cX5_addEdge 121 = .ok (.invokevirtual 91, 3) := by decide +kernel
theorem dX5_addEdge_124 : decode cX5_addEdge 124 = .ok (.aload_n 0, 1) := by decide +kernel
theorem dX5_addEdge_125 : decode cX5_addEdge 125 = .ok (.invokevirtual 70, 3) := by decide +kernel
theorem dX5_addEdge_128 : decode cX5_addEdge 128 = .ok (.aload_n 0, 1) := by decide +kernel
theorem dX5_addEdge_129 : decode cX5_addEdge 129 = .ok (.getfield 16, 3) := by decide +kernel
theorem dX5_addEdge_132 : decode cX5_addEdge 132 = .ok (.getfield 84, 3) := by decide +kernel
theorem dX5_addEdge_135 : decode cX5_addEdge 135 = .ok (.iconst 1, 1) := by decide +kernel
theorem dX5_addEdge_136 : decode cX5_addEdge 136 = .ok (.isub, 1) := by decide +kernel
theorem dX5_addEdge_137 : decode cX5_addEdge 137 = .ok (.ireturn, 1) := by decide +kernel
set_option maxRecDepth 20000 in
theorem ggX5_removeEdge_X5_fail : GoodIn wsX5_removeEdge wsX5_fail := goodIn_r _ [8, 9, 66, 67, 68, 69, 70, 71, 72, 73, 74] (by decide +kernel) (by decide +kernel)
set_option maxRecDepth 20000 in
theorem gX5_removeEdge_X5_fail : GoodIn wsX5_removeEdge (wsV RX5 59 RX5 yX5_fail wsX5_fail) := goodIn_app (goodIn_of _ (by decide +kernel)) ggX5_removeEdge_X5_fail
set_option maxRecDepth 20000 in
theorem ggX5_removeEdge_X2_copyFrom : GoodIn wsX5_removeEdge wsX2_copyFrom := goodIn_r _ [14, 15, 16, 17, 18, 19, 20, 21, 22, 23, 13, 24, 25, 26, 27, 28, 29, 30, 31, 32, 75, 76, 77, 78, 79, 80] (by decide +kernel) (by decide +kernel)
set_option maxRecDepth 20000 in
theorem gX5_removeEdge_X2_copyFrom : GoodIn wsX5_removeEdge (wsV RX5 87 RX2 yX2_copyFrom wsX2_copyFrom) := goodIn_app (goodIn_of _ (by decide +kernel)) ggX5_removeEdge_X2_copyFrom
set_option maxRecDepth 20000 in
theorem ggX5_removeEdge_X2_dropEdge : GoodIn wsX5_removeEdge wsX2_dropEdge := goodIn_r _ [36, 16, 17, 18, 19, 20, 29, 30, 31, 13, 32, 75, 76, 77, 78, 79, 80] (by decide +kernel) (by decide +kernel)
set_option maxRecDepth 20000 in
theorem gX5_removeEdge_X2_dropEdge : GoodIn wsX5_removeEdge (wsV RX5 95 RX2 yX2_dropEdge wsX2_dropEdge) := goodIn_app (goodIn_of _ (by decide +kernel)) ggX5_removeEdge_X2_dropEdge
set_option maxRecDepth 20000 in
theorem ggX5_removeEdge_X5_commitDraft : GoodIn wsX5_removeEdge wsX5_commitDraft := goodIn_r _ [40, 1, 3, 41, 42, 43, 44, 7, 45, 46, 47, 10, 11, 12, 13, 14, 15, 16, 17, 18, 19, 20, 21, 22, 23, 24, 25, 26, 27, 28, 29, 30, 31, 32, 48, 49, 50, 51, 52, 53, 54, 55, 56, 57, 58, 59, 60, 61, 62, 63, 64, 65, 66, 67, 68, 69, 70, 71, 72, 73, 74, 75, 76, 77, 78, 79, 80, 81, 82, 83, 84] (by decide +kernel) (by decide +kernel)
set_option maxRecDepth 20000 in
theorem gX5_removeEdge_X5_commitDraft : GoodIn wsX5_removeEdge (wsV RX5 70 RX5 yX5_commitDraft wsX5_commitDraft) := goodIn_app (goodIn_of _ (by decide +kernel)) ggX5_removeEdge_X5_commitDraft
theorem dX5_removeEdge_0 : decode cX5_removeEdge 0 = .ok (.iload_n 1, 1) := by decide +kernel
theorem dX5_removeEdge_1 : decode cX5_removeEdge 1 = .ok (.ifCond .lt 14, 3) := by decide +kernel
theorem dX5_removeEdge_4 : decode cX5_removeEdge 4 = .ok (.iload_n 1, 1) := by decide +kernel
theorem dX5_removeEdge_5 : decode cX5_removeEdge 5 = .ok (.aload_n 0, 1) := by decide +kernel
theorem dX5_removeEdge_6 : decode cX5_removeEdge 6 = .ok (.getfield 16, 3) := by decide +kernel
theorem dX5_removeEdge_9 : decode cX5_removeEdge 9 = .ok (.getfield 84, 3) := by decide +kernel
theorem dX5_removeEdge_12 : decode cX5_removeEdge 12 = .ok (.if_icmp .lt 10, 3) := by decide +kernel
theorem dX5_removeEdge_15 : decode cX5_removeEdge 15 = .ok (.aload_n 0, 1) := by decide +kernel
theorem dX5_removeEdge_16 : decode cX5_removeEdge 16 = .ok (.bipush (-2), 2) := by decide +kernel
theorem dX5_removeEdge_18 : decode cX5_removeEdge 18 = .ok (.invokevirtual 59, 3) := by decide +kernel
theorem dX5_removeEdge_21 : decode cX5_removeEdge 21 = .ok (.ireturn, 1) := by decide +kernel
theorem dX5_removeEdge_22 : decode cX5_removeEdge 22 = .ok (.aload_n 0, 1) := by decide +kernel
theorem dX5_removeEdge_23 : decode cX5_removeEdge 23 = .ok (.getfield 20, 3) := by decide +kernel
theorem dX5_removeEdge_26 : decode cX5_removeEdge 26 = .ok (.aload_n 0, 1) := by decide +kernel
theorem dX5_removeEdge_27 : decode cX5_removeEdge 27 = .ok (.getfield 16, 3) := by decide +kernel
theorem dX5_removeEdge_30 : decode cX5_removeEdge 30 = .ok (.invokevirtual 87, 3) := by decide +kernel
theorem dX5_removeEdge_33 : decode cX5_removeEdge 33 = .ok (.aload_n 0, 1) := by decide +kernel
theorem dX5_removeEdge_34 : decode cX5_removeEdge 34 = .ok (.getfield 20, 3) := by decide +kernel
theorem dX5_removeEdge_37 : decode cX5_removeEdge 37 = .ok (.iload_n 1, 1) := by decide +kernel
theorem dX5_removeEdge_38 : decode cX5_removeEdge 38 = .ok (.invokevirtual 95, 3) := by decide +kernel
theorem dX5_removeEdge_41 : decode cX5_removeEdge 41 = .ok (.aload_n 0, 1) := by decide +kernel
theorem dX5_removeEdge_42 : decode cX5_removeEdge 42 = .ok (.invokevirtual 70, 3) := by decide +kernel
theorem dX5_removeEdge_45 : decode cX5_removeEdge 45 = .ok (.aload_n 0, 1) := by decide +kernel
theorem dX5_removeEdge_46 : decode cX5_removeEdge 46 = .ok (.getfield 16, 3) := by decide +kernel
theorem dX5_removeEdge_49 : decode cX5_removeEdge 49 = .ok (.getfield 84, 3) := by decide +kernel
theorem dX5_removeEdge_52 : decode cX5_removeEdge 52 = .ok (.ireturn, 1) := by decide +kernel
set_option maxRecDepth 20000 in
theorem ggX5_findEdge_X5_isVertex : GoodIn wsX5_findEdge wsX5_isVertex := goodIn_r _ [6, 1, 7, 27, 28, 29, 30, 31, 32, 33, 34, 35, 36, 37, 38, 39, 40, 41] (by decide +kernel) (by decide +kernel)
set_option maxRecDepth 20000 in
theorem gX5_findEdge_X5_isVertex : GoodIn wsX5_findEdge (wsV RX5 73 RX5 yX5_isVertex wsX5_isVertex) := goodIn_app (goodIn_of _ (by decide +kernel)) ggX5_findEdge_X5_isVertex
set_option maxRecDepth 20000 in
theorem ggX5_findEdge_X5_fail : GoodIn wsX5_findEdge wsX5_fail := goodIn_r _ [11, 12, 27, 28, 29, 30, 31, 32, 33, 34, 35] (by decide +kernel) (by decide +kernel)
set_option maxRecDepth 20000 in
theorem gX5_findEdge_X5_fail : GoodIn wsX5_findEdge (wsV RX5 59 RX5 yX5_fail wsX5_fail) := goodIn_app (goodIn_of _ (by decide +kernel)) ggX5_findEdge_X5_fail
set_option maxRecDepth 20000 in
theorem ggX5_findEdge_X2_edgeBetween : GoodIn wsX5_findEdge wsX2_edgeBetween := goodIn_r _ [17, 18, 19, 20, 21, 16, 22, 23, 24, 25, 26, 36, 37, 38, 39, 40, 41] (by decide +kernel) (by decide +kernel)
set_option maxRecDepth 20000 in
theorem gX5_findEdge_X2_edgeBetween : GoodIn wsX5_findEdge (wsV RX5 80 RX2 yX2_edgeBetween wsX2_edgeBetween) := goodIn_app (goodIn_of _ (by decide +kernel)) ggX5_findEdge_X2_edgeBetween
theorem dX5_findEdge_0 : decode cX5_findEdge 0 = .ok (.aload_n 0, 1) := by decide +kernel
theorem dX5_findEdge_1 : decode cX5_findEdge 1 = .ok (.iload_n 1, 1) := by decide +kernel
theorem dX5_findEdge_2 : decode cX5_findEdge 2 = .ok (.invokevirtual 73, 3) := by decide +kernel
theorem dX5_findEdge_5 : decode cX5_findEdge 5 = .ok (.ifCond .eq 11, 3) := by decide +kernel
theorem dX5_findEdge_8 : decode cX5_findEdge 8 = .ok (.aload_n 0, 1) := by decide +kernel
theorem dX5_findEdge_9 : decode cX5_findEdge 9 = .ok (.iload_n 2, 1) := by decide +kernel
theorem dX5_findEdge_10 : decode cX5_findEdge 10 = .ok (.invokevirtual 73, 3) := by decide +kernel
theorem dX5_findEdge_13 : decode cX5_findEdge 13 = .ok (.ifCond .ne 10, 3) := by decide +kernel
theorem dX5_findEdge_16 : decode cX5_findEdge 16 = .ok (.aload_n 0, 1) := by decide +kernel
theorem dX5_findEdge_17 : decode cX5_findEdge 17 = .ok (.bipush (-2), 2) := by decide +kernel
theorem dX5_findEdge_19 : decode cX5_findEdge 19 = .ok (.invokevirtual 59, 3) := by decide +kernel
theorem dX5_findEdge_22 : decode cX5_findEdge 22 = .ok (.ireturn, 1) := by decide +kernel
theorem dX5_findEdge_23 : decode cX5_findEdge 23 = .ok (.aload_n 0, 1) := by decide +kernel
theorem dX5_findEdge_24 : decode cX5_findEdge 24 = .ok (.getfield 16, 3) := by decide +kernel
theorem dX5_findEdge_27 : decode cX5_findEdge 27 = .ok (.iload_n 1, 1) := by decide +kernel
theorem dX5_findEdge_28 : decode cX5_findEdge 28 = .ok (.iload_n 2, 1) := by decide +kernel
theorem dX5_findEdge_29 : decode cX5_findEdge 29 = .ok (.iload_n 3, 1) := by decide +kernel
theorem dX5_findEdge_30 : decode cX5_findEdge 30 = .ok (.iload 4, 2) := by decide +kernel
theorem dX5_findEdge_32 : decode cX5_findEdge 32 = .ok (.invokevirtual 80, 3) := by decide +kernel
theorem dX5_findEdge_35 : decode cX5_findEdge 35 = .ok (.ireturn, 1) := by decide +kernel
set_option maxRecDepth 20000 in
theorem ggX5_moveVertex_X5_isVertex : GoodIn wsX5_moveVertex wsX5_isVertex := goodIn_r _ [7, 2, 8, 85, 86, 87, 88, 89, 90, 91, 92, 93, 94, 95, 96, 97, 98, 99] (by decide +kernel) (by decide +kernel)
set_option maxRecDepth 20000 in
theorem gX5_moveVertex_X5_isVertex : GoodIn wsX5_moveVertex (wsV RX5 73 RX5 yX5_isVertex wsX5_isVertex) := goodIn_app (goodIn_of _ (by decide +kernel)) ggX5_moveVertex_X5_isVertex
set_option maxRecDepth 20000 in
theorem ggX5_moveVertex_X5_isShift : GoodIn wsX5_moveVertex wsX5_isShift := goodIn_r _ [11] (by decide +kernel) (by decide +kernel)
set_option maxRecDepth 20000 in
theorem gX5_moveVertex_X5_isShift : GoodIn wsX5_moveVertex (va_wsS RX5 77 yX5_isShift wsX5_isShift) := goodIn_app (goodIn_of _ (by decide +kernel)) ggX5_moveVertex_X5_isShift
set_option maxRecDepth 20000 in
theorem ggX5_moveVertex_X5_fail : GoodIn wsX5_moveVertex wsX5_fail := goodIn_r _ [15, 16, 85, 86, 87, 88, 89, 90, 91, 92, 93] (by decide +kernel) (by decide +kernel)
set_option maxRecDepth 20000 in
theorem gX5_moveVertex_X5_fail : GoodIn wsX5_moveVertex (wsV RX5 59 RX5 yX5_fail wsX5_fail) := goodIn_app (goodIn_of _ (by decide +kernel)) ggX5_moveVertex_X5_fail
set_option maxRecDepth 20000 in
theorem ggX5_moveVertex_X2_copyFrom : GoodIn wsX5_moveVertex wsX2_copyFrom := goodIn_r _ [21, 22, 23, 24, 25, 26, 27, 28, 29, 30, 20, 31, 32, 33, 34, 35, 36, 37, 38, 39, 94, 95, 96, 97, 98, 99] (by decide +kernel) (by decide +kernel)
set_option maxRecDepth 20000 in
theorem gX5_moveVertex_X2_copyFrom : GoodIn wsX5_moveVertex (wsV RX5 87 RX2 yX2_copyFrom wsX2_copyFrom) := goodIn_app (goodIn_of _ (by decide +kernel)) ggX5_moveVertex_X2_copyFrom
set_option maxRecDepth 20000 in
theorem ggX5_moveVertex_X2_renameNodes : GoodIn wsX5_moveVertex wsX2_renameNodes := goodIn_r _ [43, 23, 24, 26, 27, 25, 94, 95, 96, 97, 98, 99] (by decide +kernel) (by decide +kernel)
set_option maxRecDepth 20000 in
theorem gX5_moveVertex_X2_renameNodes : GoodIn wsX5_moveVertex (wsV RX5 98 RX2 yX2_renameNodes wsX2_renameNodes) := goodIn_app (goodIn_of _ (by decide +kernel)) ggX5_moveVertex_X2_renameNodes
set_option maxRecDepth 20000 in
theorem ggX5_moveVertex_X5_commitShifts : GoodIn wsX5_moveVertex wsX5_commitShifts := goodIn_r _ [47, 1, 2, 48, 49, 50, 20, 51, 23, 26, 27, 10, 6, 11, 12, 13, 14, 15, 16, 52, 53, 54, 55, 56, 57, 58, 59, 60, 61, 62, 63, 64, 65, 66, 17, 18, 19, 21, 22, 24, 25, 28, 29, 30, 31, 32, 33, 34, 35, 36, 37, 38, 39, 67, 68, 69, 70, 71, 72, 73, 74, 75, 76, 77, 78, 79, 80, 81, 82, 83, 84, 85, 86, 87, 88, 89, 90, 91, 92, 93, 94, 95, 96, 97, 98, 99, 100, 101, 102, 103] (by decide +kernel) (by decide +kernel)
set_option maxRecDepth 20000 in
theorem gX5_moveVertex_X5_commitShifts : GoodIn wsX5_moveVertex (wsV RX5 102 RX5 yX5_commitShifts wsX5_commitShifts) := goodIn_app (goodIn_of _ (by decide +kernel)) ggX5_moveVertex_X5_commitShifts
theorem dX5_moveVertex_0 : decode cX5_moveVertex 0 = .ok (.aload_n 0, 1) := by decide +kernel
theorem dX5_moveVertex_1 : decode cX5_moveVertex 1 = .ok (.iload_n 1, 1) := by decide +kernel
theorem dX5_moveVertex_2 : decode cX5_moveVertex 2 = .ok (.invokevirtual 73, 3) := by decide +kernel
theorem dX5_moveVertex_5 : decode cX5_moveVertex 5 = .ok (.ifCond .eq 17, 3) := by decide +kernel
theorem dX5_moveVertex_8 : decode cX5_moveVertex 8 = .ok (.iload_n 2, 1) := by decide +kernel
theorem dX5_moveVertex_9 : decode cX5_moveVertex 9 = .ok (.invokestatic 77, 3) := by decide +kernel
theorem dX5_moveVertex_12 : decode cX5_moveVertex 12 = .ok (.ifCond .eq 10, 3) := by decide +kernel
theorem dX5_moveVertex_15 : decode cX5_moveVertex 15 = .ok (.iload_n 3, 1) := by decide +kernel
theorem dX5_moveVertex_16 : decode cX5_moveVertex 16 = .ok (.invokestatic 77, 3) := by decide +kernel
theorem dX5_moveVertex_19 : decode cX5_moveVertex 19 = .ok (.ifCond .ne 10, 3) := by decide +kernel
theorem dX5_moveVertex_22 : decode cX5_moveVertex 22 = .ok (.aload_n 0, 1) := by decide +kernel
theorem dX5_moveVertex_23 : decode cX5_moveVertex 23 = .ok (.bipush (-2), 2) := by decide +kernel
theorem dX5_moveVertex_25 : decode cX5_moveVertex 25 = .ok (.invokevirtual 59, 3) := by decide +kernel
theorem dX5_moveVertex_28 : decode cX5_moveVertex 28 = .ok (.ireturn, 1) := by decide +kernel
theorem dX5_moveVertex_29 : decode cX5_moveVertex 29 = .ok (.aload_n 0, 1) := by decide +kernel
theorem dX5_moveVertex_30 : decode cX5_moveVertex 30 = .ok (.getfield 20, 3) := by decide +kernel
theorem dX5_moveVertex_33 : decode cX5_moveVertex 33 = .ok (.aload_n 0, 1) := by decide +kernel
theorem dX5_moveVertex_34 : decode cX5_moveVertex 34 = .ok (.getfield 16, 3) := by decide +kernel
theorem dX5_moveVertex_37 : decode cX5_moveVertex 37 = .ok (.invokevirtual 87, 3) := by decide +kernel
theorem dX5_moveVertex_40 : decode cX5_moveVertex 40 = .ok (.aload_n 0, 1) := by decide +kernel
theorem dX5_moveVertex_41 : decode cX5_moveVertex 41 = .ok (.getfield 20, 3) := by decide +kernel
theorem dX5_moveVertex_44 : decode cX5_moveVertex 44 = .ok (.iload_n 1, 1) := by decide +kernel
theorem dX5_moveVertex_45 : decode cX5_moveVertex 45 = .ok (.iload_n 2, 1) := by decide +kernel
theorem dX5_moveVertex_46 : decode cX5_moveVertex 46 = .ok (.iload_n 3, 1) := by decide +kernel
theorem dX5_moveVertex_47 : decode cX5_moveVertex 47 = .ok (.invokevirtual 98, 3) := by decide +kernel
theorem dX5_moveVertex_50 : decode cX5_moveVertex 50 = .ok (.aload_n 0, 1) := by decide +kernel
theorem dX5_moveVertex_51 : decode cX5_moveVertex 51 = .ok (.invokevirtual 102, 3) := by decide +kernel
theorem dX5_moveVertex_54 : decode cX5_moveVertex 54 = .ok (.ireturn, 1) := by decide +kernel
set_option maxRecDepth 20000 in
theorem ggX5_changeBasis_X5_fail : GoodIn wsX5_changeBasis wsX5_fail := goodIn_r _ [7, 8, 79, 80, 81, 82, 83, 84, 85, 86, 87] (by decide +kernel) (by decide +kernel)
set_option maxRecDepth 20000 in
theorem gX5_changeBasis_X5_fail : GoodIn wsX5_changeBasis (wsV RX5 59 RX5 yX5_fail wsX5_fail) := goodIn_app (goodIn_of _ (by decide +kernel)) ggX5_changeBasis_X5_fail
set_option maxRecDepth 20000 in
theorem ggX5_changeBasis_X2_copyFrom : GoodIn wsX5_changeBasis wsX2_copyFrom := goodIn_r _ [13, 14, 15, 16, 17, 18, 19, 20, 21, 22, 12, 23, 24, 25, 26, 27, 28, 29, 30, 31, 88, 89, 90, 91, 92, 93] (by decide +kernel) (by decide +kernel)
set_option maxRecDepth 20000 in
theorem gX5_changeBasis_X2_copyFrom : GoodIn wsX5_changeBasis (wsV RX5 87 RX2 yX2_copyFrom wsX2_copyFrom) := goodIn_app (goodIn_of _ (by decide +kernel)) ggX5_changeBasis_X2_copyFrom
set_option maxRecDepth 20000 in
theorem ggX5_changeBasis_X2_turnShifts : GoodIn wsX5_changeBasis wsX2_turnShifts := goodIn_r _ [35, 15, 18, 19, 88, 89, 90, 91, 92, 93] (by decide +kernel) (by decide +kernel)
set_option maxRecDepth 20000 in
theorem gX5_changeBasis_X2_turnShifts : GoodIn wsX5_changeBasis (wsV RX5 106 RX2 yX2_turnShifts wsX2_turnShifts) := goodIn_app (goodIn_of _ (by decide +kernel)) ggX5_changeBasis_X2_turnShifts
set_option maxRecDepth 20000 in
theorem ggX5_changeBasis_X5_commitShifts : GoodIn wsX5_changeBasis wsX5_commitShifts := goodIn_r _ [39, 1, 2, 40, 41, 42, 12, 43, 15, 18, 19, 44, 6, 45, 3, 4, 5, 7, 8, 46, 47, 48, 49, 50, 51, 52, 53, 54, 55, 56, 57, 58, 59, 60, 9, 10, 11, 13, 14, 16, 17, 20, 21, 22, 23, 24, 25, 26, 27, 28, 29, 30, 31, 61, 62, 63, 64, 65, 66, 67, 68, 69, 70, 71, 72, 73, 74, 75, 76, 77, 78, 79, 80, 81, 82, 83, 84, 85, 86, 87, 88, 89, 90, 91, 92, 93, 94, 95, 96, 97] (by decide +kernel) (by decide +kernel)
set_option maxRecDepth 20000 in
theorem gX5_changeBasis_X5_commitShifts : GoodIn wsX5_changeBasis (wsV RX5 102 RX5 yX5_commitShifts wsX5_commitShifts) := goodIn_app (goodIn_of _ (by decide +kernel)) ggX5_changeBasis_X5_commitShifts
theorem dX5_changeBasis_0 : decode cX5_changeBasis 0 = .ok (.iload_n 1, 1) := by decide +kernel
theorem dX5_changeBasis_1 : decode cX5_changeBasis 1 = .ok (.ifCond .lt 8, 3) := by decide +kernel
theorem dX5_changeBasis_4 : decode cX5_changeBasis 4 = .ok (.iload_n 1, 1) := by decide +kernel
theorem dX5_changeBasis_5 : decode cX5_changeBasis 5 = .ok (.iconst 3, 1) := by decide +kernel
theorem dX5_changeBasis_6 : decode cX5_changeBasis 6 = .ok (.if_icmp .le 10, 3) := by decide +kernel
theorem dX5_changeBasis_9 : decode cX5_changeBasis 9 = .ok (.aload_n 0, 1) := by decide +kernel
theorem dX5_changeBasis_10 : decode cX5_changeBasis 10 = .ok (.bipush (-2), 2) := by decide +kernel
theorem dX5_changeBasis_12 : decode cX5_changeBasis 12 = .ok (.invokevirtual 59, 3) := by decide +kernel
theorem dX5_changeBasis_15 : decode cX5_changeBasis 15 = .ok (.ireturn, 1) := by decide +kernel
theorem dX5_changeBasis_16 : decode cX5_changeBasis 16 = .ok (.aload_n 0, 1) := by decide +kernel
theorem dX5_changeBasis_17 : decode cX5_changeBasis 17 = .ok (.getfield 20, 3) := by decide +kernel
theorem dX5_changeBasis_20 : decode cX5_changeBasis 20 = .ok (.aload_n 0, 1) := by decide +kernel
theorem dX5_changeBasis_21 : decode cX5_changeBasis 21 = .ok (.getfield 16, 3) := by decide +kernel
theorem dX5_changeBasis_24 : decode cX5_changeBasis 24 = .ok (.invokevirtual 87, 3) := by decide +kernel
theorem dX5_changeBasis_27 : decode cX5_changeBasis 27 = .ok (.aload_n 0, 1) := by decide +kernel
theorem dX5_changeBasis_28 : decode cX5_changeBasis 28 = .ok (.getfield 20, 3) := by decide +kernel
theorem dX5_changeBasis_31 : decode cX5_changeBasis 31 = .ok (.iload_n 1, 1) := by decide +kernel
theorem dX5_changeBasis_32 : decode cX5_changeBasis 32 = .ok (.invokevirtual 106, 3) := by decide +kernel
theorem dX5_changeBasis_35 : decode cX5_changeBasis 35 = .ok (.aload_n 0, 1) := by decide +kernel
theorem dX5_changeBasis_36 : decode cX5_changeBasis 36 = .ok (.invokevirtual 102, 3) := by decide +kernel
theorem dX5_changeBasis_39 : decode cX5_changeBasis 39 = .ok (.ireturn, 1) := by decide +kernel
theorem dX5_vertices_0 : decode cX5_vertices 0 = .ok (.aload_n 0, 1) := by decide +kernel
theorem dX5_vertices_1 : decode cX5_vertices 1 = .ok (.getfield 16, 3) := by decide +kernel
theorem dX5_vertices_4 : decode cX5_vertices 4 = .ok (.getfield 63, 3) := by decide +kernel
theorem dX5_vertices_7 : decode cX5_vertices 7 = .ok (.ireturn, 1) := by decide +kernel
theorem dX5_edges_0 : decode cX5_edges 0 = .ok (.aload_n 0, 1) := by decide +kernel
theorem dX5_edges_1 : decode cX5_edges 1 = .ok (.getfield 16, 3) := by decide +kernel
theorem dX5_edges_4 : decode cX5_edges 4 = .ok (.getfield 84, 3) := by decide +kernel
theorem dX5_edges_7 : decode cX5_edges 7 = .ok (.ireturn, 1) := by decide +kernel
set_option maxRecDepth 20000 in
theorem ggX5_degree_X5_isVertex : GoodIn wsX5_degree wsX5_isVertex := goodIn_r _ [7, 8, 9, 15, 16, 17, 18, 19, 20, 21, 22, 23, 28, 29, 30, 31, 32, 33] (by decide +kernel) (by decide +kernel)
set_option maxRecDepth 20000 in
theorem gX5_degree_X5_isVertex : GoodIn wsX5_degree (wsV RX5 73 RX5 yX5_isVertex wsX5_isVertex) := goodIn_app (goodIn_of _ (by decide +kernel)) ggX5_degree_X5_isVertex
set_option maxRecDepth 20000 in
theorem ggX5_degree_X5_fail : GoodIn wsX5_degree wsX5_fail := goodIn_r _ [13, 14, 15, 16, 17, 18, 19, 20, 21, 22, 23] (by decide +kernel) (by decide +kernel)
set_option maxRecDepth 20000 in
theorem gX5_degree_X5_fail : GoodIn wsX5_degree (wsV RX5 59 RX5 yX5_fail wsX5_fail) := goodIn_app (goodIn_of _ (by decide +kernel)) ggX5_degree_X5_fail
theorem dX5_degree_0 : decode cX5_degree 0 = .ok (.aload_n 0, 1) := by decide +kernel
theorem dX5_degree_1 : decode cX5_degree 1 = .ok (.iload_n 1, 1) := by decide +kernel
theorem dX5_degree_2 : decode cX5_degree 2 = .ok (.invokevirtual 73, 3) := by decide +kernel
theorem dX5_degree_5 : decode cX5_degree 5 = .ok (.ifCond .ne 10, 3) := by decide +kernel
theorem dX5_degree_8 : decode cX5_degree 8 = .ok (.aload_n 0, 1) := by decide +kernel
theorem dX5_degree_9 : decode cX5_degree 9 = .ok (.bipush (-2), 2) := by decide +kernel
theorem dX5_degree_11 : decode cX5_degree 11 = .ok (.invokevirtual 59, 3) := by decide +kernel
theorem dX5_degree_14 : decode cX5_degree 14 = .ok (.ireturn, 1) := by decide +kernel
theorem dX5_degree_15 : decode cX5_degree 15 = .ok (.aload_n 0, 1) := by decide +kernel
theorem dX5_degree_16 : decode cX5_degree 16 = .ok (.getfield 34, 3) := by decide +kernel
theorem dX5_degree_19 : decode cX5_degree 19 = .ok (.getfield 109, 3) := by decide +kernel
theorem dX5_degree_22 : decode cX5_degree 22 = .ok (.iload_n 1, 1) := by decide +kernel
theorem dX5_degree_23 : decode cX5_degree 23 = .ok (.iaload, 1) := by decide +kernel
theorem dX5_degree_24 : decode cX5_degree 24 = .ok (.ireturn, 1) := by decide +kernel
set_option maxRecDepth 20000 in
theorem ggX5_neighbour_X5_isEnd : GoodIn wsX5_neighbour wsX5_isEnd := goodIn_r _ [7, 1, 8, 9, 10, 11, 6, 12, 13, 14, 20, 21, 22, 23, 24, 25, 26, 27, 28, 29, 30, 31, 32, 33, 34, 35, 36, 37, 38] (by decide +kernel) (by decide +kernel)
set_option maxRecDepth 20000 in
theorem gX5_neighbour_X5_isEnd : GoodIn wsX5_neighbour (wsV RX5 112 RX5 yX5_isEnd wsX5_isEnd) := goodIn_app (goodIn_of _ (by decide +kernel)) ggX5_neighbour_X5_isEnd
set_option maxRecDepth 20000 in
theorem ggX5_neighbour_X5_fail : GoodIn wsX5_neighbour wsX5_fail := goodIn_r _ [18, 19, 20, 21, 22, 23, 24, 25, 26, 27, 28] (by decide +kernel) (by decide +kernel)
set_option maxRecDepth 20000 in
theorem gX5_neighbour_X5_fail : GoodIn wsX5_neighbour (wsV RX5 59 RX5 yX5_fail wsX5_fail) := goodIn_app (goodIn_of _ (by decide +kernel)) ggX5_neighbour_X5_fail
theorem dX5_neighbour_0 : decode cX5_neighbour 0 = .ok (.aload_n 0, 1) := by decide +kernel
theorem dX5_neighbour_1 : decode cX5_neighbour 1 = .ok (.iload_n 1, 1) := by decide +kernel
theorem dX5_neighbour_2 : decode cX5_neighbour 2 = .ok (.iload_n 2, 1) := by decide +kernel
theorem dX5_neighbour_3 : decode cX5_neighbour 3 = .ok (.invokevirtual 112, 3) := by decide +kernel
theorem dX5_neighbour_6 : decode cX5_neighbour 6 = .ok (.ifCond .ne 10, 3) := by decide +kernel
theorem dX5_neighbour_9 : decode cX5_neighbour 9 = .ok (.aload_n 0, 1) := by decide +kernel
theorem dX5_neighbour_10 : decode cX5_neighbour 10 = .ok (.bipush (-2), 2) := by decide +kernel
theorem dX5_neighbour_12 : decode cX5_neighbour 12 = .ok (.invokevirtual 59, 3) := by decide +kernel
theorem dX5_neighbour_15 : decode cX5_neighbour 15 = .ok (.ireturn, 1) := by decide +kernel
theorem dX5_neighbour_16 : decode cX5_neighbour 16 = .ok (.aload_n 0, 1) := by decide +kernel
theorem dX5_neighbour_17 : decode cX5_neighbour 17 = .ok (.getfield 34, 3) := by decide +kernel
theorem dX5_neighbour_20 : decode cX5_neighbour 20 = .ok (.getfield 116, 3) := by decide +kernel
theorem dX5_neighbour_23 : decode cX5_neighbour 23 = .ok (.iload_n 1, 1) := by decide +kernel
theorem dX5_neighbour_24 : decode cX5_neighbour 24 = .ok (.aaload, 1) := by decide +kernel
theorem dX5_neighbour_25 : decode cX5_neighbour 25 = .ok (.iload_n 2, 1) := by decide +kernel
theorem dX5_neighbour_26 : decode cX5_neighbour 26 = .ok (.iaload, 1) := by decide +kernel
theorem dX5_neighbour_27 : decode cX5_neighbour 27 = .ok (.ireturn, 1) := by decide +kernel
set_option maxRecDepth 20000 in
theorem ggX5_coordination_X5_isVertex : GoodIn wsX5_coordination wsX5_isVertex := goodIn_r _ [6, 7, 8, 58, 59, 60, 61, 62, 63, 64, 65, 66, 67, 68, 69, 70, 71, 72] (by decide +kernel) (by decide +kernel)
set_option maxRecDepth 20000 in
theorem gX5_coordination_X5_isVertex : GoodIn wsX5_coordination (wsV RX5 73 RX5 yX5_isVertex wsX5_isVertex) := goodIn_app (goodIn_of _ (by decide +kernel)) ggX5_coordination_X5_isVertex
set_option maxRecDepth 20000 in
theorem ggX5_coordination_X5_fail : GoodIn wsX5_coordination wsX5_fail := goodIn_r _ [12, 13, 58, 59, 60, 61, 62, 63, 64, 65, 66] (by decide +kernel) (by decide +kernel)
set_option maxRecDepth 20000 in
theorem gX5_coordination_X5_fail : GoodIn wsX5_coordination (wsV RX5 59 RX5 yX5_fail wsX5_fail) := goodIn_app (goodIn_of _ (by decide +kernel)) ggX5_coordination_X5_fail
set_option maxRecDepth 20000 in
theorem ggX5_coordination_X5_walkAround : GoodIn wsX5_coordination wsX5_walkAround := goodIn_r _ [17, 1, 18, 19, 20, 21, 22, 23, 24, 25, 26, 27, 28, 29, 30, 31, 32, 33, 34, 35, 36, 37, 38, 39, 40, 41, 42, 43, 44, 45, 46, 47, 48, 49, 50, 51, 52, 53, 58, 59, 60, 61, 62, 63, 64, 65, 66, 73, 74, 75, 76, 77, 78, 79, 80] (by decide +kernel) (by decide +kernel)
set_option maxRecDepth 20000 in
theorem gX5_coordination_X5_walkAround : GoodIn wsX5_coordination (wsV RX5 120 RX5 yX5_walkAround wsX5_walkAround) := goodIn_app (goodIn_of _ (by decide +kernel)) ggX5_coordination_X5_walkAround
set_option maxRecDepth 20000 in
theorem ggX5_coordination_X4_nodesAfter : GoodIn wsX5_coordination wsX4_nodesAfter := goodIn_r _ [57, 27, 24, 25, 26, 73, 74, 75, 76] (by decide +kernel) (by decide +kernel)
set_option maxRecDepth 20000 in
theorem gX5_coordination_X4_nodesAfter : GoodIn wsX5_coordination (wsV RX5 123 RX4 yX4_nodesAfter wsX4_nodesAfter) := goodIn_app (goodIn_of _ (by decide +kernel)) ggX5_coordination_X4_nodesAfter
theorem dX5_coordination_0 : decode cX5_coordination 0 = .ok (.aload_n 0, 1) := by decide +kernel
theorem dX5_coordination_1 : decode cX5_coordination 1 = .ok (.iload_n 1, 1) := by decide +kernel
theorem dX5_coordination_2 : decode cX5_coordination 2 = .ok (.invokevirtual 73, 3) := by decide +kernel
theorem dX5_coordination_5 : decode cX5_coordination 5 = .ok (.ifCond .eq 13, 3) := by decide +kernel
theorem dX5_coordination_8 : decode cX5_coordination 8 = .ok (.iload_n 2, 1) := by decide +kernel
theorem dX5_coordination_9 : decode cX5_coordination 9 = .ok (.ifCond .lt 9, 3) := by decide +kernel
theorem dX5_coordination_12 : decode cX5_coordination 12 = .ok (.iload_n 2, 1) := by decide +kernel
theorem dX5_coordination_13 : decode cX5_coordination 13 = .ok (.bipush 8, 2) := by decide +kernel
theorem dX5_coordination_15 : decode cX5_coordination 15 = .ok (.if_icmp .le 10, 3) := by decide +kernel
theorem dX5_coordination_18 : decode cX5_coordination 18 = .ok (.aload_n 0, 1) := by decide +kernel
theorem dX5_coordination_19 : decode cX5_coordination 19 = .ok (.bipush (-2), 2) := by decide +kernel
theorem dX5_coordination_21 : decode cX5_coordination 21 = .ok (.invokevirtual 59, 3) := by decide +kernel
theorem dX5_coordination_24 : decode cX5_coordination 24 = .ok (.ireturn, 1) := by decide +kernel
theorem dX5_coordination_25 : decode cX5_coordination 25 = .ok (.aload_n 0, 1) := by decide +kernel
theorem dX5_coordination_26 : decode cX5_coordination 26 = .ok (.iload_n 1, 1) := by decide +kernel
theorem dX5_coordination_27 : decode cX5_coordination 27 = .ok (.iload_n 2, 1) := by decide +kernel
theorem dX5_coordination_28 : decode cX5_coordination 28 = .ok (.iconst (-1), 1) := by decide +kernel
theorem dX5_coordination_29 : decode cX5_coordination 29 = .ok (.invokevirtual 120, 3) := by decide +kernel
theorem dX5_coordination_32 : decode cX5_coordination 32 = .ok (.aload_n 0, 1) := by decide +kernel
theorem dX5_coordination_33 : decode cX5_coordination 33 = .ok (.getfield 41, 3) := by decide +kernel
theorem dX5_coordination_36 : decode cX5_coordination 36 = .ok (.iload_n 2, 1) := by decide +kernel
theorem dX5_coordination_37 : decode cX5_coordination 37 = .ok (.invokevirtual 123, 3) := by decide +kernel
theorem dX5_coordination_40 : decode cX5_coordination 40 = .ok (.ireturn, 1) := by decide +kernel
set_option maxRecDepth 20000 in
theorem ggX5_distance_X5_isVertex : GoodIn wsX5_distance wsX5_isVertex := goodIn_r _ [6, 7, 8, 58, 59, 60, 61, 62, 63, 64, 65, 66, 67, 68, 69, 70, 71, 72] (by decide +kernel) (by decide +kernel)
set_option maxRecDepth 20000 in
theorem gX5_distance_X5_isVertex : GoodIn wsX5_distance (wsV RX5 73 RX5 yX5_isVertex wsX5_isVertex) := goodIn_app (goodIn_of _ (by decide +kernel)) ggX5_distance_X5_isVertex
set_option maxRecDepth 20000 in
theorem ggX5_distance_X5_isCell : GoodIn wsX5_distance wsX5_isCell := goodIn_r _ [11] (by decide +kernel) (by decide +kernel)
set_option maxRecDepth 20000 in
theorem gX5_distance_X5_isCell : GoodIn wsX5_distance (va_wsS RX5 126 yX5_isCell wsX5_isCell) := goodIn_app (goodIn_of _ (by decide +kernel)) ggX5_distance_X5_isCell
set_option maxRecDepth 20000 in
theorem ggX5_distance_X5_fail : GoodIn wsX5_distance wsX5_fail := goodIn_r _ [15, 16, 58, 59, 60, 61, 62, 63, 64, 65, 66] (by decide +kernel) (by decide +kernel)
set_option maxRecDepth 20000 in
theorem gX5_distance_X5_fail : GoodIn wsX5_distance (wsV RX5 59 RX5 yX5_fail wsX5_fail) := goodIn_app (goodIn_of _ (by decide +kernel)) ggX5_distance_X5_fail
set_option maxRecDepth 20000 in
theorem ggX5_distance_X4_nodeAt : GoodIn wsX5_distance wsX4_nodeAt := goodIn_r _ [21] (by decide +kernel) (by decide +kernel)
set_option maxRecDepth 20000 in
theorem gX5_distance_X4_nodeAt : GoodIn wsX5_distance (wsV RX5 129 RX4 yX4_nodeAt wsX4_nodeAt) := goodIn_app (goodIn_of _ (by decide +kernel)) ggX5_distance_X4_nodeAt
set_option maxRecDepth 20000 in
theorem ggX5_distance_X5_walkAround : GoodIn wsX5_distance wsX5_walkAround := goodIn_r _ [25, 1, 26, 27, 28, 29, 20, 30, 31, 32, 33, 34, 17, 18, 19, 21, 35, 36, 37, 38, 39, 40, 41, 42, 43, 44, 45, 46, 47, 48, 49, 50, 51, 52, 53, 54, 55, 56, 58, 59, 60, 61, 62, 63, 64, 65, 66, 73, 74, 75, 76, 77, 78, 79, 80] (by decide +kernel) (by decide +kernel)
set_option maxRecDepth 20000 in
theorem gX5_distance_X5_walkAround : GoodIn wsX5_distance (wsV RX5 120 RX5 yX5_walkAround wsX5_walkAround) := goodIn_app (goodIn_of _ (by decide +kernel)) ggX5_distance_X5_walkAround
set_option maxRecDepth 20000 in
theorem ggX5_distance_X4_stepsTo : GoodIn wsX5_distance wsX4_stepsTo := goodIn_r _ [46, 32, 73, 74, 75, 76] (by decide +kernel) (by decide +kernel)
set_option maxRecDepth 20000 in
theorem gX5_distance_X4_stepsTo : GoodIn wsX5_distance (wsV RX5 133 RX4 yX4_stepsTo wsX4_stepsTo) := goodIn_app (goodIn_of _ (by decide +kernel)) ggX5_distance_X4_stepsTo
theorem dX5_distance_0 : decode cX5_distance 0 = .ok (.aload_n 0, 1) := by decide +kernel
theorem dX5_distance_1 : decode cX5_distance 1 = .ok (.iload_n 1, 1) := by decide +kernel
theorem dX5_distance_2 : decode cX5_distance 2 = .ok (.invokevirtual 73, 3) := by decide +kernel
theorem dX5_distance_5 : decode cX5_distance 5 = .ok (.ifCond .eq 26, 3) := by decide +kernel
theorem dX5_distance_8 : decode cX5_distance 8 = .ok (.aload_n 0, 1) := by decide +kernel
theorem dX5_distance_9 : decode cX5_distance 9 = .ok (.iload_n 2, 1) := by decide +kernel
theorem dX5_distance_10 : decode cX5_distance 10 = .ok (.invokevirtual 73, 3) := by decide +kernel
theorem dX5_distance_13 : decode cX5_distance 13 = .ok (.ifCond .eq 18, 3) := by decide +kernel
theorem dX5_distance_16 : decode cX5_distance 16 = .ok (.iload_n 3, 1) := by decide +kernel
theorem dX5_distance_17 : decode cX5_distance 17 = .ok (.invokestatic 126, 3) := by decide +kernel
theorem dX5_distance_20 : decode cX5_distance 20 = .ok (.ifCond .eq 11, 3) := by decide +kernel
theorem dX5_distance_23 : decode cX5_distance 23 = .ok (.iload 4, 2) := by decide +kernel
theorem dX5_distance_25 : decode cX5_distance 25 = .ok (.invokestatic 126, 3) := by decide +kernel
theorem dX5_distance_28 : decode cX5_distance 28 = .ok (.ifCond .ne 10, 3) := by decide +kernel
theorem dX5_distance_31 : decode cX5_distance 31 = .ok (.aload_n 0, 1) := by decide +kernel
theorem dX5_distance_32 : decode cX5_distance 32 = .ok (.bipush (-2), 2) := by decide +kernel
theorem dX5_distance_34 : decode cX5_distance 34 = .ok (.invokevirtual 59, 3) := by decide +kernel
theorem dX5_distance_37 : decode cX5_distance 37 = .ok (.ireturn, 1) := by decide +kernel
theorem dX5_distance_38 : decode cX5_distance 38 = .ok (.aload_n 0, 1) := by decide +kernel
theorem dX5_distance_39 : decode cX5_distance 39 = .ok (.getfield 41, 3) := by decide +kernel
theorem dX5_distance_42 : decode cX5_distance 42 = .ok (.iload_n 2, 1) := by decide +kernel
theorem dX5_distance_43 : decode cX5_distance 43 = .ok (.iload_n 3, 1) := by decide +kernel
theorem dX5_distance_44 : decode cX5_distance 44 = .ok (.iload 4, 2) := by decide +kernel
theorem dX5_distance_46 : decode cX5_distance 46 = .ok (.invokevirtual 129, 3) := by decide +kernel
theorem dX5_distance_49 : decode cX5_distance 49 = .ok (.istore 5, 2) := by decide +kernel
theorem dX5_distance_51 : decode cX5_distance 51 = .ok (.aload_n 0, 1) := by decide +kernel
theorem dX5_distance_52 : decode cX5_distance 52 = .ok (.iload_n 1, 1) := by decide +kernel
theorem dX5_distance_53 : decode cX5_distance 53 = .ok (.bipush 8, 2) := by decide +kernel
theorem dX5_distance_55 : decode cX5_distance 55 = .ok (.iload 5, 2) := by decide +kernel
theorem dX5_distance_57 : decode cX5_distance 57 = .ok (.invokevirtual 120, 3) := by decide +kernel
theorem dX5_distance_60 : decode cX5_distance 60 = .ok (.aload_n 0, 1) := by decide +kernel
theorem dX5_distance_61 : decode cX5_distance 61 = .ok (.getfield 41, 3) := by decide +kernel
theorem dX5_distance_64 : decode cX5_distance 64 = .ok (.iload 5, 2) := by decide +kernel
theorem dX5_distance_66 : decode cX5_distance 66 = .ok (.invokevirtual 133, 3) := by decide +kernel
theorem dX5_distance_69 : decode cX5_distance 69 = .ok (.ireturn, 1) := by decide +kernel
set_option maxRecDepth 20000 in
theorem ggX5_rank_X5_isVertex : GoodIn wsX5_rank wsX5_isVertex := goodIn_r _ [7, 2, 8, 53, 54, 55, 56, 57, 58, 59, 60, 61, 62, 63, 64, 65, 66, 67] (by decide +kernel) (by decide +kernel)
set_option maxRecDepth 20000 in
theorem gX5_rank_X5_isVertex : GoodIn wsX5_rank (wsV RX5 73 RX5 yX5_isVertex wsX5_isVertex) := goodIn_app (goodIn_of _ (by decide +kernel)) ggX5_rank_X5_isVertex
set_option maxRecDepth 20000 in
theorem ggX5_rank_X5_fail : GoodIn wsX5_rank wsX5_fail := goodIn_r _ [12, 13, 53, 54, 55, 56, 57, 58, 59, 60, 61] (by decide +kernel) (by decide +kernel)
set_option maxRecDepth 20000 in
theorem gX5_rank_X5_fail : GoodIn wsX5_rank (wsV RX5 59 RX5 yX5_fail wsX5_fail) := goodIn_app (goodIn_of _ (by decide +kernel)) ggX5_rank_X5_fail
set_option maxRecDepth 20000 in
theorem ggX5_rank_X0_explore : GoodIn wsX5_rank wsX0_explore := goodIn_r _ [18, 19, 20, 21, 22, 23, 17, 24, 25, 26, 27, 28, 29, 30, 31, 32, 33, 34, 35, 36, 37, 38, 39, 40, 41, 42, 68, 69, 70, 71, 72, 73, 62, 63, 64, 65, 66, 67] (by decide +kernel) (by decide +kernel)
set_option maxRecDepth 20000 in
theorem gX5_rank_X0_explore : GoodIn wsX5_rank (wsV RX5 136 RX0 yX0_explore wsX0_explore) := goodIn_app (goodIn_of _ (by decide +kernel)) ggX5_rank_X0_explore
set_option maxRecDepth 20000 in
theorem ggX5_rank_X0_latticeRank : GoodIn wsX5_rank wsX0_latticeRank := goodIn_r _ [46, 40, 41, 42, 47, 48, 49, 17, 50, 51, 6, 52, 68, 69, 70, 71, 72, 73] (by decide +kernel) (by decide +kernel)
set_option maxRecDepth 20000 in
theorem gX5_rank_X0_latticeRank : GoodIn wsX5_rank (wsV RX5 140 RX0 yX0_latticeRank wsX0_latticeRank) := goodIn_app (goodIn_of _ (by decide +kernel)) ggX5_rank_X0_latticeRank
theorem dX5_rank_0 : decode cX5_rank 0 = .ok (.aload_n 0, 1) := by decide +kernel
theorem dX5_rank_1 : decode cX5_rank 1 = .ok (.iload_n 1, 1) := by decide +kernel
theorem dX5_rank_2 : decode cX5_rank 2 = .ok (.invokevirtual 73, 3) := by decide +kernel
theorem dX5_rank_5 : decode cX5_rank 5 = .ok (.ifCond .ne 10, 3) := by decide +kernel
theorem dX5_rank_8 : decode cX5_rank 8 = .ok (.aload_n 0, 1) := by decide +kernel
theorem dX5_rank_9 : decode cX5_rank 9 = .ok (.bipush (-2), 2) := by decide +kernel
theorem dX5_rank_11 : decode cX5_rank 11 = .ok (.invokevirtual 59, 3) := by decide +kernel
theorem dX5_rank_14 : decode cX5_rank 14 = .ok (.ireturn, 1) := by decide +kernel
theorem dX5_rank_15 : decode cX5_rank 15 = .ok (.aload_n 0, 1) := by decide +kernel
theorem dX5_rank_16 : decode cX5_rank 16 = .ok (.getfield 48, 3) := by decide +kernel
theorem dX5_rank_19 : decode cX5_rank 19 = .ok (.aload_n 0, 1) := by decide +kernel
theorem dX5_rank_20 : decode cX5_rank 20 = .ok (.getfield 16, 3) := by decide +kernel
theorem dX5_rank_23 : decode cX5_rank 23 = .ok (.iload_n 1, 1) := by decide +kernel
theorem dX5_rank_24 : decode cX5_rank 24 = .ok (.invokevirtual 136, 3) := by decide +kernel
theorem dX5_rank_27 : decode cX5_rank 27 = .ok (.aload_n 0, 1) := by decide +kernel
theorem dX5_rank_28 : decode cX5_rank 28 = .ok (.getfield 48, 3) := by decide +kernel
theorem dX5_rank_31 : decode cX5_rank 31 = .ok (.invokevirtual 140, 3) := by decide +kernel
theorem dX5_rank_34 : decode cX5_rank 34 = .ok (.ireturn, 1) := by decide +kernel
set_option maxRecDepth 20000 in
theorem ggX5_index_X5_isVertex : GoodIn wsX5_index wsX5_isVertex := goodIn_r _ [7, 2, 8, 53, 54, 55, 56, 57, 58, 59, 60, 61, 62, 63, 64, 65, 66, 67] (by decide +kernel) (by decide +kernel)
set_option maxRecDepth 20000 in
theorem gX5_index_X5_isVertex : GoodIn wsX5_index (wsV RX5 73 RX5 yX5_isVertex wsX5_isVertex) := goodIn_app (goodIn_of _ (by decide +kernel)) ggX5_index_X5_isVertex
set_option maxRecDepth 20000 in
theorem ggX5_index_X5_fail : GoodIn wsX5_index wsX5_fail := goodIn_r _ [12, 13, 53, 54, 55, 56, 57, 58, 59, 60, 61] (by decide +kernel) (by decide +kernel)
set_option maxRecDepth 20000 in
theorem gX5_index_X5_fail : GoodIn wsX5_index (wsV RX5 59 RX5 yX5_fail wsX5_fail) := goodIn_app (goodIn_of _ (by decide +kernel)) ggX5_index_X5_fail
set_option maxRecDepth 20000 in
theorem ggX5_index_X0_explore : GoodIn wsX5_index wsX0_explore := goodIn_r _ [18, 19, 20, 21, 22, 23, 17, 24, 25, 26, 27, 28, 29, 30, 31, 32, 33, 34, 35, 36, 37, 38, 39, 40, 41, 42, 68, 69, 70, 71, 72, 73, 62, 63, 64, 65, 66, 67] (by decide +kernel) (by decide +kernel)
set_option maxRecDepth 20000 in
theorem gX5_index_X0_explore : GoodIn wsX5_index (wsV RX5 136 RX0 yX0_explore wsX0_explore) := goodIn_app (goodIn_of _ (by decide +kernel)) ggX5_index_X0_explore
set_option maxRecDepth 20000 in
theorem ggX5_index_X0_latticeIndex : GoodIn wsX5_index wsX0_latticeIndex := goodIn_r _ [46, 47, 48, 49, 17, 50, 40, 41, 42, 51, 6, 52, 68, 69, 70, 71, 72, 73] (by decide +kernel) (by decide +kernel)
set_option maxRecDepth 20000 in
theorem gX5_index_X0_latticeIndex : GoodIn wsX5_index (wsV RX5 143 RX0 yX0_latticeIndex wsX0_latticeIndex) := goodIn_app (goodIn_of _ (by decide +kernel)) ggX5_index_X0_latticeIndex
theorem dX5_index_0 : decode cX5_index 0 = .ok (.aload_n 0, 1) := by decide +kernel
theorem dX5_index_1 : decode cX5_index 1 = .ok (.iload_n 1, 1) := by decide +kernel
theorem dX5_index_2 : decode cX5_index 2 = .ok (.invokevirtual 73, 3) := by decide +kernel
theorem dX5_index_5 : decode cX5_index 5 = .ok (.ifCond .ne 10, 3) := by decide +kernel
theorem dX5_index_8 : decode cX5_index 8 = .ok (.aload_n 0, 1) := by decide +kernel
theorem dX5_index_9 : decode cX5_index 9 = .ok (.bipush (-2), 2) := by decide +kernel
theorem dX5_index_11 : decode cX5_index 11 = .ok (.invokevirtual 59, 3) := by decide +kernel
theorem dX5_index_14 : decode cX5_index 14 = .ok (.ireturn, 1) := by decide +kernel
theorem dX5_index_15 : decode cX5_index 15 = .ok (.aload_n 0, 1) := by decide +kernel
theorem dX5_index_16 : decode cX5_index 16 = .ok (.getfield 48, 3) := by decide +kernel
theorem dX5_index_19 : decode cX5_index 19 = .ok (.aload_n 0, 1) := by decide +kernel
theorem dX5_index_20 : decode cX5_index 20 = .ok (.getfield 16, 3) := by decide +kernel
theorem dX5_index_23 : decode cX5_index 23 = .ok (.iload_n 1, 1) := by decide +kernel
theorem dX5_index_24 : decode cX5_index 24 = .ok (.invokevirtual 136, 3) := by decide +kernel
theorem dX5_index_27 : decode cX5_index 27 = .ok (.aload_n 0, 1) := by decide +kernel
theorem dX5_index_28 : decode cX5_index 28 = .ok (.getfield 48, 3) := by decide +kernel
theorem dX5_index_31 : decode cX5_index 31 = .ok (.invokevirtual 143, 3) := by decide +kernel
theorem dX5_index_34 : decode cX5_index 34 = .ok (.ireturn, 1) := by decide +kernel
set_option maxRecDepth 20000 in
theorem ggX5_isConnected_X5_isOnePiece : GoodIn wsX5_isConnected wsX5_isOnePiece := goodIn_r _ [5, 6, 7, 8, 9, 10, 11, 12, 13, 14, 15, 16, 17, 18, 19, 20, 21, 22, 23, 24, 25, 26, 27, 28, 29, 30, 31, 32, 33, 34, 35, 36, 37, 38, 39, 40, 41, 42, 43, 44, 45, 46, 47, 48, 49, 50, 51, 52, 53, 54, 55, 56, 57, 58, 59, 60, 61] (by decide +kernel) (by decide +kernel)
set_option maxRecDepth 20000 in
theorem gX5_isConnected_X5_isOnePiece : GoodIn wsX5_isConnected (wsV RX5 146 RX5 yX5_isOnePiece wsX5_isOnePiece) := goodIn_app (goodIn_of _ (by decide +kernel)) ggX5_isConnected_X5_isOnePiece
theorem dX5_isConnected_0 : decode cX5_isConnected 0 = .ok (.aload_n 0, 1) := by decide +kernel
theorem dX5_isConnected_1 : decode cX5_isConnected 1 = .ok (.invokevirtual 146, 3) := by decide +kernel
theorem dX5_isConnected_4 : decode cX5_isConnected 4 = .ok (.ifCond .eq 7, 3) := by decide +kernel
theorem dX5_isConnected_7 : decode cX5_isConnected 7 = .ok (.iconst 1, 1) := by decide +kernel
theorem dX5_isConnected_8 : decode cX5_isConnected 8 = .ok (.goto 4, 3) := by decide +kernel
theorem dX5_isConnected_11 : decode cX5_isConnected 11 = .ok (.iconst 0, 1) := by decide +kernel
theorem dX5_isConnected_12 : decode cX5_isConnected 12 = .ok (.ireturn, 1) := by decide +kernel
set_option maxRecDepth 20000 in
theorem ggX5_ring_X5_isEnd : GoodIn wsX5_ring wsX5_isEnd := goodIn_r _ [10, 2, 11, 12, 13, 14, 9, 15, 16, 17, 63, 64, 65, 66, 67, 68, 69, 70, 71, 72, 73, 74, 75, 76, 77, 78, 79, 80, 81] (by decide +kernel) (by decide +kernel)
set_option maxRecDepth 20000 in
theorem gX5_ring_X5_isEnd : GoodIn wsX5_ring (wsV RX5 112 RX5 yX5_isEnd wsX5_isEnd) := goodIn_app (goodIn_of _ (by decide +kernel)) ggX5_ring_X5_isEnd
set_option maxRecDepth 20000 in
theorem ggX5_ring_X5_fail : GoodIn wsX5_ring wsX5_fail := goodIn_r _ [21, 22, 63, 64, 65, 66, 67, 68, 69, 70, 71] (by decide +kernel) (by decide +kernel)
set_option maxRecDepth 20000 in
theorem gX5_ring_X5_fail : GoodIn wsX5_ring (wsV RX5 59 RX5 yX5_fail wsX5_fail) := goodIn_app (goodIn_of _ (by decide +kernel)) ggX5_ring_X5_fail
set_option maxRecDepth 20000 in
theorem ggX5_ring_X4_nodeAt : GoodIn wsX5_ring wsX4_nodeAt := goodIn_r _ [27] (by decide +kernel) (by decide +kernel)
set_option maxRecDepth 20000 in
theorem gX5_ring_X4_nodeAt : GoodIn wsX5_ring (wsV RX5 129 RX4 yX4_nodeAt wsX4_nodeAt) := goodIn_app (goodIn_of _ (by decide +kernel)) ggX5_ring_X4_nodeAt
set_option maxRecDepth 20000 in
theorem ggX5_ring_X4_forget : GoodIn wsX5_ring wsX4_forget := goodIn_r _ [31, 32, 33, 34, 35, 82, 83, 84, 85] (by decide +kernel) (by decide +kernel)
set_option maxRecDepth 20000 in
theorem gX5_ring_X4_forget : GoodIn wsX5_ring (wsV RX5 156 RX4 yX4_forget wsX4_forget) := goodIn_app (goodIn_of _ (by decide +kernel)) ggX5_ring_X4_forget
set_option maxRecDepth 20000 in
theorem ggX5_ring_X4_close : GoodIn wsX5_ring wsX4_close := goodIn_r _ [39, 32, 35, 40, 41, 42, 26, 43, 33, 34, 82, 83, 84, 85] (by decide +kernel) (by decide +kernel)
set_option maxRecDepth 20000 in
theorem gX5_ring_X4_close : GoodIn wsX5_ring (wsV RX5 159 RX4 yX4_close wsX4_close) := goodIn_app (goodIn_of _ (by decide +kernel)) ggX5_ring_X4_close
set_option maxRecDepth 20000 in
theorem ggX5_ring_X4_mark : GoodIn wsX5_ring wsX4_mark := goodIn_r _ [43, 33, 32, 34, 82, 83, 84, 85] (by decide +kernel) (by decide +kernel)
set_option maxRecDepth 20000 in
theorem gX5_ring_X4_mark : GoodIn wsX5_ring (wsV RX5 162 RX4 yX4_mark wsX4_mark) := goodIn_app (goodIn_of _ (by decide +kernel)) ggX5_ring_X4_mark
set_option maxRecDepth 20000 in
theorem ggX5_ring_X4_walk : GoodIn wsX5_ring wsX4_walk := goodIn_r _ [48, 35, 32, 34, 33, 49, 50, 51, 26, 52, 53, 54, 55, 56, 57, 58, 59, 60, 61, 24, 25, 27, 40, 41, 42, 43, 82, 83, 84, 85, 72, 73, 74, 75] (by decide +kernel) (by decide +kernel)
set_option maxRecDepth 20000 in
theorem gX5_ring_X4_walk : GoodIn wsX5_ring (wsV RX5 166 RX4 yX4_walk wsX4_walk) := goodIn_app (goodIn_of _ (by decide +kernel)) ggX5_ring_X4_walk
set_option maxRecDepth 20000 in
theorem ggX5_ring_X4_stepsTo : GoodIn wsX5_ring wsX4_stepsTo := goodIn_r _ [52, 33, 82, 83, 84, 85] (by decide +kernel) (by decide +kernel)
set_option maxRecDepth 20000 in
theorem gX5_ring_X4_stepsTo : GoodIn wsX5_ring (wsV RX5 133 RX4 yX4_stepsTo wsX4_stepsTo) := goodIn_app (goodIn_of _ (by decide +kernel)) ggX5_ring_X4_stepsTo
theorem dX5_ring_0 : decode cX5_ring 0 = .ok (.aload_n 0, 1) := by decide +kernel
theorem dX5_ring_1 : decode cX5_ring 1 = .ok (.iload_n 1, 1) := by decide +kernel
theorem dX5_ring_2 : decode cX5_ring 2 = .ok (.iload_n 2, 1) := by decide +kernel
theorem dX5_ring_3 : decode cX5_ring 3 = .ok (.invokevirtual 112, 3) := by decide +kernel
theorem dX5_ring_6 : decode cX5_ring 6 = .ok (.ifCond .eq 17, 3) := by decide +kernel
theorem dX5_ring_9 : decode cX5_ring 9 = .ok (.aload_n 0, 1) := by decide +kernel
theorem dX5_ring_10 : decode cX5_ring 10 = .ok (.iload_n 1, 1) := by decide +kernel
theorem dX5_ring_11 : decode cX5_ring 11 = .ok (.iload_n 3, 1) := by decide +kernel
theorem dX5_ring_12 : decode cX5_ring 12 = .ok (.invokevirtual 112, 3) := by decide +kernel
theorem dX5_ring_15 : decode cX5_ring 15 = .ok (.ifCond .eq 8, 3) := by decide +kernel
theorem dX5_ring_18 : decode cX5_ring 18 = .ok (.iload_n 2, 1) := by decide +kernel
theorem dX5_ring_19 : decode cX5_ring 19 = .ok (.iload_n 3, 1) := by decide +kernel
theorem dX5_ring_20 : decode cX5_ring 20 = .ok (.if_icmp .ne 10, 3) := by decide +kernel
theorem dX5_ring_23 : decode cX5_ring 23 = .ok (.aload_n 0, 1) := by decide +kernel
theorem dX5_ring_24 : decode cX5_ring 24 = .ok (.bipush (-2), 2) := by decide +kernel
theorem dX5_ring_26 : decode cX5_ring 26 = .ok (.invokevirtual 59, 3) := by decide +kernel
theorem dX5_ring_29 : decode cX5_ring 29 = .ok (.ireturn, 1) := by decide +kernel
theorem dX5_ring_30 : decode cX5_ring 30 = .ok (.aload_n 0, 1) := by decide +kernel
theorem dX5_ring_31 : decode cX5_ring 31 = .ok (.getfield 41, 3) := by decide +kernel
theorem dX5_ring_34 : decode cX5_ring 34 = .ok (.aload_n 0, 1) := by decide +kernel
theorem dX5_ring_35 : decode cX5_ring 35 = .ok (.getfield 34, 3) := by decide +kernel
theorem dX5_ring_38 : decode cX5_ring 38 = .ok (.getfield 116, 3) := by decide +kernel
theorem dX5_ring_41 : decode cX5_ring 41 = .ok (.iload_n 1, 1) := by decide +kernel
theorem dX5_ring_42 : decode cX5_ring 42 = .ok (.aaload, 1) := by decide +kernel
theorem dX5_ring_43 : decode cX5_ring 43 = .ok (.iload_n 2, 1) := by decide +kernel
theorem dX5_ring_44 : decode cX5_ring 44 = .ok (.iaload, 1) := by decide +kernel
theorem dX5_ring_45 : decode cX5_ring 45 = .ok (.aload_n 0, 1) := by decide +kernel
theorem dX5_ring_46 : decode cX5_ring 46 = .ok (.getfield 34, 3) := by decide +kernel
theorem dX5_ring_49 : decode cX5_ring 49 = .ok (.getfield 150, 3) := by decide +kernel
theorem dX5_ring_52 : decode cX5_ring 52 = .ok (.iload_n 1, 1) := by decide +kernel
theorem dX5_ring_53 : decode cX5_ring 53 = .ok (.aaload, 1) := by decide +kernel
theorem dX5_ring_54 : decode cX5_ring 54 = .ok (.iload_n 2, 1) := by decide +kernel
theorem dX5_ring_55 : decode cX5_ring 55 = .ok (.iaload, 1) := by decide +kernel
theorem dX5_ring_56 : decode cX5_ring 56 = .ok (.aload_n 0, 1) := by decide +kernel
theorem dX5_ring_57 : decode cX5_ring 57 = .ok (.getfield 34, 3) := by decide +kernel
theorem dX5_ring_60 : decode cX5_ring 60 = .ok (.getfield 153, 3) := by decide +kernel
theorem dX5_ring_63 : decode cX5_ring 63 = .ok (.iload_n 1, 1) := by decide +kernel
theorem dX5_ring_64 : decode cX5_ring 64 = .ok (.aaload, 1) := by decide +kernel
theorem dX5_ring_65 : decode cX5_ring 65 = .ok (.iload_n 2, 1) := by decide +kernel
theorem dX5_ring_66 : decode cX5_ring 66 = .ok (.iaload, 1) := by decide +kernel
theorem dX5_ring_67 : decode cX5_ring 67 = .ok (.invokevirtual 129, 3) := by decide +kernel
theorem dX5_ring_70 : decode cX5_ring 70 = .ok (.istore 4, 2) := by decide +kernel
theorem dX5_ring_72 : decode cX5_ring 72 = .ok (.aload_n 0, 1) := by decide +kernel
theorem dX5_ring_73 : decode cX5_ring 73 = .ok (.getfield 41, 3) := by decide +kernel
theorem dX5_ring_76 : decode cX5_ring 76 = .ok (.aload_n 0, 1) := by decide +kernel
theorem dX5_ring_77 : decode cX5_ring 77 = .ok (.getfield 34, 3) := by decide +kernel
theorem dX5_ring_80 : decode cX5_ring 80 = .ok (.getfield 116, 3) := by decide +kernel
theorem dX5_ring_83 : decode cX5_ring 83 = .ok (.iload_n 1, 1) := by decide +kernel
theorem dX5_ring_84 : decode cX5_ring 84 = .ok (.aaload, 1) := by decide +kernel
theorem dX5_ring_85 : decode cX5_ring 85 = .ok (.iload_n 3, 1) := by decide +kernel
theorem dX5_ring_86 : decode cX5_ring 86 = .ok (.iaload, 1) := by decide +kernel
theorem dX5_ring_87 : decode cX5_ring 87 = .ok (.aload_n 0, 1) := by decide +kernel
theorem dX5_ring_88 : decode cX5_ring 88 = .ok (.getfield 34, 3) := by decide +kernel
theorem dX5_ring_91 : decode cX5_ring 91 = .ok (.getfield 150, 3) := by decide +kernel
theorem dX5_ring_94 : decode cX5_ring 94 = .ok (.iload_n 1, 1) := by decide +kernel
theorem dX5_ring_95 : decode cX5_ring 95 = .ok (.aaload, 1) := by decide +kernel
theorem dX5_ring_96 : decode cX5_ring 96 = .ok (.iload_n 3, 1) := by decide +kernel
theorem dX5_ring_97 : decode cX5_ring 97 = .ok (.iaload, 1) := by decide +kernel
theorem dX5_ring_98 : decode cX5_ring 98 = .ok (.aload_n 0, 1) := by decide +kernel
theorem dX5_ring_99 : decode cX5_ring 99 = .ok (.getfield 34, 3) := by decide +kernel
theorem dX5_ring_102 : decode cX5_ring 102 = .ok (.getfield 153, 3) := by decide +kernel
theorem dX5_ring_105 : decode cX5_ring 105 = .ok (.iload_n 1, 1) := by decide +kernel
theorem dX5_ring_106 : decode cX5_ring 106 = .ok (.aaload, 1) := by decide +kernel
theorem dX5_ring_107 : decode cX5_ring 107 = .ok (.iload_n 3, 1) := by decide +kernel
theorem dX5_ring_108 : decode cX5_ring 108 = .ok (.iaload, 1) := by decide +kernel
theorem dX5_ring_109 : decode cX5_ring 109 = .ok (.invokevirtual 129, 3) := by decide +kernel
theorem dX5_ring_112 : decode cX5_ring 112 = .ok (.istore 5, 2) := by decide +kernel
theorem dX5_ring_114 : decode cX5_ring 114 = .ok (.aload_n 0, 1) := by decide +kernel
theorem dX5_ring_115 : decode cX5_ring 115 = .ok (.getfield 41, 3) := by decide +kernel
theorem dX5_ring_118 : decode cX5_ring 118 = .ok (.invokevirtual 156, 3) := by decide +kernel
theorem dX5_ring_121 : decode cX5_ring 121 = .ok (.aload_n 0, 1) := by decide +kernel
theorem dX5_ring_122 : decode cX5_ring 122 = .ok (.getfield 41, 3) := by decide +kernel
theorem dX5_ring_125 : decode cX5_ring 125 = .ok (.aload_n 0, 1) := by decide +kernel
theorem dX5_ring_126 : decode cX5_ring 126 = .ok (.getfield 41, 3) := by decide +kernel
theorem dX5_ring_129 : decode cX5_ring 129 = .ok (.iload_n 1, 1) := by decide +kernel
theorem dX5_ring_130 : decode cX5_ring 130 = .ok (.iconst 0, 1) := by decide +kernel
theorem dX5_ring_131 : decode cX5_ring 131 = .ok (.iconst 0, 1) := by decide +kernel
theorem dX5_ring_132 : decode cX5_ring 132 = .ok (.invokevirtual 129, 3) := by decide +kernel
theorem dX5_ring_135 : decode cX5_ring 135 = .ok (.invokevirtual 159, 3) := by decide +kernel
theorem dX5_ring_138 : decode cX5_ring 138 = .ok (.aload_n 0, 1) := by decide +kernel
theorem dX5_ring_139 : decode cX5_ring 139 = .ok (.getfield 41, 3) := by decide +kernel
theorem dX5_ring_142 : decode cX5_ring 142 = .ok (.iload 4, 2) := by decide +kernel
theorem dX5_ring_144 : decode cX5_ring 144 = .ok (.iconst 0, 1) := by decide +kernel
theorem dX5_ring_145 : decode cX5_ring 145 = .ok (.invokevirtual 162, 3) := by decide +kernel
theorem dX5_ring_148 : decode cX5_ring 148 = .ok (.aload_n 0, 1) := by decide +kernel
theorem dX5_ring_149 : decode cX5_ring 149 = .ok (.getfield 41, 3) := by decide +kernel
theorem dX5_ring_152 : decode cX5_ring 152 = .ok (.aload_n 0, 1) := by decide +kernel
theorem dX5_ring_153 : decode cX5_ring 153 = .ok (.getfield 34, 3) := by decide +kernel
theorem dX5_ring_156 : decode cX5_ring 156 = .ok (.bipush 10, 2) := by decide +kernel
theorem dX5_ring_158 : decode cX5_ring 158 = .ok (.iload 5, 2) := by decide +kernel
theorem dX5_ring_160 : decode cX5_ring 160 = .ok (.invokevirtual 166, 3) := by decide +kernel
theorem dX5_ring_163 : decode cX5_ring 163 = .ok (.aload_n 0, 1) := by decide +kernel
theorem dX5_ring_164 : decode cX5_ring 164 = .ok (.getfield 41, 3) := by decide +kernel
theorem dX5_ring_167 : decode cX5_ring 167 = .ok (.iload 5, 2) := by decide +kernel
theorem dX5_ring_169 : decode cX5_ring 169 = .ok (.invokevirtual 133, 3) := by decide +kernel
theorem dX5_ring_172 : decode cX5_ring 172 = .ok (.istore 6, 2) := by decide +kernel
theorem dX5_ring_174 : decode cX5_ring 174 = .ok (.iload 6, 2) := by decide +kernel
theorem dX5_ring_176 : decode cX5_ring 176 = .ok (.iconst (-1), 1) := by decide +kernel
theorem dX5_ring_177 : decode cX5_ring 177 = .ok (.if_icmp .ne 7, 3) := by decide +kernel
theorem dX5_ring_180 : decode cX5_ring 180 = .ok (.iconst (-1), 1) := by decide +kernel
theorem dX5_ring_181 : decode cX5_ring 181 = .ok (.goto 7, 3) := by decide +kernel
theorem dX5_ring_184 : decode cX5_ring 184 = .ok (.iload 6, 2) := by decide +kernel
theorem dX5_ring_186 : decode cX5_ring 186 = .ok (.iconst 2, 1) := by decide +kernel
theorem dX5_ring_187 : decode cX5_ring 187 = .ok (.iadd, 1) := by decide +kernel
theorem dX5_ring_188 : decode cX5_ring 188 = .ok (.ireturn, 1) := by decide +kernel
set_option maxRecDepth 20000 in
theorem ggX5_numerator_X5_placementTrouble : GoodIn wsX5_numerator wsX5_placementTrouble := goodIn_r _ [7, 8, 9, 10, 6, 11, 2, 12, 13, 14, 15, 16, 17, 18, 19, 20, 21, 22, 23, 24, 25, 26, 27, 28, 29, 30, 31, 32, 33, 34, 35, 36, 37, 38, 39, 40, 41, 42, 43, 44, 45, 46, 47, 48, 49, 50, 100, 101, 102, 103, 104, 105, 106, 107, 108, 109, 110, 111, 112, 113, 114, 115, 116, 117, 118, 119, 120] (by decide +kernel) (by decide +kernel)
set_option maxRecDepth 20000 in
theorem gX5_numerator_X5_placementTrouble : GoodIn wsX5_numerator (wsV RX5 170 RX5 yX5_placementTrouble wsX5_placementTrouble) := goodIn_app (goodIn_of _ (by decide +kernel)) ggX5_numerator_X5_placementTrouble
set_option maxRecDepth 20000 in
theorem ggX5_numerator_X5_fail : GoodIn wsX5_numerator wsX5_fail := goodIn_r _ [54, 55, 100, 101, 102, 103, 104, 105, 106, 107, 108] (by decide +kernel) (by decide +kernel)
set_option maxRecDepth 20000 in
theorem gX5_numerator_X5_fail : GoodIn wsX5_numerator (wsV RX5 59 RX5 yX5_fail wsX5_fail) := goodIn_app (goodIn_of _ (by decide +kernel)) ggX5_numerator_X5_fail
set_option maxRecDepth 20000 in
theorem ggX5_numerator_X3_solve : GoodIn wsX5_numerator wsX3_solve := goodIn_r _ [60, 61, 62, 63, 64, 65, 66, 67, 68, 69, 70, 71, 59, 72, 73, 74, 75, 76, 77, 78, 79, 80, 81, 82, 83, 84, 85, 109, 110, 111, 112, 113, 114, 121, 122, 123] (by decide +kernel) (by decide +kernel)
set_option maxRecDepth 20000 in
theorem gX5_numerator_X3_solve : GoodIn wsX5_numerator (wsV RX5 174 RX3 yX3_solve wsX3_solve) := goodIn_app (goodIn_of _ (by decide +kernel)) ggX5_numerator_X3_solve
set_option maxRecDepth 20000 in
theorem ggX5_numerator_X3_top : GoodIn wsX5_numerator wsX3_top := goodIn_r _ [89, 90, 91, 92, 59, 93, 73, 62, 94, 95, 96, 97, 68, 98, 6, 99, 121, 122, 123] (by decide +kernel) (by decide +kernel)
set_option maxRecDepth 20000 in
theorem gX5_numerator_X3_top : GoodIn wsX5_numerator (wsV RX5 177 RX3 yX3_top wsX3_top) := goodIn_app (goodIn_of _ (by decide +kernel)) ggX5_numerator_X3_top
theorem dX5_numerator_0 : decode cX5_numerator 0 = .ok (.aload_n 0, 1) := by decide +kernel
theorem dX5_numerator_1 : decode cX5_numerator 1 = .ok (.iload_n 1, 1) := by decide +kernel
theorem dX5_numerator_2 : decode cX5_numerator 2 = .ok (.iload_n 2, 1) := by decide +kernel
theorem dX5_numerator_3 : decode cX5_numerator 3 = .ok (.invokevirtual 170, 3) := by decide +kernel
theorem dX5_numerator_6 : decode cX5_numerator 6 = .ok (.istore_n 3, 1) := by decide +kernel
theorem dX5_numerator_7 : decode cX5_numerator 7 = .ok (.iload_n 3, 1) := by decide +kernel
theorem dX5_numerator_8 : decode cX5_numerator 8 = .ok (.ifCond .eq 10, 3) := by decide +kernel
theorem dX5_numerator_11 : decode cX5_numerator 11 = .ok (.aload_n 0, 1) := by decide +kernel
theorem dX5_numerator_12 : decode cX5_numerator 12 = .ok (.iload_n 3, 1) := by decide +kernel
theorem dX5_numerator_13 : decode cX5_numerator 13 = .ok (.invokevirtual 59, 3) := by decide +kernel
theorem dX5_numerator_16 : decode cX5_numerator 16 = .ok (.i2l, 1) := by decide +kernel
theorem dX5_numerator_17 : decode cX5_numerator 17 = .ok (.lreturn, 1) := by decide +kernel
theorem dX5_numerator_18 : decode cX5_numerator 18 = .ok (.aload_n 0, 1) := by decide +kernel
theorem dX5_numerator_19 : decode cX5_numerator 19 = .ok (.getfield 55, 3) := by decide +kernel
theorem dX5_numerator_22 : decode cX5_numerator 22 = .ok (.aload_n 0, 1) := by decide +kernel
theorem dX5_numerator_23 : decode cX5_numerator 23 = .ok (.getfield 16, 3) := by decide +kernel
theorem dX5_numerator_26 : decode cX5_numerator 26 = .ok (.invokevirtual 174, 3) := by decide +kernel
theorem dX5_numerator_29 : decode cX5_numerator 29 = .ok (.aload_n 0, 1) := by decide +kernel
theorem dX5_numerator_30 : decode cX5_numerator 30 = .ok (.getfield 55, 3) := by decide +kernel
theorem dX5_numerator_33 : decode cX5_numerator 33 = .ok (.iload_n 1, 1) := by decide +kernel
theorem dX5_numerator_34 : decode cX5_numerator 34 = .ok (.iload_n 2, 1) := by decide +kernel
theorem dX5_numerator_35 : decode cX5_numerator 35 = .ok (.invokevirtual 177, 3) := by decide +kernel
theorem dX5_numerator_38 : decode cX5_numerator 38 = .ok (.lreturn, 1) := by decide +kernel
set_option maxRecDepth 20000 in
theorem ggX5_denominator_X5_placementTrouble : GoodIn wsX5_denominator wsX5_placementTrouble := goodIn_r _ [7, 8, 9, 10, 6, 11, 2, 12, 13, 14, 15, 16, 17, 18, 19, 20, 21, 22, 23, 24, 25, 26, 27, 28, 29, 30, 31, 32, 33, 34, 35, 36, 37, 38, 39, 40, 41, 42, 43, 44, 45, 46, 47, 48, 49, 50, 100, 101, 102, 103, 104, 105, 106, 107, 108, 109, 110, 111, 112, 113, 114, 115, 116, 117, 118, 119, 120] (by decide +kernel) (by decide +kernel)
set_option maxRecDepth 20000 in
theorem gX5_denominator_X5_placementTrouble : GoodIn wsX5_denominator (wsV RX5 170 RX5 yX5_placementTrouble wsX5_placementTrouble) := goodIn_app (goodIn_of _ (by decide +kernel)) ggX5_denominator_X5_placementTrouble
set_option maxRecDepth 20000 in
theorem ggX5_denominator_X5_fail : GoodIn wsX5_denominator wsX5_fail := goodIn_r _ [54, 55, 100, 101, 102, 103, 104, 105, 106, 107, 108] (by decide +kernel) (by decide +kernel)
set_option maxRecDepth 20000 in
theorem gX5_denominator_X5_fail : GoodIn wsX5_denominator (wsV RX5 59 RX5 yX5_fail wsX5_fail) := goodIn_app (goodIn_of _ (by decide +kernel)) ggX5_denominator_X5_fail
set_option maxRecDepth 20000 in
theorem ggX5_denominator_X3_solve : GoodIn wsX5_denominator wsX3_solve := goodIn_r _ [60, 61, 62, 63, 64, 65, 66, 67, 68, 69, 70, 71, 59, 72, 73, 74, 75, 76, 77, 78, 79, 80, 81, 82, 83, 84, 85, 109, 110, 111, 112, 113, 114, 121, 122, 123] (by decide +kernel) (by decide +kernel)
set_option maxRecDepth 20000 in
theorem gX5_denominator_X3_solve : GoodIn wsX5_denominator (wsV RX5 174 RX3 yX3_solve wsX3_solve) := goodIn_app (goodIn_of _ (by decide +kernel)) ggX5_denominator_X3_solve
set_option maxRecDepth 20000 in
theorem ggX5_denominator_X3_bottom : GoodIn wsX5_denominator wsX3_bottom := goodIn_r _ [89, 68, 90, 91, 92, 59, 93, 94, 95, 96, 97, 73, 62, 98, 6, 99, 121, 122, 123] (by decide +kernel) (by decide +kernel)
set_option maxRecDepth 20000 in
theorem gX5_denominator_X3_bottom : GoodIn wsX5_denominator (wsV RX5 181 RX3 yX3_bottom wsX3_bottom) := goodIn_app (goodIn_of _ (by decide +kernel)) ggX5_denominator_X3_bottom
theorem dX5_denominator_0 : decode cX5_denominator 0 = .ok (.aload_n 0, 1) := by decide +kernel
theorem dX5_denominator_1 : decode cX5_denominator 1 = .ok (.iload_n 1, 1) := by decide +kernel
theorem dX5_denominator_2 : decode cX5_denominator 2 = .ok (.iload_n 2, 1) := by decide +kernel
theorem dX5_denominator_3 : decode cX5_denominator 3 = .ok (.invokevirtual 170, 3) := by decide +kernel
theorem dX5_denominator_6 : decode cX5_denominator 6 = .ok (.istore_n 3, 1) := by decide +kernel
theorem dX5_denominator_7 : decode cX5_denominator 7 = .ok (.iload_n 3, 1) := by decide +kernel
theorem dX5_denominator_8 : decode cX5_denominator 8 = .ok (.ifCond .eq 10, 3) := by decide +kernel
theorem dX5_denominator_11 : decode cX5_denominator 11 = .ok (.aload_n 0, 1) := by decide +kernel
theorem dX5_denominator_12 : decode cX5_denominator 12 = .ok (.iload_n 3, 1) := by decide +kernel
theorem dX5_denominator_13 : decode cX5_denominator 13 = .ok (.invokevirtual 59, 3) := by decide +kernel
theorem dX5_denominator_16 : decode cX5_denominator 16 = .ok (.i2l, 1) := by decide +kernel
theorem dX5_denominator_17 : decode cX5_denominator 17 = .ok (.lreturn, 1) := by decide +kernel
theorem dX5_denominator_18 : decode cX5_denominator 18 = .ok (.aload_n 0, 1) := by decide +kernel
theorem dX5_denominator_19 : decode cX5_denominator 19 = .ok (.getfield 55, 3) := by decide +kernel
theorem dX5_denominator_22 : decode cX5_denominator 22 = .ok (.aload_n 0, 1) := by decide +kernel
theorem dX5_denominator_23 : decode cX5_denominator 23 = .ok (.getfield 16, 3) := by decide +kernel
theorem dX5_denominator_26 : decode cX5_denominator 26 = .ok (.invokevirtual 174, 3) := by decide +kernel
theorem dX5_denominator_29 : decode cX5_denominator 29 = .ok (.aload_n 0, 1) := by decide +kernel
theorem dX5_denominator_30 : decode cX5_denominator 30 = .ok (.getfield 55, 3) := by decide +kernel
theorem dX5_denominator_33 : decode cX5_denominator 33 = .ok (.iload_n 1, 1) := by decide +kernel
theorem dX5_denominator_34 : decode cX5_denominator 34 = .ok (.iload_n 2, 1) := by decide +kernel
theorem dX5_denominator_35 : decode cX5_denominator 35 = .ok (.invokevirtual 181, 3) := by decide +kernel
theorem dX5_denominator_38 : decode cX5_denominator 38 = .ok (.lreturn, 1) := by decide +kernel
set_option maxRecDepth 20000 in
theorem ggX5_collide_X5_isVertex : GoodIn wsX5_collide wsX5_isVertex := goodIn_r _ [7, 2, 8, 94, 95, 96, 97, 98, 99, 100, 101, 102, 103, 104, 105, 106, 107, 108] (by decide +kernel) (by decide +kernel)
set_option maxRecDepth 20000 in
theorem gX5_collide_X5_isVertex : GoodIn wsX5_collide (wsV RX5 73 RX5 yX5_isVertex wsX5_isVertex) := goodIn_app (goodIn_of _ (by decide +kernel)) ggX5_collide_X5_isVertex
set_option maxRecDepth 20000 in
theorem ggX5_collide_X5_fail : GoodIn wsX5_collide wsX5_fail := goodIn_r _ [12, 13, 94, 95, 96, 97, 98, 99, 100, 101, 102] (by decide +kernel) (by decide +kernel)
set_option maxRecDepth 20000 in
theorem gX5_collide_X5_fail : GoodIn wsX5_collide (wsV RX5 59 RX5 yX5_fail wsX5_fail) := goodIn_app (goodIn_of _ (by decide +kernel)) ggX5_collide_X5_fail
set_option maxRecDepth 20000 in
theorem ggX5_collide_X5_isOnePiece : GoodIn wsX5_collide wsX5_isOnePiece := goodIn_r _ [17, 18, 2, 19, 20, 21, 22, 23, 24, 25, 26, 27, 28, 29, 30, 31, 32, 33, 34, 35, 36, 37, 38, 39, 40, 41, 42, 43, 44, 45, 46, 47, 48, 49, 50, 51, 94, 95, 96, 97, 98, 99, 100, 101, 102, 109, 110, 111, 112, 113, 114, 103, 104, 105, 106, 107, 108] (by decide +kernel) (by decide +kernel)
set_option maxRecDepth 20000 in
theorem gX5_collide_X5_isOnePiece : GoodIn wsX5_collide (wsV RX5 146 RX5 yX5_isOnePiece wsX5_isOnePiece) := goodIn_app (goodIn_of _ (by decide +kernel)) ggX5_collide_X5_isOnePiece
set_option maxRecDepth 20000 in
theorem ggX5_collide_X3_solve : GoodIn wsX5_collide wsX3_solve := goodIn_r _ [56, 57, 58, 59, 60, 61, 62, 63, 64, 65, 66, 67, 55, 68, 69, 70, 71, 72, 73, 74, 75, 76, 77, 78, 79, 80, 81, 103, 104, 105, 106, 107, 108, 115, 116, 117] (by decide +kernel) (by decide +kernel)
set_option maxRecDepth 20000 in
theorem gX5_collide_X3_solve : GoodIn wsX5_collide (wsV RX5 174 RX3 yX3_solve wsX3_solve) := goodIn_app (goodIn_of _ (by decide +kernel)) ggX5_collide_X3_solve
set_option maxRecDepth 20000 in
theorem ggX5_collide_X3_meet : GoodIn wsX5_collide wsX3_meet := goodIn_r _ [85, 86, 87, 88, 55, 89, 64, 90, 91, 92, 93, 69, 58, 115, 116, 117] (by decide +kernel) (by decide +kernel)
set_option maxRecDepth 20000 in
theorem gX5_collide_X3_meet : GoodIn wsX5_collide (wsV RX5 184 RX3 yX3_meet wsX3_meet) := goodIn_app (goodIn_of _ (by decide +kernel)) ggX5_collide_X3_meet
theorem dX5_collide_0 : decode cX5_collide 0 = .ok (.aload_n 0, 1) := by decide +kernel
theorem dX5_collide_1 : decode cX5_collide 1 = .ok (.iload_n 1, 1) := by decide +kernel
theorem dX5_collide_2 : decode cX5_collide 2 = .ok (.invokevirtual 73, 3) := by decide +kernel
theorem dX5_collide_5 : decode cX5_collide 5 = .ok (.ifCond .eq 16, 3) := by decide +kernel
theorem dX5_collide_8 : decode cX5_collide 8 = .ok (.aload_n 0, 1) := by decide +kernel
theorem dX5_collide_9 : decode cX5_collide 9 = .ok (.iload_n 2, 1) := by decide +kernel
theorem dX5_collide_10 : decode cX5_collide 10 = .ok (.invokevirtual 73, 3) := by decide +kernel
theorem dX5_collide_13 : decode cX5_collide 13 = .ok (.ifCond .eq 8, 3) := by decide +kernel
theorem dX5_collide_16 : decode cX5_collide 16 = .ok (.iload_n 1, 1) := by decide +kernel
theorem dX5_collide_17 : decode cX5_collide 17 = .ok (.iload_n 2, 1) := by decide +kernel
theorem dX5_collide_18 : decode cX5_collide 18 = .ok (.if_icmp .ne 10, 3) := by decide +kernel
theorem dX5_collide_21 : decode cX5_collide 21 = .ok (.aload_n 0, 1) := by decide +kernel
theorem dX5_collide_22 : decode cX5_collide 22 = .ok (.bipush (-2), 2) := by decide +kernel
theorem dX5_collide_24 : decode cX5_collide 24 = .ok (.invokevirtual 59, 3) := by decide +kernel
theorem dX5_collide_27 : decode cX5_collide 27 = .ok (.ireturn, 1) := by decide +kernel
theorem dX5_collide_28 : decode cX5_collide 28 = .ok (.aload_n 0, 1) := by decide +kernel
theorem dX5_collide_29 : decode cX5_collide 29 = .ok (.invokevirtual 146, 3) := by decide +kernel
theorem dX5_collide_32 : decode cX5_collide 32 = .ok (.ifCond .ne 10, 3) := by decide +kernel
theorem dX5_collide_35 : decode cX5_collide 35 = .ok (.aload_n 0, 1) := by decide +kernel
theorem dX5_collide_36 : decode cX5_collide 36 = .ok (.bipush (-6), 2) := by decide +kernel
theorem dX5_collide_38 : decode cX5_collide 38 = .ok (.invokevirtual 59, 3) := by decide +kernel
theorem dX5_collide_41 : decode cX5_collide 41 = .ok (.ireturn, 1) := by decide +kernel
theorem dX5_collide_42 : decode cX5_collide 42 = .ok (.aload_n 0, 1) := by decide +kernel
theorem dX5_collide_43 : decode cX5_collide 43 = .ok (.getfield 55, 3) := by decide +kernel
theorem dX5_collide_46 : decode cX5_collide 46 = .ok (.aload_n 0, 1) := by decide +kernel
theorem dX5_collide_47 : decode cX5_collide 47 = .ok (.getfield 16, 3) := by decide +kernel
theorem dX5_collide_50 : decode cX5_collide 50 = .ok (.invokevirtual 174, 3) := by decide +kernel
theorem dX5_collide_53 : decode cX5_collide 53 = .ok (.aload_n 0, 1) := by decide +kernel
theorem dX5_collide_54 : decode cX5_collide 54 = .ok (.getfield 55, 3) := by decide +kernel
theorem dX5_collide_57 : decode cX5_collide 57 = .ok (.iload_n 1, 1) := by decide +kernel
theorem dX5_collide_58 : decode cX5_collide 58 = .ok (.iload_n 2, 1) := by decide +kernel
theorem dX5_collide_59 : decode cX5_collide 59 = .ok (.invokevirtual 184, 3) := by decide +kernel
theorem dX5_collide_62 : decode cX5_collide 62 = .ok (.ifCond .eq 7, 3) := by decide +kernel
theorem dX5_collide_65 : decode cX5_collide 65 = .ok (.iconst 1, 1) := by decide +kernel
theorem dX5_collide_66 : decode cX5_collide 66 = .ok (.goto 4, 3) := by decide +kernel
theorem dX5_collide_69 : decode cX5_collide 69 = .ok (.iconst 0, 1) := by decide +kernel
theorem dX5_collide_70 : decode cX5_collide 70 = .ok (.ireturn, 1) := by decide +kernel
set_option maxRecDepth 20000 in
theorem ggX5_collisions_X5_isOnePiece : GoodIn wsX5_collisions wsX5_isOnePiece := goodIn_r _ [8, 9, 2, 10, 11, 12, 13, 14, 15, 16, 17, 18, 19, 20, 21, 22, 23, 24, 25, 26, 27, 28, 29, 30, 31, 32, 33, 34, 35, 36, 37, 38, 39, 40, 41, 42, 90, 91, 92, 93, 94, 95, 96, 97, 98, 105, 106, 107, 108, 109, 110, 99, 100, 101, 102, 103, 104] (by decide +kernel) (by decide +kernel)
set_option maxRecDepth 20000 in
theorem gX5_collisions_X5_isOnePiece : GoodIn wsX5_collisions (wsV RX5 146 RX5 yX5_isOnePiece wsX5_isOnePiece) := goodIn_app (goodIn_of _ (by decide +kernel)) ggX5_collisions_X5_isOnePiece
set_option maxRecDepth 20000 in
theorem ggX5_collisions_X5_fail : GoodIn wsX5_collisions wsX5_fail := goodIn_r _ [46, 47, 90, 91, 92, 93, 94, 95, 96, 97, 98] (by decide +kernel) (by decide +kernel)
set_option maxRecDepth 20000 in
theorem gX5_collisions_X5_fail : GoodIn wsX5_collisions (wsV RX5 59 RX5 yX5_fail wsX5_fail) := goodIn_app (goodIn_of _ (by decide +kernel)) ggX5_collisions_X5_fail
set_option maxRecDepth 20000 in
theorem ggX5_collisions_X3_solve : GoodIn wsX5_collisions wsX3_solve := goodIn_r _ [52, 53, 54, 55, 56, 57, 58, 59, 60, 61, 62, 63, 51, 64, 65, 66, 67, 68, 69, 70, 71, 72, 73, 74, 75, 76, 77, 99, 100, 101, 102, 103, 104, 111, 112, 113] (by decide +kernel) (by decide +kernel)
set_option maxRecDepth 20000 in
theorem gX5_collisions_X3_solve : GoodIn wsX5_collisions (wsV RX5 174 RX3 yX3_solve wsX3_solve) := goodIn_app (goodIn_of _ (by decide +kernel)) ggX5_collisions_X3_solve
set_option maxRecDepth 20000 in
theorem ggX5_collisions_X3_meet : GoodIn wsX5_collisions wsX3_meet := goodIn_r _ [81, 82, 83, 84, 51, 85, 60, 86, 87, 88, 89, 65, 54, 111, 112, 113] (by decide +kernel) (by decide +kernel)
set_option maxRecDepth 20000 in
theorem gX5_collisions_X3_meet : GoodIn wsX5_collisions (wsV RX5 184 RX3 yX3_meet wsX3_meet) := goodIn_app (goodIn_of _ (by decide +kernel)) ggX5_collisions_X3_meet
theorem dX5_collisions_0 : decode cX5_collisions 0 = .ok (.aload_n 0, 1) := by decide +kernel
theorem dX5_collisions_1 : decode cX5_collisions 1 = .ok (.invokevirtual 146, 3) := by decide +kernel
theorem dX5_collisions_4 : decode cX5_collisions 4 = .ok (.ifCond .ne 10, 3) := by decide +kernel
theorem dX5_collisions_7 : decode cX5_collisions 7 = .ok (.aload_n 0, 1) := by decide +kernel
theorem dX5_collisions_8 : decode cX5_collisions 8 = .ok (.bipush (-6), 2) := by decide +kernel
theorem dX5_collisions_10 : decode cX5_collisions 10 = .ok (.invokevirtual 59, 3) := by decide +kernel
theorem dX5_collisions_13 : decode cX5_collisions 13 = .ok (.ireturn, 1) := by decide +kernel
theorem dX5_collisions_14 : decode cX5_collisions 14 = .ok (.aload_n 0, 1) := by decide +kernel
theorem dX5_collisions_15 : decode cX5_collisions 15 = .ok (.getfield 55, 3) := by decide +kernel
theorem dX5_collisions_18 : decode cX5_collisions 18 = .ok (.aload_n 0, 1) := by decide +kernel
theorem dX5_collisions_19 : decode cX5_collisions 19 = .ok (.getfield 16, 3) := by decide +kernel
theorem dX5_collisions_22 : decode cX5_collisions 22 = .ok (.invokevirtual 174, 3) := by decide +kernel
theorem dX5_collisions_25 : decode cX5_collisions 25 = .ok (.iconst 0, 1) := by decide +kernel
theorem dX5_collisions_26 : decode cX5_collisions 26 = .ok (.istore_n 1, 1) := by decide +kernel
theorem dX5_collisions_27 : decode cX5_collisions 27 = .ok (.iconst 0, 1) := by decide +kernel
theorem dX5_collisions_28 : decode cX5_collisions 28 = .ok (.istore_n 2, 1) := by decide +kernel
theorem dX5_collisions_29 : decode cX5_collisions 29 = .ok (.iload_n 2, 1) := by decide +kernel
theorem dX5_collisions_30 : decode cX5_collisions 30 = .ok (.aload_n 0, 1) := by decide +kernel
theorem dX5_collisions_31 : decode cX5_collisions 31 = .ok (.getfield 16, 3) := by decide +kernel
theorem dX5_collisions_34 : decode cX5_collisions 34 = .ok (.getfield 63, 3) := by decide +kernel
theorem dX5_collisions_37 : decode cX5_collisions 37 = .ok (.if_icmp .ge 45, 3) := by decide +kernel
theorem dX5_collisions_40 : decode cX5_collisions 40 = .ok (.iload_n 2, 1) := by decide +kernel
theorem dX5_collisions_41 : decode cX5_collisions 41 = .ok (.iconst 1, 1) := by decide +kernel
theorem dX5_collisions_42 : decode cX5_collisions 42 = .ok (.iadd, 1) := by decide +kernel
theorem dX5_collisions_43 : decode cX5_collisions 43 = .ok (.istore_n 3, 1) := by decide +kernel
theorem dX5_collisions_44 : decode cX5_collisions 44 = .ok (.iload_n 3, 1) := by decide +kernel
theorem dX5_collisions_45 : decode cX5_collisions 45 = .ok (.aload_n 0, 1) := by decide +kernel
theorem dX5_collisions_46 : decode cX5_collisions 46 = .ok (.getfield 16, 3) := by decide +kernel
theorem dX5_collisions_49 : decode cX5_collisions 49 = .ok (.getfield 63, 3) := by decide +kernel
theorem dX5_collisions_52 : decode cX5_collisions 52 = .ok (.if_icmp .ge 24, 3) := by decide +kernel
theorem dX5_collisions_55 : decode cX5_collisions 55 = .ok (.aload_n 0, 1) := by decide +kernel
theorem dX5_collisions_56 : decode cX5_collisions 56 = .ok (.getfield 55, 3) := by decide +kernel
theorem dX5_collisions_59 : decode cX5_collisions 59 = .ok (.iload_n 2, 1) := by decide +kernel
theorem dX5_collisions_60 : decode cX5_collisions 60 = .ok (.iload_n 3, 1) := by decide +kernel
theorem dX5_collisions_61 : decode cX5_collisions 61 = .ok (.invokevirtual 184, 3) := by decide +kernel
theorem dX5_collisions_64 : decode cX5_collisions 64 = .ok (.ifCond .eq 6, 3) := by decide +kernel
theorem dX5_collisions_67 : decode cX5_collisions 67 = .ok (.iinc 1 1, 3) := by decide +kernel
theorem dX5_collisions_70 : decode cX5_collisions 70 = .ok (.iinc 3 1, 3) := by decide +kernel
theorem dX5_collisions_73 : decode cX5_collisions 73 = .ok (.goto (-29), 3) := by decide +kernel
theorem dX5_collisions_76 : decode cX5_collisions 76 = .ok (.iinc 2 1, 3) := by decide +kernel
theorem dX5_collisions_79 : decode cX5_collisions 79 = .ok (.goto (-50), 3) := by decide +kernel
theorem dX5_collisions_82 : decode cX5_collisions 82 = .ok (.iload_n 1, 1) := by decide +kernel
theorem dX5_collisions_83 : decode cX5_collisions 83 = .ok (.ireturn, 1) := by decide +kernel
set_option maxRecDepth 20000 in
theorem ggX5_positionBits_X5_placementTrouble : GoodIn wsX5_positionBits wsX5_placementTrouble := goodIn_r _ [7, 8, 9, 10, 6, 11, 2, 12, 13, 14, 15, 16, 17, 18, 19, 20, 21, 22, 23, 24, 25, 26, 27, 28, 29, 30, 31, 32, 33, 34, 35, 36, 37, 38, 39, 40, 41, 42, 43, 44, 45, 46, 47, 48, 49, 50, 110, 111, 112, 113, 114, 115, 116, 117, 118, 119, 120, 121, 122, 123, 124, 125, 126, 127, 128, 129, 130] (by decide +kernel) (by decide +kernel)
set_option maxRecDepth 20000 in
theorem gX5_positionBits_X5_placementTrouble : GoodIn wsX5_positionBits (wsV RX5 170 RX5 yX5_placementTrouble wsX5_placementTrouble) := goodIn_app (goodIn_of _ (by decide +kernel)) ggX5_positionBits_X5_placementTrouble
set_option maxRecDepth 20000 in
theorem ggX5_positionBits_X5_fail : GoodIn wsX5_positionBits wsX5_fail := goodIn_r _ [54, 55, 110, 111, 112, 113, 114, 115, 116, 117, 118] (by decide +kernel) (by decide +kernel)
set_option maxRecDepth 20000 in
theorem gX5_positionBits_X5_fail : GoodIn wsX5_positionBits (wsV RX5 59 RX5 yX5_fail wsX5_fail) := goodIn_app (goodIn_of _ (by decide +kernel)) ggX5_positionBits_X5_fail
set_option maxRecDepth 20000 in
theorem ggX5_positionBits_X3_solve : GoodIn wsX5_positionBits wsX3_solve := goodIn_r _ [60, 61, 62, 63, 64, 65, 66, 67, 68, 69, 70, 71, 59, 72, 73, 74, 75, 76, 77, 78, 79, 80, 81, 82, 83, 84, 85, 119, 120, 121, 122, 123, 124, 131, 132, 133] (by decide +kernel) (by decide +kernel)
set_option maxRecDepth 20000 in
theorem gX5_positionBits_X3_solve : GoodIn wsX5_positionBits (wsV RX5 174 RX3 yX3_solve wsX3_solve) := goodIn_app (goodIn_of _ (by decide +kernel)) ggX5_positionBits_X3_solve
set_option maxRecDepth 20000 in
theorem ggX5_positionBits_X3_bottom : GoodIn wsX5_positionBits wsX3_bottom := goodIn_r _ [89, 68, 90, 91, 92, 59, 93, 94, 95, 96, 97, 73, 62, 98, 6, 99, 131, 132, 133] (by decide +kernel) (by decide +kernel)
set_option maxRecDepth 20000 in
theorem gX5_positionBits_X3_bottom : GoodIn wsX5_positionBits (wsV RX5 181 RX3 yX3_bottom wsX3_bottom) := goodIn_app (goodIn_of _ (by decide +kernel)) ggX5_positionBits_X3_bottom
set_option maxRecDepth 20000 in
theorem ggX5_positionBits_X3_top : GoodIn wsX5_positionBits wsX3_top := goodIn_r _ [103, 94, 95, 96, 59, 97, 73, 62, 90, 91, 92, 93, 68, 98, 6, 99, 131, 132, 133] (by decide +kernel) (by decide +kernel)
set_option maxRecDepth 20000 in
theorem gX5_positionBits_X3_top : GoodIn wsX5_positionBits (wsV RX5 177 RX3 yX3_top wsX3_top) := goodIn_app (goodIn_of _ (by decide +kernel)) ggX5_positionBits_X3_top
set_option maxRecDepth 20000 in
theorem ggX5_positionBits_X5_floatBits : GoodIn wsX5_positionBits wsX5_floatBits := goodIn_r _ [106, 107, 108, 109] (by decide +kernel) (by decide +kernel)
set_option maxRecDepth 20000 in
theorem gX5_positionBits_X5_floatBits : GoodIn wsX5_positionBits (va_wsS RX5 187 yX5_floatBits wsX5_floatBits) := goodIn_app (goodIn_of _ (by decide +kernel)) ggX5_positionBits_X5_floatBits
theorem dX5_positionBits_0 : decode cX5_positionBits 0 = .ok (.aload_n 0, 1) := by decide +kernel
theorem dX5_positionBits_1 : decode cX5_positionBits 1 = .ok (.iload_n 1, 1) := by decide +kernel
theorem dX5_positionBits_2 : decode cX5_positionBits 2 = .ok (.iload_n 2, 1) := by decide +kernel
theorem dX5_positionBits_3 : decode cX5_positionBits 3 = .ok (.invokevirtual 170, 3) := by decide +kernel
theorem dX5_positionBits_6 : decode cX5_positionBits 6 = .ok (.istore_n 3, 1) := by decide +kernel
theorem dX5_positionBits_7 : decode cX5_positionBits 7 = .ok (.iload_n 3, 1) := by decide +kernel
theorem dX5_positionBits_8 : decode cX5_positionBits 8 = .ok (.ifCond .eq 9, 3) := by decide +kernel
theorem dX5_positionBits_11 : decode cX5_positionBits 11 = .ok (.aload_n 0, 1) := by decide +kernel
theorem dX5_positionBits_12 : decode cX5_positionBits 12 = .ok (.iload_n 3, 1) := by decide +kernel
theorem dX5_positionBits_13 : decode cX5_positionBits 13 = .ok (.invokevirtual 59, 3) := by decide +kernel
theorem dX5_positionBits_16 : decode cX5_positionBits 16 = .ok (.ireturn, 1) := by decide +kernel
theorem dX5_positionBits_17 : decode cX5_positionBits 17 = .ok (.aload_n 0, 1) := by decide +kernel
theorem dX5_positionBits_18 : decode cX5_positionBits 18 = .ok (.getfield 55, 3) := by decide +kernel
theorem dX5_positionBits_21 : decode cX5_positionBits 21 = .ok (.aload_n 0, 1) := by decide +kernel
theorem dX5_positionBits_22 : decode cX5_positionBits 22 = .ok (.getfield 16, 3) := by decide +kernel
theorem dX5_positionBits_25 : decode cX5_positionBits 25 = .ok (.invokevirtual 174, 3) := by decide +kernel
theorem dX5_positionBits_28 : decode cX5_positionBits 28 = .ok (.aload_n 0, 1) := by decide +kernel
theorem dX5_positionBits_29 : decode cX5_positionBits 29 = .ok (.getfield 55, 3) := by decide +kernel
theorem dX5_positionBits_32 : decode cX5_positionBits 32 = .ok (.iload_n 1, 1) := by decide +kernel
theorem dX5_positionBits_33 : decode cX5_positionBits 33 = .ok (.iload_n 2, 1) := by decide +kernel
theorem dX5_positionBits_34 : decode cX5_positionBits 34 = .ok (.invokevirtual 181, 3) := by decide +kernel
theorem dX5_positionBits_37 : decode cX5_positionBits 37 = .ok (.l2f, 1) := by decide +kernel
theorem dX5_positionBits_38 : decode cX5_positionBits 38 = .ok (.fstore 4, 2) := by decide +kernel
theorem dX5_positionBits_40 : decode cX5_positionBits 40 = .ok (.fload 4, 2) := by decide +kernel
theorem dX5_positionBits_42 : decode cX5_positionBits 42 = .ok (.fconst 0, 1) := by decide +kernel
theorem dX5_positionBits_43 : decode cX5_positionBits 43 = .ok (.fcmp .l, 1) := by decide +kernel
theorem dX5_positionBits_44 : decode cX5_positionBits 44 = .ok (.ifCond .le 22, 3) := by decide +kernel
theorem dX5_positionBits_47 : decode cX5_positionBits 47 = .ok (.aload_n 0, 1) := by decide +kernel
theorem dX5_positionBits_48 : decode cX5_positionBits 48 = .ok (.getfield 55, 3) := by decide +kernel
theorem dX5_positionBits_51 : decode cX5_positionBits 51 = .ok (.iload_n 1, 1) := by decide +kernel
theorem dX5_positionBits_52 : decode cX5_positionBits 52 = .ok (.iload_n 2, 1) := by decide +kernel
theorem dX5_positionBits_53 : decode cX5_positionBits 53 = .ok (.invokevirtual 177, 3) := by decide +kernel
theorem dX5_positionBits_56 : decode cX5_positionBits 56 = .ok (.l2f, 1) := by decide +kernel
theorem dX5_positionBits_57 : decode cX5_positionBits 57 = .ok (.fload 4, 2) := by decide +kernel
theorem dX5_positionBits_59 : decode cX5_positionBits 59 = .ok (.fdiv, 1) := by decide +kernel
theorem dX5_positionBits_60 : decode cX5_positionBits 60 = .ok (.invokestatic 187, 3) := by decide +kernel
theorem dX5_positionBits_63 : decode cX5_positionBits 63 = .ok (.goto 4, 3) := by decide +kernel
theorem dX5_positionBits_66 : decode cX5_positionBits 66 = .ok (.iconst 0, 1) := by decide +kernel
theorem dX5_positionBits_67 : decode cX5_positionBits 67 = .ok (.ireturn, 1) := by decide +kernel
set_option maxRecDepth 20000 in
theorem ggX5_undo_X5_fail : GoodIn wsX5_undo wsX5_fail := goodIn_r _ [9, 10, 52, 53, 54, 55, 56, 57, 58, 59, 60] (by decide +kernel) (by decide +kernel)
set_option maxRecDepth 20000 in
theorem gX5_undo_X5_fail : GoodIn wsX5_undo (wsV RX5 59 RX5 yX5_fail wsX5_fail) := goodIn_app (goodIn_of _ (by decide +kernel)) ggX5_undo_X5_fail
set_option maxRecDepth 20000 in
theorem ggX5_undo_X2_copyFrom : GoodIn wsX5_undo wsX2_copyFrom := goodIn_r _ [15, 16, 17, 18, 19, 20, 21, 22, 23, 24, 14, 25, 26, 27, 28, 29, 30, 31, 32, 33, 61, 62, 63, 64, 65, 66] (by decide +kernel) (by decide +kernel)
set_option maxRecDepth 20000 in
theorem gX5_undo_X2_copyFrom : GoodIn wsX5_undo (wsV RX5 87 RX2 yX2_copyFrom wsX2_copyFrom) := goodIn_app (goodIn_of _ (by decide +kernel)) ggX5_undo_X2_copyFrom
set_option maxRecDepth 20000 in
theorem ggX5_undo_X1_listAll : GoodIn wsX5_undo wsX1_listAll := goodIn_r _ [38, 39, 40, 41, 42, 43, 44, 45, 46, 47, 37, 48, 49, 50, 51, 67, 68, 69, 70, 61, 62, 63, 64, 65, 66] (by decide +kernel) (by decide +kernel)
set_option maxRecDepth 20000 in
theorem gX5_undo_X1_listAll : GoodIn wsX5_undo (wsV RX5 191 RX1 yX1_listAll wsX1_listAll) := goodIn_app (goodIn_of _ (by decide +kernel)) ggX5_undo_X1_listAll
theorem dX5_undo_0 : decode cX5_undo 0 = .ok (.aload_n 0, 1) := by decide +kernel
theorem dX5_undo_1 : decode cX5_undo 1 = .ok (.getfield 27, 3) := by decide +kernel
theorem dX5_undo_4 : decode cX5_undo 4 = .ok (.iconst 1, 1) := by decide +kernel
theorem dX5_undo_5 : decode cX5_undo 5 = .ok (.if_icmp .ge 10, 3) := by decide +kernel
theorem dX5_undo_8 : decode cX5_undo 8 = .ok (.aload_n 0, 1) := by decide +kernel
theorem dX5_undo_9 : decode cX5_undo 9 = .ok (.bipush (-7), 2) := by decide +kernel
theorem dX5_undo_11 : decode cX5_undo 11 = .ok (.invokevirtual 59, 3) := by decide +kernel
theorem dX5_undo_14 : decode cX5_undo 14 = .ok (.ireturn, 1) := by decide +kernel
theorem dX5_undo_15 : decode cX5_undo 15 = .ok (.aload_n 0, 1) := by decide +kernel
theorem dX5_undo_16 : decode cX5_undo 16 = .ok (.dup, 1) := by decide +kernel
theorem dX5_undo_17 : decode cX5_undo 17 = .ok (.getfield 27, 3) := by decide +kernel
theorem dX5_undo_20 : decode cX5_undo 20 = .ok (.iconst 1, 1) := by decide +kernel
theorem dX5_undo_21 : decode cX5_undo 21 = .ok (.isub, 1) := by decide +kernel
theorem dX5_undo_22 : decode cX5_undo 22 = .ok (.putfield 27, 3) := by decide +kernel
theorem dX5_undo_25 : decode cX5_undo 25 = .ok (.aload_n 0, 1) := by decide +kernel
theorem dX5_undo_26 : decode cX5_undo 26 = .ok (.getfield 16, 3) := by decide +kernel
theorem dX5_undo_29 : decode cX5_undo 29 = .ok (.aload_n 0, 1) := by decide +kernel
theorem dX5_undo_30 : decode cX5_undo 30 = .ok (.getfield 23, 3) := by decide +kernel
theorem dX5_undo_33 : decode cX5_undo 33 = .ok (.aload_n 0, 1) := by decide +kernel
theorem dX5_undo_34 : decode cX5_undo 34 = .ok (.getfield 27, 3) := by decide +kernel
theorem dX5_undo_37 : decode cX5_undo 37 = .ok (.aaload, 1) := by decide +kernel
theorem dX5_undo_38 : decode cX5_undo 38 = .ok (.invokevirtual 87, 3) := by decide +kernel
theorem dX5_undo_41 : decode cX5_undo 41 = .ok (.aload_n 0, 1) := by decide +kernel
theorem dX5_undo_42 : decode cX5_undo 42 = .ok (.getfield 34, 3) := by decide +kernel
theorem dX5_undo_45 : decode cX5_undo 45 = .ok (.aload_n 0, 1) := by decide +kernel
theorem dX5_undo_46 : decode cX5_undo 46 = .ok (.getfield 16, 3) := by decide +kernel
theorem dX5_undo_49 : decode cX5_undo 49 = .ok (.invokevirtual 191, 3) := by decide +kernel
theorem dX5_undo_52 : decode cX5_undo 52 = .ok (.aload_n 0, 1) := by decide +kernel
theorem dX5_undo_53 : decode cX5_undo 53 = .ok (.getfield 27, 3) := by decide +kernel
theorem dX5_undo_56 : decode cX5_undo 56 = .ok (.ireturn, 1) := by decide +kernel
set_option maxRecDepth 20000 in
theorem ggX5_errorCount_X5_fail : GoodIn wsX5_errorCount wsX5_fail := goodIn_r _ [6, 1, 7, 8, 9, 10, 11, 12, 13, 14, 15] (by decide +kernel) (by decide +kernel)
set_option maxRecDepth 20000 in
theorem gX5_errorCount_X5_fail : GoodIn wsX5_errorCount (wsV RX5 59 RX5 yX5_fail wsX5_fail) := goodIn_app (goodIn_of _ (by decide +kernel)) ggX5_errorCount_X5_fail
theorem dX5_errorCount_0 : decode cX5_errorCount 0 = .ok (.iload_n 1, 1) := by decide +kernel
theorem dX5_errorCount_1 : decode cX5_errorCount 1 = .ok (.bipush (-2), 2) := by decide +kernel
theorem dX5_errorCount_3 : decode cX5_errorCount 3 = .ok (.if_icmp .gt 9, 3) := by decide +kernel
theorem dX5_errorCount_6 : decode cX5_errorCount 6 = .ok (.iload_n 1, 1) := by decide +kernel
theorem dX5_errorCount_7 : decode cX5_errorCount 7 = .ok (.bipush (-7), 2) := by decide +kernel
theorem dX5_errorCount_9 : decode cX5_errorCount 9 = .ok (.if_icmp .ge 10, 3) := by decide +kernel
theorem dX5_errorCount_12 : decode cX5_errorCount 12 = .ok (.aload_n 0, 1) := by decide +kernel
theorem dX5_errorCount_13 : decode cX5_errorCount 13 = .ok (.bipush (-2), 2) := by decide +kernel
theorem dX5_errorCount_15 : decode cX5_errorCount 15 = .ok (.invokevirtual 59, 3) := by decide +kernel
theorem dX5_errorCount_18 : decode cX5_errorCount 18 = .ok (.ireturn, 1) := by decide +kernel
theorem dX5_errorCount_19 : decode cX5_errorCount 19 = .ok (.aload_n 0, 1) := by decide +kernel
theorem dX5_errorCount_20 : decode cX5_errorCount 20 = .ok (.getfield 9, 3) := by decide +kernel
theorem dX5_errorCount_23 : decode cX5_errorCount 23 = .ok (.bipush (-2), 2) := by decide +kernel
theorem dX5_errorCount_25 : decode cX5_errorCount 25 = .ok (.iload_n 1, 1) := by decide +kernel
theorem dX5_errorCount_26 : decode cX5_errorCount 26 = .ok (.isub, 1) := by decide +kernel
theorem dX5_errorCount_27 : decode cX5_errorCount 27 = .ok (.iaload, 1) := by decide +kernel
theorem dX5_errorCount_28 : decode cX5_errorCount 28 = .ok (.ireturn, 1) := by decide +kernel
set_option maxRecDepth 20000 in
theorem ggX5_digest_X5_mix : GoodIn wsX5_digest wsX5_mix := goodIn_r _ [9, 10] (by decide +kernel) (by decide +kernel)
set_option maxRecDepth 20000 in
theorem gX5_digest_X5_mix : GoodIn wsX5_digest (va_wsS RX5 196 yX5_mix wsX5_mix) := goodIn_app (goodIn_of _ (by decide +kernel)) ggX5_digest_X5_mix
set_option maxRecDepth 20000 in
theorem ggX5_digest_X5_mixGraph : GoodIn wsX5_digest wsX5_mixGraph := goodIn_r _ [14, 3, 4, 15, 16, 17, 18, 19, 6, 7, 8, 9, 10, 173, 174, 175, 176, 177, 178, 179, 180, 181, 182, 183, 184, 185, 186, 187] (by decide +kernel) (by decide +kernel)
set_option maxRecDepth 20000 in
theorem gX5_digest_X5_mixGraph : GoodIn wsX5_digest (wsV RX5 200 RX5 yX5_mixGraph wsX5_mixGraph) := goodIn_app (goodIn_of _ (by decide +kernel)) ggX5_digest_X5_mixGraph
set_option maxRecDepth 20000 in
theorem ggX5_digest_X5_mixSurroundings : GoodIn wsX5_digest wsX5_mixSurroundings := goodIn_r _ [23, 24, 25, 26, 27, 3, 6, 7, 8, 9, 10, 28, 29, 30, 31, 32, 33, 34, 35, 36, 37, 38, 39, 40, 41, 42, 43, 44, 45, 46, 47, 48, 49, 50, 51, 52, 53, 54, 55, 56, 57, 58, 59, 60, 61, 62, 63, 64, 65, 66, 67, 68, 69, 70, 71, 72, 73, 74, 75, 76, 77, 78, 79, 80, 81, 82, 83, 84, 85, 86, 87, 88, 89, 90, 91, 92, 93, 94, 95, 96, 97, 98, 99, 100, 101, 102, 103, 104, 105, 106, 107, 108, 109, 110, 111, 112, 113, 173, 174, 175, 176, 177, 178, 179, 180, 181, 188, 189, 190, 191, 192, 193, 194, 195, 196, 197, 198, 199, 200, 201, 182, 183, 184, 185, 186, 187] (by decide +kernel) (by decide +kernel)
set_option maxRecDepth 20000 in
theorem gX5_digest_X5_mixSurroundings : GoodIn wsX5_digest (wsV RX5 204 RX5 yX5_mixSurroundings wsX5_mixSurroundings) := goodIn_app (goodIn_of _ (by decide +kernel)) ggX5_digest_X5_mixSurroundings
set_option maxRecDepth 20000 in
theorem ggX5_digest_X5_isOnePiece : GoodIn wsX5_digest wsX5_isOnePiece := goodIn_r _ [117, 27, 3, 71, 72, 73, 74, 75, 76, 77, 78, 79, 80, 81, 82, 83, 84, 85, 86, 87, 88, 89, 90, 91, 92, 93, 94, 95, 96, 97, 98, 99, 118, 119, 120, 121, 173, 174, 175, 176, 177, 178, 179, 180, 181, 196, 197, 198, 199, 200, 201, 182, 183, 184, 185, 186, 187] (by decide +kernel) (by decide +kernel)
set_option maxRecDepth 20000 in
theorem gX5_digest_X5_isOnePiece : GoodIn wsX5_digest (wsV RX5 146 RX5 yX5_isOnePiece wsX5_isOnePiece) := goodIn_app (goodIn_of _ (by decide +kernel)) ggX5_digest_X5_isOnePiece
set_option maxRecDepth 20000 in
theorem ggX5_digest_X5_mixPositions : GoodIn wsX5_digest wsX5_mixPositions := goodIn_r _ [125, 126, 3, 4, 127, 128, 129, 130, 131, 132, 133, 134, 135, 136, 137, 138, 139, 140, 141, 142, 143, 144, 145, 146, 147, 148, 149, 150, 151, 152, 153, 154, 155, 156, 157, 158, 159, 160, 161, 162, 163, 164, 165, 166, 167, 168, 108, 8, 109, 6, 7, 9, 10, 169, 170, 171, 172, 173, 174, 175, 176, 177, 178, 179, 180, 181, 182, 183, 184, 185, 186, 187, 202, 203, 204] (by decide +kernel) (by decide +kernel)
set_option maxRecDepth 20000 in
theorem gX5_digest_X5_mixPositions : GoodIn wsX5_digest (wsV RX5 208 RX5 yX5_mixPositions wsX5_mixPositions) := goodIn_app (goodIn_of _ (by decide +kernel)) ggX5_digest_X5_mixPositions
theorem dX5_digest_0 : decode cX5_digest 0 = .ok (.ldc2_w 194, 3) := by decide +kernel
theorem dX5_digest_3 : decode cX5_digest 3 = .ok (.lstore_n 1, 1) := by decide +kernel
theorem dX5_digest_4 : decode cX5_digest 4 = .ok (.iconst 0, 1) := by decide +kernel
theorem dX5_digest_5 : decode cX5_digest 5 = .ok (.istore_n 3, 1) := by decide +kernel
theorem dX5_digest_6 : decode cX5_digest 6 = .ok (.iload_n 3, 1) := by decide +kernel
theorem dX5_digest_7 : decode cX5_digest 7 = .ok (.bipush 6, 2) := by decide +kernel
theorem dX5_digest_9 : decode cX5_digest 9 = .ok (.if_icmp .ge 21, 3) := by decide +kernel
theorem dX5_digest_12 : decode cX5_digest 12 = .ok (.lload_n 1, 1) := by decide +kernel
theorem dX5_digest_13 : decode cX5_digest 13 = .ok (.aload_n 0, 1) := by decide +kernel
theorem dX5_digest_14 : decode cX5_digest 14 = .ok (.getfield 9, 3) := by decide +kernel
theorem dX5_digest_17 : decode cX5_digest 17 = .ok (.iload_n 3, 1) := by decide +kernel
theorem dX5_digest_18 : decode cX5_digest 18 = .ok (.iaload, 1) := by decide +kernel
theorem dX5_digest_19 : decode cX5_digest 19 = .ok (.i2l, 1) := by decide +kernel
theorem dX5_digest_20 : decode cX5_digest 20 = .ok (.invokestatic 196, 3) := by decide +kernel
theorem dX5_digest_23 : decode cX5_digest 23 = .ok (.lstore_n 1, 1) := by decide +kernel
theorem dX5_digest_24 : decode cX5_digest 24 = .ok (.iinc 3 1, 3) := by decide +kernel
theorem dX5_digest_27 : decode cX5_digest 27 = .ok (.goto (-21), 3) := by decide +kernel
theorem dX5_digest_30 : decode cX5_digest 30 = .ok (.aload_n 0, 1) := by decide +kernel
theorem dX5_digest_31 : decode cX5_digest 31 = .ok (.lload_n 1, 1) := by decide +kernel
theorem dX5_digest_32 : decode cX5_digest 32 = .ok (.invokevirtual 200, 3) := by decide +kernel
theorem dX5_digest_35 : decode cX5_digest 35 = .ok (.lstore_n 1, 1) := by decide +kernel
theorem dX5_digest_36 : decode cX5_digest 36 = .ok (.iconst 0, 1) := by decide +kernel
theorem dX5_digest_37 : decode cX5_digest 37 = .ok (.istore_n 3, 1) := by decide +kernel
theorem dX5_digest_38 : decode cX5_digest 38 = .ok (.iload_n 3, 1) := by decide +kernel
theorem dX5_digest_39 : decode cX5_digest 39 = .ok (.aload_n 0, 1) := by decide +kernel
theorem dX5_digest_40 : decode cX5_digest 40 = .ok (.getfield 16, 3) := by decide +kernel
theorem dX5_digest_43 : decode cX5_digest 43 = .ok (.getfield 63, 3) := by decide +kernel
theorem dX5_digest_46 : decode cX5_digest 46 = .ok (.if_icmp .ge 16, 3) := by decide +kernel
theorem dX5_digest_49 : decode cX5_digest 49 = .ok (.aload_n 0, 1) := by decide +kernel
theorem dX5_digest_50 : decode cX5_digest 50 = .ok (.lload_n 1, 1) := by decide +kernel
theorem dX5_digest_51 : decode cX5_digest 51 = .ok (.iload_n 3, 1) := by decide +kernel
theorem dX5_digest_52 : decode cX5_digest 52 = .ok (.invokevirtual 204, 3) := by decide +kernel
theorem dX5_digest_55 : decode cX5_digest 55 = .ok (.lstore_n 1, 1) := by decide +kernel
theorem dX5_digest_56 : decode cX5_digest 56 = .ok (.iinc 3 1, 3) := by decide +kernel
theorem dX5_digest_59 : decode cX5_digest 59 = .ok (.goto (-21), 3) := by decide +kernel
theorem dX5_digest_62 : decode cX5_digest 62 = .ok (.aload_n 0, 1) := by decide +kernel
theorem dX5_digest_63 : decode cX5_digest 63 = .ok (.invokevirtual 146, 3) := by decide +kernel
theorem dX5_digest_66 : decode cX5_digest 66 = .ok (.istore_n 3, 1) := by decide +kernel
theorem dX5_digest_67 : decode cX5_digest 67 = .ok (.lload_n 1, 1) := by decide +kernel
theorem dX5_digest_68 : decode cX5_digest 68 = .ok (.iload_n 3, 1) := by decide +kernel
theorem dX5_digest_69 : decode cX5_digest 69 = .ok (.ifCond .eq 7, 3) := by decide +kernel
theorem dX5_digest_72 : decode cX5_digest 72 = .ok (.lconst 1, 1) := by decide +kernel
theorem dX5_digest_73 : decode cX5_digest 73 = .ok (.goto 4, 3) := by decide +kernel
theorem dX5_digest_76 : decode cX5_digest 76 = .ok (.lconst 0, 1) := by decide +kernel
theorem dX5_digest_77 : decode cX5_digest 77 = .ok (.invokestatic 196, 3) := by decide +kernel
theorem dX5_digest_80 : decode cX5_digest 80 = .ok (.lstore_n 1, 1) := by decide +kernel
theorem dX5_digest_81 : decode cX5_digest 81 = .ok (.iload_n 3, 1) := by decide +kernel
theorem dX5_digest_82 : decode cX5_digest 82 = .ok (.ifCond .eq 9, 3) := by decide +kernel
theorem dX5_digest_85 : decode cX5_digest 85 = .ok (.aload_n 0, 1) := by decide +kernel
theorem dX5_digest_86 : decode cX5_digest 86 = .ok (.lload_n 1, 1) := by decide +kernel
theorem dX5_digest_87 : decode cX5_digest 87 = .ok (.invokevirtual 208, 3) := by decide +kernel
theorem dX5_digest_90 : decode cX5_digest 90 = .ok (.lstore_n 1, 1) := by decide +kernel
theorem dX5_digest_91 : decode cX5_digest 91 = .ok (.lload_n 1, 1) := by decide +kernel
theorem dX5_digest_92 : decode cX5_digest 92 = .ok (.aload_n 0, 1) := by decide +kernel
theorem dX5_digest_93 : decode cX5_digest 93 = .ok (.getfield 27, 3) := by decide +kernel
theorem dX5_digest_96 : decode cX5_digest 96 = .ok (.i2l, 1) := by decide +kernel
theorem dX5_digest_97 : decode cX5_digest 97 = .ok (.invokestatic 196, 3) := by decide +kernel
theorem dX5_digest_100 : decode cX5_digest 100 = .ok (.lreturn, 1) := by decide +kernel
theorem dX5_fail_0 : decode cX5_fail 0 = .ok (.bipush (-2), 2) := by decide +kernel
theorem dX5_fail_2 : decode cX5_fail 2 = .ok (.iload_n 1, 1) := by decide +kernel
theorem dX5_fail_3 : decode cX5_fail 3 = .ok (.isub, 1) := by decide +kernel
theorem dX5_fail_4 : decode cX5_fail 4 = .ok (.istore_n 2, 1) := by decide +kernel
theorem dX5_fail_5 : decode cX5_fail 5 = .ok (.iload_n 2, 1) := by decide +kernel
theorem dX5_fail_6 : decode cX5_fail 6 = .ok (.ifCond .lt 19, 3) := by decide +kernel
theorem dX5_fail_9 : decode cX5_fail 9 = .ok (.iload_n 2, 1) := by decide +kernel
theorem dX5_fail_10 : decode cX5_fail 10 = .ok (.bipush 6, 2) := by decide +kernel
theorem dX5_fail_12 : decode cX5_fail 12 = .ok (.if_icmp .ge 13, 3) := by decide +kernel
theorem dX5_fail_15 : decode cX5_fail 15 = .ok (.aload_n 0, 1) := by decide +kernel
theorem dX5_fail_16 : decode cX5_fail 16 = .ok (.getfield 9, 3) := by decide +kernel
theorem dX5_fail_19 : decode cX5_fail 19 = .ok (.iload_n 2, 1) := by decide +kernel
theorem dX5_fail_20 : decode cX5_fail 20 = .ok (.dup2, 1) := by decide +kernel
theorem dX5_fail_21 : decode cX5_fail 21 = .ok (.iaload, 1) := by decide +kernel
theorem dX5_fail_22 : decode cX5_fail 22 = .ok (.iconst 1, 1) := by decide +kernel
theorem dX5_fail_23 : decode cX5_fail 23 = .ok (.iadd, 1) := by decide +kernel
theorem dX5_fail_24 : decode cX5_fail 24 = .ok (.iastore, 1) := by decide +kernel
theorem dX5_fail_25 : decode cX5_fail 25 = .ok (.iload_n 1, 1) := by decide +kernel
theorem dX5_fail_26 : decode cX5_fail 26 = .ok (.ireturn, 1) := by decide +kernel
theorem dX5_isVertex_0 : decode cX5_isVertex 0 = .ok (.iload_n 1, 1) := by decide +kernel
theorem dX5_isVertex_1 : decode cX5_isVertex 1 = .ok (.ifCond .lt 18, 3) := by decide +kernel
theorem dX5_isVertex_4 : decode cX5_isVertex 4 = .ok (.iload_n 1, 1) := by decide +kernel
theorem dX5_isVertex_5 : decode cX5_isVertex 5 = .ok (.aload_n 0, 1) := by decide +kernel
theorem dX5_isVertex_6 : decode cX5_isVertex 6 = .ok (.getfield 16, 3) := by decide +kernel
theorem dX5_isVertex_9 : decode cX5_isVertex 9 = .ok (.getfield 63, 3) := by decide +kernel
theorem dX5_isVertex_12 : decode cX5_isVertex 12 = .ok (.if_icmp .ge 7, 3) := by decide +kernel
theorem dX5_isVertex_15 : decode cX5_isVertex 15 = .ok (.iconst 1, 1) := by decide +kernel
theorem dX5_isVertex_16 : decode cX5_isVertex 16 = .ok (.goto 4, 3) := by decide +kernel
theorem dX5_isVertex_19 : decode cX5_isVertex 19 = .ok (.iconst 0, 1) := by decide +kernel
theorem dX5_isVertex_20 : decode cX5_isVertex 20 = .ok (.ireturn, 1) := by decide +kernel
set_option maxRecDepth 20000 in
theorem ggX5_isEnd_X5_isVertex : GoodIn wsX5_isEnd wsX5_isVertex := goodIn_r _ [7, 8, 9, 10, 11, 12, 13, 14, 15, 16, 17, 18, 23, 24, 25, 26, 27, 28] (by decide +kernel) (by decide +kernel)
set_option maxRecDepth 20000 in
theorem gX5_isEnd_X5_isVertex : GoodIn wsX5_isEnd (wsV RX5 73 RX5 yX5_isVertex wsX5_isVertex) := goodIn_app (goodIn_of _ (by decide +kernel)) ggX5_isEnd_X5_isVertex
theorem dX5_isEnd_0 : decode cX5_isEnd 0 = .ok (.aload_n 0, 1) := by decide +kernel
theorem dX5_isEnd_1 : decode cX5_isEnd 1 = .ok (.iload_n 1, 1) := by decide +kernel
theorem dX5_isEnd_2 : decode cX5_isEnd 2 = .ok (.invokevirtual 73, 3) := by decide +kernel
theorem dX5_isEnd_5 : decode cX5_isEnd 5 = .ok (.ifCond .eq 24, 3) := by decide +kernel
theorem dX5_isEnd_8 : decode cX5_isEnd 8 = .ok (.iload_n 2, 1) := by decide +kernel
theorem dX5_isEnd_9 : decode cX5_isEnd 9 = .ok (.ifCond .lt 20, 3) := by decide +kernel
theorem dX5_isEnd_12 : decode cX5_isEnd 12 = .ok (.iload_n 2, 1) := by decide +kernel
theorem dX5_isEnd_13 : decode cX5_isEnd 13 = .ok (.aload_n 0, 1) := by decide +kernel
theorem dX5_isEnd_14 : decode cX5_isEnd 14 = .ok (.getfield 34, 3) := by decide +kernel
theorem dX5_isEnd_17 : decode cX5_isEnd 17 = .ok (.getfield 109, 3) := by decide +kernel
theorem dX5_isEnd_20 : decode cX5_isEnd 20 = .ok (.iload_n 1, 1) := by decide +kernel
theorem dX5_isEnd_21 : decode cX5_isEnd 21 = .ok (.iaload, 1) := by decide +kernel
theorem dX5_isEnd_22 : decode cX5_isEnd 22 = .ok (.if_icmp .ge 7, 3) := by decide +kernel
theorem dX5_isEnd_25 : decode cX5_isEnd 25 = .ok (.iconst 1, 1) := by decide +kernel
theorem dX5_isEnd_26 : decode cX5_isEnd 26 = .ok (.goto 4, 3) := by decide +kernel
theorem dX5_isEnd_29 : decode cX5_isEnd 29 = .ok (.iconst 0, 1) := by decide +kernel
theorem dX5_isEnd_30 : decode cX5_isEnd 30 = .ok (.ireturn, 1) := by decide +kernel
theorem dX5_isShift_0 : decode cX5_isShift 0 = .ok (.iload_n 0, 1) := by decide +kernel
theorem dX5_isShift_1 : decode cX5_isShift 1 = .ok (.bipush (-2), 2) := by decide +kernel
theorem dX5_isShift_3 : decode cX5_isShift 3 = .ok (.if_icmp .lt 12, 3) := by decide +kernel
theorem dX5_isShift_6 : decode cX5_isShift 6 = .ok (.iload_n 0, 1) := by decide +kernel
theorem dX5_isShift_7 : decode cX5_isShift 7 = .ok (.iconst 2, 1) := by decide +kernel
theorem dX5_isShift_8 : decode cX5_isShift 8 = .ok (.if_icmp .gt 7, 3) := by decide +kernel
theorem dX5_isShift_11 : decode cX5_isShift 11 = .ok (.iconst 1, 1) := by decide +kernel
theorem dX5_isShift_12 : decode cX5_isShift 12 = .ok (.goto 4, 3) := by decide +kernel
theorem dX5_isShift_15 : decode cX5_isShift 15 = .ok (.iconst 0, 1) := by decide +kernel
theorem dX5_isShift_16 : decode cX5_isShift 16 = .ok (.ireturn, 1) := by decide +kernel
theorem dX5_isCell_0 : decode cX5_isCell 0 = .ok (.iload_n 0, 1) := by decide +kernel
theorem dX5_isCell_1 : decode cX5_isCell 1 = .ok (.bipush (-8), 2) := by decide +kernel
theorem dX5_isCell_3 : decode cX5_isCell 3 = .ok (.if_icmp .lt 13, 3) := by decide +kernel
theorem dX5_isCell_6 : decode cX5_isCell 6 = .ok (.iload_n 0, 1) := by decide +kernel
theorem dX5_isCell_7 : decode cX5_isCell 7 = .ok (.bipush 8, 2) := by decide +kernel
theorem dX5_isCell_9 : decode cX5_isCell 9 = .ok (.if_icmp .gt 7, 3) := by decide +kernel
theorem dX5_isCell_12 : decode cX5_isCell 12 = .ok (.iconst 1, 1) := by decide +kernel
theorem dX5_isCell_13 : decode cX5_isCell 13 = .ok (.goto 4, 3) := by decide +kernel
theorem dX5_isCell_16 : decode cX5_isCell 16 = .ok (.iconst 0, 1) := by decide +kernel
theorem dX5_isCell_17 : decode cX5_isCell 17 = .ok (.ireturn, 1) := by decide +kernel
set_option maxRecDepth 20000 in
theorem ggX5_isOnePiece_X0_explore : GoodIn wsX5_isOnePiece wsX0_explore := goodIn_r _ [7, 8, 9, 10, 11, 12, 6, 13, 14, 15, 16, 17, 18, 19, 20, 21, 22, 23, 24, 25, 26, 27, 28, 29, 30, 31, 45, 46, 47, 48, 49, 50, 51, 52, 53, 54, 55, 56] (by decide +kernel) (by decide +kernel)
set_option maxRecDepth 20000 in
theorem gX5_isOnePiece_X0_explore : GoodIn wsX5_isOnePiece (wsV RX5 136 RX0 yX0_explore wsX0_explore) := goodIn_app (goodIn_of _ (by decide +kernel)) ggX5_isOnePiece_X0_explore
set_option maxRecDepth 20000 in
theorem ggX5_isOnePiece_X0_isWhole : GoodIn wsX5_isOnePiece wsX0_isWhole := goodIn_r _ [35, 9, 8, 51, 52, 53, 54, 55, 56, 45, 46, 47, 48, 49, 50] (by decide +kernel) (by decide +kernel)
set_option maxRecDepth 20000 in
theorem gX5_isOnePiece_X0_isWhole : GoodIn wsX5_isOnePiece (wsV RX5 211 RX0 yX0_isWhole wsX0_isWhole) := goodIn_app (goodIn_of _ (by decide +kernel)) ggX5_isOnePiece_X0_isWhole
theorem dX5_isOnePiece_0 : decode cX5_isOnePiece 0 = .ok (.aload_n 0, 1) := by decide +kernel
theorem dX5_isOnePiece_1 : decode cX5_isOnePiece 1 = .ok (.getfield 48, 3) := by decide +kernel
theorem dX5_isOnePiece_4 : decode cX5_isOnePiece 4 = .ok (.aload_n 0, 1) := by decide +kernel
theorem dX5_isOnePiece_5 : decode cX5_isOnePiece 5 = .ok (.getfield 16, 3) := by decide +kernel
theorem dX5_isOnePiece_8 : decode cX5_isOnePiece 8 = .ok (.iconst 0, 1) := by decide +kernel
theorem dX5_isOnePiece_9 : decode cX5_isOnePiece 9 = .ok (.invokevirtual 136, 3) := by decide +kernel
theorem dX5_isOnePiece_12 : decode cX5_isOnePiece 12 = .ok (.aload_n 0, 1) := by decide +kernel
theorem dX5_isOnePiece_13 : decode cX5_isOnePiece 13 = .ok (.getfield 48, 3) := by decide +kernel
theorem dX5_isOnePiece_16 : decode cX5_isOnePiece 16 = .ok (.aload_n 0, 1) := by decide +kernel
theorem dX5_isOnePiece_17 : decode cX5_isOnePiece 17 = .ok (.getfield 16, 3) := by decide +kernel
theorem dX5_isOnePiece_20 : decode cX5_isOnePiece 20 = .ok (.invokevirtual 211, 3) := by decide +kernel
theorem dX5_isOnePiece_23 : decode cX5_isOnePiece 23 = .ok (.ireturn, 1) := by decide +kernel
set_option maxRecDepth 20000 in
theorem ggX5_placementTrouble_X5_isVertex : GoodIn wsX5_placementTrouble wsX5_isVertex := goodIn_r _ [5, 6, 7, 46, 47, 48, 49, 50, 51, 52, 53, 54, 55, 56, 57, 58, 59, 60] (by decide +kernel) (by decide +kernel)
set_option maxRecDepth 20000 in
theorem gX5_placementTrouble_X5_isVertex : GoodIn wsX5_placementTrouble (wsV RX5 73 RX5 yX5_isVertex wsX5_isVertex) := goodIn_app (goodIn_of _ (by decide +kernel)) ggX5_placementTrouble_X5_isVertex
set_option maxRecDepth 20000 in
theorem ggX5_placementTrouble_X5_isOnePiece : GoodIn wsX5_placementTrouble wsX5_isOnePiece := goodIn_r _ [11, 12, 6, 13, 14, 15, 16, 17, 18, 19, 20, 21, 22, 23, 24, 25, 26, 27, 28, 29, 30, 31, 32, 33, 34, 35, 36, 37, 38, 39, 40, 41, 42, 43, 44, 45, 46, 47, 48, 49, 50, 51, 52, 53, 54, 61, 62, 63, 64, 65, 66, 55, 56, 57, 58, 59, 60] (by decide +kernel) (by decide +kernel)
set_option maxRecDepth 20000 in
theorem gX5_placementTrouble_X5_isOnePiece : GoodIn wsX5_placementTrouble (wsV RX5 146 RX5 yX5_isOnePiece wsX5_isOnePiece) := goodIn_app (goodIn_of _ (by decide +kernel)) ggX5_placementTrouble_X5_isOnePiece
theorem dX5_placementTrouble_0 : decode cX5_placementTrouble 0 = .ok (.aload_n 0, 1) := by decide +kernel
theorem dX5_placementTrouble_1 : decode cX5_placementTrouble 1 = .ok (.iload_n 1, 1) := by decide +kernel
theorem dX5_placementTrouble_2 : decode cX5_placementTrouble 2 = .ok (.invokevirtual 73, 3) := by decide +kernel
theorem dX5_placementTrouble_5 : decode cX5_placementTrouble 5 = .ok (.ifCond .eq 12, 3) := by decide +kernel
theorem dX5_placementTrouble_8 : decode cX5_placementTrouble 8 = .ok (.iload_n 2, 1) := by decide +kernel
theorem dX5_placementTrouble_9 : decode cX5_placementTrouble 9 = .ok (.ifCond .lt 8, 3) := by decide +kernel
theorem dX5_placementTrouble_12 : decode cX5_placementTrouble 12 = .ok (.iload_n 2, 1) := by decide +kernel
theorem dX5_placementTrouble_13 : decode cX5_placementTrouble 13 = .ok (.iconst 1, 1) := by decide +kernel
theorem dX5_placementTrouble_14 : decode cX5_placementTrouble 14 = .ok (.if_icmp .le 6, 3) := by decide +kernel
theorem dX5_placementTrouble_17 : decode cX5_placementTrouble 17 = .ok (.bipush (-2), 2) := by decide +kernel
theorem dX5_placementTrouble_19 : decode cX5_placementTrouble 19 = .ok (.ireturn, 1) := by decide +kernel
theorem dX5_placementTrouble_20 : decode cX5_placementTrouble 20 = .ok (.aload_n 0, 1) := by decide +kernel
theorem dX5_placementTrouble_21 : decode cX5_placementTrouble 21 = .ok (.invokevirtual 146, 3) := by decide +kernel
theorem dX5_placementTrouble_24 : decode cX5_placementTrouble 24 = .ok (.ifCond .eq 7, 3) := by decide +kernel
theorem dX5_placementTrouble_27 : decode cX5_placementTrouble 27 = .ok (.iconst 0, 1) := by decide +kernel
theorem dX5_placementTrouble_28 : decode cX5_placementTrouble 28 = .ok (.goto 5, 3) := by decide +kernel
theorem dX5_placementTrouble_31 : decode cX5_placementTrouble 31 = .ok (.bipush (-6), 2) := by decide +kernel
theorem dX5_placementTrouble_33 : decode cX5_placementTrouble 33 = .ok (.ireturn, 1) := by decide +kernel
set_option maxRecDepth 20000 in
theorem ggX5_walkAround_X4_forget : GoodIn wsX5_walkAround wsX4_forget := goodIn_r _ [7, 8, 9, 10, 11, 47, 48, 49, 50] (by decide +kernel) (by decide +kernel)
set_option maxRecDepth 20000 in
theorem gX5_walkAround_X4_forget : GoodIn wsX5_walkAround (wsV RX5 156 RX4 yX4_forget wsX4_forget) := goodIn_app (goodIn_of _ (by decide +kernel)) ggX5_walkAround_X4_forget
set_option maxRecDepth 20000 in
theorem ggX5_walkAround_X4_nodeAt : GoodIn wsX5_walkAround wsX4_nodeAt := goodIn_r _ [15] (by decide +kernel) (by decide +kernel)
set_option maxRecDepth 20000 in
theorem gX5_walkAround_X4_nodeAt : GoodIn wsX5_walkAround (wsV RX5 129 RX4 yX4_nodeAt wsX4_nodeAt) := goodIn_app (goodIn_of _ (by decide +kernel)) ggX5_walkAround_X4_nodeAt
set_option maxRecDepth 20000 in
theorem ggX5_walkAround_X4_mark : GoodIn wsX5_walkAround wsX4_mark := goodIn_r _ [19, 9, 8, 10, 47, 48, 49, 50] (by decide +kernel) (by decide +kernel)
set_option maxRecDepth 20000 in
theorem gX5_walkAround_X4_mark : GoodIn wsX5_walkAround (wsV RX5 162 RX4 yX4_mark wsX4_mark) := goodIn_app (goodIn_of _ (by decide +kernel)) ggX5_walkAround_X4_mark
set_option maxRecDepth 20000 in
theorem ggX5_walkAround_X4_walk : GoodIn wsX5_walkAround wsX4_walk := goodIn_r _ [23, 11, 8, 10, 9, 24, 25, 26, 6, 27, 28, 29, 30, 31, 32, 33, 34, 35, 36, 13, 14, 15, 37, 17, 18, 19, 47, 48, 49, 50, 51, 52, 53, 54] (by decide +kernel) (by decide +kernel)
set_option maxRecDepth 20000 in
theorem gX5_walkAround_X4_walk : GoodIn wsX5_walkAround (wsV RX5 166 RX4 yX4_walk wsX4_walk) := goodIn_app (goodIn_of _ (by decide +kernel)) ggX5_walkAround_X4_walk
theorem dX5_walkAround_0 : decode cX5_walkAround 0 = .ok (.aload_n 0, 1) := by decide +kernel
theorem dX5_walkAround_1 : decode cX5_walkAround 1 = .ok (.getfield 41, 3) := by decide +kernel
theorem dX5_walkAround_4 : decode cX5_walkAround 4 = .ok (.invokevirtual 156, 3) := by decide +kernel
theorem dX5_walkAround_7 : decode cX5_walkAround 7 = .ok (.aload_n 0, 1) := by decide +kernel
theorem dX5_walkAround_8 : decode cX5_walkAround 8 = .ok (.getfield 41, 3) := by decide +kernel
theorem dX5_walkAround_11 : decode cX5_walkAround 11 = .ok (.aload_n 0, 1) := by decide +kernel
theorem dX5_walkAround_12 : decode cX5_walkAround 12 = .ok (.getfield 41, 3) := by decide +kernel
theorem dX5_walkAround_15 : decode cX5_walkAround 15 = .ok (.iload_n 1, 1) := by decide +kernel
theorem dX5_walkAround_16 : decode cX5_walkAround 16 = .ok (.iconst 0, 1) := by decide +kernel
theorem dX5_walkAround_17 : decode cX5_walkAround 17 = .ok (.iconst 0, 1) := by decide +kernel
theorem dX5_walkAround_18 : decode cX5_walkAround 18 = .ok (.invokevirtual 129, 3) := by decide +kernel
theorem dX5_walkAround_21 : decode cX5_walkAround 21 = .ok (.iconst 0, 1) := by decide +kernel
theorem dX5_walkAround_22 : decode cX5_walkAround 22 = .ok (.invokevirtual 162, 3) := by decide +kernel
theorem dX5_walkAround_25 : decode cX5_walkAround 25 = .ok (.aload_n 0, 1) := by decide +kernel
theorem dX5_walkAround_26 : decode cX5_walkAround 26 = .ok (.getfield 41, 3) := by decide +kernel
theorem dX5_walkAround_29 : decode cX5_walkAround 29 = .ok (.aload_n 0, 1) := by decide +kernel
theorem dX5_walkAround_30 : decode cX5_walkAround 30 = .ok (.getfield 34, 3) := by decide +kernel
theorem dX5_walkAround_33 : decode cX5_walkAround 33 = .ok (.iload_n 2, 1) := by decide +kernel
theorem dX5_walkAround_34 : decode cX5_walkAround 34 = .ok (.iload_n 3, 1) := by decide +kernel
theorem dX5_walkAround_35 : decode cX5_walkAround 35 = .ok (.invokevirtual 166, 3) := by decide +kernel
theorem dX5_walkAround_38 : decode cX5_walkAround 38 = .ok (.return_, 1) := by decide +kernel
set_option maxRecDepth 20000 in
theorem ggX5_commitShifts_X2_hasShiftsInRange : GoodIn wsX5_commitShifts wsX2_hasShiftsInRange := goodIn_r _ [7, 8, 9, 10, 11, 12, 13, 80, 81, 82, 83, 84, 85] (by decide +kernel) (by decide +kernel)
set_option maxRecDepth 20000 in
theorem gX5_commitShifts_X2_hasShiftsInRange : GoodIn wsX5_commitShifts (wsV RX5 215 RX2 yX2_hasShiftsInRange wsX2_hasShiftsInRange) := goodIn_app (goodIn_of _ (by decide +kernel)) ggX5_commitShifts_X2_hasShiftsInRange
set_option maxRecDepth 20000 in
theorem ggX5_commitShifts_X5_fail : GoodIn wsX5_commitShifts wsX5_fail := goodIn_r _ [17, 18, 71, 72, 73, 74, 75, 76, 77, 78, 79] (by decide +kernel) (by decide +kernel)
set_option maxRecDepth 20000 in
theorem gX5_commitShifts_X5_fail : GoodIn wsX5_commitShifts (wsV RX5 59 RX5 yX5_fail wsX5_fail) := goodIn_app (goodIn_of _ (by decide +kernel)) ggX5_commitShifts_X5_fail
set_option maxRecDepth 20000 in
theorem ggX5_commitShifts_X2_shiftsUnlike : GoodIn wsX5_commitShifts wsX2_shiftsUnlike := goodIn_r _ [22, 8, 9, 10, 80, 81, 82, 83, 84, 85] (by decide +kernel) (by decide +kernel)
set_option maxRecDepth 20000 in
theorem gX5_commitShifts_X2_shiftsUnlike : GoodIn wsX5_commitShifts (wsV RX5 218 RX2 yX2_shiftsUnlike wsX2_shiftsUnlike) := goodIn_app (goodIn_of _ (by decide +kernel)) ggX5_commitShifts_X2_shiftsUnlike
set_option maxRecDepth 20000 in
theorem ggX5_commitShifts_X5_commitDraft : GoodIn wsX5_commitShifts wsX5_commitDraft := goodIn_r _ [26, 2, 1, 27, 28, 29, 30, 12, 31, 32, 33, 34, 35, 36, 6, 37, 38, 8, 39, 40, 9, 10, 41, 42, 43, 44, 45, 46, 47, 48, 49, 50, 51, 52, 53, 54, 55, 56, 57, 58, 59, 60, 61, 62, 63, 64, 65, 66, 67, 68, 69, 70, 71, 72, 73, 74, 75, 76, 77, 78, 79, 80, 81, 82, 83, 84, 85, 86, 87, 88, 89] (by decide +kernel) (by decide +kernel)
set_option maxRecDepth 20000 in
theorem gX5_commitShifts_X5_commitDraft : GoodIn wsX5_commitShifts (wsV RX5 70 RX5 yX5_commitDraft wsX5_commitDraft) := goodIn_app (goodIn_of _ (by decide +kernel)) ggX5_commitShifts_X5_commitDraft
theorem dX5_commitShifts_0 : decode cX5_commitShifts 0 = .ok (.aload_n 0, 1) := by decide +kernel
theorem dX5_commitShifts_1 : decode cX5_commitShifts 1 = .ok (.getfield 20, 3) := by decide +kernel
theorem dX5_commitShifts_4 : decode cX5_commitShifts 4 = .ok (.invokevirtual 215, 3) := by decide +kernel
theorem dX5_commitShifts_7 : decode cX5_commitShifts 7 = .ok (.ifCond .ne 10, 3) := by decide +kernel
theorem dX5_commitShifts_10 : decode cX5_commitShifts 10 = .ok (.aload_n 0, 1) := by decide +kernel
theorem dX5_commitShifts_11 : decode cX5_commitShifts 11 = .ok (.bipush (-5), 2) := by decide +kernel
theorem dX5_commitShifts_13 : decode cX5_commitShifts 13 = .ok (.invokevirtual 59, 3) := by decide +kernel
theorem dX5_commitShifts_16 : decode cX5_commitShifts 16 = .ok (.ireturn, 1) := by decide +kernel
theorem dX5_commitShifts_17 : decode cX5_commitShifts 17 = .ok (.aload_n 0, 1) := by decide +kernel
theorem dX5_commitShifts_18 : decode cX5_commitShifts 18 = .ok (.getfield 20, 3) := by decide +kernel
theorem dX5_commitShifts_21 : decode cX5_commitShifts 21 = .ok (.aload_n 0, 1) := by decide +kernel
theorem dX5_commitShifts_22 : decode cX5_commitShifts 22 = .ok (.getfield 16, 3) := by decide +kernel
theorem dX5_commitShifts_25 : decode cX5_commitShifts 25 = .ok (.invokevirtual 218, 3) := by decide +kernel
theorem dX5_commitShifts_28 : decode cX5_commitShifts 28 = .ok (.istore_n 1, 1) := by decide +kernel
theorem dX5_commitShifts_29 : decode cX5_commitShifts 29 = .ok (.aload_n 0, 1) := by decide +kernel
theorem dX5_commitShifts_30 : decode cX5_commitShifts 30 = .ok (.invokevirtual 70, 3) := by decide +kernel
theorem dX5_commitShifts_33 : decode cX5_commitShifts 33 = .ok (.iload_n 1, 1) := by decide +kernel
theorem dX5_commitShifts_34 : decode cX5_commitShifts 34 = .ok (.ireturn, 1) := by decide +kernel
set_option maxRecDepth 20000 in
theorem ggX5_commitDraft_X5_saveGraph : GoodIn wsX5_commitDraft wsX5_saveGraph := goodIn_r _ [8, 9, 10, 1, 11, 12, 13, 14, 15, 16, 17, 18, 19, 20, 21, 22, 23, 24, 25, 26, 27, 28, 29, 30, 31, 32, 33, 52, 53, 54, 55, 56, 57, 58, 59, 60, 61, 62, 63, 64, 65, 66] (by decide +kernel) (by decide +kernel)
set_option maxRecDepth 20000 in
theorem gX5_commitDraft_X5_saveGraph : GoodIn wsX5_commitDraft (wsV RX5 222 RX5 yX5_saveGraph wsX5_saveGraph) := goodIn_app (goodIn_of _ (by decide +kernel)) ggX5_commitDraft_X5_saveGraph
set_option maxRecDepth 20000 in
theorem ggX5_commitDraft_X2_copyFrom : GoodIn wsX5_commitDraft wsX2_copyFrom := goodIn_r _ [15, 16, 17, 18, 19, 20, 21, 22, 23, 24, 14, 25, 26, 27, 28, 29, 30, 31, 32, 33, 61, 62, 63, 64, 65, 66] (by decide +kernel) (by decide +kernel)
set_option maxRecDepth 20000 in
theorem gX5_commitDraft_X2_copyFrom : GoodIn wsX5_commitDraft (wsV RX5 87 RX2 yX2_copyFrom wsX2_copyFrom) := goodIn_app (goodIn_of _ (by decide +kernel)) ggX5_commitDraft_X2_copyFrom
set_option maxRecDepth 20000 in
theorem ggX5_commitDraft_X1_listAll : GoodIn wsX5_commitDraft wsX1_listAll := goodIn_r _ [38, 39, 40, 41, 42, 43, 44, 45, 46, 47, 37, 48, 49, 50, 51, 67, 68, 69, 70, 61, 62, 63, 64, 65, 66] (by decide +kernel) (by decide +kernel)
set_option maxRecDepth 20000 in
theorem gX5_commitDraft_X1_listAll : GoodIn wsX5_commitDraft (wsV RX5 191 RX1 yX1_listAll wsX1_listAll) := goodIn_app (goodIn_of _ (by decide +kernel)) ggX5_commitDraft_X1_listAll
theorem dX5_commitDraft_0 : decode cX5_commitDraft 0 = .ok (.aload_n 0, 1) := by decide +kernel
theorem dX5_commitDraft_1 : decode cX5_commitDraft 1 = .ok (.invokevirtual 222, 3) := by decide +kernel
theorem dX5_commitDraft_4 : decode cX5_commitDraft 4 = .ok (.aload_n 0, 1) := by decide +kernel
theorem dX5_commitDraft_5 : decode cX5_commitDraft 5 = .ok (.getfield 16, 3) := by decide +kernel
theorem dX5_commitDraft_8 : decode cX5_commitDraft 8 = .ok (.aload_n 0, 1) := by decide +kernel
theorem dX5_commitDraft_9 : decode cX5_commitDraft 9 = .ok (.getfield 20, 3) := by decide +kernel
theorem dX5_commitDraft_12 : decode cX5_commitDraft 12 = .ok (.invokevirtual 87, 3) := by decide +kernel
theorem dX5_commitDraft_15 : decode cX5_commitDraft 15 = .ok (.aload_n 0, 1) := by decide +kernel
theorem dX5_commitDraft_16 : decode cX5_commitDraft 16 = .ok (.getfield 34, 3) := by decide +kernel
theorem dX5_commitDraft_19 : decode cX5_commitDraft 19 = .ok (.aload_n 0, 1) := by decide +kernel
theorem dX5_commitDraft_20 : decode cX5_commitDraft 20 = .ok (.getfield 16, 3) := by decide +kernel
theorem dX5_commitDraft_23 : decode cX5_commitDraft 23 = .ok (.invokevirtual 191, 3) := by decide +kernel
theorem dX5_commitDraft_26 : decode cX5_commitDraft 26 = .ok (.return_, 1) := by decide +kernel
set_option maxRecDepth 20000 in
theorem ggX5_saveGraph_X2_copyFrom : GoodIn wsX5_saveGraph wsX2_copyFrom := goodIn_r _ [8, 9, 10, 11, 12, 13, 14, 15, 16, 17, 7, 18, 19, 20, 21, 22, 23, 24, 25, 26, 36, 37, 38, 39, 40, 41] (by decide +kernel) (by decide +kernel)
set_option maxRecDepth 20000 in
theorem gX5_saveGraph_X2_copyFrom : GoodIn wsX5_saveGraph (wsV RX5 87 RX2 yX2_copyFrom wsX2_copyFrom) := goodIn_app (goodIn_of _ (by decide +kernel)) ggX5_saveGraph_X2_copyFrom
theorem dX5_saveGraph_0 : decode cX5_saveGraph 0 = .ok (.aload_n 0, 1) := by decide +kernel
theorem dX5_saveGraph_1 : decode cX5_saveGraph 1 = .ok (.getfield 27, 3) := by decide +kernel
theorem dX5_saveGraph_4 : decode cX5_saveGraph 4 = .ok (.iconst 5, 1) := by decide +kernel
theorem dX5_saveGraph_5 : decode cX5_saveGraph 5 = .ok (.if_icmp .ne 54, 3) := by decide +kernel
theorem dX5_saveGraph_8 : decode cX5_saveGraph 8 = .ok (.aload_n 0, 1) := by decide +kernel
theorem dX5_saveGraph_9 : decode cX5_saveGraph 9 = .ok (.getfield 23, 3) := by decide +kernel
theorem dX5_saveGraph_12 : decode cX5_saveGraph 12 = .ok (.iconst 0, 1) := by decide +kernel
theorem dX5_saveGraph_13 : decode cX5_saveGraph 13 = .ok (.aaload, 1) := by decide +kernel
theorem dX5_saveGraph_14 : decode cX5_saveGraph 14 = .ok (.astore_n 1, 1) := by decide +kernel
theorem dX5_saveGraph_15 : decode cX5_saveGraph 15 = .ok (.iconst 1, 1) := by decide +kernel
theorem dX5_saveGraph_16 : decode cX5_saveGraph 16 = .ok (.istore_n 2, 1) := by decide +kernel
theorem dX5_saveGraph_17 : decode cX5_saveGraph 17 = .ok (.iload_n 2, 1) := by decide +kernel
theorem dX5_saveGraph_18 : decode cX5_saveGraph 18 = .ok (.iconst 5, 1) := by decide +kernel
theorem dX5_saveGraph_19 : decode cX5_saveGraph 19 = .ok (.if_icmp .ge 23, 3) := by decide +kernel
theorem dX5_saveGraph_22 : decode cX5_saveGraph 22 = .ok (.aload_n 0, 1) := by decide +kernel
theorem dX5_saveGraph_23 : decode cX5_saveGraph 23 = .ok (.getfield 23, 3) := by decide +kernel
theorem dX5_saveGraph_26 : decode cX5_saveGraph 26 = .ok (.iload_n 2, 1) := by decide +kernel
theorem dX5_saveGraph_27 : decode cX5_saveGraph 27 = .ok (.iconst 1, 1) := by decide +kernel
theorem dX5_saveGraph_28 : decode cX5_saveGraph 28 = .ok (.isub, 1) := by decide +kernel
theorem dX5_saveGraph_29 : decode cX5_saveGraph 29 = .ok (.aload_n 0, 1) := by decide +kernel
theorem dX5_saveGraph_30 : decode cX5_saveGraph 30 = .ok (.getfield 23, 3) := by decide +kernel
theorem dX5_saveGraph_33 : decode cX5_saveGraph 33 = .ok (.iload_n 2, 1) := by decide +kernel
theorem dX5_saveGraph_34 : decode cX5_saveGraph 34 = .ok (.aaload, 1) := by decide +kernel
theorem dX5_saveGraph_35 : decode cX5_saveGraph 35 = .ok (.aastore, 1) := by decide +kernel
theorem dX5_saveGraph_36 : decode cX5_saveGraph 36 = .ok (.iinc 2 1, 3) := by decide +kernel
theorem dX5_saveGraph_39 : decode cX5_saveGraph 39 = .ok (.goto (-22), 3) := by decide +kernel
theorem dX5_saveGraph_42 : decode cX5_saveGraph 42 = .ok (.aload_n 0, 1) := by decide +kernel
theorem dX5_saveGraph_43 : decode cX5_saveGraph 43 = .ok (.getfield 23, 3) := by decide +kernel
theorem dX5_saveGraph_46 : decode cX5_saveGraph 46 = .ok (.iconst 4, 1) := by decide +kernel
theorem dX5_saveGraph_47 : decode cX5_saveGraph 47 = .ok (.aload_n 1, 1) := by decide +kernel
theorem dX5_saveGraph_48 : decode cX5_saveGraph 48 = .ok (.aastore, 1) := by decide +kernel
theorem dX5_saveGraph_49 : decode cX5_saveGraph 49 = .ok (.aload_n 0, 1) := by decide +kernel
theorem dX5_saveGraph_50 : decode cX5_saveGraph 50 = .ok (.dup, 1) := by decide +kernel
theorem dX5_saveGraph_51 : decode cX5_saveGraph 51 = .ok (.getfield 27, 3) := by decide +kernel
theorem dX5_saveGraph_54 : decode cX5_saveGraph 54 = .ok (.iconst 1, 1) := by decide +kernel
theorem dX5_saveGraph_55 : decode cX5_saveGraph 55 = .ok (.isub, 1) := by decide +kernel
theorem dX5_saveGraph_56 : decode cX5_saveGraph 56 = .ok (.putfield 27, 3) := by decide +kernel
theorem dX5_saveGraph_59 : decode cX5_saveGraph 59 = .ok (.aload_n 0, 1) := by decide +kernel
theorem dX5_saveGraph_60 : decode cX5_saveGraph 60 = .ok (.getfield 23, 3) := by decide +kernel
theorem dX5_saveGraph_63 : decode cX5_saveGraph 63 = .ok (.aload_n 0, 1) := by decide +kernel
theorem dX5_saveGraph_64 : decode cX5_saveGraph 64 = .ok (.getfield 27, 3) := by decide +kernel
theorem dX5_saveGraph_67 : decode cX5_saveGraph 67 = .ok (.aaload, 1) := by decide +kernel
theorem dX5_saveGraph_68 : decode cX5_saveGraph 68 = .ok (.aload_n 0, 1) := by decide +kernel
theorem dX5_saveGraph_69 : decode cX5_saveGraph 69 = .ok (.getfield 16, 3) := by decide +kernel
theorem dX5_saveGraph_72 : decode cX5_saveGraph 72 = .ok (.invokevirtual 87, 3) := by decide +kernel
theorem dX5_saveGraph_75 : decode cX5_saveGraph 75 = .ok (.aload_n 0, 1) := by decide +kernel
theorem dX5_saveGraph_76 : decode cX5_saveGraph 76 = .ok (.dup, 1) := by decide +kernel
theorem dX5_saveGraph_77 : decode cX5_saveGraph 77 = .ok (.getfield 27, 3) := by decide +kernel
theorem dX5_saveGraph_80 : decode cX5_saveGraph 80 = .ok (.iconst 1, 1) := by decide +kernel
theorem dX5_saveGraph_81 : decode cX5_saveGraph 81 = .ok (.iadd, 1) := by decide +kernel
theorem dX5_saveGraph_82 : decode cX5_saveGraph 82 = .ok (.putfield 27, 3) := by decide +kernel
theorem dX5_saveGraph_85 : decode cX5_saveGraph 85 = .ok (.return_, 1) := by decide +kernel
theorem dX5_mix_0 : decode cX5_mix 0 = .ok (.ldc2_w 225, 3) := by decide +kernel
theorem dX5_mix_3 : decode cX5_mix 3 = .ok (.lload_n 0, 1) := by decide +kernel
theorem dX5_mix_4 : decode cX5_mix 4 = .ok (.lmul, 1) := by decide +kernel
theorem dX5_mix_5 : decode cX5_mix 5 = .ok (.lload_n 2, 1) := by decide +kernel
theorem dX5_mix_6 : decode cX5_mix 6 = .ok (.ladd, 1) := by decide +kernel
theorem dX5_mix_7 : decode cX5_mix 7 = .ok (.lreturn, 1) := by decide +kernel
set_option maxRecDepth 20000 in
theorem ggX5_mixGraph_X5_mix : GoodIn wsX5_mixGraph wsX5_mix := goodIn_r _ [11, 12] (by decide +kernel) (by decide +kernel)
set_option maxRecDepth 20000 in
theorem gX5_mixGraph_X5_mix : GoodIn wsX5_mixGraph (va_wsS RX5 196 yX5_mix wsX5_mix) := goodIn_app (goodIn_of _ (by decide +kernel)) ggX5_mixGraph_X5_mix
theorem dX5_mixGraph_0 : decode cX5_mixGraph 0 = .ok (.lload_n 1, 1) := by decide +kernel
theorem dX5_mixGraph_1 : decode cX5_mixGraph 1 = .ok (.aload_n 0, 1) := by decide +kernel
theorem dX5_mixGraph_2 : decode cX5_mixGraph 2 = .ok (.getfield 16, 3) := by decide +kernel
theorem dX5_mixGraph_5 : decode cX5_mixGraph 5 = .ok (.getfield 63, 3) := by decide +kernel
theorem dX5_mixGraph_8 : decode cX5_mixGraph 8 = .ok (.i2l, 1) := by decide +kernel
theorem dX5_mixGraph_9 : decode cX5_mixGraph 9 = .ok (.invokestatic 196, 3) := by decide +kernel
theorem dX5_mixGraph_12 : decode cX5_mixGraph 12 = .ok (.lstore_n 3, 1) := by decide +kernel
theorem dX5_mixGraph_13 : decode cX5_mixGraph 13 = .ok (.lload_n 3, 1) := by decide +kernel
theorem dX5_mixGraph_14 : decode cX5_mixGraph 14 = .ok (.aload_n 0, 1) := by decide +kernel
theorem dX5_mixGraph_15 : decode cX5_mixGraph 15 = .ok (.getfield 16, 3) := by decide +kernel
theorem dX5_mixGraph_18 : decode cX5_mixGraph 18 = .ok (.getfield 84, 3) := by decide +kernel
theorem dX5_mixGraph_21 : decode cX5_mixGraph 21 = .ok (.i2l, 1) := by decide +kernel
theorem dX5_mixGraph_22 : decode cX5_mixGraph 22 = .ok (.invokestatic 196, 3) := by decide +kernel
theorem dX5_mixGraph_25 : decode cX5_mixGraph 25 = .ok (.lstore_n 3, 1) := by decide +kernel
theorem dX5_mixGraph_26 : decode cX5_mixGraph 26 = .ok (.iconst 0, 1) := by decide +kernel
theorem dX5_mixGraph_27 : decode cX5_mixGraph 27 = .ok (.istore 5, 2) := by decide +kernel
theorem dX5_mixGraph_29 : decode cX5_mixGraph 29 = .ok (.iload 5, 2) := by decide +kernel
theorem dX5_mixGraph_31 : decode cX5_mixGraph 31 = .ok (.aload_n 0, 1) := by decide +kernel
theorem dX5_mixGraph_32 : decode cX5_mixGraph 32 = .ok (.getfield 16, 3) := by decide +kernel
theorem dX5_mixGraph_35 : decode cX5_mixGraph 35 = .ok (.getfield 84, 3) := by decide +kernel
theorem dX5_mixGraph_38 : decode cX5_mixGraph 38 = .ok (.if_icmp .ge 73, 3) := by decide +kernel
theorem dX5_mixGraph_41 : decode cX5_mixGraph 41 = .ok (.lload_n 3, 1) := by decide +kernel
theorem dX5_mixGraph_42 : decode cX5_mixGraph 42 = .ok (.aload_n 0, 1) := by decide +kernel
theorem dX5_mixGraph_43 : decode cX5_mixGraph 43 = .ok (.getfield 16, 3) := by decide +kernel
theorem dX5_mixGraph_46 : decode cX5_mixGraph 46 = .ok (.getfield 227, 3) := by decide +kernel
theorem dX5_mixGraph_49 : decode cX5_mixGraph 49 = .ok (.iload 5, 2) := by decide +kernel
theorem dX5_mixGraph_51 : decode cX5_mixGraph 51 = .ok (.iaload, 1) := by decide +kernel
theorem dX5_mixGraph_52 : decode cX5_mixGraph 52 = .ok (.i2l, 1) := by decide +kernel
theorem dX5_mixGraph_53 : decode cX5_mixGraph 53 = .ok (.invokestatic 196, 3) := by decide +kernel
theorem dX5_mixGraph_56 : decode cX5_mixGraph 56 = .ok (.lstore_n 3, 1) := by decide +kernel
theorem dX5_mixGraph_57 : decode cX5_mixGraph 57 = .ok (.lload_n 3, 1) := by decide +kernel
theorem dX5_mixGraph_58 : decode cX5_mixGraph 58 = .ok (.aload_n 0, 1) := by decide +kernel
theorem dX5_mixGraph_59 : decode cX5_mixGraph 59 = .ok (.getfield 16, 3) := by decide +kernel
theorem dX5_mixGraph_62 : decode cX5_mixGraph 62 = .ok (.getfield 230, 3) := by decide +kernel
theorem dX5_mixGraph_65 : decode cX5_mixGraph 65 = .ok (.iload 5, 2) := by decide +kernel
theorem dX5_mixGraph_67 : decode cX5_mixGraph 67 = .ok (.iaload, 1) := by decide +kernel
theorem dX5_mixGraph_68 : decode cX5_mixGraph 68 = .ok (.i2l, 1) := by decide +kernel
theorem dX5_mixGraph_69 : decode cX5_mixGraph 69 = .ok (.invokestatic 196, 3) := by decide +kernel
theorem dX5_mixGraph_72 : decode cX5_mixGraph 72 = .ok (.lstore_n 3, 1) := by decide +kernel
theorem dX5_mixGraph_73 : decode cX5_mixGraph 73 = .ok (.lload_n 3, 1) := by decide +kernel
theorem dX5_mixGraph_74 : decode cX5_mixGraph 74 = .ok (.aload_n 0, 1) := by decide +kernel
theorem dX5_mixGraph_75 : decode cX5_mixGraph 75 = .ok (.getfield 16, 3) := by decide +kernel
theorem dX5_mixGraph_78 : decode cX5_mixGraph 78 = .ok (.getfield 233, 3) := by decide +kernel
theorem dX5_mixGraph_81 : decode cX5_mixGraph 81 = .ok (.iload 5, 2) := by decide +kernel
theorem dX5_mixGraph_83 : decode cX5_mixGraph 83 = .ok (.iaload, 1) := by decide +kernel
theorem dX5_mixGraph_84 : decode cX5_mixGraph 84 = .ok (.i2l, 1) := by decide +kernel
theorem dX5_mixGraph_85 : decode cX5_mixGraph 85 = .ok (.invokestatic 196, 3) := by decide +kernel
theorem dX5_mixGraph_88 : decode cX5_mixGraph 88 = .ok (.lstore_n 3, 1) := by decide +kernel
theorem dX5_mixGraph_89 : decode cX5_mixGraph 89 = .ok (.lload_n 3, 1) := by decide +kernel
theorem dX5_mixGraph_90 : decode cX5_mixGraph 90 = .ok (.aload_n 0, 1) := by decide +kernel
theorem dX5_mixGraph_91 : decode cX5_mixGraph 91 = .ok (.getfield 16, 3) := by decide +kernel
theorem dX5_mixGraph_94 : decode cX5_mixGraph 94 = .ok (.getfield 236, 3) := by decide +kernel
theorem dX5_mixGraph_97 : decode cX5_mixGraph 97 = .ok (.iload 5, 2) := by decide +kernel
theorem dX5_mixGraph_99 : decode cX5_mixGraph 99 = .ok (.iaload, 1) := by decide +kernel
theorem dX5_mixGraph_100 : decode cX5_mixGraph 100 = .ok (.i2l, 1) := by decide +kernel
theorem dX5_mixGraph_101 : decode cX5_mixGraph 101 = .ok (.invokestatic 196, 3) := by decide +kernel
theorem dX5_mixGraph_104 : decode cX5_mixGraph 104 = .ok (.lstore_n 3, 1) := by decide +kernel
theorem dX5_mixGraph_105 : decode cX5_mixGraph 105 = .ok (.iinc 5 1, 3) := by decide +kernel
theorem dX5_mixGraph_108 : decode cX5_mixGraph 108 = .ok (.goto (-79), 3) := by decide +kernel
theorem dX5_mixGraph_111 : decode cX5_mixGraph 111 = .ok (.lload_n 3, 1) := by decide +kernel
theorem dX5_mixGraph_112 : decode cX5_mixGraph 112 = .ok (.lreturn, 1) := by decide +kernel
set_option maxRecDepth 20000 in
theorem ggX5_mixSurroundings_X5_mix : GoodIn wsX5_mixSurroundings wsX5_mix := goodIn_r _ [9, 10] (by decide +kernel) (by decide +kernel)
set_option maxRecDepth 20000 in
theorem gX5_mixSurroundings_X5_mix : GoodIn wsX5_mixSurroundings (va_wsS RX5 196 yX5_mix wsX5_mix) := goodIn_app (goodIn_of _ (by decide +kernel)) ggX5_mixSurroundings_X5_mix
set_option maxRecDepth 20000 in
theorem ggX5_mixSurroundings_X5_walkAround : GoodIn wsX5_mixSurroundings wsX5_walkAround := goodIn_r _ [14, 3, 1, 15, 16, 17, 18, 19, 20, 21, 22, 23, 24, 25, 26, 27, 28, 29, 30, 31, 32, 33, 34, 35, 36, 37, 38, 39, 40, 41, 42, 43, 44, 45, 46, 47, 48, 49, 97, 98, 99, 100, 101, 102, 103, 104, 105, 110, 111, 112, 113, 106, 107, 108, 109] (by decide +kernel) (by decide +kernel)
set_option maxRecDepth 20000 in
theorem gX5_mixSurroundings_X5_walkAround : GoodIn wsX5_mixSurroundings (wsV RX5 120 RX5 yX5_walkAround wsX5_walkAround) := goodIn_app (goodIn_of _ (by decide +kernel)) ggX5_mixSurroundings_X5_walkAround
set_option maxRecDepth 20000 in
theorem ggX5_mixSurroundings_X4_nodesAfter : GoodIn wsX5_mixSurroundings wsX4_nodesAfter := goodIn_r _ [53, 23, 20, 21, 22, 110, 111, 112, 113] (by decide +kernel) (by decide +kernel)
set_option maxRecDepth 20000 in
theorem gX5_mixSurroundings_X4_nodesAfter : GoodIn wsX5_mixSurroundings (wsV RX5 123 RX4 yX4_nodesAfter wsX4_nodesAfter) := goodIn_app (goodIn_of _ (by decide +kernel)) ggX5_mixSurroundings_X4_nodesAfter
set_option maxRecDepth 20000 in
theorem ggX5_mixSurroundings_X0_explore : GoodIn wsX5_mixSurroundings wsX0_explore := goodIn_r _ [58, 59, 60, 61, 62, 63, 57, 64, 65, 66, 67, 68, 69, 70, 71, 72, 73, 74, 75, 76, 77, 78, 79, 80, 81, 82, 114, 115, 116, 117, 118, 119, 120, 121, 122, 123, 124, 125] (by decide +kernel) (by decide +kernel)
set_option maxRecDepth 20000 in
theorem gX5_mixSurroundings_X0_explore : GoodIn wsX5_mixSurroundings (wsV RX5 136 RX0 yX0_explore wsX0_explore) := goodIn_app (goodIn_of _ (by decide +kernel)) ggX5_mixSurroundings_X0_explore
set_option maxRecDepth 20000 in
theorem ggX5_mixSurroundings_X0_latticeRank : GoodIn wsX5_mixSurroundings wsX0_latticeRank := goodIn_r _ [86, 80, 81, 82, 87, 88, 89, 57, 90, 91, 8, 92, 114, 115, 116, 117, 118, 119] (by decide +kernel) (by decide +kernel)
set_option maxRecDepth 20000 in
theorem gX5_mixSurroundings_X0_latticeRank : GoodIn wsX5_mixSurroundings (wsV RX5 140 RX0 yX0_latticeRank wsX0_latticeRank) := goodIn_app (goodIn_of _ (by decide +kernel)) ggX5_mixSurroundings_X0_latticeRank
set_option maxRecDepth 20000 in
theorem ggX5_mixSurroundings_X0_latticeIndex : GoodIn wsX5_mixSurroundings wsX0_latticeIndex := goodIn_r _ [96, 87, 88, 89, 57, 90, 80, 81, 82, 91, 8, 92, 114, 115, 116, 117, 118, 119] (by decide +kernel) (by decide +kernel)
set_option maxRecDepth 20000 in
theorem gX5_mixSurroundings_X0_latticeIndex : GoodIn wsX5_mixSurroundings (wsV RX5 143 RX0 yX0_latticeIndex wsX0_latticeIndex) := goodIn_app (goodIn_of _ (by decide +kernel)) ggX5_mixSurroundings_X0_latticeIndex
theorem dX5_mixSurroundings_0 : decode cX5_mixSurroundings 0 = .ok (.lload_n 1, 1) := by decide +kernel
theorem dX5_mixSurroundings_1 : decode cX5_mixSurroundings 1 = .ok (.aload_n 0, 1) := by decide +kernel
theorem dX5_mixSurroundings_2 : decode cX5_mixSurroundings 2 = .ok (.getfield 34, 3) := by decide +kernel
theorem dX5_mixSurroundings_5 : decode cX5_mixSurroundings 5 = .ok (.getfield 109, 3) := by decide +kernel
theorem dX5_mixSurroundings_8 : decode cX5_mixSurroundings 8 = .ok (.iload_n 3, 1) := by decide +kernel
theorem dX5_mixSurroundings_9 : decode cX5_mixSurroundings 9 = .ok (.iaload, 1) := by decide +kernel
theorem dX5_mixSurroundings_10 : decode cX5_mixSurroundings 10 = .ok (.i2l, 1) := by decide +kernel
theorem dX5_mixSurroundings_11 : decode cX5_mixSurroundings 11 = .ok (.invokestatic 196, 3) := by decide +kernel
theorem dX5_mixSurroundings_14 : decode cX5_mixSurroundings 14 = .ok (.lstore 4, 2) := by decide +kernel
theorem dX5_mixSurroundings_16 : decode cX5_mixSurroundings 16 = .ok (.aload_n 0, 1) := by decide +kernel
theorem dX5_mixSurroundings_17 : decode cX5_mixSurroundings 17 = .ok (.iload_n 3, 1) := by decide +kernel
theorem dX5_mixSurroundings_18 : decode cX5_mixSurroundings 18 = .ok (.iconst 4, 1) := by decide +kernel
theorem dX5_mixSurroundings_19 : decode cX5_mixSurroundings 19 = .ok (.iconst (-1), 1) := by decide +kernel
theorem dX5_mixSurroundings_20 : decode cX5_mixSurroundings 20 = .ok (.invokevirtual 120, 3) := by decide +kernel
theorem dX5_mixSurroundings_23 : decode cX5_mixSurroundings 23 = .ok (.iconst 1, 1) := by decide +kernel
theorem dX5_mixSurroundings_24 : decode cX5_mixSurroundings 24 = .ok (.istore 6, 2) := by decide +kernel
theorem dX5_mixSurroundings_26 : decode cX5_mixSurroundings 26 = .ok (.iload 6, 2) := by decide +kernel
theorem dX5_mixSurroundings_28 : decode cX5_mixSurroundings 28 = .ok (.iconst 4, 1) := by decide +kernel
theorem dX5_mixSurroundings_29 : decode cX5_mixSurroundings 29 = .ok (.if_icmp .gt 26, 3) := by decide +kernel
theorem dX5_mixSurroundings_32 : decode cX5_mixSurroundings 32 = .ok (.lload 4, 2) := by decide +kernel
theorem dX5_mixSurroundings_34 : decode cX5_mixSurroundings 34 = .ok (.aload_n 0, 1) := by decide +kernel
theorem dX5_mixSurroundings_35 : decode cX5_mixSurroundings 35 = .ok (.getfield 41, 3) := by decide +kernel
theorem dX5_mixSurroundings_38 : decode cX5_mixSurroundings 38 = .ok (.iload 6, 2) := by decide +kernel
theorem dX5_mixSurroundings_40 : decode cX5_mixSurroundings 40 = .ok (.invokevirtual 123, 3) := by decide +kernel
theorem dX5_mixSurroundings_43 : decode cX5_mixSurroundings 43 = .ok (.i2l, 1) := by decide +kernel
theorem dX5_mixSurroundings_44 : decode cX5_mixSurroundings 44 = .ok (.invokestatic 196, 3) := by decide +kernel
theorem dX5_mixSurroundings_47 : decode cX5_mixSurroundings 47 = .ok (.lstore 4, 2) := by decide +kernel
theorem dX5_mixSurroundings_49 : decode cX5_mixSurroundings 49 = .ok (.iinc 6 1, 3) := by decide +kernel
theorem dX5_mixSurroundings_52 : decode cX5_mixSurroundings 52 = .ok (.goto (-26), 3) := by decide +kernel
theorem dX5_mixSurroundings_55 : decode cX5_mixSurroundings 55 = .ok (.aload_n 0, 1) := by decide +kernel
theorem dX5_mixSurroundings_56 : decode cX5_mixSurroundings 56 = .ok (.getfield 48, 3) := by decide +kernel
theorem dX5_mixSurroundings_59 : decode cX5_mixSurroundings 59 = .ok (.aload_n 0, 1) := by decide +kernel
theorem dX5_mixSurroundings_60 : decode cX5_mixSurroundings 60 = .ok (.getfield 16, 3) := by decide +kernel
theorem dX5_mixSurroundings_63 : decode cX5_mixSurroundings 63 = .ok (.iload_n 3, 1) := by decide +kernel
theorem dX5_mixSurroundings_64 : decode cX5_mixSurroundings 64 = .ok (.invokevirtual 136, 3) := by decide +kernel
theorem dX5_mixSurroundings_67 : decode cX5_mixSurroundings 67 = .ok (.lload 4, 2) := by decide +kernel
theorem dX5_mixSurroundings_69 : decode cX5_mixSurroundings 69 = .ok (.aload_n 0, 1) := by decide +kernel
theorem dX5_mixSurroundings_70 : decode cX5_mixSurroundings 70 = .ok (.getfield 48, 3) := by decide +kernel
theorem dX5_mixSurroundings_73 : decode cX5_mixSurroundings 73 = .ok (.invokevirtual 140, 3) := by decide +kernel
theorem dX5_mixSurroundings_76 : decode cX5_mixSurroundings 76 = .ok (.i2l, 1) := by decide +kernel
theorem dX5_mixSurroundings_77 : decode cX5_mixSurroundings 77 = .ok (.invokestatic 196, 3) := by decide +kernel
theorem dX5_mixSurroundings_80 : decode cX5_mixSurroundings 80 = .ok (.lstore 4, 2) := by decide +kernel
theorem dX5_mixSurroundings_82 : decode cX5_mixSurroundings 82 = .ok (.lload 4, 2) := by decide +kernel
theorem dX5_mixSurroundings_84 : decode cX5_mixSurroundings 84 = .ok (.aload_n 0, 1) := by decide +kernel
theorem dX5_mixSurroundings_85 : decode cX5_mixSurroundings 85 = .ok (.getfield 48, 3) := by decide +kernel
theorem dX5_mixSurroundings_88 : decode cX5_mixSurroundings 88 = .ok (.invokevirtual 143, 3) := by decide +kernel
theorem dX5_mixSurroundings_91 : decode cX5_mixSurroundings 91 = .ok (.i2l, 1) := by decide +kernel
theorem dX5_mixSurroundings_92 : decode cX5_mixSurroundings 92 = .ok (.invokestatic 196, 3) := by decide +kernel
theorem dX5_mixSurroundings_95 : decode cX5_mixSurroundings 95 = .ok (.lreturn, 1) := by decide +kernel
set_option maxRecDepth 20000 in
theorem ggX5_mixPositions_X3_solve : GoodIn wsX5_mixPositions wsX3_solve := goodIn_r _ [8, 9, 10, 11, 12, 13, 14, 15, 16, 17, 18, 19, 7, 20, 21, 22, 23, 24, 25, 26, 27, 28, 29, 30, 31, 32, 33, 66, 67, 68, 69, 70, 71, 72, 73, 74] (by decide +kernel) (by decide +kernel)
set_option maxRecDepth 20000 in
theorem gX5_mixPositions_X3_solve : GoodIn wsX5_mixPositions (wsV RX5 174 RX3 yX3_solve wsX3_solve) := goodIn_app (goodIn_of _ (by decide +kernel)) ggX5_mixPositions_X3_solve
set_option maxRecDepth 20000 in
theorem ggX5_mixPositions_X3_top : GoodIn wsX5_mixPositions wsX3_top := goodIn_r _ [37, 38, 39, 40, 7, 41, 21, 10, 42, 43, 44, 45, 16, 46, 47, 48, 72, 73, 74] (by decide +kernel) (by decide +kernel)
set_option maxRecDepth 20000 in
theorem gX5_mixPositions_X3_top : GoodIn wsX5_mixPositions (wsV RX5 177 RX3 yX3_top wsX3_top) := goodIn_app (goodIn_of _ (by decide +kernel)) ggX5_mixPositions_X3_top
set_option maxRecDepth 20000 in
theorem ggX5_mixPositions_X5_mix : GoodIn wsX5_mixPositions wsX5_mix := goodIn_r _ [51, 52] (by decide +kernel) (by decide +kernel)
set_option maxRecDepth 20000 in
theorem gX5_mixPositions_X5_mix : GoodIn wsX5_mixPositions (va_wsS RX5 196 yX5_mix wsX5_mix) := goodIn_app (goodIn_of _ (by decide +kernel)) ggX5_mixPositions_X5_mix
set_option maxRecDepth 20000 in
theorem ggX5_mixPositions_X3_bottom : GoodIn wsX5_mixPositions wsX3_bottom := goodIn_r _ [56, 16, 42, 43, 44, 7, 45, 38, 39, 40, 41, 21, 10, 46, 47, 48, 72, 73, 74] (by decide +kernel) (by decide +kernel)
set_option maxRecDepth 20000 in
theorem gX5_mixPositions_X3_bottom : GoodIn wsX5_mixPositions (wsV RX5 181 RX3 yX3_bottom wsX3_bottom) := goodIn_app (goodIn_of _ (by decide +kernel)) ggX5_mixPositions_X3_bottom
theorem dX5_mixPositions_0 : decode cX5_mixPositions 0 = .ok (.lload_n 1, 1) := by decide +kernel
theorem dX5_mixPositions_1 : decode cX5_mixPositions 1 = .ok (.lstore_n 3, 1) := by decide +kernel
theorem dX5_mixPositions_2 : decode cX5_mixPositions 2 = .ok (.aload_n 0, 1) := by decide +kernel
theorem dX5_mixPositions_3 : decode cX5_mixPositions 3 = .ok (.getfield 55, 3) := by decide +kernel
theorem dX5_mixPositions_6 : decode cX5_mixPositions 6 = .ok (.aload_n 0, 1) := by decide +kernel
theorem dX5_mixPositions_7 : decode cX5_mixPositions 7 = .ok (.getfield 16, 3) := by decide +kernel
theorem dX5_mixPositions_10 : decode cX5_mixPositions 10 = .ok (.invokevirtual 174, 3) := by decide +kernel
theorem dX5_mixPositions_13 : decode cX5_mixPositions 13 = .ok (.iconst 0, 1) := by decide +kernel
theorem dX5_mixPositions_14 : decode cX5_mixPositions 14 = .ok (.istore 5, 2) := by decide +kernel
theorem dX5_mixPositions_16 : decode cX5_mixPositions 16 = .ok (.iload 5, 2) := by decide +kernel
theorem dX5_mixPositions_18 : decode cX5_mixPositions 18 = .ok (.aload_n 0, 1) := by decide +kernel
theorem dX5_mixPositions_19 : decode cX5_mixPositions 19 = .ok (.getfield 16, 3) := by decide +kernel
theorem dX5_mixPositions_22 : decode cX5_mixPositions 22 = .ok (.getfield 63, 3) := by decide +kernel
theorem dX5_mixPositions_25 : decode cX5_mixPositions 25 = .ok (.if_icmp .ge 56, 3) := by decide +kernel
theorem dX5_mixPositions_28 : decode cX5_mixPositions 28 = .ok (.iconst 0, 1) := by decide +kernel
theorem dX5_mixPositions_29 : decode cX5_mixPositions 29 = .ok (.istore 6, 2) := by decide +kernel
theorem dX5_mixPositions_31 : decode cX5_mixPositions 31 = .ok (.iload 6, 2) := by decide +kernel
theorem dX5_mixPositions_33 : decode cX5_mixPositions 33 = .ok (.iconst 2, 1) := by decide +kernel
theorem dX5_mixPositions_34 : decode cX5_mixPositions 34 = .ok (.if_icmp .ge 41, 3) := by decide +kernel
theorem dX5_mixPositions_37 : decode cX5_mixPositions 37 = .ok (.lload_n 3, 1) := by decide +kernel
theorem dX5_mixPositions_38 : decode cX5_mixPositions 38 = .ok (.aload_n 0, 1) := by decide +kernel
theorem dX5_mixPositions_39 : decode cX5_mixPositions 39 = .ok (.getfield 55, 3) := by decide +kernel
theorem dX5_mixPositions_42 : decode cX5_mixPositions 42 = .ok (.iload 5, 2) := by decide +kernel
theorem dX5_mixPositions_44 : decode cX5_mixPositions 44 = .ok (.iload 6, 2) := by decide +kernel
theorem dX5_mixPositions_46 : decode cX5_mixPositions 46 = .ok (.invokevirtual 177, 3) := by decide +kernel
theorem dX5_mixPositions_49 : decode cX5_mixPositions 49 = .ok (.invokestatic 196, 3) := by decide +kernel
theorem dX5_mixPositions_52 : decode cX5_mixPositions 52 = .ok (.lstore_n 3, 1) := by decide +kernel
theorem dX5_mixPositions_53 : decode cX5_mixPositions 53 = .ok (.lload_n 3, 1) := by decide +kernel
theorem dX5_mixPositions_54 : decode cX5_mixPositions 54 = .ok (.aload_n 0, 1) := by decide +kernel
theorem dX5_mixPositions_55 : decode cX5_mixPositions 55 = .ok (.getfield 55, 3) := by decide +kernel
theorem dX5_mixPositions_58 : decode cX5_mixPositions 58 = .ok (.iload 5, 2) := by decide +kernel
theorem dX5_mixPositions_60 : decode cX5_mixPositions 60 = .ok (.iload 6, 2) := by decide +kernel
theorem dX5_mixPositions_62 : decode cX5_mixPositions 62 = .ok (.invokevirtual 181, 3) := by decide +kernel
theorem dX5_mixPositions_65 : decode cX5_mixPositions 65 = .ok (.invokestatic 196, 3) := by decide +kernel
theorem dX5_mixPositions_68 : decode cX5_mixPositions 68 = .ok (.lstore_n 3, 1) := by decide +kernel
theorem dX5_mixPositions_69 : decode cX5_mixPositions 69 = .ok (.iinc 6 1, 3) := by decide +kernel
theorem dX5_mixPositions_72 : decode cX5_mixPositions 72 = .ok (.goto (-41), 3) := by decide +kernel
theorem dX5_mixPositions_75 : decode cX5_mixPositions 75 = .ok (.iinc 5 1, 3) := by decide +kernel
theorem dX5_mixPositions_78 : decode cX5_mixPositions 78 = .ok (.goto (-62), 3) := by decide +kernel
theorem dX5_mixPositions_81 : decode cX5_mixPositions 81 = .ok (.lload_n 3, 1) := by decide +kernel
theorem dX5_mixPositions_82 : decode cX5_mixPositions 82 = .ok (.lreturn, 1) := by decide +kernel
theorem dX5_floatBits_0 : decode cX5_floatBits 0 = .ok (.fload_n 0, 1) := by decide +kernel
theorem dX5_floatBits_1 : decode cX5_floatBits 1 = .ok (.fconst 0, 1) := by decide +kernel
theorem dX5_floatBits_2 : decode cX5_floatBits 2 = .ok (.fcmp .l, 1) := by decide +kernel
theorem dX5_floatBits_3 : decode cX5_floatBits 3 = .ok (.ifCond .ne 5, 3) := by decide +kernel
theorem dX5_floatBits_6 : decode cX5_floatBits 6 = .ok (.iconst 0, 1) := by decide +kernel
theorem dX5_floatBits_7 : decode cX5_floatBits 7 = .ok (.ireturn, 1) := by decide +kernel
theorem dX5_floatBits_8 : decode cX5_floatBits 8 = .ok (.fload_n 0, 1) := by decide +kernel
theorem dX5_floatBits_9 : decode cX5_floatBits 9 = .ok (.fconst 0, 1) := by decide +kernel
theorem dX5_floatBits_10 : decode cX5_floatBits 10 = .ok (.fcmp .g, 1) := by decide +kernel
theorem dX5_floatBits_11 : decode cX5_floatBits 11 = .ok (.ifCond .ge 8, 3) := by decide +kernel
theorem dX5_floatBits_14 : decode cX5_floatBits 14 = .ok (.fload_n 0, 1) := by decide +kernel
theorem dX5_floatBits_15 : decode cX5_floatBits 15 = .ok (.fneg, 1) := by decide +kernel
theorem dX5_floatBits_16 : decode cX5_floatBits 16 = .ok (.goto 4, 3) := by decide +kernel
theorem dX5_floatBits_19 : decode cX5_floatBits 19 = .ok (.fload_n 0, 1) := by decide +kernel
theorem dX5_floatBits_20 : decode cX5_floatBits 20 = .ok (.fstore_n 1, 1) := by decide +kernel
theorem dX5_floatBits_21 : decode cX5_floatBits 21 = .ok (.bipush 127, 2) := by decide +kernel
theorem dX5_floatBits_23 : decode cX5_floatBits 23 = .ok (.istore_n 2, 1) := by decide +kernel
theorem dX5_floatBits_24 : decode cX5_floatBits 24 = .ok (.fload_n 1, 1) := by decide +kernel
theorem dX5_floatBits_25 : decode cX5_floatBits 25 = .ok (.fconst 2, 1) := by decide +kernel
theorem dX5_floatBits_26 : decode cX5_floatBits 26 = .ok (.fcmp .l, 1) := by decide +kernel
theorem dX5_floatBits_27 : decode cX5_floatBits 27 = .ok (.ifCond .lt 20, 3) := by decide +kernel
theorem dX5_floatBits_30 : decode cX5_floatBits 30 = .ok (.iload_n 2, 1) := by decide +kernel
theorem dX5_floatBits_31 : decode cX5_floatBits 31 = .ok (.sipush 254, 3) := by decide +kernel
theorem dX5_floatBits_34 : decode cX5_floatBits 34 = .ok (.if_icmp .ge 13, 3) := by decide +kernel
theorem dX5_floatBits_37 : decode cX5_floatBits 37 = .ok (.fload_n 1, 1) := by decide +kernel
theorem dX5_floatBits_38 : decode cX5_floatBits 38 = .ok (.fconst 2, 1) := by decide +kernel
theorem dX5_floatBits_39 : decode cX5_floatBits 39 = .ok (.fdiv, 1) := by decide +kernel
theorem dX5_floatBits_40 : decode cX5_floatBits 40 = .ok (.fstore_n 1, 1) := by decide +kernel
theorem dX5_floatBits_41 : decode cX5_floatBits 41 = .ok (.iinc 2 1, 3) := by decide +kernel
theorem dX5_floatBits_44 : decode cX5_floatBits 44 = .ok (.goto (-20), 3) := by decide +kernel
theorem dX5_floatBits_47 : decode cX5_floatBits 47 = .ok (.fload_n 1, 1) := by decide +kernel
theorem dX5_floatBits_48 : decode cX5_floatBits 48 = .ok (.fconst 1, 1) := by decide +kernel
theorem dX5_floatBits_49 : decode cX5_floatBits 49 = .ok (.fcmp .g, 1) := by decide +kernel
theorem dX5_floatBits_50 : decode cX5_floatBits 50 = .ok (.ifCond .ge 18, 3) := by decide +kernel
theorem dX5_floatBits_53 : decode cX5_floatBits 53 = .ok (.iload_n 2, 1) := by decide +kernel
theorem dX5_floatBits_54 : decode cX5_floatBits 54 = .ok (.iconst 1, 1) := by decide +kernel
theorem dX5_floatBits_55 : decode cX5_floatBits 55 = .ok (.if_icmp .le 13, 3) := by decide +kernel
theorem dX5_floatBits_58 : decode cX5_floatBits 58 = .ok (.fload_n 1, 1) := by decide +kernel
theorem dX5_floatBits_59 : decode cX5_floatBits 59 = .ok (.fconst 2, 1) := by decide +kernel
theorem dX5_floatBits_60 : decode cX5_floatBits 60 = .ok (.fmul, 1) := by decide +kernel
theorem dX5_floatBits_61 : decode cX5_floatBits 61 = .ok (.fstore_n 1, 1) := by decide +kernel
theorem dX5_floatBits_62 : decode cX5_floatBits 62 = .ok (.iinc 2 (-1), 3) := by decide +kernel
theorem dX5_floatBits_65 : decode cX5_floatBits 65 = .ok (.goto (-18), 3) := by decide +kernel
theorem dX5_floatBits_68 : decode cX5_floatBits 68 = .ok (.fload_n 1, 1) := by decide +kernel
theorem dX5_floatBits_69 : decode cX5_floatBits 69 = .ok (.ldc 239, 2) := by decide +kernel
theorem dX5_floatBits_71 : decode cX5_floatBits 71 = .ok (.fmul, 1) := by decide +kernel
theorem dX5_floatBits_72 : decode cX5_floatBits 72 = .ok (.f2i, 1) := by decide +kernel
theorem dX5_floatBits_73 : decode cX5_floatBits 73 = .ok (.ldc 240, 2) := by decide +kernel
theorem dX5_floatBits_75 : decode cX5_floatBits 75 = .ok (.isub, 1) := by decide +kernel
theorem dX5_floatBits_76 : decode cX5_floatBits 76 = .ok (.istore_n 3, 1) := by decide +kernel
theorem dX5_floatBits_77 : decode cX5_floatBits 77 = .ok (.fload_n 0, 1) := by decide +kernel
theorem dX5_floatBits_78 : decode cX5_floatBits 78 = .ok (.fconst 0, 1) := by decide +kernel
theorem dX5_floatBits_79 : decode cX5_floatBits 79 = .ok (.fcmp .g, 1) := by decide +kernel
theorem dX5_floatBits_80 : decode cX5_floatBits 80 = .ok (.ifCond .ge 8, 3) := by decide +kernel
theorem dX5_floatBits_83 : decode cX5_floatBits 83 = .ok (.ldc 241, 2) := by decide +kernel
theorem dX5_floatBits_85 : decode cX5_floatBits 85 = .ok (.goto 4, 3) := by decide +kernel
theorem dX5_floatBits_88 : decode cX5_floatBits 88 = .ok (.iconst 0, 1) := by decide +kernel
theorem dX5_floatBits_89 : decode cX5_floatBits 89 = .ok (.iload_n 2, 1) := by decide +kernel
theorem dX5_floatBits_90 : decode cX5_floatBits 90 = .ok (.bipush 23, 2) := by decide +kernel
theorem dX5_floatBits_92 : decode cX5_floatBits 92 = .ok (.ishl, 1) := by decide +kernel
theorem dX5_floatBits_93 : decode cX5_floatBits 93 = .ok (.ior, 1) := by decide +kernel
theorem dX5_floatBits_94 : decode cX5_floatBits 94 = .ok (.iload_n 3, 1) := by decide +kernel
theorem dX5_floatBits_95 : decode cX5_floatBits 95 = .ok (.ior, 1) := by decide +kernel
theorem dX5_floatBits_96 : decode cX5_floatBits 96 = .ok (.ireturn, 1) := by decide +kernel
theorem dX5_greatestDivisor_0 : decode cX5_greatestDivisor 0 = .ok (.lload_n 0, 1) := by decide +kernel
theorem dX5_greatestDivisor_1 : decode cX5_greatestDivisor 1 = .ok (.lconst 0, 1) := by decide +kernel
theorem dX5_greatestDivisor_2 : decode cX5_greatestDivisor 2 = .ok (.lcmp, 1) := by decide +kernel
theorem dX5_greatestDivisor_3 : decode cX5_greatestDivisor 3 = .ok (.ifCond .ge 8, 3) := by decide +kernel
theorem dX5_greatestDivisor_6 : decode cX5_greatestDivisor 6 = .ok (.lload_n 0, 1) := by decide +kernel
theorem dX5_greatestDivisor_7 : decode cX5_greatestDivisor 7 = .ok (.lneg, 1) := by decide +kernel
theorem dX5_greatestDivisor_8 : decode cX5_greatestDivisor 8 = .ok (.goto 4, 3) := by decide +kernel
theorem dX5_greatestDivisor_11 : decode cX5_greatestDivisor 11 = .ok (.lload_n 0, 1) := by decide +kernel
theorem dX5_greatestDivisor_12 : decode cX5_greatestDivisor 12 = .ok (.lstore 4, 2) := by decide +kernel
theorem dX5_greatestDivisor_14 : decode cX5_greatestDivisor 14 = .ok (.lload_n 2, 1) := by decide +kernel
theorem dX5_greatestDivisor_15 : decode cX5_greatestDivisor 15 = .ok (.lconst 0, 1) := by decide +kernel
theorem dX5_greatestDivisor_16 : decode cX5_greatestDivisor 16 = .ok (.lcmp, 1) := by decide +kernel
theorem dX5_greatestDivisor_17 : decode cX5_greatestDivisor 17 = .ok (.ifCond .ge 8, 3) := by decide +kernel
theorem dX5_greatestDivisor_20 : decode cX5_greatestDivisor 20 = .ok (.lload_n 2, 1) := by decide +kernel
theorem dX5_greatestDivisor_21 : decode cX5_greatestDivisor 21 = .ok (.lneg, 1) := by decide +kernel
theorem dX5_greatestDivisor_22 : decode cX5_greatestDivisor 22 = .ok (.goto 4, 3) := by decide +kernel
theorem dX5_greatestDivisor_25 : decode cX5_greatestDivisor 25 = .ok (.lload_n 2, 1) := by decide +kernel
theorem dX5_greatestDivisor_26 : decode cX5_greatestDivisor 26 = .ok (.lstore 6, 2) := by decide +kernel
theorem dX5_greatestDivisor_28 : decode cX5_greatestDivisor 28 = .ok (.iconst 0, 1) := by decide +kernel
theorem dX5_greatestDivisor_29 : decode cX5_greatestDivisor 29 = .ok (.istore 8, 2) := by decide +kernel
theorem dX5_greatestDivisor_31 : decode cX5_greatestDivisor 31 = .ok (.iload 8, 2) := by decide +kernel
theorem dX5_greatestDivisor_33 : decode cX5_greatestDivisor 33 = .ok (.bipush 100, 2) := by decide +kernel
theorem dX5_greatestDivisor_35 : decode cX5_greatestDivisor 35 = .ok (.if_icmp .ge 31, 3) := by decide +kernel
theorem dX5_greatestDivisor_38 : decode cX5_greatestDivisor 38 = .ok (.lload 6, 2) := by decide +kernel
theorem dX5_greatestDivisor_40 : decode cX5_greatestDivisor 40 = .ok (.lconst 0, 1) := by decide +kernel
theorem dX5_greatestDivisor_41 : decode cX5_greatestDivisor 41 = .ok (.lcmp, 1) := by decide +kernel
theorem dX5_greatestDivisor_42 : decode cX5_greatestDivisor 42 = .ok (.ifCond .eq 24, 3) := by decide +kernel
theorem dX5_greatestDivisor_45 : decode cX5_greatestDivisor 45 = .ok (.lload 4, 2) := by decide +kernel
theorem dX5_greatestDivisor_47 : decode cX5_greatestDivisor 47 = .ok (.lload 6, 2) := by decide +kernel
theorem dX5_greatestDivisor_49 : decode cX5_greatestDivisor 49 = .ok (.lrem, 1) := by decide +kernel
theorem dX5_greatestDivisor_50 : decode cX5_greatestDivisor 50 = .ok (.lstore 9, 2) := by decide +kernel
theorem dX5_greatestDivisor_52 : decode cX5_greatestDivisor 52 = .ok (.lload 6, 2) := by decide +kernel
theorem dX5_greatestDivisor_54 : decode cX5_greatestDivisor 54 = .ok (.lstore 4, 2) := by decide +kernel
theorem dX5_greatestDivisor_56 : decode cX5_greatestDivisor 56 = .ok (.lload 9, 2) := by decide +kernel
theorem dX5_greatestDivisor_58 : decode cX5_greatestDivisor 58 = .ok (.lstore 6, 2) := by decide +kernel
theorem dX5_greatestDivisor_60 : decode cX5_greatestDivisor 60 = .ok (.iinc 8 1, 3) := by decide +kernel
theorem dX5_greatestDivisor_63 : decode cX5_greatestDivisor 63 = .ok (.goto (-32), 3) := by decide +kernel
theorem dX5_greatestDivisor_66 : decode cX5_greatestDivisor 66 = .ok (.lload 4, 2) := by decide +kernel
theorem dX5_greatestDivisor_68 : decode cX5_greatestDivisor 68 = .ok (.lreturn, 1) := by decide +kernel
