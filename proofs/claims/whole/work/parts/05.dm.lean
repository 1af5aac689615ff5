theorem dX6_init_0 : decode cX6_init 0 = .ok (.aload_n 0, 1) := by decide +kernel
theorem dX6_init_1 : decode cX6_init 1 = .ok (.invokespecial 1, 3) := by decide +kernel
theorem dX6_init_4 : decode cX6_init 4 = .ok (.aload_n 0, 1) := by decide +kernel
theorem dX6_init_5 : decode cX6_init 5 = .ok (.bipush 50, 2) := by decide +kernel
theorem dX6_init_7 : decode cX6_init 7 = .ok (.newarray .int, 2) := by decide +kernel
theorem dX6_init_9 : decode cX6_init 9 = .ok (.putfield 7, 3) := by decide +kernel
theorem dX6_init_12 : decode cX6_init 12 = .ok (.aload_n 0, 1) := by decide +kernel
theorem dX6_init_13 : decode cX6_init 13 = .ok (.sipush 250, 3) := by decide +kernel
theorem dX6_init_16 : decode cX6_init 16 = .ok (.newarray .int, 2) := by decide +kernel
theorem dX6_init_18 : decode cX6_init 18 = .ok (.putfield 13, 3) := by decide +kernel
theorem dX6_init_21 : decode cX6_init 21 = .ok (.aload_n 0, 1) := by decide +kernel
theorem dX6_init_22 : decode cX6_init 22 = .ok (.bipush 6, 2) := by decide +kernel
theorem dX6_init_24 : decode cX6_init 24 = .ok (.newarray .int, 2) := by decide +kernel
theorem dX6_init_26 : decode cX6_init 26 = .ok (.putfield 16, 3) := by decide +kernel
theorem dX6_init_29 : decode cX6_init 29 = .ok (.aload_n 0, 1) := by decide +kernel
theorem dX6_init_30 : decode cX6_init 30 = .ok (.bipush 24, 2) := by decide +kernel
theorem dX6_init_32 : decode cX6_init 32 = .ok (.newarray .int, 2) := by decide +kernel
theorem dX6_init_34 : decode cX6_init 34 = .ok (.putfield 19, 3) := by decide +kernel
theorem dX6_init_37 : decode cX6_init 37 = .ok (.aload_n 0, 1) := by decide +kernel
theorem dX6_init_38 : decode cX6_init 38 = .ok (.sipush 6534, 3) := by decide +kernel
theorem dX6_init_41 : decode cX6_init 41 = .ok (.newarray .int, 2) := by decide +kernel
theorem dX6_init_43 : decode cX6_init 43 = .ok (.putfield 22, 3) := by decide +kernel
theorem dX6_init_46 : decode cX6_init 46 = .ok (.aload_n 0, 1) := by decide +kernel
theorem dX6_init_47 : decode cX6_init 47 = .ok (.sipush 6534, 3) := by decide +kernel
theorem dX6_init_50 : decode cX6_init 50 = .ok (.newarray .int, 2) := by decide +kernel
theorem dX6_init_52 : decode cX6_init 52 = .ok (.putfield 25, 3) := by decide +kernel
theorem dX6_init_55 : decode cX6_init 55 = .ok (.aload_n 0, 1) := by decide +kernel
theorem dX6_init_56 : decode cX6_init 56 = .ok (.bipush 6, 2) := by decide +kernel
theorem dX6_init_58 : decode cX6_init 58 = .ok (.newarray .int, 2) := by decide +kernel
theorem dX6_init_60 : decode cX6_init 60 = .ok (.putfield 28, 3) := by decide +kernel
theorem dX6_init_63 : decode cX6_init 63 = .ok (.aload_n 0, 1) := by decide +kernel
theorem dX6_init_64 : decode cX6_init 64 = .ok (.bipush 6, 2) := by decide +kernel
theorem dX6_init_66 : decode cX6_init 66 = .ok (.newarray .int, 2) := by decide +kernel
theorem dX6_init_68 : decode cX6_init 68 = .ok (.putfield 31, 3) := by decide +kernel
theorem dX6_init_71 : decode cX6_init 71 = .ok (.aload_n 0, 1) := by decide +kernel
theorem dX6_init_72 : decode cX6_init 72 = .ok (.bipush 6, 2) := by decide +kernel
theorem dX6_init_74 : decode cX6_init 74 = .ok (.newarray .boolean, 2) := by decide +kernel
theorem dX6_init_76 : decode cX6_init 76 = .ok (.putfield 34, 3) := by decide +kernel
theorem dX6_init_79 : decode cX6_init 79 = .ok (.aload_n 0, 1) := by decide +kernel
theorem dX6_init_80 : decode cX6_init 80 = .ok (.bipush 24, 2) := by decide +kernel
theorem dX6_init_82 : decode cX6_init 82 = .ok (.newarray .int, 2) := by decide +kernel
theorem dX6_init_84 : decode cX6_init 84 = .ok (.putfield 38, 3) := by decide +kernel
theorem dX6_init_87 : decode cX6_init 87 = .ok (.aload_n 0, 1) := by decide +kernel
theorem dX6_init_88 : decode cX6_init 88 = .ok (.bipush 56, 2) := by decide +kernel
theorem dX6_init_90 : decode cX6_init 90 = .ok (.newarray .long, 2) := by decide +kernel
theorem dX6_init_92 : decode cX6_init 92 = .ok (.putfield 41, 3) := by decide +kernel
theorem dX6_init_95 : decode cX6_init 95 = .ok (.aload_n 0, 1) := by decide +kernel
theorem dX6_init_96 : decode cX6_init 96 = .ok (.getfield 7, 3) := by decide +kernel
theorem dX6_init_99 : decode cX6_init 99 = .ok (.iconst 0, 1) := by decide +kernel
theorem dX6_init_100 : decode cX6_init 100 = .ok (.iconst 1, 1) := by decide +kernel
theorem dX6_init_101 : decode cX6_init 101 = .ok (.iastore, 1) := by decide +kernel
theorem dX6_init_102 : decode cX6_init 102 = .ok (.return_, 1) := by decide +kernel
theorem dX6_in_0 : decode cX6_in 0 = .ok (.iload_n 0, 1) := by decide +kernel
theorem dX6_in_1 : decode cX6_in 1 = .ok (.iload_n 1, 1) := by decide +kernel
theorem dX6_in_2 : decode cX6_in 2 = .ok (.if_icmp .lt 12, 3) := by decide +kernel
theorem dX6_in_5 : decode cX6_in 5 = .ok (.iload_n 0, 1) := by decide +kernel
theorem dX6_in_6 : decode cX6_in 6 = .ok (.iload_n 2, 1) := by decide +kernel
theorem dX6_in_7 : decode cX6_in 7 = .ok (.if_icmp .gt 7, 3) := by decide +kernel
theorem dX6_in_10 : decode cX6_in 10 = .ok (.iconst 1, 1) := by decide +kernel
theorem dX6_in_11 : decode cX6_in 11 = .ok (.goto 4, 3) := by decide +kernel
theorem dX6_in_14 : decode cX6_in 14 = .ok (.iconst 0, 1) := by decide +kernel
theorem dX6_in_15 : decode cX6_in 15 = .ok (.ireturn, 1) := by decide +kernel
theorem dX6_error_0 : decode cX6_error 0 = .ok (.aload_n 0, 1) := by decide +kernel
theorem dX6_error_1 : decode cX6_error 1 = .ok (.getfield 16, 3) := by decide +kernel
theorem dX6_error_4 : decode cX6_error 4 = .ok (.bipush (-2), 2) := by decide +kernel
theorem dX6_error_6 : decode cX6_error 6 = .ok (.iload_n 1, 1) := by decide +kernel
theorem dX6_error_7 : decode cX6_error 7 = .ok (.isub, 1) := by decide +kernel
theorem dX6_error_8 : decode cX6_error 8 = .ok (.dup2, 1) := by decide +kernel
theorem dX6_error_9 : decode cX6_error 9 = .ok (.iaload, 1) := by decide +kernel
theorem dX6_error_10 : decode cX6_error 10 = .ok (.iconst 1, 1) := by decide +kernel
theorem dX6_error_11 : decode cX6_error 11 = .ok (.iadd, 1) := by decide +kernel
theorem dX6_error_12 : decode cX6_error 12 = .ok (.iastore, 1) := by decide +kernel
theorem dX6_error_13 : decode cX6_error 13 = .ok (.iload_n 1, 1) := by decide +kernel
theorem dX6_error_14 : decode cX6_error 14 = .ok (.ireturn, 1) := by decide +kernel
theorem dX6_save_0 : decode cX6_save 0 = .ok (.aload_n 0, 1) := by decide +kernel
theorem dX6_save_1 : decode cX6_save 1 = .ok (.getfield 45, 3) := by decide +kernel
theorem dX6_save_4 : decode cX6_save 4 = .ok (.iconst 5, 1) := by decide +kernel
theorem dX6_save_5 : decode cX6_save 5 = .ok (.if_icmp .ne 43, 3) := by decide +kernel
theorem dX6_save_8 : decode cX6_save 8 = .ok (.iconst 0, 1) := by decide +kernel
theorem dX6_save_9 : decode cX6_save 9 = .ok (.istore_n 1, 1) := by decide +kernel
theorem dX6_save_10 : decode cX6_save 10 = .ok (.iload_n 1, 1) := by decide +kernel
theorem dX6_save_11 : decode cX6_save 11 = .ok (.sipush 200, 3) := by decide +kernel
theorem dX6_save_14 : decode cX6_save 14 = .ok (.if_icmp .ge 24, 3) := by decide +kernel
theorem dX6_save_17 : decode cX6_save 17 = .ok (.aload_n 0, 1) := by decide +kernel
theorem dX6_save_18 : decode cX6_save 18 = .ok (.getfield 13, 3) := by decide +kernel
theorem dX6_save_21 : decode cX6_save 21 = .ok (.iload_n 1, 1) := by decide +kernel
theorem dX6_save_22 : decode cX6_save 22 = .ok (.aload_n 0, 1) := by decide +kernel
theorem dX6_save_23 : decode cX6_save 23 = .ok (.getfield 13, 3) := by decide +kernel
theorem dX6_save_26 : decode cX6_save 26 = .ok (.iload_n 1, 1) := by decide +kernel
theorem dX6_save_27 : decode cX6_save 27 = .ok (.bipush 50, 2) := by decide +kernel
theorem dX6_save_29 : decode cX6_save 29 = .ok (.iadd, 1) := by decide +kernel
theorem dX6_save_30 : decode cX6_save 30 = .ok (.iaload, 1) := by decide +kernel
theorem dX6_save_31 : decode cX6_save 31 = .ok (.iastore, 1) := by decide +kernel
theorem dX6_save_32 : decode cX6_save 32 = .ok (.iinc 1 1, 3) := by decide +kernel
theorem dX6_save_35 : decode cX6_save 35 = .ok (.goto (-25), 3) := by decide +kernel
theorem dX6_save_38 : decode cX6_save 38 = .ok (.aload_n 0, 1) := by decide +kernel
theorem dX6_save_39 : decode cX6_save 39 = .ok (.dup, 1) := by decide +kernel
theorem dX6_save_40 : decode cX6_save 40 = .ok (.getfield 45, 3) := by decide +kernel
theorem dX6_save_43 : decode cX6_save 43 = .ok (.iconst 1, 1) := by decide +kernel
theorem dX6_save_44 : decode cX6_save 44 = .ok (.isub, 1) := by decide +kernel
theorem dX6_save_45 : decode cX6_save 45 = .ok (.putfield 45, 3) := by decide +kernel
theorem dX6_save_48 : decode cX6_save 48 = .ok (.iconst 0, 1) := by decide +kernel
theorem dX6_save_49 : decode cX6_save 49 = .ok (.istore_n 1, 1) := by decide +kernel
theorem dX6_save_50 : decode cX6_save 50 = .ok (.iload_n 1, 1) := by decide +kernel
theorem dX6_save_51 : decode cX6_save 51 = .ok (.bipush 50, 2) := by decide +kernel
theorem dX6_save_53 : decode cX6_save 53 = .ok (.if_icmp .ge 29, 3) := by decide +kernel
theorem dX6_save_56 : decode cX6_save 56 = .ok (.aload_n 0, 1) := by decide +kernel
theorem dX6_save_57 : decode cX6_save 57 = .ok (.getfield 13, 3) := by decide +kernel
theorem dX6_save_60 : decode cX6_save 60 = .ok (.bipush 50, 2) := by decide +kernel
theorem dX6_save_62 : decode cX6_save 62 = .ok (.aload_n 0, 1) := by decide +kernel
theorem dX6_save_63 : decode cX6_save 63 = .ok (.getfield 45, 3) := by decide +kernel
theorem dX6_save_66 : decode cX6_save 66 = .ok (.imul, 1) := by decide +kernel
theorem dX6_save_67 : decode cX6_save 67 = .ok (.iload_n 1, 1) := by decide +kernel
theorem dX6_save_68 : decode cX6_save 68 = .ok (.iadd, 1) := by decide +kernel
theorem dX6_save_69 : decode cX6_save 69 = .ok (.aload_n 0, 1) := by decide +kernel
theorem dX6_save_70 : decode cX6_save 70 = .ok (.getfield 7, 3) := by decide +kernel
theorem dX6_save_73 : decode cX6_save 73 = .ok (.iload_n 1, 1) := by decide +kernel
theorem dX6_save_74 : decode cX6_save 74 = .ok (.iaload, 1) := by decide +kernel
theorem dX6_save_75 : decode cX6_save 75 = .ok (.iastore, 1) := by decide +kernel
theorem dX6_save_76 : decode cX6_save 76 = .ok (.iinc 1 1, 3) := by decide +kernel
theorem dX6_save_79 : decode cX6_save 79 = .ok (.goto (-29), 3) := by decide +kernel
theorem dX6_save_82 : decode cX6_save 82 = .ok (.aload_n 0, 1) := by decide +kernel
theorem dX6_save_83 : decode cX6_save 83 = .ok (.dup, 1) := by decide +kernel
theorem dX6_save_84 : decode cX6_save 84 = .ok (.getfield 45, 3) := by decide +kernel
theorem dX6_save_87 : decode cX6_save 87 = .ok (.iconst 1, 1) := by decide +kernel
theorem dX6_save_88 : decode cX6_save 88 = .ok (.iadd, 1) := by decide +kernel
theorem dX6_save_89 : decode cX6_save 89 = .ok (.putfield 45, 3) := by decide +kernel
theorem dX6_save_92 : decode cX6_save 92 = .ok (.return_, 1) := by decide +kernel
set_option maxRecDepth 20000 in
theorem ggX6_undo_X6_error : GoodIn wsX6_undo wsX6_error := goodIn_r _ [8, 9, 10, 11, 12, 13, 14, 15, 16, 17, 18, 19, 20, 21, 22, 23, 24] (by decide +kernel) (by decide +kernel)
set_option maxRecDepth 20000 in
theorem gX6_undo_X6_error : GoodIn wsX6_undo (wsV RX6 49 RX6 yX6_error wsX6_error) := goodIn_app (goodIn_of _ (by decide +kernel)) ggX6_undo_X6_error
theorem dX6_undo_0 : decode cX6_undo 0 = .ok (.aload_n 0, 1) := by decide +kernel
theorem dX6_undo_1 : decode cX6_undo 1 = .ok (.getfield 45, 3) := by decide +kernel
theorem dX6_undo_4 : decode cX6_undo 4 = .ok (.ifCond .ne 10, 3) := by decide +kernel
theorem dX6_undo_7 : decode cX6_undo 7 = .ok (.aload_n 0, 1) := by decide +kernel
theorem dX6_undo_8 : decode cX6_undo 8 = .ok (.bipush (-7), 2) := by decide +kernel
theorem dX6_undo_10 : decode cX6_undo 10 = .ok (.invokevirtual 49, 3) := by decide +kernel
theorem dX6_undo_13 : decode cX6_undo 13 = .ok (.ireturn, 1) := by decide +kernel
theorem dX6_undo_14 : decode cX6_undo 14 = .ok (.aload_n 0, 1) := by decide +kernel
theorem dX6_undo_15 : decode cX6_undo 15 = .ok (.dup, 1) := by decide +kernel
theorem dX6_undo_16 : decode cX6_undo 16 = .ok (.getfield 45, 3) := by decide +kernel
theorem dX6_undo_19 : decode cX6_undo 19 = .ok (.iconst 1, 1) := by decide +kernel
theorem dX6_undo_20 : decode cX6_undo 20 = .ok (.isub, 1) := by decide +kernel
theorem dX6_undo_21 : decode cX6_undo 21 = .ok (.putfield 45, 3) := by decide +kernel
theorem dX6_undo_24 : decode cX6_undo 24 = .ok (.iconst 0, 1) := by decide +kernel
theorem dX6_undo_25 : decode cX6_undo 25 = .ok (.istore_n 1, 1) := by decide +kernel
theorem dX6_undo_26 : decode cX6_undo 26 = .ok (.iload_n 1, 1) := by decide +kernel
theorem dX6_undo_27 : decode cX6_undo 27 = .ok (.bipush 50, 2) := by decide +kernel
theorem dX6_undo_29 : decode cX6_undo 29 = .ok (.if_icmp .ge 29, 3) := by decide +kernel
theorem dX6_undo_32 : decode cX6_undo 32 = .ok (.aload_n 0, 1) := by decide +kernel
theorem dX6_undo_33 : decode cX6_undo 33 = .ok (.getfield 7, 3) := by decide +kernel
theorem dX6_undo_36 : decode cX6_undo 36 = .ok (.iload_n 1, 1) := by decide +kernel
theorem dX6_undo_37 : decode cX6_undo 37 = .ok (.aload_n 0, 1) := by decide +kernel
theorem dX6_undo_38 : decode cX6_undo 38 = .ok (.getfield 13, 3) := by decide +kernel
theorem dX6_undo_41 : decode cX6_undo 41 = .ok (.bipush 50, 2) := by decide +kernel
theorem dX6_undo_43 : decode cX6_undo 43 = .ok (.aload_n 0, 1) := by decide +kernel
theorem dX6_undo_44 : decode cX6_undo 44 = .ok (.getfield 45, 3) := by decide +kernel
theorem dX6_undo_47 : decode cX6_undo 47 = .ok (.imul, 1) := by decide +kernel
theorem dX6_undo_48 : decode cX6_undo 48 = .ok (.iload_n 1, 1) := by decide +kernel
theorem dX6_undo_49 : decode cX6_undo 49 = .ok (.iadd, 1) := by decide +kernel
theorem dX6_undo_50 : decode cX6_undo 50 = .ok (.iaload, 1) := by decide +kernel
theorem dX6_undo_51 : decode cX6_undo 51 = .ok (.iastore, 1) := by decide +kernel
theorem dX6_undo_52 : decode cX6_undo 52 = .ok (.iinc 1 1, 3) := by decide +kernel
theorem dX6_undo_55 : decode cX6_undo 55 = .ok (.goto (-29), 3) := by decide +kernel
theorem dX6_undo_58 : decode cX6_undo 58 = .ok (.aload_n 0, 1) := by decide +kernel
theorem dX6_undo_59 : decode cX6_undo 59 = .ok (.getfield 45, 3) := by decide +kernel
theorem dX6_undo_62 : decode cX6_undo 62 = .ok (.ireturn, 1) := by decide +kernel
theorem dX6_of_0 : decode cX6_of 0 = .ok (.aload_n 0, 1) := by decide +kernel
theorem dX6_of_1 : decode cX6_of 1 = .ok (.getfield 7, 3) := by decide +kernel
theorem dX6_of_4 : decode cX6_of 4 = .ok (.iconst 2, 1) := by decide +kernel
theorem dX6_of_5 : decode cX6_of 5 = .ok (.iconst 4, 1) := by decide +kernel
theorem dX6_of_6 : decode cX6_of 6 = .ok (.iload_n 1, 1) := by decide +kernel
theorem dX6_of_7 : decode cX6_of 7 = .ok (.imul, 1) := by decide +kernel
theorem dX6_of_8 : decode cX6_of 8 = .ok (.iadd, 1) := by decide +kernel
theorem dX6_of_9 : decode cX6_of 9 = .ok (.iload_n 2, 1) := by decide +kernel
theorem dX6_of_10 : decode cX6_of 10 = .ok (.iadd, 1) := by decide +kernel
theorem dX6_of_11 : decode cX6_of 11 = .ok (.iaload, 1) := by decide +kernel
theorem dX6_of_12 : decode cX6_of 12 = .ok (.ireturn, 1) := by decide +kernel
set_option maxRecDepth 20000 in
theorem ggX6_isVertex_X6_in : GoodIn wsX6_isVertex wsX6_in := goodIn_r _ [5] (by decide +kernel) (by decide +kernel)
set_option maxRecDepth 20000 in
theorem gX6_isVertex_X6_in : GoodIn wsX6_isVertex (va_wsS RX6 53 yX6_in wsX6_in) := goodIn_app (goodIn_of _ (by decide +kernel)) ggX6_isVertex_X6_in
theorem dX6_isVertex_0 : decode cX6_isVertex 0 = .ok (.iload_n 1, 1) := by decide +kernel
theorem dX6_isVertex_1 : decode cX6_isVertex 1 = .ok (.iconst 0, 1) := by decide +kernel
theorem dX6_isVertex_2 : decode cX6_isVertex 2 = .ok (.aload_n 0, 1) := by decide +kernel
theorem dX6_isVertex_3 : decode cX6_isVertex 3 = .ok (.getfield 7, 3) := by decide +kernel
theorem dX6_isVertex_6 : decode cX6_isVertex 6 = .ok (.iconst 0, 1) := by decide +kernel
theorem dX6_isVertex_7 : decode cX6_isVertex 7 = .ok (.iaload, 1) := by decide +kernel
theorem dX6_isVertex_8 : decode cX6_isVertex 8 = .ok (.iconst 1, 1) := by decide +kernel
theorem dX6_isVertex_9 : decode cX6_isVertex 9 = .ok (.isub, 1) := by decide +kernel
theorem dX6_isVertex_10 : decode cX6_isVertex 10 = .ok (.invokestatic 53, 3) := by decide +kernel
theorem dX6_isVertex_13 : decode cX6_isVertex 13 = .ok (.ireturn, 1) := by decide +kernel
set_option maxRecDepth 20000 in
theorem ggX6_isShift_X6_in : GoodIn wsX6_isShift wsX6_in := goodIn_r _ [4] (by decide +kernel) (by decide +kernel)
set_option maxRecDepth 20000 in
theorem gX6_isShift_X6_in : GoodIn wsX6_isShift (va_wsS RX6 53 yX6_in wsX6_in) := goodIn_app (goodIn_of _ (by decide +kernel)) ggX6_isShift_X6_in
theorem dX6_isShift_0 : decode cX6_isShift 0 = .ok (.iload_n 0, 1) := by decide +kernel
theorem dX6_isShift_1 : decode cX6_isShift 1 = .ok (.bipush (-2), 2) := by decide +kernel
theorem dX6_isShift_3 : decode cX6_isShift 3 = .ok (.iconst 2, 1) := by decide +kernel
theorem dX6_isShift_4 : decode cX6_isShift 4 = .ok (.invokestatic 53, 3) := by decide +kernel
theorem dX6_isShift_7 : decode cX6_isShift 7 = .ok (.ifCond .eq 17, 3) := by decide +kernel
theorem dX6_isShift_10 : decode cX6_isShift 10 = .ok (.iload_n 1, 1) := by decide +kernel
theorem dX6_isShift_11 : decode cX6_isShift 11 = .ok (.bipush (-2), 2) := by decide +kernel
theorem dX6_isShift_13 : decode cX6_isShift 13 = .ok (.iconst 2, 1) := by decide +kernel
theorem dX6_isShift_14 : decode cX6_isShift 14 = .ok (.invokestatic 53, 3) := by decide +kernel
theorem dX6_isShift_17 : decode cX6_isShift 17 = .ok (.ifCond .eq 7, 3) := by decide +kernel
theorem dX6_isShift_20 : decode cX6_isShift 20 = .ok (.iconst 1, 1) := by decide +kernel
theorem dX6_isShift_21 : decode cX6_isShift 21 = .ok (.goto 4, 3) := by decide +kernel
theorem dX6_isShift_24 : decode cX6_isShift 24 = .ok (.iconst 0, 1) := by decide +kernel
theorem dX6_isShift_25 : decode cX6_isShift 25 = .ok (.ireturn, 1) := by decide +kernel
set_option maxRecDepth 20000 in
theorem ggX6_isEdge_X6_of : GoodIn wsX6_isEdge wsX6_of := goodIn_r _ [5, 6, 7, 8, 9, 10, 11, 12, 13, 14, 15, 16, 17, 18, 19, 20, 21] (by decide +kernel) (by decide +kernel)
set_option maxRecDepth 20000 in
theorem gX6_isEdge_X6_of : GoodIn wsX6_isEdge (wsV RX6 57 RX6 yX6_of wsX6_of) := goodIn_app (goodIn_of _ (by decide +kernel)) ggX6_isEdge_X6_of
theorem dX6_isEdge_0 : decode cX6_isEdge 0 = .ok (.aload_n 0, 1) := by decide +kernel
theorem dX6_isEdge_1 : decode cX6_isEdge 1 = .ok (.iload_n 1, 1) := by decide +kernel
theorem dX6_isEdge_2 : decode cX6_isEdge 2 = .ok (.iconst 0, 1) := by decide +kernel
theorem dX6_isEdge_3 : decode cX6_isEdge 3 = .ok (.invokevirtual 57, 3) := by decide +kernel
theorem dX6_isEdge_6 : decode cX6_isEdge 6 = .ok (.iload_n 2, 1) := by decide +kernel
theorem dX6_isEdge_7 : decode cX6_isEdge 7 = .ok (.if_icmp .ne 39, 3) := by decide +kernel
theorem dX6_isEdge_10 : decode cX6_isEdge 10 = .ok (.aload_n 0, 1) := by decide +kernel
theorem dX6_isEdge_11 : decode cX6_isEdge 11 = .ok (.iload_n 1, 1) := by decide +kernel
theorem dX6_isEdge_12 : decode cX6_isEdge 12 = .ok (.iconst 1, 1) := by decide +kernel
theorem dX6_isEdge_13 : decode cX6_isEdge 13 = .ok (.invokevirtual 57, 3) := by decide +kernel
theorem dX6_isEdge_16 : decode cX6_isEdge 16 = .ok (.iload_n 3, 1) := by decide +kernel
theorem dX6_isEdge_17 : decode cX6_isEdge 17 = .ok (.if_icmp .ne 29, 3) := by decide +kernel
theorem dX6_isEdge_20 : decode cX6_isEdge 20 = .ok (.aload_n 0, 1) := by decide +kernel
theorem dX6_isEdge_21 : decode cX6_isEdge 21 = .ok (.iload_n 1, 1) := by decide +kernel
theorem dX6_isEdge_22 : decode cX6_isEdge 22 = .ok (.iconst 2, 1) := by decide +kernel
theorem dX6_isEdge_23 : decode cX6_isEdge 23 = .ok (.invokevirtual 57, 3) := by decide +kernel
theorem dX6_isEdge_26 : decode cX6_isEdge 26 = .ok (.iload 4, 2) := by decide +kernel
theorem dX6_isEdge_28 : decode cX6_isEdge 28 = .ok (.if_icmp .ne 18, 3) := by decide +kernel
theorem dX6_isEdge_31 : decode cX6_isEdge 31 = .ok (.aload_n 0, 1) := by decide +kernel
theorem dX6_isEdge_32 : decode cX6_isEdge 32 = .ok (.iload_n 1, 1) := by decide +kernel
theorem dX6_isEdge_33 : decode cX6_isEdge 33 = .ok (.iconst 3, 1) := by decide +kernel
theorem dX6_isEdge_34 : decode cX6_isEdge 34 = .ok (.invokevirtual 57, 3) := by decide +kernel
theorem dX6_isEdge_37 : decode cX6_isEdge 37 = .ok (.iload 5, 2) := by decide +kernel
theorem dX6_isEdge_39 : decode cX6_isEdge 39 = .ok (.if_icmp .ne 7, 3) := by decide +kernel
theorem dX6_isEdge_42 : decode cX6_isEdge 42 = .ok (.iconst 1, 1) := by decide +kernel
theorem dX6_isEdge_43 : decode cX6_isEdge 43 = .ok (.goto 4, 3) := by decide +kernel
theorem dX6_isEdge_46 : decode cX6_isEdge 46 = .ok (.iconst 0, 1) := by decide +kernel
theorem dX6_isEdge_47 : decode cX6_isEdge 47 = .ok (.ireturn, 1) := by decide +kernel
set_option maxRecDepth 20000 in
theorem ggX6_find_X6_isEdge : GoodIn wsX6_find wsX6_isEdge := goodIn_r _ [6, 7, 8, 9, 5, 10, 1, 11, 12, 13, 14, 15, 16, 17, 18, 19, 20, 21, 22, 23, 24, 25] (by decide +kernel) (by decide +kernel)
set_option maxRecDepth 20000 in
theorem gX6_find_X6_isEdge : GoodIn wsX6_find (wsV RX6 61 RX6 yX6_isEdge wsX6_isEdge) := goodIn_app (goodIn_of _ (by decide +kernel)) ggX6_find_X6_isEdge
theorem dX6_find_0 : decode cX6_find 0 = .ok (.iconst (-1), 1) := by decide +kernel
theorem dX6_find_1 : decode cX6_find 1 = .ok (.istore 5, 2) := by decide +kernel
theorem dX6_find_3 : decode cX6_find 3 = .ok (.iconst 0, 1) := by decide +kernel
theorem dX6_find_4 : decode cX6_find 4 = .ok (.istore 6, 2) := by decide +kernel
theorem dX6_find_6 : decode cX6_find 6 = .ok (.iload 6, 2) := by decide +kernel
theorem dX6_find_8 : decode cX6_find 8 = .ok (.aload_n 0, 1) := by decide +kernel
theorem dX6_find_9 : decode cX6_find 9 = .ok (.getfield 7, 3) := by decide +kernel
theorem dX6_find_12 : decode cX6_find 12 = .ok (.iconst 1, 1) := by decide +kernel
theorem dX6_find_13 : decode cX6_find 13 = .ok (.iaload, 1) := by decide +kernel
theorem dX6_find_14 : decode cX6_find 14 = .ok (.if_icmp .ge 48, 3) := by decide +kernel
theorem dX6_find_17 : decode cX6_find 17 = .ok (.aload_n 0, 1) := by decide +kernel
theorem dX6_find_18 : decode cX6_find 18 = .ok (.iload 6, 2) := by decide +kernel
theorem dX6_find_20 : decode cX6_find 20 = .ok (.iload_n 1, 1) := by decide +kernel
theorem dX6_find_21 : decode cX6_find 21 = .ok (.iload_n 2, 1) := by decide +kernel
theorem dX6_find_22 : decode cX6_find 22 = .ok (.iload_n 3, 1) := by decide +kernel
theorem dX6_find_23 : decode cX6_find 23 = .ok (.iload 4, 2) := by decide +kernel
theorem dX6_find_25 : decode cX6_find 25 = .ok (.invokevirtual 61, 3) := by decide +kernel
theorem dX6_find_28 : decode cX6_find 28 = .ok (.ifCond .ne 19, 3) := by decide +kernel
theorem dX6_find_31 : decode cX6_find 31 = .ok (.aload_n 0, 1) := by decide +kernel
theorem dX6_find_32 : decode cX6_find 32 = .ok (.iload 6, 2) := by decide +kernel
theorem dX6_find_34 : decode cX6_find 34 = .ok (.iload_n 2, 1) := by decide +kernel
theorem dX6_find_35 : decode cX6_find 35 = .ok (.iload_n 1, 1) := by decide +kernel
theorem dX6_find_36 : decode cX6_find 36 = .ok (.iload_n 3, 1) := by decide +kernel
theorem dX6_find_37 : decode cX6_find 37 = .ok (.ineg, 1) := by decide +kernel
theorem dX6_find_38 : decode cX6_find 38 = .ok (.iload 4, 2) := by decide +kernel
theorem dX6_find_40 : decode cX6_find 40 = .ok (.ineg, 1) := by decide +kernel
theorem dX6_find_41 : decode cX6_find 41 = .ok (.invokevirtual 61, 3) := by decide +kernel
theorem dX6_find_44 : decode cX6_find 44 = .ok (.ifCond .eq 8, 3) := by decide +kernel
theorem dX6_find_47 : decode cX6_find 47 = .ok (.iload 6, 2) := by decide +kernel
theorem dX6_find_49 : decode cX6_find 49 = .ok (.goto 5, 3) := by decide +kernel
theorem dX6_find_52 : decode cX6_find 52 = .ok (.iload 5, 2) := by decide +kernel
theorem dX6_find_54 : decode cX6_find 54 = .ok (.istore 5, 2) := by decide +kernel
theorem dX6_find_56 : decode cX6_find 56 = .ok (.iinc 6 1, 3) := by decide +kernel
theorem dX6_find_59 : decode cX6_find 59 = .ok (.goto (-53), 3) := by decide +kernel
theorem dX6_find_62 : decode cX6_find 62 = .ok (.iload 5, 2) := by decide +kernel
theorem dX6_find_64 : decode cX6_find 64 = .ok (.ireturn, 1) := by decide +kernel
set_option maxRecDepth 20000 in
theorem ggX6_reset_X6_in : GoodIn wsX6_reset wsX6_in := goodIn_r _ [5] (by decide +kernel) (by decide +kernel)
set_option maxRecDepth 20000 in
theorem gX6_reset_X6_in : GoodIn wsX6_reset (va_wsS RX6 53 yX6_in wsX6_in) := goodIn_app (goodIn_of _ (by decide +kernel)) ggX6_reset_X6_in
set_option maxRecDepth 20000 in
theorem ggX6_reset_X6_error : GoodIn wsX6_reset wsX6_error := goodIn_r _ [9, 10, 17, 18, 19, 20, 21, 22, 23, 24, 25, 26, 27, 28, 29, 30, 31] (by decide +kernel) (by decide +kernel)
set_option maxRecDepth 20000 in
theorem gX6_reset_X6_error : GoodIn wsX6_reset (wsV RX6 49 RX6 yX6_error wsX6_error) := goodIn_app (goodIn_of _ (by decide +kernel)) ggX6_reset_X6_error
set_option maxRecDepth 20000 in
theorem ggX6_reset_X6_save : GoodIn wsX6_reset wsX6_save := goodIn_r _ [14, 15, 16, 1, 17, 18, 19, 20, 21, 22, 23, 24, 25, 26, 27, 28, 29, 30, 31] (by decide +kernel) (by decide +kernel)
set_option maxRecDepth 20000 in
theorem gX6_reset_X6_save : GoodIn wsX6_reset (wsV RX6 65 RX6 yX6_save wsX6_save) := goodIn_app (goodIn_of _ (by decide +kernel)) ggX6_reset_X6_save
theorem dX6_reset_0 : decode cX6_reset 0 = .ok (.iload_n 1, 1) := by decide +kernel
theorem dX6_reset_1 : decode cX6_reset 1 = .ok (.iconst 1, 1) := by decide +kernel
theorem dX6_reset_2 : decode cX6_reset 2 = .ok (.bipush 6, 2) := by decide +kernel
theorem dX6_reset_4 : decode cX6_reset 4 = .ok (.invokestatic 53, 3) := by decide +kernel
theorem dX6_reset_7 : decode cX6_reset 7 = .ok (.ifCond .ne 10, 3) := by decide +kernel
theorem dX6_reset_10 : decode cX6_reset 10 = .ok (.aload_n 0, 1) := by decide +kernel
theorem dX6_reset_11 : decode cX6_reset 11 = .ok (.bipush (-2), 2) := by decide +kernel
theorem dX6_reset_13 : decode cX6_reset 13 = .ok (.invokevirtual 49, 3) := by decide +kernel
theorem dX6_reset_16 : decode cX6_reset 16 = .ok (.ireturn, 1) := by decide +kernel
theorem dX6_reset_17 : decode cX6_reset 17 = .ok (.aload_n 0, 1) := by decide +kernel
theorem dX6_reset_18 : decode cX6_reset 18 = .ok (.invokevirtual 65, 3) := by decide +kernel
theorem dX6_reset_21 : decode cX6_reset 21 = .ok (.aload_n 0, 1) := by decide +kernel
theorem dX6_reset_22 : decode cX6_reset 22 = .ok (.getfield 7, 3) := by decide +kernel
theorem dX6_reset_25 : decode cX6_reset 25 = .ok (.iconst 0, 1) := by decide +kernel
theorem dX6_reset_26 : decode cX6_reset 26 = .ok (.iaload, 1) := by decide +kernel
theorem dX6_reset_27 : decode cX6_reset 27 = .ok (.istore_n 2, 1) := by decide +kernel
theorem dX6_reset_28 : decode cX6_reset 28 = .ok (.aload_n 0, 1) := by decide +kernel
theorem dX6_reset_29 : decode cX6_reset 29 = .ok (.getfield 7, 3) := by decide +kernel
theorem dX6_reset_32 : decode cX6_reset 32 = .ok (.iconst 0, 1) := by decide +kernel
theorem dX6_reset_33 : decode cX6_reset 33 = .ok (.iload_n 1, 1) := by decide +kernel
theorem dX6_reset_34 : decode cX6_reset 34 = .ok (.iastore, 1) := by decide +kernel
theorem dX6_reset_35 : decode cX6_reset 35 = .ok (.aload_n 0, 1) := by decide +kernel
theorem dX6_reset_36 : decode cX6_reset 36 = .ok (.getfield 7, 3) := by decide +kernel
theorem dX6_reset_39 : decode cX6_reset 39 = .ok (.iconst 1, 1) := by decide +kernel
theorem dX6_reset_40 : decode cX6_reset 40 = .ok (.iconst 0, 1) := by decide +kernel
theorem dX6_reset_41 : decode cX6_reset 41 = .ok (.iastore, 1) := by decide +kernel
theorem dX6_reset_42 : decode cX6_reset 42 = .ok (.iload_n 2, 1) := by decide +kernel
theorem dX6_reset_43 : decode cX6_reset 43 = .ok (.ireturn, 1) := by decide +kernel
set_option maxRecDepth 20000 in
theorem ggX6_addEdge_X6_isVertex : GoodIn wsX6_addEdge wsX6_isVertex := goodIn_r _ [6, 1, 7, 8, 5, 9, 36, 37, 38, 39, 40, 41, 42, 43, 44, 45, 46, 47, 48, 49, 50] (by decide +kernel) (by decide +kernel)
set_option maxRecDepth 20000 in
theorem gX6_addEdge_X6_isVertex : GoodIn wsX6_addEdge (wsV RX6 68 RX6 yX6_isVertex wsX6_isVertex) := goodIn_app (goodIn_of _ (by decide +kernel)) ggX6_addEdge_X6_isVertex
set_option maxRecDepth 20000 in
theorem ggX6_addEdge_X6_isShift : GoodIn wsX6_addEdge wsX6_isShift := goodIn_r _ [12, 7, 8, 5, 9] (by decide +kernel) (by decide +kernel)
set_option maxRecDepth 20000 in
theorem gX6_addEdge_X6_isShift : GoodIn wsX6_addEdge (va_wsS RX6 72 yX6_isShift wsX6_isShift) := goodIn_app (goodIn_of _ (by decide +kernel)) ggX6_addEdge_X6_isShift
set_option maxRecDepth 20000 in
theorem ggX6_addEdge_X6_error : GoodIn wsX6_addEdge wsX6_error := goodIn_r _ [16, 17, 36, 37, 38, 39, 40, 41, 42, 43, 44, 45, 46, 47, 48, 49, 50] (by decide +kernel) (by decide +kernel)
set_option maxRecDepth 20000 in
theorem gX6_addEdge_X6_error : GoodIn wsX6_addEdge (wsV RX6 49 RX6 yX6_error wsX6_error) := goodIn_app (goodIn_of _ (by decide +kernel)) ggX6_addEdge_X6_error
set_option maxRecDepth 20000 in
theorem ggX6_addEdge_X6_find : GoodIn wsX6_addEdge wsX6_find := goodIn_r _ [21, 1, 22, 23, 24, 5, 25, 26, 27, 28, 29, 36, 37, 38, 39, 40, 41, 42, 43, 44, 45, 46, 47, 48, 49, 50] (by decide +kernel) (by decide +kernel)
set_option maxRecDepth 20000 in
theorem gX6_addEdge_X6_find : GoodIn wsX6_addEdge (wsV RX6 76 RX6 yX6_find wsX6_find) := goodIn_app (goodIn_of _ (by decide +kernel)) ggX6_addEdge_X6_find
set_option maxRecDepth 20000 in
theorem ggX6_addEdge_X6_save : GoodIn wsX6_addEdge wsX6_save := goodIn_r _ [33, 34, 35, 1, 36, 37, 38, 39, 40, 41, 42, 43, 44, 45, 46, 47, 48, 49, 50] (by decide +kernel) (by decide +kernel)
set_option maxRecDepth 20000 in
theorem gX6_addEdge_X6_save : GoodIn wsX6_addEdge (wsV RX6 65 RX6 yX6_save wsX6_save) := goodIn_app (goodIn_of _ (by decide +kernel)) ggX6_addEdge_X6_save
theorem dX6_addEdge_0 : decode cX6_addEdge 0 = .ok (.aload_n 0, 1) := by decide +kernel
theorem dX6_addEdge_1 : decode cX6_addEdge 1 = .ok (.iload_n 1, 1) := by decide +kernel
theorem dX6_addEdge_2 : decode cX6_addEdge 2 = .ok (.invokevirtual 68, 3) := by decide +kernel
theorem dX6_addEdge_5 : decode cX6_addEdge 5 = .ok (.ifCond .eq 34, 3) := by decide +kernel
theorem dX6_addEdge_8 : decode cX6_addEdge 8 = .ok (.aload_n 0, 1) := by decide +kernel
theorem dX6_addEdge_9 : decode cX6_addEdge 9 = .ok (.iload_n 2, 1) := by decide +kernel
theorem dX6_addEdge_10 : decode cX6_addEdge 10 = .ok (.invokevirtual 68, 3) := by decide +kernel
theorem dX6_addEdge_13 : decode cX6_addEdge 13 = .ok (.ifCond .eq 26, 3) := by decide +kernel
theorem dX6_addEdge_16 : decode cX6_addEdge 16 = .ok (.iload_n 3, 1) := by decide +kernel
theorem dX6_addEdge_17 : decode cX6_addEdge 17 = .ok (.iload 4, 2) := by decide +kernel
theorem dX6_addEdge_19 : decode cX6_addEdge 19 = .ok (.invokestatic 72, 3) := by decide +kernel
theorem dX6_addEdge_22 : decode cX6_addEdge 22 = .ok (.ifCond .eq 17, 3) := by decide +kernel
theorem dX6_addEdge_25 : decode cX6_addEdge 25 = .ok (.iload_n 1, 1) := by decide +kernel
theorem dX6_addEdge_26 : decode cX6_addEdge 26 = .ok (.iload_n 2, 1) := by decide +kernel
theorem dX6_addEdge_27 : decode cX6_addEdge 27 = .ok (.if_icmp .ne 19, 3) := by decide +kernel
theorem dX6_addEdge_30 : decode cX6_addEdge 30 = .ok (.iload_n 3, 1) := by decide +kernel
theorem dX6_addEdge_31 : decode cX6_addEdge 31 = .ok (.ifCond .ne 15, 3) := by decide +kernel
theorem dX6_addEdge_34 : decode cX6_addEdge 34 = .ok (.iload 4, 2) := by decide +kernel
theorem dX6_addEdge_36 : decode cX6_addEdge 36 = .ok (.ifCond .ne 10, 3) := by decide +kernel
theorem dX6_addEdge_39 : decode cX6_addEdge 39 = .ok (.aload_n 0, 1) := by decide +kernel
theorem dX6_addEdge_40 : decode cX6_addEdge 40 = .ok (.bipush (-2), 2) := by decide +kernel
theorem dX6_addEdge_42 : decode cX6_addEdge 42 = .ok (.invokevirtual 49, 3) := by decide +kernel
theorem dX6_addEdge_45 : decode cX6_addEdge 45 = .ok (.ireturn, 1) := by decide +kernel
theorem dX6_addEdge_46 : decode cX6_addEdge 46 = .ok (.aload_n 0, 1) := by decide +kernel
theorem dX6_addEdge_47 : decode cX6_addEdge 47 = .ok (.iload_n 1, 1) := by decide +kernel
theorem dX6_addEdge_48 : decode cX6_addEdge 48 = .ok (.iload_n 2, 1) := by decide +kernel
theorem dX6_addEdge_49 : decode cX6_addEdge 49 = .ok (.iload_n 3, 1) := by decide +kernel
theorem dX6_addEdge_50 : decode cX6_addEdge 50 = .ok (.iload 4, 2) := by decide +kernel
theorem dX6_addEdge_52 : decode cX6_addEdge 52 = .ok (.invokevirtual 76, 3) := by decide +kernel
theorem dX6_addEdge_55 : decode cX6_addEdge 55 = .ok (.iconst (-1), 1) := by decide +kernel
theorem dX6_addEdge_56 : decode cX6_addEdge 56 = .ok (.if_icmp .eq 10, 3) := by decide +kernel
theorem dX6_addEdge_59 : decode cX6_addEdge 59 = .ok (.aload_n 0, 1) := by decide +kernel
theorem dX6_addEdge_60 : decode cX6_addEdge 60 = .ok (.bipush (-3), 2) := by decide +kernel
theorem dX6_addEdge_62 : decode cX6_addEdge 62 = .ok (.invokevirtual 49, 3) := by decide +kernel
theorem dX6_addEdge_65 : decode cX6_addEdge 65 = .ok (.ireturn, 1) := by decide +kernel
theorem dX6_addEdge_66 : decode cX6_addEdge 66 = .ok (.aload_n 0, 1) := by decide +kernel
theorem dX6_addEdge_67 : decode cX6_addEdge 67 = .ok (.getfield 7, 3) := by decide +kernel
theorem dX6_addEdge_70 : decode cX6_addEdge 70 = .ok (.iconst 1, 1) := by decide +kernel
theorem dX6_addEdge_71 : decode cX6_addEdge 71 = .ok (.iaload, 1) := by decide +kernel
theorem dX6_addEdge_72 : decode cX6_addEdge 72 = .ok (.bipush 12, 2) := by decide +kernel
theorem dX6_addEdge_74 : decode cX6_addEdge 74 = .ok (.if_icmp .ne 10, 3) := by decide +kernel
theorem dX6_addEdge_77 : decode cX6_addEdge 77 = .ok (.aload_n 0, 1) := by decide +kernel
theorem dX6_addEdge_78 : decode cX6_addEdge 78 = .ok (.bipush (-4), 2) := by decide +kernel
theorem dX6_addEdge_80 : decode cX6_addEdge 80 = .ok (.invokevirtual 49, 3) := by decide +kernel
theorem dX6_addEdge_83 : decode cX6_addEdge 83 = .ok (.ireturn, 1) := by decide +kernel
theorem dX6_addEdge_84 : decode cX6_addEdge 84 = .ok (.aload_n 0, 1) := by decide +kernel
theorem dX6_addEdge_85 : decode cX6_addEdge 85 = .ok (.invokevirtual 65, 3) := by decide +kernel
theorem dX6_addEdge_88 : decode cX6_addEdge 88 = .ok (.iconst 2, 1) := by decide +kernel
theorem dX6_addEdge_89 : decode cX6_addEdge 89 = .ok (.iconst 4, 1) := by decide +kernel
theorem dX6_addEdge_90 : decode cX6_addEdge 90 = .ok (.aload_n 0, 1) := by decide +kernel
theorem dX6_addEdge_91 : decode cX6_addEdge 91 = .ok (.getfield 7, 3) := by decide +kernel
theorem dX6_addEdge_94 : decode cX6_addEdge 94 = .ok (.iconst 1, 1) := by decide +kernel
theorem dX6_addEdge_95 : decode cX6_addEdge 95 = .ok (.iaload, 1) := by decide +kernel
theorem dX6_addEdge_96 : decode cX6_addEdge 96 = .ok (.imul, 1) := by decide +kernel
theorem dX6_addEdge_97 : decode cX6_addEdge 97 = .ok (.iadd, 1) := by decide +kernel
theorem dX6_addEdge_98 : decode cX6_addEdge 98 = .ok (.istore 5, 2) := by decide +kernel
theorem dX6_addEdge_100 : decode cX6_addEdge 100 = .ok (.aload_n 0, 1) := by decide +kernel
theorem dX6_addEdge_101 : decode cX6_addEdge 101 = .ok (.getfield 7, 3) := by decide +kernel
theorem dX6_addEdge_104 : decode cX6_addEdge 104 = .ok (.iload 5, 2) := by decide +kernel
theorem dX6_addEdge_106 : decode cX6_addEdge 106 = .ok (.iload_n 1, 1) := by decide +kernel
theorem dX6_addEdge_107 : decode cX6_addEdge 107 = .ok (.iastore, 1) := by decide +kernel
theorem dX6_addEdge_108 : decode cX6_addEdge 108 = .ok (.aload_n 0, 1) := by decide +kernel
theorem dX6_addEdge_109 : decode cX6_addEdge 109 = .ok (.getfield 7, 3) := by decide +kernel
theorem dX6_addEdge_112 : decode cX6_addEdge 112 = .ok (.iload 5, 2) := by decide +kernel
theorem dX6_addEdge_114 : decode cX6_addEdge 114 = .ok (.iconst 1, 1) := by decide +kernel
theorem dX6_addEdge_115 : decode cX6_addEdge 115 = .ok (.iadd, 1) := by decide +kernel
theorem dX6_addEdge_116 : decode cX6_addEdge 116 = .ok (.iload_n 2, 1) := by decide +kernel
theorem dX6_addEdge_117 : decode cX6_addEdge 117 = .ok (.iastore, 1) := by decide +kernel
theorem dX6_addEdge_118 : decode cX6_addEdge 118 = .ok (.aload_n 0, 1) := by decide +kernel
theorem dX6_addEdge_119 : decode cX6_addEdge 119 = .ok (.getfield 7, 3) := by decide +kernel
theorem dX6_addEdge_122 : decode cX6_addEdge 122 = .ok (.iload 5, 2) := by decide +kernel
theorem dX6_addEdge_124 : decode cX6_addEdge 124 = .ok (.iconst 2, 1) := by decide +kernel
theorem dX6_addEdge_125 : decode cX6_addEdge 125 = .ok (.iadd, 1) := by decide +kernel
theorem dX6_addEdge_126 : decode cX6_addEdge 126 = .ok (.iload_n 3, 1) := by decide +kernel
theorem dX6_addEdge_127 : decode cX6_addEdge 127 = .ok (.iastore, 1) := by decide +kernel
theorem dX6_addEdge_128 : decode cX6_addEdge 128 = .ok (.aload_n 0, 1) := by decide +kernel
theorem dX6_addEdge_129 : decode cX6_addEdge 129 = .ok (.getfield 7, 3) := by decide +kernel
theorem dX6_addEdge_132 : decode cX6_addEdge 132 = .ok (.iload 5, 2) := by decide +kernel
theorem dX6_addEdge_134 : decode cX6_addEdge 134 = .ok (.iconst 3, 1) := by decide +kernel
theorem dX6_addEdge_135 : decode cX6_addEdge 135 = .ok (.iadd, 1) := by decide +kernel
theorem dX6_addEdge_136 : decode cX6_addEdge 136 = .ok (.iload 4, 2) := by decide +kernel
theorem dX6_addEdge_138 : decode cX6_addEdge 138 = .ok (.iastore, 1) := by decide +kernel
theorem dX6_addEdge_139 : decode cX6_addEdge 139 = .ok (.aload_n 0, 1) := by decide +kernel
theorem dX6_addEdge_140 : decode cX6_addEdge 140 = .ok (.getfield 7, 3) := by decide +kernel
theorem dX6_addEdge_143 : decode cX6_addEdge 143 = .ok (.iconst 1, 1) := by decide +kernel
theorem dX6_addEdge_144 : decode cX6_addEdge 144 = .ok (.dup2, 1) := by decide +kernel
theorem dX6_addEdge_145 : decode cX6_addEdge 145 = .ok (.iaload, 1) := by decide +kernel
theorem dX6_addEdge_146 : decode cX6_addEdge 146 = .ok (.iconst 1, 1) := by decide +kernel
theorem dX6_addEdge_147 : decode cX6_addEdge 147 = .ok (.iadd, 1) := by decide +kernel
theorem dX6_addEdge_148 : decode cX6_addEdge 148 = .ok (.iastore, 1) := by decide +kernel
theorem dX6_addEdge_149 : decode cX6_addEdge 149 = .ok (.aload_n 0, 1) := by decide +kernel
theorem dX6_addEdge_150 : decode cX6_addEdge 150 = .ok (.getfield 7, 3) := by decide +kernel
theorem dX6_addEdge_153 : decode cX6_addEdge 153 = .ok (.iconst 1, 1) := by decide +kernel
theorem dX6_addEdge_154 : decode cX6_addEdge 154 = .ok (.iaload, 1) := by decide +kernel
theorem dX6_addEdge_155 : decode cX6_addEdge 155 = .ok (.iconst 1, 1) := by decide +kernel
theorem dX6_addEdge_156 : decode cX6_addEdge 156 = .ok (.isub, 1) := by decide +kernel
theorem dX6_addEdge_157 : decode cX6_addEdge 157 = .ok (.ireturn, 1) := by decide +kernel
set_option maxRecDepth 20000 in
theorem ggX6_removeEdge_X6_in : GoodIn wsX6_removeEdge wsX6_in := goodIn_r _ [5] (by decide +kernel) (by decide +kernel)
set_option maxRecDepth 20000 in
theorem gX6_removeEdge_X6_in : GoodIn wsX6_removeEdge (va_wsS RX6 53 yX6_in wsX6_in) := goodIn_app (goodIn_of _ (by decide +kernel)) ggX6_removeEdge_X6_in
set_option maxRecDepth 20000 in
theorem ggX6_removeEdge_X6_error : GoodIn wsX6_removeEdge wsX6_error := goodIn_r _ [9, 10, 17, 18, 19, 20, 21, 22, 23, 24, 25, 26, 27, 28, 29, 30, 31] (by decide +kernel) (by decide +kernel)
set_option maxRecDepth 20000 in
theorem gX6_removeEdge_X6_error : GoodIn wsX6_removeEdge (wsV RX6 49 RX6 yX6_error wsX6_error) := goodIn_app (goodIn_of _ (by decide +kernel)) ggX6_removeEdge_X6_error
set_option maxRecDepth 20000 in
theorem ggX6_removeEdge_X6_save : GoodIn wsX6_removeEdge wsX6_save := goodIn_r _ [14, 15, 16, 1, 17, 18, 19, 20, 21, 22, 23, 24, 25, 26, 27, 28, 29, 30, 31] (by decide +kernel) (by decide +kernel)
set_option maxRecDepth 20000 in
theorem gX6_removeEdge_X6_save : GoodIn wsX6_removeEdge (wsV RX6 65 RX6 yX6_save wsX6_save) := goodIn_app (goodIn_of _ (by decide +kernel)) ggX6_removeEdge_X6_save
theorem dX6_removeEdge_0 : decode cX6_removeEdge 0 = .ok (.iload_n 1, 1) := by decide +kernel
theorem dX6_removeEdge_1 : decode cX6_removeEdge 1 = .ok (.iconst 0, 1) := by decide +kernel
theorem dX6_removeEdge_2 : decode cX6_removeEdge 2 = .ok (.aload_n 0, 1) := by decide +kernel
theorem dX6_removeEdge_3 : decode cX6_removeEdge 3 = .ok (.getfield 7, 3) := by decide +kernel
theorem dX6_removeEdge_6 : decode cX6_removeEdge 6 = .ok (.iconst 1, 1) := by decide +kernel
theorem dX6_removeEdge_7 : decode cX6_removeEdge 7 = .ok (.iaload, 1) := by decide +kernel
theorem dX6_removeEdge_8 : decode cX6_removeEdge 8 = .ok (.iconst 1, 1) := by decide +kernel
theorem dX6_removeEdge_9 : decode cX6_removeEdge 9 = .ok (.isub, 1) := by decide +kernel
theorem dX6_removeEdge_10 : decode cX6_removeEdge 10 = .ok (.invokestatic 53, 3) := by decide +kernel
theorem dX6_removeEdge_13 : decode cX6_removeEdge 13 = .ok (.ifCond .ne 10, 3) := by decide +kernel
theorem dX6_removeEdge_16 : decode cX6_removeEdge 16 = .ok (.aload_n 0, 1) := by decide +kernel
theorem dX6_removeEdge_17 : decode cX6_removeEdge 17 = .ok (.bipush (-2), 2) := by decide +kernel
theorem dX6_removeEdge_19 : decode cX6_removeEdge 19 = .ok (.invokevirtual 49, 3) := by decide +kernel
theorem dX6_removeEdge_22 : decode cX6_removeEdge 22 = .ok (.ireturn, 1) := by decide +kernel
theorem dX6_removeEdge_23 : decode cX6_removeEdge 23 = .ok (.aload_n 0, 1) := by decide +kernel
theorem dX6_removeEdge_24 : decode cX6_removeEdge 24 = .ok (.invokevirtual 65, 3) := by decide +kernel
theorem dX6_removeEdge_27 : decode cX6_removeEdge 27 = .ok (.aload_n 0, 1) := by decide +kernel
theorem dX6_removeEdge_28 : decode cX6_removeEdge 28 = .ok (.getfield 7, 3) := by decide +kernel
theorem dX6_removeEdge_31 : decode cX6_removeEdge 31 = .ok (.iconst 1, 1) := by decide +kernel
theorem dX6_removeEdge_32 : decode cX6_removeEdge 32 = .ok (.dup2, 1) := by decide +kernel
theorem dX6_removeEdge_33 : decode cX6_removeEdge 33 = .ok (.iaload, 1) := by decide +kernel
theorem dX6_removeEdge_34 : decode cX6_removeEdge 34 = .ok (.iconst 1, 1) := by decide +kernel
theorem dX6_removeEdge_35 : decode cX6_removeEdge 35 = .ok (.isub, 1) := by decide +kernel
theorem dX6_removeEdge_36 : decode cX6_removeEdge 36 = .ok (.iastore, 1) := by decide +kernel
theorem dX6_removeEdge_37 : decode cX6_removeEdge 37 = .ok (.iconst 4, 1) := by decide +kernel
theorem dX6_removeEdge_38 : decode cX6_removeEdge 38 = .ok (.iload_n 1, 1) := by decide +kernel
theorem dX6_removeEdge_39 : decode cX6_removeEdge 39 = .ok (.imul, 1) := by decide +kernel
theorem dX6_removeEdge_40 : decode cX6_removeEdge 40 = .ok (.istore_n 2, 1) := by decide +kernel
theorem dX6_removeEdge_41 : decode cX6_removeEdge 41 = .ok (.iload_n 2, 1) := by decide +kernel
theorem dX6_removeEdge_42 : decode cX6_removeEdge 42 = .ok (.iconst 4, 1) := by decide +kernel
theorem dX6_removeEdge_43 : decode cX6_removeEdge 43 = .ok (.aload_n 0, 1) := by decide +kernel
theorem dX6_removeEdge_44 : decode cX6_removeEdge 44 = .ok (.getfield 7, 3) := by decide +kernel
theorem dX6_removeEdge_47 : decode cX6_removeEdge 47 = .ok (.iconst 1, 1) := by decide +kernel
theorem dX6_removeEdge_48 : decode cX6_removeEdge 48 = .ok (.iaload, 1) := by decide +kernel
theorem dX6_removeEdge_49 : decode cX6_removeEdge 49 = .ok (.imul, 1) := by decide +kernel
theorem dX6_removeEdge_50 : decode cX6_removeEdge 50 = .ok (.if_icmp .ge 27, 3) := by decide +kernel
theorem dX6_removeEdge_53 : decode cX6_removeEdge 53 = .ok (.aload_n 0, 1) := by decide +kernel
theorem dX6_removeEdge_54 : decode cX6_removeEdge 54 = .ok (.getfield 7, 3) := by decide +kernel
theorem dX6_removeEdge_57 : decode cX6_removeEdge 57 = .ok (.iconst 2, 1) := by decide +kernel
theorem dX6_removeEdge_58 : decode cX6_removeEdge 58 = .ok (.iload_n 2, 1) := by decide +kernel
theorem dX6_removeEdge_59 : decode cX6_removeEdge 59 = .ok (.iadd, 1) := by decide +kernel
theorem dX6_removeEdge_60 : decode cX6_removeEdge 60 = .ok (.aload_n 0, 1) := by decide +kernel
theorem dX6_removeEdge_61 : decode cX6_removeEdge 61 = .ok (.getfield 7, 3) := by decide +kernel
theorem dX6_removeEdge_64 : decode cX6_removeEdge 64 = .ok (.iconst 2, 1) := by decide +kernel
theorem dX6_removeEdge_65 : decode cX6_removeEdge 65 = .ok (.iload_n 2, 1) := by decide +kernel
theorem dX6_removeEdge_66 : decode cX6_removeEdge 66 = .ok (.iadd, 1) := by decide +kernel
theorem dX6_removeEdge_67 : decode cX6_removeEdge 67 = .ok (.iconst 4, 1) := by decide +kernel
theorem dX6_removeEdge_68 : decode cX6_removeEdge 68 = .ok (.iadd, 1) := by decide +kernel
theorem dX6_removeEdge_69 : decode cX6_removeEdge 69 = .ok (.iaload, 1) := by decide +kernel
theorem dX6_removeEdge_70 : decode cX6_removeEdge 70 = .ok (.iastore, 1) := by decide +kernel
theorem dX6_removeEdge_71 : decode cX6_removeEdge 71 = .ok (.iinc 2 1, 3) := by decide +kernel
theorem dX6_removeEdge_74 : decode cX6_removeEdge 74 = .ok (.goto (-33), 3) := by decide +kernel
theorem dX6_removeEdge_77 : decode cX6_removeEdge 77 = .ok (.aload_n 0, 1) := by decide +kernel
theorem dX6_removeEdge_78 : decode cX6_removeEdge 78 = .ok (.getfield 7, 3) := by decide +kernel
theorem dX6_removeEdge_81 : decode cX6_removeEdge 81 = .ok (.iconst 1, 1) := by decide +kernel
theorem dX6_removeEdge_82 : decode cX6_removeEdge 82 = .ok (.iaload, 1) := by decide +kernel
theorem dX6_removeEdge_83 : decode cX6_removeEdge 83 = .ok (.ireturn, 1) := by decide +kernel
set_option maxRecDepth 20000 in
theorem ggX6_findEdge_X6_isVertex : GoodIn wsX6_findEdge wsX6_isVertex := goodIn_r _ [5, 6, 7, 8, 4, 9, 27, 28, 29, 30, 31, 32, 33, 34, 35, 36, 37, 38, 39, 40, 41] (by decide +kernel) (by decide +kernel)
set_option maxRecDepth 20000 in
theorem gX6_findEdge_X6_isVertex : GoodIn wsX6_findEdge (wsV RX6 68 RX6 yX6_isVertex wsX6_isVertex) := goodIn_app (goodIn_of _ (by decide +kernel)) ggX6_findEdge_X6_isVertex
set_option maxRecDepth 20000 in
theorem ggX6_findEdge_X6_find : GoodIn wsX6_findEdge wsX6_find := goodIn_r _ [13, 6, 14, 15, 16, 4, 17, 18, 19, 20, 21, 27, 28, 29, 30, 31, 32, 33, 34, 35, 36, 37, 38, 39, 40, 41] (by decide +kernel) (by decide +kernel)
set_option maxRecDepth 20000 in
theorem gX6_findEdge_X6_find : GoodIn wsX6_findEdge (wsV RX6 76 RX6 yX6_find wsX6_find) := goodIn_app (goodIn_of _ (by decide +kernel)) ggX6_findEdge_X6_find
set_option maxRecDepth 20000 in
theorem ggX6_findEdge_X6_error : GoodIn wsX6_findEdge wsX6_error := goodIn_r _ [25, 26, 27, 28, 29, 30, 31, 32, 33, 34, 35, 36, 37, 38, 39, 40, 41] (by decide +kernel) (by decide +kernel)
set_option maxRecDepth 20000 in
theorem gX6_findEdge_X6_error : GoodIn wsX6_findEdge (wsV RX6 49 RX6 yX6_error wsX6_error) := goodIn_app (goodIn_of _ (by decide +kernel)) ggX6_findEdge_X6_error
theorem dX6_findEdge_0 : decode cX6_findEdge 0 = .ok (.aload_n 0, 1) := by decide +kernel
theorem dX6_findEdge_1 : decode cX6_findEdge 1 = .ok (.iload_n 1, 1) := by decide +kernel
theorem dX6_findEdge_2 : decode cX6_findEdge 2 = .ok (.invokevirtual 68, 3) := by decide +kernel
theorem dX6_findEdge_5 : decode cX6_findEdge 5 = .ok (.ifCond .eq 23, 3) := by decide +kernel
theorem dX6_findEdge_8 : decode cX6_findEdge 8 = .ok (.aload_n 0, 1) := by decide +kernel
theorem dX6_findEdge_9 : decode cX6_findEdge 9 = .ok (.iload_n 2, 1) := by decide +kernel
theorem dX6_findEdge_10 : decode cX6_findEdge 10 = .ok (.invokevirtual 68, 3) := by decide +kernel
theorem dX6_findEdge_13 : decode cX6_findEdge 13 = .ok (.ifCond .eq 15, 3) := by decide +kernel
theorem dX6_findEdge_16 : decode cX6_findEdge 16 = .ok (.aload_n 0, 1) := by decide +kernel
theorem dX6_findEdge_17 : decode cX6_findEdge 17 = .ok (.iload_n 1, 1) := by decide +kernel
theorem dX6_findEdge_18 : decode cX6_findEdge 18 = .ok (.iload_n 2, 1) := by decide +kernel
theorem dX6_findEdge_19 : decode cX6_findEdge 19 = .ok (.iload_n 3, 1) := by decide +kernel
theorem dX6_findEdge_20 : decode cX6_findEdge 20 = .ok (.iload 4, 2) := by decide +kernel
theorem dX6_findEdge_22 : decode cX6_findEdge 22 = .ok (.invokevirtual 76, 3) := by decide +kernel
theorem dX6_findEdge_25 : decode cX6_findEdge 25 = .ok (.goto 9, 3) := by decide +kernel
theorem dX6_findEdge_28 : decode cX6_findEdge 28 = .ok (.aload_n 0, 1) := by decide +kernel
theorem dX6_findEdge_29 : decode cX6_findEdge 29 = .ok (.bipush (-2), 2) := by decide +kernel
theorem dX6_findEdge_31 : decode cX6_findEdge 31 = .ok (.invokevirtual 49, 3) := by decide +kernel
theorem dX6_findEdge_34 : decode cX6_findEdge 34 = .ok (.ireturn, 1) := by decide +kernel
set_option maxRecDepth 20000 in
theorem ggX6_take_X6_isShift : GoodIn wsX6_take wsX6_isShift := goodIn_r _ [6, 7, 8, 5, 9] (by decide +kernel) (by decide +kernel)
set_option maxRecDepth 20000 in
theorem gX6_take_X6_isShift : GoodIn wsX6_take (va_wsS RX6 72 yX6_isShift wsX6_isShift) := goodIn_app (goodIn_of _ (by decide +kernel)) ggX6_take_X6_isShift
set_option maxRecDepth 20000 in
theorem ggX6_take_X6_of : GoodIn wsX6_take wsX6_of := goodIn_r _ [13, 1, 25, 26, 27, 28, 29, 30, 31, 32, 33, 34, 35, 36, 37, 38, 39] (by decide +kernel) (by decide +kernel)
set_option maxRecDepth 20000 in
theorem gX6_take_X6_of : GoodIn wsX6_take (wsV RX6 57 RX6 yX6_of wsX6_of) := goodIn_app (goodIn_of _ (by decide +kernel)) ggX6_take_X6_of
set_option maxRecDepth 20000 in
theorem ggX6_take_X6_error : GoodIn wsX6_take wsX6_error := goodIn_r _ [17, 18, 25, 26, 27, 28, 29, 30, 31, 32, 33, 34, 35, 36, 37, 38, 39] (by decide +kernel) (by decide +kernel)
set_option maxRecDepth 20000 in
theorem gX6_take_X6_error : GoodIn wsX6_take (wsV RX6 49 RX6 yX6_error wsX6_error) := goodIn_app (goodIn_of _ (by decide +kernel)) ggX6_take_X6_error
set_option maxRecDepth 20000 in
theorem ggX6_take_X6_save : GoodIn wsX6_take wsX6_save := goodIn_r _ [22, 23, 24, 1, 25, 26, 27, 28, 29, 30, 31, 32, 33, 34, 35, 36, 37, 38, 39] (by decide +kernel) (by decide +kernel)
set_option maxRecDepth 20000 in
theorem gX6_take_X6_save : GoodIn wsX6_take (wsV RX6 65 RX6 yX6_save wsX6_save) := goodIn_app (goodIn_of _ (by decide +kernel)) ggX6_take_X6_save
theorem dX6_take_0 : decode cX6_take 0 = .ok (.iconst 1, 1) := by decide +kernel
theorem dX6_take_1 : decode cX6_take 1 = .ok (.istore_n 1, 1) := by decide +kernel
theorem dX6_take_2 : decode cX6_take 2 = .ok (.iconst 0, 1) := by decide +kernel
theorem dX6_take_3 : decode cX6_take 3 = .ok (.istore_n 2, 1) := by decide +kernel
theorem dX6_take_4 : decode cX6_take 4 = .ok (.iconst 0, 1) := by decide +kernel
theorem dX6_take_5 : decode cX6_take 5 = .ok (.istore_n 3, 1) := by decide +kernel
theorem dX6_take_6 : decode cX6_take 6 = .ok (.iload_n 3, 1) := by decide +kernel
theorem dX6_take_7 : decode cX6_take 7 = .ok (.aload_n 0, 1) := by decide +kernel
theorem dX6_take_8 : decode cX6_take 8 = .ok (.getfield 7, 3) := by decide +kernel
theorem dX6_take_11 : decode cX6_take 11 = .ok (.iconst 1, 1) := by decide +kernel
theorem dX6_take_12 : decode cX6_take 12 = .ok (.iaload, 1) := by decide +kernel
theorem dX6_take_13 : decode cX6_take 13 = .ok (.if_icmp .ge 87, 3) := by decide +kernel
theorem dX6_take_16 : decode cX6_take 16 = .ok (.iload_n 1, 1) := by decide +kernel
theorem dX6_take_17 : decode cX6_take 17 = .ok (.ifCond .eq 31, 3) := by decide +kernel
theorem dX6_take_20 : decode cX6_take 20 = .ok (.aload_n 0, 1) := by decide +kernel
theorem dX6_take_21 : decode cX6_take 21 = .ok (.getfield 19, 3) := by decide +kernel
theorem dX6_take_24 : decode cX6_take 24 = .ok (.iconst 2, 1) := by decide +kernel
theorem dX6_take_25 : decode cX6_take 25 = .ok (.iload_n 3, 1) := by decide +kernel
theorem dX6_take_26 : decode cX6_take 26 = .ok (.imul, 1) := by decide +kernel
theorem dX6_take_27 : decode cX6_take 27 = .ok (.iaload, 1) := by decide +kernel
theorem dX6_take_28 : decode cX6_take 28 = .ok (.aload_n 0, 1) := by decide +kernel
theorem dX6_take_29 : decode cX6_take 29 = .ok (.getfield 19, 3) := by decide +kernel
theorem dX6_take_32 : decode cX6_take 32 = .ok (.iconst 2, 1) := by decide +kernel
theorem dX6_take_33 : decode cX6_take 33 = .ok (.iload_n 3, 1) := by decide +kernel
theorem dX6_take_34 : decode cX6_take 34 = .ok (.imul, 1) := by decide +kernel
theorem dX6_take_35 : decode cX6_take 35 = .ok (.iconst 1, 1) := by decide +kernel
theorem dX6_take_36 : decode cX6_take 36 = .ok (.iadd, 1) := by decide +kernel
theorem dX6_take_37 : decode cX6_take 37 = .ok (.iaload, 1) := by decide +kernel
theorem dX6_take_38 : decode cX6_take 38 = .ok (.invokestatic 72, 3) := by decide +kernel
theorem dX6_take_41 : decode cX6_take 41 = .ok (.ifCond .eq 7, 3) := by decide +kernel
theorem dX6_take_44 : decode cX6_take 44 = .ok (.iconst 1, 1) := by decide +kernel
theorem dX6_take_45 : decode cX6_take 45 = .ok (.goto 4, 3) := by decide +kernel
theorem dX6_take_48 : decode cX6_take 48 = .ok (.iconst 0, 1) := by decide +kernel
theorem dX6_take_49 : decode cX6_take 49 = .ok (.istore_n 1, 1) := by decide +kernel
theorem dX6_take_50 : decode cX6_take 50 = .ok (.iload_n 2, 1) := by decide +kernel
theorem dX6_take_51 : decode cX6_take 51 = .ok (.aload_n 0, 1) := by decide +kernel
theorem dX6_take_52 : decode cX6_take 52 = .ok (.getfield 19, 3) := by decide +kernel
theorem dX6_take_55 : decode cX6_take 55 = .ok (.iconst 2, 1) := by decide +kernel
theorem dX6_take_56 : decode cX6_take 56 = .ok (.iload_n 3, 1) := by decide +kernel
theorem dX6_take_57 : decode cX6_take 57 = .ok (.imul, 1) := by decide +kernel
theorem dX6_take_58 : decode cX6_take 58 = .ok (.iaload, 1) := by decide +kernel
theorem dX6_take_59 : decode cX6_take 59 = .ok (.aload_n 0, 1) := by decide +kernel
theorem dX6_take_60 : decode cX6_take 60 = .ok (.iload_n 3, 1) := by decide +kernel
theorem dX6_take_61 : decode cX6_take 61 = .ok (.iconst 2, 1) := by decide +kernel
theorem dX6_take_62 : decode cX6_take 62 = .ok (.invokevirtual 57, 3) := by decide +kernel
theorem dX6_take_65 : decode cX6_take 65 = .ok (.if_icmp .ne 26, 3) := by decide +kernel
theorem dX6_take_68 : decode cX6_take 68 = .ok (.aload_n 0, 1) := by decide +kernel
theorem dX6_take_69 : decode cX6_take 69 = .ok (.getfield 19, 3) := by decide +kernel
theorem dX6_take_72 : decode cX6_take 72 = .ok (.iconst 2, 1) := by decide +kernel
theorem dX6_take_73 : decode cX6_take 73 = .ok (.iload_n 3, 1) := by decide +kernel
theorem dX6_take_74 : decode cX6_take 74 = .ok (.imul, 1) := by decide +kernel
theorem dX6_take_75 : decode cX6_take 75 = .ok (.iconst 1, 1) := by decide +kernel
theorem dX6_take_76 : decode cX6_take 76 = .ok (.iadd, 1) := by decide +kernel
theorem dX6_take_77 : decode cX6_take 77 = .ok (.iaload, 1) := by decide +kernel
theorem dX6_take_78 : decode cX6_take 78 = .ok (.aload_n 0, 1) := by decide +kernel
theorem dX6_take_79 : decode cX6_take 79 = .ok (.iload_n 3, 1) := by decide +kernel
theorem dX6_take_80 : decode cX6_take 80 = .ok (.iconst 3, 1) := by decide +kernel
theorem dX6_take_81 : decode cX6_take 81 = .ok (.invokevirtual 57, 3) := by decide +kernel
theorem dX6_take_84 : decode cX6_take 84 = .ok (.if_icmp .ne 7, 3) := by decide +kernel
theorem dX6_take_87 : decode cX6_take 87 = .ok (.iconst 0, 1) := by decide +kernel
theorem dX6_take_88 : decode cX6_take 88 = .ok (.goto 4, 3) := by decide +kernel
theorem dX6_take_91 : decode cX6_take 91 = .ok (.iconst 1, 1) := by decide +kernel
theorem dX6_take_92 : decode cX6_take 92 = .ok (.iadd, 1) := by decide +kernel
theorem dX6_take_93 : decode cX6_take 93 = .ok (.istore_n 2, 1) := by decide +kernel
theorem dX6_take_94 : decode cX6_take 94 = .ok (.iinc 3 1, 3) := by decide +kernel
theorem dX6_take_97 : decode cX6_take 97 = .ok (.goto (-91), 3) := by decide +kernel
theorem dX6_take_100 : decode cX6_take 100 = .ok (.iload_n 1, 1) := by decide +kernel
theorem dX6_take_101 : decode cX6_take 101 = .ok (.ifCond .ne 10, 3) := by decide +kernel
theorem dX6_take_104 : decode cX6_take 104 = .ok (.aload_n 0, 1) := by decide +kernel
theorem dX6_take_105 : decode cX6_take 105 = .ok (.bipush (-5), 2) := by decide +kernel
theorem dX6_take_107 : decode cX6_take 107 = .ok (.invokevirtual 49, 3) := by decide +kernel
theorem dX6_take_110 : decode cX6_take 110 = .ok (.ireturn, 1) := by decide +kernel
theorem dX6_take_111 : decode cX6_take 111 = .ok (.aload_n 0, 1) := by decide +kernel
theorem dX6_take_112 : decode cX6_take 112 = .ok (.invokevirtual 65, 3) := by decide +kernel
theorem dX6_take_115 : decode cX6_take 115 = .ok (.iconst 0, 1) := by decide +kernel
theorem dX6_take_116 : decode cX6_take 116 = .ok (.istore_n 3, 1) := by decide +kernel
theorem dX6_take_117 : decode cX6_take 117 = .ok (.iload_n 3, 1) := by decide +kernel
theorem dX6_take_118 : decode cX6_take 118 = .ok (.aload_n 0, 1) := by decide +kernel
theorem dX6_take_119 : decode cX6_take 119 = .ok (.getfield 7, 3) := by decide +kernel
theorem dX6_take_122 : decode cX6_take 122 = .ok (.iconst 1, 1) := by decide +kernel
theorem dX6_take_123 : decode cX6_take 123 = .ok (.iaload, 1) := by decide +kernel
theorem dX6_take_124 : decode cX6_take 124 = .ok (.if_icmp .ge 51, 3) := by decide +kernel
theorem dX6_take_127 : decode cX6_take 127 = .ok (.aload_n 0, 1) := by decide +kernel
theorem dX6_take_128 : decode cX6_take 128 = .ok (.getfield 7, 3) := by decide +kernel
theorem dX6_take_131 : decode cX6_take 131 = .ok (.iconst 2, 1) := by decide +kernel
theorem dX6_take_132 : decode cX6_take 132 = .ok (.iconst 4, 1) := by decide +kernel
theorem dX6_take_133 : decode cX6_take 133 = .ok (.iload_n 3, 1) := by decide +kernel
theorem dX6_take_134 : decode cX6_take 134 = .ok (.imul, 1) := by decide +kernel
theorem dX6_take_135 : decode cX6_take 135 = .ok (.iadd, 1) := by decide +kernel
theorem dX6_take_136 : decode cX6_take 136 = .ok (.iconst 2, 1) := by decide +kernel
theorem dX6_take_137 : decode cX6_take 137 = .ok (.iadd, 1) := by decide +kernel
theorem dX6_take_138 : decode cX6_take 138 = .ok (.aload_n 0, 1) := by decide +kernel
theorem dX6_take_139 : decode cX6_take 139 = .ok (.getfield 19, 3) := by decide +kernel
theorem dX6_take_142 : decode cX6_take 142 = .ok (.iconst 2, 1) := by decide +kernel
theorem dX6_take_143 : decode cX6_take 143 = .ok (.iload_n 3, 1) := by decide +kernel
theorem dX6_take_144 : decode cX6_take 144 = .ok (.imul, 1) := by decide +kernel
theorem dX6_take_145 : decode cX6_take 145 = .ok (.iaload, 1) := by decide +kernel
theorem dX6_take_146 : decode cX6_take 146 = .ok (.iastore, 1) := by decide +kernel
theorem dX6_take_147 : decode cX6_take 147 = .ok (.aload_n 0, 1) := by decide +kernel
theorem dX6_take_148 : decode cX6_take 148 = .ok (.getfield 7, 3) := by decide +kernel
theorem dX6_take_151 : decode cX6_take 151 = .ok (.iconst 2, 1) := by decide +kernel
theorem dX6_take_152 : decode cX6_take 152 = .ok (.iconst 4, 1) := by decide +kernel
theorem dX6_take_153 : decode cX6_take 153 = .ok (.iload_n 3, 1) := by decide +kernel
theorem dX6_take_154 : decode cX6_take 154 = .ok (.imul, 1) := by decide +kernel
theorem dX6_take_155 : decode cX6_take 155 = .ok (.iadd, 1) := by decide +kernel
theorem dX6_take_156 : decode cX6_take 156 = .ok (.iconst 3, 1) := by decide +kernel
theorem dX6_take_157 : decode cX6_take 157 = .ok (.iadd, 1) := by decide +kernel
theorem dX6_take_158 : decode cX6_take 158 = .ok (.aload_n 0, 1) := by decide +kernel
theorem dX6_take_159 : decode cX6_take 159 = .ok (.getfield 19, 3) := by decide +kernel
theorem dX6_take_162 : decode cX6_take 162 = .ok (.iconst 2, 1) := by decide +kernel
theorem dX6_take_163 : decode cX6_take 163 = .ok (.iload_n 3, 1) := by decide +kernel
theorem dX6_take_164 : decode cX6_take 164 = .ok (.imul, 1) := by decide +kernel
theorem dX6_take_165 : decode cX6_take 165 = .ok (.iconst 1, 1) := by decide +kernel
theorem dX6_take_166 : decode cX6_take 166 = .ok (.iadd, 1) := by decide +kernel
theorem dX6_take_167 : decode cX6_take 167 = .ok (.iaload, 1) := by decide +kernel
theorem dX6_take_168 : decode cX6_take 168 = .ok (.iastore, 1) := by decide +kernel
theorem dX6_take_169 : decode cX6_take 169 = .ok (.iinc 3 1, 3) := by decide +kernel
theorem dX6_take_172 : decode cX6_take 172 = .ok (.goto (-55), 3) := by decide +kernel
theorem dX6_take_175 : decode cX6_take 175 = .ok (.iload_n 2, 1) := by decide +kernel
theorem dX6_take_176 : decode cX6_take 176 = .ok (.ireturn, 1) := by decide +kernel
set_option maxRecDepth 20000 in
theorem ggX6_moveVertex_X6_isVertex : GoodIn wsX6_moveVertex wsX6_isVertex := goodIn_r _ [7, 1, 8, 9, 6, 10, 33, 34, 35, 36, 37, 38, 39, 40, 41, 42, 43, 44, 45, 46, 47] (by decide +kernel) (by decide +kernel)
set_option maxRecDepth 20000 in
theorem gX6_moveVertex_X6_isVertex : GoodIn wsX6_moveVertex (wsV RX6 68 RX6 yX6_isVertex wsX6_isVertex) := goodIn_app (goodIn_of _ (by decide +kernel)) ggX6_moveVertex_X6_isVertex
set_option maxRecDepth 20000 in
theorem ggX6_moveVertex_X6_isShift : GoodIn wsX6_moveVertex wsX6_isShift := goodIn_r _ [13, 8, 9, 6, 10] (by decide +kernel) (by decide +kernel)
set_option maxRecDepth 20000 in
theorem gX6_moveVertex_X6_isShift : GoodIn wsX6_moveVertex (va_wsS RX6 72 yX6_isShift wsX6_isShift) := goodIn_app (goodIn_of _ (by decide +kernel)) ggX6_moveVertex_X6_isShift
set_option maxRecDepth 20000 in
theorem ggX6_moveVertex_X6_error : GoodIn wsX6_moveVertex wsX6_error := goodIn_r _ [17, 18, 33, 34, 35, 36, 37, 38, 39, 40, 41, 42, 43, 44, 45, 46, 47] (by decide +kernel) (by decide +kernel)
set_option maxRecDepth 20000 in
theorem gX6_moveVertex_X6_error : GoodIn wsX6_moveVertex (wsV RX6 49 RX6 yX6_error wsX6_error) := goodIn_app (goodIn_of _ (by decide +kernel)) ggX6_moveVertex_X6_error
set_option maxRecDepth 20000 in
theorem ggX6_moveVertex_X6_of : GoodIn wsX6_moveVertex wsX6_of := goodIn_r _ [22, 1, 33, 34, 35, 36, 37, 38, 39, 40, 41, 42, 43, 44, 45, 46, 47] (by decide +kernel) (by decide +kernel)
set_option maxRecDepth 20000 in
theorem gX6_moveVertex_X6_of : GoodIn wsX6_moveVertex (wsV RX6 57 RX6 yX6_of wsX6_of) := goodIn_app (goodIn_of _ (by decide +kernel)) ggX6_moveVertex_X6_of
set_option maxRecDepth 20000 in
theorem ggX6_moveVertex_X6_take : GoodIn wsX6_moveVertex wsX6_take := goodIn_r _ [26, 1, 2, 11, 12, 6, 13, 8, 9, 10, 19, 20, 21, 22, 14, 15, 16, 17, 18, 27, 28, 29, 30, 31, 32, 33, 34, 35, 36, 37, 38, 39, 40, 41, 42, 43, 44, 45, 46, 47] (by decide +kernel) (by decide +kernel)
set_option maxRecDepth 20000 in
theorem gX6_moveVertex_X6_take : GoodIn wsX6_moveVertex (wsV RX6 80 RX6 yX6_take wsX6_take) := goodIn_app (goodIn_of _ (by decide +kernel)) ggX6_moveVertex_X6_take
theorem dX6_moveVertex_0 : decode cX6_moveVertex 0 = .ok (.aload_n 0, 1) := by decide +kernel
theorem dX6_moveVertex_1 : decode cX6_moveVertex 1 = .ok (.iload_n 1, 1) := by decide +kernel
theorem dX6_moveVertex_2 : decode cX6_moveVertex 2 = .ok (.invokevirtual 68, 3) := by decide +kernel
theorem dX6_moveVertex_5 : decode cX6_moveVertex 5 = .ok (.ifCond .eq 11, 3) := by decide +kernel
theorem dX6_moveVertex_8 : decode cX6_moveVertex 8 = .ok (.iload_n 2, 1) := by decide +kernel
theorem dX6_moveVertex_9 : decode cX6_moveVertex 9 = .ok (.iload_n 3, 1) := by decide +kernel
theorem dX6_moveVertex_10 : decode cX6_moveVertex 10 = .ok (.invokestatic 72, 3) := by decide +kernel
theorem dX6_moveVertex_13 : decode cX6_moveVertex 13 = .ok (.ifCond .ne 10, 3) := by decide +kernel
theorem dX6_moveVertex_16 : decode cX6_moveVertex 16 = .ok (.aload_n 0, 1) := by decide +kernel
theorem dX6_moveVertex_17 : decode cX6_moveVertex 17 = .ok (.bipush (-2), 2) := by decide +kernel
theorem dX6_moveVertex_19 : decode cX6_moveVertex 19 = .ok (.invokevirtual 49, 3) := by decide +kernel
theorem dX6_moveVertex_22 : decode cX6_moveVertex 22 = .ok (.ireturn, 1) := by decide +kernel
theorem dX6_moveVertex_23 : decode cX6_moveVertex 23 = .ok (.iconst 0, 1) := by decide +kernel
theorem dX6_moveVertex_24 : decode cX6_moveVertex 24 = .ok (.istore 4, 2) := by decide +kernel
theorem dX6_moveVertex_26 : decode cX6_moveVertex 26 = .ok (.iload 4, 2) := by decide +kernel
theorem dX6_moveVertex_28 : decode cX6_moveVertex 28 = .ok (.aload_n 0, 1) := by decide +kernel
theorem dX6_moveVertex_29 : decode cX6_moveVertex 29 = .ok (.getfield 7, 3) := by decide +kernel
theorem dX6_moveVertex_32 : decode cX6_moveVertex 32 = .ok (.iconst 1, 1) := by decide +kernel
theorem dX6_moveVertex_33 : decode cX6_moveVertex 33 = .ok (.iaload, 1) := by decide +kernel
theorem dX6_moveVertex_34 : decode cX6_moveVertex 34 = .ok (.if_icmp .ge 88, 3) := by decide +kernel
theorem dX6_moveVertex_37 : decode cX6_moveVertex 37 = .ok (.aload_n 0, 1) := by decide +kernel
theorem dX6_moveVertex_38 : decode cX6_moveVertex 38 = .ok (.iload 4, 2) := by decide +kernel
theorem dX6_moveVertex_40 : decode cX6_moveVertex 40 = .ok (.iconst 1, 1) := by decide +kernel
theorem dX6_moveVertex_41 : decode cX6_moveVertex 41 = .ok (.invokevirtual 57, 3) := by decide +kernel
theorem dX6_moveVertex_44 : decode cX6_moveVertex 44 = .ok (.iload_n 1, 1) := by decide +kernel
theorem dX6_moveVertex_45 : decode cX6_moveVertex 45 = .ok (.if_icmp .ne 7, 3) := by decide +kernel
theorem dX6_moveVertex_48 : decode cX6_moveVertex 48 = .ok (.iconst 1, 1) := by decide +kernel
theorem dX6_moveVertex_49 : decode cX6_moveVertex 49 = .ok (.goto 4, 3) := by decide +kernel
theorem dX6_moveVertex_52 : decode cX6_moveVertex 52 = .ok (.iconst 0, 1) := by decide +kernel
theorem dX6_moveVertex_53 : decode cX6_moveVertex 53 = .ok (.aload_n 0, 1) := by decide +kernel
theorem dX6_moveVertex_54 : decode cX6_moveVertex 54 = .ok (.iload 4, 2) := by decide +kernel
theorem dX6_moveVertex_56 : decode cX6_moveVertex 56 = .ok (.iconst 0, 1) := by decide +kernel
theorem dX6_moveVertex_57 : decode cX6_moveVertex 57 = .ok (.invokevirtual 57, 3) := by decide +kernel
theorem dX6_moveVertex_60 : decode cX6_moveVertex 60 = .ok (.iload_n 1, 1) := by decide +kernel
theorem dX6_moveVertex_61 : decode cX6_moveVertex 61 = .ok (.if_icmp .ne 7, 3) := by decide +kernel
theorem dX6_moveVertex_64 : decode cX6_moveVertex 64 = .ok (.iconst 1, 1) := by decide +kernel
theorem dX6_moveVertex_65 : decode cX6_moveVertex 65 = .ok (.goto 4, 3) := by decide +kernel
theorem dX6_moveVertex_68 : decode cX6_moveVertex 68 = .ok (.iconst 0, 1) := by decide +kernel
theorem dX6_moveVertex_69 : decode cX6_moveVertex 69 = .ok (.isub, 1) := by decide +kernel
theorem dX6_moveVertex_70 : decode cX6_moveVertex 70 = .ok (.istore 5, 2) := by decide +kernel
theorem dX6_moveVertex_72 : decode cX6_moveVertex 72 = .ok (.aload_n 0, 1) := by decide +kernel
theorem dX6_moveVertex_73 : decode cX6_moveVertex 73 = .ok (.getfield 19, 3) := by decide +kernel
theorem dX6_moveVertex_76 : decode cX6_moveVertex 76 = .ok (.iconst 2, 1) := by decide +kernel
theorem dX6_moveVertex_77 : decode cX6_moveVertex 77 = .ok (.iload 4, 2) := by decide +kernel
theorem dX6_moveVertex_79 : decode cX6_moveVertex 79 = .ok (.imul, 1) := by decide +kernel
theorem dX6_moveVertex_80 : decode cX6_moveVertex 80 = .ok (.aload_n 0, 1) := by decide +kernel
theorem dX6_moveVertex_81 : decode cX6_moveVertex 81 = .ok (.iload 4, 2) := by decide +kernel
theorem dX6_moveVertex_83 : decode cX6_moveVertex 83 = .ok (.iconst 2, 1) := by decide +kernel
theorem dX6_moveVertex_84 : decode cX6_moveVertex 84 = .ok (.invokevirtual 57, 3) := by decide +kernel
theorem dX6_moveVertex_87 : decode cX6_moveVertex 87 = .ok (.iload 5, 2) := by decide +kernel
theorem dX6_moveVertex_89 : decode cX6_moveVertex 89 = .ok (.iload_n 2, 1) := by decide +kernel
theorem dX6_moveVertex_90 : decode cX6_moveVertex 90 = .ok (.imul, 1) := by decide +kernel
theorem dX6_moveVertex_91 : decode cX6_moveVertex 91 = .ok (.iadd, 1) := by decide +kernel
theorem dX6_moveVertex_92 : decode cX6_moveVertex 92 = .ok (.iastore, 1) := by decide +kernel
theorem dX6_moveVertex_93 : decode cX6_moveVertex 93 = .ok (.aload_n 0, 1) := by decide +kernel
theorem dX6_moveVertex_94 : decode cX6_moveVertex 94 = .ok (.getfield 19, 3) := by decide +kernel
theorem dX6_moveVertex_97 : decode cX6_moveVertex 97 = .ok (.iconst 2, 1) := by decide +kernel
theorem dX6_moveVertex_98 : decode cX6_moveVertex 98 = .ok (.iload 4, 2) := by decide +kernel
theorem dX6_moveVertex_100 : decode cX6_moveVertex 100 = .ok (.imul, 1) := by decide +kernel
theorem dX6_moveVertex_101 : decode cX6_moveVertex 101 = .ok (.iconst 1, 1) := by decide +kernel
theorem dX6_moveVertex_102 : decode cX6_moveVertex 102 = .ok (.iadd, 1) := by decide +kernel
theorem dX6_moveVertex_103 : decode cX6_moveVertex 103 = .ok (.aload_n 0, 1) := by decide +kernel
theorem dX6_moveVertex_104 : decode cX6_moveVertex 104 = .ok (.iload 4, 2) := by decide +kernel
theorem dX6_moveVertex_106 : decode cX6_moveVertex 106 = .ok (.iconst 3, 1) := by decide +kernel
theorem dX6_moveVertex_107 : decode cX6_moveVertex 107 = .ok (.invokevirtual 57, 3) := by decide +kernel
theorem dX6_moveVertex_110 : decode cX6_moveVertex 110 = .ok (.iload 5, 2) := by decide +kernel
theorem dX6_moveVertex_112 : decode cX6_moveVertex 112 = .ok (.iload_n 3, 1) := by decide +kernel
theorem dX6_moveVertex_113 : decode cX6_moveVertex 113 = .ok (.imul, 1) := by decide +kernel
theorem dX6_moveVertex_114 : decode cX6_moveVertex 114 = .ok (.iadd, 1) := by decide +kernel
theorem dX6_moveVertex_115 : decode cX6_moveVertex 115 = .ok (.iastore, 1) := by decide +kernel
theorem dX6_moveVertex_116 : decode cX6_moveVertex 116 = .ok (.iinc 4 1, 3) := by decide +kernel
theorem dX6_moveVertex_119 : decode cX6_moveVertex 119 = .ok (.goto (-93), 3) := by decide +kernel
theorem dX6_moveVertex_122 : decode cX6_moveVertex 122 = .ok (.aload_n 0, 1) := by decide +kernel
theorem dX6_moveVertex_123 : decode cX6_moveVertex 123 = .ok (.invokevirtual 80, 3) := by decide +kernel
theorem dX6_moveVertex_126 : decode cX6_moveVertex 126 = .ok (.ireturn, 1) := by decide +kernel
set_option maxRecDepth 20000 in
theorem ggX6_changeBasis_X6_in : GoodIn wsX6_changeBasis wsX6_in := goodIn_r _ [6] (by decide +kernel) (by decide +kernel)
set_option maxRecDepth 20000 in
theorem gX6_changeBasis_X6_in : GoodIn wsX6_changeBasis (va_wsS RX6 53 yX6_in wsX6_in) := goodIn_app (goodIn_of _ (by decide +kernel)) ggX6_changeBasis_X6_in
set_option maxRecDepth 20000 in
theorem ggX6_changeBasis_X6_error : GoodIn wsX6_changeBasis wsX6_error := goodIn_r _ [10, 11, 29, 30, 31, 32, 33, 34, 35, 36, 37, 38, 39, 40, 41, 42, 43] (by decide +kernel) (by decide +kernel)
set_option maxRecDepth 20000 in
theorem gX6_changeBasis_X6_error : GoodIn wsX6_changeBasis (wsV RX6 49 RX6 yX6_error wsX6_error) := goodIn_app (goodIn_of _ (by decide +kernel)) ggX6_changeBasis_X6_error
set_option maxRecDepth 20000 in
theorem ggX6_changeBasis_X6_of : GoodIn wsX6_changeBasis wsX6_of := goodIn_r _ [15, 1, 29, 30, 31, 32, 33, 34, 35, 36, 37, 38, 39, 40, 41, 42, 43] (by decide +kernel) (by decide +kernel)
set_option maxRecDepth 20000 in
theorem gX6_changeBasis_X6_of : GoodIn wsX6_changeBasis (wsV RX6 57 RX6 yX6_of wsX6_of) := goodIn_app (goodIn_of _ (by decide +kernel)) ggX6_changeBasis_X6_of
set_option maxRecDepth 20000 in
theorem ggX6_changeBasis_X6_take : GoodIn wsX6_changeBasis wsX6_take := goodIn_r _ [19, 1, 2, 20, 21, 5, 22, 3, 4, 6, 12, 13, 14, 15, 7, 8, 9, 10, 11, 23, 24, 25, 26, 27, 28, 29, 30, 31, 32, 33, 34, 35, 36, 37, 38, 39, 40, 41, 42, 43] (by decide +kernel) (by decide +kernel)
set_option maxRecDepth 20000 in
theorem gX6_changeBasis_X6_take : GoodIn wsX6_changeBasis (wsV RX6 80 RX6 yX6_take wsX6_take) := goodIn_app (goodIn_of _ (by decide +kernel)) ggX6_changeBasis_X6_take
theorem dX6_changeBasis_0 : decode cX6_changeBasis 0 = .ok (.iload_n 1, 1) := by decide +kernel
theorem dX6_changeBasis_1 : decode cX6_changeBasis 1 = .ok (.iconst 0, 1) := by decide +kernel
theorem dX6_changeBasis_2 : decode cX6_changeBasis 2 = .ok (.iconst 3, 1) := by decide +kernel
theorem dX6_changeBasis_3 : decode cX6_changeBasis 3 = .ok (.invokestatic 53, 3) := by decide +kernel
theorem dX6_changeBasis_6 : decode cX6_changeBasis 6 = .ok (.ifCond .ne 10, 3) := by decide +kernel
theorem dX6_changeBasis_9 : decode cX6_changeBasis 9 = .ok (.aload_n 0, 1) := by decide +kernel
theorem dX6_changeBasis_10 : decode cX6_changeBasis 10 = .ok (.bipush (-2), 2) := by decide +kernel
theorem dX6_changeBasis_12 : decode cX6_changeBasis 12 = .ok (.invokevirtual 49, 3) := by decide +kernel
theorem dX6_changeBasis_15 : decode cX6_changeBasis 15 = .ok (.ireturn, 1) := by decide +kernel
theorem dX6_changeBasis_16 : decode cX6_changeBasis 16 = .ok (.iconst 0, 1) := by decide +kernel
theorem dX6_changeBasis_17 : decode cX6_changeBasis 17 = .ok (.istore_n 2, 1) := by decide +kernel
theorem dX6_changeBasis_18 : decode cX6_changeBasis 18 = .ok (.iload_n 2, 1) := by decide +kernel
theorem dX6_changeBasis_19 : decode cX6_changeBasis 19 = .ok (.aload_n 0, 1) := by decide +kernel
theorem dX6_changeBasis_20 : decode cX6_changeBasis 20 = .ok (.getfield 7, 3) := by decide +kernel
theorem dX6_changeBasis_23 : decode cX6_changeBasis 23 = .ok (.iconst 1, 1) := by decide +kernel
theorem dX6_changeBasis_24 : decode cX6_changeBasis 24 = .ok (.iaload, 1) := by decide +kernel
theorem dX6_changeBasis_25 : decode cX6_changeBasis 25 = .ok (.if_icmp .ge 87, 3) := by decide +kernel
theorem dX6_changeBasis_28 : decode cX6_changeBasis 28 = .ok (.aload_n 0, 1) := by decide +kernel
theorem dX6_changeBasis_29 : decode cX6_changeBasis 29 = .ok (.iload_n 2, 1) := by decide +kernel
theorem dX6_changeBasis_30 : decode cX6_changeBasis 30 = .ok (.iconst 2, 1) := by decide +kernel
theorem dX6_changeBasis_31 : decode cX6_changeBasis 31 = .ok (.invokevirtual 57, 3) := by decide +kernel
theorem dX6_changeBasis_34 : decode cX6_changeBasis 34 = .ok (.istore_n 3, 1) := by decide +kernel
theorem dX6_changeBasis_35 : decode cX6_changeBasis 35 = .ok (.aload_n 0, 1) := by decide +kernel
theorem dX6_changeBasis_36 : decode cX6_changeBasis 36 = .ok (.iload_n 2, 1) := by decide +kernel
theorem dX6_changeBasis_37 : decode cX6_changeBasis 37 = .ok (.iconst 3, 1) := by decide +kernel
theorem dX6_changeBasis_38 : decode cX6_changeBasis 38 = .ok (.invokevirtual 57, 3) := by decide +kernel
theorem dX6_changeBasis_41 : decode cX6_changeBasis 41 = .ok (.istore 4, 2) := by decide +kernel
theorem dX6_changeBasis_43 : decode cX6_changeBasis 43 = .ok (.aload_n 0, 1) := by decide +kernel
theorem dX6_changeBasis_44 : decode cX6_changeBasis 44 = .ok (.getfield 19, 3) := by decide +kernel
theorem dX6_changeBasis_47 : decode cX6_changeBasis 47 = .ok (.iconst 2, 1) := by decide +kernel
theorem dX6_changeBasis_48 : decode cX6_changeBasis 48 = .ok (.iload_n 2, 1) := by decide +kernel
theorem dX6_changeBasis_49 : decode cX6_changeBasis 49 = .ok (.imul, 1) := by decide +kernel
theorem dX6_changeBasis_50 : decode cX6_changeBasis 50 = .ok (.iload_n 1, 1) := by decide +kernel
theorem dX6_changeBasis_51 : decode cX6_changeBasis 51 = .ok (.ifCond .ne 8, 3) := by decide +kernel
theorem dX6_changeBasis_54 : decode cX6_changeBasis 54 = .ok (.iload 4, 2) := by decide +kernel
theorem dX6_changeBasis_56 : decode cX6_changeBasis 56 = .ok (.goto 29, 3) := by decide +kernel
theorem dX6_changeBasis_59 : decode cX6_changeBasis 59 = .ok (.iload_n 1, 1) := by decide +kernel
theorem dX6_changeBasis_60 : decode cX6_changeBasis 60 = .ok (.iconst 1, 1) := by decide +kernel
theorem dX6_changeBasis_61 : decode cX6_changeBasis 61 = .ok (.if_icmp .ne 10, 3) := by decide +kernel
theorem dX6_changeBasis_64 : decode cX6_changeBasis 64 = .ok (.iload_n 3, 1) := by decide +kernel
theorem dX6_changeBasis_65 : decode cX6_changeBasis 65 = .ok (.iload 4, 2) := by decide +kernel
theorem dX6_changeBasis_67 : decode cX6_changeBasis 67 = .ok (.iadd, 1) := by decide +kernel
theorem dX6_changeBasis_68 : decode cX6_changeBasis 68 = .ok (.goto 17, 3) := by decide +kernel
theorem dX6_changeBasis_71 : decode cX6_changeBasis 71 = .ok (.iload_n 1, 1) := by decide +kernel
theorem dX6_changeBasis_72 : decode cX6_changeBasis 72 = .ok (.iconst 2, 1) := by decide +kernel
theorem dX6_changeBasis_73 : decode cX6_changeBasis 73 = .ok (.if_icmp .ne 10, 3) := by decide +kernel
theorem dX6_changeBasis_76 : decode cX6_changeBasis 76 = .ok (.iload_n 3, 1) := by decide +kernel
theorem dX6_changeBasis_77 : decode cX6_changeBasis 77 = .ok (.iload 4, 2) := by decide +kernel
theorem dX6_changeBasis_79 : decode cX6_changeBasis 79 = .ok (.isub, 1) := by decide +kernel
theorem dX6_changeBasis_80 : decode cX6_changeBasis 80 = .ok (.goto 5, 3) := by decide +kernel
theorem dX6_changeBasis_83 : decode cX6_changeBasis 83 = .ok (.iload_n 3, 1) := by decide +kernel
theorem dX6_changeBasis_84 : decode cX6_changeBasis 84 = .ok (.ineg, 1) := by decide +kernel
theorem dX6_changeBasis_85 : decode cX6_changeBasis 85 = .ok (.iastore, 1) := by decide +kernel
theorem dX6_changeBasis_86 : decode cX6_changeBasis 86 = .ok (.aload_n 0, 1) := by decide +kernel
theorem dX6_changeBasis_87 : decode cX6_changeBasis 87 = .ok (.getfield 19, 3) := by decide +kernel
theorem dX6_changeBasis_90 : decode cX6_changeBasis 90 = .ok (.iconst 2, 1) := by decide +kernel
theorem dX6_changeBasis_91 : decode cX6_changeBasis 91 = .ok (.iload_n 2, 1) := by decide +kernel
theorem dX6_changeBasis_92 : decode cX6_changeBasis 92 = .ok (.imul, 1) := by decide +kernel
theorem dX6_changeBasis_93 : decode cX6_changeBasis 93 = .ok (.iconst 1, 1) := by decide +kernel
theorem dX6_changeBasis_94 : decode cX6_changeBasis 94 = .ok (.iadd, 1) := by decide +kernel
theorem dX6_changeBasis_95 : decode cX6_changeBasis 95 = .ok (.iload_n 1, 1) := by decide +kernel
theorem dX6_changeBasis_96 : decode cX6_changeBasis 96 = .ok (.ifCond .ne 7, 3) := by decide +kernel
theorem dX6_changeBasis_99 : decode cX6_changeBasis 99 = .ok (.iload_n 3, 1) := by decide +kernel
theorem dX6_changeBasis_100 : decode cX6_changeBasis 100 = .ok (.goto 5, 3) := by decide +kernel
theorem dX6_changeBasis_103 : decode cX6_changeBasis 103 = .ok (.iload 4, 2) := by decide +kernel
theorem dX6_changeBasis_105 : decode cX6_changeBasis 105 = .ok (.iastore, 1) := by decide +kernel
theorem dX6_changeBasis_106 : decode cX6_changeBasis 106 = .ok (.iinc 2 1, 3) := by decide +kernel
theorem dX6_changeBasis_109 : decode cX6_changeBasis 109 = .ok (.goto (-91), 3) := by decide +kernel
theorem dX6_changeBasis_112 : decode cX6_changeBasis 112 = .ok (.aload_n 0, 1) := by decide +kernel
theorem dX6_changeBasis_113 : decode cX6_changeBasis 113 = .ok (.invokevirtual 80, 3) := by decide +kernel
theorem dX6_changeBasis_116 : decode cX6_changeBasis 116 = .ok (.ireturn, 1) := by decide +kernel
theorem dX6_vertices_0 : decode cX6_vertices 0 = .ok (.aload_n 0, 1) := by decide +kernel
theorem dX6_vertices_1 : decode cX6_vertices 1 = .ok (.getfield 7, 3) := by decide +kernel
theorem dX6_vertices_4 : decode cX6_vertices 4 = .ok (.iconst 0, 1) := by decide +kernel
theorem dX6_vertices_5 : decode cX6_vertices 5 = .ok (.iaload, 1) := by decide +kernel
theorem dX6_vertices_6 : decode cX6_vertices 6 = .ok (.ireturn, 1) := by decide +kernel
theorem dX6_edges_0 : decode cX6_edges 0 = .ok (.aload_n 0, 1) := by decide +kernel
theorem dX6_edges_1 : decode cX6_edges 1 = .ok (.getfield 7, 3) := by decide +kernel
theorem dX6_edges_4 : decode cX6_edges 4 = .ok (.iconst 1, 1) := by decide +kernel
theorem dX6_edges_5 : decode cX6_edges 5 = .ok (.iaload, 1) := by decide +kernel
theorem dX6_edges_6 : decode cX6_edges 6 = .ok (.ireturn, 1) := by decide +kernel
set_option maxRecDepth 20000 in
theorem ggX6_isEndOf_X6_of : GoodIn wsX6_isEndOf wsX6_of := goodIn_r _ [5, 6, 7, 8, 9, 10, 11, 12, 13, 14, 15, 16, 17, 18, 19, 20, 21] (by decide +kernel) (by decide +kernel)
set_option maxRecDepth 20000 in
theorem gX6_isEndOf_X6_of : GoodIn wsX6_isEndOf (wsV RX6 57 RX6 yX6_of wsX6_of) := goodIn_app (goodIn_of _ (by decide +kernel)) ggX6_isEndOf_X6_of
theorem dX6_isEndOf_0 : decode cX6_isEndOf 0 = .ok (.aload_n 0, 1) := by decide +kernel
theorem dX6_isEndOf_1 : decode cX6_isEndOf 1 = .ok (.iload_n 1, 1) := by decide +kernel
theorem dX6_isEndOf_2 : decode cX6_isEndOf 2 = .ok (.iconst 2, 1) := by decide +kernel
theorem dX6_isEndOf_3 : decode cX6_isEndOf 3 = .ok (.idiv, 1) := by decide +kernel
theorem dX6_isEndOf_4 : decode cX6_isEndOf 4 = .ok (.iload_n 1, 1) := by decide +kernel
theorem dX6_isEndOf_5 : decode cX6_isEndOf 5 = .ok (.iconst 2, 1) := by decide +kernel
theorem dX6_isEndOf_6 : decode cX6_isEndOf 6 = .ok (.irem, 1) := by decide +kernel
theorem dX6_isEndOf_7 : decode cX6_isEndOf 7 = .ok (.invokevirtual 57, 3) := by decide +kernel
theorem dX6_isEndOf_10 : decode cX6_isEndOf 10 = .ok (.iload_n 2, 1) := by decide +kernel
theorem dX6_isEndOf_11 : decode cX6_isEndOf 11 = .ok (.if_icmp .ne 7, 3) := by decide +kernel
theorem dX6_isEndOf_14 : decode cX6_isEndOf 14 = .ok (.iconst 1, 1) := by decide +kernel
theorem dX6_isEndOf_15 : decode cX6_isEndOf 15 = .ok (.goto 4, 3) := by decide +kernel
theorem dX6_isEndOf_18 : decode cX6_isEndOf 18 = .ok (.iconst 0, 1) := by decide +kernel
theorem dX6_isEndOf_19 : decode cX6_isEndOf 19 = .ok (.ireturn, 1) := by decide +kernel
set_option maxRecDepth 20000 in
theorem ggX6_leadsTo_X6_of : GoodIn wsX6_leadsTo wsX6_of := goodIn_r _ [5, 6, 7, 8, 9, 10, 11, 12, 13, 14, 15, 16, 17, 18, 19, 20, 21] (by decide +kernel) (by decide +kernel)
set_option maxRecDepth 20000 in
theorem gX6_leadsTo_X6_of : GoodIn wsX6_leadsTo (wsV RX6 57 RX6 yX6_of wsX6_of) := goodIn_app (goodIn_of _ (by decide +kernel)) ggX6_leadsTo_X6_of
theorem dX6_leadsTo_0 : decode cX6_leadsTo 0 = .ok (.aload_n 0, 1) := by decide +kernel
theorem dX6_leadsTo_1 : decode cX6_leadsTo 1 = .ok (.iload_n 1, 1) := by decide +kernel
theorem dX6_leadsTo_2 : decode cX6_leadsTo 2 = .ok (.iconst 2, 1) := by decide +kernel
theorem dX6_leadsTo_3 : decode cX6_leadsTo 3 = .ok (.idiv, 1) := by decide +kernel
theorem dX6_leadsTo_4 : decode cX6_leadsTo 4 = .ok (.iconst 1, 1) := by decide +kernel
theorem dX6_leadsTo_5 : decode cX6_leadsTo 5 = .ok (.iload_n 1, 1) := by decide +kernel
theorem dX6_leadsTo_6 : decode cX6_leadsTo 6 = .ok (.iconst 2, 1) := by decide +kernel
theorem dX6_leadsTo_7 : decode cX6_leadsTo 7 = .ok (.irem, 1) := by decide +kernel
theorem dX6_leadsTo_8 : decode cX6_leadsTo 8 = .ok (.isub, 1) := by decide +kernel
theorem dX6_leadsTo_9 : decode cX6_leadsTo 9 = .ok (.invokevirtual 57, 3) := by decide +kernel
theorem dX6_leadsTo_12 : decode cX6_leadsTo 12 = .ok (.ireturn, 1) := by decide +kernel
set_option maxRecDepth 20000 in
theorem ggX6_endX_X6_of : GoodIn wsX6_endX wsX6_of := goodIn_r _ [5, 6, 7, 8, 9, 10, 11, 12, 13, 14, 15, 16, 17, 18, 19, 20, 21] (by decide +kernel) (by decide +kernel)
set_option maxRecDepth 20000 in
theorem gX6_endX_X6_of : GoodIn wsX6_endX (wsV RX6 57 RX6 yX6_of wsX6_of) := goodIn_app (goodIn_of _ (by decide +kernel)) ggX6_endX_X6_of
theorem dX6_endX_0 : decode cX6_endX 0 = .ok (.iload_n 1, 1) := by decide +kernel
theorem dX6_endX_1 : decode cX6_endX 1 = .ok (.iconst 2, 1) := by decide +kernel
theorem dX6_endX_2 : decode cX6_endX 2 = .ok (.irem, 1) := by decide +kernel
theorem dX6_endX_3 : decode cX6_endX 3 = .ok (.ifCond .ne 14, 3) := by decide +kernel
theorem dX6_endX_6 : decode cX6_endX 6 = .ok (.aload_n 0, 1) := by decide +kernel
theorem dX6_endX_7 : decode cX6_endX 7 = .ok (.iload_n 1, 1) := by decide +kernel
theorem dX6_endX_8 : decode cX6_endX 8 = .ok (.iconst 2, 1) := by decide +kernel
theorem dX6_endX_9 : decode cX6_endX 9 = .ok (.idiv, 1) := by decide +kernel
theorem dX6_endX_10 : decode cX6_endX 10 = .ok (.iconst 2, 1) := by decide +kernel
theorem dX6_endX_11 : decode cX6_endX 11 = .ok (.invokevirtual 57, 3) := by decide +kernel
theorem dX6_endX_14 : decode cX6_endX 14 = .ok (.goto 12, 3) := by decide +kernel
theorem dX6_endX_17 : decode cX6_endX 17 = .ok (.aload_n 0, 1) := by decide +kernel
theorem dX6_endX_18 : decode cX6_endX 18 = .ok (.iload_n 1, 1) := by decide +kernel
theorem dX6_endX_19 : decode cX6_endX 19 = .ok (.iconst 2, 1) := by decide +kernel
theorem dX6_endX_20 : decode cX6_endX 20 = .ok (.idiv, 1) := by decide +kernel
theorem dX6_endX_21 : decode cX6_endX 21 = .ok (.iconst 2, 1) := by decide +kernel
theorem dX6_endX_22 : decode cX6_endX 22 = .ok (.invokevirtual 57, 3) := by decide +kernel
theorem dX6_endX_25 : decode cX6_endX 25 = .ok (.ineg, 1) := by decide +kernel
theorem dX6_endX_26 : decode cX6_endX 26 = .ok (.ireturn, 1) := by decide +kernel
set_option maxRecDepth 20000 in
theorem ggX6_endY_X6_of : GoodIn wsX6_endY wsX6_of := goodIn_r _ [5, 6, 7, 8, 9, 10, 11, 12, 13, 14, 15, 16, 17, 18, 19, 20, 21] (by decide +kernel) (by decide +kernel)
set_option maxRecDepth 20000 in
theorem gX6_endY_X6_of : GoodIn wsX6_endY (wsV RX6 57 RX6 yX6_of wsX6_of) := goodIn_app (goodIn_of _ (by decide +kernel)) ggX6_endY_X6_of
theorem dX6_endY_0 : decode cX6_endY 0 = .ok (.iload_n 1, 1) := by decide +kernel
theorem dX6_endY_1 : decode cX6_endY 1 = .ok (.iconst 2, 1) := by decide +kernel
theorem dX6_endY_2 : decode cX6_endY 2 = .ok (.irem, 1) := by decide +kernel
theorem dX6_endY_3 : decode cX6_endY 3 = .ok (.ifCond .ne 14, 3) := by decide +kernel
theorem dX6_endY_6 : decode cX6_endY 6 = .ok (.aload_n 0, 1) := by decide +kernel
theorem dX6_endY_7 : decode cX6_endY 7 = .ok (.iload_n 1, 1) := by decide +kernel
theorem dX6_endY_8 : decode cX6_endY 8 = .ok (.iconst 2, 1) := by decide +kernel
theorem dX6_endY_9 : decode cX6_endY 9 = .ok (.idiv, 1) := by decide +kernel
theorem dX6_endY_10 : decode cX6_endY 10 = .ok (.iconst 3, 1) := by decide +kernel
theorem dX6_endY_11 : decode cX6_endY 11 = .ok (.invokevirtual 57, 3) := by decide +kernel
theorem dX6_endY_14 : decode cX6_endY 14 = .ok (.goto 12, 3) := by decide +kernel
theorem dX6_endY_17 : decode cX6_endY 17 = .ok (.aload_n 0, 1) := by decide +kernel
theorem dX6_endY_18 : decode cX6_endY 18 = .ok (.iload_n 1, 1) := by decide +kernel
theorem dX6_endY_19 : decode cX6_endY 19 = .ok (.iconst 2, 1) := by decide +kernel
theorem dX6_endY_20 : decode cX6_endY 20 = .ok (.idiv, 1) := by decide +kernel
theorem dX6_endY_21 : decode cX6_endY 21 = .ok (.iconst 3, 1) := by decide +kernel
theorem dX6_endY_22 : decode cX6_endY 22 = .ok (.invokevirtual 57, 3) := by decide +kernel
theorem dX6_endY_25 : decode cX6_endY 25 = .ok (.ineg, 1) := by decide +kernel
theorem dX6_endY_26 : decode cX6_endY 26 = .ok (.ireturn, 1) := by decide +kernel
set_option maxRecDepth 20000 in
theorem ggX6_degreeOf_X6_isEndOf : GoodIn wsX6_degreeOf wsX6_isEndOf := goodIn_r _ [6, 7, 8, 9, 5, 10, 1, 11, 12, 13, 14, 15, 16, 17, 18, 19, 20, 21, 22, 23, 24, 25] (by decide +kernel) (by decide +kernel)
set_option maxRecDepth 20000 in
theorem gX6_degreeOf_X6_isEndOf : GoodIn wsX6_degreeOf (wsV RX6 84 RX6 yX6_isEndOf wsX6_isEndOf) := goodIn_app (goodIn_of _ (by decide +kernel)) ggX6_degreeOf_X6_isEndOf
theorem dX6_degreeOf_0 : decode cX6_degreeOf 0 = .ok (.iconst 0, 1) := by decide +kernel
theorem dX6_degreeOf_1 : decode cX6_degreeOf 1 = .ok (.istore_n 2, 1) := by decide +kernel
theorem dX6_degreeOf_2 : decode cX6_degreeOf 2 = .ok (.iconst 0, 1) := by decide +kernel
theorem dX6_degreeOf_3 : decode cX6_degreeOf 3 = .ok (.istore_n 3, 1) := by decide +kernel
theorem dX6_degreeOf_4 : decode cX6_degreeOf 4 = .ok (.iload_n 3, 1) := by decide +kernel
theorem dX6_degreeOf_5 : decode cX6_degreeOf 5 = .ok (.iconst 2, 1) := by decide +kernel
theorem dX6_degreeOf_6 : decode cX6_degreeOf 6 = .ok (.aload_n 0, 1) := by decide +kernel
theorem dX6_degreeOf_7 : decode cX6_degreeOf 7 = .ok (.getfield 7, 3) := by decide +kernel
theorem dX6_degreeOf_10 : decode cX6_degreeOf 10 = .ok (.iconst 1, 1) := by decide +kernel
theorem dX6_degreeOf_11 : decode cX6_degreeOf 11 = .ok (.iaload, 1) := by decide +kernel
theorem dX6_degreeOf_12 : decode cX6_degreeOf 12 = .ok (.imul, 1) := by decide +kernel
theorem dX6_degreeOf_13 : decode cX6_degreeOf 13 = .ok (.if_icmp .ge 26, 3) := by decide +kernel
theorem dX6_degreeOf_16 : decode cX6_degreeOf 16 = .ok (.iload_n 2, 1) := by decide +kernel
theorem dX6_degreeOf_17 : decode cX6_degreeOf 17 = .ok (.aload_n 0, 1) := by decide +kernel
theorem dX6_degreeOf_18 : decode cX6_degreeOf 18 = .ok (.iload_n 3, 1) := by decide +kernel
theorem dX6_degreeOf_19 : decode cX6_degreeOf 19 = .ok (.iload_n 1, 1) := by decide +kernel
theorem dX6_degreeOf_20 : decode cX6_degreeOf 20 = .ok (.invokevirtual 84, 3) := by decide +kernel
theorem dX6_degreeOf_23 : decode cX6_degreeOf 23 = .ok (.ifCond .eq 7, 3) := by decide +kernel
theorem dX6_degreeOf_26 : decode cX6_degreeOf 26 = .ok (.iconst 1, 1) := by decide +kernel
theorem dX6_degreeOf_27 : decode cX6_degreeOf 27 = .ok (.goto 4, 3) := by decide +kernel
theorem dX6_degreeOf_30 : decode cX6_degreeOf 30 = .ok (.iconst 0, 1) := by decide +kernel
theorem dX6_degreeOf_31 : decode cX6_degreeOf 31 = .ok (.iadd, 1) := by decide +kernel
theorem dX6_degreeOf_32 : decode cX6_degreeOf 32 = .ok (.istore_n 2, 1) := by decide +kernel
theorem dX6_degreeOf_33 : decode cX6_degreeOf 33 = .ok (.iinc 3 1, 3) := by decide +kernel
theorem dX6_degreeOf_36 : decode cX6_degreeOf 36 = .ok (.goto (-32), 3) := by decide +kernel
theorem dX6_degreeOf_39 : decode cX6_degreeOf 39 = .ok (.iload_n 2, 1) := by decide +kernel
theorem dX6_degreeOf_40 : decode cX6_degreeOf 40 = .ok (.ireturn, 1) := by decide +kernel
set_option maxRecDepth 20000 in
theorem ggX6_endAt_X6_isEndOf : GoodIn wsX6_endAt wsX6_isEndOf := goodIn_r _ [6, 7, 8, 9, 5, 10, 1, 11, 12, 13, 14, 15, 16, 17, 18, 19, 20, 21, 22, 23, 24, 25] (by decide +kernel) (by decide +kernel)
set_option maxRecDepth 20000 in
theorem gX6_endAt_X6_isEndOf : GoodIn wsX6_endAt (wsV RX6 84 RX6 yX6_isEndOf wsX6_isEndOf) := goodIn_app (goodIn_of _ (by decide +kernel)) ggX6_endAt_X6_isEndOf
theorem dX6_endAt_0 : decode cX6_endAt 0 = .ok (.iload_n 2, 1) := by decide +kernel
theorem dX6_endAt_1 : decode cX6_endAt 1 = .ok (.istore_n 3, 1) := by decide +kernel
theorem dX6_endAt_2 : decode cX6_endAt 2 = .ok (.iconst (-1), 1) := by decide +kernel
theorem dX6_endAt_3 : decode cX6_endAt 3 = .ok (.istore 4, 2) := by decide +kernel
theorem dX6_endAt_5 : decode cX6_endAt 5 = .ok (.iconst 0, 1) := by decide +kernel
theorem dX6_endAt_6 : decode cX6_endAt 6 = .ok (.istore 5, 2) := by decide +kernel
theorem dX6_endAt_8 : decode cX6_endAt 8 = .ok (.iload 5, 2) := by decide +kernel
theorem dX6_endAt_10 : decode cX6_endAt 10 = .ok (.iconst 2, 1) := by decide +kernel
theorem dX6_endAt_11 : decode cX6_endAt 11 = .ok (.aload_n 0, 1) := by decide +kernel
theorem dX6_endAt_12 : decode cX6_endAt 12 = .ok (.getfield 7, 3) := by decide +kernel
theorem dX6_endAt_15 : decode cX6_endAt 15 = .ok (.iconst 1, 1) := by decide +kernel
theorem dX6_endAt_16 : decode cX6_endAt 16 = .ok (.iaload, 1) := by decide +kernel
theorem dX6_endAt_17 : decode cX6_endAt 17 = .ok (.imul, 1) := by decide +kernel
theorem dX6_endAt_18 : decode cX6_endAt 18 = .ok (.if_icmp .ge 35, 3) := by decide +kernel
theorem dX6_endAt_21 : decode cX6_endAt 21 = .ok (.aload_n 0, 1) := by decide +kernel
theorem dX6_endAt_22 : decode cX6_endAt 22 = .ok (.iload 5, 2) := by decide +kernel
theorem dX6_endAt_24 : decode cX6_endAt 24 = .ok (.iload_n 1, 1) := by decide +kernel
theorem dX6_endAt_25 : decode cX6_endAt 25 = .ok (.invokevirtual 84, 3) := by decide +kernel
theorem dX6_endAt_28 : decode cX6_endAt 28 = .ok (.ifCond .eq 19, 3) := by decide +kernel
theorem dX6_endAt_31 : decode cX6_endAt 31 = .ok (.iload_n 3, 1) := by decide +kernel
theorem dX6_endAt_32 : decode cX6_endAt 32 = .ok (.ifCond .ne 8, 3) := by decide +kernel
theorem dX6_endAt_35 : decode cX6_endAt 35 = .ok (.iload 5, 2) := by decide +kernel
theorem dX6_endAt_37 : decode cX6_endAt 37 = .ok (.goto 5, 3) := by decide +kernel
theorem dX6_endAt_40 : decode cX6_endAt 40 = .ok (.iload 4, 2) := by decide +kernel
theorem dX6_endAt_42 : decode cX6_endAt 42 = .ok (.istore 4, 2) := by decide +kernel
theorem dX6_endAt_44 : decode cX6_endAt 44 = .ok (.iinc 3 (-1), 3) := by decide +kernel
theorem dX6_endAt_47 : decode cX6_endAt 47 = .ok (.iinc 5 1, 3) := by decide +kernel
theorem dX6_endAt_50 : decode cX6_endAt 50 = .ok (.goto (-42), 3) := by decide +kernel
theorem dX6_endAt_53 : decode cX6_endAt 53 = .ok (.iload 4, 2) := by decide +kernel
theorem dX6_endAt_55 : decode cX6_endAt 55 = .ok (.ireturn, 1) := by decide +kernel
set_option maxRecDepth 20000 in
theorem ggX6_isEndIndex_X6_isVertex : GoodIn wsX6_isEndIndex wsX6_isVertex := goodIn_r _ [5, 6, 7, 8, 4, 9, 22, 23, 24, 25, 26, 27, 28, 29, 30, 31, 32, 33, 34, 35, 36] (by decide +kernel) (by decide +kernel)
set_option maxRecDepth 20000 in
theorem gX6_isEndIndex_X6_isVertex : GoodIn wsX6_isEndIndex (wsV RX6 68 RX6 yX6_isVertex wsX6_isVertex) := goodIn_app (goodIn_of _ (by decide +kernel)) ggX6_isEndIndex_X6_isVertex
set_option maxRecDepth 20000 in
theorem ggX6_isEndIndex_X6_degreeOf : GoodIn wsX6_isEndIndex wsX6_degreeOf := goodIn_r _ [13, 6, 14, 15, 16, 4, 17, 18, 19, 20, 21, 22, 23, 24, 25, 26, 27, 28, 29, 30, 31, 32, 33, 34, 35, 36] (by decide +kernel) (by decide +kernel)
set_option maxRecDepth 20000 in
theorem gX6_isEndIndex_X6_degreeOf : GoodIn wsX6_isEndIndex (wsV RX6 87 RX6 yX6_degreeOf wsX6_degreeOf) := goodIn_app (goodIn_of _ (by decide +kernel)) ggX6_isEndIndex_X6_degreeOf
set_option maxRecDepth 20000 in
theorem ggX6_isEndIndex_X6_in : GoodIn wsX6_isEndIndex wsX6_in := goodIn_r _ [9] (by decide +kernel) (by decide +kernel)
set_option maxRecDepth 20000 in
theorem gX6_isEndIndex_X6_in : GoodIn wsX6_isEndIndex (va_wsS RX6 53 yX6_in wsX6_in) := goodIn_app (goodIn_of _ (by decide +kernel)) ggX6_isEndIndex_X6_in
theorem dX6_isEndIndex_0 : decode cX6_isEndIndex 0 = .ok (.aload_n 0, 1) := by decide +kernel
theorem dX6_isEndIndex_1 : decode cX6_isEndIndex 1 = .ok (.iload_n 1, 1) := by decide +kernel
theorem dX6_isEndIndex_2 : decode cX6_isEndIndex 2 = .ok (.invokevirtual 68, 3) := by decide +kernel
theorem dX6_isEndIndex_5 : decode cX6_isEndIndex 5 = .ok (.ifCond .eq 22, 3) := by decide +kernel
theorem dX6_isEndIndex_8 : decode cX6_isEndIndex 8 = .ok (.iload_n 2, 1) := by decide +kernel
theorem dX6_isEndIndex_9 : decode cX6_isEndIndex 9 = .ok (.iconst 0, 1) := by decide +kernel
theorem dX6_isEndIndex_10 : decode cX6_isEndIndex 10 = .ok (.aload_n 0, 1) := by decide +kernel
theorem dX6_isEndIndex_11 : decode cX6_isEndIndex 11 = .ok (.iload_n 1, 1) := by decide +kernel
theorem dX6_isEndIndex_12 : decode cX6_isEndIndex 12 = .ok (.invokevirtual 87, 3) := by decide +kernel
theorem dX6_isEndIndex_15 : decode cX6_isEndIndex 15 = .ok (.iconst 1, 1) := by decide +kernel
theorem dX6_isEndIndex_16 : decode cX6_isEndIndex 16 = .ok (.isub, 1) := by decide +kernel
theorem dX6_isEndIndex_17 : decode cX6_isEndIndex 17 = .ok (.invokestatic 53, 3) := by decide +kernel
theorem dX6_isEndIndex_20 : decode cX6_isEndIndex 20 = .ok (.ifCond .eq 7, 3) := by decide +kernel
theorem dX6_isEndIndex_23 : decode cX6_isEndIndex 23 = .ok (.iconst 1, 1) := by decide +kernel
theorem dX6_isEndIndex_24 : decode cX6_isEndIndex 24 = .ok (.goto 4, 3) := by decide +kernel
theorem dX6_isEndIndex_27 : decode cX6_isEndIndex 27 = .ok (.iconst 0, 1) := by decide +kernel
theorem dX6_isEndIndex_28 : decode cX6_isEndIndex 28 = .ok (.ireturn, 1) := by decide +kernel
set_option maxRecDepth 20000 in
theorem ggX6_degree_X6_isVertex : GoodIn wsX6_degree wsX6_isVertex := goodIn_r _ [5, 6, 7, 8, 4, 9, 27, 28, 29, 30, 31, 32, 33, 34, 35, 36, 37, 38, 39, 40, 41] (by decide +kernel) (by decide +kernel)
set_option maxRecDepth 20000 in
theorem gX6_degree_X6_isVertex : GoodIn wsX6_degree (wsV RX6 68 RX6 yX6_isVertex wsX6_isVertex) := goodIn_app (goodIn_of _ (by decide +kernel)) ggX6_degree_X6_isVertex
set_option maxRecDepth 20000 in
theorem ggX6_degree_X6_degreeOf : GoodIn wsX6_degree wsX6_degreeOf := goodIn_r _ [13, 6, 14, 15, 16, 4, 17, 18, 19, 20, 21, 27, 28, 29, 30, 31, 32, 33, 34, 35, 36, 37, 38, 39, 40, 41] (by decide +kernel) (by decide +kernel)
set_option maxRecDepth 20000 in
theorem gX6_degree_X6_degreeOf : GoodIn wsX6_degree (wsV RX6 87 RX6 yX6_degreeOf wsX6_degreeOf) := goodIn_app (goodIn_of _ (by decide +kernel)) ggX6_degree_X6_degreeOf
set_option maxRecDepth 20000 in
theorem ggX6_degree_X6_error : GoodIn wsX6_degree wsX6_error := goodIn_r _ [25, 26, 27, 28, 29, 30, 31, 32, 33, 34, 35, 36, 37, 38, 39, 40, 41] (by decide +kernel) (by decide +kernel)
set_option maxRecDepth 20000 in
theorem gX6_degree_X6_error : GoodIn wsX6_degree (wsV RX6 49 RX6 yX6_error wsX6_error) := goodIn_app (goodIn_of _ (by decide +kernel)) ggX6_degree_X6_error
theorem dX6_degree_0 : decode cX6_degree 0 = .ok (.aload_n 0, 1) := by decide +kernel
theorem dX6_degree_1 : decode cX6_degree 1 = .ok (.iload_n 1, 1) := by decide +kernel
theorem dX6_degree_2 : decode cX6_degree 2 = .ok (.invokevirtual 68, 3) := by decide +kernel
theorem dX6_degree_5 : decode cX6_degree 5 = .ok (.ifCond .eq 11, 3) := by decide +kernel
theorem dX6_degree_8 : decode cX6_degree 8 = .ok (.aload_n 0, 1) := by decide +kernel
theorem dX6_degree_9 : decode cX6_degree 9 = .ok (.iload_n 1, 1) := by decide +kernel
theorem dX6_degree_10 : decode cX6_degree 10 = .ok (.invokevirtual 87, 3) := by decide +kernel
theorem dX6_degree_13 : decode cX6_degree 13 = .ok (.goto 9, 3) := by decide +kernel
theorem dX6_degree_16 : decode cX6_degree 16 = .ok (.aload_n 0, 1) := by decide +kernel
theorem dX6_degree_17 : decode cX6_degree 17 = .ok (.bipush (-2), 2) := by decide +kernel
theorem dX6_degree_19 : decode cX6_degree 19 = .ok (.invokevirtual 49, 3) := by decide +kernel
theorem dX6_degree_22 : decode cX6_degree 22 = .ok (.ireturn, 1) := by decide +kernel
set_option maxRecDepth 20000 in
theorem ggX6_neighbour_X6_isEndIndex : GoodIn wsX6_neighbour wsX6_isEndIndex := goodIn_r _ [5, 6, 7, 8, 4, 9, 10, 11, 12, 13, 14, 15, 16, 17, 18, 19, 20, 21, 22, 23, 24, 25, 39, 40, 41, 42, 43, 44, 45, 46, 47, 48, 49, 50, 51, 52, 53] (by decide +kernel) (by decide +kernel)
set_option maxRecDepth 20000 in
theorem gX6_neighbour_X6_isEndIndex : GoodIn wsX6_neighbour (wsV RX6 90 RX6 yX6_isEndIndex wsX6_isEndIndex) := goodIn_app (goodIn_of _ (by decide +kernel)) ggX6_neighbour_X6_isEndIndex
set_option maxRecDepth 20000 in
theorem ggX6_neighbour_X6_endAt : GoodIn wsX6_neighbour wsX6_endAt := goodIn_r _ [29, 10, 18, 19, 20, 4, 21, 22, 23, 24, 25, 39, 40, 41, 42, 43, 44, 45, 46, 47, 48, 49, 50, 51, 52, 53] (by decide +kernel) (by decide +kernel)
set_option maxRecDepth 20000 in
theorem gX6_neighbour_X6_endAt : GoodIn wsX6_neighbour (wsV RX6 93 RX6 yX6_endAt wsX6_endAt) := goodIn_app (goodIn_of _ (by decide +kernel)) ggX6_neighbour_X6_endAt
set_option maxRecDepth 20000 in
theorem ggX6_neighbour_X6_leadsTo : GoodIn wsX6_neighbour wsX6_leadsTo := goodIn_r _ [33, 22, 23, 24, 4, 25, 10, 39, 40, 41, 42, 43, 44, 45, 46, 47, 48, 49, 50, 51, 52, 53] (by decide +kernel) (by decide +kernel)
set_option maxRecDepth 20000 in
theorem gX6_neighbour_X6_leadsTo : GoodIn wsX6_neighbour (wsV RX6 96 RX6 yX6_leadsTo wsX6_leadsTo) := goodIn_app (goodIn_of _ (by decide +kernel)) ggX6_neighbour_X6_leadsTo
set_option maxRecDepth 20000 in
theorem ggX6_neighbour_X6_error : GoodIn wsX6_neighbour wsX6_error := goodIn_r _ [37, 38, 39, 40, 41, 42, 43, 44, 45, 46, 47, 48, 49, 50, 51, 52, 53] (by decide +kernel) (by decide +kernel)
set_option maxRecDepth 20000 in
theorem gX6_neighbour_X6_error : GoodIn wsX6_neighbour (wsV RX6 49 RX6 yX6_error wsX6_error) := goodIn_app (goodIn_of _ (by decide +kernel)) ggX6_neighbour_X6_error
theorem dX6_neighbour_0 : decode cX6_neighbour 0 = .ok (.aload_n 0, 1) := by decide +kernel
theorem dX6_neighbour_1 : decode cX6_neighbour 1 = .ok (.iload_n 1, 1) := by decide +kernel
theorem dX6_neighbour_2 : decode cX6_neighbour 2 = .ok (.iload_n 2, 1) := by decide +kernel
theorem dX6_neighbour_3 : decode cX6_neighbour 3 = .ok (.invokevirtual 90, 3) := by decide +kernel
theorem dX6_neighbour_6 : decode cX6_neighbour 6 = .ok (.ifCond .eq 16, 3) := by decide +kernel
theorem dX6_neighbour_9 : decode cX6_neighbour 9 = .ok (.aload_n 0, 1) := by decide +kernel
theorem dX6_neighbour_10 : decode cX6_neighbour 10 = .ok (.aload_n 0, 1) := by decide +kernel
theorem dX6_neighbour_11 : decode cX6_neighbour 11 = .ok (.iload_n 1, 1) := by decide +kernel
theorem dX6_neighbour_12 : decode cX6_neighbour 12 = .ok (.iload_n 2, 1) := by decide +kernel
theorem dX6_neighbour_13 : decode cX6_neighbour 13 = .ok (.invokevirtual 93, 3) := by decide +kernel
theorem dX6_neighbour_16 : decode cX6_neighbour 16 = .ok (.invokevirtual 96, 3) := by decide +kernel
theorem dX6_neighbour_19 : decode cX6_neighbour 19 = .ok (.goto 9, 3) := by decide +kernel
theorem dX6_neighbour_22 : decode cX6_neighbour 22 = .ok (.aload_n 0, 1) := by decide +kernel
theorem dX6_neighbour_23 : decode cX6_neighbour 23 = .ok (.bipush (-2), 2) := by decide +kernel
theorem dX6_neighbour_25 : decode cX6_neighbour 25 = .ok (.invokevirtual 49, 3) := by decide +kernel
theorem dX6_neighbour_28 : decode cX6_neighbour 28 = .ok (.ireturn, 1) := by decide +kernel
theorem dX6_node_0 : decode cX6_node 0 = .ok (.iload_n 0, 1) := by decide +kernel
theorem dX6_node_1 : decode cX6_node 1 = .ok (.bipush 33, 2) := by decide +kernel
theorem dX6_node_3 : decode cX6_node 3 = .ok (.imul, 1) := by decide +kernel
theorem dX6_node_4 : decode cX6_node 4 = .ok (.iload_n 1, 1) := by decide +kernel
theorem dX6_node_5 : decode cX6_node 5 = .ok (.iadd, 1) := by decide +kernel
theorem dX6_node_6 : decode cX6_node 6 = .ok (.bipush 16, 2) := by decide +kernel
theorem dX6_node_8 : decode cX6_node 8 = .ok (.iadd, 1) := by decide +kernel
theorem dX6_node_9 : decode cX6_node 9 = .ok (.bipush 33, 2) := by decide +kernel
theorem dX6_node_11 : decode cX6_node 11 = .ok (.imul, 1) := by decide +kernel
theorem dX6_node_12 : decode cX6_node 12 = .ok (.iload_n 2, 1) := by decide +kernel
theorem dX6_node_13 : decode cX6_node 13 = .ok (.iadd, 1) := by decide +kernel
theorem dX6_node_14 : decode cX6_node 14 = .ok (.bipush 16, 2) := by decide +kernel
theorem dX6_node_16 : decode cX6_node 16 = .ok (.iadd, 1) := by decide +kernel
theorem dX6_node_17 : decode cX6_node 17 = .ok (.ireturn, 1) := by decide +kernel
theorem dX6_reach_0 : decode cX6_reach 0 = .ok (.aload_n 0, 1) := by decide +kernel
theorem dX6_reach_1 : decode cX6_reach 1 = .ok (.getfield 22, 3) := by decide +kernel
theorem dX6_reach_4 : decode cX6_reach 4 = .ok (.iload_n 1, 1) := by decide +kernel
theorem dX6_reach_5 : decode cX6_reach 5 = .ok (.iaload, 1) := by decide +kernel
theorem dX6_reach_6 : decode cX6_reach 6 = .ok (.iconst (-1), 1) := by decide +kernel
theorem dX6_reach_7 : decode cX6_reach 7 = .ok (.if_icmp .ne 30, 3) := by decide +kernel
theorem dX6_reach_10 : decode cX6_reach 10 = .ok (.aload_n 0, 1) := by decide +kernel
theorem dX6_reach_11 : decode cX6_reach 11 = .ok (.getfield 22, 3) := by decide +kernel
theorem dX6_reach_14 : decode cX6_reach 14 = .ok (.iload_n 1, 1) := by decide +kernel
theorem dX6_reach_15 : decode cX6_reach 15 = .ok (.iload_n 2, 1) := by decide +kernel
theorem dX6_reach_16 : decode cX6_reach 16 = .ok (.iastore, 1) := by decide +kernel
theorem dX6_reach_17 : decode cX6_reach 17 = .ok (.aload_n 0, 1) := by decide +kernel
theorem dX6_reach_18 : decode cX6_reach 18 = .ok (.getfield 25, 3) := by decide +kernel
theorem dX6_reach_21 : decode cX6_reach 21 = .ok (.aload_n 0, 1) := by decide +kernel
theorem dX6_reach_22 : decode cX6_reach 22 = .ok (.getfield 99, 3) := by decide +kernel
theorem dX6_reach_25 : decode cX6_reach 25 = .ok (.iload_n 1, 1) := by decide +kernel
theorem dX6_reach_26 : decode cX6_reach 26 = .ok (.iastore, 1) := by decide +kernel
theorem dX6_reach_27 : decode cX6_reach 27 = .ok (.aload_n 0, 1) := by decide +kernel
theorem dX6_reach_28 : decode cX6_reach 28 = .ok (.dup, 1) := by decide +kernel
theorem dX6_reach_29 : decode cX6_reach 29 = .ok (.getfield 99, 3) := by decide +kernel
theorem dX6_reach_32 : decode cX6_reach 32 = .ok (.iconst 1, 1) := by decide +kernel
theorem dX6_reach_33 : decode cX6_reach 33 = .ok (.iadd, 1) := by decide +kernel
theorem dX6_reach_34 : decode cX6_reach 34 = .ok (.putfield 99, 3) := by decide +kernel
theorem dX6_reach_37 : decode cX6_reach 37 = .ok (.return_, 1) := by decide +kernel
set_option maxRecDepth 20000 in
theorem ggX6_search_X6_reach : GoodIn wsX6_search wsX6_reach := goodIn_r _ [9, 1, 3, 2, 36, 37, 38, 39, 40, 41, 42, 43, 44, 45, 46, 47, 48, 49, 50] (by decide +kernel) (by decide +kernel)
set_option maxRecDepth 20000 in
theorem gX6_search_X6_reach : GoodIn wsX6_search (wsV RX6 102 RX6 yX6_reach wsX6_reach) := goodIn_app (goodIn_of _ (by decide +kernel)) ggX6_search_X6_reach
set_option maxRecDepth 20000 in
theorem ggX6_search_X6_endX : GoodIn wsX6_search wsX6_endX := goodIn_r _ [13, 14, 15, 16, 8, 17, 4, 36, 37, 38, 39, 40, 41, 42, 43, 44, 45, 46, 47, 48, 49, 50] (by decide +kernel) (by decide +kernel)
set_option maxRecDepth 20000 in
theorem gX6_search_X6_endX : GoodIn wsX6_search (wsV RX6 106 RX6 yX6_endX wsX6_endX) := goodIn_app (goodIn_of _ (by decide +kernel)) ggX6_search_X6_endX
set_option maxRecDepth 20000 in
theorem ggX6_search_X6_endY : GoodIn wsX6_search wsX6_endY := goodIn_r _ [21, 14, 15, 16, 8, 17, 4, 36, 37, 38, 39, 40, 41, 42, 43, 44, 45, 46, 47, 48, 49, 50] (by decide +kernel) (by decide +kernel)
set_option maxRecDepth 20000 in
theorem gX6_search_X6_endY : GoodIn wsX6_search (wsV RX6 109 RX6 yX6_endY wsX6_endY) := goodIn_app (goodIn_of _ (by decide +kernel)) ggX6_search_X6_endY
set_option maxRecDepth 20000 in
theorem ggX6_search_X6_isEndOf : GoodIn wsX6_search wsX6_isEndOf := goodIn_r _ [25, 14, 15, 16, 8, 17, 4, 36, 37, 38, 39, 40, 41, 42, 43, 44, 45, 46, 47, 48, 49, 50] (by decide +kernel) (by decide +kernel)
set_option maxRecDepth 20000 in
theorem gX6_search_X6_isEndOf : GoodIn wsX6_search (wsV RX6 84 RX6 yX6_isEndOf wsX6_isEndOf) := goodIn_app (goodIn_of _ (by decide +kernel)) ggX6_search_X6_isEndOf
set_option maxRecDepth 20000 in
theorem ggX6_search_X6_in : GoodIn wsX6_search wsX6_in := goodIn_r _ [28] (by decide +kernel) (by decide +kernel)
set_option maxRecDepth 20000 in
theorem gX6_search_X6_in : GoodIn wsX6_search (va_wsS RX6 53 yX6_in wsX6_in) := goodIn_app (goodIn_of _ (by decide +kernel)) ggX6_search_X6_in
set_option maxRecDepth 20000 in
theorem ggX6_search_X6_leadsTo : GoodIn wsX6_search wsX6_leadsTo := goodIn_r _ [32, 14, 15, 16, 8, 17, 4, 36, 37, 38, 39, 40, 41, 42, 43, 44, 45, 46, 47, 48, 49, 50] (by decide +kernel) (by decide +kernel)
set_option maxRecDepth 20000 in
theorem gX6_search_X6_leadsTo : GoodIn wsX6_search (wsV RX6 96 RX6 yX6_leadsTo wsX6_leadsTo) := goodIn_app (goodIn_of _ (by decide +kernel)) ggX6_search_X6_leadsTo
set_option maxRecDepth 20000 in
theorem ggX6_search_X6_node : GoodIn wsX6_search wsX6_node := goodIn_r _ [35] (by decide +kernel) (by decide +kernel)
set_option maxRecDepth 20000 in
theorem gX6_search_X6_node : GoodIn wsX6_search (va_wsS RX6 112 yX6_node wsX6_node) := goodIn_app (goodIn_of _ (by decide +kernel)) ggX6_search_X6_node
theorem dX6_search_0 : decode cX6_search 0 = .ok (.iconst 0, 1) := by decide +kernel
theorem dX6_search_1 : decode cX6_search 1 = .ok (.istore 4, 2) := by decide +kernel
theorem dX6_search_3 : decode cX6_search 3 = .ok (.iload 4, 2) := by decide +kernel
theorem dX6_search_5 : decode cX6_search 5 = .ok (.sipush 6534, 3) := by decide +kernel
theorem dX6_search_8 : decode cX6_search 8 = .ok (.if_icmp .ge 17, 3) := by decide +kernel
theorem dX6_search_11 : decode cX6_search 11 = .ok (.aload_n 0, 1) := by decide +kernel
theorem dX6_search_12 : decode cX6_search 12 = .ok (.getfield 22, 3) := by decide +kernel
theorem dX6_search_15 : decode cX6_search 15 = .ok (.iload 4, 2) := by decide +kernel
theorem dX6_search_17 : decode cX6_search 17 = .ok (.iconst (-1), 1) := by decide +kernel
theorem dX6_search_18 : decode cX6_search 18 = .ok (.iastore, 1) := by decide +kernel
theorem dX6_search_19 : decode cX6_search 19 = .ok (.iinc 4 1, 3) := by decide +kernel
theorem dX6_search_22 : decode cX6_search 22 = .ok (.goto (-19), 3) := by decide +kernel
theorem dX6_search_25 : decode cX6_search 25 = .ok (.aload_n 0, 1) := by decide +kernel
theorem dX6_search_26 : decode cX6_search 26 = .ok (.iconst 0, 1) := by decide +kernel
theorem dX6_search_27 : decode cX6_search 27 = .ok (.putfield 99, 3) := by decide +kernel
theorem dX6_search_30 : decode cX6_search 30 = .ok (.aload_n 0, 1) := by decide +kernel
theorem dX6_search_31 : decode cX6_search 31 = .ok (.iload_n 1, 1) := by decide +kernel
theorem dX6_search_32 : decode cX6_search 32 = .ok (.iconst 0, 1) := by decide +kernel
theorem dX6_search_33 : decode cX6_search 33 = .ok (.invokevirtual 102, 3) := by decide +kernel
theorem dX6_search_36 : decode cX6_search 36 = .ok (.iconst 0, 1) := by decide +kernel
theorem dX6_search_37 : decode cX6_search 37 = .ok (.istore 4, 2) := by decide +kernel
theorem dX6_search_39 : decode cX6_search 39 = .ok (.iload 4, 2) := by decide +kernel
theorem dX6_search_41 : decode cX6_search 41 = .ok (.aload_n 0, 1) := by decide +kernel
theorem dX6_search_42 : decode cX6_search 42 = .ok (.getfield 99, 3) := by decide +kernel
theorem dX6_search_45 : decode cX6_search 45 = .ok (.if_icmp .ge 196, 3) := by decide +kernel
theorem dX6_search_48 : decode cX6_search 48 = .ok (.aload_n 0, 1) := by decide +kernel
theorem dX6_search_49 : decode cX6_search 49 = .ok (.getfield 22, 3) := by decide +kernel
theorem dX6_search_52 : decode cX6_search 52 = .ok (.aload_n 0, 1) := by decide +kernel
theorem dX6_search_53 : decode cX6_search 53 = .ok (.getfield 25, 3) := by decide +kernel
theorem dX6_search_56 : decode cX6_search 56 = .ok (.iload 4, 2) := by decide +kernel
theorem dX6_search_58 : decode cX6_search 58 = .ok (.iaload, 1) := by decide +kernel
theorem dX6_search_59 : decode cX6_search 59 = .ok (.iaload, 1) := by decide +kernel
theorem dX6_search_60 : decode cX6_search 60 = .ok (.iload_n 3, 1) := by decide +kernel
theorem dX6_search_61 : decode cX6_search 61 = .ok (.if_icmp .ge 180, 3) := by decide +kernel
theorem dX6_search_64 : decode cX6_search 64 = .ok (.aload_n 0, 1) := by decide +kernel
theorem dX6_search_65 : decode cX6_search 65 = .ok (.getfield 25, 3) := by decide +kernel
theorem dX6_search_68 : decode cX6_search 68 = .ok (.iload 4, 2) := by decide +kernel
theorem dX6_search_70 : decode cX6_search 70 = .ok (.iaload, 1) := by decide +kernel
theorem dX6_search_71 : decode cX6_search 71 = .ok (.istore 5, 2) := by decide +kernel
theorem dX6_search_73 : decode cX6_search 73 = .ok (.iload 5, 2) := by decide +kernel
theorem dX6_search_75 : decode cX6_search 75 = .ok (.sipush 1089, 3) := by decide +kernel
theorem dX6_search_78 : decode cX6_search 78 = .ok (.idiv, 1) := by decide +kernel
theorem dX6_search_79 : decode cX6_search 79 = .ok (.istore 6, 2) := by decide +kernel
theorem dX6_search_81 : decode cX6_search 81 = .ok (.iload 5, 2) := by decide +kernel
theorem dX6_search_83 : decode cX6_search 83 = .ok (.bipush 33, 2) := by decide +kernel
theorem dX6_search_85 : decode cX6_search 85 = .ok (.idiv, 1) := by decide +kernel
theorem dX6_search_86 : decode cX6_search 86 = .ok (.bipush 33, 2) := by decide +kernel
theorem dX6_search_88 : decode cX6_search 88 = .ok (.irem, 1) := by decide +kernel
theorem dX6_search_89 : decode cX6_search 89 = .ok (.bipush 16, 2) := by decide +kernel
theorem dX6_search_91 : decode cX6_search 91 = .ok (.isub, 1) := by decide +kernel
theorem dX6_search_92 : decode cX6_search 92 = .ok (.istore 7, 2) := by decide +kernel
theorem dX6_search_94 : decode cX6_search 94 = .ok (.iload 5, 2) := by decide +kernel
theorem dX6_search_96 : decode cX6_search 96 = .ok (.bipush 33, 2) := by decide +kernel
theorem dX6_search_98 : decode cX6_search 98 = .ok (.irem, 1) := by decide +kernel
theorem dX6_search_99 : decode cX6_search 99 = .ok (.bipush 16, 2) := by decide +kernel
theorem dX6_search_101 : decode cX6_search 101 = .ok (.isub, 1) := by decide +kernel
theorem dX6_search_102 : decode cX6_search 102 = .ok (.istore 8, 2) := by decide +kernel
theorem dX6_search_104 : decode cX6_search 104 = .ok (.iconst 0, 1) := by decide +kernel
theorem dX6_search_105 : decode cX6_search 105 = .ok (.istore 9, 2) := by decide +kernel
theorem dX6_search_107 : decode cX6_search 107 = .ok (.iload 9, 2) := by decide +kernel
theorem dX6_search_109 : decode cX6_search 109 = .ok (.iconst 2, 1) := by decide +kernel
theorem dX6_search_110 : decode cX6_search 110 = .ok (.aload_n 0, 1) := by decide +kernel
theorem dX6_search_111 : decode cX6_search 111 = .ok (.getfield 7, 3) := by decide +kernel
theorem dX6_search_114 : decode cX6_search 114 = .ok (.iconst 1, 1) := by decide +kernel
theorem dX6_search_115 : decode cX6_search 115 = .ok (.iaload, 1) := by decide +kernel
theorem dX6_search_116 : decode cX6_search 116 = .ok (.imul, 1) := by decide +kernel
theorem dX6_search_117 : decode cX6_search 117 = .ok (.if_icmp .ge 118, 3) := by decide +kernel
theorem dX6_search_120 : decode cX6_search 120 = .ok (.iload 7, 2) := by decide +kernel
theorem dX6_search_122 : decode cX6_search 122 = .ok (.aload_n 0, 1) := by decide +kernel
theorem dX6_search_123 : decode cX6_search 123 = .ok (.iload 9, 2) := by decide +kernel
theorem dX6_search_125 : decode cX6_search 125 = .ok (.invokevirtual 106, 3) := by decide +kernel
theorem dX6_search_128 : decode cX6_search 128 = .ok (.iadd, 1) := by decide +kernel
theorem dX6_search_129 : decode cX6_search 129 = .ok (.istore 10, 2) := by decide +kernel
theorem dX6_search_131 : decode cX6_search 131 = .ok (.iload 8, 2) := by decide +kernel
theorem dX6_search_133 : decode cX6_search 133 = .ok (.aload_n 0, 1) := by decide +kernel
theorem dX6_search_134 : decode cX6_search 134 = .ok (.iload 9, 2) := by decide +kernel
theorem dX6_search_136 : decode cX6_search 136 = .ok (.invokevirtual 109, 3) := by decide +kernel
theorem dX6_search_139 : decode cX6_search 139 = .ok (.iadd, 1) := by decide +kernel
theorem dX6_search_140 : decode cX6_search 140 = .ok (.istore 11, 2) := by decide +kernel
theorem dX6_search_142 : decode cX6_search 142 = .ok (.aload_n 0, 1) := by decide +kernel
theorem dX6_search_143 : decode cX6_search 143 = .ok (.iload 9, 2) := by decide +kernel
theorem dX6_search_145 : decode cX6_search 145 = .ok (.iload 6, 2) := by decide +kernel
theorem dX6_search_147 : decode cX6_search 147 = .ok (.invokevirtual 84, 3) := by decide +kernel
theorem dX6_search_150 : decode cX6_search 150 = .ok (.ifCond .eq 31, 3) := by decide +kernel
theorem dX6_search_153 : decode cX6_search 153 = .ok (.iload 10, 2) := by decide +kernel
theorem dX6_search_155 : decode cX6_search 155 = .ok (.bipush (-16), 2) := by decide +kernel
theorem dX6_search_157 : decode cX6_search 157 = .ok (.bipush 16, 2) := by decide +kernel
theorem dX6_search_159 : decode cX6_search 159 = .ok (.invokestatic 53, 3) := by decide +kernel
theorem dX6_search_162 : decode cX6_search 162 = .ok (.ifCond .eq 19, 3) := by decide +kernel
theorem dX6_search_165 : decode cX6_search 165 = .ok (.iload 11, 2) := by decide +kernel
theorem dX6_search_167 : decode cX6_search 167 = .ok (.bipush (-16), 2) := by decide +kernel
theorem dX6_search_169 : decode cX6_search 169 = .ok (.bipush 16, 2) := by decide +kernel
theorem dX6_search_171 : decode cX6_search 171 = .ok (.invokestatic 53, 3) := by decide +kernel
theorem dX6_search_174 : decode cX6_search 174 = .ok (.ifCond .eq 7, 3) := by decide +kernel
theorem dX6_search_177 : decode cX6_search 177 = .ok (.iconst 1, 1) := by decide +kernel
theorem dX6_search_178 : decode cX6_search 178 = .ok (.goto 4, 3) := by decide +kernel
theorem dX6_search_181 : decode cX6_search 181 = .ok (.iconst 0, 1) := by decide +kernel
theorem dX6_search_182 : decode cX6_search 182 = .ok (.istore 12, 2) := by decide +kernel
theorem dX6_search_184 : decode cX6_search 184 = .ok (.iload 12, 2) := by decide +kernel
theorem dX6_search_186 : decode cX6_search 186 = .ok (.ifCond .eq 19, 3) := by decide +kernel
theorem dX6_search_189 : decode cX6_search 189 = .ok (.aload_n 0, 1) := by decide +kernel
theorem dX6_search_190 : decode cX6_search 190 = .ok (.iload 9, 2) := by decide +kernel
theorem dX6_search_192 : decode cX6_search 192 = .ok (.invokevirtual 96, 3) := by decide +kernel
theorem dX6_search_195 : decode cX6_search 195 = .ok (.iload 10, 2) := by decide +kernel
theorem dX6_search_197 : decode cX6_search 197 = .ok (.iload 11, 2) := by decide +kernel
theorem dX6_search_199 : decode cX6_search 199 = .ok (.invokestatic 112, 3) := by decide +kernel
theorem dX6_search_202 : decode cX6_search 202 = .ok (.goto 4, 3) := by decide +kernel
theorem dX6_search_205 : decode cX6_search 205 = .ok (.iload_n 2, 1) := by decide +kernel
theorem dX6_search_206 : decode cX6_search 206 = .ok (.istore 13, 2) := by decide +kernel
theorem dX6_search_208 : decode cX6_search 208 = .ok (.iload 13, 2) := by decide +kernel
theorem dX6_search_210 : decode cX6_search 210 = .ok (.iload_n 2, 1) := by decide +kernel
theorem dX6_search_211 : decode cX6_search 211 = .ok (.if_icmp .eq 18, 3) := by decide +kernel
theorem dX6_search_214 : decode cX6_search 214 = .ok (.aload_n 0, 1) := by decide +kernel
theorem dX6_search_215 : decode cX6_search 215 = .ok (.iload 13, 2) := by decide +kernel
theorem dX6_search_217 : decode cX6_search 217 = .ok (.aload_n 0, 1) := by decide +kernel
theorem dX6_search_218 : decode cX6_search 218 = .ok (.getfield 22, 3) := by decide +kernel
theorem dX6_search_221 : decode cX6_search 221 = .ok (.iload 5, 2) := by decide +kernel
theorem dX6_search_223 : decode cX6_search 223 = .ok (.iaload, 1) := by decide +kernel
theorem dX6_search_224 : decode cX6_search 224 = .ok (.iconst 1, 1) := by decide +kernel
theorem dX6_search_225 : decode cX6_search 225 = .ok (.iadd, 1) := by decide +kernel
theorem dX6_search_226 : decode cX6_search 226 = .ok (.invokevirtual 102, 3) := by decide +kernel
theorem dX6_search_229 : decode cX6_search 229 = .ok (.iinc 9 1, 3) := by decide +kernel
theorem dX6_search_232 : decode cX6_search 232 = .ok (.goto (-125), 3) := by decide +kernel
theorem dX6_search_235 : decode cX6_search 235 = .ok (.iinc 4 1, 3) := by decide +kernel
theorem dX6_search_238 : decode cX6_search 238 = .ok (.goto (-199), 3) := by decide +kernel
theorem dX6_search_241 : decode cX6_search 241 = .ok (.return_, 1) := by decide +kernel
theorem dX6_countAt_0 : decode cX6_countAt 0 = .ok (.iconst 0, 1) := by decide +kernel
theorem dX6_countAt_1 : decode cX6_countAt 1 = .ok (.istore_n 2, 1) := by decide +kernel
theorem dX6_countAt_2 : decode cX6_countAt 2 = .ok (.iconst 0, 1) := by decide +kernel
theorem dX6_countAt_3 : decode cX6_countAt 3 = .ok (.istore_n 3, 1) := by decide +kernel
theorem dX6_countAt_4 : decode cX6_countAt 4 = .ok (.iload_n 3, 1) := by decide +kernel
theorem dX6_countAt_5 : decode cX6_countAt 5 = .ok (.aload_n 0, 1) := by decide +kernel
theorem dX6_countAt_6 : decode cX6_countAt 6 = .ok (.getfield 99, 3) := by decide +kernel
theorem dX6_countAt_9 : decode cX6_countAt 9 = .ok (.if_icmp .ge 32, 3) := by decide +kernel
theorem dX6_countAt_12 : decode cX6_countAt 12 = .ok (.iload_n 2, 1) := by decide +kernel
theorem dX6_countAt_13 : decode cX6_countAt 13 = .ok (.aload_n 0, 1) := by decide +kernel
theorem dX6_countAt_14 : decode cX6_countAt 14 = .ok (.getfield 22, 3) := by decide +kernel
theorem dX6_countAt_17 : decode cX6_countAt 17 = .ok (.aload_n 0, 1) := by decide +kernel
theorem dX6_countAt_18 : decode cX6_countAt 18 = .ok (.getfield 25, 3) := by decide +kernel
theorem dX6_countAt_21 : decode cX6_countAt 21 = .ok (.iload_n 3, 1) := by decide +kernel
theorem dX6_countAt_22 : decode cX6_countAt 22 = .ok (.iaload, 1) := by decide +kernel
theorem dX6_countAt_23 : decode cX6_countAt 23 = .ok (.iaload, 1) := by decide +kernel
theorem dX6_countAt_24 : decode cX6_countAt 24 = .ok (.iload_n 1, 1) := by decide +kernel
theorem dX6_countAt_25 : decode cX6_countAt 25 = .ok (.if_icmp .ne 7, 3) := by decide +kernel
theorem dX6_countAt_28 : decode cX6_countAt 28 = .ok (.iconst 1, 1) := by decide +kernel
theorem dX6_countAt_29 : decode cX6_countAt 29 = .ok (.goto 4, 3) := by decide +kernel
theorem dX6_countAt_32 : decode cX6_countAt 32 = .ok (.iconst 0, 1) := by decide +kernel
theorem dX6_countAt_33 : decode cX6_countAt 33 = .ok (.iadd, 1) := by decide +kernel
theorem dX6_countAt_34 : decode cX6_countAt 34 = .ok (.istore_n 2, 1) := by decide +kernel
theorem dX6_countAt_35 : decode cX6_countAt 35 = .ok (.iinc 3 1, 3) := by decide +kernel
theorem dX6_countAt_38 : decode cX6_countAt 38 = .ok (.goto (-34), 3) := by decide +kernel
theorem dX6_countAt_41 : decode cX6_countAt 41 = .ok (.iload_n 2, 1) := by decide +kernel
theorem dX6_countAt_42 : decode cX6_countAt 42 = .ok (.ireturn, 1) := by decide +kernel
set_option maxRecDepth 20000 in
theorem ggX6_coordination_X6_isVertex : GoodIn wsX6_coordination wsX6_isVertex := goodIn_r _ [5, 6, 7, 8, 4, 9, 53, 54, 55, 56, 57, 58, 59, 60, 61, 62, 63, 64, 65, 66, 67] (by decide +kernel) (by decide +kernel)
set_option maxRecDepth 20000 in
theorem gX6_coordination_X6_isVertex : GoodIn wsX6_coordination (wsV RX6 68 RX6 yX6_isVertex wsX6_isVertex) := goodIn_app (goodIn_of _ (by decide +kernel)) ggX6_coordination_X6_isVertex
set_option maxRecDepth 20000 in
theorem ggX6_coordination_X6_in : GoodIn wsX6_coordination wsX6_in := goodIn_r _ [9] (by decide +kernel) (by decide +kernel)
set_option maxRecDepth 20000 in
theorem gX6_coordination_X6_in : GoodIn wsX6_coordination (va_wsS RX6 53 yX6_in wsX6_in) := goodIn_app (goodIn_of _ (by decide +kernel)) ggX6_coordination_X6_in
set_option maxRecDepth 20000 in
theorem ggX6_coordination_X6_error : GoodIn wsX6_coordination wsX6_error := goodIn_r _ [13, 14, 53, 54, 55, 56, 57, 58, 59, 60, 61, 62, 63, 64, 65, 66, 67] (by decide +kernel) (by decide +kernel)
set_option maxRecDepth 20000 in
theorem gX6_coordination_X6_error : GoodIn wsX6_coordination (wsV RX6 49 RX6 yX6_error wsX6_error) := goodIn_app (goodIn_of _ (by decide +kernel)) ggX6_coordination_X6_error
set_option maxRecDepth 20000 in
theorem ggX6_coordination_X6_node : GoodIn wsX6_coordination wsX6_node := goodIn_r _ [17] (by decide +kernel) (by decide +kernel)
set_option maxRecDepth 20000 in
theorem gX6_coordination_X6_node : GoodIn wsX6_coordination (va_wsS RX6 112 yX6_node wsX6_node) := goodIn_app (goodIn_of _ (by decide +kernel)) ggX6_coordination_X6_node
set_option maxRecDepth 20000 in
theorem ggX6_coordination_X6_search : GoodIn wsX6_coordination wsX6_search := goodIn_r _ [21, 22, 23, 24, 6, 25, 26, 27, 4, 28, 29, 30, 31, 32, 33, 34, 35, 36, 37, 38, 39, 40, 41, 42, 43, 44, 7, 8, 9, 45, 46, 47, 48, 15, 16, 17, 53, 54, 55, 56, 57, 58, 59, 60, 61, 62, 63, 64, 65, 66, 67] (by decide +kernel) (by decide +kernel)
set_option maxRecDepth 20000 in
theorem gX6_coordination_X6_search : GoodIn wsX6_coordination (wsV RX6 116 RX6 yX6_search wsX6_search) := goodIn_app (goodIn_of _ (by decide +kernel)) ggX6_coordination_X6_search
set_option maxRecDepth 20000 in
theorem ggX6_coordination_X6_countAt : GoodIn wsX6_coordination wsX6_countAt := goodIn_r _ [52, 23, 22, 24, 53, 54, 55, 56, 57, 58, 59, 60, 61, 62, 63, 64, 65, 66, 67] (by decide +kernel) (by decide +kernel)
set_option maxRecDepth 20000 in
theorem gX6_coordination_X6_countAt : GoodIn wsX6_coordination (wsV RX6 120 RX6 yX6_countAt wsX6_countAt) := goodIn_app (goodIn_of _ (by decide +kernel)) ggX6_coordination_X6_countAt
theorem dX6_coordination_0 : decode cX6_coordination 0 = .ok (.aload_n 0, 1) := by decide +kernel
theorem dX6_coordination_1 : decode cX6_coordination 1 = .ok (.iload_n 1, 1) := by decide +kernel
theorem dX6_coordination_2 : decode cX6_coordination 2 = .ok (.invokevirtual 68, 3) := by decide +kernel
theorem dX6_coordination_5 : decode cX6_coordination 5 = .ok (.ifCond .eq 13, 3) := by decide +kernel
theorem dX6_coordination_8 : decode cX6_coordination 8 = .ok (.iload_n 2, 1) := by decide +kernel
theorem dX6_coordination_9 : decode cX6_coordination 9 = .ok (.iconst 0, 1) := by decide +kernel
theorem dX6_coordination_10 : decode cX6_coordination 10 = .ok (.bipush 8, 2) := by decide +kernel
theorem dX6_coordination_12 : decode cX6_coordination 12 = .ok (.invokestatic 53, 3) := by decide +kernel
theorem dX6_coordination_15 : decode cX6_coordination 15 = .ok (.ifCond .ne 10, 3) := by decide +kernel
theorem dX6_coordination_18 : decode cX6_coordination 18 = .ok (.aload_n 0, 1) := by decide +kernel
theorem dX6_coordination_19 : decode cX6_coordination 19 = .ok (.bipush (-2), 2) := by decide +kernel
theorem dX6_coordination_21 : decode cX6_coordination 21 = .ok (.invokevirtual 49, 3) := by decide +kernel
theorem dX6_coordination_24 : decode cX6_coordination 24 = .ok (.ireturn, 1) := by decide +kernel
theorem dX6_coordination_25 : decode cX6_coordination 25 = .ok (.aload_n 0, 1) := by decide +kernel
theorem dX6_coordination_26 : decode cX6_coordination 26 = .ok (.iload_n 1, 1) := by decide +kernel
theorem dX6_coordination_27 : decode cX6_coordination 27 = .ok (.iconst 0, 1) := by decide +kernel
theorem dX6_coordination_28 : decode cX6_coordination 28 = .ok (.iconst 0, 1) := by decide +kernel
theorem dX6_coordination_29 : decode cX6_coordination 29 = .ok (.invokestatic 112, 3) := by decide +kernel
theorem dX6_coordination_32 : decode cX6_coordination 32 = .ok (.iconst (-1), 1) := by decide +kernel
theorem dX6_coordination_33 : decode cX6_coordination 33 = .ok (.iload_n 2, 1) := by decide +kernel
theorem dX6_coordination_34 : decode cX6_coordination 34 = .ok (.invokevirtual 116, 3) := by decide +kernel
theorem dX6_coordination_37 : decode cX6_coordination 37 = .ok (.aload_n 0, 1) := by decide +kernel
theorem dX6_coordination_38 : decode cX6_coordination 38 = .ok (.iload_n 2, 1) := by decide +kernel
theorem dX6_coordination_39 : decode cX6_coordination 39 = .ok (.invokevirtual 120, 3) := by decide +kernel
theorem dX6_coordination_42 : decode cX6_coordination 42 = .ok (.ireturn, 1) := by decide +kernel
set_option maxRecDepth 20000 in
theorem ggX6_distance_X6_isVertex : GoodIn wsX6_distance wsX6_isVertex := goodIn_r _ [6, 7, 8, 9, 5, 10, 49, 50, 51, 52, 53, 54, 55, 56, 57, 58, 59, 60, 61, 62, 63] (by decide +kernel) (by decide +kernel)
set_option maxRecDepth 20000 in
theorem gX6_distance_X6_isVertex : GoodIn wsX6_distance (wsV RX6 68 RX6 yX6_isVertex wsX6_isVertex) := goodIn_app (goodIn_of _ (by decide +kernel)) ggX6_distance_X6_isVertex
set_option maxRecDepth 20000 in
theorem ggX6_distance_X6_in : GoodIn wsX6_distance wsX6_in := goodIn_r _ [10] (by decide +kernel) (by decide +kernel)
set_option maxRecDepth 20000 in
theorem gX6_distance_X6_in : GoodIn wsX6_distance (va_wsS RX6 53 yX6_in wsX6_in) := goodIn_app (goodIn_of _ (by decide +kernel)) ggX6_distance_X6_in
set_option maxRecDepth 20000 in
theorem ggX6_distance_X6_error : GoodIn wsX6_distance wsX6_error := goodIn_r _ [14, 15, 49, 50, 51, 52, 53, 54, 55, 56, 57, 58, 59, 60, 61, 62, 63] (by decide +kernel) (by decide +kernel)
set_option maxRecDepth 20000 in
theorem gX6_distance_X6_error : GoodIn wsX6_distance (wsV RX6 49 RX6 yX6_error wsX6_error) := goodIn_app (goodIn_of _ (by decide +kernel)) ggX6_distance_X6_error
set_option maxRecDepth 20000 in
theorem ggX6_distance_X6_node : GoodIn wsX6_distance wsX6_node := goodIn_r _ [18] (by decide +kernel) (by decide +kernel)
set_option maxRecDepth 20000 in
theorem gX6_distance_X6_node : GoodIn wsX6_distance (va_wsS RX6 112 yX6_node wsX6_node) := goodIn_app (goodIn_of _ (by decide +kernel)) ggX6_distance_X6_node
set_option maxRecDepth 20000 in
theorem ggX6_distance_X6_search : GoodIn wsX6_distance wsX6_search := goodIn_r _ [22, 1, 23, 24, 7, 25, 26, 27, 5, 28, 29, 30, 31, 32, 33, 34, 35, 36, 37, 38, 39, 40, 41, 42, 43, 44, 8, 9, 10, 45, 46, 47, 48, 16, 17, 18, 49, 50, 51, 52, 53, 54, 55, 56, 57, 58, 59, 60, 61, 62, 63] (by decide +kernel) (by decide +kernel)
set_option maxRecDepth 20000 in
theorem gX6_distance_X6_search : GoodIn wsX6_distance (wsV RX6 116 RX6 yX6_search wsX6_search) := goodIn_app (goodIn_of _ (by decide +kernel)) ggX6_distance_X6_search
theorem dX6_distance_0 : decode cX6_distance 0 = .ok (.aload_n 0, 1) := by decide +kernel
theorem dX6_distance_1 : decode cX6_distance 1 = .ok (.iload_n 1, 1) := by decide +kernel
theorem dX6_distance_2 : decode cX6_distance 2 = .ok (.invokevirtual 68, 3) := by decide +kernel
theorem dX6_distance_5 : decode cX6_distance 5 = .ok (.ifCond .eq 34, 3) := by decide +kernel
theorem dX6_distance_8 : decode cX6_distance 8 = .ok (.aload_n 0, 1) := by decide +kernel
theorem dX6_distance_9 : decode cX6_distance 9 = .ok (.iload_n 2, 1) := by decide +kernel
theorem dX6_distance_10 : decode cX6_distance 10 = .ok (.invokevirtual 68, 3) := by decide +kernel
theorem dX6_distance_13 : decode cX6_distance 13 = .ok (.ifCond .eq 26, 3) := by decide +kernel
theorem dX6_distance_16 : decode cX6_distance 16 = .ok (.iload_n 3, 1) := by decide +kernel
theorem dX6_distance_17 : decode cX6_distance 17 = .ok (.bipush (-8), 2) := by decide +kernel
theorem dX6_distance_19 : decode cX6_distance 19 = .ok (.bipush 8, 2) := by decide +kernel
theorem dX6_distance_21 : decode cX6_distance 21 = .ok (.invokestatic 53, 3) := by decide +kernel
theorem dX6_distance_24 : decode cX6_distance 24 = .ok (.ifCond .eq 15, 3) := by decide +kernel
theorem dX6_distance_27 : decode cX6_distance 27 = .ok (.iload 4, 2) := by decide +kernel
theorem dX6_distance_29 : decode cX6_distance 29 = .ok (.bipush (-8), 2) := by decide +kernel
theorem dX6_distance_31 : decode cX6_distance 31 = .ok (.bipush 8, 2) := by decide +kernel
theorem dX6_distance_33 : decode cX6_distance 33 = .ok (.invokestatic 53, 3) := by decide +kernel
theorem dX6_distance_36 : decode cX6_distance 36 = .ok (.ifCond .ne 10, 3) := by decide +kernel
theorem dX6_distance_39 : decode cX6_distance 39 = .ok (.aload_n 0, 1) := by decide +kernel
theorem dX6_distance_40 : decode cX6_distance 40 = .ok (.bipush (-2), 2) := by decide +kernel
theorem dX6_distance_42 : decode cX6_distance 42 = .ok (.invokevirtual 49, 3) := by decide +kernel
theorem dX6_distance_45 : decode cX6_distance 45 = .ok (.ireturn, 1) := by decide +kernel
theorem dX6_distance_46 : decode cX6_distance 46 = .ok (.aload_n 0, 1) := by decide +kernel
theorem dX6_distance_47 : decode cX6_distance 47 = .ok (.iload_n 1, 1) := by decide +kernel
theorem dX6_distance_48 : decode cX6_distance 48 = .ok (.iconst 0, 1) := by decide +kernel
theorem dX6_distance_49 : decode cX6_distance 49 = .ok (.iconst 0, 1) := by decide +kernel
theorem dX6_distance_50 : decode cX6_distance 50 = .ok (.invokestatic 112, 3) := by decide +kernel
theorem dX6_distance_53 : decode cX6_distance 53 = .ok (.iconst (-1), 1) := by decide +kernel
theorem dX6_distance_54 : decode cX6_distance 54 = .ok (.bipush 8, 2) := by decide +kernel
theorem dX6_distance_56 : decode cX6_distance 56 = .ok (.invokevirtual 116, 3) := by decide +kernel
theorem dX6_distance_59 : decode cX6_distance 59 = .ok (.aload_n 0, 1) := by decide +kernel
theorem dX6_distance_60 : decode cX6_distance 60 = .ok (.getfield 22, 3) := by decide +kernel
theorem dX6_distance_63 : decode cX6_distance 63 = .ok (.iload_n 2, 1) := by decide +kernel
theorem dX6_distance_64 : decode cX6_distance 64 = .ok (.iload_n 3, 1) := by decide +kernel
theorem dX6_distance_65 : decode cX6_distance 65 = .ok (.iload 4, 2) := by decide +kernel
theorem dX6_distance_67 : decode cX6_distance 67 = .ok (.invokestatic 112, 3) := by decide +kernel
theorem dX6_distance_70 : decode cX6_distance 70 = .ok (.iaload, 1) := by decide +kernel
theorem dX6_distance_71 : decode cX6_distance 71 = .ok (.ireturn, 1) := by decide +kernel
set_option maxRecDepth 20000 in
theorem ggX6_ring_X6_isEndIndex : GoodIn wsX6_ring wsX6_isEndIndex := goodIn_r _ [6, 7, 8, 9, 5, 10, 11, 12, 13, 14, 15, 16, 17, 18, 19, 20, 21, 22, 23, 24, 25, 26, 61, 62, 63, 64, 65, 66, 67, 68, 69, 70, 71, 72, 73, 74, 75] (by decide +kernel) (by decide +kernel)
set_option maxRecDepth 20000 in
theorem gX6_ring_X6_isEndIndex : GoodIn wsX6_ring (wsV RX6 90 RX6 yX6_isEndIndex wsX6_isEndIndex) := goodIn_app (goodIn_of _ (by decide +kernel)) ggX6_ring_X6_isEndIndex
set_option maxRecDepth 20000 in
theorem ggX6_ring_X6_error : GoodIn wsX6_ring wsX6_error := goodIn_r _ [30, 31, 61, 62, 63, 64, 65, 66, 67, 68, 69, 70, 71, 72, 73, 74, 75] (by decide +kernel) (by decide +kernel)
set_option maxRecDepth 20000 in
theorem gX6_ring_X6_error : GoodIn wsX6_ring (wsV RX6 49 RX6 yX6_error wsX6_error) := goodIn_app (goodIn_of _ (by decide +kernel)) ggX6_ring_X6_error
set_option maxRecDepth 20000 in
theorem ggX6_ring_X6_endAt : GoodIn wsX6_ring wsX6_endAt := goodIn_r _ [35, 11, 19, 20, 21, 5, 22, 23, 24, 25, 26, 61, 62, 63, 64, 65, 66, 67, 68, 69, 70, 71, 72, 73, 74, 75] (by decide +kernel) (by decide +kernel)
set_option maxRecDepth 20000 in
theorem gX6_ring_X6_endAt : GoodIn wsX6_ring (wsV RX6 93 RX6 yX6_endAt wsX6_endAt) := goodIn_app (goodIn_of _ (by decide +kernel)) ggX6_ring_X6_endAt
set_option maxRecDepth 20000 in
theorem ggX6_ring_X6_leadsTo : GoodIn wsX6_ring wsX6_leadsTo := goodIn_r _ [39, 23, 24, 25, 5, 26, 11, 61, 62, 63, 64, 65, 66, 67, 68, 69, 70, 71, 72, 73, 74, 75] (by decide +kernel) (by decide +kernel)
set_option maxRecDepth 20000 in
theorem gX6_ring_X6_leadsTo : GoodIn wsX6_ring (wsV RX6 96 RX6 yX6_leadsTo wsX6_leadsTo) := goodIn_app (goodIn_of _ (by decide +kernel)) ggX6_ring_X6_leadsTo
set_option maxRecDepth 20000 in
theorem ggX6_ring_X6_endX : GoodIn wsX6_ring wsX6_endX := goodIn_r _ [43, 23, 24, 25, 5, 26, 11, 61, 62, 63, 64, 65, 66, 67, 68, 69, 70, 71, 72, 73, 74, 75] (by decide +kernel) (by decide +kernel)
set_option maxRecDepth 20000 in
theorem gX6_ring_X6_endX : GoodIn wsX6_ring (wsV RX6 106 RX6 yX6_endX wsX6_endX) := goodIn_app (goodIn_of _ (by decide +kernel)) ggX6_ring_X6_endX
set_option maxRecDepth 20000 in
theorem ggX6_ring_X6_endY : GoodIn wsX6_ring wsX6_endY := goodIn_r _ [47, 23, 24, 25, 5, 26, 11, 61, 62, 63, 64, 65, 66, 67, 68, 69, 70, 71, 72, 73, 74, 75] (by decide +kernel) (by decide +kernel)
set_option maxRecDepth 20000 in
theorem gX6_ring_X6_endY : GoodIn wsX6_ring (wsV RX6 109 RX6 yX6_endY wsX6_endY) := goodIn_app (goodIn_of _ (by decide +kernel)) ggX6_ring_X6_endY
set_option maxRecDepth 20000 in
theorem ggX6_ring_X6_node : GoodIn wsX6_ring wsX6_node := goodIn_r _ [50] (by decide +kernel) (by decide +kernel)
set_option maxRecDepth 20000 in
theorem gX6_ring_X6_node : GoodIn wsX6_ring (va_wsS RX6 112 yX6_node wsX6_node) := goodIn_app (goodIn_of _ (by decide +kernel)) ggX6_ring_X6_node
set_option maxRecDepth 20000 in
theorem ggX6_ring_X6_search : GoodIn wsX6_ring wsX6_search := goodIn_r _ [54, 1, 55, 56, 11, 57, 58, 59, 5, 60, 40, 41, 42, 43, 23, 24, 25, 26, 44, 45, 46, 47, 19, 20, 21, 22, 12, 13, 14, 36, 37, 38, 39, 48, 49, 50, 61, 62, 63, 64, 65, 66, 67, 68, 69, 70, 71, 72, 73, 74, 75] (by decide +kernel) (by decide +kernel)
set_option maxRecDepth 20000 in
theorem gX6_ring_X6_search : GoodIn wsX6_ring (wsV RX6 116 RX6 yX6_search wsX6_search) := goodIn_app (goodIn_of _ (by decide +kernel)) ggX6_ring_X6_search
theorem dX6_ring_0 : decode cX6_ring 0 = .ok (.aload_n 0, 1) := by decide +kernel
theorem dX6_ring_1 : decode cX6_ring 1 = .ok (.iload_n 1, 1) := by decide +kernel
theorem dX6_ring_2 : decode cX6_ring 2 = .ok (.iload_n 2, 1) := by decide +kernel
theorem dX6_ring_3 : decode cX6_ring 3 = .ok (.invokevirtual 90, 3) := by decide +kernel
theorem dX6_ring_6 : decode cX6_ring 6 = .ok (.ifCond .eq 17, 3) := by decide +kernel
theorem dX6_ring_9 : decode cX6_ring 9 = .ok (.aload_n 0, 1) := by decide +kernel
theorem dX6_ring_10 : decode cX6_ring 10 = .ok (.iload_n 1, 1) := by decide +kernel
theorem dX6_ring_11 : decode cX6_ring 11 = .ok (.iload_n 3, 1) := by decide +kernel
theorem dX6_ring_12 : decode cX6_ring 12 = .ok (.invokevirtual 90, 3) := by decide +kernel
theorem dX6_ring_15 : decode cX6_ring 15 = .ok (.ifCond .eq 8, 3) := by decide +kernel
theorem dX6_ring_18 : decode cX6_ring 18 = .ok (.iload_n 2, 1) := by decide +kernel
theorem dX6_ring_19 : decode cX6_ring 19 = .ok (.iload_n 3, 1) := by decide +kernel
theorem dX6_ring_20 : decode cX6_ring 20 = .ok (.if_icmp .ne 10, 3) := by decide +kernel
theorem dX6_ring_23 : decode cX6_ring 23 = .ok (.aload_n 0, 1) := by decide +kernel
theorem dX6_ring_24 : decode cX6_ring 24 = .ok (.bipush (-2), 2) := by decide +kernel
theorem dX6_ring_26 : decode cX6_ring 26 = .ok (.invokevirtual 49, 3) := by decide +kernel
theorem dX6_ring_29 : decode cX6_ring 29 = .ok (.ireturn, 1) := by decide +kernel
theorem dX6_ring_30 : decode cX6_ring 30 = .ok (.aload_n 0, 1) := by decide +kernel
theorem dX6_ring_31 : decode cX6_ring 31 = .ok (.iload_n 1, 1) := by decide +kernel
theorem dX6_ring_32 : decode cX6_ring 32 = .ok (.iload_n 2, 1) := by decide +kernel
theorem dX6_ring_33 : decode cX6_ring 33 = .ok (.invokevirtual 93, 3) := by decide +kernel
theorem dX6_ring_36 : decode cX6_ring 36 = .ok (.istore 4, 2) := by decide +kernel
theorem dX6_ring_38 : decode cX6_ring 38 = .ok (.aload_n 0, 1) := by decide +kernel
theorem dX6_ring_39 : decode cX6_ring 39 = .ok (.iload_n 1, 1) := by decide +kernel
theorem dX6_ring_40 : decode cX6_ring 40 = .ok (.iload_n 3, 1) := by decide +kernel
theorem dX6_ring_41 : decode cX6_ring 41 = .ok (.invokevirtual 93, 3) := by decide +kernel
theorem dX6_ring_44 : decode cX6_ring 44 = .ok (.istore 5, 2) := by decide +kernel
theorem dX6_ring_46 : decode cX6_ring 46 = .ok (.aload_n 0, 1) := by decide +kernel
theorem dX6_ring_47 : decode cX6_ring 47 = .ok (.iload 4, 2) := by decide +kernel
theorem dX6_ring_49 : decode cX6_ring 49 = .ok (.invokevirtual 96, 3) := by decide +kernel
theorem dX6_ring_52 : decode cX6_ring 52 = .ok (.aload_n 0, 1) := by decide +kernel
theorem dX6_ring_53 : decode cX6_ring 53 = .ok (.iload 4, 2) := by decide +kernel
theorem dX6_ring_55 : decode cX6_ring 55 = .ok (.invokevirtual 106, 3) := by decide +kernel
theorem dX6_ring_58 : decode cX6_ring 58 = .ok (.aload_n 0, 1) := by decide +kernel
theorem dX6_ring_59 : decode cX6_ring 59 = .ok (.iload 4, 2) := by decide +kernel
theorem dX6_ring_61 : decode cX6_ring 61 = .ok (.invokevirtual 109, 3) := by decide +kernel
theorem dX6_ring_64 : decode cX6_ring 64 = .ok (.invokestatic 112, 3) := by decide +kernel
theorem dX6_ring_67 : decode cX6_ring 67 = .ok (.istore 6, 2) := by decide +kernel
theorem dX6_ring_69 : decode cX6_ring 69 = .ok (.aload_n 0, 1) := by decide +kernel
theorem dX6_ring_70 : decode cX6_ring 70 = .ok (.iload 5, 2) := by decide +kernel
theorem dX6_ring_72 : decode cX6_ring 72 = .ok (.invokevirtual 96, 3) := by decide +kernel
theorem dX6_ring_75 : decode cX6_ring 75 = .ok (.aload_n 0, 1) := by decide +kernel
theorem dX6_ring_76 : decode cX6_ring 76 = .ok (.iload 5, 2) := by decide +kernel
theorem dX6_ring_78 : decode cX6_ring 78 = .ok (.invokevirtual 106, 3) := by decide +kernel
theorem dX6_ring_81 : decode cX6_ring 81 = .ok (.aload_n 0, 1) := by decide +kernel
theorem dX6_ring_82 : decode cX6_ring 82 = .ok (.iload 5, 2) := by decide +kernel
theorem dX6_ring_84 : decode cX6_ring 84 = .ok (.invokevirtual 109, 3) := by decide +kernel
theorem dX6_ring_87 : decode cX6_ring 87 = .ok (.invokestatic 112, 3) := by decide +kernel
theorem dX6_ring_90 : decode cX6_ring 90 = .ok (.istore 7, 2) := by decide +kernel
theorem dX6_ring_92 : decode cX6_ring 92 = .ok (.iload 6, 2) := by decide +kernel
theorem dX6_ring_94 : decode cX6_ring 94 = .ok (.iload 7, 2) := by decide +kernel
theorem dX6_ring_96 : decode cX6_ring 96 = .ok (.if_icmp .ne 5, 3) := by decide +kernel
theorem dX6_ring_99 : decode cX6_ring 99 = .ok (.iconst (-1), 1) := by decide +kernel
theorem dX6_ring_100 : decode cX6_ring 100 = .ok (.ireturn, 1) := by decide +kernel
theorem dX6_ring_101 : decode cX6_ring 101 = .ok (.aload_n 0, 1) := by decide +kernel
theorem dX6_ring_102 : decode cX6_ring 102 = .ok (.iload 6, 2) := by decide +kernel
theorem dX6_ring_104 : decode cX6_ring 104 = .ok (.iload_n 1, 1) := by decide +kernel
theorem dX6_ring_105 : decode cX6_ring 105 = .ok (.iconst 0, 1) := by decide +kernel
theorem dX6_ring_106 : decode cX6_ring 106 = .ok (.iconst 0, 1) := by decide +kernel
theorem dX6_ring_107 : decode cX6_ring 107 = .ok (.invokestatic 112, 3) := by decide +kernel
theorem dX6_ring_110 : decode cX6_ring 110 = .ok (.bipush 10, 2) := by decide +kernel
theorem dX6_ring_112 : decode cX6_ring 112 = .ok (.invokevirtual 116, 3) := by decide +kernel
theorem dX6_ring_115 : decode cX6_ring 115 = .ok (.aload_n 0, 1) := by decide +kernel
theorem dX6_ring_116 : decode cX6_ring 116 = .ok (.getfield 22, 3) := by decide +kernel
theorem dX6_ring_119 : decode cX6_ring 119 = .ok (.iload 7, 2) := by decide +kernel
theorem dX6_ring_121 : decode cX6_ring 121 = .ok (.iaload, 1) := by decide +kernel
theorem dX6_ring_122 : decode cX6_ring 122 = .ok (.iconst (-1), 1) := by decide +kernel
theorem dX6_ring_123 : decode cX6_ring 123 = .ok (.if_icmp .ne 7, 3) := by decide +kernel
theorem dX6_ring_126 : decode cX6_ring 126 = .ok (.iconst (-1), 1) := by decide +kernel
theorem dX6_ring_127 : decode cX6_ring 127 = .ok (.goto 12, 3) := by decide +kernel
theorem dX6_ring_130 : decode cX6_ring 130 = .ok (.aload_n 0, 1) := by decide +kernel
theorem dX6_ring_131 : decode cX6_ring 131 = .ok (.getfield 22, 3) := by decide +kernel
theorem dX6_ring_134 : decode cX6_ring 134 = .ok (.iload 7, 2) := by decide +kernel
theorem dX6_ring_136 : decode cX6_ring 136 = .ok (.iaload, 1) := by decide +kernel
theorem dX6_ring_137 : decode cX6_ring 137 = .ok (.iconst 2, 1) := by decide +kernel
theorem dX6_ring_138 : decode cX6_ring 138 = .ok (.iadd, 1) := by decide +kernel
theorem dX6_ring_139 : decode cX6_ring 139 = .ok (.ireturn, 1) := by decide +kernel
set_option maxRecDepth 20000 in
theorem ggX6_spread_X6_of : GoodIn wsX6_spread wsX6_of := goodIn_r _ [9, 4, 22, 23, 24, 25, 26, 27, 28, 29, 30, 31, 32, 33, 34, 35, 36] (by decide +kernel) (by decide +kernel)
set_option maxRecDepth 20000 in
theorem gX6_spread_X6_of : GoodIn wsX6_spread (wsV RX6 57 RX6 yX6_of wsX6_of) := goodIn_app (goodIn_of _ (by decide +kernel)) ggX6_spread_X6_of
set_option maxRecDepth 20000 in
theorem ggX6_spread_X6_leadsTo : GoodIn wsX6_spread wsX6_leadsTo := goodIn_r _ [13, 5, 6, 7, 8, 9, 4, 22, 23, 24, 25, 26, 27, 28, 29, 30, 31, 32, 33, 34, 35, 36] (by decide +kernel) (by decide +kernel)
set_option maxRecDepth 20000 in
theorem gX6_spread_X6_leadsTo : GoodIn wsX6_spread (wsV RX6 96 RX6 yX6_leadsTo wsX6_leadsTo) := goodIn_app (goodIn_of _ (by decide +kernel)) ggX6_spread_X6_leadsTo
set_option maxRecDepth 20000 in
theorem ggX6_spread_X6_endX : GoodIn wsX6_spread wsX6_endX := goodIn_r _ [17, 5, 6, 7, 8, 9, 4, 22, 23, 24, 25, 26, 27, 28, 29, 30, 31, 32, 33, 34, 35, 36] (by decide +kernel) (by decide +kernel)
set_option maxRecDepth 20000 in
theorem gX6_spread_X6_endX : GoodIn wsX6_spread (wsV RX6 106 RX6 yX6_endX wsX6_endX) := goodIn_app (goodIn_of _ (by decide +kernel)) ggX6_spread_X6_endX
set_option maxRecDepth 20000 in
theorem ggX6_spread_X6_endY : GoodIn wsX6_spread wsX6_endY := goodIn_r _ [21, 5, 6, 7, 8, 9, 4, 22, 23, 24, 25, 26, 27, 28, 29, 30, 31, 32, 33, 34, 35, 36] (by decide +kernel) (by decide +kernel)
set_option maxRecDepth 20000 in
theorem gX6_spread_X6_endY : GoodIn wsX6_spread (wsV RX6 109 RX6 yX6_endY wsX6_endY) := goodIn_app (goodIn_of _ (by decide +kernel)) ggX6_spread_X6_endY
theorem dX6_spread_0 : decode cX6_spread 0 = .ok (.iconst 0, 1) := by decide +kernel
theorem dX6_spread_1 : decode cX6_spread 1 = .ok (.istore_n 2, 1) := by decide +kernel
theorem dX6_spread_2 : decode cX6_spread 2 = .ok (.iload_n 2, 1) := by decide +kernel
theorem dX6_spread_3 : decode cX6_spread 3 = .ok (.bipush 6, 2) := by decide +kernel
theorem dX6_spread_5 : decode cX6_spread 5 = .ok (.if_icmp .ge 25, 3) := by decide +kernel
theorem dX6_spread_8 : decode cX6_spread 8 = .ok (.aload_n 0, 1) := by decide +kernel
theorem dX6_spread_9 : decode cX6_spread 9 = .ok (.getfield 34, 3) := by decide +kernel
theorem dX6_spread_12 : decode cX6_spread 12 = .ok (.iload_n 2, 1) := by decide +kernel
theorem dX6_spread_13 : decode cX6_spread 13 = .ok (.iload_n 2, 1) := by decide +kernel
theorem dX6_spread_14 : decode cX6_spread 14 = .ok (.iload_n 1, 1) := by decide +kernel
theorem dX6_spread_15 : decode cX6_spread 15 = .ok (.if_icmp .ne 7, 3) := by decide +kernel
theorem dX6_spread_18 : decode cX6_spread 18 = .ok (.iconst 1, 1) := by decide +kernel
theorem dX6_spread_19 : decode cX6_spread 19 = .ok (.goto 4, 3) := by decide +kernel
theorem dX6_spread_22 : decode cX6_spread 22 = .ok (.iconst 0, 1) := by decide +kernel
theorem dX6_spread_23 : decode cX6_spread 23 = .ok (.bastore, 1) := by decide +kernel
theorem dX6_spread_24 : decode cX6_spread 24 = .ok (.iinc 2 1, 3) := by decide +kernel
theorem dX6_spread_27 : decode cX6_spread 27 = .ok (.goto (-25), 3) := by decide +kernel
theorem dX6_spread_30 : decode cX6_spread 30 = .ok (.aload_n 0, 1) := by decide +kernel
theorem dX6_spread_31 : decode cX6_spread 31 = .ok (.getfield 28, 3) := by decide +kernel
theorem dX6_spread_34 : decode cX6_spread 34 = .ok (.iload_n 1, 1) := by decide +kernel
theorem dX6_spread_35 : decode cX6_spread 35 = .ok (.iconst 0, 1) := by decide +kernel
theorem dX6_spread_36 : decode cX6_spread 36 = .ok (.iastore, 1) := by decide +kernel
theorem dX6_spread_37 : decode cX6_spread 37 = .ok (.aload_n 0, 1) := by decide +kernel
theorem dX6_spread_38 : decode cX6_spread 38 = .ok (.getfield 31, 3) := by decide +kernel
theorem dX6_spread_41 : decode cX6_spread 41 = .ok (.iload_n 1, 1) := by decide +kernel
theorem dX6_spread_42 : decode cX6_spread 42 = .ok (.iconst 0, 1) := by decide +kernel
theorem dX6_spread_43 : decode cX6_spread 43 = .ok (.iastore, 1) := by decide +kernel
theorem dX6_spread_44 : decode cX6_spread 44 = .ok (.iconst 0, 1) := by decide +kernel
theorem dX6_spread_45 : decode cX6_spread 45 = .ok (.istore_n 2, 1) := by decide +kernel
theorem dX6_spread_46 : decode cX6_spread 46 = .ok (.iload_n 2, 1) := by decide +kernel
theorem dX6_spread_47 : decode cX6_spread 47 = .ok (.bipush 6, 2) := by decide +kernel
theorem dX6_spread_49 : decode cX6_spread 49 = .ok (.if_icmp .ge 116, 3) := by decide +kernel
theorem dX6_spread_52 : decode cX6_spread 52 = .ok (.iconst 0, 1) := by decide +kernel
theorem dX6_spread_53 : decode cX6_spread 53 = .ok (.istore_n 3, 1) := by decide +kernel
theorem dX6_spread_54 : decode cX6_spread 54 = .ok (.iload_n 3, 1) := by decide +kernel
theorem dX6_spread_55 : decode cX6_spread 55 = .ok (.iconst 2, 1) := by decide +kernel
theorem dX6_spread_56 : decode cX6_spread 56 = .ok (.aload_n 0, 1) := by decide +kernel
theorem dX6_spread_57 : decode cX6_spread 57 = .ok (.getfield 7, 3) := by decide +kernel
theorem dX6_spread_60 : decode cX6_spread 60 = .ok (.iconst 1, 1) := by decide +kernel
theorem dX6_spread_61 : decode cX6_spread 61 = .ok (.iaload, 1) := by decide +kernel
theorem dX6_spread_62 : decode cX6_spread 62 = .ok (.imul, 1) := by decide +kernel
theorem dX6_spread_63 : decode cX6_spread 63 = .ok (.if_icmp .ge 96, 3) := by decide +kernel
theorem dX6_spread_66 : decode cX6_spread 66 = .ok (.aload_n 0, 1) := by decide +kernel
theorem dX6_spread_67 : decode cX6_spread 67 = .ok (.iload_n 3, 1) := by decide +kernel
theorem dX6_spread_68 : decode cX6_spread 68 = .ok (.iconst 2, 1) := by decide +kernel
theorem dX6_spread_69 : decode cX6_spread 69 = .ok (.idiv, 1) := by decide +kernel
theorem dX6_spread_70 : decode cX6_spread 70 = .ok (.iload_n 3, 1) := by decide +kernel
theorem dX6_spread_71 : decode cX6_spread 71 = .ok (.iconst 2, 1) := by decide +kernel
theorem dX6_spread_72 : decode cX6_spread 72 = .ok (.irem, 1) := by decide +kernel
theorem dX6_spread_73 : decode cX6_spread 73 = .ok (.invokevirtual 57, 3) := by decide +kernel
theorem dX6_spread_76 : decode cX6_spread 76 = .ok (.istore 4, 2) := by decide +kernel
theorem dX6_spread_78 : decode cX6_spread 78 = .ok (.aload_n 0, 1) := by decide +kernel
theorem dX6_spread_79 : decode cX6_spread 79 = .ok (.iload_n 3, 1) := by decide +kernel
theorem dX6_spread_80 : decode cX6_spread 80 = .ok (.invokevirtual 96, 3) := by decide +kernel
theorem dX6_spread_83 : decode cX6_spread 83 = .ok (.istore 5, 2) := by decide +kernel
theorem dX6_spread_85 : decode cX6_spread 85 = .ok (.aload_n 0, 1) := by decide +kernel
theorem dX6_spread_86 : decode cX6_spread 86 = .ok (.getfield 34, 3) := by decide +kernel
theorem dX6_spread_89 : decode cX6_spread 89 = .ok (.iload 4, 2) := by decide +kernel
theorem dX6_spread_91 : decode cX6_spread 91 = .ok (.baload, 1) := by decide +kernel
theorem dX6_spread_92 : decode cX6_spread 92 = .ok (.ifCond .eq 61, 3) := by decide +kernel
theorem dX6_spread_95 : decode cX6_spread 95 = .ok (.aload_n 0, 1) := by decide +kernel
theorem dX6_spread_96 : decode cX6_spread 96 = .ok (.getfield 34, 3) := by decide +kernel
theorem dX6_spread_99 : decode cX6_spread 99 = .ok (.iload 5, 2) := by decide +kernel
theorem dX6_spread_101 : decode cX6_spread 101 = .ok (.baload, 1) := by decide +kernel
theorem dX6_spread_102 : decode cX6_spread 102 = .ok (.ifCond .ne 51, 3) := by decide +kernel
theorem dX6_spread_105 : decode cX6_spread 105 = .ok (.aload_n 0, 1) := by decide +kernel
theorem dX6_spread_106 : decode cX6_spread 106 = .ok (.getfield 34, 3) := by decide +kernel
theorem dX6_spread_109 : decode cX6_spread 109 = .ok (.iload 5, 2) := by decide +kernel
theorem dX6_spread_111 : decode cX6_spread 111 = .ok (.iconst 1, 1) := by decide +kernel
theorem dX6_spread_112 : decode cX6_spread 112 = .ok (.bastore, 1) := by decide +kernel
theorem dX6_spread_113 : decode cX6_spread 113 = .ok (.aload_n 0, 1) := by decide +kernel
theorem dX6_spread_114 : decode cX6_spread 114 = .ok (.getfield 28, 3) := by decide +kernel
theorem dX6_spread_117 : decode cX6_spread 117 = .ok (.iload 5, 2) := by decide +kernel
theorem dX6_spread_119 : decode cX6_spread 119 = .ok (.aload_n 0, 1) := by decide +kernel
theorem dX6_spread_120 : decode cX6_spread 120 = .ok (.getfield 28, 3) := by decide +kernel
theorem dX6_spread_123 : decode cX6_spread 123 = .ok (.iload 4, 2) := by decide +kernel
theorem dX6_spread_125 : decode cX6_spread 125 = .ok (.iaload, 1) := by decide +kernel
theorem dX6_spread_126 : decode cX6_spread 126 = .ok (.aload_n 0, 1) := by decide +kernel
theorem dX6_spread_127 : decode cX6_spread 127 = .ok (.iload_n 3, 1) := by decide +kernel
theorem dX6_spread_128 : decode cX6_spread 128 = .ok (.invokevirtual 106, 3) := by decide +kernel
theorem dX6_spread_131 : decode cX6_spread 131 = .ok (.iadd, 1) := by decide +kernel
theorem dX6_spread_132 : decode cX6_spread 132 = .ok (.iastore, 1) := by decide +kernel
theorem dX6_spread_133 : decode cX6_spread 133 = .ok (.aload_n 0, 1) := by decide +kernel
theorem dX6_spread_134 : decode cX6_spread 134 = .ok (.getfield 31, 3) := by decide +kernel
theorem dX6_spread_137 : decode cX6_spread 137 = .ok (.iload 5, 2) := by decide +kernel
theorem dX6_spread_139 : decode cX6_spread 139 = .ok (.aload_n 0, 1) := by decide +kernel
theorem dX6_spread_140 : decode cX6_spread 140 = .ok (.getfield 31, 3) := by decide +kernel
theorem dX6_spread_143 : decode cX6_spread 143 = .ok (.iload 4, 2) := by decide +kernel
theorem dX6_spread_145 : decode cX6_spread 145 = .ok (.iaload, 1) := by decide +kernel
theorem dX6_spread_146 : decode cX6_spread 146 = .ok (.aload_n 0, 1) := by decide +kernel
theorem dX6_spread_147 : decode cX6_spread 147 = .ok (.iload_n 3, 1) := by decide +kernel
theorem dX6_spread_148 : decode cX6_spread 148 = .ok (.invokevirtual 109, 3) := by decide +kernel
theorem dX6_spread_151 : decode cX6_spread 151 = .ok (.iadd, 1) := by decide +kernel
theorem dX6_spread_152 : decode cX6_spread 152 = .ok (.iastore, 1) := by decide +kernel
theorem dX6_spread_153 : decode cX6_spread 153 = .ok (.iinc 3 1, 3) := by decide +kernel
theorem dX6_spread_156 : decode cX6_spread 156 = .ok (.goto (-102), 3) := by decide +kernel
theorem dX6_spread_159 : decode cX6_spread 159 = .ok (.iinc 2 1, 3) := by decide +kernel
theorem dX6_spread_162 : decode cX6_spread 162 = .ok (.goto (-116), 3) := by decide +kernel
theorem dX6_spread_165 : decode cX6_spread 165 = .ok (.return_, 1) := by decide +kernel
theorem dX6_divisor_0 : decode cX6_divisor 0 = .ok (.iload_n 0, 1) := by decide +kernel
theorem dX6_divisor_1 : decode cX6_divisor 1 = .ok (.ifCond .ge 8, 3) := by decide +kernel
theorem dX6_divisor_4 : decode cX6_divisor 4 = .ok (.iload_n 0, 1) := by decide +kernel
theorem dX6_divisor_5 : decode cX6_divisor 5 = .ok (.ineg, 1) := by decide +kernel
theorem dX6_divisor_6 : decode cX6_divisor 6 = .ok (.goto 4, 3) := by decide +kernel
theorem dX6_divisor_9 : decode cX6_divisor 9 = .ok (.iload_n 0, 1) := by decide +kernel
theorem dX6_divisor_10 : decode cX6_divisor 10 = .ok (.istore_n 2, 1) := by decide +kernel
theorem dX6_divisor_11 : decode cX6_divisor 11 = .ok (.iload_n 1, 1) := by decide +kernel
theorem dX6_divisor_12 : decode cX6_divisor 12 = .ok (.ifCond .ge 8, 3) := by decide +kernel
theorem dX6_divisor_15 : decode cX6_divisor 15 = .ok (.iload_n 1, 1) := by decide +kernel
theorem dX6_divisor_16 : decode cX6_divisor 16 = .ok (.ineg, 1) := by decide +kernel
theorem dX6_divisor_17 : decode cX6_divisor 17 = .ok (.goto 4, 3) := by decide +kernel
theorem dX6_divisor_20 : decode cX6_divisor 20 = .ok (.iload_n 1, 1) := by decide +kernel
theorem dX6_divisor_21 : decode cX6_divisor 21 = .ok (.istore_n 3, 1) := by decide +kernel
theorem dX6_divisor_22 : decode cX6_divisor 22 = .ok (.iload_n 3, 1) := by decide +kernel
theorem dX6_divisor_23 : decode cX6_divisor 23 = .ok (.ifCond .le 16, 3) := by decide +kernel
theorem dX6_divisor_26 : decode cX6_divisor 26 = .ok (.iload_n 2, 1) := by decide +kernel
theorem dX6_divisor_27 : decode cX6_divisor 27 = .ok (.iload_n 3, 1) := by decide +kernel
theorem dX6_divisor_28 : decode cX6_divisor 28 = .ok (.irem, 1) := by decide +kernel
theorem dX6_divisor_29 : decode cX6_divisor 29 = .ok (.istore 4, 2) := by decide +kernel
theorem dX6_divisor_31 : decode cX6_divisor 31 = .ok (.iload_n 3, 1) := by decide +kernel
theorem dX6_divisor_32 : decode cX6_divisor 32 = .ok (.istore_n 2, 1) := by decide +kernel
theorem dX6_divisor_33 : decode cX6_divisor 33 = .ok (.iload 4, 2) := by decide +kernel
theorem dX6_divisor_35 : decode cX6_divisor 35 = .ok (.istore_n 3, 1) := by decide +kernel
theorem dX6_divisor_36 : decode cX6_divisor 36 = .ok (.goto (-14), 3) := by decide +kernel
theorem dX6_divisor_39 : decode cX6_divisor 39 = .ok (.iload_n 2, 1) := by decide +kernel
theorem dX6_divisor_40 : decode cX6_divisor 40 = .ok (.ireturn, 1) := by decide +kernel
set_option maxRecDepth 20000 in
theorem ggX6_findPeriods_X6_spread : GoodIn wsX6_findPeriods wsX6_spread := goodIn_r _ [10, 2, 4, 5, 1, 11, 12, 13, 9, 14, 15, 16, 17, 18, 19, 20, 21, 22, 23, 24, 25, 26, 27, 28, 29, 30, 31, 32, 33, 34, 35, 36, 37, 38, 39, 40, 41] (by decide +kernel) (by decide +kernel)
set_option maxRecDepth 20000 in
theorem gX6_findPeriods_X6_spread : GoodIn wsX6_findPeriods (wsV RX6 123 RX6 yX6_spread wsX6_spread) := goodIn_app (goodIn_of _ (by decide +kernel)) ggX6_findPeriods_X6_spread
set_option maxRecDepth 20000 in
theorem ggX6_findPeriods_X6_of : GoodIn wsX6_findPeriods wsX6_of := goodIn_r _ [14, 1, 27, 28, 29, 30, 31, 32, 33, 34, 35, 36, 37, 38, 39, 40, 41] (by decide +kernel) (by decide +kernel)
set_option maxRecDepth 20000 in
theorem gX6_findPeriods_X6_of : GoodIn wsX6_findPeriods (wsV RX6 57 RX6 yX6_of wsX6_of) := goodIn_app (goodIn_of _ (by decide +kernel)) ggX6_findPeriods_X6_of
theorem dX6_findPeriods_0 : decode cX6_findPeriods 0 = .ok (.aload_n 0, 1) := by decide +kernel
theorem dX6_findPeriods_1 : decode cX6_findPeriods 1 = .ok (.iload_n 1, 1) := by decide +kernel
theorem dX6_findPeriods_2 : decode cX6_findPeriods 2 = .ok (.invokevirtual 123, 3) := by decide +kernel
theorem dX6_findPeriods_5 : decode cX6_findPeriods 5 = .ok (.iconst 0, 1) := by decide +kernel
theorem dX6_findPeriods_6 : decode cX6_findPeriods 6 = .ok (.istore_n 2, 1) := by decide +kernel
theorem dX6_findPeriods_7 : decode cX6_findPeriods 7 = .ok (.iload_n 2, 1) := by decide +kernel
theorem dX6_findPeriods_8 : decode cX6_findPeriods 8 = .ok (.bipush 12, 2) := by decide +kernel
theorem dX6_findPeriods_10 : decode cX6_findPeriods 10 = .ok (.if_icmp .ge 133, 3) := by decide +kernel
theorem dX6_findPeriods_13 : decode cX6_findPeriods 13 = .ok (.iload_n 2, 1) := by decide +kernel
theorem dX6_findPeriods_14 : decode cX6_findPeriods 14 = .ok (.aload_n 0, 1) := by decide +kernel
theorem dX6_findPeriods_15 : decode cX6_findPeriods 15 = .ok (.getfield 7, 3) := by decide +kernel
theorem dX6_findPeriods_18 : decode cX6_findPeriods 18 = .ok (.iconst 1, 1) := by decide +kernel
theorem dX6_findPeriods_19 : decode cX6_findPeriods 19 = .ok (.iaload, 1) := by decide +kernel
theorem dX6_findPeriods_20 : decode cX6_findPeriods 20 = .ok (.if_icmp .ge 21, 3) := by decide +kernel
theorem dX6_findPeriods_23 : decode cX6_findPeriods 23 = .ok (.aload_n 0, 1) := by decide +kernel
theorem dX6_findPeriods_24 : decode cX6_findPeriods 24 = .ok (.getfield 34, 3) := by decide +kernel
theorem dX6_findPeriods_27 : decode cX6_findPeriods 27 = .ok (.aload_n 0, 1) := by decide +kernel
theorem dX6_findPeriods_28 : decode cX6_findPeriods 28 = .ok (.iload_n 2, 1) := by decide +kernel
theorem dX6_findPeriods_29 : decode cX6_findPeriods 29 = .ok (.iconst 0, 1) := by decide +kernel
theorem dX6_findPeriods_30 : decode cX6_findPeriods 30 = .ok (.invokevirtual 57, 3) := by decide +kernel
theorem dX6_findPeriods_33 : decode cX6_findPeriods 33 = .ok (.baload, 1) := by decide +kernel
theorem dX6_findPeriods_34 : decode cX6_findPeriods 34 = .ok (.ifCond .eq 7, 3) := by decide +kernel
theorem dX6_findPeriods_37 : decode cX6_findPeriods 37 = .ok (.iconst 1, 1) := by decide +kernel
theorem dX6_findPeriods_38 : decode cX6_findPeriods 38 = .ok (.goto 4, 3) := by decide +kernel
theorem dX6_findPeriods_41 : decode cX6_findPeriods 41 = .ok (.iconst 0, 1) := by decide +kernel
theorem dX6_findPeriods_42 : decode cX6_findPeriods 42 = .ok (.istore_n 3, 1) := by decide +kernel
theorem dX6_findPeriods_43 : decode cX6_findPeriods 43 = .ok (.aload_n 0, 1) := by decide +kernel
theorem dX6_findPeriods_44 : decode cX6_findPeriods 44 = .ok (.getfield 38, 3) := by decide +kernel
theorem dX6_findPeriods_47 : decode cX6_findPeriods 47 = .ok (.iconst 2, 1) := by decide +kernel
theorem dX6_findPeriods_48 : decode cX6_findPeriods 48 = .ok (.iload_n 2, 1) := by decide +kernel
theorem dX6_findPeriods_49 : decode cX6_findPeriods 49 = .ok (.imul, 1) := by decide +kernel
theorem dX6_findPeriods_50 : decode cX6_findPeriods 50 = .ok (.iload_n 3, 1) := by decide +kernel
theorem dX6_findPeriods_51 : decode cX6_findPeriods 51 = .ok (.ifCond .eq 36, 3) := by decide +kernel
theorem dX6_findPeriods_54 : decode cX6_findPeriods 54 = .ok (.aload_n 0, 1) := by decide +kernel
theorem dX6_findPeriods_55 : decode cX6_findPeriods 55 = .ok (.getfield 28, 3) := by decide +kernel
theorem dX6_findPeriods_58 : decode cX6_findPeriods 58 = .ok (.aload_n 0, 1) := by decide +kernel
theorem dX6_findPeriods_59 : decode cX6_findPeriods 59 = .ok (.iload_n 2, 1) := by decide +kernel
theorem dX6_findPeriods_60 : decode cX6_findPeriods 60 = .ok (.iconst 0, 1) := by decide +kernel
theorem dX6_findPeriods_61 : decode cX6_findPeriods 61 = .ok (.invokevirtual 57, 3) := by decide +kernel
theorem dX6_findPeriods_64 : decode cX6_findPeriods 64 = .ok (.iaload, 1) := by decide +kernel
theorem dX6_findPeriods_65 : decode cX6_findPeriods 65 = .ok (.aload_n 0, 1) := by decide +kernel
theorem dX6_findPeriods_66 : decode cX6_findPeriods 66 = .ok (.iload_n 2, 1) := by decide +kernel
theorem dX6_findPeriods_67 : decode cX6_findPeriods 67 = .ok (.iconst 2, 1) := by decide +kernel
theorem dX6_findPeriods_68 : decode cX6_findPeriods 68 = .ok (.invokevirtual 57, 3) := by decide +kernel
theorem dX6_findPeriods_71 : decode cX6_findPeriods 71 = .ok (.iadd, 1) := by decide +kernel
theorem dX6_findPeriods_72 : decode cX6_findPeriods 72 = .ok (.aload_n 0, 1) := by decide +kernel
theorem dX6_findPeriods_73 : decode cX6_findPeriods 73 = .ok (.getfield 28, 3) := by decide +kernel
theorem dX6_findPeriods_76 : decode cX6_findPeriods 76 = .ok (.aload_n 0, 1) := by decide +kernel
theorem dX6_findPeriods_77 : decode cX6_findPeriods 77 = .ok (.iload_n 2, 1) := by decide +kernel
theorem dX6_findPeriods_78 : decode cX6_findPeriods 78 = .ok (.iconst 1, 1) := by decide +kernel
theorem dX6_findPeriods_79 : decode cX6_findPeriods 79 = .ok (.invokevirtual 57, 3) := by decide +kernel
theorem dX6_findPeriods_82 : decode cX6_findPeriods 82 = .ok (.iaload, 1) := by decide +kernel
theorem dX6_findPeriods_83 : decode cX6_findPeriods 83 = .ok (.isub, 1) := by decide +kernel
theorem dX6_findPeriods_84 : decode cX6_findPeriods 84 = .ok (.goto 4, 3) := by decide +kernel
theorem dX6_findPeriods_87 : decode cX6_findPeriods 87 = .ok (.iconst 0, 1) := by decide +kernel
theorem dX6_findPeriods_88 : decode cX6_findPeriods 88 = .ok (.iastore, 1) := by decide +kernel
theorem dX6_findPeriods_89 : decode cX6_findPeriods 89 = .ok (.aload_n 0, 1) := by decide +kernel
theorem dX6_findPeriods_90 : decode cX6_findPeriods 90 = .ok (.getfield 38, 3) := by decide +kernel
theorem dX6_findPeriods_93 : decode cX6_findPeriods 93 = .ok (.iconst 2, 1) := by decide +kernel
theorem dX6_findPeriods_94 : decode cX6_findPeriods 94 = .ok (.iload_n 2, 1) := by decide +kernel
theorem dX6_findPeriods_95 : decode cX6_findPeriods 95 = .ok (.imul, 1) := by decide +kernel
theorem dX6_findPeriods_96 : decode cX6_findPeriods 96 = .ok (.iconst 1, 1) := by decide +kernel
theorem dX6_findPeriods_97 : decode cX6_findPeriods 97 = .ok (.iadd, 1) := by decide +kernel
theorem dX6_findPeriods_98 : decode cX6_findPeriods 98 = .ok (.iload_n 3, 1) := by decide +kernel
theorem dX6_findPeriods_99 : decode cX6_findPeriods 99 = .ok (.ifCond .eq 36, 3) := by decide +kernel
theorem dX6_findPeriods_102 : decode cX6_findPeriods 102 = .ok (.aload_n 0, 1) := by decide +kernel
theorem dX6_findPeriods_103 : decode cX6_findPeriods 103 = .ok (.getfield 31, 3) := by decide +kernel
theorem dX6_findPeriods_106 : decode cX6_findPeriods 106 = .ok (.aload_n 0, 1) := by decide +kernel
theorem dX6_findPeriods_107 : decode cX6_findPeriods 107 = .ok (.iload_n 2, 1) := by decide +kernel
theorem dX6_findPeriods_108 : decode cX6_findPeriods 108 = .ok (.iconst 0, 1) := by decide +kernel
theorem dX6_findPeriods_109 : decode cX6_findPeriods 109 = .ok (.invokevirtual 57, 3) := by decide +kernel
theorem dX6_findPeriods_112 : decode cX6_findPeriods 112 = .ok (.iaload, 1) := by decide +kernel
theorem dX6_findPeriods_113 : decode cX6_findPeriods 113 = .ok (.aload_n 0, 1) := by decide +kernel
theorem dX6_findPeriods_114 : decode cX6_findPeriods 114 = .ok (.iload_n 2, 1) := by decide +kernel
theorem dX6_findPeriods_115 : decode cX6_findPeriods 115 = .ok (.iconst 3, 1) := by decide +kernel
theorem dX6_findPeriods_116 : decode cX6_findPeriods 116 = .ok (.invokevirtual 57, 3) := by decide +kernel
theorem dX6_findPeriods_119 : decode cX6_findPeriods 119 = .ok (.iadd, 1) := by decide +kernel
theorem dX6_findPeriods_120 : decode cX6_findPeriods 120 = .ok (.aload_n 0, 1) := by decide +kernel
theorem dX6_findPeriods_121 : decode cX6_findPeriods 121 = .ok (.getfield 31, 3) := by decide +kernel
theorem dX6_findPeriods_124 : decode cX6_findPeriods 124 = .ok (.aload_n 0, 1) := by decide +kernel
theorem dX6_findPeriods_125 : decode cX6_findPeriods 125 = .ok (.iload_n 2, 1) := by decide +kernel
theorem dX6_findPeriods_126 : decode cX6_findPeriods 126 = .ok (.iconst 1, 1) := by decide +kernel
theorem dX6_findPeriods_127 : decode cX6_findPeriods 127 = .ok (.invokevirtual 57, 3) := by decide +kernel
theorem dX6_findPeriods_130 : decode cX6_findPeriods 130 = .ok (.iaload, 1) := by decide +kernel
theorem dX6_findPeriods_131 : decode cX6_findPeriods 131 = .ok (.isub, 1) := by decide +kernel
theorem dX6_findPeriods_132 : decode cX6_findPeriods 132 = .ok (.goto 4, 3) := by decide +kernel
theorem dX6_findPeriods_135 : decode cX6_findPeriods 135 = .ok (.iconst 0, 1) := by decide +kernel
theorem dX6_findPeriods_136 : decode cX6_findPeriods 136 = .ok (.iastore, 1) := by decide +kernel
theorem dX6_findPeriods_137 : decode cX6_findPeriods 137 = .ok (.iinc 2 1, 3) := by decide +kernel
theorem dX6_findPeriods_140 : decode cX6_findPeriods 140 = .ok (.goto (-133), 3) := by decide +kernel
theorem dX6_findPeriods_143 : decode cX6_findPeriods 143 = .ok (.return_, 1) := by decide +kernel
set_option maxRecDepth 20000 in
theorem ggX6_commonDeterminant_X6_divisor : GoodIn wsX6_commonDeterminant wsX6_divisor := goodIn_r _ [6] (by decide +kernel) (by decide +kernel)
set_option maxRecDepth 20000 in
theorem gX6_commonDeterminant_X6_divisor : GoodIn wsX6_commonDeterminant (va_wsS RX6 127 yX6_divisor wsX6_divisor) := goodIn_app (goodIn_of _ (by decide +kernel)) ggX6_commonDeterminant_X6_divisor
theorem dX6_commonDeterminant_0 : decode cX6_commonDeterminant 0 = .ok (.iconst 0, 1) := by decide +kernel
theorem dX6_commonDeterminant_1 : decode cX6_commonDeterminant 1 = .ok (.istore_n 1, 1) := by decide +kernel
theorem dX6_commonDeterminant_2 : decode cX6_commonDeterminant 2 = .ok (.iconst 0, 1) := by decide +kernel
theorem dX6_commonDeterminant_3 : decode cX6_commonDeterminant 3 = .ok (.istore_n 2, 1) := by decide +kernel
theorem dX6_commonDeterminant_4 : decode cX6_commonDeterminant 4 = .ok (.iload_n 2, 1) := by decide +kernel
theorem dX6_commonDeterminant_5 : decode cX6_commonDeterminant 5 = .ok (.aload_n 0, 1) := by decide +kernel
theorem dX6_commonDeterminant_6 : decode cX6_commonDeterminant 6 = .ok (.getfield 7, 3) := by decide +kernel
theorem dX6_commonDeterminant_9 : decode cX6_commonDeterminant 9 = .ok (.iconst 1, 1) := by decide +kernel
theorem dX6_commonDeterminant_10 : decode cX6_commonDeterminant 10 = .ok (.iaload, 1) := by decide +kernel
theorem dX6_commonDeterminant_11 : decode cX6_commonDeterminant 11 = .ok (.if_icmp .ge 66, 3) := by decide +kernel
theorem dX6_commonDeterminant_14 : decode cX6_commonDeterminant 14 = .ok (.iconst 0, 1) := by decide +kernel
theorem dX6_commonDeterminant_15 : decode cX6_commonDeterminant 15 = .ok (.istore_n 3, 1) := by decide +kernel
theorem dX6_commonDeterminant_16 : decode cX6_commonDeterminant 16 = .ok (.iload_n 3, 1) := by decide +kernel
theorem dX6_commonDeterminant_17 : decode cX6_commonDeterminant 17 = .ok (.iload_n 2, 1) := by decide +kernel
theorem dX6_commonDeterminant_18 : decode cX6_commonDeterminant 18 = .ok (.if_icmp .ge 53, 3) := by decide +kernel
theorem dX6_commonDeterminant_21 : decode cX6_commonDeterminant 21 = .ok (.iload_n 1, 1) := by decide +kernel
theorem dX6_commonDeterminant_22 : decode cX6_commonDeterminant 22 = .ok (.aload_n 0, 1) := by decide +kernel
theorem dX6_commonDeterminant_23 : decode cX6_commonDeterminant 23 = .ok (.getfield 38, 3) := by decide +kernel
theorem dX6_commonDeterminant_26 : decode cX6_commonDeterminant 26 = .ok (.iconst 2, 1) := by decide +kernel
theorem dX6_commonDeterminant_27 : decode cX6_commonDeterminant 27 = .ok (.iload_n 2, 1) := by decide +kernel
theorem dX6_commonDeterminant_28 : decode cX6_commonDeterminant 28 = .ok (.imul, 1) := by decide +kernel
theorem dX6_commonDeterminant_29 : decode cX6_commonDeterminant 29 = .ok (.iaload, 1) := by decide +kernel
theorem dX6_commonDeterminant_30 : decode cX6_commonDeterminant 30 = .ok (.aload_n 0, 1) := by decide +kernel
theorem dX6_commonDeterminant_31 : decode cX6_commonDeterminant 31 = .ok (.getfield 38, 3) := by decide +kernel
theorem dX6_commonDeterminant_34 : decode cX6_commonDeterminant 34 = .ok (.iconst 2, 1) := by decide +kernel
theorem dX6_commonDeterminant_35 : decode cX6_commonDeterminant 35 = .ok (.iload_n 3, 1) := by decide +kernel
theorem dX6_commonDeterminant_36 : decode cX6_commonDeterminant 36 = .ok (.imul, 1) := by decide +kernel
theorem dX6_commonDeterminant_37 : decode cX6_commonDeterminant 37 = .ok (.iconst 1, 1) := by decide +kernel
theorem dX6_commonDeterminant_38 : decode cX6_commonDeterminant 38 = .ok (.iadd, 1) := by decide +kernel
theorem dX6_commonDeterminant_39 : decode cX6_commonDeterminant 39 = .ok (.iaload, 1) := by decide +kernel
theorem dX6_commonDeterminant_40 : decode cX6_commonDeterminant 40 = .ok (.imul, 1) := by decide +kernel
theorem dX6_commonDeterminant_41 : decode cX6_commonDeterminant 41 = .ok (.aload_n 0, 1) := by decide +kernel
theorem dX6_commonDeterminant_42 : decode cX6_commonDeterminant 42 = .ok (.getfield 38, 3) := by decide +kernel
theorem dX6_commonDeterminant_45 : decode cX6_commonDeterminant 45 = .ok (.iconst 2, 1) := by decide +kernel
theorem dX6_commonDeterminant_46 : decode cX6_commonDeterminant 46 = .ok (.iload_n 2, 1) := by decide +kernel
theorem dX6_commonDeterminant_47 : decode cX6_commonDeterminant 47 = .ok (.imul, 1) := by decide +kernel
theorem dX6_commonDeterminant_48 : decode cX6_commonDeterminant 48 = .ok (.iconst 1, 1) := by decide +kernel
theorem dX6_commonDeterminant_49 : decode cX6_commonDeterminant 49 = .ok (.iadd, 1) := by decide +kernel
theorem dX6_commonDeterminant_50 : decode cX6_commonDeterminant 50 = .ok (.iaload, 1) := by decide +kernel
theorem dX6_commonDeterminant_51 : decode cX6_commonDeterminant 51 = .ok (.aload_n 0, 1) := by decide +kernel
theorem dX6_commonDeterminant_52 : decode cX6_commonDeterminant 52 = .ok (.getfield 38, 3) := by decide +kernel
theorem dX6_commonDeterminant_55 : decode cX6_commonDeterminant 55 = .ok (.iconst 2, 1) := by decide +kernel
theorem dX6_commonDeterminant_56 : decode cX6_commonDeterminant 56 = .ok (.iload_n 3, 1) := by decide +kernel
theorem dX6_commonDeterminant_57 : decode cX6_commonDeterminant 57 = .ok (.imul, 1) := by decide +kernel
theorem dX6_commonDeterminant_58 : decode cX6_commonDeterminant 58 = .ok (.iaload, 1) := by decide +kernel
theorem dX6_commonDeterminant_59 : decode cX6_commonDeterminant 59 = .ok (.imul, 1) := by decide +kernel
theorem dX6_commonDeterminant_60 : decode cX6_commonDeterminant 60 = .ok (.isub, 1) := by decide +kernel
theorem dX6_commonDeterminant_61 : decode cX6_commonDeterminant 61 = .ok (.invokestatic 127, 3) := by decide +kernel
theorem dX6_commonDeterminant_64 : decode cX6_commonDeterminant 64 = .ok (.istore_n 1, 1) := by decide +kernel
theorem dX6_commonDeterminant_65 : decode cX6_commonDeterminant 65 = .ok (.iinc 3 1, 3) := by decide +kernel
theorem dX6_commonDeterminant_68 : decode cX6_commonDeterminant 68 = .ok (.goto (-52), 3) := by decide +kernel
theorem dX6_commonDeterminant_71 : decode cX6_commonDeterminant 71 = .ok (.iinc 2 1, 3) := by decide +kernel
theorem dX6_commonDeterminant_74 : decode cX6_commonDeterminant 74 = .ok (.goto (-70), 3) := by decide +kernel
theorem dX6_commonDeterminant_77 : decode cX6_commonDeterminant 77 = .ok (.iload_n 1, 1) := by decide +kernel
theorem dX6_commonDeterminant_78 : decode cX6_commonDeterminant 78 = .ok (.ireturn, 1) := by decide +kernel
set_option maxRecDepth 20000 in
theorem ggX6_rankOf_X6_findPeriods : GoodIn wsX6_rankOf wsX6_findPeriods := goodIn_r _ [7, 1, 8, 2, 9, 10, 11, 12, 13, 6, 14, 15, 16, 17, 18, 19, 20, 21, 22, 23, 24, 25, 26, 27, 28, 29, 30, 38, 39, 40, 41, 42, 43, 44, 45, 46, 47, 48, 49, 50, 51, 52] (by decide +kernel) (by decide +kernel)
set_option maxRecDepth 20000 in
theorem gX6_rankOf_X6_findPeriods : GoodIn wsX6_rankOf (wsV RX6 130 RX6 yX6_findPeriods wsX6_findPeriods) := goodIn_app (goodIn_of _ (by decide +kernel)) ggX6_rankOf_X6_findPeriods
set_option maxRecDepth 20000 in
theorem ggX6_rankOf_X6_commonDeterminant : GoodIn wsX6_rankOf wsX6_commonDeterminant := goodIn_r _ [34, 1, 2, 35, 36, 6, 37, 38, 39, 40, 41, 42, 43, 44, 45, 46, 47, 48, 49, 50, 51, 52] (by decide +kernel) (by decide +kernel)
set_option maxRecDepth 20000 in
theorem gX6_rankOf_X6_commonDeterminant : GoodIn wsX6_rankOf (wsV RX6 133 RX6 yX6_commonDeterminant wsX6_commonDeterminant) := goodIn_app (goodIn_of _ (by decide +kernel)) ggX6_rankOf_X6_commonDeterminant
theorem dX6_rankOf_0 : decode cX6_rankOf 0 = .ok (.aload_n 0, 1) := by decide +kernel
theorem dX6_rankOf_1 : decode cX6_rankOf 1 = .ok (.iload_n 1, 1) := by decide +kernel
theorem dX6_rankOf_2 : decode cX6_rankOf 2 = .ok (.invokevirtual 130, 3) := by decide +kernel
theorem dX6_rankOf_5 : decode cX6_rankOf 5 = .ok (.iconst 0, 1) := by decide +kernel
theorem dX6_rankOf_6 : decode cX6_rankOf 6 = .ok (.istore_n 2, 1) := by decide +kernel
theorem dX6_rankOf_7 : decode cX6_rankOf 7 = .ok (.iconst 0, 1) := by decide +kernel
theorem dX6_rankOf_8 : decode cX6_rankOf 8 = .ok (.istore_n 3, 1) := by decide +kernel
theorem dX6_rankOf_9 : decode cX6_rankOf 9 = .ok (.iload_n 3, 1) := by decide +kernel
theorem dX6_rankOf_10 : decode cX6_rankOf 10 = .ok (.iconst 2, 1) := by decide +kernel
theorem dX6_rankOf_11 : decode cX6_rankOf 11 = .ok (.aload_n 0, 1) := by decide +kernel
theorem dX6_rankOf_12 : decode cX6_rankOf 12 = .ok (.getfield 7, 3) := by decide +kernel
theorem dX6_rankOf_15 : decode cX6_rankOf 15 = .ok (.iconst 1, 1) := by decide +kernel
theorem dX6_rankOf_16 : decode cX6_rankOf 16 = .ok (.iaload, 1) := by decide +kernel
theorem dX6_rankOf_17 : decode cX6_rankOf 17 = .ok (.imul, 1) := by decide +kernel
theorem dX6_rankOf_18 : decode cX6_rankOf 18 = .ok (.if_icmp .ge 28, 3) := by decide +kernel
theorem dX6_rankOf_21 : decode cX6_rankOf 21 = .ok (.iload_n 2, 1) := by decide +kernel
theorem dX6_rankOf_22 : decode cX6_rankOf 22 = .ok (.ifCond .ne 12, 3) := by decide +kernel
theorem dX6_rankOf_25 : decode cX6_rankOf 25 = .ok (.aload_n 0, 1) := by decide +kernel
theorem dX6_rankOf_26 : decode cX6_rankOf 26 = .ok (.getfield 38, 3) := by decide +kernel
theorem dX6_rankOf_29 : decode cX6_rankOf 29 = .ok (.iload_n 3, 1) := by decide +kernel
theorem dX6_rankOf_30 : decode cX6_rankOf 30 = .ok (.iaload, 1) := by decide +kernel
theorem dX6_rankOf_31 : decode cX6_rankOf 31 = .ok (.ifCond .eq 7, 3) := by decide +kernel
theorem dX6_rankOf_34 : decode cX6_rankOf 34 = .ok (.iconst 1, 1) := by decide +kernel
theorem dX6_rankOf_35 : decode cX6_rankOf 35 = .ok (.goto 4, 3) := by decide +kernel
theorem dX6_rankOf_38 : decode cX6_rankOf 38 = .ok (.iconst 0, 1) := by decide +kernel
theorem dX6_rankOf_39 : decode cX6_rankOf 39 = .ok (.istore_n 2, 1) := by decide +kernel
theorem dX6_rankOf_40 : decode cX6_rankOf 40 = .ok (.iinc 3 1, 3) := by decide +kernel
theorem dX6_rankOf_43 : decode cX6_rankOf 43 = .ok (.goto (-34), 3) := by decide +kernel
theorem dX6_rankOf_46 : decode cX6_rankOf 46 = .ok (.aload_n 0, 1) := by decide +kernel
theorem dX6_rankOf_47 : decode cX6_rankOf 47 = .ok (.invokevirtual 133, 3) := by decide +kernel
theorem dX6_rankOf_50 : decode cX6_rankOf 50 = .ok (.ifCond .le 7, 3) := by decide +kernel
theorem dX6_rankOf_53 : decode cX6_rankOf 53 = .ok (.iconst 2, 1) := by decide +kernel
theorem dX6_rankOf_54 : decode cX6_rankOf 54 = .ok (.goto 12, 3) := by decide +kernel
theorem dX6_rankOf_57 : decode cX6_rankOf 57 = .ok (.iload_n 2, 1) := by decide +kernel
theorem dX6_rankOf_58 : decode cX6_rankOf 58 = .ok (.ifCond .eq 7, 3) := by decide +kernel
theorem dX6_rankOf_61 : decode cX6_rankOf 61 = .ok (.iconst 1, 1) := by decide +kernel
theorem dX6_rankOf_62 : decode cX6_rankOf 62 = .ok (.goto 4, 3) := by decide +kernel
theorem dX6_rankOf_65 : decode cX6_rankOf 65 = .ok (.iconst 0, 1) := by decide +kernel
theorem dX6_rankOf_66 : decode cX6_rankOf 66 = .ok (.ireturn, 1) := by decide +kernel
set_option maxRecDepth 20000 in
theorem ggX6_indexOf_X6_findPeriods : GoodIn wsX6_indexOf wsX6_findPeriods := goodIn_r _ [5, 6, 7, 8, 9, 10, 11, 12, 13, 4, 14, 15, 16, 17, 18, 19, 20, 21, 22, 23, 24, 25, 26, 27, 28, 29, 30, 38, 39, 40, 41, 42, 43, 44, 45, 46, 47, 48, 49, 50, 51, 52] (by decide +kernel) (by decide +kernel)
set_option maxRecDepth 20000 in
theorem gX6_indexOf_X6_findPeriods : GoodIn wsX6_indexOf (wsV RX6 130 RX6 yX6_findPeriods wsX6_findPeriods) := goodIn_app (goodIn_of _ (by decide +kernel)) ggX6_indexOf_X6_findPeriods
set_option maxRecDepth 20000 in
theorem ggX6_indexOf_X6_commonDeterminant : GoodIn wsX6_indexOf wsX6_commonDeterminant := goodIn_r _ [34, 6, 8, 35, 36, 4, 37, 38, 39, 40, 41, 42, 43, 44, 45, 46, 47, 48, 49, 50, 51, 52] (by decide +kernel) (by decide +kernel)
set_option maxRecDepth 20000 in
theorem gX6_indexOf_X6_commonDeterminant : GoodIn wsX6_indexOf (wsV RX6 133 RX6 yX6_commonDeterminant wsX6_commonDeterminant) := goodIn_app (goodIn_of _ (by decide +kernel)) ggX6_indexOf_X6_commonDeterminant
theorem dX6_indexOf_0 : decode cX6_indexOf 0 = .ok (.aload_n 0, 1) := by decide +kernel
theorem dX6_indexOf_1 : decode cX6_indexOf 1 = .ok (.iload_n 1, 1) := by decide +kernel
theorem dX6_indexOf_2 : decode cX6_indexOf 2 = .ok (.invokevirtual 130, 3) := by decide +kernel
theorem dX6_indexOf_5 : decode cX6_indexOf 5 = .ok (.aload_n 0, 1) := by decide +kernel
theorem dX6_indexOf_6 : decode cX6_indexOf 6 = .ok (.invokevirtual 133, 3) := by decide +kernel
theorem dX6_indexOf_9 : decode cX6_indexOf 9 = .ok (.istore_n 2, 1) := by decide +kernel
theorem dX6_indexOf_10 : decode cX6_indexOf 10 = .ok (.iload_n 2, 1) := by decide +kernel
theorem dX6_indexOf_11 : decode cX6_indexOf 11 = .ok (.ifCond .ne 7, 3) := by decide +kernel
theorem dX6_indexOf_14 : decode cX6_indexOf 14 = .ok (.iconst (-1), 1) := by decide +kernel
theorem dX6_indexOf_15 : decode cX6_indexOf 15 = .ok (.goto 4, 3) := by decide +kernel
theorem dX6_indexOf_18 : decode cX6_indexOf 18 = .ok (.iload_n 2, 1) := by decide +kernel
theorem dX6_indexOf_19 : decode cX6_indexOf 19 = .ok (.ireturn, 1) := by decide +kernel
set_option maxRecDepth 20000 in
theorem ggX6_rank_X6_isVertex : GoodIn wsX6_rank wsX6_isVertex := goodIn_r _ [5, 6, 7, 8, 4, 9, 54, 55, 56, 57, 58, 59, 60, 61, 62, 63, 64, 65, 66, 67, 68] (by decide +kernel) (by decide +kernel)
set_option maxRecDepth 20000 in
theorem gX6_rank_X6_isVertex : GoodIn wsX6_rank (wsV RX6 68 RX6 yX6_isVertex wsX6_isVertex) := goodIn_app (goodIn_of _ (by decide +kernel)) ggX6_rank_X6_isVertex
set_option maxRecDepth 20000 in
theorem ggX6_rank_X6_rankOf : GoodIn wsX6_rank wsX6_rankOf := goodIn_r _ [13, 6, 14, 15, 16, 17, 4, 18, 19, 20, 21, 22, 23, 24, 25, 26, 27, 28, 29, 30, 31, 32, 33, 34, 35, 36, 37, 38, 39, 40, 41, 42, 43, 44, 45, 46, 47, 48, 54, 55, 56, 57, 58, 59, 60, 61, 62, 63, 64, 65, 66, 67, 68] (by decide +kernel) (by decide +kernel)
set_option maxRecDepth 20000 in
theorem gX6_rank_X6_rankOf : GoodIn wsX6_rank (wsV RX6 136 RX6 yX6_rankOf wsX6_rankOf) := goodIn_app (goodIn_of _ (by decide +kernel)) ggX6_rank_X6_rankOf
set_option maxRecDepth 20000 in
theorem ggX6_rank_X6_error : GoodIn wsX6_rank wsX6_error := goodIn_r _ [52, 53, 54, 55, 56, 57, 58, 59, 60, 61, 62, 63, 64, 65, 66, 67, 68] (by decide +kernel) (by decide +kernel)
set_option maxRecDepth 20000 in
theorem gX6_rank_X6_error : GoodIn wsX6_rank (wsV RX6 49 RX6 yX6_error wsX6_error) := goodIn_app (goodIn_of _ (by decide +kernel)) ggX6_rank_X6_error
theorem dX6_rank_0 : decode cX6_rank 0 = .ok (.aload_n 0, 1) := by decide +kernel
theorem dX6_rank_1 : decode cX6_rank 1 = .ok (.iload_n 1, 1) := by decide +kernel
theorem dX6_rank_2 : decode cX6_rank 2 = .ok (.invokevirtual 68, 3) := by decide +kernel
theorem dX6_rank_5 : decode cX6_rank 5 = .ok (.ifCond .eq 11, 3) := by decide +kernel
theorem dX6_rank_8 : decode cX6_rank 8 = .ok (.aload_n 0, 1) := by decide +kernel
theorem dX6_rank_9 : decode cX6_rank 9 = .ok (.iload_n 1, 1) := by decide +kernel
theorem dX6_rank_10 : decode cX6_rank 10 = .ok (.invokevirtual 136, 3) := by decide +kernel
theorem dX6_rank_13 : decode cX6_rank 13 = .ok (.goto 9, 3) := by decide +kernel
theorem dX6_rank_16 : decode cX6_rank 16 = .ok (.aload_n 0, 1) := by decide +kernel
theorem dX6_rank_17 : decode cX6_rank 17 = .ok (.bipush (-2), 2) := by decide +kernel
theorem dX6_rank_19 : decode cX6_rank 19 = .ok (.invokevirtual 49, 3) := by decide +kernel
theorem dX6_rank_22 : decode cX6_rank 22 = .ok (.ireturn, 1) := by decide +kernel
set_option maxRecDepth 20000 in
theorem ggX6_index_X6_isVertex : GoodIn wsX6_index wsX6_isVertex := goodIn_r _ [5, 6, 7, 8, 4, 9, 54, 55, 56, 57, 58, 59, 60, 61, 62, 63, 64, 65, 66, 67, 68] (by decide +kernel) (by decide +kernel)
set_option maxRecDepth 20000 in
theorem gX6_index_X6_isVertex : GoodIn wsX6_index (wsV RX6 68 RX6 yX6_isVertex wsX6_isVertex) := goodIn_app (goodIn_of _ (by decide +kernel)) ggX6_index_X6_isVertex
set_option maxRecDepth 20000 in
theorem ggX6_index_X6_indexOf : GoodIn wsX6_index wsX6_indexOf := goodIn_r _ [13, 14, 15, 16, 4, 17, 6, 18, 19, 20, 21, 22, 23, 24, 25, 26, 27, 28, 29, 30, 31, 32, 33, 34, 35, 36, 37, 38, 39, 40, 41, 42, 43, 44, 45, 46, 47, 48, 54, 55, 56, 57, 58, 59, 60, 61, 62, 63, 64, 65, 66, 67, 68] (by decide +kernel) (by decide +kernel)
set_option maxRecDepth 20000 in
theorem gX6_index_X6_indexOf : GoodIn wsX6_index (wsV RX6 139 RX6 yX6_indexOf wsX6_indexOf) := goodIn_app (goodIn_of _ (by decide +kernel)) ggX6_index_X6_indexOf
set_option maxRecDepth 20000 in
theorem ggX6_index_X6_error : GoodIn wsX6_index wsX6_error := goodIn_r _ [52, 53, 54, 55, 56, 57, 58, 59, 60, 61, 62, 63, 64, 65, 66, 67, 68] (by decide +kernel) (by decide +kernel)
set_option maxRecDepth 20000 in
theorem gX6_index_X6_error : GoodIn wsX6_index (wsV RX6 49 RX6 yX6_error wsX6_error) := goodIn_app (goodIn_of _ (by decide +kernel)) ggX6_index_X6_error
theorem dX6_index_0 : decode cX6_index 0 = .ok (.aload_n 0, 1) := by decide +kernel
theorem dX6_index_1 : decode cX6_index 1 = .ok (.iload_n 1, 1) := by decide +kernel
theorem dX6_index_2 : decode cX6_index 2 = .ok (.invokevirtual 68, 3) := by decide +kernel
theorem dX6_index_5 : decode cX6_index 5 = .ok (.ifCond .eq 11, 3) := by decide +kernel
theorem dX6_index_8 : decode cX6_index 8 = .ok (.aload_n 0, 1) := by decide +kernel
theorem dX6_index_9 : decode cX6_index 9 = .ok (.iload_n 1, 1) := by decide +kernel
theorem dX6_index_10 : decode cX6_index 10 = .ok (.invokevirtual 139, 3) := by decide +kernel
theorem dX6_index_13 : decode cX6_index 13 = .ok (.goto 9, 3) := by decide +kernel
theorem dX6_index_16 : decode cX6_index 16 = .ok (.aload_n 0, 1) := by decide +kernel
theorem dX6_index_17 : decode cX6_index 17 = .ok (.bipush (-2), 2) := by decide +kernel
theorem dX6_index_19 : decode cX6_index 19 = .ok (.invokevirtual 49, 3) := by decide +kernel
theorem dX6_index_22 : decode cX6_index 22 = .ok (.ireturn, 1) := by decide +kernel
set_option maxRecDepth 20000 in
theorem ggX6_connected_X6_spread : GoodIn wsX6_connected wsX6_spread := goodIn_r _ [7, 2, 8, 9, 1, 10, 11, 12, 6, 13, 14, 15, 16, 17, 18, 19, 20, 21, 22, 23, 24, 25, 26, 27, 28, 29, 30, 31, 32, 33, 34, 35, 36, 37, 38, 39, 40] (by decide +kernel) (by decide +kernel)
set_option maxRecDepth 20000 in
theorem gX6_connected_X6_spread : GoodIn wsX6_connected (wsV RX6 123 RX6 yX6_spread wsX6_spread) := goodIn_app (goodIn_of _ (by decide +kernel)) ggX6_connected_X6_spread
theorem dX6_connected_0 : decode cX6_connected 0 = .ok (.aload_n 0, 1) := by decide +kernel
theorem dX6_connected_1 : decode cX6_connected 1 = .ok (.iconst 0, 1) := by decide +kernel
theorem dX6_connected_2 : decode cX6_connected 2 = .ok (.invokevirtual 123, 3) := by decide +kernel
theorem dX6_connected_5 : decode cX6_connected 5 = .ok (.iconst 1, 1) := by decide +kernel
theorem dX6_connected_6 : decode cX6_connected 6 = .ok (.istore_n 1, 1) := by decide +kernel
theorem dX6_connected_7 : decode cX6_connected 7 = .ok (.iconst 0, 1) := by decide +kernel
theorem dX6_connected_8 : decode cX6_connected 8 = .ok (.istore_n 2, 1) := by decide +kernel
theorem dX6_connected_9 : decode cX6_connected 9 = .ok (.iload_n 2, 1) := by decide +kernel
theorem dX6_connected_10 : decode cX6_connected 10 = .ok (.aload_n 0, 1) := by decide +kernel
theorem dX6_connected_11 : decode cX6_connected 11 = .ok (.getfield 7, 3) := by decide +kernel
theorem dX6_connected_14 : decode cX6_connected 14 = .ok (.iconst 0, 1) := by decide +kernel
theorem dX6_connected_15 : decode cX6_connected 15 = .ok (.iaload, 1) := by decide +kernel
theorem dX6_connected_16 : decode cX6_connected 16 = .ok (.if_icmp .ge 28, 3) := by decide +kernel
theorem dX6_connected_19 : decode cX6_connected 19 = .ok (.iload_n 1, 1) := by decide +kernel
theorem dX6_connected_20 : decode cX6_connected 20 = .ok (.ifCond .eq 16, 3) := by decide +kernel
theorem dX6_connected_23 : decode cX6_connected 23 = .ok (.aload_n 0, 1) := by decide +kernel
theorem dX6_connected_24 : decode cX6_connected 24 = .ok (.getfield 34, 3) := by decide +kernel
theorem dX6_connected_27 : decode cX6_connected 27 = .ok (.iload_n 2, 1) := by decide +kernel
theorem dX6_connected_28 : decode cX6_connected 28 = .ok (.baload, 1) := by decide +kernel
theorem dX6_connected_29 : decode cX6_connected 29 = .ok (.ifCond .eq 7, 3) := by decide +kernel
theorem dX6_connected_32 : decode cX6_connected 32 = .ok (.iconst 1, 1) := by decide +kernel
theorem dX6_connected_33 : decode cX6_connected 33 = .ok (.goto 4, 3) := by decide +kernel
theorem dX6_connected_36 : decode cX6_connected 36 = .ok (.iconst 0, 1) := by decide +kernel
theorem dX6_connected_37 : decode cX6_connected 37 = .ok (.istore_n 1, 1) := by decide +kernel
theorem dX6_connected_38 : decode cX6_connected 38 = .ok (.iinc 2 1, 3) := by decide +kernel
theorem dX6_connected_41 : decode cX6_connected 41 = .ok (.goto (-32), 3) := by decide +kernel
theorem dX6_connected_44 : decode cX6_connected 44 = .ok (.iload_n 1, 1) := by decide +kernel
theorem dX6_connected_45 : decode cX6_connected 45 = .ok (.ireturn, 1) := by decide +kernel
set_option maxRecDepth 20000 in
theorem ggX6_isConnected_X6_connected : GoodIn wsX6_isConnected wsX6_connected := goodIn_r _ [5, 6, 7, 8, 9, 10, 4, 11, 12, 13, 14, 15, 16, 17, 18, 19, 20, 21, 22, 23, 24, 25, 26, 27, 28, 29, 30, 31, 32, 33, 34, 35, 36, 37, 38, 39, 40, 41, 42, 43, 44] (by decide +kernel) (by decide +kernel)
set_option maxRecDepth 20000 in
theorem gX6_isConnected_X6_connected : GoodIn wsX6_isConnected (wsV RX6 142 RX6 yX6_connected wsX6_connected) := goodIn_app (goodIn_of _ (by decide +kernel)) ggX6_isConnected_X6_connected
theorem dX6_isConnected_0 : decode cX6_isConnected 0 = .ok (.aload_n 0, 1) := by decide +kernel
theorem dX6_isConnected_1 : decode cX6_isConnected 1 = .ok (.invokevirtual 142, 3) := by decide +kernel
theorem dX6_isConnected_4 : decode cX6_isConnected 4 = .ok (.ifCond .eq 7, 3) := by decide +kernel
theorem dX6_isConnected_7 : decode cX6_isConnected 7 = .ok (.iconst 1, 1) := by decide +kernel
theorem dX6_isConnected_8 : decode cX6_isConnected 8 = .ok (.goto 4, 3) := by decide +kernel
theorem dX6_isConnected_11 : decode cX6_isConnected 11 = .ok (.iconst 0, 1) := by decide +kernel
theorem dX6_isConnected_12 : decode cX6_isConnected 12 = .ok (.ireturn, 1) := by decide +kernel
theorem dX6_cell_0 : decode cX6_cell 0 = .ok (.bipush 8, 2) := by decide +kernel
theorem dX6_cell_2 : decode cX6_cell 2 = .ok (.iload_n 0, 1) := by decide +kernel
theorem dX6_cell_3 : decode cX6_cell 3 = .ok (.imul, 1) := by decide +kernel
theorem dX6_cell_4 : decode cX6_cell 4 = .ok (.iload_n 1, 1) := by decide +kernel
theorem dX6_cell_5 : decode cX6_cell 5 = .ok (.iadd, 1) := by decide +kernel
theorem dX6_cell_6 : decode cX6_cell 6 = .ok (.ireturn, 1) := by decide +kernel
set_option maxRecDepth 20000 in
theorem ggX6_makeRows_X6_of : GoodIn wsX6_makeRows wsX6_of := goodIn_r _ [7, 2, 23, 24, 25, 26, 27, 28, 29, 30, 31, 32, 33, 34, 35, 36, 37] (by decide +kernel) (by decide +kernel)
set_option maxRecDepth 20000 in
theorem gX6_makeRows_X6_of : GoodIn wsX6_makeRows (wsV RX6 57 RX6 yX6_of wsX6_of) := goodIn_app (goodIn_of _ (by decide +kernel)) ggX6_makeRows_X6_of
set_option maxRecDepth 20000 in
theorem ggX6_makeRows_X6_leadsTo : GoodIn wsX6_makeRows wsX6_leadsTo := goodIn_r _ [11, 3, 4, 5, 6, 7, 2, 23, 24, 25, 26, 27, 28, 29, 30, 31, 32, 33, 34, 35, 36, 37] (by decide +kernel) (by decide +kernel)
set_option maxRecDepth 20000 in
theorem gX6_makeRows_X6_leadsTo : GoodIn wsX6_makeRows (wsV RX6 96 RX6 yX6_leadsTo wsX6_leadsTo) := goodIn_app (goodIn_of _ (by decide +kernel)) ggX6_makeRows_X6_leadsTo
set_option maxRecDepth 20000 in
theorem ggX6_makeRows_X6_cell : GoodIn wsX6_makeRows wsX6_cell := goodIn_r _ [14] (by decide +kernel) (by decide +kernel)
set_option maxRecDepth 20000 in
theorem gX6_makeRows_X6_cell : GoodIn wsX6_makeRows (va_wsS RX6 146 yX6_cell wsX6_cell) := goodIn_app (goodIn_of _ (by decide +kernel)) ggX6_makeRows_X6_cell
set_option maxRecDepth 20000 in
theorem ggX6_makeRows_X6_endX : GoodIn wsX6_makeRows wsX6_endX := goodIn_r _ [18, 3, 4, 5, 6, 7, 2, 23, 24, 25, 26, 27, 28, 29, 30, 31, 32, 33, 34, 35, 36, 37] (by decide +kernel) (by decide +kernel)
set_option maxRecDepth 20000 in
theorem gX6_makeRows_X6_endX : GoodIn wsX6_makeRows (wsV RX6 106 RX6 yX6_endX wsX6_endX) := goodIn_app (goodIn_of _ (by decide +kernel)) ggX6_makeRows_X6_endX
set_option maxRecDepth 20000 in
theorem ggX6_makeRows_X6_endY : GoodIn wsX6_makeRows wsX6_endY := goodIn_r _ [22, 3, 4, 5, 6, 7, 2, 23, 24, 25, 26, 27, 28, 29, 30, 31, 32, 33, 34, 35, 36, 37] (by decide +kernel) (by decide +kernel)
set_option maxRecDepth 20000 in
theorem gX6_makeRows_X6_endY : GoodIn wsX6_makeRows (wsV RX6 109 RX6 yX6_endY wsX6_endY) := goodIn_app (goodIn_of _ (by decide +kernel)) ggX6_makeRows_X6_endY
theorem dX6_makeRows_0 : decode cX6_makeRows 0 = .ok (.iconst 0, 1) := by decide +kernel
theorem dX6_makeRows_1 : decode cX6_makeRows 1 = .ok (.istore_n 1, 1) := by decide +kernel
theorem dX6_makeRows_2 : decode cX6_makeRows 2 = .ok (.iload_n 1, 1) := by decide +kernel
theorem dX6_makeRows_3 : decode cX6_makeRows 3 = .ok (.bipush 56, 2) := by decide +kernel
theorem dX6_makeRows_5 : decode cX6_makeRows 5 = .ok (.if_icmp .ge 16, 3) := by decide +kernel
theorem dX6_makeRows_8 : decode cX6_makeRows 8 = .ok (.aload_n 0, 1) := by decide +kernel
theorem dX6_makeRows_9 : decode cX6_makeRows 9 = .ok (.getfield 41, 3) := by decide +kernel
theorem dX6_makeRows_12 : decode cX6_makeRows 12 = .ok (.iload_n 1, 1) := by decide +kernel
theorem dX6_makeRows_13 : decode cX6_makeRows 13 = .ok (.lconst 0, 1) := by decide +kernel
theorem dX6_makeRows_14 : decode cX6_makeRows 14 = .ok (.lastore, 1) := by decide +kernel
theorem dX6_makeRows_15 : decode cX6_makeRows 15 = .ok (.iinc 1 1, 3) := by decide +kernel
theorem dX6_makeRows_18 : decode cX6_makeRows 18 = .ok (.goto (-16), 3) := by decide +kernel
theorem dX6_makeRows_21 : decode cX6_makeRows 21 = .ok (.iconst 0, 1) := by decide +kernel
theorem dX6_makeRows_22 : decode cX6_makeRows 22 = .ok (.istore_n 1, 1) := by decide +kernel
theorem dX6_makeRows_23 : decode cX6_makeRows 23 = .ok (.iload_n 1, 1) := by decide +kernel
theorem dX6_makeRows_24 : decode cX6_makeRows 24 = .ok (.iconst 2, 1) := by decide +kernel
theorem dX6_makeRows_25 : decode cX6_makeRows 25 = .ok (.aload_n 0, 1) := by decide +kernel
theorem dX6_makeRows_26 : decode cX6_makeRows 26 = .ok (.getfield 7, 3) := by decide +kernel
theorem dX6_makeRows_29 : decode cX6_makeRows 29 = .ok (.iconst 1, 1) := by decide +kernel
theorem dX6_makeRows_30 : decode cX6_makeRows 30 = .ok (.iaload, 1) := by decide +kernel
theorem dX6_makeRows_31 : decode cX6_makeRows 31 = .ok (.imul, 1) := by decide +kernel
theorem dX6_makeRows_32 : decode cX6_makeRows 32 = .ok (.if_icmp .ge 117, 3) := by decide +kernel
theorem dX6_makeRows_35 : decode cX6_makeRows 35 = .ok (.aload_n 0, 1) := by decide +kernel
theorem dX6_makeRows_36 : decode cX6_makeRows 36 = .ok (.iload_n 1, 1) := by decide +kernel
theorem dX6_makeRows_37 : decode cX6_makeRows 37 = .ok (.iconst 2, 1) := by decide +kernel
theorem dX6_makeRows_38 : decode cX6_makeRows 38 = .ok (.idiv, 1) := by decide +kernel
theorem dX6_makeRows_39 : decode cX6_makeRows 39 = .ok (.iload_n 1, 1) := by decide +kernel
theorem dX6_makeRows_40 : decode cX6_makeRows 40 = .ok (.iconst 2, 1) := by decide +kernel
theorem dX6_makeRows_41 : decode cX6_makeRows 41 = .ok (.irem, 1) := by decide +kernel
theorem dX6_makeRows_42 : decode cX6_makeRows 42 = .ok (.invokevirtual 57, 3) := by decide +kernel
theorem dX6_makeRows_45 : decode cX6_makeRows 45 = .ok (.istore_n 2, 1) := by decide +kernel
theorem dX6_makeRows_46 : decode cX6_makeRows 46 = .ok (.aload_n 0, 1) := by decide +kernel
theorem dX6_makeRows_47 : decode cX6_makeRows 47 = .ok (.iload_n 1, 1) := by decide +kernel
theorem dX6_makeRows_48 : decode cX6_makeRows 48 = .ok (.invokevirtual 96, 3) := by decide +kernel
theorem dX6_makeRows_51 : decode cX6_makeRows 51 = .ok (.istore_n 3, 1) := by decide +kernel
theorem dX6_makeRows_52 : decode cX6_makeRows 52 = .ok (.iload_n 2, 1) := by decide +kernel
theorem dX6_makeRows_53 : decode cX6_makeRows 53 = .ok (.ifCond .le 64, 3) := by decide +kernel
theorem dX6_makeRows_56 : decode cX6_makeRows 56 = .ok (.aload_n 0, 1) := by decide +kernel
theorem dX6_makeRows_57 : decode cX6_makeRows 57 = .ok (.getfield 41, 3) := by decide +kernel
theorem dX6_makeRows_60 : decode cX6_makeRows 60 = .ok (.iload_n 2, 1) := by decide +kernel
theorem dX6_makeRows_61 : decode cX6_makeRows 61 = .ok (.iconst 1, 1) := by decide +kernel
theorem dX6_makeRows_62 : decode cX6_makeRows 62 = .ok (.isub, 1) := by decide +kernel
theorem dX6_makeRows_63 : decode cX6_makeRows 63 = .ok (.iload_n 2, 1) := by decide +kernel
theorem dX6_makeRows_64 : decode cX6_makeRows 64 = .ok (.iconst 1, 1) := by decide +kernel
theorem dX6_makeRows_65 : decode cX6_makeRows 65 = .ok (.isub, 1) := by decide +kernel
theorem dX6_makeRows_66 : decode cX6_makeRows 66 = .ok (.invokestatic 146, 3) := by decide +kernel
theorem dX6_makeRows_69 : decode cX6_makeRows 69 = .ok (.dup2, 1) := by decide +kernel
theorem dX6_makeRows_70 : decode cX6_makeRows 70 = .ok (.laload, 1) := by decide +kernel
theorem dX6_makeRows_71 : decode cX6_makeRows 71 = .ok (.lconst 1, 1) := by decide +kernel
theorem dX6_makeRows_72 : decode cX6_makeRows 72 = .ok (.ladd, 1) := by decide +kernel
theorem dX6_makeRows_73 : decode cX6_makeRows 73 = .ok (.lastore, 1) := by decide +kernel
theorem dX6_makeRows_74 : decode cX6_makeRows 74 = .ok (.aload_n 0, 1) := by decide +kernel
theorem dX6_makeRows_75 : decode cX6_makeRows 75 = .ok (.getfield 41, 3) := by decide +kernel
theorem dX6_makeRows_78 : decode cX6_makeRows 78 = .ok (.iload_n 2, 1) := by decide +kernel
theorem dX6_makeRows_79 : decode cX6_makeRows 79 = .ok (.iconst 1, 1) := by decide +kernel
theorem dX6_makeRows_80 : decode cX6_makeRows 80 = .ok (.isub, 1) := by decide +kernel
theorem dX6_makeRows_81 : decode cX6_makeRows 81 = .ok (.iconst 5, 1) := by decide +kernel
theorem dX6_makeRows_82 : decode cX6_makeRows 82 = .ok (.invokestatic 146, 3) := by decide +kernel
theorem dX6_makeRows_85 : decode cX6_makeRows 85 = .ok (.dup2, 1) := by decide +kernel
theorem dX6_makeRows_86 : decode cX6_makeRows 86 = .ok (.laload, 1) := by decide +kernel
theorem dX6_makeRows_87 : decode cX6_makeRows 87 = .ok (.aload_n 0, 1) := by decide +kernel
theorem dX6_makeRows_88 : decode cX6_makeRows 88 = .ok (.iload_n 1, 1) := by decide +kernel
theorem dX6_makeRows_89 : decode cX6_makeRows 89 = .ok (.invokevirtual 106, 3) := by decide +kernel
theorem dX6_makeRows_92 : decode cX6_makeRows 92 = .ok (.i2l, 1) := by decide +kernel
theorem dX6_makeRows_93 : decode cX6_makeRows 93 = .ok (.ladd, 1) := by decide +kernel
theorem dX6_makeRows_94 : decode cX6_makeRows 94 = .ok (.lastore, 1) := by decide +kernel
theorem dX6_makeRows_95 : decode cX6_makeRows 95 = .ok (.aload_n 0, 1) := by decide +kernel
theorem dX6_makeRows_96 : decode cX6_makeRows 96 = .ok (.getfield 41, 3) := by decide +kernel
theorem dX6_makeRows_99 : decode cX6_makeRows 99 = .ok (.iload_n 2, 1) := by decide +kernel
theorem dX6_makeRows_100 : decode cX6_makeRows 100 = .ok (.iconst 1, 1) := by decide +kernel
theorem dX6_makeRows_101 : decode cX6_makeRows 101 = .ok (.isub, 1) := by decide +kernel
theorem dX6_makeRows_102 : decode cX6_makeRows 102 = .ok (.bipush 6, 2) := by decide +kernel
theorem dX6_makeRows_104 : decode cX6_makeRows 104 = .ok (.invokestatic 146, 3) := by decide +kernel
theorem dX6_makeRows_107 : decode cX6_makeRows 107 = .ok (.dup2, 1) := by decide +kernel
theorem dX6_makeRows_108 : decode cX6_makeRows 108 = .ok (.laload, 1) := by decide +kernel
theorem dX6_makeRows_109 : decode cX6_makeRows 109 = .ok (.aload_n 0, 1) := by decide +kernel
theorem dX6_makeRows_110 : decode cX6_makeRows 110 = .ok (.iload_n 1, 1) := by decide +kernel
theorem dX6_makeRows_111 : decode cX6_makeRows 111 = .ok (.invokevirtual 109, 3) := by decide +kernel
theorem dX6_makeRows_114 : decode cX6_makeRows 114 = .ok (.i2l, 1) := by decide +kernel
theorem dX6_makeRows_115 : decode cX6_makeRows 115 = .ok (.ladd, 1) := by decide +kernel
theorem dX6_makeRows_116 : decode cX6_makeRows 116 = .ok (.lastore, 1) := by decide +kernel
theorem dX6_makeRows_117 : decode cX6_makeRows 117 = .ok (.iload_n 2, 1) := by decide +kernel
theorem dX6_makeRows_118 : decode cX6_makeRows 118 = .ok (.ifCond .le 25, 3) := by decide +kernel
theorem dX6_makeRows_121 : decode cX6_makeRows 121 = .ok (.iload_n 3, 1) := by decide +kernel
theorem dX6_makeRows_122 : decode cX6_makeRows 122 = .ok (.ifCond .le 21, 3) := by decide +kernel
theorem dX6_makeRows_125 : decode cX6_makeRows 125 = .ok (.aload_n 0, 1) := by decide +kernel
theorem dX6_makeRows_126 : decode cX6_makeRows 126 = .ok (.getfield 41, 3) := by decide +kernel
theorem dX6_makeRows_129 : decode cX6_makeRows 129 = .ok (.iload_n 2, 1) := by decide +kernel
theorem dX6_makeRows_130 : decode cX6_makeRows 130 = .ok (.iconst 1, 1) := by decide +kernel
theorem dX6_makeRows_131 : decode cX6_makeRows 131 = .ok (.isub, 1) := by decide +kernel
theorem dX6_makeRows_132 : decode cX6_makeRows 132 = .ok (.iload_n 3, 1) := by decide +kernel
theorem dX6_makeRows_133 : decode cX6_makeRows 133 = .ok (.iconst 1, 1) := by decide +kernel
theorem dX6_makeRows_134 : decode cX6_makeRows 134 = .ok (.isub, 1) := by decide +kernel
theorem dX6_makeRows_135 : decode cX6_makeRows 135 = .ok (.invokestatic 146, 3) := by decide +kernel
theorem dX6_makeRows_138 : decode cX6_makeRows 138 = .ok (.dup2, 1) := by decide +kernel
theorem dX6_makeRows_139 : decode cX6_makeRows 139 = .ok (.laload, 1) := by decide +kernel
theorem dX6_makeRows_140 : decode cX6_makeRows 140 = .ok (.lconst 1, 1) := by decide +kernel
theorem dX6_makeRows_141 : decode cX6_makeRows 141 = .ok (.lsub, 1) := by decide +kernel
theorem dX6_makeRows_142 : decode cX6_makeRows 142 = .ok (.lastore, 1) := by decide +kernel
theorem dX6_makeRows_143 : decode cX6_makeRows 143 = .ok (.iinc 1 1, 3) := by decide +kernel
theorem dX6_makeRows_146 : decode cX6_makeRows 146 = .ok (.goto (-123), 3) := by decide +kernel
theorem dX6_makeRows_149 : decode cX6_makeRows 149 = .ok (.return_, 1) := by decide +kernel
set_option maxRecDepth 20000 in
theorem ggX6_place_X6_makeRows : GoodIn wsX6_place wsX6_makeRows := goodIn_r _ [8, 3, 2, 9, 10, 11, 7, 12, 13, 14, 15, 16, 17, 18, 19, 20, 21, 22, 23, 24, 25, 26, 27, 28, 29, 30, 31, 32, 33, 34, 35, 36, 37, 38, 39, 40, 41, 42] (by decide +kernel) (by decide +kernel)
set_option maxRecDepth 20000 in
theorem gX6_place_X6_makeRows : GoodIn wsX6_place (wsV RX6 149 RX6 yX6_makeRows wsX6_makeRows) := goodIn_app (goodIn_of _ (by decide +kernel)) ggX6_place_X6_makeRows
set_option maxRecDepth 20000 in
theorem ggX6_place_X6_cell : GoodIn wsX6_place wsX6_cell := goodIn_r _ [19] (by decide +kernel) (by decide +kernel)
set_option maxRecDepth 20000 in
theorem gX6_place_X6_cell : GoodIn wsX6_place (va_wsS RX6 146 yX6_cell wsX6_cell) := goodIn_app (goodIn_of _ (by decide +kernel)) ggX6_place_X6_cell
theorem dX6_place_0 : decode cX6_place 0 = .ok (.aload_n 0, 1) := by decide +kernel
theorem dX6_place_1 : decode cX6_place 1 = .ok (.invokevirtual 149, 3) := by decide +kernel
theorem dX6_place_4 : decode cX6_place 4 = .ok (.aload_n 0, 1) := by decide +kernel
theorem dX6_place_5 : decode cX6_place 5 = .ok (.lconst 1, 1) := by decide +kernel
theorem dX6_place_6 : decode cX6_place 6 = .ok (.putfield 152, 3) := by decide +kernel
theorem dX6_place_9 : decode cX6_place 9 = .ok (.iconst 0, 1) := by decide +kernel
theorem dX6_place_10 : decode cX6_place 10 = .ok (.istore_n 1, 1) := by decide +kernel
theorem dX6_place_11 : decode cX6_place 11 = .ok (.iload_n 1, 1) := by decide +kernel
theorem dX6_place_12 : decode cX6_place 12 = .ok (.aload_n 0, 1) := by decide +kernel
theorem dX6_place_13 : decode cX6_place 13 = .ok (.getfield 7, 3) := by decide +kernel
theorem dX6_place_16 : decode cX6_place 16 = .ok (.iconst 0, 1) := by decide +kernel
theorem dX6_place_17 : decode cX6_place 17 = .ok (.iaload, 1) := by decide +kernel
theorem dX6_place_18 : decode cX6_place 18 = .ok (.iconst 1, 1) := by decide +kernel
theorem dX6_place_19 : decode cX6_place 19 = .ok (.isub, 1) := by decide +kernel
theorem dX6_place_20 : decode cX6_place 20 = .ok (.if_icmp .ge 128, 3) := by decide +kernel
theorem dX6_place_23 : decode cX6_place 23 = .ok (.aload_n 0, 1) := by decide +kernel
theorem dX6_place_24 : decode cX6_place 24 = .ok (.getfield 41, 3) := by decide +kernel
theorem dX6_place_27 : decode cX6_place 27 = .ok (.iload_n 1, 1) := by decide +kernel
theorem dX6_place_28 : decode cX6_place 28 = .ok (.iload_n 1, 1) := by decide +kernel
theorem dX6_place_29 : decode cX6_place 29 = .ok (.invokestatic 146, 3) := by decide +kernel
theorem dX6_place_32 : decode cX6_place 32 = .ok (.laload, 1) := by decide +kernel
theorem dX6_place_33 : decode cX6_place 33 = .ok (.lstore_n 2, 1) := by decide +kernel
theorem dX6_place_34 : decode cX6_place 34 = .ok (.iconst 0, 1) := by decide +kernel
theorem dX6_place_35 : decode cX6_place 35 = .ok (.istore 4, 2) := by decide +kernel
theorem dX6_place_37 : decode cX6_place 37 = .ok (.iload 4, 2) := by decide +kernel
theorem dX6_place_39 : decode cX6_place 39 = .ok (.aload_n 0, 1) := by decide +kernel
theorem dX6_place_40 : decode cX6_place 40 = .ok (.getfield 7, 3) := by decide +kernel
theorem dX6_place_43 : decode cX6_place 43 = .ok (.iconst 0, 1) := by decide +kernel
theorem dX6_place_44 : decode cX6_place 44 = .ok (.iaload, 1) := by decide +kernel
theorem dX6_place_45 : decode cX6_place 45 = .ok (.iconst 1, 1) := by decide +kernel
theorem dX6_place_46 : decode cX6_place 46 = .ok (.isub, 1) := by decide +kernel
theorem dX6_place_47 : decode cX6_place 47 = .ok (.if_icmp .ge 90, 3) := by decide +kernel
theorem dX6_place_50 : decode cX6_place 50 = .ok (.aload_n 0, 1) := by decide +kernel
theorem dX6_place_51 : decode cX6_place 51 = .ok (.getfield 41, 3) := by decide +kernel
theorem dX6_place_54 : decode cX6_place 54 = .ok (.iload 4, 2) := by decide +kernel
theorem dX6_place_56 : decode cX6_place 56 = .ok (.iload_n 1, 1) := by decide +kernel
theorem dX6_place_57 : decode cX6_place 57 = .ok (.invokestatic 146, 3) := by decide +kernel
theorem dX6_place_60 : decode cX6_place 60 = .ok (.laload, 1) := by decide +kernel
theorem dX6_place_61 : decode cX6_place 61 = .ok (.lstore 5, 2) := by decide +kernel
theorem dX6_place_63 : decode cX6_place 63 = .ok (.iconst 0, 1) := by decide +kernel
theorem dX6_place_64 : decode cX6_place 64 = .ok (.istore 7, 2) := by decide +kernel
theorem dX6_place_66 : decode cX6_place 66 = .ok (.iload 7, 2) := by decide +kernel
theorem dX6_place_68 : decode cX6_place 68 = .ok (.bipush 7, 2) := by decide +kernel
theorem dX6_place_70 : decode cX6_place 70 = .ok (.if_icmp .ge 61, 3) := by decide +kernel
theorem dX6_place_73 : decode cX6_place 73 = .ok (.iload 4, 2) := by decide +kernel
theorem dX6_place_75 : decode cX6_place 75 = .ok (.iload_n 1, 1) := by decide +kernel
theorem dX6_place_76 : decode cX6_place 76 = .ok (.if_icmp .eq 55, 3) := by decide +kernel
theorem dX6_place_79 : decode cX6_place 79 = .ok (.aload_n 0, 1) := by decide +kernel
theorem dX6_place_80 : decode cX6_place 80 = .ok (.getfield 41, 3) := by decide +kernel
theorem dX6_place_83 : decode cX6_place 83 = .ok (.iload 4, 2) := by decide +kernel
theorem dX6_place_85 : decode cX6_place 85 = .ok (.iload 7, 2) := by decide +kernel
theorem dX6_place_87 : decode cX6_place 87 = .ok (.invokestatic 146, 3) := by decide +kernel
theorem dX6_place_90 : decode cX6_place 90 = .ok (.lload_n 2, 1) := by decide +kernel
theorem dX6_place_91 : decode cX6_place 91 = .ok (.aload_n 0, 1) := by decide +kernel
theorem dX6_place_92 : decode cX6_place 92 = .ok (.getfield 41, 3) := by decide +kernel
theorem dX6_place_95 : decode cX6_place 95 = .ok (.iload 4, 2) := by decide +kernel
theorem dX6_place_97 : decode cX6_place 97 = .ok (.iload 7, 2) := by decide +kernel
theorem dX6_place_99 : decode cX6_place 99 = .ok (.invokestatic 146, 3) := by decide +kernel
theorem dX6_place_102 : decode cX6_place 102 = .ok (.laload, 1) := by decide +kernel
theorem dX6_place_103 : decode cX6_place 103 = .ok (.lmul, 1) := by decide +kernel
theorem dX6_place_104 : decode cX6_place 104 = .ok (.lload 5, 2) := by decide +kernel
theorem dX6_place_106 : decode cX6_place 106 = .ok (.aload_n 0, 1) := by decide +kernel
theorem dX6_place_107 : decode cX6_place 107 = .ok (.getfield 41, 3) := by decide +kernel
theorem dX6_place_110 : decode cX6_place 110 = .ok (.iload_n 1, 1) := by decide +kernel
theorem dX6_place_111 : decode cX6_place 111 = .ok (.iload 7, 2) := by decide +kernel
theorem dX6_place_113 : decode cX6_place 113 = .ok (.invokestatic 146, 3) := by decide +kernel
theorem dX6_place_116 : decode cX6_place 116 = .ok (.laload, 1) := by decide +kernel
theorem dX6_place_117 : decode cX6_place 117 = .ok (.lmul, 1) := by decide +kernel
theorem dX6_place_118 : decode cX6_place 118 = .ok (.lsub, 1) := by decide +kernel
theorem dX6_place_119 : decode cX6_place 119 = .ok (.aload_n 0, 1) := by decide +kernel
theorem dX6_place_120 : decode cX6_place 120 = .ok (.getfield 152, 3) := by decide +kernel
theorem dX6_place_123 : decode cX6_place 123 = .ok (.ldiv, 1) := by decide +kernel
theorem dX6_place_124 : decode cX6_place 124 = .ok (.lastore, 1) := by decide +kernel
theorem dX6_place_125 : decode cX6_place 125 = .ok (.iinc 7 1, 3) := by decide +kernel
theorem dX6_place_128 : decode cX6_place 128 = .ok (.goto (-62), 3) := by decide +kernel
theorem dX6_place_131 : decode cX6_place 131 = .ok (.iinc 4 1, 3) := by decide +kernel
theorem dX6_place_134 : decode cX6_place 134 = .ok (.goto (-97), 3) := by decide +kernel
theorem dX6_place_137 : decode cX6_place 137 = .ok (.aload_n 0, 1) := by decide +kernel
theorem dX6_place_138 : decode cX6_place 138 = .ok (.lload_n 2, 1) := by decide +kernel
theorem dX6_place_139 : decode cX6_place 139 = .ok (.putfield 152, 3) := by decide +kernel
theorem dX6_place_142 : decode cX6_place 142 = .ok (.iinc 1 1, 3) := by decide +kernel
theorem dX6_place_145 : decode cX6_place 145 = .ok (.goto (-134), 3) := by decide +kernel
theorem dX6_place_148 : decode cX6_place 148 = .ok (.return_, 1) := by decide +kernel
set_option maxRecDepth 20000 in
theorem ggX6_scaled_X6_cell : GoodIn wsX6_scaled wsX6_cell := goodIn_r _ [5] (by decide +kernel) (by decide +kernel)
set_option maxRecDepth 20000 in
theorem gX6_scaled_X6_cell : GoodIn wsX6_scaled (va_wsS RX6 146 yX6_cell wsX6_cell) := goodIn_app (goodIn_of _ (by decide +kernel)) ggX6_scaled_X6_cell
theorem dX6_scaled_0 : decode cX6_scaled 0 = .ok (.iload_n 1, 1) := by decide +kernel
theorem dX6_scaled_1 : decode cX6_scaled 1 = .ok (.ifCond .ne 7, 3) := by decide +kernel
theorem dX6_scaled_4 : decode cX6_scaled 4 = .ok (.lconst 0, 1) := by decide +kernel
theorem dX6_scaled_5 : decode cX6_scaled 5 = .ok (.goto 17, 3) := by decide +kernel
theorem dX6_scaled_8 : decode cX6_scaled 8 = .ok (.aload_n 0, 1) := by decide +kernel
theorem dX6_scaled_9 : decode cX6_scaled 9 = .ok (.getfield 41, 3) := by decide +kernel
theorem dX6_scaled_12 : decode cX6_scaled 12 = .ok (.iload_n 1, 1) := by decide +kernel
theorem dX6_scaled_13 : decode cX6_scaled 13 = .ok (.iconst 1, 1) := by decide +kernel
theorem dX6_scaled_14 : decode cX6_scaled 14 = .ok (.isub, 1) := by decide +kernel
theorem dX6_scaled_15 : decode cX6_scaled 15 = .ok (.iconst 5, 1) := by decide +kernel
theorem dX6_scaled_16 : decode cX6_scaled 16 = .ok (.iload_n 2, 1) := by decide +kernel
theorem dX6_scaled_17 : decode cX6_scaled 17 = .ok (.iadd, 1) := by decide +kernel
theorem dX6_scaled_18 : decode cX6_scaled 18 = .ok (.invokestatic 146, 3) := by decide +kernel
theorem dX6_scaled_21 : decode cX6_scaled 21 = .ok (.laload, 1) := by decide +kernel
theorem dX6_scaled_22 : decode cX6_scaled 22 = .ok (.lreturn, 1) := by decide +kernel
theorem dX6_common_0 : decode cX6_common 0 = .ok (.lload_n 0, 1) := by decide +kernel
theorem dX6_common_1 : decode cX6_common 1 = .ok (.lconst 0, 1) := by decide +kernel
theorem dX6_common_2 : decode cX6_common 2 = .ok (.lcmp, 1) := by decide +kernel
theorem dX6_common_3 : decode cX6_common 3 = .ok (.ifCond .ge 8, 3) := by decide +kernel
theorem dX6_common_6 : decode cX6_common 6 = .ok (.lload_n 0, 1) := by decide +kernel
theorem dX6_common_7 : decode cX6_common 7 = .ok (.lneg, 1) := by decide +kernel
theorem dX6_common_8 : decode cX6_common 8 = .ok (.goto 4, 3) := by decide +kernel
theorem dX6_common_11 : decode cX6_common 11 = .ok (.lload_n 0, 1) := by decide +kernel
theorem dX6_common_12 : decode cX6_common 12 = .ok (.lstore 4, 2) := by decide +kernel
theorem dX6_common_14 : decode cX6_common 14 = .ok (.lload_n 2, 1) := by decide +kernel
theorem dX6_common_15 : decode cX6_common 15 = .ok (.lstore 6, 2) := by decide +kernel
theorem dX6_common_17 : decode cX6_common 17 = .ok (.lload 6, 2) := by decide +kernel
theorem dX6_common_19 : decode cX6_common 19 = .ok (.lconst 0, 1) := by decide +kernel
theorem dX6_common_20 : decode cX6_common 20 = .ok (.lcmp, 1) := by decide +kernel
theorem dX6_common_21 : decode cX6_common 21 = .ok (.ifCond .le 21, 3) := by decide +kernel
theorem dX6_common_24 : decode cX6_common 24 = .ok (.lload 4, 2) := by decide +kernel
theorem dX6_common_26 : decode cX6_common 26 = .ok (.lload 6, 2) := by decide +kernel
theorem dX6_common_28 : decode cX6_common 28 = .ok (.lrem, 1) := by decide +kernel
theorem dX6_common_29 : decode cX6_common 29 = .ok (.lstore 8, 2) := by decide +kernel
theorem dX6_common_31 : decode cX6_common 31 = .ok (.lload 6, 2) := by decide +kernel
theorem dX6_common_33 : decode cX6_common 33 = .ok (.lstore 4, 2) := by decide +kernel
theorem dX6_common_35 : decode cX6_common 35 = .ok (.lload 8, 2) := by decide +kernel
theorem dX6_common_37 : decode cX6_common 37 = .ok (.lstore 6, 2) := by decide +kernel
theorem dX6_common_39 : decode cX6_common 39 = .ok (.goto (-22), 3) := by decide +kernel
theorem dX6_common_42 : decode cX6_common 42 = .ok (.lload 4, 2) := by decide +kernel
theorem dX6_common_44 : decode cX6_common 44 = .ok (.lreturn, 1) := by decide +kernel
set_option maxRecDepth 20000 in
theorem ggX6_upper_X6_scaled : GoodIn wsX6_upper wsX6_scaled := goodIn_r _ [6, 7, 8, 9, 5, 10, 14, 15, 16, 17, 18, 19, 20, 21, 22, 23, 24, 25, 26, 27, 28] (by decide +kernel) (by decide +kernel)
set_option maxRecDepth 20000 in
theorem gX6_upper_X6_scaled : GoodIn wsX6_upper (wsV RX6 156 RX6 yX6_scaled wsX6_scaled) := goodIn_app (goodIn_of _ (by decide +kernel)) ggX6_upper_X6_scaled
set_option maxRecDepth 20000 in
theorem ggX6_upper_X6_common : GoodIn wsX6_upper wsX6_common := goodIn_r _ [13] (by decide +kernel) (by decide +kernel)
set_option maxRecDepth 20000 in
theorem gX6_upper_X6_common : GoodIn wsX6_upper (va_wsS RX6 160 yX6_common wsX6_common) := goodIn_app (goodIn_of _ (by decide +kernel)) ggX6_upper_X6_common
theorem dX6_upper_0 : decode cX6_upper 0 = .ok (.aload_n 0, 1) := by decide +kernel
theorem dX6_upper_1 : decode cX6_upper 1 = .ok (.iload_n 1, 1) := by decide +kernel
theorem dX6_upper_2 : decode cX6_upper 2 = .ok (.iload_n 2, 1) := by decide +kernel
theorem dX6_upper_3 : decode cX6_upper 3 = .ok (.invokevirtual 156, 3) := by decide +kernel
theorem dX6_upper_6 : decode cX6_upper 6 = .ok (.aload_n 0, 1) := by decide +kernel
theorem dX6_upper_7 : decode cX6_upper 7 = .ok (.iload_n 1, 1) := by decide +kernel
theorem dX6_upper_8 : decode cX6_upper 8 = .ok (.iload_n 2, 1) := by decide +kernel
theorem dX6_upper_9 : decode cX6_upper 9 = .ok (.invokevirtual 156, 3) := by decide +kernel
theorem dX6_upper_12 : decode cX6_upper 12 = .ok (.aload_n 0, 1) := by decide +kernel
theorem dX6_upper_13 : decode cX6_upper 13 = .ok (.getfield 152, 3) := by decide +kernel
theorem dX6_upper_16 : decode cX6_upper 16 = .ok (.invokestatic 160, 3) := by decide +kernel
theorem dX6_upper_19 : decode cX6_upper 19 = .ok (.ldiv, 1) := by decide +kernel
theorem dX6_upper_20 : decode cX6_upper 20 = .ok (.lreturn, 1) := by decide +kernel
set_option maxRecDepth 20000 in
theorem ggX6_lower_X6_scaled : GoodIn wsX6_lower wsX6_scaled := goodIn_r _ [6, 7, 8, 9, 5, 10, 14, 15, 16, 17, 18, 19, 20, 21, 22, 23, 24, 25, 26, 27, 28] (by decide +kernel) (by decide +kernel)
set_option maxRecDepth 20000 in
theorem gX6_lower_X6_scaled : GoodIn wsX6_lower (wsV RX6 156 RX6 yX6_scaled wsX6_scaled) := goodIn_app (goodIn_of _ (by decide +kernel)) ggX6_lower_X6_scaled
set_option maxRecDepth 20000 in
theorem ggX6_lower_X6_common : GoodIn wsX6_lower wsX6_common := goodIn_r _ [13] (by decide +kernel) (by decide +kernel)
set_option maxRecDepth 20000 in
theorem gX6_lower_X6_common : GoodIn wsX6_lower (va_wsS RX6 160 yX6_common wsX6_common) := goodIn_app (goodIn_of _ (by decide +kernel)) ggX6_lower_X6_common
theorem dX6_lower_0 : decode cX6_lower 0 = .ok (.aload_n 0, 1) := by decide +kernel
theorem dX6_lower_1 : decode cX6_lower 1 = .ok (.getfield 152, 3) := by decide +kernel
theorem dX6_lower_4 : decode cX6_lower 4 = .ok (.aload_n 0, 1) := by decide +kernel
theorem dX6_lower_5 : decode cX6_lower 5 = .ok (.iload_n 1, 1) := by decide +kernel
theorem dX6_lower_6 : decode cX6_lower 6 = .ok (.iload_n 2, 1) := by decide +kernel
theorem dX6_lower_7 : decode cX6_lower 7 = .ok (.invokevirtual 156, 3) := by decide +kernel
theorem dX6_lower_10 : decode cX6_lower 10 = .ok (.aload_n 0, 1) := by decide +kernel
theorem dX6_lower_11 : decode cX6_lower 11 = .ok (.getfield 152, 3) := by decide +kernel
theorem dX6_lower_14 : decode cX6_lower 14 = .ok (.invokestatic 160, 3) := by decide +kernel
theorem dX6_lower_17 : decode cX6_lower 17 = .ok (.ldiv, 1) := by decide +kernel
theorem dX6_lower_18 : decode cX6_lower 18 = .ok (.lreturn, 1) := by decide +kernel
set_option maxRecDepth 20000 in
theorem ggX6_placementError_X6_error : GoodIn wsX6_placementError wsX6_error := goodIn_r _ [5, 6, 48, 49, 50, 51, 52, 53, 54, 55, 56, 57, 58, 59, 60, 61, 62] (by decide +kernel) (by decide +kernel)
set_option maxRecDepth 20000 in
theorem gX6_placementError_X6_error : GoodIn wsX6_placementError (wsV RX6 49 RX6 yX6_error wsX6_error) := goodIn_app (goodIn_of _ (by decide +kernel)) ggX6_placementError_X6_error
set_option maxRecDepth 20000 in
theorem ggX6_placementError_X6_connected : GoodIn wsX6_placementError wsX6_connected := goodIn_r _ [10, 11, 12, 13, 14, 15, 4, 16, 17, 18, 19, 20, 21, 22, 23, 24, 25, 26, 27, 28, 29, 30, 31, 32, 33, 34, 48, 49, 50, 51, 52, 53, 54, 55, 56, 57, 58, 59, 60, 61, 62] (by decide +kernel) (by decide +kernel)
set_option maxRecDepth 20000 in
theorem gX6_placementError_X6_connected : GoodIn wsX6_placementError (wsV RX6 142 RX6 yX6_connected wsX6_connected) := goodIn_app (goodIn_of _ (by decide +kernel)) ggX6_placementError_X6_connected
set_option maxRecDepth 20000 in
theorem ggX6_placementError_X6_place : GoodIn wsX6_placementError wsX6_place := goodIn_r _ [38, 39, 11, 40, 41, 42, 43, 4, 44, 19, 20, 21, 22, 23, 24, 25, 26, 45, 46, 47, 27, 28, 29, 30, 31, 32, 33, 34, 48, 49, 50, 51, 52, 53, 54, 55, 56, 57, 58, 59, 60, 61, 62] (by decide +kernel) (by decide +kernel)
set_option maxRecDepth 20000 in
theorem gX6_placementError_X6_place : GoodIn wsX6_placementError (wsV RX6 164 RX6 yX6_place wsX6_place) := goodIn_app (goodIn_of _ (by decide +kernel)) ggX6_placementError_X6_place
theorem dX6_placementError_0 : decode cX6_placementError 0 = .ok (.iload_n 1, 1) := by decide +kernel
theorem dX6_placementError_1 : decode cX6_placementError 1 = .ok (.ifCond .ne 10, 3) := by decide +kernel
theorem dX6_placementError_4 : decode cX6_placementError 4 = .ok (.aload_n 0, 1) := by decide +kernel
theorem dX6_placementError_5 : decode cX6_placementError 5 = .ok (.bipush (-2), 2) := by decide +kernel
theorem dX6_placementError_7 : decode cX6_placementError 7 = .ok (.invokevirtual 49, 3) := by decide +kernel
theorem dX6_placementError_10 : decode cX6_placementError 10 = .ok (.ireturn, 1) := by decide +kernel
theorem dX6_placementError_11 : decode cX6_placementError 11 = .ok (.aload_n 0, 1) := by decide +kernel
theorem dX6_placementError_12 : decode cX6_placementError 12 = .ok (.invokevirtual 142, 3) := by decide +kernel
theorem dX6_placementError_15 : decode cX6_placementError 15 = .ok (.ifCond .ne 10, 3) := by decide +kernel
theorem dX6_placementError_18 : decode cX6_placementError 18 = .ok (.aload_n 0, 1) := by decide +kernel
theorem dX6_placementError_19 : decode cX6_placementError 19 = .ok (.bipush (-6), 2) := by decide +kernel
theorem dX6_placementError_21 : decode cX6_placementError 21 = .ok (.invokevirtual 49, 3) := by decide +kernel
theorem dX6_placementError_24 : decode cX6_placementError 24 = .ok (.ireturn, 1) := by decide +kernel
theorem dX6_placementError_25 : decode cX6_placementError 25 = .ok (.aload_n 0, 1) := by decide +kernel
theorem dX6_placementError_26 : decode cX6_placementError 26 = .ok (.invokevirtual 164, 3) := by decide +kernel
theorem dX6_placementError_29 : decode cX6_placementError 29 = .ok (.iconst 0, 1) := by decide +kernel
theorem dX6_placementError_30 : decode cX6_placementError 30 = .ok (.ireturn, 1) := by decide +kernel
set_option maxRecDepth 20000 in
theorem ggX6_numerator_X6_isVertex : GoodIn wsX6_numerator wsX6_isVertex := goodIn_r _ [5, 6, 7, 8, 4, 9, 70, 71, 72, 73, 74, 75, 76, 77, 78, 79, 80, 81, 82, 83, 84] (by decide +kernel) (by decide +kernel)
set_option maxRecDepth 20000 in
theorem gX6_numerator_X6_isVertex : GoodIn wsX6_numerator (wsV RX6 68 RX6 yX6_isVertex wsX6_isVertex) := goodIn_app (goodIn_of _ (by decide +kernel)) ggX6_numerator_X6_isVertex
set_option maxRecDepth 20000 in
theorem ggX6_numerator_X6_in : GoodIn wsX6_numerator wsX6_in := goodIn_r _ [9] (by decide +kernel) (by decide +kernel)
set_option maxRecDepth 20000 in
theorem gX6_numerator_X6_in : GoodIn wsX6_numerator (va_wsS RX6 53 yX6_in wsX6_in) := goodIn_app (goodIn_of _ (by decide +kernel)) ggX6_numerator_X6_in
set_option maxRecDepth 20000 in
theorem ggX6_numerator_X6_placementError : GoodIn wsX6_numerator wsX6_placementError := goodIn_r _ [13, 14, 15, 16, 4, 17, 18, 19, 20, 21, 22, 6, 23, 24, 25, 26, 27, 28, 29, 30, 31, 32, 33, 34, 35, 36, 37, 38, 39, 40, 41, 42, 43, 44, 45, 46, 47, 48, 49, 50, 51, 52, 53, 54, 55, 56, 57, 58, 70, 71, 72, 73, 74, 75, 76, 77, 78, 79, 80, 81, 82, 83, 84] (by decide +kernel) (by decide +kernel)
set_option maxRecDepth 20000 in
theorem gX6_numerator_X6_placementError : GoodIn wsX6_numerator (wsV RX6 167 RX6 yX6_placementError wsX6_placementError) := goodIn_app (goodIn_of _ (by decide +kernel)) ggX6_numerator_X6_placementError
set_option maxRecDepth 20000 in
theorem ggX6_numerator_X6_upper : GoodIn wsX6_numerator wsX6_upper := goodIn_r _ [62, 50, 63, 64, 65, 4, 66, 51, 56, 57, 58, 67, 68, 69, 70, 71, 72, 73, 74, 75, 76, 77, 78, 79, 80, 81, 82, 83, 84] (by decide +kernel) (by decide +kernel)
set_option maxRecDepth 20000 in
theorem gX6_numerator_X6_upper : GoodIn wsX6_numerator (wsV RX6 171 RX6 yX6_upper wsX6_upper) := goodIn_app (goodIn_of _ (by decide +kernel)) ggX6_numerator_X6_upper
theorem dX6_numerator_0 : decode cX6_numerator 0 = .ok (.aload_n 0, 1) := by decide +kernel
theorem dX6_numerator_1 : decode cX6_numerator 1 = .ok (.aload_n 0, 1) := by decide +kernel
theorem dX6_numerator_2 : decode cX6_numerator 2 = .ok (.iload_n 1, 1) := by decide +kernel
theorem dX6_numerator_3 : decode cX6_numerator 3 = .ok (.invokevirtual 68, 3) := by decide +kernel
theorem dX6_numerator_6 : decode cX6_numerator 6 = .ok (.ifCond .eq 16, 3) := by decide +kernel
theorem dX6_numerator_9 : decode cX6_numerator 9 = .ok (.iload_n 2, 1) := by decide +kernel
theorem dX6_numerator_10 : decode cX6_numerator 10 = .ok (.iconst 0, 1) := by decide +kernel
theorem dX6_numerator_11 : decode cX6_numerator 11 = .ok (.iconst 1, 1) := by decide +kernel
theorem dX6_numerator_12 : decode cX6_numerator 12 = .ok (.invokestatic 53, 3) := by decide +kernel
theorem dX6_numerator_15 : decode cX6_numerator 15 = .ok (.ifCond .eq 7, 3) := by decide +kernel
theorem dX6_numerator_18 : decode cX6_numerator 18 = .ok (.iconst 1, 1) := by decide +kernel
theorem dX6_numerator_19 : decode cX6_numerator 19 = .ok (.goto 4, 3) := by decide +kernel
theorem dX6_numerator_22 : decode cX6_numerator 22 = .ok (.iconst 0, 1) := by decide +kernel
theorem dX6_numerator_23 : decode cX6_numerator 23 = .ok (.invokevirtual 167, 3) := by decide +kernel
theorem dX6_numerator_26 : decode cX6_numerator 26 = .ok (.istore_n 3, 1) := by decide +kernel
theorem dX6_numerator_27 : decode cX6_numerator 27 = .ok (.iload_n 3, 1) := by decide +kernel
theorem dX6_numerator_28 : decode cX6_numerator 28 = .ok (.ifCond .ge 8, 3) := by decide +kernel
theorem dX6_numerator_31 : decode cX6_numerator 31 = .ok (.iload_n 3, 1) := by decide +kernel
theorem dX6_numerator_32 : decode cX6_numerator 32 = .ok (.i2l, 1) := by decide +kernel
theorem dX6_numerator_33 : decode cX6_numerator 33 = .ok (.goto 9, 3) := by decide +kernel
theorem dX6_numerator_36 : decode cX6_numerator 36 = .ok (.aload_n 0, 1) := by decide +kernel
theorem dX6_numerator_37 : decode cX6_numerator 37 = .ok (.iload_n 1, 1) := by decide +kernel
theorem dX6_numerator_38 : decode cX6_numerator 38 = .ok (.iload_n 2, 1) := by decide +kernel
theorem dX6_numerator_39 : decode cX6_numerator 39 = .ok (.invokevirtual 171, 3) := by decide +kernel
theorem dX6_numerator_42 : decode cX6_numerator 42 = .ok (.lreturn, 1) := by decide +kernel
set_option maxRecDepth 20000 in
theorem ggX6_denominator_X6_isVertex : GoodIn wsX6_denominator wsX6_isVertex := goodIn_r _ [5, 6, 7, 8, 4, 9, 70, 71, 72, 73, 74, 75, 76, 77, 78, 79, 80, 81, 82, 83, 84] (by decide +kernel) (by decide +kernel)
set_option maxRecDepth 20000 in
theorem gX6_denominator_X6_isVertex : GoodIn wsX6_denominator (wsV RX6 68 RX6 yX6_isVertex wsX6_isVertex) := goodIn_app (goodIn_of _ (by decide +kernel)) ggX6_denominator_X6_isVertex
set_option maxRecDepth 20000 in
theorem ggX6_denominator_X6_in : GoodIn wsX6_denominator wsX6_in := goodIn_r _ [9] (by decide +kernel) (by decide +kernel)
set_option maxRecDepth 20000 in
theorem gX6_denominator_X6_in : GoodIn wsX6_denominator (va_wsS RX6 53 yX6_in wsX6_in) := goodIn_app (goodIn_of _ (by decide +kernel)) ggX6_denominator_X6_in
set_option maxRecDepth 20000 in
theorem ggX6_denominator_X6_placementError : GoodIn wsX6_denominator wsX6_placementError := goodIn_r _ [13, 14, 15, 16, 4, 17, 18, 19, 20, 21, 22, 6, 23, 24, 25, 26, 27, 28, 29, 30, 31, 32, 33, 34, 35, 36, 37, 38, 39, 40, 41, 42, 43, 44, 45, 46, 47, 48, 49, 50, 51, 52, 53, 54, 55, 56, 57, 58, 70, 71, 72, 73, 74, 75, 76, 77, 78, 79, 80, 81, 82, 83, 84] (by decide +kernel) (by decide +kernel)
set_option maxRecDepth 20000 in
theorem gX6_denominator_X6_placementError : GoodIn wsX6_denominator (wsV RX6 167 RX6 yX6_placementError wsX6_placementError) := goodIn_app (goodIn_of _ (by decide +kernel)) ggX6_denominator_X6_placementError
set_option maxRecDepth 20000 in
theorem ggX6_denominator_X6_lower : GoodIn wsX6_denominator wsX6_lower := goodIn_r _ [62, 50, 63, 64, 65, 4, 66, 51, 56, 57, 58, 67, 68, 69, 70, 71, 72, 73, 74, 75, 76, 77, 78, 79, 80, 81, 82, 83, 84] (by decide +kernel) (by decide +kernel)
set_option maxRecDepth 20000 in
theorem gX6_denominator_X6_lower : GoodIn wsX6_denominator (wsV RX6 174 RX6 yX6_lower wsX6_lower) := goodIn_app (goodIn_of _ (by decide +kernel)) ggX6_denominator_X6_lower
theorem dX6_denominator_0 : decode cX6_denominator 0 = .ok (.aload_n 0, 1) := by decide +kernel
theorem dX6_denominator_1 : decode cX6_denominator 1 = .ok (.aload_n 0, 1) := by decide +kernel
theorem dX6_denominator_2 : decode cX6_denominator 2 = .ok (.iload_n 1, 1) := by decide +kernel
theorem dX6_denominator_3 : decode cX6_denominator 3 = .ok (.invokevirtual 68, 3) := by decide +kernel
theorem dX6_denominator_6 : decode cX6_denominator 6 = .ok (.ifCond .eq 16, 3) := by decide +kernel
theorem dX6_denominator_9 : decode cX6_denominator 9 = .ok (.iload_n 2, 1) := by decide +kernel
theorem dX6_denominator_10 : decode cX6_denominator 10 = .ok (.iconst 0, 1) := by decide +kernel
theorem dX6_denominator_11 : decode cX6_denominator 11 = .ok (.iconst 1, 1) := by decide +kernel
theorem dX6_denominator_12 : decode cX6_denominator 12 = .ok (.invokestatic 53, 3) := by decide +kernel
theorem dX6_denominator_15 : decode cX6_denominator 15 = .ok (.ifCond .eq 7, 3) := by decide +kernel
theorem dX6_denominator_18 : decode cX6_denominator 18 = .ok (.iconst 1, 1) := by decide +kernel
theorem dX6_denominator_19 : decode cX6_denominator 19 = .ok (.goto 4, 3) := by decide +kernel
theorem dX6_denominator_22 : decode cX6_denominator 22 = .ok (.iconst 0, 1) := by decide +kernel
theorem dX6_denominator_23 : decode cX6_denominator 23 = .ok (.invokevirtual 167, 3) := by decide +kernel
theorem dX6_denominator_26 : decode cX6_denominator 26 = .ok (.istore_n 3, 1) := by decide +kernel
theorem dX6_denominator_27 : decode cX6_denominator 27 = .ok (.iload_n 3, 1) := by decide +kernel
theorem dX6_denominator_28 : decode cX6_denominator 28 = .ok (.ifCond .ge 8, 3) := by decide +kernel
theorem dX6_denominator_31 : decode cX6_denominator 31 = .ok (.iload_n 3, 1) := by decide +kernel
theorem dX6_denominator_32 : decode cX6_denominator 32 = .ok (.i2l, 1) := by decide +kernel
theorem dX6_denominator_33 : decode cX6_denominator 33 = .ok (.goto 9, 3) := by decide +kernel
theorem dX6_denominator_36 : decode cX6_denominator 36 = .ok (.aload_n 0, 1) := by decide +kernel
theorem dX6_denominator_37 : decode cX6_denominator 37 = .ok (.iload_n 1, 1) := by decide +kernel
theorem dX6_denominator_38 : decode cX6_denominator 38 = .ok (.iload_n 2, 1) := by decide +kernel
theorem dX6_denominator_39 : decode cX6_denominator 39 = .ok (.invokevirtual 174, 3) := by decide +kernel
theorem dX6_denominator_42 : decode cX6_denominator 42 = .ok (.lreturn, 1) := by decide +kernel
set_option maxRecDepth 20000 in
theorem ggX6_doCollide_X6_scaled : GoodIn wsX6_doCollide wsX6_scaled := goodIn_r _ [6, 7, 8, 9, 5, 10, 11, 12, 13, 14, 15, 16, 17, 18, 19, 20, 21, 22, 23, 24, 25] (by decide +kernel) (by decide +kernel)
set_option maxRecDepth 20000 in
theorem gX6_doCollide_X6_scaled : GoodIn wsX6_doCollide (wsV RX6 156 RX6 yX6_scaled wsX6_scaled) := goodIn_app (goodIn_of _ (by decide +kernel)) ggX6_doCollide_X6_scaled
theorem dX6_doCollide_0 : decode cX6_doCollide 0 = .ok (.aload_n 0, 1) := by decide +kernel
theorem dX6_doCollide_1 : decode cX6_doCollide 1 = .ok (.iload_n 1, 1) := by decide +kernel
theorem dX6_doCollide_2 : decode cX6_doCollide 2 = .ok (.iconst 0, 1) := by decide +kernel
theorem dX6_doCollide_3 : decode cX6_doCollide 3 = .ok (.invokevirtual 156, 3) := by decide +kernel
theorem dX6_doCollide_6 : decode cX6_doCollide 6 = .ok (.aload_n 0, 1) := by decide +kernel
theorem dX6_doCollide_7 : decode cX6_doCollide 7 = .ok (.iload_n 2, 1) := by decide +kernel
theorem dX6_doCollide_8 : decode cX6_doCollide 8 = .ok (.iconst 0, 1) := by decide +kernel
theorem dX6_doCollide_9 : decode cX6_doCollide 9 = .ok (.invokevirtual 156, 3) := by decide +kernel
theorem dX6_doCollide_12 : decode cX6_doCollide 12 = .ok (.lsub, 1) := by decide +kernel
theorem dX6_doCollide_13 : decode cX6_doCollide 13 = .ok (.aload_n 0, 1) := by decide +kernel
theorem dX6_doCollide_14 : decode cX6_doCollide 14 = .ok (.getfield 152, 3) := by decide +kernel
theorem dX6_doCollide_17 : decode cX6_doCollide 17 = .ok (.lrem, 1) := by decide +kernel
theorem dX6_doCollide_18 : decode cX6_doCollide 18 = .ok (.lconst 0, 1) := by decide +kernel
theorem dX6_doCollide_19 : decode cX6_doCollide 19 = .ok (.lcmp, 1) := by decide +kernel
theorem dX6_doCollide_20 : decode cX6_doCollide 20 = .ok (.ifCond .ne 30, 3) := by decide +kernel
theorem dX6_doCollide_23 : decode cX6_doCollide 23 = .ok (.aload_n 0, 1) := by decide +kernel
theorem dX6_doCollide_24 : decode cX6_doCollide 24 = .ok (.iload_n 1, 1) := by decide +kernel
theorem dX6_doCollide_25 : decode cX6_doCollide 25 = .ok (.iconst 1, 1) := by decide +kernel
theorem dX6_doCollide_26 : decode cX6_doCollide 26 = .ok (.invokevirtual 156, 3) := by decide +kernel
theorem dX6_doCollide_29 : decode cX6_doCollide 29 = .ok (.aload_n 0, 1) := by decide +kernel
theorem dX6_doCollide_30 : decode cX6_doCollide 30 = .ok (.iload_n 2, 1) := by decide +kernel
theorem dX6_doCollide_31 : decode cX6_doCollide 31 = .ok (.iconst 1, 1) := by decide +kernel
theorem dX6_doCollide_32 : decode cX6_doCollide 32 = .ok (.invokevirtual 156, 3) := by decide +kernel
theorem dX6_doCollide_35 : decode cX6_doCollide 35 = .ok (.lsub, 1) := by decide +kernel
theorem dX6_doCollide_36 : decode cX6_doCollide 36 = .ok (.aload_n 0, 1) := by decide +kernel
theorem dX6_doCollide_37 : decode cX6_doCollide 37 = .ok (.getfield 152, 3) := by decide +kernel
theorem dX6_doCollide_40 : decode cX6_doCollide 40 = .ok (.lrem, 1) := by decide +kernel
theorem dX6_doCollide_41 : decode cX6_doCollide 41 = .ok (.lconst 0, 1) := by decide +kernel
theorem dX6_doCollide_42 : decode cX6_doCollide 42 = .ok (.lcmp, 1) := by decide +kernel
theorem dX6_doCollide_43 : decode cX6_doCollide 43 = .ok (.ifCond .ne 7, 3) := by decide +kernel
theorem dX6_doCollide_46 : decode cX6_doCollide 46 = .ok (.iconst 1, 1) := by decide +kernel
theorem dX6_doCollide_47 : decode cX6_doCollide 47 = .ok (.goto 4, 3) := by decide +kernel
theorem dX6_doCollide_50 : decode cX6_doCollide 50 = .ok (.iconst 0, 1) := by decide +kernel
theorem dX6_doCollide_51 : decode cX6_doCollide 51 = .ok (.ireturn, 1) := by decide +kernel
set_option maxRecDepth 20000 in
theorem ggX6_collide_X6_isVertex : GoodIn wsX6_collide wsX6_isVertex := goodIn_r _ [5, 6, 7, 8, 4, 9, 67, 68, 69, 70, 71, 72, 73, 74, 75, 76, 77, 78, 79, 80, 81] (by decide +kernel) (by decide +kernel)
set_option maxRecDepth 20000 in
theorem gX6_collide_X6_isVertex : GoodIn wsX6_collide (wsV RX6 68 RX6 yX6_isVertex wsX6_isVertex) := goodIn_app (goodIn_of _ (by decide +kernel)) ggX6_collide_X6_isVertex
set_option maxRecDepth 20000 in
theorem ggX6_collide_X6_placementError : GoodIn wsX6_collide wsX6_placementError := goodIn_r _ [13, 14, 15, 16, 4, 17, 18, 19, 20, 21, 22, 6, 23, 24, 25, 26, 27, 28, 29, 30, 31, 32, 33, 34, 35, 36, 37, 38, 39, 40, 41, 42, 43, 44, 45, 46, 47, 48, 49, 50, 51, 52, 53, 54, 55, 56, 57, 58, 67, 68, 69, 70, 71, 72, 73, 74, 75, 76, 77, 78, 79, 80, 81] (by decide +kernel) (by decide +kernel)
set_option maxRecDepth 20000 in
theorem gX6_collide_X6_placementError : GoodIn wsX6_collide (wsV RX6 167 RX6 yX6_placementError wsX6_placementError) := goodIn_app (goodIn_of _ (by decide +kernel)) ggX6_collide_X6_placementError
set_option maxRecDepth 20000 in
theorem ggX6_collide_X6_doCollide : GoodIn wsX6_collide wsX6_doCollide := goodIn_r _ [62, 50, 63, 64, 65, 4, 66, 51, 56, 57, 58, 67, 68, 69, 70, 71, 72, 73, 74, 75, 76, 77, 78, 79, 80, 81] (by decide +kernel) (by decide +kernel)
set_option maxRecDepth 20000 in
theorem gX6_collide_X6_doCollide : GoodIn wsX6_collide (wsV RX6 177 RX6 yX6_doCollide wsX6_doCollide) := goodIn_app (goodIn_of _ (by decide +kernel)) ggX6_collide_X6_doCollide
theorem dX6_collide_0 : decode cX6_collide 0 = .ok (.aload_n 0, 1) := by decide +kernel
theorem dX6_collide_1 : decode cX6_collide 1 = .ok (.aload_n 0, 1) := by decide +kernel
theorem dX6_collide_2 : decode cX6_collide 2 = .ok (.iload_n 1, 1) := by decide +kernel
theorem dX6_collide_3 : decode cX6_collide 3 = .ok (.invokevirtual 68, 3) := by decide +kernel
theorem dX6_collide_6 : decode cX6_collide 6 = .ok (.ifCond .eq 20, 3) := by decide +kernel
theorem dX6_collide_9 : decode cX6_collide 9 = .ok (.aload_n 0, 1) := by decide +kernel
theorem dX6_collide_10 : decode cX6_collide 10 = .ok (.iload_n 2, 1) := by decide +kernel
theorem dX6_collide_11 : decode cX6_collide 11 = .ok (.invokevirtual 68, 3) := by decide +kernel
theorem dX6_collide_14 : decode cX6_collide 14 = .ok (.ifCond .eq 12, 3) := by decide +kernel
theorem dX6_collide_17 : decode cX6_collide 17 = .ok (.iload_n 1, 1) := by decide +kernel
theorem dX6_collide_18 : decode cX6_collide 18 = .ok (.iload_n 2, 1) := by decide +kernel
theorem dX6_collide_19 : decode cX6_collide 19 = .ok (.if_icmp .eq 7, 3) := by decide +kernel
theorem dX6_collide_22 : decode cX6_collide 22 = .ok (.iconst 1, 1) := by decide +kernel
theorem dX6_collide_23 : decode cX6_collide 23 = .ok (.goto 4, 3) := by decide +kernel
theorem dX6_collide_26 : decode cX6_collide 26 = .ok (.iconst 0, 1) := by decide +kernel
theorem dX6_collide_27 : decode cX6_collide 27 = .ok (.invokevirtual 167, 3) := by decide +kernel
theorem dX6_collide_30 : decode cX6_collide 30 = .ok (.istore_n 3, 1) := by decide +kernel
theorem dX6_collide_31 : decode cX6_collide 31 = .ok (.iload_n 3, 1) := by decide +kernel
theorem dX6_collide_32 : decode cX6_collide 32 = .ok (.ifCond .ge 7, 3) := by decide +kernel
theorem dX6_collide_35 : decode cX6_collide 35 = .ok (.iload_n 3, 1) := by decide +kernel
theorem dX6_collide_36 : decode cX6_collide 36 = .ok (.goto 17, 3) := by decide +kernel
theorem dX6_collide_39 : decode cX6_collide 39 = .ok (.aload_n 0, 1) := by decide +kernel
theorem dX6_collide_40 : decode cX6_collide 40 = .ok (.iload_n 1, 1) := by decide +kernel
theorem dX6_collide_41 : decode cX6_collide 41 = .ok (.iload_n 2, 1) := by decide +kernel
theorem dX6_collide_42 : decode cX6_collide 42 = .ok (.invokevirtual 177, 3) := by decide +kernel
theorem dX6_collide_45 : decode cX6_collide 45 = .ok (.ifCond .eq 7, 3) := by decide +kernel
theorem dX6_collide_48 : decode cX6_collide 48 = .ok (.iconst 1, 1) := by decide +kernel
theorem dX6_collide_49 : decode cX6_collide 49 = .ok (.goto 4, 3) := by decide +kernel
theorem dX6_collide_52 : decode cX6_collide 52 = .ok (.iconst 0, 1) := by decide +kernel
theorem dX6_collide_53 : decode cX6_collide 53 = .ok (.ireturn, 1) := by decide +kernel
set_option maxRecDepth 20000 in
theorem ggX6_collisions_X6_placementError : GoodIn wsX6_collisions wsX6_placementError := goodIn_r _ [6, 7, 8, 9, 5, 10, 11, 12, 13, 14, 15, 1, 16, 17, 18, 19, 20, 21, 22, 23, 24, 25, 26, 27, 28, 29, 30, 31, 32, 33, 34, 35, 36, 37, 38, 39, 40, 41, 42, 43, 44, 45, 46, 47, 48, 49, 50, 51, 60, 61, 62, 63, 64, 65, 66, 67, 68, 69, 70, 71, 72, 73, 74] (by decide +kernel) (by decide +kernel)
set_option maxRecDepth 20000 in
theorem gX6_collisions_X6_placementError : GoodIn wsX6_collisions (wsV RX6 167 RX6 yX6_placementError wsX6_placementError) := goodIn_app (goodIn_of _ (by decide +kernel)) ggX6_collisions_X6_placementError
set_option maxRecDepth 20000 in
theorem ggX6_collisions_X6_doCollide : GoodIn wsX6_collisions wsX6_doCollide := goodIn_r _ [55, 43, 56, 57, 58, 5, 59, 44, 49, 50, 51, 60, 61, 62, 63, 64, 65, 66, 67, 68, 69, 70, 71, 72, 73, 74] (by decide +kernel) (by decide +kernel)
set_option maxRecDepth 20000 in
theorem gX6_collisions_X6_doCollide : GoodIn wsX6_collisions (wsV RX6 177 RX6 yX6_doCollide wsX6_doCollide) := goodIn_app (goodIn_of _ (by decide +kernel)) ggX6_collisions_X6_doCollide
theorem dX6_collisions_0 : decode cX6_collisions 0 = .ok (.aload_n 0, 1) := by decide +kernel
theorem dX6_collisions_1 : decode cX6_collisions 1 = .ok (.iconst 1, 1) := by decide +kernel
theorem dX6_collisions_2 : decode cX6_collisions 2 = .ok (.invokevirtual 167, 3) := by decide +kernel
theorem dX6_collisions_5 : decode cX6_collisions 5 = .ok (.istore_n 1, 1) := by decide +kernel
theorem dX6_collisions_6 : decode cX6_collisions 6 = .ok (.iload_n 1, 1) := by decide +kernel
theorem dX6_collisions_7 : decode cX6_collisions 7 = .ok (.ifCond .ge 5, 3) := by decide +kernel
theorem dX6_collisions_10 : decode cX6_collisions 10 = .ok (.iload_n 1, 1) := by decide +kernel
theorem dX6_collisions_11 : decode cX6_collisions 11 = .ok (.ireturn, 1) := by decide +kernel
theorem dX6_collisions_12 : decode cX6_collisions 12 = .ok (.iconst 0, 1) := by decide +kernel
theorem dX6_collisions_13 : decode cX6_collisions 13 = .ok (.istore_n 2, 1) := by decide +kernel
theorem dX6_collisions_14 : decode cX6_collisions 14 = .ok (.iconst 0, 1) := by decide +kernel
theorem dX6_collisions_15 : decode cX6_collisions 15 = .ok (.istore_n 3, 1) := by decide +kernel
theorem dX6_collisions_16 : decode cX6_collisions 16 = .ok (.iload_n 3, 1) := by decide +kernel
theorem dX6_collisions_17 : decode cX6_collisions 17 = .ok (.aload_n 0, 1) := by decide +kernel
theorem dX6_collisions_18 : decode cX6_collisions 18 = .ok (.getfield 7, 3) := by decide +kernel
theorem dX6_collisions_21 : decode cX6_collisions 21 = .ok (.iconst 0, 1) := by decide +kernel
theorem dX6_collisions_22 : decode cX6_collisions 22 = .ok (.iaload, 1) := by decide +kernel
theorem dX6_collisions_23 : decode cX6_collisions 23 = .ok (.if_icmp .ge 42, 3) := by decide +kernel
theorem dX6_collisions_26 : decode cX6_collisions 26 = .ok (.iconst 0, 1) := by decide +kernel
theorem dX6_collisions_27 : decode cX6_collisions 27 = .ok (.istore 4, 2) := by decide +kernel
theorem dX6_collisions_29 : decode cX6_collisions 29 = .ok (.iload 4, 2) := by decide +kernel
theorem dX6_collisions_31 : decode cX6_collisions 31 = .ok (.iload_n 3, 1) := by decide +kernel
theorem dX6_collisions_32 : decode cX6_collisions 32 = .ok (.if_icmp .ge 27, 3) := by decide +kernel
theorem dX6_collisions_35 : decode cX6_collisions 35 = .ok (.iload_n 2, 1) := by decide +kernel
theorem dX6_collisions_36 : decode cX6_collisions 36 = .ok (.aload_n 0, 1) := by decide +kernel
theorem dX6_collisions_37 : decode cX6_collisions 37 = .ok (.iload_n 3, 1) := by decide +kernel
theorem dX6_collisions_38 : decode cX6_collisions 38 = .ok (.iload 4, 2) := by decide +kernel
theorem dX6_collisions_40 : decode cX6_collisions 40 = .ok (.invokevirtual 177, 3) := by decide +kernel
theorem dX6_collisions_43 : decode cX6_collisions 43 = .ok (.ifCond .eq 7, 3) := by decide +kernel
theorem dX6_collisions_46 : decode cX6_collisions 46 = .ok (.iconst 1, 1) := by decide +kernel
theorem dX6_collisions_47 : decode cX6_collisions 47 = .ok (.goto 4, 3) := by decide +kernel
theorem dX6_collisions_50 : decode cX6_collisions 50 = .ok (.iconst 0, 1) := by decide +kernel
theorem dX6_collisions_51 : decode cX6_collisions 51 = .ok (.iadd, 1) := by decide +kernel
theorem dX6_collisions_52 : decode cX6_collisions 52 = .ok (.istore_n 2, 1) := by decide +kernel
theorem dX6_collisions_53 : decode cX6_collisions 53 = .ok (.iinc 4 1, 3) := by decide +kernel
theorem dX6_collisions_56 : decode cX6_collisions 56 = .ok (.goto (-27), 3) := by decide +kernel
theorem dX6_collisions_59 : decode cX6_collisions 59 = .ok (.iinc 3 1, 3) := by decide +kernel
theorem dX6_collisions_62 : decode cX6_collisions 62 = .ok (.goto (-46), 3) := by decide +kernel
theorem dX6_collisions_65 : decode cX6_collisions 65 = .ok (.iload_n 2, 1) := by decide +kernel
theorem dX6_collisions_66 : decode cX6_collisions 66 = .ok (.ireturn, 1) := by decide +kernel
set_option maxRecDepth 20000 in
theorem ggX6_positionBits_X6_isVertex : GoodIn wsX6_positionBits wsX6_isVertex := goodIn_r _ [5, 6, 7, 8, 4, 9, 86, 87, 88, 89, 90, 91, 92, 93, 94, 95, 96, 97, 98, 99, 100] (by decide +kernel) (by decide +kernel)
set_option maxRecDepth 20000 in
theorem gX6_positionBits_X6_isVertex : GoodIn wsX6_positionBits (wsV RX6 68 RX6 yX6_isVertex wsX6_isVertex) := goodIn_app (goodIn_of _ (by decide +kernel)) ggX6_positionBits_X6_isVertex
set_option maxRecDepth 20000 in
theorem ggX6_positionBits_X6_in : GoodIn wsX6_positionBits wsX6_in := goodIn_r _ [9] (by decide +kernel) (by decide +kernel)
set_option maxRecDepth 20000 in
theorem gX6_positionBits_X6_in : GoodIn wsX6_positionBits (va_wsS RX6 53 yX6_in wsX6_in) := goodIn_app (goodIn_of _ (by decide +kernel)) ggX6_positionBits_X6_in
set_option maxRecDepth 20000 in
theorem ggX6_positionBits_X6_placementError : GoodIn wsX6_positionBits wsX6_placementError := goodIn_r _ [13, 14, 15, 16, 4, 17, 18, 19, 20, 21, 22, 6, 23, 24, 25, 26, 27, 28, 29, 30, 31, 32, 33, 34, 35, 36, 37, 38, 39, 40, 41, 42, 43, 44, 45, 46, 47, 48, 49, 50, 51, 52, 53, 54, 55, 56, 57, 58, 86, 87, 88, 89, 90, 91, 92, 93, 94, 95, 96, 97, 98, 99, 100] (by decide +kernel) (by decide +kernel)
set_option maxRecDepth 20000 in
theorem gX6_positionBits_X6_placementError : GoodIn wsX6_positionBits (wsV RX6 167 RX6 yX6_placementError wsX6_placementError) := goodIn_app (goodIn_of _ (by decide +kernel)) ggX6_positionBits_X6_placementError
set_option maxRecDepth 20000 in
theorem ggX6_positionBits_X6_upper : GoodIn wsX6_positionBits wsX6_upper := goodIn_r _ [62, 50, 63, 64, 65, 4, 66, 51, 56, 57, 58, 67, 68, 69, 86, 87, 88, 89, 90, 91, 92, 93, 94, 95, 96, 97, 98, 99, 100] (by decide +kernel) (by decide +kernel)
set_option maxRecDepth 20000 in
theorem gX6_positionBits_X6_upper : GoodIn wsX6_positionBits (wsV RX6 171 RX6 yX6_upper wsX6_upper) := goodIn_app (goodIn_of _ (by decide +kernel)) ggX6_positionBits_X6_upper
set_option maxRecDepth 20000 in
theorem ggX6_positionBits_X6_lower : GoodIn wsX6_positionBits wsX6_lower := goodIn_r _ [73, 50, 63, 64, 65, 4, 66, 51, 56, 57, 58, 67, 68, 69, 86, 87, 88, 89, 90, 91, 92, 93, 94, 95, 96, 97, 98, 99, 100] (by decide +kernel) (by decide +kernel)
set_option maxRecDepth 20000 in
theorem gX6_positionBits_X6_lower : GoodIn wsX6_positionBits (wsV RX6 174 RX6 yX6_lower wsX6_lower) := goodIn_app (goodIn_of _ (by decide +kernel)) ggX6_positionBits_X6_lower
set_option maxRecDepth 20000 in
theorem ggX6_positionBits_Jxf58ca_floatToIntBits_5c35a : GoodIn wsX6_positionBits wsJxf58ca_floatToIntBits_5c35a := goodIn_r _ [77, 78, 79, 80, 81, 82, 83, 84, 76, 85] (by decide +kernel) (by decide +kernel)
set_option maxRecDepth 20000 in
theorem gX6_positionBits_Jxf58ca_floatToIntBits_5c35a : GoodIn wsX6_positionBits (va_wsS RX6 180 yJxf58ca_floatToIntBits_5c35a wsJxf58ca_floatToIntBits_5c35a) := goodIn_app (goodIn_of _ (by decide +kernel)) ggX6_positionBits_Jxf58ca_floatToIntBits_5c35a
theorem dX6_positionBits_0 : decode cX6_positionBits 0 = .ok (.aload_n 0, 1) := by decide +kernel
theorem dX6_positionBits_1 : decode cX6_positionBits 1 = .ok (.aload_n 0, 1) := by decide +kernel
theorem dX6_positionBits_2 : decode cX6_positionBits 2 = .ok (.iload_n 1, 1) := by decide +kernel
theorem dX6_positionBits_3 : decode cX6_positionBits 3 = .ok (.invokevirtual 68, 3) := by decide +kernel
theorem dX6_positionBits_6 : decode cX6_positionBits 6 = .ok (.ifCond .eq 16, 3) := by decide +kernel
theorem dX6_positionBits_9 : decode cX6_positionBits 9 = .ok (.iload_n 2, 1) := by decide +kernel
theorem dX6_positionBits_10 : decode cX6_positionBits 10 = .ok (.iconst 0, 1) := by decide +kernel
theorem dX6_positionBits_11 : decode cX6_positionBits 11 = .ok (.iconst 1, 1) := by decide +kernel
theorem dX6_positionBits_12 : decode cX6_positionBits 12 = .ok (.invokestatic 53, 3) := by decide +kernel
theorem dX6_positionBits_15 : decode cX6_positionBits 15 = .ok (.ifCond .eq 7, 3) := by decide +kernel
theorem dX6_positionBits_18 : decode cX6_positionBits 18 = .ok (.iconst 1, 1) := by decide +kernel
theorem dX6_positionBits_19 : decode cX6_positionBits 19 = .ok (.goto 4, 3) := by decide +kernel
theorem dX6_positionBits_22 : decode cX6_positionBits 22 = .ok (.iconst 0, 1) := by decide +kernel
theorem dX6_positionBits_23 : decode cX6_positionBits 23 = .ok (.invokevirtual 167, 3) := by decide +kernel
theorem dX6_positionBits_26 : decode cX6_positionBits 26 = .ok (.istore_n 3, 1) := by decide +kernel
theorem dX6_positionBits_27 : decode cX6_positionBits 27 = .ok (.iload_n 3, 1) := by decide +kernel
theorem dX6_positionBits_28 : decode cX6_positionBits 28 = .ok (.ifCond .ge 7, 3) := by decide +kernel
theorem dX6_positionBits_31 : decode cX6_positionBits 31 = .ok (.iload_n 3, 1) := by decide +kernel
theorem dX6_positionBits_32 : decode cX6_positionBits 32 = .ok (.goto 21, 3) := by decide +kernel
theorem dX6_positionBits_35 : decode cX6_positionBits 35 = .ok (.aload_n 0, 1) := by decide +kernel
theorem dX6_positionBits_36 : decode cX6_positionBits 36 = .ok (.iload_n 1, 1) := by decide +kernel
theorem dX6_positionBits_37 : decode cX6_positionBits 37 = .ok (.iload_n 2, 1) := by decide +kernel
theorem dX6_positionBits_38 : decode cX6_positionBits 38 = .ok (.invokevirtual 171, 3) := by decide +kernel
theorem dX6_positionBits_41 : decode cX6_positionBits 41 = .ok (.l2f, 1) := by decide +kernel
theorem dX6_positionBits_42 : decode cX6_positionBits 42 = .ok (.aload_n 0, 1) := by decide +kernel
theorem dX6_positionBits_43 : decode cX6_positionBits 43 = .ok (.iload_n 1, 1) := by decide +kernel
theorem dX6_positionBits_44 : decode cX6_positionBits 44 = .ok (.iload_n 2, 1) := by decide +kernel
theorem dX6_positionBits_45 : decode cX6_positionBits 45 = .ok (.invokevirtual 174, 3) := by decide +kernel
theorem dX6_positionBits_48 : decode cX6_positionBits 48 = .ok (.l2f, 1) := by decide +kernel
theorem dX6_positionBits_49 : decode cX6_positionBits 49 = .ok (.fdiv, 1) := by decide +kernel
theorem dX6_positionBits_50 : decode cX6_positionBits 50 = .ok (.invokestatic 180, 3) := by decide +kernel
theorem dX6_positionBits_53 : decode cX6_positionBits 53 = .ok (.ireturn, 1) := by decide +kernel
set_option maxRecDepth 20000 in
theorem ggX6_errorCount_X6_in : GoodIn wsX6_errorCount wsX6_in := goodIn_r _ [5] (by decide +kernel) (by decide +kernel)
set_option maxRecDepth 20000 in
theorem gX6_errorCount_X6_in : GoodIn wsX6_errorCount (va_wsS RX6 53 yX6_in wsX6_in) := goodIn_app (goodIn_of _ (by decide +kernel)) ggX6_errorCount_X6_in
set_option maxRecDepth 20000 in
theorem ggX6_errorCount_X6_error : GoodIn wsX6_errorCount wsX6_error := goodIn_r _ [9, 1, 10, 11, 12, 13, 14, 15, 16, 17, 18, 19, 20, 21, 22, 23, 24] (by decide +kernel) (by decide +kernel)
set_option maxRecDepth 20000 in
theorem gX6_errorCount_X6_error : GoodIn wsX6_errorCount (wsV RX6 49 RX6 yX6_error wsX6_error) := goodIn_app (goodIn_of _ (by decide +kernel)) ggX6_errorCount_X6_error
theorem dX6_errorCount_0 : decode cX6_errorCount 0 = .ok (.iload_n 1, 1) := by decide +kernel
theorem dX6_errorCount_1 : decode cX6_errorCount 1 = .ok (.bipush (-7), 2) := by decide +kernel
theorem dX6_errorCount_3 : decode cX6_errorCount 3 = .ok (.bipush (-2), 2) := by decide +kernel
theorem dX6_errorCount_5 : decode cX6_errorCount 5 = .ok (.invokestatic 53, 3) := by decide +kernel
theorem dX6_errorCount_8 : decode cX6_errorCount 8 = .ok (.ifCond .eq 15, 3) := by decide +kernel
theorem dX6_errorCount_11 : decode cX6_errorCount 11 = .ok (.aload_n 0, 1) := by decide +kernel
theorem dX6_errorCount_12 : decode cX6_errorCount 12 = .ok (.getfield 16, 3) := by decide +kernel
theorem dX6_errorCount_15 : decode cX6_errorCount 15 = .ok (.bipush (-2), 2) := by decide +kernel
theorem dX6_errorCount_17 : decode cX6_errorCount 17 = .ok (.iload_n 1, 1) := by decide +kernel
theorem dX6_errorCount_18 : decode cX6_errorCount 18 = .ok (.isub, 1) := by decide +kernel
theorem dX6_errorCount_19 : decode cX6_errorCount 19 = .ok (.iaload, 1) := by decide +kernel
theorem dX6_errorCount_20 : decode cX6_errorCount 20 = .ok (.goto 9, 3) := by decide +kernel
theorem dX6_errorCount_23 : decode cX6_errorCount 23 = .ok (.aload_n 0, 1) := by decide +kernel
theorem dX6_errorCount_24 : decode cX6_errorCount 24 = .ok (.bipush (-2), 2) := by decide +kernel
theorem dX6_errorCount_26 : decode cX6_errorCount 26 = .ok (.invokevirtual 49, 3) := by decide +kernel
theorem dX6_errorCount_29 : decode cX6_errorCount 29 = .ok (.ireturn, 1) := by decide +kernel
theorem dX6_mix_0 : decode cX6_mix 0 = .ok (.aload_n 0, 1) := by decide +kernel
theorem dX6_mix_1 : decode cX6_mix 1 = .ok (.ldc2_w 186, 3) := by decide +kernel
theorem dX6_mix_4 : decode cX6_mix 4 = .ok (.aload_n 0, 1) := by decide +kernel
theorem dX6_mix_5 : decode cX6_mix 5 = .ok (.getfield 188, 3) := by decide +kernel
theorem dX6_mix_8 : decode cX6_mix 8 = .ok (.lmul, 1) := by decide +kernel
theorem dX6_mix_9 : decode cX6_mix 9 = .ok (.lload_n 1, 1) := by decide +kernel
theorem dX6_mix_10 : decode cX6_mix 10 = .ok (.ladd, 1) := by decide +kernel
theorem dX6_mix_11 : decode cX6_mix 11 = .ok (.putfield 188, 3) := by decide +kernel
theorem dX6_mix_14 : decode cX6_mix 14 = .ok (.return_, 1) := by decide +kernel
set_option maxRecDepth 20000 in
theorem ggX6_mixPositions_X6_place : GoodIn wsX6_mixPositions wsX6_place := goodIn_r _ [6, 7, 1, 8, 9, 10, 11, 5, 12, 13, 14, 15, 16, 17, 18, 19, 20, 21, 22, 23, 24, 25, 26, 27, 28, 29, 30, 31, 53, 54, 55, 56, 57, 58, 59, 60, 61, 62, 63, 64, 65, 66, 67] (by decide +kernel) (by decide +kernel)
set_option maxRecDepth 20000 in
theorem gX6_mixPositions_X6_place : GoodIn wsX6_mixPositions (wsV RX6 164 RX6 yX6_place wsX6_place) := goodIn_app (goodIn_of _ (by decide +kernel)) ggX6_mixPositions_X6_place
set_option maxRecDepth 20000 in
theorem ggX6_mixPositions_X6_upper : GoodIn wsX6_mixPositions wsX6_upper := goodIn_r _ [35, 7, 36, 37, 38, 5, 39, 8, 21, 22, 23, 40, 41, 42, 53, 54, 55, 56, 57, 58, 59, 60, 61, 62, 63, 64, 65, 66, 67] (by decide +kernel) (by decide +kernel)
set_option maxRecDepth 20000 in
theorem gX6_mixPositions_X6_upper : GoodIn wsX6_mixPositions (wsV RX6 171 RX6 yX6_upper wsX6_upper) := goodIn_app (goodIn_of _ (by decide +kernel)) ggX6_mixPositions_X6_upper
set_option maxRecDepth 20000 in
theorem ggX6_mixPositions_X6_mix : GoodIn wsX6_mixPositions wsX6_mix := goodIn_r _ [46, 47, 48, 53, 54, 55, 56, 57, 58, 59, 60, 61, 62, 63, 64, 65, 66, 67] (by decide +kernel) (by decide +kernel)
set_option maxRecDepth 20000 in
theorem gX6_mixPositions_X6_mix : GoodIn wsX6_mixPositions (wsV RX6 191 RX6 yX6_mix wsX6_mix) := goodIn_app (goodIn_of _ (by decide +kernel)) ggX6_mixPositions_X6_mix
set_option maxRecDepth 20000 in
theorem ggX6_mixPositions_X6_lower : GoodIn wsX6_mixPositions wsX6_lower := goodIn_r _ [52, 7, 36, 37, 38, 5, 39, 8, 21, 22, 23, 40, 41, 42, 53, 54, 55, 56, 57, 58, 59, 60, 61, 62, 63, 64, 65, 66, 67] (by decide +kernel) (by decide +kernel)
set_option maxRecDepth 20000 in
theorem gX6_mixPositions_X6_lower : GoodIn wsX6_mixPositions (wsV RX6 174 RX6 yX6_lower wsX6_lower) := goodIn_app (goodIn_of _ (by decide +kernel)) ggX6_mixPositions_X6_lower
theorem dX6_mixPositions_0 : decode cX6_mixPositions 0 = .ok (.aload_n 0, 1) := by decide +kernel
theorem dX6_mixPositions_1 : decode cX6_mixPositions 1 = .ok (.invokevirtual 164, 3) := by decide +kernel
theorem dX6_mixPositions_4 : decode cX6_mixPositions 4 = .ok (.iconst 0, 1) := by decide +kernel
theorem dX6_mixPositions_5 : decode cX6_mixPositions 5 = .ok (.istore_n 1, 1) := by decide +kernel
theorem dX6_mixPositions_6 : decode cX6_mixPositions 6 = .ok (.iload_n 1, 1) := by decide +kernel
theorem dX6_mixPositions_7 : decode cX6_mixPositions 7 = .ok (.aload_n 0, 1) := by decide +kernel
theorem dX6_mixPositions_8 : decode cX6_mixPositions 8 = .ok (.getfield 7, 3) := by decide +kernel
theorem dX6_mixPositions_11 : decode cX6_mixPositions 11 = .ok (.iconst 0, 1) := by decide +kernel
theorem dX6_mixPositions_12 : decode cX6_mixPositions 12 = .ok (.iaload, 1) := by decide +kernel
theorem dX6_mixPositions_13 : decode cX6_mixPositions 13 = .ok (.if_icmp .ge 42, 3) := by decide +kernel
theorem dX6_mixPositions_16 : decode cX6_mixPositions 16 = .ok (.iconst 0, 1) := by decide +kernel
theorem dX6_mixPositions_17 : decode cX6_mixPositions 17 = .ok (.istore_n 2, 1) := by decide +kernel
theorem dX6_mixPositions_18 : decode cX6_mixPositions 18 = .ok (.iload_n 2, 1) := by decide +kernel
theorem dX6_mixPositions_19 : decode cX6_mixPositions 19 = .ok (.iconst 2, 1) := by decide +kernel
theorem dX6_mixPositions_20 : decode cX6_mixPositions 20 = .ok (.if_icmp .ge 29, 3) := by decide +kernel
theorem dX6_mixPositions_23 : decode cX6_mixPositions 23 = .ok (.aload_n 0, 1) := by decide +kernel
theorem dX6_mixPositions_24 : decode cX6_mixPositions 24 = .ok (.aload_n 0, 1) := by decide +kernel
theorem dX6_mixPositions_25 : decode cX6_mixPositions 25 = .ok (.iload_n 1, 1) := by decide +kernel
theorem dX6_mixPositions_26 : decode cX6_mixPositions 26 = .ok (.iload_n 2, 1) := by decide +kernel
theorem dX6_mixPositions_27 : decode cX6_mixPositions 27 = .ok (.invokevirtual 171, 3) := by decide +kernel
theorem dX6_mixPositions_30 : decode cX6_mixPositions 30 = .ok (.invokevirtual 191, 3) := by decide +kernel
theorem dX6_mixPositions_33 : decode cX6_mixPositions 33 = .ok (.aload_n 0, 1) := by decide +kernel
theorem dX6_mixPositions_34 : decode cX6_mixPositions 34 = .ok (.aload_n 0, 1) := by decide +kernel
theorem dX6_mixPositions_35 : decode cX6_mixPositions 35 = .ok (.iload_n 1, 1) := by decide +kernel
theorem dX6_mixPositions_36 : decode cX6_mixPositions 36 = .ok (.iload_n 2, 1) := by decide +kernel
theorem dX6_mixPositions_37 : decode cX6_mixPositions 37 = .ok (.invokevirtual 174, 3) := by decide +kernel
theorem dX6_mixPositions_40 : decode cX6_mixPositions 40 = .ok (.invokevirtual 191, 3) := by decide +kernel
theorem dX6_mixPositions_43 : decode cX6_mixPositions 43 = .ok (.iinc 2 1, 3) := by decide +kernel
theorem dX6_mixPositions_46 : decode cX6_mixPositions 46 = .ok (.goto (-28), 3) := by decide +kernel
theorem dX6_mixPositions_49 : decode cX6_mixPositions 49 = .ok (.iinc 1 1, 3) := by decide +kernel
theorem dX6_mixPositions_52 : decode cX6_mixPositions 52 = .ok (.goto (-46), 3) := by decide +kernel
theorem dX6_mixPositions_55 : decode cX6_mixPositions 55 = .ok (.return_, 1) := by decide +kernel
set_option maxRecDepth 20000 in
theorem ggX6_digest_X6_mix : GoodIn wsX6_digest wsX6_mix := goodIn_r _ [10, 11, 2, 120, 121, 122, 123, 124, 125, 126, 127, 128, 129, 130, 131, 132, 133, 134] (by decide +kernel) (by decide +kernel)
set_option maxRecDepth 20000 in
theorem gX6_digest_X6_mix : GoodIn wsX6_digest (wsV RX6 191 RX6 yX6_mix wsX6_mix) := goodIn_app (goodIn_of _ (by decide +kernel)) ggX6_digest_X6_mix
set_option maxRecDepth 20000 in
theorem ggX6_digest_X6_degreeOf : GoodIn wsX6_digest wsX6_degreeOf := goodIn_r _ [15, 4, 16, 17, 18, 9, 19, 20, 21, 22, 23, 120, 121, 122, 123, 124, 125, 126, 127, 128, 129, 130, 131, 132, 133, 134] (by decide +kernel) (by decide +kernel)
set_option maxRecDepth 20000 in
theorem gX6_digest_X6_degreeOf : GoodIn wsX6_digest (wsV RX6 87 RX6 yX6_degreeOf wsX6_degreeOf) := goodIn_app (goodIn_of _ (by decide +kernel)) ggX6_digest_X6_degreeOf
set_option maxRecDepth 20000 in
theorem ggX6_digest_X6_node : GoodIn wsX6_digest wsX6_node := goodIn_r _ [26] (by decide +kernel) (by decide +kernel)
set_option maxRecDepth 20000 in
theorem gX6_digest_X6_node : GoodIn wsX6_digest (va_wsS RX6 112 yX6_node wsX6_node) := goodIn_app (goodIn_of _ (by decide +kernel)) ggX6_digest_X6_node
set_option maxRecDepth 20000 in
theorem ggX6_digest_X6_search : GoodIn wsX6_digest wsX6_search := goodIn_r _ [30, 31, 32, 33, 4, 34, 35, 36, 9, 37, 38, 39, 40, 41, 20, 21, 22, 23, 42, 43, 44, 45, 16, 17, 18, 19, 46, 47, 48, 49, 50, 51, 52, 24, 25, 26, 120, 121, 122, 123, 124, 125, 126, 127, 128, 129, 130, 131, 132, 133, 134] (by decide +kernel) (by decide +kernel)
set_option maxRecDepth 20000 in
theorem gX6_digest_X6_search : GoodIn wsX6_digest (wsV RX6 116 RX6 yX6_search wsX6_search) := goodIn_app (goodIn_of _ (by decide +kernel)) ggX6_digest_X6_search
set_option maxRecDepth 20000 in
theorem ggX6_digest_X6_countAt : GoodIn wsX6_digest wsX6_countAt := goodIn_r _ [56, 32, 31, 33, 120, 121, 122, 123, 124, 125, 126, 127, 128, 129, 130, 131, 132, 133, 134] (by decide +kernel) (by decide +kernel)
set_option maxRecDepth 20000 in
theorem gX6_digest_X6_countAt : GoodIn wsX6_digest (wsV RX6 120 RX6 yX6_countAt wsX6_countAt) := goodIn_app (goodIn_of _ (by decide +kernel)) ggX6_digest_X6_countAt
set_option maxRecDepth 20000 in
theorem ggX6_digest_X6_rankOf : GoodIn wsX6_digest wsX6_rankOf := goodIn_r _ [60, 4, 61, 62, 63, 64, 9, 65, 66, 67, 68, 69, 70, 71, 72, 20, 21, 22, 23, 49, 50, 51, 52, 38, 39, 40, 41, 42, 43, 44, 45, 73, 74, 75, 76, 77, 78, 79, 120, 121, 122, 123, 124, 125, 126, 127, 128, 129, 130, 131, 132, 133, 134] (by decide +kernel) (by decide +kernel)
set_option maxRecDepth 20000 in
theorem gX6_digest_X6_rankOf : GoodIn wsX6_digest (wsV RX6 136 RX6 yX6_rankOf wsX6_rankOf) := goodIn_app (goodIn_of _ (by decide +kernel)) ggX6_digest_X6_rankOf
set_option maxRecDepth 20000 in
theorem ggX6_digest_X6_indexOf : GoodIn wsX6_digest wsX6_indexOf := goodIn_r _ [83, 62, 63, 64, 9, 65, 4, 66, 61, 67, 68, 69, 70, 71, 72, 20, 21, 22, 23, 49, 50, 51, 52, 38, 39, 40, 41, 42, 43, 44, 45, 73, 74, 75, 76, 77, 78, 79, 120, 121, 122, 123, 124, 125, 126, 127, 128, 129, 130, 131, 132, 133, 134] (by decide +kernel) (by decide +kernel)
set_option maxRecDepth 20000 in
theorem gX6_digest_X6_indexOf : GoodIn wsX6_digest (wsV RX6 139 RX6 yX6_indexOf wsX6_indexOf) := goodIn_app (goodIn_of _ (by decide +kernel)) ggX6_digest_X6_indexOf
set_option maxRecDepth 20000 in
theorem ggX6_digest_X6_connected : GoodIn wsX6_digest wsX6_connected := goodIn_r _ [87, 4, 66, 69, 70, 71, 9, 72, 67, 68, 20, 21, 22, 23, 49, 50, 51, 52, 38, 39, 40, 41, 42, 43, 44, 45, 120, 121, 122, 123, 124, 125, 126, 127, 128, 129, 130, 131, 132, 133, 134] (by decide +kernel) (by decide +kernel)
set_option maxRecDepth 20000 in
theorem gX6_digest_X6_connected : GoodIn wsX6_digest (wsV RX6 142 RX6 yX6_connected wsX6_connected) := goodIn_app (goodIn_of _ (by decide +kernel)) ggX6_digest_X6_connected
set_option maxRecDepth 20000 in
theorem ggX6_digest_X6_mixPositions : GoodIn wsX6_digest wsX6_mixPositions := goodIn_r _ [91, 4, 92, 93, 94, 9, 95, 96, 97, 98, 99, 100, 101, 20, 21, 22, 23, 49, 50, 51, 52, 102, 103, 104, 38, 39, 40, 41, 42, 43, 44, 45, 105, 106, 107, 108, 109, 110, 111, 112, 113, 114, 115, 6, 7, 8, 10, 11, 2, 116, 117, 118, 119, 120, 121, 122, 123, 124, 125, 126, 127, 128, 129, 130, 131, 132, 133, 134] (by decide +kernel) (by decide +kernel)
set_option maxRecDepth 20000 in
theorem gX6_digest_X6_mixPositions : GoodIn wsX6_digest (wsV RX6 197 RX6 yX6_mixPositions wsX6_mixPositions) := goodIn_app (goodIn_of _ (by decide +kernel)) ggX6_digest_X6_mixPositions
theorem dX6_digest_0 : decode cX6_digest 0 = .ok (.aload_n 0, 1) := by decide +kernel
theorem dX6_digest_1 : decode cX6_digest 1 = .ok (.ldc2_w 195, 3) := by decide +kernel
theorem dX6_digest_4 : decode cX6_digest 4 = .ok (.putfield 188, 3) := by decide +kernel
theorem dX6_digest_7 : decode cX6_digest 7 = .ok (.iconst 0, 1) := by decide +kernel
theorem dX6_digest_8 : decode cX6_digest 8 = .ok (.istore_n 1, 1) := by decide +kernel
theorem dX6_digest_9 : decode cX6_digest 9 = .ok (.iload_n 1, 1) := by decide +kernel
theorem dX6_digest_10 : decode cX6_digest 10 = .ok (.bipush 6, 2) := by decide +kernel
theorem dX6_digest_12 : decode cX6_digest 12 = .ok (.if_icmp .ge 20, 3) := by decide +kernel
theorem dX6_digest_15 : decode cX6_digest 15 = .ok (.aload_n 0, 1) := by decide +kernel
theorem dX6_digest_16 : decode cX6_digest 16 = .ok (.aload_n 0, 1) := by decide +kernel
theorem dX6_digest_17 : decode cX6_digest 17 = .ok (.getfield 16, 3) := by decide +kernel
theorem dX6_digest_20 : decode cX6_digest 20 = .ok (.iload_n 1, 1) := by decide +kernel
theorem dX6_digest_21 : decode cX6_digest 21 = .ok (.iaload, 1) := by decide +kernel
theorem dX6_digest_22 : decode cX6_digest 22 = .ok (.i2l, 1) := by decide +kernel
theorem dX6_digest_23 : decode cX6_digest 23 = .ok (.invokevirtual 191, 3) := by decide +kernel
theorem dX6_digest_26 : decode cX6_digest 26 = .ok (.iinc 1 1, 3) := by decide +kernel
theorem dX6_digest_29 : decode cX6_digest 29 = .ok (.goto (-20), 3) := by decide +kernel
theorem dX6_digest_32 : decode cX6_digest 32 = .ok (.iconst 0, 1) := by decide +kernel
theorem dX6_digest_33 : decode cX6_digest 33 = .ok (.istore_n 1, 1) := by decide +kernel
theorem dX6_digest_34 : decode cX6_digest 34 = .ok (.iload_n 1, 1) := by decide +kernel
theorem dX6_digest_35 : decode cX6_digest 35 = .ok (.iconst 2, 1) := by decide +kernel
theorem dX6_digest_36 : decode cX6_digest 36 = .ok (.iconst 4, 1) := by decide +kernel
theorem dX6_digest_37 : decode cX6_digest 37 = .ok (.aload_n 0, 1) := by decide +kernel
theorem dX6_digest_38 : decode cX6_digest 38 = .ok (.getfield 7, 3) := by decide +kernel
theorem dX6_digest_41 : decode cX6_digest 41 = .ok (.iconst 1, 1) := by decide +kernel
theorem dX6_digest_42 : decode cX6_digest 42 = .ok (.iaload, 1) := by decide +kernel
theorem dX6_digest_43 : decode cX6_digest 43 = .ok (.imul, 1) := by decide +kernel
theorem dX6_digest_44 : decode cX6_digest 44 = .ok (.iadd, 1) := by decide +kernel
theorem dX6_digest_45 : decode cX6_digest 45 = .ok (.if_icmp .ge 20, 3) := by decide +kernel
theorem dX6_digest_48 : decode cX6_digest 48 = .ok (.aload_n 0, 1) := by decide +kernel
theorem dX6_digest_49 : decode cX6_digest 49 = .ok (.aload_n 0, 1) := by decide +kernel
theorem dX6_digest_50 : decode cX6_digest 50 = .ok (.getfield 7, 3) := by decide +kernel
theorem dX6_digest_53 : decode cX6_digest 53 = .ok (.iload_n 1, 1) := by decide +kernel
theorem dX6_digest_54 : decode cX6_digest 54 = .ok (.iaload, 1) := by decide +kernel
theorem dX6_digest_55 : decode cX6_digest 55 = .ok (.i2l, 1) := by decide +kernel
theorem dX6_digest_56 : decode cX6_digest 56 = .ok (.invokevirtual 191, 3) := by decide +kernel
theorem dX6_digest_59 : decode cX6_digest 59 = .ok (.iinc 1 1, 3) := by decide +kernel
theorem dX6_digest_62 : decode cX6_digest 62 = .ok (.goto (-28), 3) := by decide +kernel
theorem dX6_digest_65 : decode cX6_digest 65 = .ok (.iconst 0, 1) := by decide +kernel
theorem dX6_digest_66 : decode cX6_digest 66 = .ok (.istore_n 1, 1) := by decide +kernel
theorem dX6_digest_67 : decode cX6_digest 67 = .ok (.iload_n 1, 1) := by decide +kernel
theorem dX6_digest_68 : decode cX6_digest 68 = .ok (.aload_n 0, 1) := by decide +kernel
theorem dX6_digest_69 : decode cX6_digest 69 = .ok (.getfield 7, 3) := by decide +kernel
theorem dX6_digest_72 : decode cX6_digest 72 = .ok (.iconst 0, 1) := by decide +kernel
theorem dX6_digest_73 : decode cX6_digest 73 = .ok (.iaload, 1) := by decide +kernel
theorem dX6_digest_74 : decode cX6_digest 74 = .ok (.if_icmp .ge 74, 3) := by decide +kernel
theorem dX6_digest_77 : decode cX6_digest 77 = .ok (.aload_n 0, 1) := by decide +kernel
theorem dX6_digest_78 : decode cX6_digest 78 = .ok (.aload_n 0, 1) := by decide +kernel
theorem dX6_digest_79 : decode cX6_digest 79 = .ok (.iload_n 1, 1) := by decide +kernel
theorem dX6_digest_80 : decode cX6_digest 80 = .ok (.invokevirtual 87, 3) := by decide +kernel
theorem dX6_digest_83 : decode cX6_digest 83 = .ok (.i2l, 1) := by decide +kernel
theorem dX6_digest_84 : decode cX6_digest 84 = .ok (.invokevirtual 191, 3) := by decide +kernel
theorem dX6_digest_87 : decode cX6_digest 87 = .ok (.aload_n 0, 1) := by decide +kernel
theorem dX6_digest_88 : decode cX6_digest 88 = .ok (.iload_n 1, 1) := by decide +kernel
theorem dX6_digest_89 : decode cX6_digest 89 = .ok (.iconst 0, 1) := by decide +kernel
theorem dX6_digest_90 : decode cX6_digest 90 = .ok (.iconst 0, 1) := by decide +kernel
theorem dX6_digest_91 : decode cX6_digest 91 = .ok (.invokestatic 112, 3) := by decide +kernel
theorem dX6_digest_94 : decode cX6_digest 94 = .ok (.iconst (-1), 1) := by decide +kernel
theorem dX6_digest_95 : decode cX6_digest 95 = .ok (.iconst 4, 1) := by decide +kernel
theorem dX6_digest_96 : decode cX6_digest 96 = .ok (.invokevirtual 116, 3) := by decide +kernel
theorem dX6_digest_99 : decode cX6_digest 99 = .ok (.iconst 1, 1) := by decide +kernel
theorem dX6_digest_100 : decode cX6_digest 100 = .ok (.istore_n 2, 1) := by decide +kernel
theorem dX6_digest_101 : decode cX6_digest 101 = .ok (.iload_n 2, 1) := by decide +kernel
theorem dX6_digest_102 : decode cX6_digest 102 = .ok (.iconst 5, 1) := by decide +kernel
theorem dX6_digest_103 : decode cX6_digest 103 = .ok (.if_icmp .ge 19, 3) := by decide +kernel
theorem dX6_digest_106 : decode cX6_digest 106 = .ok (.aload_n 0, 1) := by decide +kernel
theorem dX6_digest_107 : decode cX6_digest 107 = .ok (.aload_n 0, 1) := by decide +kernel
theorem dX6_digest_108 : decode cX6_digest 108 = .ok (.iload_n 2, 1) := by decide +kernel
theorem dX6_digest_109 : decode cX6_digest 109 = .ok (.invokevirtual 120, 3) := by decide +kernel
theorem dX6_digest_112 : decode cX6_digest 112 = .ok (.i2l, 1) := by decide +kernel
theorem dX6_digest_113 : decode cX6_digest 113 = .ok (.invokevirtual 191, 3) := by decide +kernel
theorem dX6_digest_116 : decode cX6_digest 116 = .ok (.iinc 2 1, 3) := by decide +kernel
theorem dX6_digest_119 : decode cX6_digest 119 = .ok (.goto (-18), 3) := by decide +kernel
theorem dX6_digest_122 : decode cX6_digest 122 = .ok (.aload_n 0, 1) := by decide +kernel
theorem dX6_digest_123 : decode cX6_digest 123 = .ok (.aload_n 0, 1) := by decide +kernel
theorem dX6_digest_124 : decode cX6_digest 124 = .ok (.iload_n 1, 1) := by decide +kernel
theorem dX6_digest_125 : decode cX6_digest 125 = .ok (.invokevirtual 136, 3) := by decide +kernel
theorem dX6_digest_128 : decode cX6_digest 128 = .ok (.i2l, 1) := by decide +kernel
theorem dX6_digest_129 : decode cX6_digest 129 = .ok (.invokevirtual 191, 3) := by decide +kernel
theorem dX6_digest_132 : decode cX6_digest 132 = .ok (.aload_n 0, 1) := by decide +kernel
theorem dX6_digest_133 : decode cX6_digest 133 = .ok (.aload_n 0, 1) := by decide +kernel
theorem dX6_digest_134 : decode cX6_digest 134 = .ok (.iload_n 1, 1) := by decide +kernel
theorem dX6_digest_135 : decode cX6_digest 135 = .ok (.invokevirtual 139, 3) := by decide +kernel
theorem dX6_digest_138 : decode cX6_digest 138 = .ok (.i2l, 1) := by decide +kernel
theorem dX6_digest_139 : decode cX6_digest 139 = .ok (.invokevirtual 191, 3) := by decide +kernel
theorem dX6_digest_142 : decode cX6_digest 142 = .ok (.iinc 1 1, 3) := by decide +kernel
theorem dX6_digest_145 : decode cX6_digest 145 = .ok (.goto (-78), 3) := by decide +kernel
theorem dX6_digest_148 : decode cX6_digest 148 = .ok (.aload_n 0, 1) := by decide +kernel
theorem dX6_digest_149 : decode cX6_digest 149 = .ok (.invokevirtual 142, 3) := by decide +kernel
theorem dX6_digest_152 : decode cX6_digest 152 = .ok (.istore_n 1, 1) := by decide +kernel
theorem dX6_digest_153 : decode cX6_digest 153 = .ok (.aload_n 0, 1) := by decide +kernel
theorem dX6_digest_154 : decode cX6_digest 154 = .ok (.iload_n 1, 1) := by decide +kernel
theorem dX6_digest_155 : decode cX6_digest 155 = .ok (.ifCond .eq 7, 3) := by decide +kernel
theorem dX6_digest_158 : decode cX6_digest 158 = .ok (.lconst 1, 1) := by decide +kernel
theorem dX6_digest_159 : decode cX6_digest 159 = .ok (.goto 4, 3) := by decide +kernel
theorem dX6_digest_162 : decode cX6_digest 162 = .ok (.lconst 0, 1) := by decide +kernel
theorem dX6_digest_163 : decode cX6_digest 163 = .ok (.invokevirtual 191, 3) := by decide +kernel
theorem dX6_digest_166 : decode cX6_digest 166 = .ok (.iload_n 1, 1) := by decide +kernel
theorem dX6_digest_167 : decode cX6_digest 167 = .ok (.ifCond .eq 7, 3) := by decide +kernel
theorem dX6_digest_170 : decode cX6_digest 170 = .ok (.aload_n 0, 1) := by decide +kernel
theorem dX6_digest_171 : decode cX6_digest 171 = .ok (.invokevirtual 197, 3) := by decide +kernel
theorem dX6_digest_174 : decode cX6_digest 174 = .ok (.aload_n 0, 1) := by decide +kernel
theorem dX6_digest_175 : decode cX6_digest 175 = .ok (.aload_n 0, 1) := by decide +kernel
theorem dX6_digest_176 : decode cX6_digest 176 = .ok (.getfield 45, 3) := by decide +kernel
theorem dX6_digest_179 : decode cX6_digest 179 = .ok (.i2l, 1) := by decide +kernel
theorem dX6_digest_180 : decode cX6_digest 180 = .ok (.invokevirtual 191, 3) := by decide +kernel
theorem dX6_digest_183 : decode cX6_digest 183 = .ok (.aload_n 0, 1) := by decide +kernel
theorem dX6_digest_184 : decode cX6_digest 184 = .ok (.getfield 188, 3) := by decide +kernel
theorem dX6_digest_187 : decode cX6_digest 187 = .ok (.lreturn, 1) := by decide +kernel
theorem dJxf58ca_isNaN_12338_0 : decode cJxf58ca_isNaN_12338 0 = .ok (.fload_n 0, 1) := by decide +kernel
theorem dJxf58ca_isNaN_12338_1 : decode cJxf58ca_isNaN_12338 1 = .ok (.fload_n 0, 1) := by decide +kernel
theorem dJxf58ca_isNaN_12338_2 : decode cJxf58ca_isNaN_12338 2 = .ok (.fcmp .l, 1) := by decide +kernel
theorem dJxf58ca_isNaN_12338_3 : decode cJxf58ca_isNaN_12338 3 = .ok (.ifCond .eq 7, 3) := by decide +kernel
theorem dJxf58ca_isNaN_12338_6 : decode cJxf58ca_isNaN_12338 6 = .ok (.iconst 1, 1) := by decide +kernel
theorem dJxf58ca_isNaN_12338_7 : decode cJxf58ca_isNaN_12338 7 = .ok (.goto 4, 3) := by decide +kernel
theorem dJxf58ca_isNaN_12338_10 : decode cJxf58ca_isNaN_12338 10 = .ok (.iconst 0, 1) := by decide +kernel
theorem dJxf58ca_isNaN_12338_11 : decode cJxf58ca_isNaN_12338 11 = .ok (.ireturn, 1) := by decide +kernel
set_option maxRecDepth 20000 in
theorem ggJxf58ca_floatToIntBits_5c35a_Jxf58ca_isNaN_12338 : GoodIn wsJxf58ca_floatToIntBits_5c35a wsJxf58ca_isNaN_12338 := goodIn_r _ [9] (by decide +kernel) (by decide +kernel)
set_option maxRecDepth 20000 in
theorem gJxf58ca_floatToIntBits_5c35a_Jxf58ca_isNaN_12338 : GoodIn wsJxf58ca_floatToIntBits_5c35a (va_wsS RJxf58ca 59 yJxf58ca_isNaN_12338 wsJxf58ca_isNaN_12338) := goodIn_app (goodIn_of _ (by decide +kernel)) ggJxf58ca_floatToIntBits_5c35a_Jxf58ca_isNaN_12338
theorem dJxf58ca_floatToIntBits_5c35a_0 : decode cJxf58ca_floatToIntBits_5c35a 0 = .ok (.fload_n 0, 1) := by decide +kernel
theorem dJxf58ca_floatToIntBits_5c35a_1 : decode cJxf58ca_floatToIntBits_5c35a 1 = .ok (.invokestatic 59, 3) := by decide +kernel
theorem dJxf58ca_floatToIntBits_5c35a_4 : decode cJxf58ca_floatToIntBits_5c35a 4 = .ok (.ifCond .ne 8, 3) := by decide +kernel
theorem dJxf58ca_floatToIntBits_5c35a_7 : decode cJxf58ca_floatToIntBits_5c35a 7 = .ok (.fload_n 0, 1) := by decide +kernel
theorem dJxf58ca_floatToIntBits_5c35a_8 : decode cJxf58ca_floatToIntBits_5c35a 8 = .ok (.invokestatic 74, 3) := by decide +kernel
theorem dJxf58ca_floatToIntBits_5c35a_11 : decode cJxf58ca_floatToIntBits_5c35a 11 = .ok (.ireturn, 1) := by decide +kernel
theorem dJxf58ca_floatToIntBits_5c35a_12 : decode cJxf58ca_floatToIntBits_5c35a 12 = .ok (.ldc 77, 2) := by decide +kernel
theorem dJxf58ca_floatToIntBits_5c35a_14 : decode cJxf58ca_floatToIntBits_5c35a 14 = .ok (.ireturn, 1) := by decide +kernel
set_option maxRecDepth 20000 in
theorem ggL_law_X5_init : GoodIn wsL_law wsX5_init := goodIn_r _ [8, 9, 10, 11, 12, 13, 14, 15, 16, 17, 18, 19, 20, 21, 22, 23, 24, 25, 26, 27, 28, 29, 30, 31, 32, 33, 34, 35, 36, 37, 38, 39, 40, 41, 42, 43, 44, 45, 46, 47, 48, 49, 50, 51, 52, 53, 54, 55, 56, 57, 58, 59, 60, 61, 62, 63, 64, 65, 66, 67, 68, 69, 70, 71, 72, 73, 74, 75, 76, 77, 78, 79, 714, 715, 716, 717, 718, 719, 720, 721, 722, 738, 739, 740, 741, 742, 743, 744, 745, 746, 747, 748, 749, 750, 751, 752, 753, 754, 755, 756, 757, 758, 759, 760] (by decide +kernel) (by decide +kernel)
set_option maxRecDepth 20000 in
theorem gL_law_X5_init : GoodIn wsL_law (wsX5_init) := ggL_law_X5_init
set_option maxRecDepth 20000 in
theorem ggL_law_X6_init : GoodIn wsL_law wsX6_init := goodIn_r _ [82, 83, 10, 11, 12, 84, 85, 86, 87, 88, 89, 90, 91, 65, 92, 93, 76, 94, 723, 724, 725, 726, 727, 728, 729, 730, 731, 732, 733, 734, 735, 736, 737] (by decide +kernel) (by decide +kernel)
set_option maxRecDepth 20000 in
theorem gL_law_X6_init : GoodIn wsL_law (wsX6_init) := ggL_law_X6_init
set_option maxRecDepth 20000 in
theorem ggL_law_X5_reset : GoodIn wsL_law wsX5_reset := goodIn_r _ [98, 17, 99, 18, 100, 101, 102, 2, 103, 13, 104, 105, 106, 16, 107, 40, 41, 108, 109, 110, 111, 24, 112, 113, 114, 115, 20, 19, 116, 117, 118, 119, 42, 43, 44, 45, 120, 121, 122, 123, 124, 125, 126, 127, 128, 129, 130, 131, 23, 132, 49, 133, 134, 135, 136, 137, 138, 139, 140, 141, 51, 52, 53, 714, 715, 716, 717, 718, 719, 720, 721, 722, 738, 739, 740, 741, 742, 743, 744, 745, 746, 747] (by decide +kernel) (by decide +kernel)
set_option maxRecDepth 20000 in
theorem gL_law_X5_reset : GoodIn wsL_law (wsV RL 13 RX5 yX5_reset wsX5_reset) := goodIn_app (goodIn_of _ (by decide +kernel)) ggL_law_X5_reset
set_option maxRecDepth 20000 in
theorem ggL_law_X6_reset : GoodIn wsL_law wsX6_reset := goodIn_r _ [145, 84, 146, 147, 5, 148, 149, 150, 151, 152, 86, 153, 154, 155, 156, 157, 85, 723, 724, 725, 726, 727, 728, 729, 730, 731, 732, 733, 734, 735, 736, 737] (by decide +kernel) (by decide +kernel)
set_option maxRecDepth 20000 in
theorem gL_law_X6_reset : GoodIn wsL_law (wsV RL 17 RX6 yX6_reset wsX6_reset) := goodIn_app (goodIn_of _ (by decide +kernel)) ggL_law_X6_reset
set_option maxRecDepth 20000 in
theorem ggL_law_X5_addEdge : GoodIn wsL_law wsX5_addEdge := goodIn_r _ [161, 17, 162, 18, 163, 164, 165, 2, 166, 99, 167, 168, 169, 100, 101, 102, 103, 13, 170, 171, 172, 16, 173, 41, 174, 175, 176, 177, 42, 43, 44, 45, 116, 117, 118, 119, 40, 120, 105, 106, 107, 121, 122, 123, 124, 125, 126, 127, 128, 178, 108, 109, 110, 111, 24, 112, 113, 114, 115, 20, 19, 129, 130, 131, 23, 132, 49, 133, 134, 135, 136, 137, 138, 139, 140, 141, 51, 52, 53, 714, 715, 716, 717, 718, 719, 720, 721, 722, 738, 739, 740, 741, 742, 743, 744, 745, 746, 747] (by decide +kernel) (by decide +kernel)
set_option maxRecDepth 20000 in
theorem gL_law_X5_addEdge : GoodIn wsL_law (wsV RL 18 RX5 yX5_addEdge wsX5_addEdge) := goodIn_app (goodIn_of _ (by decide +kernel)) ggL_law_X5_addEdge
set_option maxRecDepth 20000 in
theorem ggL_law_X6_addEdge : GoodIn wsL_law wsX6_addEdge := goodIn_r _ [182, 84, 183, 184, 185, 5, 186, 146, 147, 148, 187, 188, 189, 149, 150, 151, 152, 86, 190, 191, 192, 193, 194, 195, 196, 197, 198, 199, 200, 201, 153, 154, 155, 156, 157, 85, 723, 724, 725, 726, 727, 728, 729, 730, 731, 732, 733, 734, 735, 736, 737] (by decide +kernel) (by decide +kernel)
set_option maxRecDepth 20000 in
theorem gL_law_X6_addEdge : GoodIn wsL_law (wsV RL 22 RX6 yX6_addEdge wsX6_addEdge) := goodIn_app (goodIn_of _ (by decide +kernel)) ggL_law_X6_addEdge
set_option maxRecDepth 20000 in
theorem ggL_law_X5_removeEdge : GoodIn wsL_law wsX5_removeEdge := goodIn_r _ [205, 17, 162, 18, 100, 101, 102, 2, 103, 13, 116, 117, 118, 16, 119, 40, 41, 42, 43, 44, 45, 120, 105, 106, 107, 121, 122, 123, 124, 125, 126, 127, 128, 206, 207, 208, 209, 108, 109, 110, 111, 24, 112, 113, 114, 115, 20, 19, 129, 130, 131, 23, 132, 49, 133, 134, 135, 136, 137, 138, 139, 140, 141, 51, 52, 53, 714, 715, 716, 717, 718, 719, 720, 721, 722, 738, 739, 740, 741, 742, 743, 744, 745, 746, 747] (by decide +kernel) (by decide +kernel)
set_option maxRecDepth 20000 in
theorem gL_law_X5_removeEdge : GoodIn wsL_law (wsV RL 23 RX5 yX5_removeEdge wsX5_removeEdge) := goodIn_app (goodIn_of _ (by decide +kernel)) ggL_law_X5_removeEdge
set_option maxRecDepth 20000 in
theorem ggL_law_X6_removeEdge : GoodIn wsL_law wsX6_removeEdge := goodIn_r _ [213, 84, 146, 147, 5, 148, 149, 150, 151, 152, 86, 153, 154, 155, 156, 157, 85, 723, 724, 725, 726, 727, 728, 729, 730, 731, 732, 733, 734, 735, 736, 737] (by decide +kernel) (by decide +kernel)
set_option maxRecDepth 20000 in
theorem gL_law_X6_removeEdge : GoodIn wsL_law (wsV RL 26 RX6 yX6_removeEdge wsX6_removeEdge) := goodIn_app (goodIn_of _ (by decide +kernel)) ggL_law_X6_removeEdge
set_option maxRecDepth 20000 in
theorem ggL_law_X5_findEdge : GoodIn wsL_law wsX5_findEdge := goodIn_r _ [217, 17, 163, 164, 165, 2, 166, 99, 100, 101, 102, 103, 13, 170, 171, 172, 16, 173, 41, 174, 175, 176, 177, 42, 43, 44, 45, 714, 715, 716, 717, 718, 719, 720, 721, 722, 738, 739, 740, 741, 742, 743] (by decide +kernel) (by decide +kernel)
set_option maxRecDepth 20000 in
theorem gL_law_X5_findEdge : GoodIn wsL_law (wsV RL 27 RX5 yX5_findEdge wsX5_findEdge) := goodIn_app (goodIn_of _ (by decide +kernel)) ggL_law_X5_findEdge
set_option maxRecDepth 20000 in
theorem ggL_law_X6_findEdge : GoodIn wsL_law wsX6_findEdge := goodIn_r _ [221, 183, 184, 185, 5, 186, 84, 146, 147, 148, 190, 191, 192, 193, 194, 195, 196, 197, 198, 199, 200, 201, 149, 150, 151, 152, 86, 723, 724, 725, 726, 727, 728, 729, 730, 731, 732, 733, 734, 735, 736, 737] (by decide +kernel) (by decide +kernel)
set_option maxRecDepth 20000 in
theorem gL_law_X6_findEdge : GoodIn wsL_law (wsV RL 30 RX6 yX6_findEdge wsX6_findEdge) := goodIn_app (goodIn_of _ (by decide +kernel)) ggL_law_X6_findEdge
set_option maxRecDepth 20000 in
theorem ggL_law_X5_moveVertex : GoodIn wsL_law wsX5_moveVertex := goodIn_r _ [225, 18, 17, 163, 164, 165, 2, 166, 99, 167, 168, 169, 100, 101, 102, 103, 13, 116, 117, 118, 16, 119, 40, 41, 42, 43, 44, 45, 120, 105, 106, 107, 121, 122, 123, 124, 125, 126, 127, 128, 226, 227, 228, 229, 230, 231, 232, 233, 234, 235, 236, 237, 238, 239, 240, 241, 108, 109, 110, 111, 24, 112, 113, 114, 115, 20, 19, 129, 130, 131, 23, 132, 49, 133, 134, 135, 136, 137, 138, 139, 140, 141, 51, 52, 53, 714, 715, 716, 717, 718, 719, 720, 721, 722, 738, 739, 740, 741, 742, 743, 744, 745, 746, 747] (by decide +kernel) (by decide +kernel)
set_option maxRecDepth 20000 in
theorem gL_law_X5_moveVertex : GoodIn wsL_law (wsV RL 31 RX5 yX5_moveVertex wsX5_moveVertex) := goodIn_app (goodIn_of _ (by decide +kernel)) ggL_law_X5_moveVertex
set_option maxRecDepth 20000 in
theorem ggL_law_X6_moveVertex : GoodIn wsL_law wsX6_moveVertex := goodIn_r _ [245, 84, 87, 183, 184, 185, 5, 186, 146, 147, 148, 187, 188, 189, 149, 150, 151, 152, 86, 198, 199, 200, 201, 246, 247, 248, 249, 153, 154, 155, 156, 157, 85, 723, 724, 725, 726, 727, 728, 729, 730, 731, 732, 733, 734, 735, 736, 737] (by decide +kernel) (by decide +kernel)
set_option maxRecDepth 20000 in
theorem gL_law_X6_moveVertex : GoodIn wsL_law (wsV RL 35 RX6 yX6_moveVertex wsX6_moveVertex) := goodIn_app (goodIn_of _ (by decide +kernel)) ggL_law_X6_moveVertex
set_option maxRecDepth 20000 in
theorem ggL_law_X5_changeBasis : GoodIn wsL_law wsX5_changeBasis := goodIn_r _ [253, 18, 17, 100, 101, 102, 2, 103, 13, 116, 117, 118, 16, 119, 40, 41, 42, 43, 44, 45, 120, 105, 106, 107, 121, 122, 123, 124, 125, 126, 127, 128, 254, 255, 256, 257, 230, 231, 232, 233, 234, 235, 236, 237, 168, 169, 238, 239, 240, 241, 108, 109, 110, 111, 24, 112, 113, 114, 115, 20, 19, 129, 130, 131, 23, 132, 49, 133, 134, 135, 136, 137, 138, 139, 140, 141, 51, 52, 53, 714, 715, 716, 717, 718, 719, 720, 721, 722, 738, 739, 740, 741, 742, 743, 744, 745, 746, 747] (by decide +kernel) (by decide +kernel)
set_option maxRecDepth 20000 in
theorem gL_law_X5_changeBasis : GoodIn wsL_law (wsV RL 36 RX5 yX5_changeBasis wsX5_changeBasis) := goodIn_app (goodIn_of _ (by decide +kernel)) ggL_law_X5_changeBasis
set_option maxRecDepth 20000 in
theorem ggL_law_X6_changeBasis : GoodIn wsL_law wsX6_changeBasis := goodIn_r _ [261, 84, 87, 146, 147, 5, 148, 149, 150, 151, 152, 86, 198, 199, 200, 201, 246, 247, 248, 249, 187, 188, 189, 153, 154, 155, 156, 157, 85, 723, 724, 725, 726, 727, 728, 729, 730, 731, 732, 733, 734, 735, 736, 737] (by decide +kernel) (by decide +kernel)
set_option maxRecDepth 20000 in
theorem gL_law_X6_changeBasis : GoodIn wsL_law (wsV RL 39 RX6 yX6_changeBasis wsX6_changeBasis) := goodIn_app (goodIn_of _ (by decide +kernel)) ggL_law_X6_changeBasis
set_option maxRecDepth 20000 in
theorem ggL_law_X5_vertices : GoodIn wsL_law wsX5_vertices := goodIn_r _ [265, 17, 99, 714, 715, 716, 717, 718, 719, 720, 721, 722, 738, 739, 740, 741, 742, 743] (by decide +kernel) (by decide +kernel)
set_option maxRecDepth 20000 in
theorem gL_law_X5_vertices : GoodIn wsL_law (wsV RL 40 RX5 yX5_vertices wsX5_vertices) := goodIn_app (goodIn_of _ (by decide +kernel)) ggL_law_X5_vertices
set_option maxRecDepth 20000 in
theorem ggL_law_X6_vertices : GoodIn wsL_law wsX6_vertices := goodIn_r _ [269, 84, 723, 724, 725, 726, 727, 728, 729, 730, 731, 732, 733, 734, 735, 736, 737] (by decide +kernel) (by decide +kernel)
set_option maxRecDepth 20000 in
theorem gL_law_X6_vertices : GoodIn wsL_law (wsV RL 44 RX6 yX6_vertices wsX6_vertices) := goodIn_app (goodIn_of _ (by decide +kernel)) ggL_law_X6_vertices
set_option maxRecDepth 20000 in
theorem ggL_law_X5_edges : GoodIn wsL_law wsX5_edges := goodIn_r _ [273, 17, 162, 714, 715, 716, 717, 718, 719, 720, 721, 722, 738, 739, 740, 741, 742, 743] (by decide +kernel) (by decide +kernel)
set_option maxRecDepth 20000 in
theorem gL_law_X5_edges : GoodIn wsL_law (wsV RL 45 RX5 yX5_edges wsX5_edges) := goodIn_app (goodIn_of _ (by decide +kernel)) ggL_law_X5_edges
set_option maxRecDepth 20000 in
theorem ggL_law_X6_edges : GoodIn wsL_law wsX6_edges := goodIn_r _ [277, 84, 723, 724, 725, 726, 727, 728, 729, 730, 731, 732, 733, 734, 735, 736, 737] (by decide +kernel) (by decide +kernel)
set_option maxRecDepth 20000 in
theorem gL_law_X6_edges : GoodIn wsL_law (wsV RL 48 RX6 yX6_edges wsX6_edges) := goodIn_app (goodIn_of _ (by decide +kernel)) ggL_law_X6_edges
set_option maxRecDepth 20000 in
theorem ggL_law_X5_degree : GoodIn wsL_law wsX5_degree := goodIn_r _ [281, 24, 282, 163, 164, 165, 2, 166, 17, 99, 100, 101, 102, 103, 13, 714, 715, 716, 717, 718, 719, 720, 721, 722, 744, 745, 746, 747, 738, 739, 740, 741, 742, 743] (by decide +kernel) (by decide +kernel)
set_option maxRecDepth 20000 in
theorem gL_law_X5_degree : GoodIn wsL_law (wsV RL 49 RX5 yX5_degree wsX5_degree) := goodIn_app (goodIn_of _ (by decide +kernel)) ggL_law_X5_degree
set_option maxRecDepth 20000 in
theorem ggL_law_X6_degree : GoodIn wsL_law wsX6_degree := goodIn_r _ [286, 183, 184, 185, 5, 186, 84, 146, 147, 148, 287, 288, 289, 290, 291, 292, 293, 294, 198, 199, 200, 201, 149, 150, 151, 152, 86, 723, 724, 725, 726, 727, 728, 729, 730, 731, 732, 733, 734, 735, 736, 737] (by decide +kernel) (by decide +kernel)
set_option maxRecDepth 20000 in
theorem gL_law_X6_degree : GoodIn wsL_law (wsV RL 52 RX6 yX6_degree wsX6_degree) := goodIn_app (goodIn_of _ (by decide +kernel)) ggL_law_X6_degree
set_option maxRecDepth 20000 in
theorem ggL_law_X5_neighbour : GoodIn wsL_law wsX5_neighbour := goodIn_r _ [298, 24, 299, 300, 301, 302, 2, 303, 282, 163, 164, 165, 166, 17, 99, 100, 101, 102, 103, 13, 714, 715, 716, 717, 718, 719, 720, 721, 722, 744, 745, 746, 747, 738, 739, 740, 741, 742, 743] (by decide +kernel) (by decide +kernel)
set_option maxRecDepth 20000 in
theorem gL_law_X5_neighbour : GoodIn wsL_law (wsV RL 53 RX5 yX5_neighbour wsX5_neighbour) := goodIn_app (goodIn_of _ (by decide +kernel)) ggL_law_X5_neighbour
set_option maxRecDepth 20000 in
theorem ggL_law_X6_neighbour : GoodIn wsL_law wsX6_neighbour := goodIn_r _ [307, 308, 309, 310, 5, 311, 183, 184, 185, 186, 84, 146, 147, 148, 287, 288, 289, 290, 291, 292, 293, 294, 198, 199, 200, 201, 312, 313, 314, 315, 316, 317, 318, 319, 149, 150, 151, 152, 86, 723, 724, 725, 726, 727, 728, 729, 730, 731, 732, 733, 734, 735, 736, 737] (by decide +kernel) (by decide +kernel)
set_option maxRecDepth 20000 in
theorem gL_law_X6_neighbour : GoodIn wsL_law (wsV RL 57 RX6 yX6_neighbour wsX6_neighbour) := goodIn_app (goodIn_of _ (by decide +kernel)) ggL_law_X6_neighbour
set_option maxRecDepth 20000 in
theorem ggL_law_X5_coordination : GoodIn wsL_law wsX5_coordination := goodIn_r _ [323, 28, 163, 164, 165, 2, 166, 17, 99, 100, 101, 102, 103, 13, 324, 325, 326, 327, 24, 328, 329, 330, 27, 331, 61, 58, 59, 60, 332, 333, 334, 335, 336, 337, 338, 339, 340, 341, 342, 343, 344, 345, 346, 347, 348, 349, 350, 351, 352, 353, 354, 355, 356, 357, 358, 359, 360, 361, 714, 715, 716, 717, 718, 719, 720, 721, 722, 738, 739, 740, 741, 742, 743, 748, 749, 750, 751, 744, 745, 746, 747] (by decide +kernel) (by decide +kernel)
set_option maxRecDepth 20000 in
theorem gL_law_X5_coordination : GoodIn wsL_law (wsV RL 58 RX5 yX5_coordination wsX5_coordination) := goodIn_app (goodIn_of _ (by decide +kernel)) ggL_law_X5_coordination
set_option maxRecDepth 20000 in
theorem ggL_law_X6_coordination : GoodIn wsL_law wsX6_coordination := goodIn_r _ [365, 183, 184, 185, 5, 186, 84, 146, 147, 148, 149, 150, 151, 152, 86, 366, 367, 368, 369, 370, 371, 372, 88, 373, 89, 374, 375, 376, 377, 378, 379, 380, 381, 198, 199, 200, 201, 382, 383, 384, 385, 291, 292, 293, 294, 316, 317, 318, 319, 386, 387, 388, 389, 723, 724, 725, 726, 727, 728, 729, 730, 731, 732, 733, 734, 735, 736, 737] (by decide +kernel) (by decide +kernel)
set_option maxRecDepth 20000 in
theorem gL_law_X6_coordination : GoodIn wsL_law (wsV RL 61 RX6 yX6_coordination wsX6_coordination) := goodIn_app (goodIn_of _ (by decide +kernel)) ggL_law_X6_coordination
set_option maxRecDepth 20000 in
theorem ggL_law_X5_distance : GoodIn wsL_law wsX5_distance := goodIn_r _ [393, 28, 163, 164, 165, 2, 166, 17, 99, 394, 395, 396, 100, 101, 102, 103, 13, 332, 333, 334, 27, 335, 324, 325, 326, 327, 24, 328, 329, 330, 331, 61, 58, 59, 60, 336, 337, 338, 339, 340, 341, 342, 343, 344, 345, 346, 347, 348, 349, 350, 351, 352, 353, 354, 355, 356, 357, 397, 714, 715, 716, 717, 718, 719, 720, 721, 722, 738, 739, 740, 741, 742, 743, 748, 749, 750, 751, 744, 745, 746, 747] (by decide +kernel) (by decide +kernel)
set_option maxRecDepth 20000 in
theorem gL_law_X5_distance : GoodIn wsL_law (wsV RL 62 RX5 yX5_distance wsX5_distance) := goodIn_app (goodIn_of _ (by decide +kernel)) ggL_law_X5_distance
set_option maxRecDepth 20000 in
theorem ggL_law_X6_distance : GoodIn wsL_law wsX6_distance := goodIn_r _ [401, 88, 183, 184, 185, 5, 186, 84, 146, 147, 148, 149, 150, 151, 152, 86, 366, 367, 368, 369, 370, 371, 372, 373, 89, 374, 375, 376, 377, 378, 379, 380, 381, 198, 199, 200, 201, 382, 383, 384, 385, 291, 292, 293, 294, 316, 317, 318, 319, 723, 724, 725, 726, 727, 728, 729, 730, 731, 732, 733, 734, 735, 736, 737] (by decide +kernel) (by decide +kernel)
set_option maxRecDepth 20000 in
theorem gL_law_X6_distance : GoodIn wsL_law (wsV RL 65 RX6 yX6_distance wsX6_distance) := goodIn_app (goodIn_of _ (by decide +kernel)) ggL_law_X6_distance
set_option maxRecDepth 20000 in
theorem ggL_law_X5_rank : GoodIn wsL_law wsX5_rank := goodIn_r _ [405, 32, 17, 163, 164, 165, 2, 166, 99, 100, 101, 102, 103, 13, 406, 407, 408, 31, 409, 66, 410, 411, 412, 413, 414, 67, 68, 415, 416, 417, 418, 419, 420, 421, 422, 423, 424, 425, 426, 427, 71, 69, 70, 428, 429, 430, 431, 432, 433, 434, 435, 436, 437, 714, 715, 716, 717, 718, 719, 720, 721, 722, 738, 739, 740, 741, 742, 743, 752, 753, 754, 755, 756, 757] (by decide +kernel) (by decide +kernel)
set_option maxRecDepth 20000 in
theorem gL_law_X5_rank : GoodIn wsL_law (wsV RL 66 RX5 yX5_rank wsX5_rank) := goodIn_app (goodIn_of _ (by decide +kernel)) ggL_law_X5_rank
set_option maxRecDepth 20000 in
theorem ggL_law_X6_rank : GoodIn wsL_law wsX6_rank := goodIn_r _ [441, 183, 184, 185, 5, 186, 84, 146, 147, 148, 442, 443, 444, 445, 93, 446, 447, 448, 449, 92, 90, 91, 450, 451, 452, 453, 198, 199, 200, 201, 316, 317, 318, 319, 378, 379, 380, 381, 382, 383, 384, 385, 454, 455, 456, 457, 458, 459, 460, 149, 150, 151, 152, 86, 723, 724, 725, 726, 727, 728, 729, 730, 731, 732, 733, 734, 735, 736, 737] (by decide +kernel) (by decide +kernel)
set_option maxRecDepth 20000 in
theorem gL_law_X6_rank : GoodIn wsL_law (wsV RL 69 RX6 yX6_rank wsX6_rank) := goodIn_app (goodIn_of _ (by decide +kernel)) ggL_law_X6_rank
set_option maxRecDepth 20000 in
theorem ggL_law_X5_index : GoodIn wsL_law wsX5_index := goodIn_r _ [464, 32, 17, 163, 164, 165, 2, 166, 99, 100, 101, 102, 103, 13, 406, 407, 408, 31, 409, 66, 410, 411, 412, 413, 414, 67, 68, 415, 416, 417, 418, 419, 420, 421, 422, 423, 424, 425, 426, 427, 71, 69, 70, 465, 466, 467, 468, 432, 433, 434, 435, 436, 437, 714, 715, 716, 717, 718, 719, 720, 721, 722, 738, 739, 740, 741, 742, 743, 752, 753, 754, 755, 756, 757] (by decide +kernel) (by decide +kernel)
set_option maxRecDepth 20000 in
theorem gL_law_X5_index : GoodIn wsL_law (wsV RL 70 RX5 yX5_index wsX5_index) := goodIn_app (goodIn_of _ (by decide +kernel)) ggL_law_X5_index
set_option maxRecDepth 20000 in
theorem ggL_law_X6_index : GoodIn wsL_law wsX6_index := goodIn_r _ [472, 183, 184, 185, 5, 186, 84, 146, 147, 148, 473, 474, 475, 476, 446, 447, 448, 449, 92, 93, 90, 91, 450, 451, 452, 453, 198, 199, 200, 201, 316, 317, 318, 319, 378, 379, 380, 381, 382, 383, 384, 385, 454, 455, 456, 457, 458, 459, 460, 149, 150, 151, 152, 86, 723, 724, 725, 726, 727, 728, 729, 730, 731, 732, 733, 734, 735, 736, 737] (by decide +kernel) (by decide +kernel)
set_option maxRecDepth 20000 in
theorem gL_law_X6_index : GoodIn wsL_law (wsV RL 73 RX6 yX6_index wsX6_index) := goodIn_app (goodIn_of _ (by decide +kernel)) ggL_law_X6_index
set_option maxRecDepth 20000 in
theorem ggL_law_X5_isConnected : GoodIn wsL_law wsX5_isConnected := goodIn_r _ [480, 481, 482, 483, 2, 484, 32, 17, 406, 407, 408, 31, 409, 66, 410, 411, 412, 413, 414, 67, 68, 415, 416, 417, 418, 419, 420, 421, 422, 423, 424, 425, 426, 427, 71, 69, 70, 485, 486, 487, 488, 714, 715, 716, 717, 718, 719, 720, 721, 722, 752, 753, 754, 755, 756, 757, 738, 739, 740, 741, 742, 743] (by decide +kernel) (by decide +kernel)
set_option maxRecDepth 20000 in
theorem gL_law_X5_isConnected : GoodIn wsL_law (wsV RL 74 RX5 yX5_isConnected wsX5_isConnected) := goodIn_app (goodIn_of _ (by decide +kernel)) ggL_law_X5_isConnected
set_option maxRecDepth 20000 in
theorem ggL_law_X6_isConnected : GoodIn wsL_law wsX6_isConnected := goodIn_r _ [492, 493, 494, 495, 5, 496, 84, 92, 450, 451, 452, 453, 90, 91, 198, 199, 200, 201, 316, 317, 318, 319, 378, 379, 380, 381, 382, 383, 384, 385, 723, 724, 725, 726, 727, 728, 729, 730, 731, 732, 733, 734, 735, 736, 737] (by decide +kernel) (by decide +kernel)
set_option maxRecDepth 20000 in
theorem gL_law_X6_isConnected : GoodIn wsL_law (wsV RL 77 RX6 yX6_isConnected wsX6_isConnected) := goodIn_app (goodIn_of _ (by decide +kernel)) ggL_law_X6_isConnected
set_option maxRecDepth 20000 in
theorem ggL_law_X5_ring : GoodIn wsL_law wsX5_ring := goodIn_r _ [500, 28, 24, 299, 501, 502, 300, 301, 302, 2, 303, 282, 163, 164, 165, 166, 17, 99, 100, 101, 102, 103, 13, 332, 333, 334, 27, 335, 328, 329, 330, 331, 61, 58, 59, 60, 503, 504, 505, 506, 357, 337, 338, 339, 336, 340, 341, 342, 343, 344, 345, 346, 347, 348, 349, 350, 351, 352, 353, 354, 355, 356, 397, 714, 715, 716, 717, 718, 719, 720, 721, 722, 744, 745, 746, 747, 738, 739, 740, 741, 742, 743, 748, 749, 750, 751] (by decide +kernel) (by decide +kernel)
set_option maxRecDepth 20000 in
theorem gL_law_X5_ring : GoodIn wsL_law (wsV RL 78 RX5 yX5_ring wsX5_ring) := goodIn_app (goodIn_of _ (by decide +kernel)) ggL_law_X5_ring
set_option maxRecDepth 20000 in
theorem ggL_law_X6_ring : GoodIn wsL_law wsX6_ring := goodIn_r _ [510, 88, 308, 309, 310, 5, 311, 183, 184, 185, 186, 84, 146, 147, 148, 287, 288, 289, 290, 291, 292, 293, 294, 198, 199, 200, 201, 149, 150, 151, 152, 86, 312, 313, 314, 315, 316, 317, 318, 319, 378, 379, 380, 381, 382, 383, 384, 385, 366, 367, 368, 369, 370, 371, 372, 373, 89, 374, 375, 376, 377, 723, 724, 725, 726, 727, 728, 729, 730, 731, 732, 733, 734, 735, 736, 737] (by decide +kernel) (by decide +kernel)
set_option maxRecDepth 20000 in
theorem gL_law_X6_ring : GoodIn wsL_law (wsV RL 81 RX6 yX6_ring wsX6_ring) := goodIn_app (goodIn_of _ (by decide +kernel)) ggL_law_X6_ring
set_option maxRecDepth 20000 in
theorem ggL_law_X5_numerator : GoodIn wsL_law wsX5_numerator := goodIn_r _ [514, 36, 17, 515, 516, 517, 2, 518, 163, 164, 165, 166, 99, 481, 482, 483, 484, 32, 406, 407, 408, 31, 409, 66, 410, 411, 412, 413, 414, 67, 68, 415, 416, 417, 418, 419, 420, 421, 422, 423, 424, 425, 426, 427, 71, 69, 70, 485, 486, 487, 488, 100, 101, 102, 103, 13, 519, 520, 521, 35, 522, 523, 78, 524, 525, 526, 527, 528, 79, 529, 530, 531, 532, 77, 533, 534, 535, 536, 537, 538, 539, 540, 541, 542, 543, 544, 545, 546, 547, 548, 549, 550, 551, 552, 553, 554, 555, 556, 436, 437, 714, 715, 716, 717, 718, 719, 720, 721, 722, 738, 739, 740, 741, 742, 743, 752, 753, 754, 755, 756, 757, 758, 759, 760] (by decide +kernel) (by decide +kernel)
set_option maxRecDepth 20000 in
theorem gL_law_X5_numerator : GoodIn wsL_law (wsV RL 82 RX5 yX5_numerator wsX5_numerator) := goodIn_app (goodIn_of _ (by decide +kernel)) ggL_law_X5_numerator
set_option maxRecDepth 20000 in
theorem ggL_law_X6_numerator : GoodIn wsL_law wsX6_numerator := goodIn_r _ [560, 183, 184, 185, 5, 186, 84, 146, 147, 148, 561, 562, 563, 564, 149, 150, 151, 152, 86, 493, 494, 495, 496, 92, 450, 451, 452, 453, 90, 91, 198, 199, 200, 201, 316, 317, 318, 319, 378, 379, 380, 381, 382, 383, 384, 385, 565, 566, 567, 568, 569, 94, 570, 571, 572, 573, 574, 575, 576, 577, 578, 579, 580, 581, 582, 583, 584, 585, 586, 587, 723, 724, 725, 726, 727, 728, 729, 730, 731, 732, 733, 734, 735, 736, 737] (by decide +kernel) (by decide +kernel)
set_option maxRecDepth 20000 in
theorem gL_law_X6_numerator : GoodIn wsL_law (wsV RL 86 RX6 yX6_numerator wsX6_numerator) := goodIn_app (goodIn_of _ (by decide +kernel)) ggL_law_X6_numerator
set_option maxRecDepth 20000 in
theorem ggL_law_X5_denominator : GoodIn wsL_law wsX5_denominator := goodIn_r _ [591, 36, 17, 515, 516, 517, 2, 518, 163, 164, 165, 166, 99, 481, 482, 483, 484, 32, 406, 407, 408, 31, 409, 66, 410, 411, 412, 413, 414, 67, 68, 415, 416, 417, 418, 419, 420, 421, 422, 423, 424, 425, 426, 427, 71, 69, 70, 485, 486, 487, 488, 100, 101, 102, 103, 13, 519, 520, 521, 35, 522, 523, 78, 524, 525, 526, 527, 528, 79, 529, 530, 531, 532, 77, 533, 534, 535, 536, 537, 538, 539, 540, 541, 542, 543, 544, 592, 593, 594, 595, 553, 554, 555, 556, 549, 550, 551, 552, 436, 437, 714, 715, 716, 717, 718, 719, 720, 721, 722, 738, 739, 740, 741, 742, 743, 752, 753, 754, 755, 756, 757, 758, 759, 760] (by decide +kernel) (by decide +kernel)
set_option maxRecDepth 20000 in
theorem gL_law_X5_denominator : GoodIn wsL_law (wsV RL 87 RX5 yX5_denominator wsX5_denominator) := goodIn_app (goodIn_of _ (by decide +kernel)) ggL_law_X5_denominator
set_option maxRecDepth 20000 in
theorem ggL_law_X6_denominator : GoodIn wsL_law wsX6_denominator := goodIn_r _ [599, 183, 184, 185, 5, 186, 84, 146, 147, 148, 561, 562, 563, 564, 149, 150, 151, 152, 86, 493, 494, 495, 496, 92, 450, 451, 452, 453, 90, 91, 198, 199, 200, 201, 316, 317, 318, 319, 378, 379, 380, 381, 382, 383, 384, 385, 565, 566, 567, 568, 569, 94, 570, 571, 572, 573, 574, 575, 576, 600, 601, 602, 603, 581, 582, 583, 584, 585, 586, 587, 723, 724, 725, 726, 727, 728, 729, 730, 731, 732, 733, 734, 735, 736, 737] (by decide +kernel) (by decide +kernel)
set_option maxRecDepth 20000 in
theorem gL_law_X6_denominator : GoodIn wsL_law (wsV RL 90 RX6 yX6_denominator wsX6_denominator) := goodIn_app (goodIn_of _ (by decide +kernel)) ggL_law_X6_denominator
set_option maxRecDepth 20000 in
theorem ggL_law_X5_collide : GoodIn wsL_law wsX5_collide := goodIn_r _ [607, 36, 17, 163, 164, 165, 2, 166, 99, 100, 101, 102, 103, 13, 481, 482, 483, 484, 32, 406, 407, 408, 31, 409, 66, 410, 411, 412, 413, 414, 67, 68, 415, 416, 417, 418, 419, 420, 421, 422, 423, 424, 425, 426, 427, 71, 69, 70, 485, 486, 487, 488, 519, 520, 521, 35, 522, 523, 78, 524, 525, 526, 527, 528, 79, 529, 530, 531, 532, 77, 533, 534, 535, 536, 537, 538, 539, 540, 541, 542, 543, 544, 608, 609, 610, 611, 612, 613, 614, 615, 549, 550, 551, 552, 714, 715, 716, 717, 718, 719, 720, 721, 722, 738, 739, 740, 741, 742, 743, 752, 753, 754, 755, 756, 757, 758, 759, 760] (by decide +kernel) (by decide +kernel)
set_option maxRecDepth 20000 in
theorem gL_law_X5_collide : GoodIn wsL_law (wsV RL 91 RX5 yX5_collide wsX5_collide) := goodIn_app (goodIn_of _ (by decide +kernel)) ggL_law_X5_collide
set_option maxRecDepth 20000 in
theorem ggL_law_X6_collide : GoodIn wsL_law wsX6_collide := goodIn_r _ [619, 183, 184, 185, 5, 186, 84, 146, 147, 148, 561, 562, 563, 564, 149, 150, 151, 152, 86, 493, 494, 495, 496, 92, 450, 451, 452, 453, 90, 91, 198, 199, 200, 201, 316, 317, 318, 319, 378, 379, 380, 381, 382, 383, 384, 385, 565, 566, 567, 568, 569, 94, 570, 571, 572, 573, 574, 575, 576, 620, 621, 622, 623, 581, 582, 583, 584, 723, 724, 725, 726, 727, 728, 729, 730, 731, 732, 733, 734, 735, 736, 737] (by decide +kernel) (by decide +kernel)
set_option maxRecDepth 20000 in
theorem gL_law_X6_collide : GoodIn wsL_law (wsV RL 94 RX6 yX6_collide wsX6_collide) := goodIn_app (goodIn_of _ (by decide +kernel)) ggL_law_X6_collide
set_option maxRecDepth 20000 in
theorem ggL_law_X5_collisions : GoodIn wsL_law wsX5_collisions := goodIn_r _ [627, 36, 17, 99, 481, 482, 483, 2, 484, 32, 406, 407, 408, 31, 409, 66, 410, 411, 412, 413, 414, 67, 68, 415, 416, 417, 418, 419, 420, 421, 422, 423, 424, 425, 426, 427, 71, 69, 70, 485, 486, 487, 488, 100, 101, 102, 103, 13, 519, 520, 521, 35, 522, 523, 78, 524, 525, 526, 527, 528, 79, 529, 530, 531, 532, 77, 533, 534, 535, 536, 537, 538, 539, 540, 541, 542, 543, 544, 608, 609, 610, 611, 612, 613, 614, 615, 549, 550, 551, 552, 714, 715, 716, 717, 718, 719, 720, 721, 722, 738, 739, 740, 741, 742, 743, 752, 753, 754, 755, 756, 757, 758, 759, 760] (by decide +kernel) (by decide +kernel)
set_option maxRecDepth 20000 in
theorem gL_law_X5_collisions : GoodIn wsL_law (wsV RL 95 RX5 yX5_collisions wsX5_collisions) := goodIn_app (goodIn_of _ (by decide +kernel)) ggL_law_X5_collisions
set_option maxRecDepth 20000 in
theorem ggL_law_X6_collisions : GoodIn wsL_law wsX6_collisions := goodIn_r _ [631, 84, 561, 562, 563, 5, 564, 149, 150, 151, 152, 86, 493, 494, 495, 496, 92, 450, 451, 452, 453, 90, 91, 198, 199, 200, 201, 316, 317, 318, 319, 378, 379, 380, 381, 382, 383, 384, 385, 565, 566, 567, 568, 569, 94, 570, 571, 572, 573, 574, 575, 576, 620, 621, 622, 623, 581, 582, 583, 584, 723, 724, 725, 726, 727, 728, 729, 730, 731, 732, 733, 734, 735, 736, 737] (by decide +kernel) (by decide +kernel)
set_option maxRecDepth 20000 in
theorem gL_law_X6_collisions : GoodIn wsL_law (wsV RL 98 RX6 yX6_collisions wsX6_collisions) := goodIn_app (goodIn_of _ (by decide +kernel)) ggL_law_X6_collisions
set_option maxRecDepth 20000 in
theorem ggL_law_X5_positionBits : GoodIn wsL_law wsX5_positionBits := goodIn_r _ [635, 36, 17, 515, 516, 517, 2, 518, 163, 164, 165, 166, 99, 481, 482, 483, 484, 32, 406, 407, 408, 31, 409, 66, 410, 411, 412, 413, 414, 67, 68, 415, 416, 417, 418, 419, 420, 421, 422, 423, 424, 425, 426, 427, 71, 69, 70, 485, 486, 487, 488, 100, 101, 102, 103, 13, 519, 520, 521, 35, 522, 523, 78, 524, 525, 526, 527, 528, 79, 529, 530, 531, 532, 77, 533, 534, 535, 536, 537, 538, 539, 540, 541, 542, 543, 544, 592, 593, 594, 595, 553, 554, 555, 556, 549, 550, 551, 552, 436, 437, 545, 546, 547, 548, 636, 637, 638, 639, 640, 641, 714, 715, 716, 717, 718, 719, 720, 721, 722, 738, 739, 740, 741, 742, 743, 752, 753, 754, 755, 756, 757, 758, 759, 760] (by decide +kernel) (by decide +kernel)
set_option maxRecDepth 20000 in
theorem gL_law_X5_positionBits : GoodIn wsL_law (wsV RL 99 RX5 yX5_positionBits wsX5_positionBits) := goodIn_app (goodIn_of _ (by decide +kernel)) ggL_law_X5_positionBits
set_option maxRecDepth 20000 in
theorem ggL_law_X6_positionBits : GoodIn wsL_law wsX6_positionBits := goodIn_r _ [645, 183, 184, 185, 5, 186, 84, 146, 147, 148, 561, 562, 563, 564, 149, 150, 151, 152, 86, 493, 494, 495, 496, 92, 450, 451, 452, 453, 90, 91, 198, 199, 200, 201, 316, 317, 318, 319, 378, 379, 380, 381, 382, 383, 384, 385, 565, 566, 567, 568, 569, 94, 570, 571, 572, 573, 574, 575, 576, 577, 578, 579, 580, 581, 582, 583, 584, 585, 586, 587, 600, 601, 602, 603, 646, 647, 648, 649, 650, 651, 652, 653, 654, 655, 656, 657, 723, 724, 725, 726, 727, 728, 729, 730, 731, 732, 733, 734, 735, 736, 737] (by decide +kernel) (by decide +kernel)
set_option maxRecDepth 20000 in
theorem gL_law_X6_positionBits : GoodIn wsL_law (wsV RL 102 RX6 yX6_positionBits wsX6_positionBits) := goodIn_app (goodIn_of _ (by decide +kernel)) ggL_law_X6_positionBits
set_option maxRecDepth 20000 in
theorem ggL_law_X5_undo : GoodIn wsL_law wsX5_undo := goodIn_r _ [661, 20, 17, 19, 24, 100, 101, 102, 2, 103, 13, 116, 117, 118, 16, 119, 40, 41, 42, 43, 44, 45, 120, 105, 106, 107, 121, 122, 123, 124, 125, 126, 127, 128, 129, 130, 131, 23, 132, 49, 133, 134, 135, 136, 137, 138, 139, 140, 141, 51, 52, 53, 714, 715, 716, 717, 718, 719, 720, 721, 722, 738, 739, 740, 741, 742, 743, 744, 745, 746, 747] (by decide +kernel) (by decide +kernel)
set_option maxRecDepth 20000 in
theorem gL_law_X5_undo : GoodIn wsL_law (wsV RL 103 RX5 yX5_undo wsX5_undo) := goodIn_app (goodIn_of _ (by decide +kernel)) ggL_law_X5_undo
set_option maxRecDepth 20000 in
theorem ggL_law_X6_undo : GoodIn wsL_law wsX6_undo := goodIn_r _ [665, 157, 84, 85, 149, 150, 151, 5, 152, 86, 723, 724, 725, 726, 727, 728, 729, 730, 731, 732, 733, 734, 735, 736, 737] (by decide +kernel) (by decide +kernel)
set_option maxRecDepth 20000 in
theorem gL_law_X6_undo : GoodIn wsL_law (wsV RL 106 RX6 yX6_undo wsX6_undo) := goodIn_app (goodIn_of _ (by decide +kernel)) ggL_law_X6_undo
set_option maxRecDepth 20000 in
theorem ggL_law_X5_errorCount : GoodIn wsL_law wsX5_errorCount := goodIn_r _ [669, 13, 100, 101, 102, 2, 103, 714, 715, 716, 717, 718, 719, 720, 721, 722] (by decide +kernel) (by decide +kernel)
set_option maxRecDepth 20000 in
theorem gL_law_X5_errorCount : GoodIn wsL_law (wsV RL 107 RX5 yX5_errorCount wsX5_errorCount) := goodIn_app (goodIn_of _ (by decide +kernel)) ggL_law_X5_errorCount
set_option maxRecDepth 20000 in
theorem ggL_law_X6_errorCount : GoodIn wsL_law wsX6_errorCount := goodIn_r _ [673, 86, 146, 147, 5, 148, 149, 150, 151, 152, 723, 724, 725, 726, 727, 728, 729, 730, 731, 732, 733, 734, 735, 736, 737] (by decide +kernel) (by decide +kernel)
set_option maxRecDepth 20000 in
theorem gL_law_X6_errorCount : GoodIn wsL_law (wsV RL 110 RX6 yX6_errorCount wsX6_errorCount) := goodIn_app (goodIn_of _ (by decide +kernel)) ggL_law_X6_errorCount
set_option maxRecDepth 20000 in
theorem ggL_law_X5_digest : GoodIn wsL_law wsX5_digest := goodIn_r _ [677, 678, 13, 17, 99, 20, 679, 680, 2, 681, 682, 683, 684, 685, 686, 162, 687, 688, 689, 690, 691, 692, 693, 694, 24, 282, 28, 32, 324, 325, 326, 327, 328, 329, 330, 27, 331, 61, 58, 59, 60, 332, 333, 334, 335, 336, 337, 338, 339, 340, 341, 342, 343, 344, 345, 346, 347, 348, 349, 350, 351, 352, 353, 354, 355, 356, 357, 358, 359, 360, 361, 406, 407, 408, 31, 409, 66, 410, 411, 412, 413, 414, 67, 68, 415, 416, 417, 418, 419, 420, 421, 422, 423, 424, 425, 426, 427, 71, 69, 70, 428, 429, 430, 431, 432, 433, 434, 435, 436, 437, 465, 466, 467, 468, 481, 482, 483, 484, 485, 486, 487, 488, 695, 696, 697, 698, 36, 519, 520, 521, 35, 522, 523, 78, 524, 525, 526, 527, 528, 79, 529, 530, 531, 532, 77, 533, 534, 535, 536, 537, 538, 539, 540, 541, 542, 543, 544, 545, 546, 547, 548, 549, 550, 551, 552, 553, 554, 555, 556, 592, 593, 594, 595, 714, 715, 716, 717, 718, 719, 720, 721, 722, 738, 739, 740, 741, 742, 743, 744, 745, 746, 747, 748, 749, 750, 751, 752, 753, 754, 755, 756, 757, 758, 759, 760] (by decide +kernel) (by decide +kernel)
set_option maxRecDepth 20000 in
theorem gL_law_X5_digest : GoodIn wsL_law (wsV RL 111 RX5 yX5_digest wsX5_digest) := goodIn_app (goodIn_of _ (by decide +kernel)) ggL_law_X5_digest
set_option maxRecDepth 20000 in
theorem ggL_law_X6_digest : GoodIn wsL_law wsX6_digest := goodIn_r _ [702, 703, 704, 86, 84, 157, 705, 706, 707, 5, 708, 709, 287, 288, 289, 290, 291, 292, 293, 294, 198, 199, 200, 201, 366, 367, 368, 369, 370, 371, 372, 88, 373, 89, 374, 375, 376, 377, 378, 379, 380, 381, 382, 383, 384, 385, 146, 147, 148, 316, 317, 318, 319, 386, 387, 388, 389, 442, 443, 444, 445, 93, 446, 447, 448, 449, 92, 90, 91, 450, 451, 452, 453, 454, 455, 456, 457, 458, 459, 460, 473, 474, 475, 476, 493, 494, 495, 496, 710, 711, 712, 713, 565, 566, 567, 568, 569, 94, 570, 571, 572, 573, 574, 575, 576, 577, 578, 579, 580, 581, 582, 583, 584, 585, 586, 587, 600, 601, 602, 603, 723, 724, 725, 726, 727, 728, 729, 730, 731, 732, 733, 734, 735, 736, 737] (by decide +kernel) (by decide +kernel)
set_option maxRecDepth 20000 in
theorem gL_law_X6_digest : GoodIn wsL_law (wsV RL 115 RX6 yX6_digest wsX6_digest) := goodIn_app (goodIn_of _ (by decide +kernel)) ggL_law_X6_digest
