theorem dX6_carryFadingOut_36 : decode cX6_carryFadingOut 36 = .ok (.getfield 12, 3) := by decide +kernel
theorem dX6_carryFadingOut_39 : decode cX6_carryFadingOut 39 = .ok (.aload_n 0, 1) := by decide +kernel
theorem dX6_carryFadingOut_40 : decode cX6_carryFadingOut 40 = .ok (.getfield 26, 3) := by decide +kernel
theorem dX6_carryFadingOut_43 : decode cX6_carryFadingOut 43 = .ok (.getfield 263, 3) := by decide +kernel
theorem dX6_carryFadingOut_46 : decode cX6_carryFadingOut 46 = .ok (.aload_n 0, 1) := by decide +kernel
theorem dX6_carryFadingOut_47 : decode cX6_carryFadingOut 47 = .ok (.getfield 26, 3) := by decide +kernel
theorem dX6_carryFadingOut_50 : decode cX6_carryFadingOut 50 = .ok (.getfield 266, 3) := by decide +kernel
theorem dX6_carryFadingOut_53 : decode cX6_carryFadingOut 53 = .ok (.aload_n 0, 1) := by decide +kernel
theorem dX6_carryFadingOut_54 : decode cX6_carryFadingOut 54 = .ok (.getfield 26, 3) := by decide +kernel
theorem dX6_carryFadingOut_57 : decode cX6_carryFadingOut 57 = .ok (.getfield 269, 3) := by decide +kernel
theorem dX6_carryFadingOut_60 : decode cX6_carryFadingOut 60 = .ok (.invokevirtual 84, 3) := by decide +kernel
theorem dX6_carryFadingOut_63 : decode cX6_carryFadingOut 63 = .ok (.ireturn, 1) := by decide +kernel
set_option maxRecDepth 20000 in
theorem ggX6_carryBlockOut_X4_errorOfBlock : GoodIn wsX6_carryBlockOut wsX4_errorOfBlock := goodIn_r _ [6, 7, 8, 9, 10, 4, 11, 73, 74, 75, 76, 77, 78, 79, 80, 81] (by decide +kernel) (by decide +kernel)
set_option maxRecDepth 20000 in
theorem gX6_carryBlockOut_X4_errorOfBlock_n69 : GoodIn wsX6_carryBlockOut (wsX4_errorOfBlock) := ggX6_carryBlockOut_X4_errorOfBlock
set_option maxRecDepth 20000 in
theorem ggX6_carryBlockOut_X4_appendBlock : GoodIn wsX6_carryBlockOut wsX4_appendBlock := goodIn_r _ [14, 7, 15, 16, 17, 18, 19, 20, 21, 22, 23, 24, 25, 26, 4, 27, 28, 29, 30, 31, 32, 33, 34, 35, 36, 37, 38, 39, 40, 41, 42, 43, 44, 45, 46, 47, 48, 49, 50, 51, 52, 53, 54, 73, 74, 75, 76, 77, 78, 79, 80, 81] (by decide +kernel) (by decide +kernel)
set_option maxRecDepth 20000 in
theorem gX6_carryBlockOut_X4_appendBlock_n73 : GoodIn wsX6_carryBlockOut (wsX4_appendBlock) := ggX6_carryBlockOut_X4_appendBlock
theorem dX6_carryBlockOut_0 : decode cX6_carryBlockOut 0 = .ok (.aload_n 0, 1) := by decide +kernel
theorem dX6_carryBlockOut_1 : decode cX6_carryBlockOut 1 = .ok (.getfield 12, 3) := by decide +kernel
theorem dX6_carryBlockOut_4 : decode cX6_carryBlockOut 4 = .ok (.aload_n 0, 1) := by decide +kernel
theorem dX6_carryBlockOut_5 : decode cX6_carryBlockOut 5 = .ok (.getfield 26, 3) := by decide +kernel
theorem dX6_carryBlockOut_8 : decode cX6_carryBlockOut 8 = .ok (.getfield 263, 3) := by decide +kernel
theorem dX6_carryBlockOut_11 : decode cX6_carryBlockOut 11 = .ok (.aload_n 0, 1) := by decide +kernel
theorem dX6_carryBlockOut_12 : decode cX6_carryBlockOut 12 = .ok (.getfield 26, 3) := by decide +kernel
theorem dX6_carryBlockOut_15 : decode cX6_carryBlockOut 15 = .ok (.getfield 272, 3) := by decide +kernel
theorem dX6_carryBlockOut_18 : decode cX6_carryBlockOut 18 = .ok (.aload_n 0, 1) := by decide +kernel
theorem dX6_carryBlockOut_19 : decode cX6_carryBlockOut 19 = .ok (.getfield 26, 3) := by decide +kernel
theorem dX6_carryBlockOut_22 : decode cX6_carryBlockOut 22 = .ok (.getfield 275, 3) := by decide +kernel
theorem dX6_carryBlockOut_25 : decode cX6_carryBlockOut 25 = .ok (.invokevirtual 69, 3) := by decide +kernel
theorem dX6_carryBlockOut_28 : decode cX6_carryBlockOut 28 = .ok (.istore_n 1, 1) := by decide +kernel
theorem dX6_carryBlockOut_29 : decode cX6_carryBlockOut 29 = .ok (.iload_n 1, 1) := by decide +kernel
theorem dX6_carryBlockOut_30 : decode cX6_carryBlockOut 30 = .ok (.ifCond .eq 5, 3) := by decide +kernel
theorem dX6_carryBlockOut_33 : decode cX6_carryBlockOut 33 = .ok (.iload_n 1, 1) := by decide +kernel
theorem dX6_carryBlockOut_34 : decode cX6_carryBlockOut 34 = .ok (.ireturn, 1) := by decide +kernel
theorem dX6_carryBlockOut_35 : decode cX6_carryBlockOut 35 = .ok (.aload_n 0, 1) := by decide +kernel
theorem dX6_carryBlockOut_36 : decode cX6_carryBlockOut 36 = .ok (.getfield 26, 3) := by decide +kernel
theorem dX6_carryBlockOut_39 : decode cX6_carryBlockOut 39 = .ok (.getfield 278, 3) := by decide +kernel
theorem dX6_carryBlockOut_42 : decode cX6_carryBlockOut 42 = .ok (.ifCond .eq 6, 3) := by decide +kernel
theorem dX6_carryBlockOut_45 : decode cX6_carryBlockOut 45 = .ok (.bipush (-2), 2) := by decide +kernel
theorem dX6_carryBlockOut_47 : decode cX6_carryBlockOut 47 = .ok (.ireturn, 1) := by decide +kernel
theorem dX6_carryBlockOut_48 : decode cX6_carryBlockOut 48 = .ok (.aload_n 0, 1) := by decide +kernel
theorem dX6_carryBlockOut_49 : decode cX6_carryBlockOut 49 = .ok (.getfield 12, 3) := by decide +kernel
theorem dX6_carryBlockOut_52 : decode cX6_carryBlockOut 52 = .ok (.aload_n 0, 1) := by decide +kernel
theorem dX6_carryBlockOut_53 : decode cX6_carryBlockOut 53 = .ok (.getfield 26, 3) := by decide +kernel
theorem dX6_carryBlockOut_56 : decode cX6_carryBlockOut 56 = .ok (.getfield 263, 3) := by decide +kernel
theorem dX6_carryBlockOut_59 : decode cX6_carryBlockOut 59 = .ok (.aload_n 0, 1) := by decide +kernel
theorem dX6_carryBlockOut_60 : decode cX6_carryBlockOut 60 = .ok (.getfield 26, 3) := by decide +kernel
theorem dX6_carryBlockOut_63 : decode cX6_carryBlockOut 63 = .ok (.getfield 272, 3) := by decide +kernel
theorem dX6_carryBlockOut_66 : decode cX6_carryBlockOut 66 = .ok (.aload_n 0, 1) := by decide +kernel
theorem dX6_carryBlockOut_67 : decode cX6_carryBlockOut 67 = .ok (.getfield 26, 3) := by decide +kernel
theorem dX6_carryBlockOut_70 : decode cX6_carryBlockOut 70 = .ok (.getfield 275, 3) := by decide +kernel
theorem dX6_carryBlockOut_73 : decode cX6_carryBlockOut 73 = .ok (.aload_n 0, 1) := by decide +kernel
theorem dX6_carryBlockOut_74 : decode cX6_carryBlockOut 74 = .ok (.getfield 26, 3) := by decide +kernel
theorem dX6_carryBlockOut_77 : decode cX6_carryBlockOut 77 = .ok (.getfield 281, 3) := by decide +kernel
theorem dX6_carryBlockOut_80 : decode cX6_carryBlockOut 80 = .ok (.invokevirtual 73, 3) := by decide +kernel
theorem dX6_carryBlockOut_83 : decode cX6_carryBlockOut 83 = .ok (.ireturn, 1) := by decide +kernel
theorem dX7_init_0 : decode cX7_init 0 = .ok (.aload_n 0, 1) := by decide +kernel
theorem dX7_init_1 : decode cX7_init 1 = .ok (.invokespecial 1, 3) := by decide +kernel
theorem dX7_init_4 : decode cX7_init 4 = .ok (.aload_n 0, 1) := by decide +kernel
theorem dX7_init_5 : decode cX7_init 5 = .ok (.sipush 2628, 3) := by decide +kernel
theorem dX7_init_8 : decode cX7_init 8 = .ok (.newarray .int, 2) := by decide +kernel
theorem dX7_init_10 : decode cX7_init 10 = .ok (.putfield 7, 3) := by decide +kernel
theorem dX7_init_13 : decode cX7_init 13 = .ok (.aload_n 0, 1) := by decide +kernel
theorem dX7_init_14 : decode cX7_init 14 = .ok (.sipush 15768, 3) := by decide +kernel
theorem dX7_init_17 : decode cX7_init 17 = .ok (.newarray .int, 2) := by decide +kernel
theorem dX7_init_19 : decode cX7_init 19 = .ok (.putfield 13, 3) := by decide +kernel
theorem dX7_init_22 : decode cX7_init 22 = .ok (.aload_n 0, 1) := by decide +kernel
theorem dX7_init_23 : decode cX7_init 23 = .ok (.sipush 5256, 3) := by decide +kernel
theorem dX7_init_26 : decode cX7_init 26 = .ok (.newarray .int, 2) := by decide +kernel
theorem dX7_init_28 : decode cX7_init 28 = .ok (.putfield 16, 3) := by decide +kernel
theorem dX7_init_31 : decode cX7_init 31 = .ok (.aload_n 0, 1) := by decide +kernel
theorem dX7_init_32 : decode cX7_init 32 = .ok (.iconst 2, 1) := by decide +kernel
theorem dX7_init_33 : decode cX7_init 33 = .ok (.newarray .int, 2) := by decide +kernel
theorem dX7_init_35 : decode cX7_init 35 = .ok (.putfield 19, 3) := by decide +kernel
theorem dX7_init_38 : decode cX7_init 38 = .ok (.aload_n 0, 1) := by decide +kernel
theorem dX7_init_39 : decode cX7_init 39 = .ok (.bipush 80, 2) := by decide +kernel
theorem dX7_init_41 : decode cX7_init 41 = .ok (.newarray .int, 2) := by decide +kernel
theorem dX7_init_43 : decode cX7_init 43 = .ok (.putfield 22, 3) := by decide +kernel
theorem dX7_init_46 : decode cX7_init 46 = .ok (.aload_n 0, 1) := by decide +kernel
theorem dX7_init_47 : decode cX7_init 47 = .ok (.bipush 7, 2) := by decide +kernel
theorem dX7_init_49 : decode cX7_init 49 = .ok (.newarray .int, 2) := by decide +kernel
theorem dX7_init_51 : decode cX7_init 51 = .ok (.putfield 25, 3) := by decide +kernel
theorem dX7_init_54 : decode cX7_init 54 = .ok (.aload_n 0, 1) := by decide +kernel
theorem dX7_init_55 : decode cX7_init 55 = .ok (.bipush 44, 2) := by decide +kernel
theorem dX7_init_57 : decode cX7_init 57 = .ok (.newarray .int, 2) := by decide +kernel
theorem dX7_init_59 : decode cX7_init 59 = .ok (.putfield 28, 3) := by decide +kernel
theorem dX7_init_62 : decode cX7_init 62 = .ok (.aload_n 0, 1) := by decide +kernel
theorem dX7_init_63 : decode cX7_init 63 = .ok (.getfield 7, 3) := by decide +kernel
theorem dX7_init_66 : decode cX7_init 66 = .ok (.iconst 0, 1) := by decide +kernel
theorem dX7_init_67 : decode cX7_init 67 = .ok (.bipush 60, 2) := by decide +kernel
theorem dX7_init_69 : decode cX7_init 69 = .ok (.iastore, 1) := by decide +kernel
theorem dX7_init_70 : decode cX7_init 70 = .ok (.aload_n 0, 1) := by decide +kernel
theorem dX7_init_71 : decode cX7_init 71 = .ok (.getfield 7, 3) := by decide +kernel
theorem dX7_init_74 : decode cX7_init 74 = .ok (.iconst 1, 1) := by decide +kernel
theorem dX7_init_75 : decode cX7_init 75 = .ok (.bipush 30, 2) := by decide +kernel
theorem dX7_init_77 : decode cX7_init 77 = .ok (.iastore, 1) := by decide +kernel
theorem dX7_init_78 : decode cX7_init 78 = .ok (.aload_n 0, 1) := by decide +kernel
theorem dX7_init_79 : decode cX7_init 79 = .ok (.getfield 7, 3) := by decide +kernel
theorem dX7_init_82 : decode cX7_init 82 = .ok (.iconst 2, 1) := by decide +kernel
theorem dX7_init_83 : decode cX7_init 83 = .ok (.iconst 3, 1) := by decide +kernel
theorem dX7_init_84 : decode cX7_init 84 = .ok (.iastore, 1) := by decide +kernel
theorem dX7_init_85 : decode cX7_init 85 = .ok (.return_, 1) := by decide +kernel
theorem dX7_moves_0 : decode cX7_moves 0 = .ok (.iconst 0, 1) := by decide +kernel
theorem dX7_moves_1 : decode cX7_moves 1 = .ok (.istore 4, 2) := by decide +kernel
theorem dX7_moves_3 : decode cX7_moves 3 = .ok (.iload 4, 2) := by decide +kernel
theorem dX7_moves_5 : decode cX7_moves 5 = .ok (.sipush 2628, 3) := by decide +kernel
theorem dX7_moves_8 : decode cX7_moves 8 = .ok (.if_icmp .ge 21, 3) := by decide +kernel
theorem dX7_moves_11 : decode cX7_moves 11 = .ok (.aload_n 2, 1) := by decide +kernel
theorem dX7_moves_12 : decode cX7_moves 12 = .ok (.iload_n 3, 1) := by decide +kernel
theorem dX7_moves_13 : decode cX7_moves 13 = .ok (.iload 4, 2) := by decide +kernel
theorem dX7_moves_15 : decode cX7_moves 15 = .ok (.iadd, 1) := by decide +kernel
theorem dX7_moves_16 : decode cX7_moves 16 = .ok (.aload_n 0, 1) := by decide +kernel
theorem dX7_moves_17 : decode cX7_moves 17 = .ok (.iload_n 1, 1) := by decide +kernel
theorem dX7_moves_18 : decode cX7_moves 18 = .ok (.iload 4, 2) := by decide +kernel
theorem dX7_moves_20 : decode cX7_moves 20 = .ok (.iadd, 1) := by decide +kernel
theorem dX7_moves_21 : decode cX7_moves 21 = .ok (.iaload, 1) := by decide +kernel
theorem dX7_moves_22 : decode cX7_moves 22 = .ok (.iastore, 1) := by decide +kernel
theorem dX7_moves_23 : decode cX7_moves 23 = .ok (.iinc 4 1, 3) := by decide +kernel
theorem dX7_moves_26 : decode cX7_moves 26 = .ok (.goto (-23), 3) := by decide +kernel
theorem dX7_moves_29 : decode cX7_moves 29 = .ok (.return_, 1) := by decide +kernel
theorem dX7_within_0 : decode cX7_within 0 = .ok (.iload_n 0, 1) := by decide +kernel
theorem dX7_within_1 : decode cX7_within 1 = .ok (.iload_n 1, 1) := by decide +kernel
theorem dX7_within_2 : decode cX7_within 2 = .ok (.if_icmp .lt 12, 3) := by decide +kernel
theorem dX7_within_5 : decode cX7_within 5 = .ok (.iload_n 0, 1) := by decide +kernel
theorem dX7_within_6 : decode cX7_within 6 = .ok (.iload_n 2, 1) := by decide +kernel
theorem dX7_within_7 : decode cX7_within 7 = .ok (.if_icmp .gt 7, 3) := by decide +kernel
theorem dX7_within_10 : decode cX7_within 10 = .ok (.iconst 1, 1) := by decide +kernel
theorem dX7_within_11 : decode cX7_within 11 = .ok (.goto 4, 3) := by decide +kernel
theorem dX7_within_14 : decode cX7_within 14 = .ok (.iconst 0, 1) := by decide +kernel
theorem dX7_within_15 : decode cX7_within 15 = .ok (.ireturn, 1) := by decide +kernel
theorem dX7_size_0 : decode cX7_size 0 = .ok (.iload_n 0, 1) := by decide +kernel
theorem dX7_size_1 : decode cX7_size 1 = .ok (.ifCond .ge 8, 3) := by decide +kernel
theorem dX7_size_4 : decode cX7_size 4 = .ok (.iload_n 0, 1) := by decide +kernel
theorem dX7_size_5 : decode cX7_size 5 = .ok (.ineg, 1) := by decide +kernel
theorem dX7_size_6 : decode cX7_size 6 = .ok (.goto 4, 3) := by decide +kernel
theorem dX7_size_9 : decode cX7_size 9 = .ok (.iload_n 0, 1) := by decide +kernel
theorem dX7_size_10 : decode cX7_size 10 = .ok (.ireturn, 1) := by decide +kernel
set_option maxRecDepth 20000 in
theorem ggX7_record_X7_moves : GoodIn wsX7_record wsX7_moves := goodIn_r _ [7] (by decide +kernel) (by decide +kernel)
set_option maxRecDepth 20000 in
theorem gX7_record_X7_moves : GoodIn wsX7_record (va_wsS RX7 35 yX7_moves wsX7_moves) := goodIn_app (goodIn_of _ (by decide +kernel)) ggX7_record_X7_moves
theorem dX7_record_0 : decode cX7_record 0 = .ok (.aload_n 0, 1) := by decide +kernel
theorem dX7_record_1 : decode cX7_record 1 = .ok (.getfield 31, 3) := by decide +kernel
theorem dX7_record_4 : decode cX7_record 4 = .ok (.bipush 6, 2) := by decide +kernel
theorem dX7_record_6 : decode cX7_record 6 = .ok (.if_icmp .ne 44, 3) := by decide +kernel
theorem dX7_record_9 : decode cX7_record 9 = .ok (.iconst 0, 1) := by decide +kernel
theorem dX7_record_10 : decode cX7_record 10 = .ok (.istore_n 1, 1) := by decide +kernel
theorem dX7_record_11 : decode cX7_record 11 = .ok (.iload_n 1, 1) := by decide +kernel
theorem dX7_record_12 : decode cX7_record 12 = .ok (.sipush 13140, 3) := by decide +kernel
theorem dX7_record_15 : decode cX7_record 15 = .ok (.if_icmp .ge 25, 3) := by decide +kernel
theorem dX7_record_18 : decode cX7_record 18 = .ok (.aload_n 0, 1) := by decide +kernel
theorem dX7_record_19 : decode cX7_record 19 = .ok (.getfield 13, 3) := by decide +kernel
theorem dX7_record_22 : decode cX7_record 22 = .ok (.iload_n 1, 1) := by decide +kernel
theorem dX7_record_23 : decode cX7_record 23 = .ok (.aload_n 0, 1) := by decide +kernel
theorem dX7_record_24 : decode cX7_record 24 = .ok (.getfield 13, 3) := by decide +kernel
theorem dX7_record_27 : decode cX7_record 27 = .ok (.iload_n 1, 1) := by decide +kernel
theorem dX7_record_28 : decode cX7_record 28 = .ok (.sipush 2628, 3) := by decide +kernel
theorem dX7_record_31 : decode cX7_record 31 = .ok (.iadd, 1) := by decide +kernel
theorem dX7_record_32 : decode cX7_record 32 = .ok (.iaload, 1) := by decide +kernel
theorem dX7_record_33 : decode cX7_record 33 = .ok (.iastore, 1) := by decide +kernel
theorem dX7_record_34 : decode cX7_record 34 = .ok (.iinc 1 1, 3) := by decide +kernel
theorem dX7_record_37 : decode cX7_record 37 = .ok (.goto (-26), 3) := by decide +kernel
theorem dX7_record_40 : decode cX7_record 40 = .ok (.aload_n 0, 1) := by decide +kernel
theorem dX7_record_41 : decode cX7_record 41 = .ok (.dup, 1) := by decide +kernel
theorem dX7_record_42 : decode cX7_record 42 = .ok (.getfield 31, 3) := by decide +kernel
theorem dX7_record_45 : decode cX7_record 45 = .ok (.iconst 1, 1) := by decide +kernel
theorem dX7_record_46 : decode cX7_record 46 = .ok (.isub, 1) := by decide +kernel
theorem dX7_record_47 : decode cX7_record 47 = .ok (.putfield 31, 3) := by decide +kernel
theorem dX7_record_50 : decode cX7_record 50 = .ok (.aload_n 0, 1) := by decide +kernel
theorem dX7_record_51 : decode cX7_record 51 = .ok (.getfield 7, 3) := by decide +kernel
theorem dX7_record_54 : decode cX7_record 54 = .ok (.iconst 0, 1) := by decide +kernel
theorem dX7_record_55 : decode cX7_record 55 = .ok (.aload_n 0, 1) := by decide +kernel
theorem dX7_record_56 : decode cX7_record 56 = .ok (.getfield 13, 3) := by decide +kernel
theorem dX7_record_59 : decode cX7_record 59 = .ok (.aload_n 0, 1) := by decide +kernel
theorem dX7_record_60 : decode cX7_record 60 = .ok (.getfield 31, 3) := by decide +kernel
theorem dX7_record_63 : decode cX7_record 63 = .ok (.sipush 2628, 3) := by decide +kernel
theorem dX7_record_66 : decode cX7_record 66 = .ok (.imul, 1) := by decide +kernel
theorem dX7_record_67 : decode cX7_record 67 = .ok (.invokestatic 35, 3) := by decide +kernel
theorem dX7_record_70 : decode cX7_record 70 = .ok (.aload_n 0, 1) := by decide +kernel
theorem dX7_record_71 : decode cX7_record 71 = .ok (.dup, 1) := by decide +kernel
theorem dX7_record_72 : decode cX7_record 72 = .ok (.getfield 31, 3) := by decide +kernel
theorem dX7_record_75 : decode cX7_record 75 = .ok (.iconst 1, 1) := by decide +kernel
theorem dX7_record_76 : decode cX7_record 76 = .ok (.iadd, 1) := by decide +kernel
theorem dX7_record_77 : decode cX7_record 77 = .ok (.putfield 31, 3) := by decide +kernel
theorem dX7_record_80 : decode cX7_record 80 = .ok (.return_, 1) := by decide +kernel
set_option maxRecDepth 20000 in
theorem ggX7_isBlock_X7_within : GoodIn wsX7_isBlock wsX7_within := goodIn_r _ [5] (by decide +kernel) (by decide +kernel)
set_option maxRecDepth 20000 in
theorem gX7_isBlock_X7_within : GoodIn wsX7_isBlock (va_wsS RX7 39 yX7_within wsX7_within) := goodIn_app (goodIn_of _ (by decide +kernel)) ggX7_isBlock_X7_within
theorem dX7_isBlock_0 : decode cX7_isBlock 0 = .ok (.iload_n 1, 1) := by decide +kernel
theorem dX7_isBlock_1 : decode cX7_isBlock 1 = .ok (.iconst 0, 1) := by decide +kernel
theorem dX7_isBlock_2 : decode cX7_isBlock 2 = .ok (.aload_n 0, 1) := by decide +kernel
theorem dX7_isBlock_3 : decode cX7_isBlock 3 = .ok (.getfield 7, 3) := by decide +kernel
theorem dX7_isBlock_6 : decode cX7_isBlock 6 = .ok (.iconst 3, 1) := by decide +kernel
theorem dX7_isBlock_7 : decode cX7_isBlock 7 = .ok (.iaload, 1) := by decide +kernel
theorem dX7_isBlock_8 : decode cX7_isBlock 8 = .ok (.iconst 1, 1) := by decide +kernel
theorem dX7_isBlock_9 : decode cX7_isBlock 9 = .ok (.isub, 1) := by decide +kernel
theorem dX7_isBlock_10 : decode cX7_isBlock 10 = .ok (.invokestatic 39, 3) := by decide +kernel
theorem dX7_isBlock_13 : decode cX7_isBlock 13 = .ok (.ireturn, 1) := by decide +kernel
theorem dX7_part_0 : decode cX7_part 0 = .ok (.aload_n 0, 1) := by decide +kernel
theorem dX7_part_1 : decode cX7_part 1 = .ok (.getfield 7, 3) := by decide +kernel
theorem dX7_part_4 : decode cX7_part 4 = .ok (.iconst 4, 1) := by decide +kernel
theorem dX7_part_5 : decode cX7_part 5 = .ok (.bipush 10, 2) := by decide +kernel
theorem dX7_part_7 : decode cX7_part 7 = .ok (.iload_n 1, 1) := by decide +kernel
theorem dX7_part_8 : decode cX7_part 8 = .ok (.imul, 1) := by decide +kernel
theorem dX7_part_9 : decode cX7_part 9 = .ok (.iadd, 1) := by decide +kernel
theorem dX7_part_10 : decode cX7_part 10 = .ok (.iload_n 2, 1) := by decide +kernel
theorem dX7_part_11 : decode cX7_part 11 = .ok (.iadd, 1) := by decide +kernel
theorem dX7_part_12 : decode cX7_part 12 = .ok (.iaload, 1) := by decide +kernel
theorem dX7_part_13 : decode cX7_part 13 = .ok (.ireturn, 1) := by decide +kernel
set_option maxRecDepth 20000 in
theorem ggX7_tellingSize_X7_part : GoodIn wsX7_tellingSize wsX7_part := goodIn_r _ [5, 6, 7, 8, 9, 10, 11, 12, 13, 14, 15, 16, 17, 18, 19] (by decide +kernel) (by decide +kernel)
set_option maxRecDepth 20000 in
theorem gX7_tellingSize_X7_part : GoodIn wsX7_tellingSize (wsV RX7 43 RX7 yX7_part wsX7_part) := goodIn_app (goodIn_of _ (by decide +kernel)) ggX7_tellingSize_X7_part
theorem dX7_tellingSize_0 : decode cX7_tellingSize 0 = .ok (.iconst 4, 1) := by decide +kernel
theorem dX7_tellingSize_1 : decode cX7_tellingSize 1 = .ok (.bipush 9, 2) := by decide +kernel
theorem dX7_tellingSize_3 : decode cX7_tellingSize 3 = .ok (.aload_n 0, 1) := by decide +kernel
theorem dX7_tellingSize_4 : decode cX7_tellingSize 4 = .ok (.iload_n 1, 1) := by decide +kernel
theorem dX7_tellingSize_5 : decode cX7_tellingSize 5 = .ok (.iconst 2, 1) := by decide +kernel
theorem dX7_tellingSize_6 : decode cX7_tellingSize 6 = .ok (.invokevirtual 43, 3) := by decide +kernel
theorem dX7_tellingSize_9 : decode cX7_tellingSize 9 = .ok (.iconst 1, 1) := by decide +kernel
theorem dX7_tellingSize_10 : decode cX7_tellingSize 10 = .ok (.iadd, 1) := by decide +kernel
theorem dX7_tellingSize_11 : decode cX7_tellingSize 11 = .ok (.imul, 1) := by decide +kernel
theorem dX7_tellingSize_12 : decode cX7_tellingSize 12 = .ok (.iadd, 1) := by decide +kernel
theorem dX7_tellingSize_13 : decode cX7_tellingSize 13 = .ok (.ireturn, 1) := by decide +kernel
set_option maxRecDepth 20000 in
theorem ggX7_cellsOf_X7_tellingSize : GoodIn wsX7_cellsOf wsX7_tellingSize := goodIn_r _ [5, 6, 7, 8, 4, 9, 10, 11, 12, 13, 14, 15, 16, 17, 18, 19, 20, 21, 22, 23] (by decide +kernel) (by decide +kernel)
set_option maxRecDepth 20000 in
theorem gX7_cellsOf_X7_tellingSize : GoodIn wsX7_cellsOf (wsV RX7 47 RX7 yX7_tellingSize wsX7_tellingSize) := goodIn_app (goodIn_of _ (by decide +kernel)) ggX7_cellsOf_X7_tellingSize
theorem dX7_cellsOf_0 : decode cX7_cellsOf 0 = .ok (.iconst 2, 1) := by decide +kernel
theorem dX7_cellsOf_1 : decode cX7_cellsOf 1 = .ok (.aload_n 0, 1) := by decide +kernel
theorem dX7_cellsOf_2 : decode cX7_cellsOf 2 = .ok (.iload_n 1, 1) := by decide +kernel
theorem dX7_cellsOf_3 : decode cX7_cellsOf 3 = .ok (.invokevirtual 47, 3) := by decide +kernel
theorem dX7_cellsOf_6 : decode cX7_cellsOf 6 = .ok (.imul, 1) := by decide +kernel
theorem dX7_cellsOf_7 : decode cX7_cellsOf 7 = .ok (.iconst 2, 1) := by decide +kernel
theorem dX7_cellsOf_8 : decode cX7_cellsOf 8 = .ok (.iadd, 1) := by decide +kernel
theorem dX7_cellsOf_9 : decode cX7_cellsOf 9 = .ok (.ireturn, 1) := by decide +kernel
set_option maxRecDepth 20000 in
theorem ggX7_firstOf_X7_cellsOf : GoodIn wsX7_firstOf wsX7_cellsOf := goodIn_r _ [5, 6, 7, 8, 4, 9, 10, 11, 12, 13, 14, 15, 16, 17, 18, 19, 20, 21, 22, 23, 24, 25, 26, 27] (by decide +kernel) (by decide +kernel)
set_option maxRecDepth 20000 in
theorem gX7_firstOf_X7_cellsOf : GoodIn wsX7_firstOf (wsV RX7 51 RX7 yX7_cellsOf wsX7_cellsOf) := goodIn_app (goodIn_of _ (by decide +kernel)) ggX7_firstOf_X7_cellsOf
theorem dX7_firstOf_0 : decode cX7_firstOf 0 = .ok (.iconst 0, 1) := by decide +kernel
theorem dX7_firstOf_1 : decode cX7_firstOf 1 = .ok (.istore_n 2, 1) := by decide +kernel
theorem dX7_firstOf_2 : decode cX7_firstOf 2 = .ok (.iconst 0, 1) := by decide +kernel
theorem dX7_firstOf_3 : decode cX7_firstOf 3 = .ok (.istore_n 3, 1) := by decide +kernel
theorem dX7_firstOf_4 : decode cX7_firstOf 4 = .ok (.iload_n 3, 1) := by decide +kernel
theorem dX7_firstOf_5 : decode cX7_firstOf 5 = .ok (.iload_n 1, 1) := by decide +kernel
theorem dX7_firstOf_6 : decode cX7_firstOf 6 = .ok (.if_icmp .ge 17, 3) := by decide +kernel
theorem dX7_firstOf_9 : decode cX7_firstOf 9 = .ok (.iload_n 2, 1) := by decide +kernel
theorem dX7_firstOf_10 : decode cX7_firstOf 10 = .ok (.aload_n 0, 1) := by decide +kernel
theorem dX7_firstOf_11 : decode cX7_firstOf 11 = .ok (.iload_n 3, 1) := by decide +kernel
theorem dX7_firstOf_12 : decode cX7_firstOf 12 = .ok (.invokevirtual 51, 3) := by decide +kernel
theorem dX7_firstOf_15 : decode cX7_firstOf 15 = .ok (.iadd, 1) := by decide +kernel
theorem dX7_firstOf_16 : decode cX7_firstOf 16 = .ok (.istore_n 2, 1) := by decide +kernel
theorem dX7_firstOf_17 : decode cX7_firstOf 17 = .ok (.iinc 3 1, 3) := by decide +kernel
theorem dX7_firstOf_20 : decode cX7_firstOf 20 = .ok (.goto (-16), 3) := by decide +kernel
theorem dX7_firstOf_23 : decode cX7_firstOf 23 = .ok (.iload_n 2, 1) := by decide +kernel
theorem dX7_firstOf_24 : decode cX7_firstOf 24 = .ok (.ireturn, 1) := by decide +kernel
set_option maxRecDepth 20000 in
theorem ggX7_allCells_X7_firstOf : GoodIn wsX7_allCells wsX7_firstOf := goodIn_r _ [6, 7, 8, 9, 5, 10, 11, 12, 13, 14, 15, 16, 17, 18, 1, 19, 20, 21, 22, 23, 24, 25, 26, 27, 28, 29, 30, 31] (by decide +kernel) (by decide +kernel)
set_option maxRecDepth 20000 in
theorem gX7_allCells_X7_firstOf : GoodIn wsX7_allCells (wsV RX7 54 RX7 yX7_firstOf wsX7_firstOf) := goodIn_app (goodIn_of _ (by decide +kernel)) ggX7_allCells_X7_firstOf
theorem dX7_allCells_0 : decode cX7_allCells 0 = .ok (.aload_n 0, 1) := by decide +kernel
theorem dX7_allCells_1 : decode cX7_allCells 1 = .ok (.aload_n 0, 1) := by decide +kernel
theorem dX7_allCells_2 : decode cX7_allCells 2 = .ok (.getfield 7, 3) := by decide +kernel
theorem dX7_allCells_5 : decode cX7_allCells 5 = .ok (.iconst 3, 1) := by decide +kernel
theorem dX7_allCells_6 : decode cX7_allCells 6 = .ok (.iaload, 1) := by decide +kernel
theorem dX7_allCells_7 : decode cX7_allCells 7 = .ok (.invokevirtual 54, 3) := by decide +kernel
theorem dX7_allCells_10 : decode cX7_allCells 10 = .ok (.ireturn, 1) := by decide +kernel
set_option maxRecDepth 20000 in
theorem ggX7_isCell_X7_allCells : GoodIn wsX7_isCell wsX7_allCells := goodIn_r _ [5, 6, 7, 8, 9, 4, 10, 11, 12, 13, 14, 15, 16, 17, 18, 19, 20, 21, 22, 26, 27, 28, 29, 30, 31, 32, 33, 34, 35, 36, 37, 38] (by decide +kernel) (by decide +kernel)
set_option maxRecDepth 20000 in
theorem gX7_isCell_X7_allCells : GoodIn wsX7_isCell (wsV RX7 57 RX7 yX7_allCells wsX7_allCells) := goodIn_app (goodIn_of _ (by decide +kernel)) ggX7_isCell_X7_allCells
set_option maxRecDepth 20000 in
theorem ggX7_isCell_X7_within : GoodIn wsX7_isCell wsX7_within := goodIn_r _ [25] (by decide +kernel) (by decide +kernel)
set_option maxRecDepth 20000 in
theorem gX7_isCell_X7_within : GoodIn wsX7_isCell (va_wsS RX7 39 yX7_within wsX7_within) := goodIn_app (goodIn_of _ (by decide +kernel)) ggX7_isCell_X7_within
theorem dX7_isCell_0 : decode cX7_isCell 0 = .ok (.iload_n 1, 1) := by decide +kernel
theorem dX7_isCell_1 : decode cX7_isCell 1 = .ok (.iconst 0, 1) := by decide +kernel
theorem dX7_isCell_2 : decode cX7_isCell 2 = .ok (.aload_n 0, 1) := by decide +kernel
theorem dX7_isCell_3 : decode cX7_isCell 3 = .ok (.invokevirtual 57, 3) := by decide +kernel
theorem dX7_isCell_6 : decode cX7_isCell 6 = .ok (.iconst 1, 1) := by decide +kernel
theorem dX7_isCell_7 : decode cX7_isCell 7 = .ok (.isub, 1) := by decide +kernel
theorem dX7_isCell_8 : decode cX7_isCell 8 = .ok (.invokestatic 39, 3) := by decide +kernel
theorem dX7_isCell_11 : decode cX7_isCell 11 = .ok (.ireturn, 1) := by decide +kernel
set_option maxRecDepth 20000 in
theorem ggX7_blockOf_X7_firstOf : GoodIn wsX7_blockOf wsX7_firstOf := goodIn_r _ [5, 6, 7, 8, 4, 9, 10, 11, 12, 13, 14, 15, 16, 17, 18, 19, 20, 21, 22, 23, 24, 25, 26, 27, 28, 29, 30, 31] (by decide +kernel) (by decide +kernel)
set_option maxRecDepth 20000 in
theorem gX7_blockOf_X7_firstOf : GoodIn wsX7_blockOf (wsV RX7 54 RX7 yX7_firstOf wsX7_firstOf) := goodIn_app (goodIn_of _ (by decide +kernel)) ggX7_blockOf_X7_firstOf
theorem dX7_blockOf_0 : decode cX7_blockOf 0 = .ok (.iconst 0, 1) := by decide +kernel
theorem dX7_blockOf_1 : decode cX7_blockOf 1 = .ok (.istore_n 2, 1) := by decide +kernel
theorem dX7_blockOf_2 : decode cX7_blockOf 2 = .ok (.aload_n 0, 1) := by decide +kernel
theorem dX7_blockOf_3 : decode cX7_blockOf 3 = .ok (.iload_n 2, 1) := by decide +kernel
theorem dX7_blockOf_4 : decode cX7_blockOf 4 = .ok (.iconst 1, 1) := by decide +kernel
theorem dX7_blockOf_5 : decode cX7_blockOf 5 = .ok (.iadd, 1) := by decide +kernel
theorem dX7_blockOf_6 : decode cX7_blockOf 6 = .ok (.invokevirtual 54, 3) := by decide +kernel
theorem dX7_blockOf_9 : decode cX7_blockOf 9 = .ok (.iload_n 1, 1) := by decide +kernel
theorem dX7_blockOf_10 : decode cX7_blockOf 10 = .ok (.if_icmp .gt 9, 3) := by decide +kernel
theorem dX7_blockOf_13 : decode cX7_blockOf 13 = .ok (.iinc 2 1, 3) := by decide +kernel
theorem dX7_blockOf_16 : decode cX7_blockOf 16 = .ok (.goto (-14), 3) := by decide +kernel
theorem dX7_blockOf_19 : decode cX7_blockOf 19 = .ok (.iload_n 2, 1) := by decide +kernel
theorem dX7_blockOf_20 : decode cX7_blockOf 20 = .ok (.ireturn, 1) := by decide +kernel
theorem dX7_volumeOf_0 : decode cX7_volumeOf 0 = .ok (.aload_n 0, 1) := by decide +kernel
theorem dX7_volumeOf_1 : decode cX7_volumeOf 1 = .ok (.getfield 7, 3) := by decide +kernel
theorem dX7_volumeOf_4 : decode cX7_volumeOf 4 = .ok (.sipush 164, 3) := by decide +kernel
theorem dX7_volumeOf_7 : decode cX7_volumeOf 7 = .ok (.iload_n 1, 1) := by decide +kernel
theorem dX7_volumeOf_8 : decode cX7_volumeOf 8 = .ok (.iadd, 1) := by decide +kernel
theorem dX7_volumeOf_9 : decode cX7_volumeOf 9 = .ok (.iaload, 1) := by decide +kernel
theorem dX7_volumeOf_10 : decode cX7_volumeOf 10 = .ok (.sipush 128, 3) := by decide +kernel
theorem dX7_volumeOf_13 : decode cX7_volumeOf 13 = .ok (.irem, 1) := by decide +kernel
theorem dX7_volumeOf_14 : decode cX7_volumeOf 14 = .ok (.ireturn, 1) := by decide +kernel
theorem dX7_badness_0 : decode cX7_badness 0 = .ok (.aload_n 0, 1) := by decide +kernel
theorem dX7_badness_1 : decode cX7_badness 1 = .ok (.getfield 7, 3) := by decide +kernel
theorem dX7_badness_4 : decode cX7_badness 4 = .ok (.sipush 164, 3) := by decide +kernel
theorem dX7_badness_7 : decode cX7_badness 7 = .ok (.iload_n 1, 1) := by decide +kernel
theorem dX7_badness_8 : decode cX7_badness 8 = .ok (.iadd, 1) := by decide +kernel
theorem dX7_badness_9 : decode cX7_badness 9 = .ok (.iaload, 1) := by decide +kernel
theorem dX7_badness_10 : decode cX7_badness 10 = .ok (.sipush 128, 3) := by decide +kernel
theorem dX7_badness_13 : decode cX7_badness 13 = .ok (.idiv, 1) := by decide +kernel
theorem dX7_badness_14 : decode cX7_badness 14 = .ok (.ireturn, 1) := by decide +kernel
theorem dX7_isOdd_0 : decode cX7_isOdd 0 = .ok (.iconst 0, 1) := by decide +kernel
theorem dX7_isOdd_1 : decode cX7_isOdd 1 = .ok (.istore_n 1, 1) := by decide +kernel
theorem dX7_isOdd_2 : decode cX7_isOdd 2 = .ok (.iconst 0, 1) := by decide +kernel
theorem dX7_isOdd_3 : decode cX7_isOdd 3 = .ok (.istore_n 2, 1) := by decide +kernel
theorem dX7_isOdd_4 : decode cX7_isOdd 4 = .ok (.iload_n 2, 1) := by decide +kernel
theorem dX7_isOdd_5 : decode cX7_isOdd 5 = .ok (.bipush 8, 2) := by decide +kernel
theorem dX7_isOdd_7 : decode cX7_isOdd 7 = .ok (.if_icmp .ge 17, 3) := by decide +kernel
theorem dX7_isOdd_10 : decode cX7_isOdd 10 = .ok (.iload_n 1, 1) := by decide +kernel
theorem dX7_isOdd_11 : decode cX7_isOdd 11 = .ok (.iload_n 0, 1) := by decide +kernel
theorem dX7_isOdd_12 : decode cX7_isOdd 12 = .ok (.iload_n 2, 1) := by decide +kernel
theorem dX7_isOdd_13 : decode cX7_isOdd 13 = .ok (.ishr, 1) := by decide +kernel
theorem dX7_isOdd_14 : decode cX7_isOdd 14 = .ok (.iconst 1, 1) := by decide +kernel
theorem dX7_isOdd_15 : decode cX7_isOdd 15 = .ok (.iand, 1) := by decide +kernel
theorem dX7_isOdd_16 : decode cX7_isOdd 16 = .ok (.iadd, 1) := by decide +kernel
theorem dX7_isOdd_17 : decode cX7_isOdd 17 = .ok (.istore_n 1, 1) := by decide +kernel
theorem dX7_isOdd_18 : decode cX7_isOdd 18 = .ok (.iinc 2 1, 3) := by decide +kernel
theorem dX7_isOdd_21 : decode cX7_isOdd 21 = .ok (.goto (-17), 3) := by decide +kernel
theorem dX7_isOdd_24 : decode cX7_isOdd 24 = .ok (.iload_n 1, 1) := by decide +kernel
theorem dX7_isOdd_25 : decode cX7_isOdd 25 = .ok (.iconst 2, 1) := by decide +kernel
theorem dX7_isOdd_26 : decode cX7_isOdd 26 = .ok (.irem, 1) := by decide +kernel
theorem dX7_isOdd_27 : decode cX7_isOdd 27 = .ok (.ireturn, 1) := by decide +kernel
set_option maxRecDepth 20000 in
theorem ggX7_sumOf_X7_part : GoodIn wsX7_sumOf wsX7_part := goodIn_r _ [5, 6, 7, 8, 9, 10, 11, 12, 13, 14, 15, 16, 17, 18, 19] (by decide +kernel) (by decide +kernel)
set_option maxRecDepth 20000 in
theorem gX7_sumOf_X7_part : GoodIn wsX7_sumOf (wsV RX7 43 RX7 yX7_part wsX7_part) := goodIn_app (goodIn_of _ (by decide +kernel)) ggX7_sumOf_X7_part
theorem dX7_sumOf_0 : decode cX7_sumOf 0 = .ok (.iconst 0, 1) := by decide +kernel
theorem dX7_sumOf_1 : decode cX7_sumOf 1 = .ok (.istore_n 2, 1) := by decide +kernel
theorem dX7_sumOf_2 : decode cX7_sumOf 2 = .ok (.iconst 0, 1) := by decide +kernel
theorem dX7_sumOf_3 : decode cX7_sumOf 3 = .ok (.istore_n 3, 1) := by decide +kernel
theorem dX7_sumOf_4 : decode cX7_sumOf 4 = .ok (.iload_n 3, 1) := by decide +kernel
theorem dX7_sumOf_5 : decode cX7_sumOf 5 = .ok (.aload_n 0, 1) := by decide +kernel
theorem dX7_sumOf_6 : decode cX7_sumOf 6 = .ok (.iload_n 1, 1) := by decide +kernel
theorem dX7_sumOf_7 : decode cX7_sumOf 7 = .ok (.iconst 2, 1) := by decide +kernel
theorem dX7_sumOf_8 : decode cX7_sumOf 8 = .ok (.invokevirtual 43, 3) := by decide +kernel
theorem dX7_sumOf_11 : decode cX7_sumOf 11 = .ok (.if_icmp .ge 20, 3) := by decide +kernel
theorem dX7_sumOf_14 : decode cX7_sumOf 14 = .ok (.iload_n 2, 1) := by decide +kernel
theorem dX7_sumOf_15 : decode cX7_sumOf 15 = .ok (.aload_n 0, 1) := by decide +kernel
theorem dX7_sumOf_16 : decode cX7_sumOf 16 = .ok (.iload_n 1, 1) := by decide +kernel
theorem dX7_sumOf_17 : decode cX7_sumOf 17 = .ok (.iconst 3, 1) := by decide +kernel
theorem dX7_sumOf_18 : decode cX7_sumOf 18 = .ok (.iload_n 3, 1) := by decide +kernel
theorem dX7_sumOf_19 : decode cX7_sumOf 19 = .ok (.iadd, 1) := by decide +kernel
theorem dX7_sumOf_20 : decode cX7_sumOf 20 = .ok (.invokevirtual 43, 3) := by decide +kernel
theorem dX7_sumOf_23 : decode cX7_sumOf 23 = .ok (.iadd, 1) := by decide +kernel
theorem dX7_sumOf_24 : decode cX7_sumOf 24 = .ok (.istore_n 2, 1) := by decide +kernel
theorem dX7_sumOf_25 : decode cX7_sumOf 25 = .ok (.iinc 3 1, 3) := by decide +kernel
theorem dX7_sumOf_28 : decode cX7_sumOf 28 = .ok (.goto (-24), 3) := by decide +kernel
theorem dX7_sumOf_31 : decode cX7_sumOf 31 = .ok (.iload_n 2, 1) := by decide +kernel
theorem dX7_sumOf_32 : decode cX7_sumOf 32 = .ok (.sipush 256, 3) := by decide +kernel
theorem dX7_sumOf_35 : decode cX7_sumOf 35 = .ok (.irem, 1) := by decide +kernel
theorem dX7_sumOf_36 : decode cX7_sumOf 36 = .ok (.ireturn, 1) := by decide +kernel
set_option maxRecDepth 20000 in
theorem ggX7_byteAt_X7_part : GoodIn wsX7_byteAt wsX7_part := goodIn_r _ [5, 6, 11, 12, 13, 14, 15, 16, 17, 18, 19, 20, 21, 22, 23] (by decide +kernel) (by decide +kernel)
set_option maxRecDepth 20000 in
theorem gX7_byteAt_X7_part : GoodIn wsX7_byteAt (wsV RX7 43 RX7 yX7_part wsX7_part) := goodIn_app (goodIn_of _ (by decide +kernel)) ggX7_byteAt_X7_part
set_option maxRecDepth 20000 in
theorem ggX7_byteAt_X7_sumOf : GoodIn wsX7_byteAt wsX7_sumOf := goodIn_r _ [10, 1, 2, 3, 4, 5, 6, 11, 12, 13, 14, 15, 16, 17, 18, 19, 20, 21, 22, 23] (by decide +kernel) (by decide +kernel)
set_option maxRecDepth 20000 in
theorem gX7_byteAt_X7_sumOf : GoodIn wsX7_byteAt (wsV RX7 61 RX7 yX7_sumOf wsX7_sumOf) := goodIn_app (goodIn_of _ (by decide +kernel)) ggX7_byteAt_X7_sumOf
theorem dX7_byteAt_0 : decode cX7_byteAt 0 = .ok (.iload_n 2, 1) := by decide +kernel
theorem dX7_byteAt_1 : decode cX7_byteAt 1 = .ok (.aload_n 0, 1) := by decide +kernel
theorem dX7_byteAt_2 : decode cX7_byteAt 2 = .ok (.iload_n 1, 1) := by decide +kernel
theorem dX7_byteAt_3 : decode cX7_byteAt 3 = .ok (.iconst 2, 1) := by decide +kernel
theorem dX7_byteAt_4 : decode cX7_byteAt 4 = .ok (.invokevirtual 43, 3) := by decide +kernel
theorem dX7_byteAt_7 : decode cX7_byteAt 7 = .ok (.if_icmp .ne 11, 3) := by decide +kernel
theorem dX7_byteAt_10 : decode cX7_byteAt 10 = .ok (.aload_n 0, 1) := by decide +kernel
theorem dX7_byteAt_11 : decode cX7_byteAt 11 = .ok (.iload_n 1, 1) := by decide +kernel
theorem dX7_byteAt_12 : decode cX7_byteAt 12 = .ok (.invokevirtual 61, 3) := by decide +kernel
theorem dX7_byteAt_15 : decode cX7_byteAt 15 = .ok (.goto 11, 3) := by decide +kernel
theorem dX7_byteAt_18 : decode cX7_byteAt 18 = .ok (.aload_n 0, 1) := by decide +kernel
theorem dX7_byteAt_19 : decode cX7_byteAt 19 = .ok (.iload_n 1, 1) := by decide +kernel
theorem dX7_byteAt_20 : decode cX7_byteAt 20 = .ok (.iconst 3, 1) := by decide +kernel
theorem dX7_byteAt_21 : decode cX7_byteAt 21 = .ok (.iload_n 2, 1) := by decide +kernel
theorem dX7_byteAt_22 : decode cX7_byteAt 22 = .ok (.iadd, 1) := by decide +kernel
theorem dX7_byteAt_23 : decode cX7_byteAt 23 = .ok (.invokevirtual 43, 3) := by decide +kernel
theorem dX7_byteAt_26 : decode cX7_byteAt 26 = .ok (.ireturn, 1) := by decide +kernel
set_option maxRecDepth 20000 in
theorem ggX7_bitAt_X7_byteAt : GoodIn wsX7_bitAt wsX7_byteAt := goodIn_r _ [5, 6, 7, 8, 4, 9, 10, 11, 12, 13, 14, 34, 35, 36, 37, 38, 39, 40, 41, 42, 43, 44, 45, 46] (by decide +kernel) (by decide +kernel)
set_option maxRecDepth 20000 in
theorem gX7_bitAt_X7_byteAt : GoodIn wsX7_bitAt (wsV RX7 64 RX7 yX7_byteAt wsX7_byteAt) := goodIn_app (goodIn_of _ (by decide +kernel)) ggX7_bitAt_X7_byteAt
set_option maxRecDepth 20000 in
theorem ggX7_bitAt_X7_isOdd : GoodIn wsX7_bitAt wsX7_isOdd := goodIn_r _ [17] (by decide +kernel) (by decide +kernel)
set_option maxRecDepth 20000 in
theorem gX7_bitAt_X7_isOdd : GoodIn wsX7_bitAt (va_wsS RX7 67 yX7_isOdd wsX7_isOdd) := goodIn_app (goodIn_of _ (by decide +kernel)) ggX7_bitAt_X7_isOdd
set_option maxRecDepth 20000 in
theorem ggX7_bitAt_X7_firstOf : GoodIn wsX7_bitAt wsX7_firstOf := goodIn_r _ [21, 22, 23, 24, 4, 25, 26, 27, 28, 29, 6, 7, 8, 9, 10, 34, 35, 36, 37, 38, 39, 40, 41, 42, 43, 44, 45, 46] (by decide +kernel) (by decide +kernel)
set_option maxRecDepth 20000 in
theorem gX7_bitAt_X7_firstOf : GoodIn wsX7_bitAt (wsV RX7 54 RX7 yX7_firstOf wsX7_firstOf) := goodIn_app (goodIn_of _ (by decide +kernel)) ggX7_bitAt_X7_firstOf
set_option maxRecDepth 20000 in
theorem ggX7_bitAt_X7_tellingSize : GoodIn wsX7_bitAt wsX7_tellingSize := goodIn_r _ [29, 6, 7, 8, 4, 9, 10, 34, 35, 36, 37, 38, 39, 40, 41, 42, 43, 44, 45, 46] (by decide +kernel) (by decide +kernel)
set_option maxRecDepth 20000 in
theorem gX7_bitAt_X7_tellingSize : GoodIn wsX7_bitAt (wsV RX7 47 RX7 yX7_tellingSize wsX7_tellingSize) := goodIn_app (goodIn_of _ (by decide +kernel)) ggX7_bitAt_X7_tellingSize
set_option maxRecDepth 20000 in
theorem ggX7_bitAt_X7_badness : GoodIn wsX7_bitAt wsX7_badness := goodIn_r _ [33, 10, 34, 35, 36, 37, 38, 39, 40, 41, 42, 43, 44, 45, 46] (by decide +kernel) (by decide +kernel)
set_option maxRecDepth 20000 in
theorem gX7_bitAt_X7_badness : GoodIn wsX7_bitAt (wsV RX7 70 RX7 yX7_badness wsX7_badness) := goodIn_app (goodIn_of _ (by decide +kernel)) ggX7_bitAt_X7_badness
theorem dX7_bitAt_0 : decode cX7_bitAt 0 = .ok (.iload_n 3, 1) := by decide +kernel
theorem dX7_bitAt_1 : decode cX7_bitAt 1 = .ok (.iconst 4, 1) := by decide +kernel
theorem dX7_bitAt_2 : decode cX7_bitAt 2 = .ok (.if_icmp .ge 5, 3) := by decide +kernel
theorem dX7_bitAt_5 : decode cX7_bitAt 5 = .ok (.iconst 0, 1) := by decide +kernel
theorem dX7_bitAt_6 : decode cX7_bitAt 6 = .ok (.ireturn, 1) := by decide +kernel
theorem dX7_bitAt_7 : decode cX7_bitAt 7 = .ok (.aload_n 0, 1) := by decide +kernel
theorem dX7_bitAt_8 : decode cX7_bitAt 8 = .ok (.iload_n 1, 1) := by decide +kernel
theorem dX7_bitAt_9 : decode cX7_bitAt 9 = .ok (.iload_n 3, 1) := by decide +kernel
theorem dX7_bitAt_10 : decode cX7_bitAt 10 = .ok (.iconst 4, 1) := by decide +kernel
theorem dX7_bitAt_11 : decode cX7_bitAt 11 = .ok (.isub, 1) := by decide +kernel
theorem dX7_bitAt_12 : decode cX7_bitAt 12 = .ok (.bipush 9, 2) := by decide +kernel
theorem dX7_bitAt_14 : decode cX7_bitAt 14 = .ok (.idiv, 1) := by decide +kernel
theorem dX7_bitAt_15 : decode cX7_bitAt 15 = .ok (.invokevirtual 64, 3) := by decide +kernel
theorem dX7_bitAt_18 : decode cX7_bitAt 18 = .ok (.istore 4, 2) := by decide +kernel
theorem dX7_bitAt_20 : decode cX7_bitAt 20 = .ok (.iload_n 3, 1) := by decide +kernel
theorem dX7_bitAt_21 : decode cX7_bitAt 21 = .ok (.iconst 4, 1) := by decide +kernel
theorem dX7_bitAt_22 : decode cX7_bitAt 22 = .ok (.isub, 1) := by decide +kernel
theorem dX7_bitAt_23 : decode cX7_bitAt 23 = .ok (.bipush 9, 2) := by decide +kernel
theorem dX7_bitAt_25 : decode cX7_bitAt 25 = .ok (.irem, 1) := by decide +kernel
theorem dX7_bitAt_26 : decode cX7_bitAt 26 = .ok (.istore 5, 2) := by decide +kernel
theorem dX7_bitAt_28 : decode cX7_bitAt 28 = .ok (.iload 5, 2) := by decide +kernel
theorem dX7_bitAt_30 : decode cX7_bitAt 30 = .ok (.bipush 8, 2) := by decide +kernel
theorem dX7_bitAt_32 : decode cX7_bitAt 32 = .ok (.if_icmp .ge 13, 3) := by decide +kernel
theorem dX7_bitAt_35 : decode cX7_bitAt 35 = .ok (.iload 4, 2) := by decide +kernel
theorem dX7_bitAt_37 : decode cX7_bitAt 37 = .ok (.iload 5, 2) := by decide +kernel
theorem dX7_bitAt_39 : decode cX7_bitAt 39 = .ok (.ishr, 1) := by decide +kernel
theorem dX7_bitAt_40 : decode cX7_bitAt 40 = .ok (.iconst 1, 1) := by decide +kernel
theorem dX7_bitAt_41 : decode cX7_bitAt 41 = .ok (.iand, 1) := by decide +kernel
theorem dX7_bitAt_42 : decode cX7_bitAt 42 = .ok (.goto 8, 3) := by decide +kernel
theorem dX7_bitAt_45 : decode cX7_bitAt 45 = .ok (.iload 4, 2) := by decide +kernel
theorem dX7_bitAt_47 : decode cX7_bitAt 47 = .ok (.invokestatic 67, 3) := by decide +kernel
theorem dX7_bitAt_50 : decode cX7_bitAt 50 = .ok (.istore 6, 2) := by decide +kernel
theorem dX7_bitAt_52 : decode cX7_bitAt 52 = .ok (.iload 6, 2) := by decide +kernel
theorem dX7_bitAt_54 : decode cX7_bitAt 54 = .ok (.aload_n 0, 1) := by decide +kernel
theorem dX7_bitAt_55 : decode cX7_bitAt 55 = .ok (.aload_n 0, 1) := by decide +kernel
theorem dX7_bitAt_56 : decode cX7_bitAt 56 = .ok (.iload_n 1, 1) := by decide +kernel
theorem dX7_bitAt_57 : decode cX7_bitAt 57 = .ok (.invokevirtual 54, 3) := by decide +kernel
theorem dX7_bitAt_60 : decode cX7_bitAt 60 = .ok (.iload_n 2, 1) := by decide +kernel
theorem dX7_bitAt_61 : decode cX7_bitAt 61 = .ok (.aload_n 0, 1) := by decide +kernel
theorem dX7_bitAt_62 : decode cX7_bitAt 62 = .ok (.iload_n 1, 1) := by decide +kernel
theorem dX7_bitAt_63 : decode cX7_bitAt 63 = .ok (.invokevirtual 47, 3) := by decide +kernel
theorem dX7_bitAt_66 : decode cX7_bitAt 66 = .ok (.imul, 1) := by decide +kernel
theorem dX7_bitAt_67 : decode cX7_bitAt 67 = .ok (.iadd, 1) := by decide +kernel
theorem dX7_bitAt_68 : decode cX7_bitAt 68 = .ok (.iload_n 3, 1) := by decide +kernel
theorem dX7_bitAt_69 : decode cX7_bitAt 69 = .ok (.iadd, 1) := by decide +kernel
theorem dX7_bitAt_70 : decode cX7_bitAt 70 = .ok (.invokevirtual 70, 3) := by decide +kernel
theorem dX7_bitAt_73 : decode cX7_bitAt 73 = .ok (.ixor, 1) := by decide +kernel
theorem dX7_bitAt_74 : decode cX7_bitAt 74 = .ok (.ireturn, 1) := by decide +kernel
theorem dX7_counterOf_0 : decode cX7_counterOf 0 = .ok (.iload_n 1, 1) := by decide +kernel
theorem dX7_counterOf_1 : decode cX7_counterOf 1 = .ok (.iload_n 1, 1) := by decide +kernel
theorem dX7_counterOf_2 : decode cX7_counterOf 2 = .ok (.aload_n 0, 1) := by decide +kernel
theorem dX7_counterOf_3 : decode cX7_counterOf 3 = .ok (.getfield 7, 3) := by decide +kernel
theorem dX7_counterOf_6 : decode cX7_counterOf 6 = .ok (.iconst 2, 1) := by decide +kernel
theorem dX7_counterOf_7 : decode cX7_counterOf 7 = .ok (.iaload, 1) := by decide +kernel
theorem dX7_counterOf_8 : decode cX7_counterOf 8 = .ok (.imul, 1) := by decide +kernel
theorem dX7_counterOf_9 : decode cX7_counterOf 9 = .ok (.bipush 100, 2) := by decide +kernel
theorem dX7_counterOf_11 : decode cX7_counterOf 11 = .ok (.idiv, 1) := by decide +kernel
theorem dX7_counterOf_12 : decode cX7_counterOf 12 = .ok (.isub, 1) := by decide +kernel
theorem dX7_counterOf_13 : decode cX7_counterOf 13 = .ok (.sipush 1000, 3) := by decide +kernel
theorem dX7_counterOf_16 : decode cX7_counterOf 16 = .ok (.irem, 1) := by decide +kernel
theorem dX7_counterOf_17 : decode cX7_counterOf 17 = .ok (.ireturn, 1) := by decide +kernel
set_option maxRecDepth 20000 in
theorem ggX7_isHeard_X7_volumeOf : GoodIn wsX7_isHeard wsX7_volumeOf := goodIn_r _ [6, 1, 7, 8, 9, 10, 11, 12, 13, 14, 15, 16, 17, 18, 19] (by decide +kernel) (by decide +kernel)
set_option maxRecDepth 20000 in
theorem gX7_isHeard_X7_volumeOf : GoodIn wsX7_isHeard (wsV RX7 73 RX7 yX7_volumeOf wsX7_volumeOf) := goodIn_app (goodIn_of _ (by decide +kernel)) ggX7_isHeard_X7_volumeOf
theorem dX7_isHeard_0 : decode cX7_isHeard 0 = .ok (.aload_n 0, 1) := by decide +kernel
theorem dX7_isHeard_1 : decode cX7_isHeard 1 = .ok (.iload_n 1, 1) := by decide +kernel
theorem dX7_isHeard_2 : decode cX7_isHeard 2 = .ok (.invokevirtual 73, 3) := by decide +kernel
theorem dX7_isHeard_5 : decode cX7_isHeard 5 = .ok (.aload_n 0, 1) := by decide +kernel
theorem dX7_isHeard_6 : decode cX7_isHeard 6 = .ok (.getfield 7, 3) := by decide +kernel
theorem dX7_isHeard_9 : decode cX7_isHeard 9 = .ok (.iconst 1, 1) := by decide +kernel
theorem dX7_isHeard_10 : decode cX7_isHeard 10 = .ok (.iaload, 1) := by decide +kernel
theorem dX7_isHeard_11 : decode cX7_isHeard 11 = .ok (.if_icmp .lt 7, 3) := by decide +kernel
theorem dX7_isHeard_14 : decode cX7_isHeard 14 = .ok (.iconst 1, 1) := by decide +kernel
theorem dX7_isHeard_15 : decode cX7_isHeard 15 = .ok (.goto 4, 3) := by decide +kernel
theorem dX7_isHeard_18 : decode cX7_isHeard 18 = .ok (.iconst 0, 1) := by decide +kernel
theorem dX7_isHeard_19 : decode cX7_isHeard 19 = .ok (.ireturn, 1) := by decide +kernel
set_option maxRecDepth 20000 in
theorem ggX7_isLeaderLost_X7_firstOf : GoodIn wsX7_isLeaderLost wsX7_firstOf := goodIn_r _ [5, 6, 7, 8, 4, 9, 10, 11, 12, 13, 14, 15, 16, 17, 18, 27, 28, 29, 30, 31, 32, 33, 34, 35, 36, 37, 38, 39] (by decide +kernel) (by decide +kernel)
set_option maxRecDepth 20000 in
theorem gX7_isLeaderLost_X7_firstOf : GoodIn wsX7_isLeaderLost (wsV RX7 54 RX7 yX7_firstOf wsX7_firstOf) := goodIn_app (goodIn_of _ (by decide +kernel)) ggX7_isLeaderLost_X7_firstOf
set_option maxRecDepth 20000 in
theorem ggX7_isLeaderLost_X7_tellingSize : GoodIn wsX7_isLeaderLost wsX7_tellingSize := goodIn_r _ [13, 14, 15, 16, 4, 17, 18, 27, 28, 29, 30, 31, 32, 33, 34, 35, 36, 37, 38, 39] (by decide +kernel) (by decide +kernel)
set_option maxRecDepth 20000 in
theorem gX7_isLeaderLost_X7_tellingSize : GoodIn wsX7_isLeaderLost (wsV RX7 47 RX7 yX7_tellingSize wsX7_tellingSize) := goodIn_app (goodIn_of _ (by decide +kernel)) ggX7_isLeaderLost_X7_tellingSize
set_option maxRecDepth 20000 in
theorem ggX7_isLeaderLost_X7_isHeard : GoodIn wsX7_isLeaderLost wsX7_isHeard := goodIn_r _ [22, 18, 23, 24, 25, 4, 26, 27, 28, 29, 30, 31, 32, 33, 34, 35, 36, 37, 38, 39] (by decide +kernel) (by decide +kernel)
set_option maxRecDepth 20000 in
theorem gX7_isLeaderLost_X7_isHeard : GoodIn wsX7_isLeaderLost (wsV RX7 76 RX7 yX7_isHeard wsX7_isHeard) := goodIn_app (goodIn_of _ (by decide +kernel)) ggX7_isLeaderLost_X7_isHeard
theorem dX7_isLeaderLost_0 : decode cX7_isLeaderLost 0 = .ok (.aload_n 0, 1) := by decide +kernel
theorem dX7_isLeaderLost_1 : decode cX7_isLeaderLost 1 = .ok (.iload_n 1, 1) := by decide +kernel
theorem dX7_isLeaderLost_2 : decode cX7_isLeaderLost 2 = .ok (.invokevirtual 54, 3) := by decide +kernel
theorem dX7_isLeaderLost_5 : decode cX7_isLeaderLost 5 = .ok (.iload_n 2, 1) := by decide +kernel
theorem dX7_isLeaderLost_6 : decode cX7_isLeaderLost 6 = .ok (.aload_n 0, 1) := by decide +kernel
theorem dX7_isLeaderLost_7 : decode cX7_isLeaderLost 7 = .ok (.iload_n 1, 1) := by decide +kernel
theorem dX7_isLeaderLost_8 : decode cX7_isLeaderLost 8 = .ok (.invokevirtual 47, 3) := by decide +kernel
theorem dX7_isLeaderLost_11 : decode cX7_isLeaderLost 11 = .ok (.imul, 1) := by decide +kernel
theorem dX7_isLeaderLost_12 : decode cX7_isLeaderLost 12 = .ok (.iadd, 1) := by decide +kernel
theorem dX7_isLeaderLost_13 : decode cX7_isLeaderLost 13 = .ok (.istore_n 3, 1) := by decide +kernel
theorem dX7_isLeaderLost_14 : decode cX7_isLeaderLost 14 = .ok (.iconst 0, 1) := by decide +kernel
theorem dX7_isLeaderLost_15 : decode cX7_isLeaderLost 15 = .ok (.istore 4, 2) := by decide +kernel
theorem dX7_isLeaderLost_17 : decode cX7_isLeaderLost 17 = .ok (.iconst 0, 1) := by decide +kernel
theorem dX7_isLeaderLost_18 : decode cX7_isLeaderLost 18 = .ok (.istore 5, 2) := by decide +kernel
theorem dX7_isLeaderLost_20 : decode cX7_isLeaderLost 20 = .ok (.iload 5, 2) := by decide +kernel
theorem dX7_isLeaderLost_22 : decode cX7_isLeaderLost 22 = .ok (.iconst 4, 1) := by decide +kernel
theorem dX7_isLeaderLost_23 : decode cX7_isLeaderLost 23 = .ok (.if_icmp .ge 30, 3) := by decide +kernel
theorem dX7_isLeaderLost_26 : decode cX7_isLeaderLost 26 = .ok (.iload 4, 2) := by decide +kernel
theorem dX7_isLeaderLost_28 : decode cX7_isLeaderLost 28 = .ok (.aload_n 0, 1) := by decide +kernel
theorem dX7_isLeaderLost_29 : decode cX7_isLeaderLost 29 = .ok (.iload_n 3, 1) := by decide +kernel
theorem dX7_isLeaderLost_30 : decode cX7_isLeaderLost 30 = .ok (.iload 5, 2) := by decide +kernel
theorem dX7_isLeaderLost_32 : decode cX7_isLeaderLost 32 = .ok (.iadd, 1) := by decide +kernel
theorem dX7_isLeaderLost_33 : decode cX7_isLeaderLost 33 = .ok (.invokevirtual 76, 3) := by decide +kernel
theorem dX7_isLeaderLost_36 : decode cX7_isLeaderLost 36 = .ok (.ifCond .eq 7, 3) := by decide +kernel
theorem dX7_isLeaderLost_39 : decode cX7_isLeaderLost 39 = .ok (.iconst 1, 1) := by decide +kernel
theorem dX7_isLeaderLost_40 : decode cX7_isLeaderLost 40 = .ok (.goto 4, 3) := by decide +kernel
theorem dX7_isLeaderLost_43 : decode cX7_isLeaderLost 43 = .ok (.iconst 0, 1) := by decide +kernel
theorem dX7_isLeaderLost_44 : decode cX7_isLeaderLost 44 = .ok (.iadd, 1) := by decide +kernel
theorem dX7_isLeaderLost_45 : decode cX7_isLeaderLost 45 = .ok (.istore 4, 2) := by decide +kernel
theorem dX7_isLeaderLost_47 : decode cX7_isLeaderLost 47 = .ok (.iinc 5 1, 3) := by decide +kernel
theorem dX7_isLeaderLost_50 : decode cX7_isLeaderLost 50 = .ok (.goto (-30), 3) := by decide +kernel
theorem dX7_isLeaderLost_53 : decode cX7_isLeaderLost 53 = .ok (.iload 4, 2) := by decide +kernel
theorem dX7_isLeaderLost_55 : decode cX7_isLeaderLost 55 = .ok (.iconst 2, 1) := by decide +kernel
theorem dX7_isLeaderLost_56 : decode cX7_isLeaderLost 56 = .ok (.if_icmp .ge 7, 3) := by decide +kernel
theorem dX7_isLeaderLost_59 : decode cX7_isLeaderLost 59 = .ok (.iconst 1, 1) := by decide +kernel
theorem dX7_isLeaderLost_60 : decode cX7_isLeaderLost 60 = .ok (.goto 4, 3) := by decide +kernel
theorem dX7_isLeaderLost_63 : decode cX7_isLeaderLost 63 = .ok (.iconst 0, 1) := by decide +kernel
theorem dX7_isLeaderLost_64 : decode cX7_isLeaderLost 64 = .ok (.ireturn, 1) := by decide +kernel
set_option maxRecDepth 20000 in
theorem ggX7_readAt_X7_firstOf : GoodIn wsX7_readAt wsX7_firstOf := goodIn_r _ [5, 6, 7, 8, 4, 9, 10, 11, 12, 13, 14, 15, 16, 17, 18, 46, 47, 48, 49, 50, 51, 52, 53, 54, 55, 56, 57, 58] (by decide +kernel) (by decide +kernel)
set_option maxRecDepth 20000 in
theorem gX7_readAt_X7_firstOf : GoodIn wsX7_readAt (wsV RX7 54 RX7 yX7_firstOf wsX7_firstOf) := goodIn_app (goodIn_of _ (by decide +kernel)) ggX7_readAt_X7_firstOf
set_option maxRecDepth 20000 in
theorem ggX7_readAt_X7_tellingSize : GoodIn wsX7_readAt wsX7_tellingSize := goodIn_r _ [13, 14, 15, 16, 4, 17, 18, 46, 47, 48, 49, 50, 51, 52, 53, 54, 55, 56, 57, 58] (by decide +kernel) (by decide +kernel)
set_option maxRecDepth 20000 in
theorem gX7_readAt_X7_tellingSize : GoodIn wsX7_readAt (wsV RX7 47 RX7 yX7_tellingSize wsX7_tellingSize) := goodIn_app (goodIn_of _ (by decide +kernel)) ggX7_readAt_X7_tellingSize
set_option maxRecDepth 20000 in
theorem ggX7_readAt_X7_isHeard : GoodIn wsX7_readAt wsX7_isHeard := goodIn_r _ [22, 18, 23, 24, 25, 4, 26, 46, 47, 48, 49, 50, 51, 52, 53, 54, 55, 56, 57, 58] (by decide +kernel) (by decide +kernel)
set_option maxRecDepth 20000 in
theorem gX7_readAt_X7_isHeard : GoodIn wsX7_readAt (wsV RX7 76 RX7 yX7_isHeard wsX7_isHeard) := goodIn_app (goodIn_of _ (by decide +kernel)) ggX7_readAt_X7_isHeard
set_option maxRecDepth 20000 in
theorem ggX7_readAt_X7_bitAt : GoodIn wsX7_readAt wsX7_bitAt := goodIn_r _ [30, 31, 32, 33, 4, 34, 14, 15, 16, 17, 18, 35, 36, 37, 38, 39, 40, 41, 1, 2, 3, 5, 6, 7, 8, 9, 10, 11, 12, 13, 42, 43, 44, 45, 46, 47, 48, 49, 50, 51, 52, 53, 54, 55, 56, 57, 58] (by decide +kernel) (by decide +kernel)
set_option maxRecDepth 20000 in
theorem gX7_readAt_X7_bitAt : GoodIn wsX7_readAt (wsV RX7 80 RX7 yX7_bitAt wsX7_bitAt) := goodIn_app (goodIn_of _ (by decide +kernel)) ggX7_readAt_X7_bitAt
set_option maxRecDepth 20000 in
theorem ggX7_readAt_X7_isOdd : GoodIn wsX7_readAt wsX7_isOdd := goodIn_r _ [41] (by decide +kernel) (by decide +kernel)
set_option maxRecDepth 20000 in
theorem gX7_readAt_X7_isOdd : GoodIn wsX7_readAt (va_wsS RX7 67 yX7_isOdd wsX7_isOdd) := goodIn_app (goodIn_of _ (by decide +kernel)) ggX7_readAt_X7_isOdd
theorem dX7_readAt_0 : decode cX7_readAt 0 = .ok (.iconst 4, 1) := by decide +kernel
theorem dX7_readAt_1 : decode cX7_readAt 1 = .ok (.bipush 9, 2) := by decide +kernel
theorem dX7_readAt_3 : decode cX7_readAt 3 = .ok (.iload_n 3, 1) := by decide +kernel
theorem dX7_readAt_4 : decode cX7_readAt 4 = .ok (.imul, 1) := by decide +kernel
theorem dX7_readAt_5 : decode cX7_readAt 5 = .ok (.iadd, 1) := by decide +kernel
theorem dX7_readAt_6 : decode cX7_readAt 6 = .ok (.istore 4, 2) := by decide +kernel
theorem dX7_readAt_8 : decode cX7_readAt 8 = .ok (.aload_n 0, 1) := by decide +kernel
theorem dX7_readAt_9 : decode cX7_readAt 9 = .ok (.iload_n 1, 1) := by decide +kernel
theorem dX7_readAt_10 : decode cX7_readAt 10 = .ok (.invokevirtual 54, 3) := by decide +kernel
theorem dX7_readAt_13 : decode cX7_readAt 13 = .ok (.iload_n 2, 1) := by decide +kernel
theorem dX7_readAt_14 : decode cX7_readAt 14 = .ok (.aload_n 0, 1) := by decide +kernel
theorem dX7_readAt_15 : decode cX7_readAt 15 = .ok (.iload_n 1, 1) := by decide +kernel
theorem dX7_readAt_16 : decode cX7_readAt 16 = .ok (.invokevirtual 47, 3) := by decide +kernel
theorem dX7_readAt_19 : decode cX7_readAt 19 = .ok (.imul, 1) := by decide +kernel
theorem dX7_readAt_20 : decode cX7_readAt 20 = .ok (.iadd, 1) := by decide +kernel
theorem dX7_readAt_21 : decode cX7_readAt 21 = .ok (.iload 4, 2) := by decide +kernel
theorem dX7_readAt_23 : decode cX7_readAt 23 = .ok (.iadd, 1) := by decide +kernel
theorem dX7_readAt_24 : decode cX7_readAt 24 = .ok (.istore 5, 2) := by decide +kernel
theorem dX7_readAt_26 : decode cX7_readAt 26 = .ok (.iconst 1, 1) := by decide +kernel
theorem dX7_readAt_27 : decode cX7_readAt 27 = .ok (.istore 6, 2) := by decide +kernel
theorem dX7_readAt_29 : decode cX7_readAt 29 = .ok (.iconst 0, 1) := by decide +kernel
theorem dX7_readAt_30 : decode cX7_readAt 30 = .ok (.istore 7, 2) := by decide +kernel
theorem dX7_readAt_32 : decode cX7_readAt 32 = .ok (.iconst 0, 1) := by decide +kernel
theorem dX7_readAt_33 : decode cX7_readAt 33 = .ok (.istore 8, 2) := by decide +kernel
theorem dX7_readAt_35 : decode cX7_readAt 35 = .ok (.iload 8, 2) := by decide +kernel
theorem dX7_readAt_37 : decode cX7_readAt 37 = .ok (.bipush 9, 2) := by decide +kernel
theorem dX7_readAt_39 : decode cX7_readAt 39 = .ok (.if_icmp .ge 63, 3) := by decide +kernel
theorem dX7_readAt_42 : decode cX7_readAt 42 = .ok (.iload 6, 2) := by decide +kernel
theorem dX7_readAt_44 : decode cX7_readAt 44 = .ok (.ifCond .eq 19, 3) := by decide +kernel
theorem dX7_readAt_47 : decode cX7_readAt 47 = .ok (.aload_n 0, 1) := by decide +kernel
theorem dX7_readAt_48 : decode cX7_readAt 48 = .ok (.iload 5, 2) := by decide +kernel
theorem dX7_readAt_50 : decode cX7_readAt 50 = .ok (.iload 8, 2) := by decide +kernel
theorem dX7_readAt_52 : decode cX7_readAt 52 = .ok (.iadd, 1) := by decide +kernel
theorem dX7_readAt_53 : decode cX7_readAt 53 = .ok (.invokevirtual 76, 3) := by decide +kernel
theorem dX7_readAt_56 : decode cX7_readAt 56 = .ok (.ifCond .eq 7, 3) := by decide +kernel
theorem dX7_readAt_59 : decode cX7_readAt 59 = .ok (.iconst 1, 1) := by decide +kernel
theorem dX7_readAt_60 : decode cX7_readAt 60 = .ok (.goto 4, 3) := by decide +kernel
theorem dX7_readAt_63 : decode cX7_readAt 63 = .ok (.iconst 0, 1) := by decide +kernel
theorem dX7_readAt_64 : decode cX7_readAt 64 = .ok (.istore 6, 2) := by decide +kernel
theorem dX7_readAt_66 : decode cX7_readAt 66 = .ok (.iload 7, 2) := by decide +kernel
theorem dX7_readAt_68 : decode cX7_readAt 68 = .ok (.iload 8, 2) := by decide +kernel
theorem dX7_readAt_70 : decode cX7_readAt 70 = .ok (.bipush 8, 2) := by decide +kernel
theorem dX7_readAt_72 : decode cX7_readAt 72 = .ok (.if_icmp .ge 20, 3) := by decide +kernel
theorem dX7_readAt_75 : decode cX7_readAt 75 = .ok (.aload_n 0, 1) := by decide +kernel
theorem dX7_readAt_76 : decode cX7_readAt 76 = .ok (.iload_n 1, 1) := by decide +kernel
theorem dX7_readAt_77 : decode cX7_readAt 77 = .ok (.iload_n 2, 1) := by decide +kernel
theorem dX7_readAt_78 : decode cX7_readAt 78 = .ok (.iload 4, 2) := by decide +kernel
theorem dX7_readAt_80 : decode cX7_readAt 80 = .ok (.iload 8, 2) := by decide +kernel
theorem dX7_readAt_82 : decode cX7_readAt 82 = .ok (.iadd, 1) := by decide +kernel
theorem dX7_readAt_83 : decode cX7_readAt 83 = .ok (.invokevirtual 80, 3) := by decide +kernel
theorem dX7_readAt_86 : decode cX7_readAt 86 = .ok (.iload 8, 2) := by decide +kernel
theorem dX7_readAt_88 : decode cX7_readAt 88 = .ok (.ishl, 1) := by decide +kernel
theorem dX7_readAt_89 : decode cX7_readAt 89 = .ok (.goto 4, 3) := by decide +kernel
theorem dX7_readAt_92 : decode cX7_readAt 92 = .ok (.iconst 0, 1) := by decide +kernel
theorem dX7_readAt_93 : decode cX7_readAt 93 = .ok (.ior, 1) := by decide +kernel
theorem dX7_readAt_94 : decode cX7_readAt 94 = .ok (.istore 7, 2) := by decide +kernel
theorem dX7_readAt_96 : decode cX7_readAt 96 = .ok (.iinc 8 1, 3) := by decide +kernel
theorem dX7_readAt_99 : decode cX7_readAt 99 = .ok (.goto (-64), 3) := by decide +kernel
theorem dX7_readAt_102 : decode cX7_readAt 102 = .ok (.iload 6, 2) := by decide +kernel
theorem dX7_readAt_104 : decode cX7_readAt 104 = .ok (.ifCond .eq 27, 3) := by decide +kernel
theorem dX7_readAt_107 : decode cX7_readAt 107 = .ok (.aload_n 0, 1) := by decide +kernel
theorem dX7_readAt_108 : decode cX7_readAt 108 = .ok (.iload_n 1, 1) := by decide +kernel
theorem dX7_readAt_109 : decode cX7_readAt 109 = .ok (.iload_n 2, 1) := by decide +kernel
theorem dX7_readAt_110 : decode cX7_readAt 110 = .ok (.iload 4, 2) := by decide +kernel
theorem dX7_readAt_112 : decode cX7_readAt 112 = .ok (.bipush 8, 2) := by decide +kernel
theorem dX7_readAt_114 : decode cX7_readAt 114 = .ok (.iadd, 1) := by decide +kernel
theorem dX7_readAt_115 : decode cX7_readAt 115 = .ok (.invokevirtual 80, 3) := by decide +kernel
theorem dX7_readAt_118 : decode cX7_readAt 118 = .ok (.iload 7, 2) := by decide +kernel
theorem dX7_readAt_120 : decode cX7_readAt 120 = .ok (.invokestatic 67, 3) := by decide +kernel
theorem dX7_readAt_123 : decode cX7_readAt 123 = .ok (.if_icmp .ne 8, 3) := by decide +kernel
theorem dX7_readAt_126 : decode cX7_readAt 126 = .ok (.iload 7, 2) := by decide +kernel
theorem dX7_readAt_128 : decode cX7_readAt 128 = .ok (.goto 5, 3) := by decide +kernel
theorem dX7_readAt_131 : decode cX7_readAt 131 = .ok (.bipush (-6), 2) := by decide +kernel
theorem dX7_readAt_133 : decode cX7_readAt 133 = .ok (.ireturn, 1) := by decide +kernel
set_option maxRecDepth 20000 in
theorem ggX7_howIs_X7_isLeaderLost : GoodIn wsX7_howIs wsX7_isLeaderLost := goodIn_r _ [5, 6, 7, 8, 4, 9, 10, 11, 12, 13, 14, 15, 16, 17, 18, 19, 20, 21, 22, 23, 24, 25, 26, 27, 28, 29, 30, 54, 55, 56, 57, 58, 59, 60, 61, 62, 63, 64, 65, 66] (by decide +kernel) (by decide +kernel)
set_option maxRecDepth 20000 in
theorem gX7_howIs_X7_isLeaderLost : GoodIn wsX7_howIs (wsV RX7 84 RX7 yX7_isLeaderLost wsX7_isLeaderLost) := goodIn_app (goodIn_of _ (by decide +kernel)) ggX7_howIs_X7_isLeaderLost
set_option maxRecDepth 20000 in
theorem ggX7_howIs_X7_part : GoodIn wsX7_howIs wsX7_part := goodIn_r _ [21, 22, 54, 55, 56, 57, 58, 59, 60, 61, 62, 63, 64, 65, 66] (by decide +kernel) (by decide +kernel)
set_option maxRecDepth 20000 in
theorem gX7_howIs_X7_part : GoodIn wsX7_howIs (wsV RX7 43 RX7 yX7_part wsX7_part) := goodIn_app (goodIn_of _ (by decide +kernel)) ggX7_howIs_X7_part
set_option maxRecDepth 20000 in
theorem ggX7_howIs_X7_readAt : GoodIn wsX7_howIs wsX7_readAt := goodIn_r _ [34, 6, 7, 8, 4, 9, 10, 11, 12, 13, 14, 15, 16, 17, 18, 19, 20, 21, 22, 23, 24, 25, 26, 27, 28, 29, 30, 35, 36, 37, 38, 39, 40, 41, 42, 43, 44, 45, 46, 47, 48, 49, 50, 51, 52, 53, 54, 55, 56, 57, 58, 59, 60, 61, 62, 63, 64, 65, 66] (by decide +kernel) (by decide +kernel)
set_option maxRecDepth 20000 in
theorem gX7_howIs_X7_readAt : GoodIn wsX7_howIs (wsV RX7 88 RX7 yX7_readAt wsX7_readAt) := goodIn_app (goodIn_of _ (by decide +kernel)) ggX7_howIs_X7_readAt
theorem dX7_howIs_0 : decode cX7_howIs 0 = .ok (.aload_n 0, 1) := by decide +kernel
theorem dX7_howIs_1 : decode cX7_howIs 1 = .ok (.iload_n 1, 1) := by decide +kernel
theorem dX7_howIs_2 : decode cX7_howIs 2 = .ok (.iload_n 2, 1) := by decide +kernel
theorem dX7_howIs_3 : decode cX7_howIs 3 = .ok (.invokevirtual 84, 3) := by decide +kernel
theorem dX7_howIs_6 : decode cX7_howIs 6 = .ok (.ifCond .eq 5, 3) := by decide +kernel
theorem dX7_howIs_9 : decode cX7_howIs 9 = .ok (.iconst 1, 1) := by decide +kernel
theorem dX7_howIs_10 : decode cX7_howIs 10 = .ok (.ireturn, 1) := by decide +kernel
theorem dX7_howIs_11 : decode cX7_howIs 11 = .ok (.iconst 0, 1) := by decide +kernel
theorem dX7_howIs_12 : decode cX7_howIs 12 = .ok (.istore_n 3, 1) := by decide +kernel
theorem dX7_howIs_13 : decode cX7_howIs 13 = .ok (.iconst 1, 1) := by decide +kernel
theorem dX7_howIs_14 : decode cX7_howIs 14 = .ok (.istore 4, 2) := by decide +kernel
theorem dX7_howIs_16 : decode cX7_howIs 16 = .ok (.iconst 0, 1) := by decide +kernel
theorem dX7_howIs_17 : decode cX7_howIs 17 = .ok (.istore 5, 2) := by decide +kernel
theorem dX7_howIs_19 : decode cX7_howIs 19 = .ok (.iload 5, 2) := by decide +kernel
theorem dX7_howIs_21 : decode cX7_howIs 21 = .ok (.aload_n 0, 1) := by decide +kernel
theorem dX7_howIs_22 : decode cX7_howIs 22 = .ok (.iload_n 1, 1) := by decide +kernel
theorem dX7_howIs_23 : decode cX7_howIs 23 = .ok (.iconst 2, 1) := by decide +kernel
theorem dX7_howIs_24 : decode cX7_howIs 24 = .ok (.invokevirtual 43, 3) := by decide +kernel
theorem dX7_howIs_27 : decode cX7_howIs 27 = .ok (.if_icmp .ge 43, 3) := by decide +kernel
theorem dX7_howIs_30 : decode cX7_howIs 30 = .ok (.aload_n 0, 1) := by decide +kernel
theorem dX7_howIs_31 : decode cX7_howIs 31 = .ok (.iload_n 1, 1) := by decide +kernel
theorem dX7_howIs_32 : decode cX7_howIs 32 = .ok (.iload_n 2, 1) := by decide +kernel
theorem dX7_howIs_33 : decode cX7_howIs 33 = .ok (.iload 5, 2) := by decide +kernel
theorem dX7_howIs_35 : decode cX7_howIs 35 = .ok (.invokevirtual 88, 3) := by decide +kernel
theorem dX7_howIs_38 : decode cX7_howIs 38 = .ok (.istore 6, 2) := by decide +kernel
theorem dX7_howIs_40 : decode cX7_howIs 40 = .ok (.iload 4, 2) := by decide +kernel
theorem dX7_howIs_42 : decode cX7_howIs 42 = .ok (.ifCond .eq 14, 3) := by decide +kernel
theorem dX7_howIs_45 : decode cX7_howIs 45 = .ok (.iload 6, 2) := by decide +kernel
theorem dX7_howIs_47 : decode cX7_howIs 47 = .ok (.bipush (-6), 2) := by decide +kernel
theorem dX7_howIs_49 : decode cX7_howIs 49 = .ok (.if_icmp .eq 7, 3) := by decide +kernel
theorem dX7_howIs_52 : decode cX7_howIs 52 = .ok (.iconst 1, 1) := by decide +kernel
theorem dX7_howIs_53 : decode cX7_howIs 53 = .ok (.goto 4, 3) := by decide +kernel
theorem dX7_howIs_56 : decode cX7_howIs 56 = .ok (.iconst 0, 1) := by decide +kernel
theorem dX7_howIs_57 : decode cX7_howIs 57 = .ok (.istore 4, 2) := by decide +kernel
theorem dX7_howIs_59 : decode cX7_howIs 59 = .ok (.iload_n 3, 1) := by decide +kernel
theorem dX7_howIs_60 : decode cX7_howIs 60 = .ok (.iload 6, 2) := by decide +kernel
theorem dX7_howIs_62 : decode cX7_howIs 62 = .ok (.iadd, 1) := by decide +kernel
theorem dX7_howIs_63 : decode cX7_howIs 63 = .ok (.istore_n 3, 1) := by decide +kernel
theorem dX7_howIs_64 : decode cX7_howIs 64 = .ok (.iinc 5 1, 3) := by decide +kernel
theorem dX7_howIs_67 : decode cX7_howIs 67 = .ok (.goto (-48), 3) := by decide +kernel
theorem dX7_howIs_70 : decode cX7_howIs 70 = .ok (.iload 4, 2) := by decide +kernel
theorem dX7_howIs_72 : decode cX7_howIs 72 = .ok (.ifCond .ne 7, 3) := by decide +kernel
theorem dX7_howIs_75 : decode cX7_howIs 75 = .ok (.iconst 2, 1) := by decide +kernel
theorem dX7_howIs_76 : decode cX7_howIs 76 = .ok (.goto 28, 3) := by decide +kernel
theorem dX7_howIs_79 : decode cX7_howIs 79 = .ok (.aload_n 0, 1) := by decide +kernel
theorem dX7_howIs_80 : decode cX7_howIs 80 = .ok (.iload_n 1, 1) := by decide +kernel
theorem dX7_howIs_81 : decode cX7_howIs 81 = .ok (.iload_n 2, 1) := by decide +kernel
theorem dX7_howIs_82 : decode cX7_howIs 82 = .ok (.aload_n 0, 1) := by decide +kernel
theorem dX7_howIs_83 : decode cX7_howIs 83 = .ok (.iload_n 1, 1) := by decide +kernel
theorem dX7_howIs_84 : decode cX7_howIs 84 = .ok (.iconst 2, 1) := by decide +kernel
theorem dX7_howIs_85 : decode cX7_howIs 85 = .ok (.invokevirtual 43, 3) := by decide +kernel
theorem dX7_howIs_88 : decode cX7_howIs 88 = .ok (.invokevirtual 88, 3) := by decide +kernel
theorem dX7_howIs_91 : decode cX7_howIs 91 = .ok (.iload_n 3, 1) := by decide +kernel
theorem dX7_howIs_92 : decode cX7_howIs 92 = .ok (.sipush 256, 3) := by decide +kernel
theorem dX7_howIs_95 : decode cX7_howIs 95 = .ok (.irem, 1) := by decide +kernel
theorem dX7_howIs_96 : decode cX7_howIs 96 = .ok (.if_icmp .ne 7, 3) := by decide +kernel
theorem dX7_howIs_99 : decode cX7_howIs 99 = .ok (.iconst 0, 1) := by decide +kernel
theorem dX7_howIs_100 : decode cX7_howIs 100 = .ok (.goto 4, 3) := by decide +kernel
theorem dX7_howIs_103 : decode cX7_howIs 103 = .ok (.iconst 3, 1) := by decide +kernel
theorem dX7_howIs_104 : decode cX7_howIs 104 = .ok (.ireturn, 1) := by decide +kernel
set_option maxRecDepth 20000 in
theorem ggX7_findBy_X7_part : GoodIn wsX7_findBy wsX7_part := goodIn_r _ [6, 7, 51, 52, 53, 54, 55, 56, 57, 58, 59, 60, 61, 62, 63] (by decide +kernel) (by decide +kernel)
set_option maxRecDepth 20000 in
theorem gX7_findBy_X7_part : GoodIn wsX7_findBy (wsV RX7 43 RX7 yX7_part wsX7_part) := goodIn_app (goodIn_of _ (by decide +kernel)) ggX7_findBy_X7_part
set_option maxRecDepth 20000 in
theorem ggX7_findBy_X7_readAt : GoodIn wsX7_findBy wsX7_readAt := goodIn_r _ [11, 12, 13, 14, 5, 15, 16, 17, 18, 19, 20, 21, 22, 23, 2, 3, 4, 6, 7, 24, 25, 26, 27, 28, 29, 30, 31, 32, 33, 34, 35, 36, 37, 38, 39, 40, 41, 42, 43, 44, 45, 46, 47, 48, 49, 50, 51, 52, 53, 54, 55, 56, 57, 58, 59, 60, 61, 62, 63] (by decide +kernel) (by decide +kernel)
set_option maxRecDepth 20000 in
theorem gX7_findBy_X7_readAt : GoodIn wsX7_findBy (wsV RX7 88 RX7 yX7_readAt wsX7_readAt) := goodIn_app (goodIn_of _ (by decide +kernel)) ggX7_findBy_X7_readAt
theorem dX7_findBy_0 : decode cX7_findBy 0 = .ok (.iconst 0, 1) := by decide +kernel
theorem dX7_findBy_1 : decode cX7_findBy 1 = .ok (.istore_n 3, 1) := by decide +kernel
theorem dX7_findBy_2 : decode cX7_findBy 2 = .ok (.iload_n 3, 1) := by decide +kernel
theorem dX7_findBy_3 : decode cX7_findBy 3 = .ok (.aload_n 0, 1) := by decide +kernel
theorem dX7_findBy_4 : decode cX7_findBy 4 = .ok (.iload_n 1, 1) := by decide +kernel
theorem dX7_findBy_5 : decode cX7_findBy 5 = .ok (.iconst 2, 1) := by decide +kernel
theorem dX7_findBy_6 : decode cX7_findBy 6 = .ok (.invokevirtual 43, 3) := by decide +kernel
theorem dX7_findBy_9 : decode cX7_findBy 9 = .ok (.if_icmp .ge 22, 3) := by decide +kernel
theorem dX7_findBy_12 : decode cX7_findBy 12 = .ok (.aload_n 0, 1) := by decide +kernel
theorem dX7_findBy_13 : decode cX7_findBy 13 = .ok (.getfield 25, 3) := by decide +kernel
theorem dX7_findBy_16 : decode cX7_findBy 16 = .ok (.iload_n 3, 1) := by decide +kernel
theorem dX7_findBy_17 : decode cX7_findBy 17 = .ok (.aload_n 0, 1) := by decide +kernel
theorem dX7_findBy_18 : decode cX7_findBy 18 = .ok (.iload_n 1, 1) := by decide +kernel
theorem dX7_findBy_19 : decode cX7_findBy 19 = .ok (.iload_n 2, 1) := by decide +kernel
theorem dX7_findBy_20 : decode cX7_findBy 20 = .ok (.iload_n 3, 1) := by decide +kernel
theorem dX7_findBy_21 : decode cX7_findBy 21 = .ok (.invokevirtual 88, 3) := by decide +kernel
theorem dX7_findBy_24 : decode cX7_findBy 24 = .ok (.iastore, 1) := by decide +kernel
theorem dX7_findBy_25 : decode cX7_findBy 25 = .ok (.iinc 3 1, 3) := by decide +kernel
theorem dX7_findBy_28 : decode cX7_findBy 28 = .ok (.goto (-26), 3) := by decide +kernel
theorem dX7_findBy_31 : decode cX7_findBy 31 = .ok (.return_, 1) := by decide +kernel
set_option maxRecDepth 20000 in
theorem ggX7_findByBoth_X7_isLeaderLost : GoodIn wsX7_findByBoth wsX7_isLeaderLost := goodIn_r _ [6, 7, 8, 9, 5, 10, 11, 12, 13, 14, 15, 16, 17, 18, 19, 20, 21, 22, 23, 24, 25, 26, 27, 28, 29, 30, 31, 55, 56, 57, 58, 59, 60, 61, 62, 63, 64, 65, 66, 67] (by decide +kernel) (by decide +kernel)
set_option maxRecDepth 20000 in
theorem gX7_findByBoth_X7_isLeaderLost : GoodIn wsX7_findByBoth (wsV RX7 84 RX7 yX7_isLeaderLost wsX7_isLeaderLost) := goodIn_app (goodIn_of _ (by decide +kernel)) ggX7_findByBoth_X7_isLeaderLost
set_option maxRecDepth 20000 in
theorem ggX7_findByBoth_X7_part : GoodIn wsX7_findByBoth wsX7_part := goodIn_r _ [22, 23, 55, 56, 57, 58, 59, 60, 61, 62, 63, 64, 65, 66, 67] (by decide +kernel) (by decide +kernel)
set_option maxRecDepth 20000 in
theorem gX7_findByBoth_X7_part : GoodIn wsX7_findByBoth (wsV RX7 43 RX7 yX7_part wsX7_part) := goodIn_app (goodIn_of _ (by decide +kernel)) ggX7_findByBoth_X7_part
set_option maxRecDepth 20000 in
theorem ggX7_findByBoth_X7_readAt : GoodIn wsX7_findByBoth wsX7_readAt := goodIn_r _ [35, 7, 8, 9, 5, 10, 11, 12, 13, 14, 15, 16, 17, 18, 19, 20, 21, 22, 23, 24, 25, 26, 27, 28, 29, 30, 31, 36, 37, 38, 39, 40, 41, 42, 43, 44, 45, 46, 47, 48, 49, 50, 51, 52, 53, 54, 55, 56, 57, 58, 59, 60, 61, 62, 63, 64, 65, 66, 67] (by decide +kernel) (by decide +kernel)
set_option maxRecDepth 20000 in
theorem gX7_findByBoth_X7_readAt : GoodIn wsX7_findByBoth (wsV RX7 88 RX7 yX7_readAt wsX7_readAt) := goodIn_app (goodIn_of _ (by decide +kernel)) ggX7_findByBoth_X7_readAt
theorem dX7_findByBoth_0 : decode cX7_findByBoth 0 = .ok (.iconst 0, 1) := by decide +kernel
theorem dX7_findByBoth_1 : decode cX7_findByBoth 1 = .ok (.istore_n 2, 1) := by decide +kernel
theorem dX7_findByBoth_2 : decode cX7_findByBoth 2 = .ok (.aload_n 0, 1) := by decide +kernel
theorem dX7_findByBoth_3 : decode cX7_findByBoth 3 = .ok (.iload_n 1, 1) := by decide +kernel
theorem dX7_findByBoth_4 : decode cX7_findByBoth 4 = .ok (.iconst 0, 1) := by decide +kernel
theorem dX7_findByBoth_5 : decode cX7_findByBoth 5 = .ok (.invokevirtual 84, 3) := by decide +kernel
theorem dX7_findByBoth_8 : decode cX7_findByBoth 8 = .ok (.ifCond .ne 16, 3) := by decide +kernel
theorem dX7_findByBoth_11 : decode cX7_findByBoth 11 = .ok (.aload_n 0, 1) := by decide +kernel
theorem dX7_findByBoth_12 : decode cX7_findByBoth 12 = .ok (.iload_n 1, 1) := by decide +kernel
theorem dX7_findByBoth_13 : decode cX7_findByBoth 13 = .ok (.iconst 1, 1) := by decide +kernel
theorem dX7_findByBoth_14 : decode cX7_findByBoth 14 = .ok (.invokevirtual 84, 3) := by decide +kernel
theorem dX7_findByBoth_17 : decode cX7_findByBoth 17 = .ok (.ifCond .ne 7, 3) := by decide +kernel
theorem dX7_findByBoth_20 : decode cX7_findByBoth 20 = .ok (.iconst 1, 1) := by decide +kernel
theorem dX7_findByBoth_21 : decode cX7_findByBoth 21 = .ok (.goto 4, 3) := by decide +kernel
theorem dX7_findByBoth_24 : decode cX7_findByBoth 24 = .ok (.iconst 0, 1) := by decide +kernel
theorem dX7_findByBoth_25 : decode cX7_findByBoth 25 = .ok (.istore_n 3, 1) := by decide +kernel
theorem dX7_findByBoth_26 : decode cX7_findByBoth 26 = .ok (.iconst 0, 1) := by decide +kernel
theorem dX7_findByBoth_27 : decode cX7_findByBoth 27 = .ok (.istore 4, 2) := by decide +kernel
theorem dX7_findByBoth_29 : decode cX7_findByBoth 29 = .ok (.iload 4, 2) := by decide +kernel
theorem dX7_findByBoth_31 : decode cX7_findByBoth 31 = .ok (.aload_n 0, 1) := by decide +kernel
theorem dX7_findByBoth_32 : decode cX7_findByBoth 32 = .ok (.iload_n 1, 1) := by decide +kernel
theorem dX7_findByBoth_33 : decode cX7_findByBoth 33 = .ok (.iconst 2, 1) := by decide +kernel
theorem dX7_findByBoth_34 : decode cX7_findByBoth 34 = .ok (.invokevirtual 43, 3) := by decide +kernel
theorem dX7_findByBoth_37 : decode cX7_findByBoth 37 = .ok (.if_icmp .ge 78, 3) := by decide +kernel
theorem dX7_findByBoth_40 : decode cX7_findByBoth 40 = .ok (.aload_n 0, 1) := by decide +kernel
theorem dX7_findByBoth_41 : decode cX7_findByBoth 41 = .ok (.iload_n 1, 1) := by decide +kernel
theorem dX7_findByBoth_42 : decode cX7_findByBoth 42 = .ok (.iconst 0, 1) := by decide +kernel
theorem dX7_findByBoth_43 : decode cX7_findByBoth 43 = .ok (.iload 4, 2) := by decide +kernel
theorem dX7_findByBoth_45 : decode cX7_findByBoth 45 = .ok (.invokevirtual 88, 3) := by decide +kernel
theorem dX7_findByBoth_48 : decode cX7_findByBoth 48 = .ok (.istore 5, 2) := by decide +kernel
theorem dX7_findByBoth_50 : decode cX7_findByBoth 50 = .ok (.aload_n 0, 1) := by decide +kernel
theorem dX7_findByBoth_51 : decode cX7_findByBoth 51 = .ok (.getfield 25, 3) := by decide +kernel
theorem dX7_findByBoth_54 : decode cX7_findByBoth 54 = .ok (.iload 4, 2) := by decide +kernel
theorem dX7_findByBoth_56 : decode cX7_findByBoth 56 = .ok (.iload 5, 2) := by decide +kernel
theorem dX7_findByBoth_58 : decode cX7_findByBoth 58 = .ok (.bipush (-6), 2) := by decide +kernel
theorem dX7_findByBoth_60 : decode cX7_findByBoth 60 = .ok (.if_icmp .ne 14, 3) := by decide +kernel
theorem dX7_findByBoth_63 : decode cX7_findByBoth 63 = .ok (.aload_n 0, 1) := by decide +kernel
theorem dX7_findByBoth_64 : decode cX7_findByBoth 64 = .ok (.iload_n 1, 1) := by decide +kernel
theorem dX7_findByBoth_65 : decode cX7_findByBoth 65 = .ok (.iconst 1, 1) := by decide +kernel
theorem dX7_findByBoth_66 : decode cX7_findByBoth 66 = .ok (.iload 4, 2) := by decide +kernel
theorem dX7_findByBoth_68 : decode cX7_findByBoth 68 = .ok (.invokevirtual 88, 3) := by decide +kernel
theorem dX7_findByBoth_71 : decode cX7_findByBoth 71 = .ok (.goto 5, 3) := by decide +kernel
theorem dX7_findByBoth_74 : decode cX7_findByBoth 74 = .ok (.iload 5, 2) := by decide +kernel
theorem dX7_findByBoth_76 : decode cX7_findByBoth 76 = .ok (.iastore, 1) := by decide +kernel
theorem dX7_findByBoth_77 : decode cX7_findByBoth 77 = .ok (.iload_n 3, 1) := by decide +kernel
theorem dX7_findByBoth_78 : decode cX7_findByBoth 78 = .ok (.ifCond .eq 19, 3) := by decide +kernel
theorem dX7_findByBoth_81 : decode cX7_findByBoth 81 = .ok (.aload_n 0, 1) := by decide +kernel
theorem dX7_findByBoth_82 : decode cX7_findByBoth 82 = .ok (.getfield 25, 3) := by decide +kernel
theorem dX7_findByBoth_85 : decode cX7_findByBoth 85 = .ok (.iload 4, 2) := by decide +kernel
theorem dX7_findByBoth_87 : decode cX7_findByBoth 87 = .ok (.iaload, 1) := by decide +kernel
theorem dX7_findByBoth_88 : decode cX7_findByBoth 88 = .ok (.bipush (-6), 2) := by decide +kernel
theorem dX7_findByBoth_90 : decode cX7_findByBoth 90 = .ok (.if_icmp .eq 7, 3) := by decide +kernel
theorem dX7_findByBoth_93 : decode cX7_findByBoth 93 = .ok (.iconst 1, 1) := by decide +kernel
theorem dX7_findByBoth_94 : decode cX7_findByBoth 94 = .ok (.goto 4, 3) := by decide +kernel
theorem dX7_findByBoth_97 : decode cX7_findByBoth 97 = .ok (.iconst 0, 1) := by decide +kernel
theorem dX7_findByBoth_98 : decode cX7_findByBoth 98 = .ok (.istore_n 3, 1) := by decide +kernel
theorem dX7_findByBoth_99 : decode cX7_findByBoth 99 = .ok (.iload_n 2, 1) := by decide +kernel
theorem dX7_findByBoth_100 : decode cX7_findByBoth 100 = .ok (.aload_n 0, 1) := by decide +kernel
theorem dX7_findByBoth_101 : decode cX7_findByBoth 101 = .ok (.getfield 25, 3) := by decide +kernel
theorem dX7_findByBoth_104 : decode cX7_findByBoth 104 = .ok (.iload 4, 2) := by decide +kernel
theorem dX7_findByBoth_106 : decode cX7_findByBoth 106 = .ok (.iaload, 1) := by decide +kernel
theorem dX7_findByBoth_107 : decode cX7_findByBoth 107 = .ok (.iadd, 1) := by decide +kernel
theorem dX7_findByBoth_108 : decode cX7_findByBoth 108 = .ok (.istore_n 2, 1) := by decide +kernel
theorem dX7_findByBoth_109 : decode cX7_findByBoth 109 = .ok (.iinc 4 1, 3) := by decide +kernel
theorem dX7_findByBoth_112 : decode cX7_findByBoth 112 = .ok (.goto (-83), 3) := by decide +kernel
theorem dX7_findByBoth_115 : decode cX7_findByBoth 115 = .ok (.aload_n 0, 1) := by decide +kernel
theorem dX7_findByBoth_116 : decode cX7_findByBoth 116 = .ok (.iload_n 1, 1) := by decide +kernel
theorem dX7_findByBoth_117 : decode cX7_findByBoth 117 = .ok (.iconst 2, 1) := by decide +kernel
theorem dX7_findByBoth_118 : decode cX7_findByBoth 118 = .ok (.invokevirtual 43, 3) := by decide +kernel
theorem dX7_findByBoth_121 : decode cX7_findByBoth 121 = .ok (.istore 4, 2) := by decide +kernel
theorem dX7_findByBoth_123 : decode cX7_findByBoth 123 = .ok (.iload_n 3, 1) := by decide +kernel
theorem dX7_findByBoth_124 : decode cX7_findByBoth 124 = .ok (.ifCond .eq 39, 3) := by decide +kernel
theorem dX7_findByBoth_127 : decode cX7_findByBoth 127 = .ok (.aload_n 0, 1) := by decide +kernel
theorem dX7_findByBoth_128 : decode cX7_findByBoth 128 = .ok (.iload_n 1, 1) := by decide +kernel
theorem dX7_findByBoth_129 : decode cX7_findByBoth 129 = .ok (.iconst 0, 1) := by decide +kernel
theorem dX7_findByBoth_130 : decode cX7_findByBoth 130 = .ok (.iload 4, 2) := by decide +kernel
theorem dX7_findByBoth_132 : decode cX7_findByBoth 132 = .ok (.invokevirtual 88, 3) := by decide +kernel
theorem dX7_findByBoth_135 : decode cX7_findByBoth 135 = .ok (.iload_n 2, 1) := by decide +kernel
theorem dX7_findByBoth_136 : decode cX7_findByBoth 136 = .ok (.sipush 256, 3) := by decide +kernel
theorem dX7_findByBoth_139 : decode cX7_findByBoth 139 = .ok (.irem, 1) := by decide +kernel
theorem dX7_findByBoth_140 : decode cX7_findByBoth 140 = .ok (.if_icmp .eq 19, 3) := by decide +kernel
theorem dX7_findByBoth_143 : decode cX7_findByBoth 143 = .ok (.aload_n 0, 1) := by decide +kernel
theorem dX7_findByBoth_144 : decode cX7_findByBoth 144 = .ok (.iload_n 1, 1) := by decide +kernel
theorem dX7_findByBoth_145 : decode cX7_findByBoth 145 = .ok (.iconst 1, 1) := by decide +kernel
theorem dX7_findByBoth_146 : decode cX7_findByBoth 146 = .ok (.iload 4, 2) := by decide +kernel
theorem dX7_findByBoth_148 : decode cX7_findByBoth 148 = .ok (.invokevirtual 88, 3) := by decide +kernel
theorem dX7_findByBoth_151 : decode cX7_findByBoth 151 = .ok (.iload_n 2, 1) := by decide +kernel
theorem dX7_findByBoth_152 : decode cX7_findByBoth 152 = .ok (.sipush 256, 3) := by decide +kernel
theorem dX7_findByBoth_155 : decode cX7_findByBoth 155 = .ok (.irem, 1) := by decide +kernel
theorem dX7_findByBoth_156 : decode cX7_findByBoth 156 = .ok (.if_icmp .ne 7, 3) := by decide +kernel
theorem dX7_findByBoth_159 : decode cX7_findByBoth 159 = .ok (.iconst 1, 1) := by decide +kernel
theorem dX7_findByBoth_160 : decode cX7_findByBoth 160 = .ok (.goto 4, 3) := by decide +kernel
theorem dX7_findByBoth_163 : decode cX7_findByBoth 163 = .ok (.iconst 0, 1) := by decide +kernel
theorem dX7_findByBoth_164 : decode cX7_findByBoth 164 = .ok (.ireturn, 1) := by decide +kernel
set_option maxRecDepth 20000 in
theorem ggX7_loadedBy_X7_howIs : GoodIn wsX7_loadedBy wsX7_howIs := goodIn_r _ [5, 6, 7, 8, 4, 9, 10, 11, 12, 13, 14, 15, 16, 17, 18, 19, 20, 21, 22, 23, 24, 25, 26, 27, 28, 29, 30, 31, 32, 33, 34, 35, 36, 37, 38, 39, 40, 41, 42, 43, 44, 45, 46, 47, 48, 49, 50, 51, 52, 53, 54, 55, 56, 57, 67, 68, 69, 70, 71, 72, 73, 74, 75, 76, 77, 78, 79] (by decide +kernel) (by decide +kernel)
set_option maxRecDepth 20000 in
theorem gX7_loadedBy_X7_howIs : GoodIn wsX7_loadedBy (wsV RX7 91 RX7 yX7_howIs wsX7_howIs) := goodIn_app (goodIn_of _ (by decide +kernel)) ggX7_loadedBy_X7_howIs
set_option maxRecDepth 20000 in
theorem ggX7_loadedBy_X7_findBy : GoodIn wsX7_loadedBy wsX7_findBy := goodIn_r _ [61, 62, 22, 23, 24, 4, 25, 26, 35, 36, 37, 38, 10, 11, 12, 13, 14, 15, 16, 17, 18, 19, 20, 21, 27, 28, 29, 30, 31, 32, 33, 34, 39, 40, 41, 42, 43, 44, 45, 46, 47, 48, 49, 50, 51, 52, 53, 54, 55, 56, 57, 67, 68, 69, 70, 71, 72, 73, 74, 75, 76, 77, 78, 79] (by decide +kernel) (by decide +kernel)
set_option maxRecDepth 20000 in
theorem gX7_loadedBy_X7_findBy : GoodIn wsX7_loadedBy (wsV RX7 94 RX7 yX7_findBy wsX7_findBy) := goodIn_app (goodIn_of _ (by decide +kernel)) ggX7_loadedBy_X7_findBy
set_option maxRecDepth 20000 in
theorem ggX7_loadedBy_X7_findByBoth : GoodIn wsX7_loadedBy wsX7_findByBoth := goodIn_r _ [66, 62, 6, 7, 8, 4, 9, 10, 11, 12, 13, 14, 15, 16, 17, 18, 19, 20, 21, 22, 23, 24, 25, 26, 27, 28, 29, 30, 31, 32, 33, 34, 35, 36, 37, 38, 39, 40, 41, 42, 43, 44, 45, 46, 47, 48, 49, 50, 51, 52, 53, 54, 55, 56, 57, 67, 68, 69, 70, 71, 72, 73, 74, 75, 76, 77, 78, 79] (by decide +kernel) (by decide +kernel)
set_option maxRecDepth 20000 in
theorem gX7_loadedBy_X7_findByBoth : GoodIn wsX7_loadedBy (wsV RX7 98 RX7 yX7_findByBoth wsX7_findByBoth) := goodIn_app (goodIn_of _ (by decide +kernel)) ggX7_loadedBy_X7_findByBoth
theorem dX7_loadedBy_0 : decode cX7_loadedBy 0 = .ok (.iconst 0, 1) := by decide +kernel
theorem dX7_loadedBy_1 : decode cX7_loadedBy 1 = .ok (.istore_n 2, 1) := by decide +kernel
theorem dX7_loadedBy_2 : decode cX7_loadedBy 2 = .ok (.iload_n 2, 1) := by decide +kernel
theorem dX7_loadedBy_3 : decode cX7_loadedBy 3 = .ok (.iconst 2, 1) := by decide +kernel
theorem dX7_loadedBy_4 : decode cX7_loadedBy 4 = .ok (.if_icmp .ge 26, 3) := by decide +kernel
theorem dX7_loadedBy_7 : decode cX7_loadedBy 7 = .ok (.aload_n 0, 1) := by decide +kernel
theorem dX7_loadedBy_8 : decode cX7_loadedBy 8 = .ok (.iload_n 1, 1) := by decide +kernel
theorem dX7_loadedBy_9 : decode cX7_loadedBy 9 = .ok (.iload_n 2, 1) := by decide +kernel
theorem dX7_loadedBy_10 : decode cX7_loadedBy 10 = .ok (.invokevirtual 91, 3) := by decide +kernel
theorem dX7_loadedBy_13 : decode cX7_loadedBy 13 = .ok (.ifCond .ne 11, 3) := by decide +kernel
theorem dX7_loadedBy_16 : decode cX7_loadedBy 16 = .ok (.aload_n 0, 1) := by decide +kernel
theorem dX7_loadedBy_17 : decode cX7_loadedBy 17 = .ok (.iload_n 1, 1) := by decide +kernel
theorem dX7_loadedBy_18 : decode cX7_loadedBy 18 = .ok (.iload_n 2, 1) := by decide +kernel
theorem dX7_loadedBy_19 : decode cX7_loadedBy 19 = .ok (.invokevirtual 94, 3) := by decide +kernel
theorem dX7_loadedBy_22 : decode cX7_loadedBy 22 = .ok (.iload_n 2, 1) := by decide +kernel
theorem dX7_loadedBy_23 : decode cX7_loadedBy 23 = .ok (.ireturn, 1) := by decide +kernel
theorem dX7_loadedBy_24 : decode cX7_loadedBy 24 = .ok (.iinc 2 1, 3) := by decide +kernel
theorem dX7_loadedBy_27 : decode cX7_loadedBy 27 = .ok (.goto (-25), 3) := by decide +kernel
theorem dX7_loadedBy_30 : decode cX7_loadedBy 30 = .ok (.aload_n 0, 1) := by decide +kernel
theorem dX7_loadedBy_31 : decode cX7_loadedBy 31 = .ok (.iload_n 1, 1) := by decide +kernel
theorem dX7_loadedBy_32 : decode cX7_loadedBy 32 = .ok (.invokevirtual 98, 3) := by decide +kernel
theorem dX7_loadedBy_35 : decode cX7_loadedBy 35 = .ok (.ifCond .eq 7, 3) := by decide +kernel
theorem dX7_loadedBy_38 : decode cX7_loadedBy 38 = .ok (.iconst 2, 1) := by decide +kernel
theorem dX7_loadedBy_39 : decode cX7_loadedBy 39 = .ok (.goto 5, 3) := by decide +kernel
theorem dX7_loadedBy_42 : decode cX7_loadedBy 42 = .ok (.bipush (-6), 2) := by decide +kernel
theorem dX7_loadedBy_44 : decode cX7_loadedBy 44 = .ok (.ireturn, 1) := by decide +kernel
set_option maxRecDepth 20000 in
theorem ggX7_isValue_X7_within : GoodIn wsX7_isValue wsX7_within := goodIn_r _ [4] (by decide +kernel) (by decide +kernel)
set_option maxRecDepth 20000 in
theorem gX7_isValue_X7_within : GoodIn wsX7_isValue (va_wsS RX7 39 yX7_within wsX7_within) := goodIn_app (goodIn_of _ (by decide +kernel)) ggX7_isValue_X7_within
theorem dX7_isValue_0 : decode cX7_isValue 0 = .ok (.iload_n 0, 1) := by decide +kernel
theorem dX7_isValue_1 : decode cX7_isValue 1 = .ok (.ifCond .eq 8, 3) := by decide +kernel
theorem dX7_isValue_4 : decode cX7_isValue 4 = .ok (.iload_n 0, 1) := by decide +kernel
theorem dX7_isValue_5 : decode cX7_isValue 5 = .ok (.iconst 1, 1) := by decide +kernel
theorem dX7_isValue_6 : decode cX7_isValue 6 = .ok (.if_icmp .ne 13, 3) := by decide +kernel
theorem dX7_isValue_9 : decode cX7_isValue 9 = .ok (.iload_n 1, 1) := by decide +kernel
theorem dX7_isValue_10 : decode cX7_isValue 10 = .ok (.iconst 0, 1) := by decide +kernel
theorem dX7_isValue_11 : decode cX7_isValue 11 = .ok (.bipush 99, 2) := by decide +kernel
theorem dX7_isValue_13 : decode cX7_isValue 13 = .ok (.invokestatic 39, 3) := by decide +kernel
theorem dX7_isValue_16 : decode cX7_isValue 16 = .ok (.goto 23, 3) := by decide +kernel
theorem dX7_isValue_19 : decode cX7_isValue 19 = .ok (.iload_n 0, 1) := by decide +kernel
theorem dX7_isValue_20 : decode cX7_isValue 20 = .ok (.iconst 2, 1) := by decide +kernel
theorem dX7_isValue_21 : decode cX7_isValue 21 = .ok (.if_icmp .ne 17, 3) := by decide +kernel
theorem dX7_isValue_24 : decode cX7_isValue 24 = .ok (.iload_n 1, 1) := by decide +kernel
theorem dX7_isValue_25 : decode cX7_isValue 25 = .ok (.iconst 0, 1) := by decide +kernel
theorem dX7_isValue_26 : decode cX7_isValue 26 = .ok (.bipush 20, 2) := by decide +kernel
theorem dX7_isValue_28 : decode cX7_isValue 28 = .ok (.invokestatic 39, 3) := by decide +kernel
theorem dX7_isValue_31 : decode cX7_isValue 31 = .ok (.ifCond .eq 7, 3) := by decide +kernel
theorem dX7_isValue_34 : decode cX7_isValue 34 = .ok (.iconst 1, 1) := by decide +kernel
theorem dX7_isValue_35 : decode cX7_isValue 35 = .ok (.goto 4, 3) := by decide +kernel
theorem dX7_isValue_38 : decode cX7_isValue 38 = .ok (.iconst 0, 1) := by decide +kernel
theorem dX7_isValue_39 : decode cX7_isValue 39 = .ok (.ireturn, 1) := by decide +kernel
set_option maxRecDepth 20000 in
theorem ggX7_set_X7_isValue : GoodIn wsX7_set wsX7_isValue := goodIn_r _ [5, 6, 7, 4, 8] (by decide +kernel) (by decide +kernel)
set_option maxRecDepth 20000 in
theorem gX7_set_X7_isValue : GoodIn wsX7_set (va_wsS RX7 101 yX7_isValue wsX7_isValue) := goodIn_app (goodIn_of _ (by decide +kernel)) ggX7_set_X7_isValue
set_option maxRecDepth 20000 in
theorem ggX7_set_X7_record : GoodIn wsX7_set wsX7_record := goodIn_r _ [12, 13, 14, 1, 15, 16, 4, 17, 18, 19, 20, 21, 22, 23, 24, 25, 26, 27, 28, 29, 30] (by decide +kernel) (by decide +kernel)
set_option maxRecDepth 20000 in
theorem gX7_set_X7_record : GoodIn wsX7_set (wsV RX7 104 RX7 yX7_record wsX7_record) := goodIn_app (goodIn_of _ (by decide +kernel)) ggX7_set_X7_record
theorem dX7_set_0 : decode cX7_set 0 = .ok (.iload_n 1, 1) := by decide +kernel
theorem dX7_set_1 : decode cX7_set 1 = .ok (.iload_n 2, 1) := by decide +kernel
theorem dX7_set_2 : decode cX7_set 2 = .ok (.invokestatic 101, 3) := by decide +kernel
theorem dX7_set_5 : decode cX7_set 5 = .ok (.ifCond .ne 6, 3) := by decide +kernel
theorem dX7_set_8 : decode cX7_set 8 = .ok (.bipush (-2), 2) := by decide +kernel
theorem dX7_set_10 : decode cX7_set 10 = .ok (.ireturn, 1) := by decide +kernel
theorem dX7_set_11 : decode cX7_set 11 = .ok (.aload_n 0, 1) := by decide +kernel
theorem dX7_set_12 : decode cX7_set 12 = .ok (.invokevirtual 104, 3) := by decide +kernel
theorem dX7_set_15 : decode cX7_set 15 = .ok (.aload_n 0, 1) := by decide +kernel
theorem dX7_set_16 : decode cX7_set 16 = .ok (.getfield 7, 3) := by decide +kernel
theorem dX7_set_19 : decode cX7_set 19 = .ok (.iload_n 1, 1) := by decide +kernel
theorem dX7_set_20 : decode cX7_set 20 = .ok (.iaload, 1) := by decide +kernel
theorem dX7_set_21 : decode cX7_set 21 = .ok (.istore_n 3, 1) := by decide +kernel
theorem dX7_set_22 : decode cX7_set 22 = .ok (.aload_n 0, 1) := by decide +kernel
theorem dX7_set_23 : decode cX7_set 23 = .ok (.getfield 7, 3) := by decide +kernel
theorem dX7_set_26 : decode cX7_set 26 = .ok (.iload_n 1, 1) := by decide +kernel
theorem dX7_set_27 : decode cX7_set 27 = .ok (.iload_n 2, 1) := by decide +kernel
theorem dX7_set_28 : decode cX7_set 28 = .ok (.iastore, 1) := by decide +kernel
theorem dX7_set_29 : decode cX7_set 29 = .ok (.iload_n 3, 1) := by decide +kernel
theorem dX7_set_30 : decode cX7_set 30 = .ok (.ireturn, 1) := by decide +kernel
set_option maxRecDepth 20000 in
theorem ggX7_whyNotWritten_X7_isBlock : GoodIn wsX7_whyNotWritten wsX7_isBlock := goodIn_r _ [6, 1, 7, 8, 5, 9, 10, 11, 12, 13, 14, 15, 16, 17, 18, 19, 20, 21, 22] (by decide +kernel) (by decide +kernel)
set_option maxRecDepth 20000 in
theorem gX7_whyNotWritten_X7_isBlock : GoodIn wsX7_whyNotWritten (wsV RX7 107 RX7 yX7_isBlock wsX7_isBlock) := goodIn_app (goodIn_of _ (by decide +kernel)) ggX7_whyNotWritten_X7_isBlock
set_option maxRecDepth 20000 in
theorem ggX7_whyNotWritten_X7_within : GoodIn wsX7_whyNotWritten wsX7_within := goodIn_r _ [9] (by decide +kernel) (by decide +kernel)
set_option maxRecDepth 20000 in
theorem gX7_whyNotWritten_X7_within : GoodIn wsX7_whyNotWritten (va_wsS RX7 39 yX7_within wsX7_within) := goodIn_app (goodIn_of _ (by decide +kernel)) ggX7_whyNotWritten_X7_within
theorem dX7_whyNotWritten_0 : decode cX7_whyNotWritten 0 = .ok (.aload_n 0, 1) := by decide +kernel
theorem dX7_whyNotWritten_1 : decode cX7_whyNotWritten 1 = .ok (.iload_n 2, 1) := by decide +kernel
theorem dX7_whyNotWritten_2 : decode cX7_whyNotWritten 2 = .ok (.invokevirtual 107, 3) := by decide +kernel
theorem dX7_whyNotWritten_5 : decode cX7_whyNotWritten 5 = .ok (.ifCond .ne 11, 3) := by decide +kernel
theorem dX7_whyNotWritten_8 : decode cX7_whyNotWritten 8 = .ok (.iload_n 2, 1) := by decide +kernel
theorem dX7_whyNotWritten_9 : decode cX7_whyNotWritten 9 = .ok (.bipush (-6), 2) := by decide +kernel
theorem dX7_whyNotWritten_11 : decode cX7_whyNotWritten 11 = .ok (.if_icmp .eq 5, 3) := by decide +kernel
theorem dX7_whyNotWritten_14 : decode cX7_whyNotWritten 14 = .ok (.iconst (-1), 1) := by decide +kernel
theorem dX7_whyNotWritten_15 : decode cX7_whyNotWritten 15 = .ok (.ireturn, 1) := by decide +kernel
theorem dX7_whyNotWritten_16 : decode cX7_whyNotWritten 16 = .ok (.iload_n 1, 1) := by decide +kernel
theorem dX7_whyNotWritten_17 : decode cX7_whyNotWritten 17 = .ok (.iconst 0, 1) := by decide +kernel
theorem dX7_whyNotWritten_18 : decode cX7_whyNotWritten 18 = .ok (.bipush 99, 2) := by decide +kernel
theorem dX7_whyNotWritten_20 : decode cX7_whyNotWritten 20 = .ok (.invokestatic 39, 3) := by decide +kernel
theorem dX7_whyNotWritten_23 : decode cX7_whyNotWritten 23 = .ok (.ifCond .eq 13, 3) := by decide +kernel
theorem dX7_whyNotWritten_26 : decode cX7_whyNotWritten 26 = .ok (.iload_n 3, 1) := by decide +kernel
theorem dX7_whyNotWritten_27 : decode cX7_whyNotWritten 27 = .ok (.iconst 1, 1) := by decide +kernel
theorem dX7_whyNotWritten_28 : decode cX7_whyNotWritten 28 = .ok (.bipush 7, 2) := by decide +kernel
theorem dX7_whyNotWritten_30 : decode cX7_whyNotWritten 30 = .ok (.invokestatic 39, 3) := by decide +kernel
theorem dX7_whyNotWritten_33 : decode cX7_whyNotWritten 33 = .ok (.ifCond .ne 6, 3) := by decide +kernel
theorem dX7_whyNotWritten_36 : decode cX7_whyNotWritten 36 = .ok (.bipush (-2), 2) := by decide +kernel
theorem dX7_whyNotWritten_38 : decode cX7_whyNotWritten 38 = .ok (.ireturn, 1) := by decide +kernel
theorem dX7_whyNotWritten_39 : decode cX7_whyNotWritten 39 = .ok (.aload_n 0, 1) := by decide +kernel
theorem dX7_whyNotWritten_40 : decode cX7_whyNotWritten 40 = .ok (.getfield 7, 3) := by decide +kernel
theorem dX7_whyNotWritten_43 : decode cX7_whyNotWritten 43 = .ok (.iconst 3, 1) := by decide +kernel
theorem dX7_whyNotWritten_44 : decode cX7_whyNotWritten 44 = .ok (.iaload, 1) := by decide +kernel
theorem dX7_whyNotWritten_45 : decode cX7_whyNotWritten 45 = .ok (.bipush 16, 2) := by decide +kernel
theorem dX7_whyNotWritten_47 : decode cX7_whyNotWritten 47 = .ok (.if_icmp .ne 8, 3) := by decide +kernel
theorem dX7_whyNotWritten_50 : decode cX7_whyNotWritten 50 = .ok (.bipush (-4), 2) := by decide +kernel
theorem dX7_whyNotWritten_52 : decode cX7_whyNotWritten 52 = .ok (.goto 4, 3) := by decide +kernel
theorem dX7_whyNotWritten_55 : decode cX7_whyNotWritten 55 = .ok (.iconst 0, 1) := by decide +kernel
theorem dX7_whyNotWritten_56 : decode cX7_whyNotWritten 56 = .ok (.ireturn, 1) := by decide +kernel
set_option maxRecDepth 20000 in
theorem ggX7_writes_X7_firstOf : GoodIn wsX7_writes wsX7_firstOf := goodIn_r _ [7, 8, 9, 10, 6, 11, 12, 13, 14, 15, 16, 17, 18, 19, 1, 20, 21, 22, 23, 24, 25, 26, 27, 28, 29, 30, 31, 32] (by decide +kernel) (by decide +kernel)
set_option maxRecDepth 20000 in
theorem gX7_writes_X7_firstOf : GoodIn wsX7_writes (wsV RX7 54 RX7 yX7_firstOf wsX7_firstOf) := goodIn_app (goodIn_of _ (by decide +kernel)) ggX7_writes_X7_firstOf
set_option maxRecDepth 20000 in
theorem ggX7_writes_X7_cellsOf : GoodIn wsX7_writes wsX7_cellsOf := goodIn_r _ [11, 12, 13, 14, 6, 15, 16, 17, 18, 19, 1, 20, 21, 22, 23, 24, 25, 26, 27, 28, 29, 30, 31, 32] (by decide +kernel) (by decide +kernel)
set_option maxRecDepth 20000 in
theorem gX7_writes_X7_cellsOf : GoodIn wsX7_writes (wsV RX7 51 RX7 yX7_cellsOf wsX7_cellsOf) := goodIn_app (goodIn_of _ (by decide +kernel)) ggX7_writes_X7_cellsOf
theorem dX7_writes_0 : decode cX7_writes 0 = .ok (.aload_n 0, 1) := by decide +kernel
theorem dX7_writes_1 : decode cX7_writes 1 = .ok (.getfield 7, 3) := by decide +kernel
theorem dX7_writes_4 : decode cX7_writes 4 = .ok (.iconst 3, 1) := by decide +kernel
theorem dX7_writes_5 : decode cX7_writes 5 = .ok (.iaload, 1) := by decide +kernel
theorem dX7_writes_6 : decode cX7_writes 6 = .ok (.istore 4, 2) := by decide +kernel
theorem dX7_writes_8 : decode cX7_writes 8 = .ok (.iconst 4, 1) := by decide +kernel
theorem dX7_writes_9 : decode cX7_writes 9 = .ok (.bipush 10, 2) := by decide +kernel
theorem dX7_writes_11 : decode cX7_writes 11 = .ok (.iload 4, 2) := by decide +kernel
theorem dX7_writes_13 : decode cX7_writes 13 = .ok (.imul, 1) := by decide +kernel
theorem dX7_writes_14 : decode cX7_writes 14 = .ok (.iadd, 1) := by decide +kernel
theorem dX7_writes_15 : decode cX7_writes 15 = .ok (.istore 5, 2) := by decide +kernel
theorem dX7_writes_17 : decode cX7_writes 17 = .ok (.aload_n 0, 1) := by decide +kernel
theorem dX7_writes_18 : decode cX7_writes 18 = .ok (.getfield 7, 3) := by decide +kernel
theorem dX7_writes_21 : decode cX7_writes 21 = .ok (.iload 5, 2) := by decide +kernel
theorem dX7_writes_23 : decode cX7_writes 23 = .ok (.iconst 0, 1) := by decide +kernel
theorem dX7_writes_24 : decode cX7_writes 24 = .ok (.iadd, 1) := by decide +kernel
theorem dX7_writes_25 : decode cX7_writes 25 = .ok (.iload_n 1, 1) := by decide +kernel
theorem dX7_writes_26 : decode cX7_writes 26 = .ok (.iastore, 1) := by decide +kernel
theorem dX7_writes_27 : decode cX7_writes 27 = .ok (.aload_n 0, 1) := by decide +kernel
theorem dX7_writes_28 : decode cX7_writes 28 = .ok (.getfield 7, 3) := by decide +kernel
theorem dX7_writes_31 : decode cX7_writes 31 = .ok (.iload 5, 2) := by decide +kernel
theorem dX7_writes_33 : decode cX7_writes 33 = .ok (.iconst 1, 1) := by decide +kernel
theorem dX7_writes_34 : decode cX7_writes 34 = .ok (.iadd, 1) := by decide +kernel
theorem dX7_writes_35 : decode cX7_writes 35 = .ok (.iload_n 2, 1) := by decide +kernel
theorem dX7_writes_36 : decode cX7_writes 36 = .ok (.iastore, 1) := by decide +kernel
theorem dX7_writes_37 : decode cX7_writes 37 = .ok (.aload_n 0, 1) := by decide +kernel
theorem dX7_writes_38 : decode cX7_writes 38 = .ok (.getfield 7, 3) := by decide +kernel
theorem dX7_writes_41 : decode cX7_writes 41 = .ok (.iload 5, 2) := by decide +kernel
theorem dX7_writes_43 : decode cX7_writes 43 = .ok (.iconst 2, 1) := by decide +kernel
theorem dX7_writes_44 : decode cX7_writes 44 = .ok (.iadd, 1) := by decide +kernel
theorem dX7_writes_45 : decode cX7_writes 45 = .ok (.iload_n 3, 1) := by decide +kernel
theorem dX7_writes_46 : decode cX7_writes 46 = .ok (.iastore, 1) := by decide +kernel
theorem dX7_writes_47 : decode cX7_writes 47 = .ok (.iconst 0, 1) := by decide +kernel
theorem dX7_writes_48 : decode cX7_writes 48 = .ok (.istore 6, 2) := by decide +kernel
theorem dX7_writes_50 : decode cX7_writes 50 = .ok (.iload 6, 2) := by decide +kernel
theorem dX7_writes_52 : decode cX7_writes 52 = .ok (.bipush 7, 2) := by decide +kernel
theorem dX7_writes_54 : decode cX7_writes 54 = .ok (.if_icmp .ge 38, 3) := by decide +kernel
theorem dX7_writes_57 : decode cX7_writes 57 = .ok (.aload_n 0, 1) := by decide +kernel
theorem dX7_writes_58 : decode cX7_writes 58 = .ok (.getfield 7, 3) := by decide +kernel
theorem dX7_writes_61 : decode cX7_writes 61 = .ok (.iload 5, 2) := by decide +kernel
theorem dX7_writes_63 : decode cX7_writes 63 = .ok (.iconst 3, 1) := by decide +kernel
theorem dX7_writes_64 : decode cX7_writes 64 = .ok (.iadd, 1) := by decide +kernel
theorem dX7_writes_65 : decode cX7_writes 65 = .ok (.iload 6, 2) := by decide +kernel
theorem dX7_writes_67 : decode cX7_writes 67 = .ok (.iadd, 1) := by decide +kernel
theorem dX7_writes_68 : decode cX7_writes 68 = .ok (.iload 6, 2) := by decide +kernel
theorem dX7_writes_70 : decode cX7_writes 70 = .ok (.iload_n 3, 1) := by decide +kernel
theorem dX7_writes_71 : decode cX7_writes 71 = .ok (.if_icmp .ge 13, 3) := by decide +kernel
theorem dX7_writes_74 : decode cX7_writes 74 = .ok (.aload_n 0, 1) := by decide +kernel
theorem dX7_writes_75 : decode cX7_writes 75 = .ok (.getfield 25, 3) := by decide +kernel
theorem dX7_writes_78 : decode cX7_writes 78 = .ok (.iload 6, 2) := by decide +kernel
theorem dX7_writes_80 : decode cX7_writes 80 = .ok (.iaload, 1) := by decide +kernel
theorem dX7_writes_81 : decode cX7_writes 81 = .ok (.goto 4, 3) := by decide +kernel
theorem dX7_writes_84 : decode cX7_writes 84 = .ok (.iconst 0, 1) := by decide +kernel
theorem dX7_writes_85 : decode cX7_writes 85 = .ok (.iastore, 1) := by decide +kernel
theorem dX7_writes_86 : decode cX7_writes 86 = .ok (.iinc 6 1, 3) := by decide +kernel
theorem dX7_writes_89 : decode cX7_writes 89 = .ok (.goto (-39), 3) := by decide +kernel
theorem dX7_writes_92 : decode cX7_writes 92 = .ok (.aload_n 0, 1) := by decide +kernel
theorem dX7_writes_93 : decode cX7_writes 93 = .ok (.iload 4, 2) := by decide +kernel
theorem dX7_writes_95 : decode cX7_writes 95 = .ok (.invokevirtual 54, 3) := by decide +kernel
theorem dX7_writes_98 : decode cX7_writes 98 = .ok (.istore 6, 2) := by decide +kernel
theorem dX7_writes_100 : decode cX7_writes 100 = .ok (.iconst 0, 1) := by decide +kernel
theorem dX7_writes_101 : decode cX7_writes 101 = .ok (.istore 7, 2) := by decide +kernel
theorem dX7_writes_103 : decode cX7_writes 103 = .ok (.iload 7, 2) := by decide +kernel
theorem dX7_writes_105 : decode cX7_writes 105 = .ok (.aload_n 0, 1) := by decide +kernel
theorem dX7_writes_106 : decode cX7_writes 106 = .ok (.iload 4, 2) := by decide +kernel
theorem dX7_writes_108 : decode cX7_writes 108 = .ok (.invokevirtual 51, 3) := by decide +kernel
theorem dX7_writes_111 : decode cX7_writes 111 = .ok (.if_icmp .ge 29, 3) := by decide +kernel
theorem dX7_writes_114 : decode cX7_writes 114 = .ok (.aload_n 0, 1) := by decide +kernel
theorem dX7_writes_115 : decode cX7_writes 115 = .ok (.getfield 7, 3) := by decide +kernel
theorem dX7_writes_118 : decode cX7_writes 118 = .ok (.sipush 164, 3) := by decide +kernel
theorem dX7_writes_121 : decode cX7_writes 121 = .ok (.iload 6, 2) := by decide +kernel
theorem dX7_writes_123 : decode cX7_writes 123 = .ok (.iadd, 1) := by decide +kernel
theorem dX7_writes_124 : decode cX7_writes 124 = .ok (.iload 7, 2) := by decide +kernel
theorem dX7_writes_126 : decode cX7_writes 126 = .ok (.iadd, 1) := by decide +kernel
theorem dX7_writes_127 : decode cX7_writes 127 = .ok (.aload_n 0, 1) := by decide +kernel
theorem dX7_writes_128 : decode cX7_writes 128 = .ok (.getfield 7, 3) := by decide +kernel
theorem dX7_writes_131 : decode cX7_writes 131 = .ok (.iconst 0, 1) := by decide +kernel
theorem dX7_writes_132 : decode cX7_writes 132 = .ok (.iaload, 1) := by decide +kernel
theorem dX7_writes_133 : decode cX7_writes 133 = .ok (.iastore, 1) := by decide +kernel
theorem dX7_writes_134 : decode cX7_writes 134 = .ok (.iinc 7 1, 3) := by decide +kernel
theorem dX7_writes_137 : decode cX7_writes 137 = .ok (.goto (-34), 3) := by decide +kernel
theorem dX7_writes_140 : decode cX7_writes 140 = .ok (.aload_n 0, 1) := by decide +kernel
theorem dX7_writes_141 : decode cX7_writes 141 = .ok (.getfield 7, 3) := by decide +kernel
theorem dX7_writes_144 : decode cX7_writes 144 = .ok (.iconst 3, 1) := by decide +kernel
theorem dX7_writes_145 : decode cX7_writes 145 = .ok (.dup2, 1) := by decide +kernel
theorem dX7_writes_146 : decode cX7_writes 146 = .ok (.iaload, 1) := by decide +kernel
theorem dX7_writes_147 : decode cX7_writes 147 = .ok (.iconst 1, 1) := by decide +kernel
theorem dX7_writes_148 : decode cX7_writes 148 = .ok (.iadd, 1) := by decide +kernel
theorem dX7_writes_149 : decode cX7_writes 149 = .ok (.iastore, 1) := by decide +kernel
theorem dX7_writes_150 : decode cX7_writes 150 = .ok (.iload 4, 2) := by decide +kernel
theorem dX7_writes_152 : decode cX7_writes 152 = .ok (.ireturn, 1) := by decide +kernel
set_option maxRecDepth 20000 in
theorem ggX7_write_X7_whyNotWritten : GoodIn wsX7_write wsX7_whyNotWritten := goodIn_r _ [7, 8, 9, 10, 11, 6, 12, 13, 14, 15, 45, 46, 47, 48, 49, 50, 51, 52, 53, 54, 55, 56, 57] (by decide +kernel) (by decide +kernel)
set_option maxRecDepth 20000 in
theorem gX7_write_X7_whyNotWritten : GoodIn wsX7_write (wsV RX7 110 RX7 yX7_whyNotWritten wsX7_whyNotWritten) := goodIn_app (goodIn_of _ (by decide +kernel)) ggX7_write_X7_whyNotWritten
set_option maxRecDepth 20000 in
theorem ggX7_write_X7_record : GoodIn wsX7_write wsX7_record := goodIn_r _ [19, 20, 21, 8, 22, 23, 6, 24, 45, 46, 47, 48, 49, 50, 51, 52, 53, 54, 55, 56, 57] (by decide +kernel) (by decide +kernel)
set_option maxRecDepth 20000 in
theorem gX7_write_X7_record : GoodIn wsX7_write (wsV RX7 104 RX7 yX7_record wsX7_record) := goodIn_app (goodIn_of _ (by decide +kernel)) ggX7_write_X7_record
set_option maxRecDepth 20000 in
theorem ggX7_write_X7_writes : GoodIn wsX7_write wsX7_writes := goodIn_r _ [28, 8, 1, 29, 30, 31, 6, 32, 33, 34, 35, 36, 37, 38, 39, 40, 41, 42, 43, 44, 45, 46, 47, 48, 49, 50, 51, 52, 53, 54, 55, 56, 57] (by decide +kernel) (by decide +kernel)
set_option maxRecDepth 20000 in
theorem gX7_write_X7_writes : GoodIn wsX7_write (wsV RX7 115 RX7 yX7_writes wsX7_writes) := goodIn_app (goodIn_of _ (by decide +kernel)) ggX7_write_X7_writes
theorem dX7_write_0 : decode cX7_write 0 = .ok (.aload_n 0, 1) := by decide +kernel
theorem dX7_write_1 : decode cX7_write 1 = .ok (.iload_n 1, 1) := by decide +kernel
theorem dX7_write_2 : decode cX7_write 2 = .ok (.iload_n 2, 1) := by decide +kernel
theorem dX7_write_3 : decode cX7_write 3 = .ok (.iload_n 3, 1) := by decide +kernel
theorem dX7_write_4 : decode cX7_write 4 = .ok (.invokevirtual 110, 3) := by decide +kernel
theorem dX7_write_7 : decode cX7_write 7 = .ok (.istore 6, 2) := by decide +kernel
theorem dX7_write_9 : decode cX7_write 9 = .ok (.iload 6, 2) := by decide +kernel
theorem dX7_write_11 : decode cX7_write 11 = .ok (.ifCond .ge 6, 3) := by decide +kernel
theorem dX7_write_14 : decode cX7_write 14 = .ok (.iload 6, 2) := by decide +kernel
theorem dX7_write_16 : decode cX7_write 16 = .ok (.ireturn, 1) := by decide +kernel
theorem dX7_write_17 : decode cX7_write 17 = .ok (.aload_n 0, 1) := by decide +kernel
theorem dX7_write_18 : decode cX7_write 18 = .ok (.invokevirtual 104, 3) := by decide +kernel
theorem dX7_write_21 : decode cX7_write 21 = .ok (.iconst 0, 1) := by decide +kernel
theorem dX7_write_22 : decode cX7_write 22 = .ok (.istore 7, 2) := by decide +kernel
theorem dX7_write_24 : decode cX7_write 24 = .ok (.iload 7, 2) := by decide +kernel
theorem dX7_write_26 : decode cX7_write 26 = .ok (.iload_n 3, 1) := by decide +kernel
theorem dX7_write_27 : decode cX7_write 27 = .ok (.if_icmp .ge 29, 3) := by decide +kernel
theorem dX7_write_30 : decode cX7_write 30 = .ok (.aload_n 0, 1) := by decide +kernel
theorem dX7_write_31 : decode cX7_write 31 = .ok (.getfield 25, 3) := by decide +kernel
theorem dX7_write_34 : decode cX7_write 34 = .ok (.iload 7, 2) := by decide +kernel
theorem dX7_write_36 : decode cX7_write 36 = .ok (.lload 4, 2) := by decide +kernel
theorem dX7_write_38 : decode cX7_write 38 = .ok (.bipush 8, 2) := by decide +kernel
theorem dX7_write_40 : decode cX7_write 40 = .ok (.iload 7, 2) := by decide +kernel
theorem dX7_write_42 : decode cX7_write 42 = .ok (.imul, 1) := by decide +kernel
theorem dX7_write_43 : decode cX7_write 43 = .ok (.lshr, 1) := by decide +kernel
theorem dX7_write_44 : decode cX7_write 44 = .ok (.ldc2_w 113, 3) := by decide +kernel
theorem dX7_write_47 : decode cX7_write 47 = .ok (.land, 1) := by decide +kernel
theorem dX7_write_48 : decode cX7_write 48 = .ok (.l2i, 1) := by decide +kernel
theorem dX7_write_49 : decode cX7_write 49 = .ok (.iastore, 1) := by decide +kernel
theorem dX7_write_50 : decode cX7_write 50 = .ok (.iinc 7 1, 3) := by decide +kernel
theorem dX7_write_53 : decode cX7_write 53 = .ok (.goto (-29), 3) := by decide +kernel
theorem dX7_write_56 : decode cX7_write 56 = .ok (.aload_n 0, 1) := by decide +kernel
theorem dX7_write_57 : decode cX7_write 57 = .ok (.iload_n 1, 1) := by decide +kernel
theorem dX7_write_58 : decode cX7_write 58 = .ok (.iload_n 2, 1) := by decide +kernel
theorem dX7_write_59 : decode cX7_write 59 = .ok (.iload_n 3, 1) := by decide +kernel
theorem dX7_write_60 : decode cX7_write 60 = .ok (.invokevirtual 115, 3) := by decide +kernel
theorem dX7_write_63 : decode cX7_write 63 = .ok (.ireturn, 1) := by decide +kernel
set_option maxRecDepth 20000 in
theorem ggX7_wipeLast_X7_record : GoodIn wsX7_wipeLast wsX7_record := goodIn_r _ [6, 7, 8, 1, 9, 10, 5, 11, 12, 13, 14, 15, 16, 17, 18, 19, 20, 21, 22, 23, 24] (by decide +kernel) (by decide +kernel)
set_option maxRecDepth 20000 in
theorem gX7_wipeLast_X7_record : GoodIn wsX7_wipeLast (wsV RX7 104 RX7 yX7_record wsX7_record) := goodIn_app (goodIn_of _ (by decide +kernel)) ggX7_wipeLast_X7_record
theorem dX7_wipeLast_0 : decode cX7_wipeLast 0 = .ok (.aload_n 0, 1) := by decide +kernel
theorem dX7_wipeLast_1 : decode cX7_wipeLast 1 = .ok (.getfield 7, 3) := by decide +kernel
theorem dX7_wipeLast_4 : decode cX7_wipeLast 4 = .ok (.iconst 3, 1) := by decide +kernel
theorem dX7_wipeLast_5 : decode cX7_wipeLast 5 = .ok (.iaload, 1) := by decide +kernel
theorem dX7_wipeLast_6 : decode cX7_wipeLast 6 = .ok (.ifCond .ne 6, 3) := by decide +kernel
theorem dX7_wipeLast_9 : decode cX7_wipeLast 9 = .ok (.bipush (-5), 2) := by decide +kernel
theorem dX7_wipeLast_11 : decode cX7_wipeLast 11 = .ok (.ireturn, 1) := by decide +kernel
theorem dX7_wipeLast_12 : decode cX7_wipeLast 12 = .ok (.aload_n 0, 1) := by decide +kernel
theorem dX7_wipeLast_13 : decode cX7_wipeLast 13 = .ok (.invokevirtual 104, 3) := by decide +kernel
theorem dX7_wipeLast_16 : decode cX7_wipeLast 16 = .ok (.aload_n 0, 1) := by decide +kernel
theorem dX7_wipeLast_17 : decode cX7_wipeLast 17 = .ok (.getfield 7, 3) := by decide +kernel
theorem dX7_wipeLast_20 : decode cX7_wipeLast 20 = .ok (.iconst 3, 1) := by decide +kernel
theorem dX7_wipeLast_21 : decode cX7_wipeLast 21 = .ok (.dup2, 1) := by decide +kernel
theorem dX7_wipeLast_22 : decode cX7_wipeLast 22 = .ok (.iaload, 1) := by decide +kernel
theorem dX7_wipeLast_23 : decode cX7_wipeLast 23 = .ok (.iconst 1, 1) := by decide +kernel
theorem dX7_wipeLast_24 : decode cX7_wipeLast 24 = .ok (.isub, 1) := by decide +kernel
theorem dX7_wipeLast_25 : decode cX7_wipeLast 25 = .ok (.iastore, 1) := by decide +kernel
theorem dX7_wipeLast_26 : decode cX7_wipeLast 26 = .ok (.aload_n 0, 1) := by decide +kernel
theorem dX7_wipeLast_27 : decode cX7_wipeLast 27 = .ok (.getfield 7, 3) := by decide +kernel
theorem dX7_wipeLast_30 : decode cX7_wipeLast 30 = .ok (.iconst 3, 1) := by decide +kernel
theorem dX7_wipeLast_31 : decode cX7_wipeLast 31 = .ok (.iaload, 1) := by decide +kernel
theorem dX7_wipeLast_32 : decode cX7_wipeLast 32 = .ok (.ireturn, 1) := by decide +kernel
set_option maxRecDepth 20000 in
theorem ggX7_whyNotFaded_X7_isCell : GoodIn wsX7_whyNotFaded wsX7_isCell := goodIn_r _ [5, 6, 7, 8, 4, 9, 10, 11, 12, 13, 14, 15, 16, 17, 18, 19, 20, 21, 22, 23, 24, 25, 26, 27, 28, 29, 30, 31, 32, 33, 34, 35, 36, 37, 38, 39, 40, 41, 42] (by decide +kernel) (by decide +kernel)
set_option maxRecDepth 20000 in
theorem gX7_whyNotFaded_X7_isCell : GoodIn wsX7_whyNotFaded (wsV RX7 118 RX7 yX7_isCell wsX7_isCell) := goodIn_app (goodIn_of _ (by decide +kernel)) ggX7_whyNotFaded_X7_isCell
set_option maxRecDepth 20000 in
theorem ggX7_whyNotFaded_X7_within : GoodIn wsX7_whyNotFaded wsX7_within := goodIn_r _ [29] (by decide +kernel) (by decide +kernel)
set_option maxRecDepth 20000 in
theorem gX7_whyNotFaded_X7_within : GoodIn wsX7_whyNotFaded (va_wsS RX7 39 yX7_within wsX7_within) := goodIn_app (goodIn_of _ (by decide +kernel)) ggX7_whyNotFaded_X7_within
theorem dX7_whyNotFaded_0 : decode cX7_whyNotFaded 0 = .ok (.aload_n 0, 1) := by decide +kernel
theorem dX7_whyNotFaded_1 : decode cX7_whyNotFaded 1 = .ok (.iload_n 1, 1) := by decide +kernel
theorem dX7_whyNotFaded_2 : decode cX7_whyNotFaded 2 = .ok (.invokevirtual 118, 3) := by decide +kernel
theorem dX7_whyNotFaded_5 : decode cX7_whyNotFaded 5 = .ok (.ifCond .eq 11, 3) := by decide +kernel
theorem dX7_whyNotFaded_8 : decode cX7_whyNotFaded 8 = .ok (.aload_n 0, 1) := by decide +kernel
theorem dX7_whyNotFaded_9 : decode cX7_whyNotFaded 9 = .ok (.iload_n 2, 1) := by decide +kernel
theorem dX7_whyNotFaded_10 : decode cX7_whyNotFaded 10 = .ok (.invokevirtual 118, 3) := by decide +kernel
theorem dX7_whyNotFaded_13 : decode cX7_whyNotFaded 13 = .ok (.ifCond .ne 5, 3) := by decide +kernel
theorem dX7_whyNotFaded_16 : decode cX7_whyNotFaded 16 = .ok (.iconst (-1), 1) := by decide +kernel
theorem dX7_whyNotFaded_17 : decode cX7_whyNotFaded 17 = .ok (.ireturn, 1) := by decide +kernel
theorem dX7_whyNotFaded_18 : decode cX7_whyNotFaded 18 = .ok (.iload_n 2, 1) := by decide +kernel
theorem dX7_whyNotFaded_19 : decode cX7_whyNotFaded 19 = .ok (.iload_n 1, 1) := by decide +kernel
theorem dX7_whyNotFaded_20 : decode cX7_whyNotFaded 20 = .ok (.if_icmp .lt 13, 3) := by decide +kernel
theorem dX7_whyNotFaded_23 : decode cX7_whyNotFaded 23 = .ok (.iload_n 3, 1) := by decide +kernel
theorem dX7_whyNotFaded_24 : decode cX7_whyNotFaded 24 = .ok (.iconst 0, 1) := by decide +kernel
theorem dX7_whyNotFaded_25 : decode cX7_whyNotFaded 25 = .ok (.bipush 99, 2) := by decide +kernel
theorem dX7_whyNotFaded_27 : decode cX7_whyNotFaded 27 = .ok (.invokestatic 39, 3) := by decide +kernel
theorem dX7_whyNotFaded_30 : decode cX7_whyNotFaded 30 = .ok (.ifCond .ne 8, 3) := by decide +kernel
theorem dX7_whyNotFaded_33 : decode cX7_whyNotFaded 33 = .ok (.bipush (-2), 2) := by decide +kernel
theorem dX7_whyNotFaded_35 : decode cX7_whyNotFaded 35 = .ok (.goto 4, 3) := by decide +kernel
theorem dX7_whyNotFaded_38 : decode cX7_whyNotFaded 38 = .ok (.iconst 0, 1) := by decide +kernel
theorem dX7_whyNotFaded_39 : decode cX7_whyNotFaded 39 = .ok (.ireturn, 1) := by decide +kernel
set_option maxRecDepth 20000 in
theorem ggX7_fades_X7_volumeOf : GoodIn wsX7_fades wsX7_volumeOf := goodIn_r _ [6, 1, 11, 12, 13, 14, 15, 16, 17, 18, 19, 20, 21, 22, 23] (by decide +kernel) (by decide +kernel)
set_option maxRecDepth 20000 in
theorem gX7_fades_X7_volumeOf : GoodIn wsX7_fades (wsV RX7 73 RX7 yX7_volumeOf wsX7_volumeOf) := goodIn_app (goodIn_of _ (by decide +kernel)) ggX7_fades_X7_volumeOf
set_option maxRecDepth 20000 in
theorem ggX7_fades_X7_badness : GoodIn wsX7_fades wsX7_badness := goodIn_r _ [10, 1, 11, 12, 13, 14, 15, 16, 17, 18, 19, 20, 21, 22, 23] (by decide +kernel) (by decide +kernel)
set_option maxRecDepth 20000 in
theorem gX7_fades_X7_badness : GoodIn wsX7_fades (wsV RX7 70 RX7 yX7_badness wsX7_badness) := goodIn_app (goodIn_of _ (by decide +kernel)) ggX7_fades_X7_badness
theorem dX7_fades_0 : decode cX7_fades 0 = .ok (.iconst 0, 1) := by decide +kernel
theorem dX7_fades_1 : decode cX7_fades 1 = .ok (.istore 4, 2) := by decide +kernel
theorem dX7_fades_3 : decode cX7_fades 3 = .ok (.iload_n 1, 1) := by decide +kernel
theorem dX7_fades_4 : decode cX7_fades 4 = .ok (.istore 5, 2) := by decide +kernel
theorem dX7_fades_6 : decode cX7_fades 6 = .ok (.iload 5, 2) := by decide +kernel
theorem dX7_fades_8 : decode cX7_fades 8 = .ok (.iload_n 2, 1) := by decide +kernel
theorem dX7_fades_9 : decode cX7_fades 9 = .ok (.if_icmp .gt 83, 3) := by decide +kernel
theorem dX7_fades_12 : decode cX7_fades 12 = .ok (.aload_n 0, 1) := by decide +kernel
theorem dX7_fades_13 : decode cX7_fades 13 = .ok (.iload 5, 2) := by decide +kernel
theorem dX7_fades_15 : decode cX7_fades 15 = .ok (.invokevirtual 73, 3) := by decide +kernel
theorem dX7_fades_18 : decode cX7_fades 18 = .ok (.iload_n 3, 1) := by decide +kernel
theorem dX7_fades_19 : decode cX7_fades 19 = .ok (.if_icmp .le 7, 3) := by decide +kernel
theorem dX7_fades_22 : decode cX7_fades 22 = .ok (.iconst 1, 1) := by decide +kernel
theorem dX7_fades_23 : decode cX7_fades 23 = .ok (.goto 4, 3) := by decide +kernel
theorem dX7_fades_26 : decode cX7_fades 26 = .ok (.iconst 0, 1) := by decide +kernel
theorem dX7_fades_27 : decode cX7_fades 27 = .ok (.istore 6, 2) := by decide +kernel
theorem dX7_fades_29 : decode cX7_fades 29 = .ok (.iload 4, 2) := by decide +kernel
theorem dX7_fades_31 : decode cX7_fades 31 = .ok (.iload 6, 2) := by decide +kernel
theorem dX7_fades_33 : decode cX7_fades 33 = .ok (.ifCond .eq 7, 3) := by decide +kernel
theorem dX7_fades_36 : decode cX7_fades 36 = .ok (.iconst 1, 1) := by decide +kernel
theorem dX7_fades_37 : decode cX7_fades 37 = .ok (.goto 4, 3) := by decide +kernel
theorem dX7_fades_40 : decode cX7_fades 40 = .ok (.iconst 0, 1) := by decide +kernel
theorem dX7_fades_41 : decode cX7_fades 41 = .ok (.iadd, 1) := by decide +kernel
theorem dX7_fades_42 : decode cX7_fades 42 = .ok (.istore 4, 2) := by decide +kernel
theorem dX7_fades_44 : decode cX7_fades 44 = .ok (.aload_n 0, 1) := by decide +kernel
theorem dX7_fades_45 : decode cX7_fades 45 = .ok (.getfield 7, 3) := by decide +kernel
theorem dX7_fades_48 : decode cX7_fades 48 = .ok (.sipush 164, 3) := by decide +kernel
theorem dX7_fades_51 : decode cX7_fades 51 = .ok (.iload 5, 2) := by decide +kernel
theorem dX7_fades_53 : decode cX7_fades 53 = .ok (.iadd, 1) := by decide +kernel
theorem dX7_fades_54 : decode cX7_fades 54 = .ok (.iload 6, 2) := by decide +kernel
theorem dX7_fades_56 : decode cX7_fades 56 = .ok (.ifCond .eq 18, 3) := by decide +kernel
theorem dX7_fades_59 : decode cX7_fades 59 = .ok (.iload_n 3, 1) := by decide +kernel
theorem dX7_fades_60 : decode cX7_fades 60 = .ok (.sipush 128, 3) := by decide +kernel
theorem dX7_fades_63 : decode cX7_fades 63 = .ok (.aload_n 0, 1) := by decide +kernel
theorem dX7_fades_64 : decode cX7_fades 64 = .ok (.iload 5, 2) := by decide +kernel
theorem dX7_fades_66 : decode cX7_fades 66 = .ok (.invokevirtual 70, 3) := by decide +kernel
theorem dX7_fades_69 : decode cX7_fades 69 = .ok (.imul, 1) := by decide +kernel
theorem dX7_fades_70 : decode cX7_fades 70 = .ok (.iadd, 1) := by decide +kernel
theorem dX7_fades_71 : decode cX7_fades 71 = .ok (.goto 14, 3) := by decide +kernel
theorem dX7_fades_74 : decode cX7_fades 74 = .ok (.aload_n 0, 1) := by decide +kernel
theorem dX7_fades_75 : decode cX7_fades 75 = .ok (.getfield 7, 3) := by decide +kernel
theorem dX7_fades_78 : decode cX7_fades 78 = .ok (.sipush 164, 3) := by decide +kernel
theorem dX7_fades_81 : decode cX7_fades 81 = .ok (.iload 5, 2) := by decide +kernel
theorem dX7_fades_83 : decode cX7_fades 83 = .ok (.iadd, 1) := by decide +kernel
theorem dX7_fades_84 : decode cX7_fades 84 = .ok (.iaload, 1) := by decide +kernel
theorem dX7_fades_85 : decode cX7_fades 85 = .ok (.iastore, 1) := by decide +kernel
theorem dX7_fades_86 : decode cX7_fades 86 = .ok (.iinc 5 1, 3) := by decide +kernel
theorem dX7_fades_89 : decode cX7_fades 89 = .ok (.goto (-83), 3) := by decide +kernel
theorem dX7_fades_92 : decode cX7_fades 92 = .ok (.iload 4, 2) := by decide +kernel
theorem dX7_fades_94 : decode cX7_fades 94 = .ok (.ireturn, 1) := by decide +kernel
set_option maxRecDepth 20000 in
theorem ggX7_fade_X7_whyNotFaded : GoodIn wsX7_fade wsX7_whyNotFaded := goodIn_r _ [5, 6, 7, 8, 4, 9, 10, 11, 12, 13, 14, 15, 16, 17, 18, 19, 20, 21, 22, 23, 24, 25, 26, 27, 28, 29, 30, 31, 32, 33, 55, 56, 57, 58, 59, 60, 61, 62, 63, 64, 65, 66, 67] (by decide +kernel) (by decide +kernel)
set_option maxRecDepth 20000 in
theorem gX7_fade_X7_whyNotFaded : GoodIn wsX7_fade (wsV RX7 121 RX7 yX7_whyNotFaded wsX7_whyNotFaded) := goodIn_app (goodIn_of _ (by decide +kernel)) ggX7_fade_X7_whyNotFaded
set_option maxRecDepth 20000 in
theorem ggX7_fade_X7_record : GoodIn wsX7_fade wsX7_record := goodIn_r _ [37, 38, 39, 14, 40, 41, 4, 42, 55, 56, 57, 58, 59, 60, 61, 62, 63, 64, 65, 66, 67] (by decide +kernel) (by decide +kernel)
set_option maxRecDepth 20000 in
theorem gX7_fade_X7_record : GoodIn wsX7_fade (wsV RX7 104 RX7 yX7_record wsX7_record) := goodIn_app (goodIn_of _ (by decide +kernel)) ggX7_fade_X7_record
set_option maxRecDepth 20000 in
theorem ggX7_fade_X7_fades : GoodIn wsX7_fade wsX7_fades := goodIn_r _ [46, 14, 47, 48, 49, 4, 50, 51, 52, 53, 54, 55, 56, 57, 58, 59, 60, 61, 62, 63, 64, 65, 66, 67] (by decide +kernel) (by decide +kernel)
set_option maxRecDepth 20000 in
theorem gX7_fade_X7_fades : GoodIn wsX7_fade (wsV RX7 124 RX7 yX7_fades wsX7_fades) := goodIn_app (goodIn_of _ (by decide +kernel)) ggX7_fade_X7_fades
theorem dX7_fade_0 : decode cX7_fade 0 = .ok (.aload_n 0, 1) := by decide +kernel
theorem dX7_fade_1 : decode cX7_fade 1 = .ok (.iload_n 1, 1) := by decide +kernel
theorem dX7_fade_2 : decode cX7_fade 2 = .ok (.iload_n 2, 1) := by decide +kernel
theorem dX7_fade_3 : decode cX7_fade 3 = .ok (.iload_n 3, 1) := by decide +kernel
theorem dX7_fade_4 : decode cX7_fade 4 = .ok (.invokevirtual 121, 3) := by decide +kernel
theorem dX7_fade_7 : decode cX7_fade 7 = .ok (.istore 4, 2) := by decide +kernel
theorem dX7_fade_9 : decode cX7_fade 9 = .ok (.iload 4, 2) := by decide +kernel
theorem dX7_fade_11 : decode cX7_fade 11 = .ok (.ifCond .ge 6, 3) := by decide +kernel
theorem dX7_fade_14 : decode cX7_fade 14 = .ok (.iload 4, 2) := by decide +kernel
theorem dX7_fade_16 : decode cX7_fade 16 = .ok (.ireturn, 1) := by decide +kernel
theorem dX7_fade_17 : decode cX7_fade 17 = .ok (.aload_n 0, 1) := by decide +kernel
theorem dX7_fade_18 : decode cX7_fade 18 = .ok (.invokevirtual 104, 3) := by decide +kernel
theorem dX7_fade_21 : decode cX7_fade 21 = .ok (.aload_n 0, 1) := by decide +kernel
theorem dX7_fade_22 : decode cX7_fade 22 = .ok (.iload_n 1, 1) := by decide +kernel
theorem dX7_fade_23 : decode cX7_fade 23 = .ok (.iload_n 2, 1) := by decide +kernel
theorem dX7_fade_24 : decode cX7_fade 24 = .ok (.iload_n 3, 1) := by decide +kernel
theorem dX7_fade_25 : decode cX7_fade 25 = .ok (.invokevirtual 124, 3) := by decide +kernel
theorem dX7_fade_28 : decode cX7_fade 28 = .ok (.ireturn, 1) := by decide +kernel
set_option maxRecDepth 20000 in
theorem ggX7_turns_X7_badness : GoodIn wsX7_turns wsX7_badness := goodIn_r _ [6, 1, 7, 8, 9, 10, 11, 12, 13, 14, 15, 16, 17, 18, 19] (by decide +kernel) (by decide +kernel)
set_option maxRecDepth 20000 in
theorem gX7_turns_X7_badness : GoodIn wsX7_turns (wsV RX7 70 RX7 yX7_badness wsX7_badness) := goodIn_app (goodIn_of _ (by decide +kernel)) ggX7_turns_X7_badness
theorem dX7_turns_0 : decode cX7_turns 0 = .ok (.aload_n 0, 1) := by decide +kernel
theorem dX7_turns_1 : decode cX7_turns 1 = .ok (.getfield 7, 3) := by decide +kernel
theorem dX7_turns_4 : decode cX7_turns 4 = .ok (.sipush 164, 3) := by decide +kernel
theorem dX7_turns_7 : decode cX7_turns 7 = .ok (.iload_n 1, 1) := by decide +kernel
theorem dX7_turns_8 : decode cX7_turns 8 = .ok (.iadd, 1) := by decide +kernel
theorem dX7_turns_9 : decode cX7_turns 9 = .ok (.dup2, 1) := by decide +kernel
theorem dX7_turns_10 : decode cX7_turns 10 = .ok (.iaload, 1) := by decide +kernel
theorem dX7_turns_11 : decode cX7_turns 11 = .ok (.aload_n 0, 1) := by decide +kernel
theorem dX7_turns_12 : decode cX7_turns 12 = .ok (.iload_n 1, 1) := by decide +kernel
theorem dX7_turns_13 : decode cX7_turns 13 = .ok (.invokevirtual 70, 3) := by decide +kernel
theorem dX7_turns_16 : decode cX7_turns 16 = .ok (.iconst 1, 1) := by decide +kernel
theorem dX7_turns_17 : decode cX7_turns 17 = .ok (.if_icmp .ne 8, 3) := by decide +kernel
theorem dX7_turns_20 : decode cX7_turns 20 = .ok (.bipush (-128), 2) := by decide +kernel
theorem dX7_turns_22 : decode cX7_turns 22 = .ok (.goto 6, 3) := by decide +kernel
theorem dX7_turns_25 : decode cX7_turns 25 = .ok (.sipush 128, 3) := by decide +kernel
theorem dX7_turns_28 : decode cX7_turns 28 = .ok (.iadd, 1) := by decide +kernel
theorem dX7_turns_29 : decode cX7_turns 29 = .ok (.iastore, 1) := by decide +kernel
theorem dX7_turns_30 : decode cX7_turns 30 = .ok (.aload_n 0, 1) := by decide +kernel
theorem dX7_turns_31 : decode cX7_turns 31 = .ok (.iload_n 1, 1) := by decide +kernel
theorem dX7_turns_32 : decode cX7_turns 32 = .ok (.invokevirtual 70, 3) := by decide +kernel
theorem dX7_turns_35 : decode cX7_turns 35 = .ok (.ireturn, 1) := by decide +kernel
set_option maxRecDepth 20000 in
theorem ggX7_spoil_X7_isCell : GoodIn wsX7_spoil wsX7_isCell := goodIn_r _ [5, 6, 7, 8, 4, 9, 10, 11, 12, 13, 14, 15, 16, 17, 18, 19, 20, 21, 22, 23, 24, 25, 26, 27, 28, 29, 47, 48, 49, 50, 51, 52, 53, 54, 55, 56, 57, 58, 59] (by decide +kernel) (by decide +kernel)
set_option maxRecDepth 20000 in
theorem gX7_spoil_X7_isCell : GoodIn wsX7_spoil (wsV RX7 118 RX7 yX7_isCell wsX7_isCell) := goodIn_app (goodIn_of _ (by decide +kernel)) ggX7_spoil_X7_isCell
set_option maxRecDepth 20000 in
theorem ggX7_spoil_X7_record : GoodIn wsX7_spoil wsX7_record := goodIn_r _ [33, 34, 35, 10, 36, 37, 4, 38, 47, 48, 49, 50, 51, 52, 53, 54, 55, 56, 57, 58, 59] (by decide +kernel) (by decide +kernel)
set_option maxRecDepth 20000 in
theorem gX7_spoil_X7_record : GoodIn wsX7_spoil (wsV RX7 104 RX7 yX7_record wsX7_record) := goodIn_app (goodIn_of _ (by decide +kernel)) ggX7_spoil_X7_record
set_option maxRecDepth 20000 in
theorem ggX7_spoil_X7_turns : GoodIn wsX7_spoil wsX7_turns := goodIn_r _ [42, 10, 43, 44, 45, 4, 46, 47, 48, 49, 50, 51, 52, 53, 54, 55, 56, 57, 58, 59] (by decide +kernel) (by decide +kernel)
set_option maxRecDepth 20000 in
theorem gX7_spoil_X7_turns : GoodIn wsX7_spoil (wsV RX7 127 RX7 yX7_turns wsX7_turns) := goodIn_app (goodIn_of _ (by decide +kernel)) ggX7_spoil_X7_turns
theorem dX7_spoil_0 : decode cX7_spoil 0 = .ok (.aload_n 0, 1) := by decide +kernel
theorem dX7_spoil_1 : decode cX7_spoil 1 = .ok (.iload_n 1, 1) := by decide +kernel
theorem dX7_spoil_2 : decode cX7_spoil 2 = .ok (.invokevirtual 118, 3) := by decide +kernel
theorem dX7_spoil_5 : decode cX7_spoil 5 = .ok (.ifCond .ne 5, 3) := by decide +kernel
theorem dX7_spoil_8 : decode cX7_spoil 8 = .ok (.iconst (-1), 1) := by decide +kernel
theorem dX7_spoil_9 : decode cX7_spoil 9 = .ok (.ireturn, 1) := by decide +kernel
theorem dX7_spoil_10 : decode cX7_spoil 10 = .ok (.aload_n 0, 1) := by decide +kernel
theorem dX7_spoil_11 : decode cX7_spoil 11 = .ok (.invokevirtual 104, 3) := by decide +kernel
theorem dX7_spoil_14 : decode cX7_spoil 14 = .ok (.aload_n 0, 1) := by decide +kernel
theorem dX7_spoil_15 : decode cX7_spoil 15 = .ok (.iload_n 1, 1) := by decide +kernel
theorem dX7_spoil_16 : decode cX7_spoil 16 = .ok (.invokevirtual 127, 3) := by decide +kernel
theorem dX7_spoil_19 : decode cX7_spoil 19 = .ok (.ireturn, 1) := by decide +kernel
set_option maxRecDepth 20000 in
theorem ggX7_depthOf_X7_part : GoodIn wsX7_depthOf wsX7_part := goodIn_r _ [5, 6, 7, 8, 9, 10, 11, 12, 13, 14, 15, 16, 17, 18, 19] (by decide +kernel) (by decide +kernel)
set_option maxRecDepth 20000 in
theorem gX7_depthOf_X7_part : GoodIn wsX7_depthOf (wsV RX7 43 RX7 yX7_part wsX7_part) := goodIn_app (goodIn_of _ (by decide +kernel)) ggX7_depthOf_X7_part
theorem dX7_depthOf_0 : decode cX7_depthOf 0 = .ok (.iconst 0, 1) := by decide +kernel
theorem dX7_depthOf_1 : decode cX7_depthOf 1 = .ok (.istore_n 2, 1) := by decide +kernel
theorem dX7_depthOf_2 : decode cX7_depthOf 2 = .ok (.aload_n 0, 1) := by decide +kernel
theorem dX7_depthOf_3 : decode cX7_depthOf 3 = .ok (.iload_n 1, 1) := by decide +kernel
theorem dX7_depthOf_4 : decode cX7_depthOf 4 = .ok (.iconst 1, 1) := by decide +kernel
theorem dX7_depthOf_5 : decode cX7_depthOf 5 = .ok (.invokevirtual 43, 3) := by decide +kernel
theorem dX7_depthOf_8 : decode cX7_depthOf 8 = .ok (.istore_n 3, 1) := by decide +kernel
theorem dX7_depthOf_9 : decode cX7_depthOf 9 = .ok (.iload_n 3, 1) := by decide +kernel
theorem dX7_depthOf_10 : decode cX7_depthOf 10 = .ok (.bipush (-6), 2) := by decide +kernel
theorem dX7_depthOf_12 : decode cX7_depthOf 12 = .ok (.if_icmp .eq 16, 3) := by decide +kernel
theorem dX7_depthOf_15 : decode cX7_depthOf 15 = .ok (.iinc 2 1, 3) := by decide +kernel
theorem dX7_depthOf_18 : decode cX7_depthOf 18 = .ok (.aload_n 0, 1) := by decide +kernel
theorem dX7_depthOf_19 : decode cX7_depthOf 19 = .ok (.iload_n 3, 1) := by decide +kernel
theorem dX7_depthOf_20 : decode cX7_depthOf 20 = .ok (.iconst 1, 1) := by decide +kernel
theorem dX7_depthOf_21 : decode cX7_depthOf 21 = .ok (.invokevirtual 43, 3) := by decide +kernel
theorem dX7_depthOf_24 : decode cX7_depthOf 24 = .ok (.istore_n 3, 1) := by decide +kernel
theorem dX7_depthOf_25 : decode cX7_depthOf 25 = .ok (.goto (-16), 3) := by decide +kernel
theorem dX7_depthOf_28 : decode cX7_depthOf 28 = .ok (.iload_n 2, 1) := by decide +kernel
theorem dX7_depthOf_29 : decode cX7_depthOf 29 = .ok (.ireturn, 1) := by decide +kernel
set_option maxRecDepth 20000 in
theorem ggX7_of_X7_isBlock : GoodIn wsX7_of wsX7_isBlock := goodIn_r _ [5, 6, 7, 8, 4, 9, 86, 87, 88, 89, 90, 91, 92, 93, 94, 95, 96, 97, 98] (by decide +kernel) (by decide +kernel)
set_option maxRecDepth 20000 in
theorem gX7_of_X7_isBlock : GoodIn wsX7_of (wsV RX7 107 RX7 yX7_isBlock wsX7_isBlock) := goodIn_app (goodIn_of _ (by decide +kernel)) ggX7_of_X7_isBlock
set_option maxRecDepth 20000 in
theorem ggX7_of_X7_part : GoodIn wsX7_of wsX7_part := goodIn_r _ [13, 6, 86, 87, 88, 89, 90, 91, 92, 93, 94, 95, 96, 97, 98] (by decide +kernel) (by decide +kernel)
set_option maxRecDepth 20000 in
theorem gX7_of_X7_part : GoodIn wsX7_of (wsV RX7 43 RX7 yX7_part wsX7_part) := goodIn_app (goodIn_of _ (by decide +kernel)) ggX7_of_X7_part
set_option maxRecDepth 20000 in
theorem ggX7_of_X7_firstOf : GoodIn wsX7_of wsX7_firstOf := goodIn_r _ [17, 18, 19, 20, 4, 21, 22, 23, 24, 25, 10, 11, 12, 13, 6, 86, 87, 88, 89, 90, 91, 92, 93, 94, 95, 96, 97, 98] (by decide +kernel) (by decide +kernel)
set_option maxRecDepth 20000 in
theorem gX7_of_X7_firstOf : GoodIn wsX7_of (wsV RX7 54 RX7 yX7_firstOf wsX7_firstOf) := goodIn_app (goodIn_of _ (by decide +kernel)) ggX7_of_X7_firstOf
set_option maxRecDepth 20000 in
theorem ggX7_of_X7_cellsOf : GoodIn wsX7_of wsX7_cellsOf := goodIn_r _ [21, 22, 23, 24, 4, 25, 10, 11, 12, 13, 6, 86, 87, 88, 89, 90, 91, 92, 93, 94, 95, 96, 97, 98] (by decide +kernel) (by decide +kernel)
set_option maxRecDepth 20000 in
theorem gX7_of_X7_cellsOf : GoodIn wsX7_of (wsV RX7 51 RX7 yX7_cellsOf wsX7_cellsOf) := goodIn_app (goodIn_of _ (by decide +kernel)) ggX7_of_X7_cellsOf
set_option maxRecDepth 20000 in
theorem ggX7_of_X7_howIs : GoodIn wsX7_of wsX7_howIs := goodIn_r _ [29, 30, 31, 32, 4, 33, 14, 15, 16, 17, 18, 19, 20, 21, 22, 23, 24, 25, 10, 11, 12, 13, 6, 34, 35, 36, 37, 38, 39, 40, 41, 42, 43, 44, 45, 46, 47, 48, 49, 50, 51, 52, 53, 54, 55, 56, 57, 58, 59, 60, 61, 62, 63, 64, 86, 87, 88, 89, 90, 91, 92, 93, 94, 95, 96, 97, 98] (by decide +kernel) (by decide +kernel)
set_option maxRecDepth 20000 in
theorem gX7_of_X7_howIs : GoodIn wsX7_of (wsV RX7 91 RX7 yX7_howIs wsX7_howIs) := goodIn_app (goodIn_of _ (by decide +kernel)) ggX7_of_X7_howIs
set_option maxRecDepth 20000 in
theorem ggX7_of_X7_loadedBy : GoodIn wsX7_of wsX7_loadedBy := goodIn_r _ [68, 26, 27, 28, 4, 29, 30, 31, 32, 33, 14, 15, 16, 17, 18, 19, 20, 21, 22, 23, 24, 25, 10, 11, 12, 13, 6, 34, 35, 36, 37, 38, 39, 40, 41, 42, 43, 44, 45, 46, 47, 48, 49, 50, 51, 52, 53, 54, 55, 56, 57, 58, 59, 60, 61, 62, 63, 64, 69, 70, 71, 72, 73, 74, 75, 76, 77, 86, 87, 88, 89, 90, 91, 92, 93, 94, 95, 96, 97, 98] (by decide +kernel) (by decide +kernel)
set_option maxRecDepth 20000 in
theorem gX7_of_X7_loadedBy : GoodIn wsX7_of (wsV RX7 130 RX7 yX7_loadedBy wsX7_loadedBy) := goodIn_app (goodIn_of _ (by decide +kernel)) ggX7_of_X7_loadedBy
set_option maxRecDepth 20000 in
theorem ggX7_of_X7_depthOf : GoodIn wsX7_of wsX7_depthOf := goodIn_r _ [81, 10, 11, 12, 4, 13, 6, 86, 87, 88, 89, 90, 91, 92, 93, 94, 95, 96, 97, 98] (by decide +kernel) (by decide +kernel)
set_option maxRecDepth 20000 in
theorem gX7_of_X7_depthOf : GoodIn wsX7_of (wsV RX7 133 RX7 yX7_depthOf wsX7_depthOf) := goodIn_app (goodIn_of _ (by decide +kernel)) ggX7_of_X7_depthOf
set_option maxRecDepth 20000 in
theorem ggX7_of_X7_counterOf : GoodIn wsX7_of wsX7_counterOf := goodIn_r _ [85, 6, 86, 87, 88, 89, 90, 91, 92, 93, 94, 95, 96, 97, 98] (by decide +kernel) (by decide +kernel)
set_option maxRecDepth 20000 in
theorem gX7_of_X7_counterOf : GoodIn wsX7_of (wsV RX7 136 RX7 yX7_counterOf wsX7_counterOf) := goodIn_app (goodIn_of _ (by decide +kernel)) ggX7_of_X7_counterOf
theorem dX7_of_0 : decode cX7_of 0 = .ok (.aload_n 0, 1) := by decide +kernel
theorem dX7_of_1 : decode cX7_of 1 = .ok (.iload_n 1, 1) := by decide +kernel
theorem dX7_of_2 : decode cX7_of 2 = .ok (.invokevirtual 107, 3) := by decide +kernel
theorem dX7_of_5 : decode cX7_of 5 = .ok (.ifCond .ne 5, 3) := by decide +kernel
theorem dX7_of_8 : decode cX7_of 8 = .ok (.iconst (-1), 1) := by decide +kernel
theorem dX7_of_9 : decode cX7_of 9 = .ok (.ireturn, 1) := by decide +kernel
theorem dX7_of_10 : decode cX7_of 10 = .ok (.iload_n 2, 1) := by decide +kernel
theorem dX7_of_11 : decode cX7_of 11 = .ok (.tableswitch 103 0 9 #[53, 53, 53, 60, 66, 72, 72, 81, 87, 93], 53) := by decide +kernel
theorem dX7_of_64 : decode cX7_of 64 = .ok (.aload_n 0, 1) := by decide +kernel
theorem dX7_of_65 : decode cX7_of 65 = .ok (.iload_n 1, 1) := by decide +kernel
theorem dX7_of_66 : decode cX7_of 66 = .ok (.iload_n 2, 1) := by decide +kernel
theorem dX7_of_67 : decode cX7_of 67 = .ok (.invokevirtual 43, 3) := by decide +kernel
theorem dX7_of_70 : decode cX7_of 70 = .ok (.ireturn, 1) := by decide +kernel
theorem dX7_of_71 : decode cX7_of 71 = .ok (.aload_n 0, 1) := by decide +kernel
theorem dX7_of_72 : decode cX7_of 72 = .ok (.iload_n 1, 1) := by decide +kernel
theorem dX7_of_73 : decode cX7_of 73 = .ok (.invokevirtual 54, 3) := by decide +kernel
theorem dX7_of_76 : decode cX7_of 76 = .ok (.ireturn, 1) := by decide +kernel
theorem dX7_of_77 : decode cX7_of 77 = .ok (.aload_n 0, 1) := by decide +kernel
theorem dX7_of_78 : decode cX7_of 78 = .ok (.iload_n 1, 1) := by decide +kernel
theorem dX7_of_79 : decode cX7_of 79 = .ok (.invokevirtual 51, 3) := by decide +kernel
theorem dX7_of_82 : decode cX7_of 82 = .ok (.ireturn, 1) := by decide +kernel
theorem dX7_of_83 : decode cX7_of 83 = .ok (.aload_n 0, 1) := by decide +kernel
theorem dX7_of_84 : decode cX7_of 84 = .ok (.iload_n 1, 1) := by decide +kernel
theorem dX7_of_85 : decode cX7_of 85 = .ok (.iload_n 2, 1) := by decide +kernel
theorem dX7_of_86 : decode cX7_of 86 = .ok (.iconst 5, 1) := by decide +kernel
theorem dX7_of_87 : decode cX7_of 87 = .ok (.isub, 1) := by decide +kernel
theorem dX7_of_88 : decode cX7_of 88 = .ok (.invokevirtual 91, 3) := by decide +kernel
theorem dX7_of_91 : decode cX7_of 91 = .ok (.ireturn, 1) := by decide +kernel
theorem dX7_of_92 : decode cX7_of 92 = .ok (.aload_n 0, 1) := by decide +kernel
theorem dX7_of_93 : decode cX7_of 93 = .ok (.iload_n 1, 1) := by decide +kernel
theorem dX7_of_94 : decode cX7_of 94 = .ok (.invokevirtual 130, 3) := by decide +kernel
theorem dX7_of_97 : decode cX7_of 97 = .ok (.ireturn, 1) := by decide +kernel
theorem dX7_of_98 : decode cX7_of 98 = .ok (.aload_n 0, 1) := by decide +kernel
theorem dX7_of_99 : decode cX7_of 99 = .ok (.iload_n 1, 1) := by decide +kernel
theorem dX7_of_100 : decode cX7_of 100 = .ok (.invokevirtual 133, 3) := by decide +kernel
theorem dX7_of_103 : decode cX7_of 103 = .ok (.ireturn, 1) := by decide +kernel
theorem dX7_of_104 : decode cX7_of 104 = .ok (.aload_n 0, 1) := by decide +kernel
theorem dX7_of_105 : decode cX7_of 105 = .ok (.aload_n 0, 1) := by decide +kernel
theorem dX7_of_106 : decode cX7_of 106 = .ok (.iload_n 1, 1) := by decide +kernel
theorem dX7_of_107 : decode cX7_of 107 = .ok (.invokevirtual 54, 3) := by decide +kernel
theorem dX7_of_110 : decode cX7_of 110 = .ok (.invokevirtual 136, 3) := by decide +kernel
theorem dX7_of_113 : decode cX7_of 113 = .ok (.ireturn, 1) := by decide +kernel
theorem dX7_of_114 : decode cX7_of 114 = .ok (.bipush (-2), 2) := by decide +kernel
theorem dX7_of_116 : decode cX7_of 116 = .ok (.ireturn, 1) := by decide +kernel
set_option maxRecDepth 20000 in
theorem ggX7_load_X7_isBlock : GoodIn wsX7_load wsX7_isBlock := goodIn_r _ [8, 9, 10, 11, 7, 12, 80, 81, 82, 83, 84, 85, 86, 87, 88, 89, 90, 91, 92] (by decide +kernel) (by decide +kernel)
set_option maxRecDepth 20000 in
theorem gX7_load_X7_isBlock : GoodIn wsX7_load (wsV RX7 107 RX7 yX7_isBlock wsX7_isBlock) := goodIn_app (goodIn_of _ (by decide +kernel)) ggX7_load_X7_isBlock
set_option maxRecDepth 20000 in
theorem ggX7_load_X7_loadedBy : GoodIn wsX7_load wsX7_loadedBy := goodIn_r _ [16, 17, 18, 19, 7, 20, 21, 22, 23, 24, 25, 26, 27, 28, 29, 30, 31, 32, 33, 34, 35, 36, 37, 38, 39, 40, 9, 41, 42, 43, 44, 45, 46, 47, 48, 49, 50, 51, 52, 53, 54, 55, 56, 57, 58, 59, 60, 61, 62, 63, 64, 65, 66, 67, 68, 69, 70, 71, 72, 73, 74, 75, 3, 76, 77, 78, 79, 80, 81, 82, 83, 84, 85, 86, 87, 88, 89, 90, 91, 92] (by decide +kernel) (by decide +kernel)
set_option maxRecDepth 20000 in
theorem gX7_load_X7_loadedBy : GoodIn wsX7_load (wsV RX7 130 RX7 yX7_loadedBy wsX7_loadedBy) := goodIn_app (goodIn_of _ (by decide +kernel)) ggX7_load_X7_loadedBy
set_option maxRecDepth 20000 in
theorem ggX7_load_X7_part : GoodIn wsX7_load wsX7_part := goodIn_r _ [40, 9, 80, 81, 82, 83, 84, 85, 86, 87, 88, 89, 90, 91, 92] (by decide +kernel) (by decide +kernel)
set_option maxRecDepth 20000 in
theorem gX7_load_X7_part : GoodIn wsX7_load (wsV RX7 43 RX7 yX7_part wsX7_part) := goodIn_app (goodIn_of _ (by decide +kernel)) ggX7_load_X7_part
theorem dX7_load_0 : decode cX7_load 0 = .ok (.aload_n 0, 1) := by decide +kernel
theorem dX7_load_1 : decode cX7_load 1 = .ok (.iload_n 1, 1) := by decide +kernel
theorem dX7_load_2 : decode cX7_load 2 = .ok (.invokevirtual 107, 3) := by decide +kernel
theorem dX7_load_5 : decode cX7_load 5 = .ok (.ifCond .ne 7, 3) := by decide +kernel
theorem dX7_load_8 : decode cX7_load 8 = .ok (.ldc2_w 139, 3) := by decide +kernel
theorem dX7_load_11 : decode cX7_load 11 = .ok (.lreturn, 1) := by decide +kernel
theorem dX7_load_12 : decode cX7_load 12 = .ok (.aload_n 0, 1) := by decide +kernel
theorem dX7_load_13 : decode cX7_load 13 = .ok (.iload_n 1, 1) := by decide +kernel
theorem dX7_load_14 : decode cX7_load 14 = .ok (.invokevirtual 130, 3) := by decide +kernel
theorem dX7_load_17 : decode cX7_load 17 = .ok (.bipush (-6), 2) := by decide +kernel
theorem dX7_load_19 : decode cX7_load 19 = .ok (.if_icmp .ne 7, 3) := by decide +kernel
theorem dX7_load_22 : decode cX7_load 22 = .ok (.ldc2_w 141, 3) := by decide +kernel
theorem dX7_load_25 : decode cX7_load 25 = .ok (.lreturn, 1) := by decide +kernel
theorem dX7_load_26 : decode cX7_load 26 = .ok (.lconst 0, 1) := by decide +kernel
theorem dX7_load_27 : decode cX7_load 27 = .ok (.lstore_n 2, 1) := by decide +kernel
theorem dX7_load_28 : decode cX7_load 28 = .ok (.iconst 0, 1) := by decide +kernel
theorem dX7_load_29 : decode cX7_load 29 = .ok (.istore 4, 2) := by decide +kernel
theorem dX7_load_31 : decode cX7_load 31 = .ok (.iload 4, 2) := by decide +kernel
theorem dX7_load_33 : decode cX7_load 33 = .ok (.aload_n 0, 1) := by decide +kernel
theorem dX7_load_34 : decode cX7_load 34 = .ok (.iload_n 1, 1) := by decide +kernel
theorem dX7_load_35 : decode cX7_load 35 = .ok (.iconst 2, 1) := by decide +kernel
theorem dX7_load_36 : decode cX7_load 36 = .ok (.invokevirtual 43, 3) := by decide +kernel
theorem dX7_load_39 : decode cX7_load 39 = .ok (.if_icmp .ge 26, 3) := by decide +kernel
theorem dX7_load_42 : decode cX7_load 42 = .ok (.lload_n 2, 1) := by decide +kernel
theorem dX7_load_43 : decode cX7_load 43 = .ok (.aload_n 0, 1) := by decide +kernel
theorem dX7_load_44 : decode cX7_load 44 = .ok (.getfield 25, 3) := by decide +kernel
theorem dX7_load_47 : decode cX7_load 47 = .ok (.iload 4, 2) := by decide +kernel
theorem dX7_load_49 : decode cX7_load 49 = .ok (.iaload, 1) := by decide +kernel
theorem dX7_load_50 : decode cX7_load 50 = .ok (.i2l, 1) := by decide +kernel
theorem dX7_load_51 : decode cX7_load 51 = .ok (.bipush 8, 2) := by decide +kernel
theorem dX7_load_53 : decode cX7_load 53 = .ok (.iload 4, 2) := by decide +kernel
theorem dX7_load_55 : decode cX7_load 55 = .ok (.imul, 1) := by decide +kernel
theorem dX7_load_56 : decode cX7_load 56 = .ok (.lshl, 1) := by decide +kernel
theorem dX7_load_57 : decode cX7_load 57 = .ok (.lor, 1) := by decide +kernel
theorem dX7_load_58 : decode cX7_load 58 = .ok (.lstore_n 2, 1) := by decide +kernel
theorem dX7_load_59 : decode cX7_load 59 = .ok (.iinc 4 1, 3) := by decide +kernel
theorem dX7_load_62 : decode cX7_load 62 = .ok (.goto (-31), 3) := by decide +kernel
theorem dX7_load_65 : decode cX7_load 65 = .ok (.lload_n 2, 1) := by decide +kernel
theorem dX7_load_66 : decode cX7_load 66 = .ok (.lreturn, 1) := by decide +kernel
set_option maxRecDepth 20000 in
theorem ggX7_read_X7_isBlock : GoodIn wsX7_read wsX7_isBlock := goodIn_r _ [5, 6, 7, 8, 4, 9, 61, 62, 63, 64, 65, 66, 67, 68, 69, 70, 71, 72, 73] (by decide +kernel) (by decide +kernel)
set_option maxRecDepth 20000 in
theorem gX7_read_X7_isBlock : GoodIn wsX7_read (wsV RX7 107 RX7 yX7_isBlock wsX7_isBlock) := goodIn_app (goodIn_of _ (by decide +kernel)) ggX7_read_X7_isBlock
set_option maxRecDepth 20000 in
theorem ggX7_read_X7_part : GoodIn wsX7_read wsX7_part := goodIn_r _ [13, 6, 61, 62, 63, 64, 65, 66, 67, 68, 69, 70, 71, 72, 73] (by decide +kernel) (by decide +kernel)
set_option maxRecDepth 20000 in
theorem gX7_read_X7_part : GoodIn wsX7_read (wsV RX7 43 RX7 yX7_part wsX7_part) := goodIn_app (goodIn_of _ (by decide +kernel)) ggX7_read_X7_part
set_option maxRecDepth 20000 in
theorem ggX7_read_X7_within : GoodIn wsX7_read wsX7_within := goodIn_r _ [9] (by decide +kernel) (by decide +kernel)
set_option maxRecDepth 20000 in
theorem gX7_read_X7_within : GoodIn wsX7_read (va_wsS RX7 39 yX7_within wsX7_within) := goodIn_app (goodIn_of _ (by decide +kernel)) ggX7_read_X7_within
set_option maxRecDepth 20000 in
theorem ggX7_read_X7_isLeaderLost : GoodIn wsX7_read wsX7_isLeaderLost := goodIn_r _ [17, 18, 19, 20, 4, 21, 22, 23, 24, 25, 26, 27, 28, 29, 10, 11, 12, 13, 6, 30, 31, 32, 33, 34, 35, 36, 37, 61, 62, 63, 64, 65, 66, 67, 68, 69, 70, 71, 72, 73] (by decide +kernel) (by decide +kernel)
set_option maxRecDepth 20000 in
theorem gX7_read_X7_isLeaderLost : GoodIn wsX7_read (wsV RX7 84 RX7 yX7_isLeaderLost wsX7_isLeaderLost) := goodIn_app (goodIn_of _ (by decide +kernel)) ggX7_read_X7_isLeaderLost
set_option maxRecDepth 20000 in
theorem ggX7_read_X7_readAt : GoodIn wsX7_read wsX7_readAt := goodIn_r _ [41, 18, 19, 20, 4, 21, 22, 23, 24, 25, 26, 27, 28, 29, 10, 11, 12, 13, 6, 30, 31, 32, 33, 34, 35, 36, 37, 42, 43, 44, 45, 46, 47, 48, 49, 50, 51, 52, 53, 54, 55, 56, 57, 58, 59, 60, 61, 62, 63, 64, 65, 66, 67, 68, 69, 70, 71, 72, 73] (by decide +kernel) (by decide +kernel)
set_option maxRecDepth 20000 in
theorem gX7_read_X7_readAt : GoodIn wsX7_read (wsV RX7 88 RX7 yX7_readAt wsX7_readAt) := goodIn_app (goodIn_of _ (by decide +kernel)) ggX7_read_X7_readAt
theorem dX7_read_0 : decode cX7_read 0 = .ok (.aload_n 0, 1) := by decide +kernel
theorem dX7_read_1 : decode cX7_read 1 = .ok (.iload_n 1, 1) := by decide +kernel
theorem dX7_read_2 : decode cX7_read 2 = .ok (.invokevirtual 107, 3) := by decide +kernel
theorem dX7_read_5 : decode cX7_read 5 = .ok (.ifCond .eq 17, 3) := by decide +kernel
theorem dX7_read_8 : decode cX7_read 8 = .ok (.iload_n 3, 1) := by decide +kernel
theorem dX7_read_9 : decode cX7_read 9 = .ok (.iconst 0, 1) := by decide +kernel
theorem dX7_read_10 : decode cX7_read 10 = .ok (.aload_n 0, 1) := by decide +kernel
theorem dX7_read_11 : decode cX7_read 11 = .ok (.iload_n 1, 1) := by decide +kernel
theorem dX7_read_12 : decode cX7_read 12 = .ok (.iconst 2, 1) := by decide +kernel
theorem dX7_read_13 : decode cX7_read 13 = .ok (.invokevirtual 43, 3) := by decide +kernel
theorem dX7_read_16 : decode cX7_read 16 = .ok (.invokestatic 39, 3) := by decide +kernel
theorem dX7_read_19 : decode cX7_read 19 = .ok (.ifCond .ne 5, 3) := by decide +kernel
theorem dX7_read_22 : decode cX7_read 22 = .ok (.iconst (-1), 1) := by decide +kernel
theorem dX7_read_23 : decode cX7_read 23 = .ok (.ireturn, 1) := by decide +kernel
theorem dX7_read_24 : decode cX7_read 24 = .ok (.iload_n 2, 1) := by decide +kernel
theorem dX7_read_25 : decode cX7_read 25 = .ok (.iconst 0, 1) := by decide +kernel
theorem dX7_read_26 : decode cX7_read 26 = .ok (.iconst 1, 1) := by decide +kernel
theorem dX7_read_27 : decode cX7_read 27 = .ok (.invokestatic 39, 3) := by decide +kernel
theorem dX7_read_30 : decode cX7_read 30 = .ok (.ifCond .ne 6, 3) := by decide +kernel
theorem dX7_read_33 : decode cX7_read 33 = .ok (.bipush (-2), 2) := by decide +kernel
theorem dX7_read_35 : decode cX7_read 35 = .ok (.ireturn, 1) := by decide +kernel
theorem dX7_read_36 : decode cX7_read 36 = .ok (.aload_n 0, 1) := by decide +kernel
theorem dX7_read_37 : decode cX7_read 37 = .ok (.iload_n 1, 1) := by decide +kernel
theorem dX7_read_38 : decode cX7_read 38 = .ok (.iload_n 2, 1) := by decide +kernel
theorem dX7_read_39 : decode cX7_read 39 = .ok (.invokevirtual 84, 3) := by decide +kernel
theorem dX7_read_42 : decode cX7_read 42 = .ok (.ifCond .eq 8, 3) := by decide +kernel
theorem dX7_read_45 : decode cX7_read 45 = .ok (.bipush (-6), 2) := by decide +kernel
theorem dX7_read_47 : decode cX7_read 47 = .ok (.goto 10, 3) := by decide +kernel
theorem dX7_read_50 : decode cX7_read 50 = .ok (.aload_n 0, 1) := by decide +kernel
theorem dX7_read_51 : decode cX7_read 51 = .ok (.iload_n 1, 1) := by decide +kernel
theorem dX7_read_52 : decode cX7_read 52 = .ok (.iload_n 2, 1) := by decide +kernel
theorem dX7_read_53 : decode cX7_read 53 = .ok (.iload_n 3, 1) := by decide +kernel
theorem dX7_read_54 : decode cX7_read 54 = .ok (.invokevirtual 88, 3) := by decide +kernel
theorem dX7_read_57 : decode cX7_read 57 = .ok (.ireturn, 1) := by decide +kernel
set_option maxRecDepth 20000 in
theorem ggX7_whereIn_X7_blockOf : GoodIn wsX7_whereIn wsX7_blockOf := goodIn_r _ [5, 6, 7, 8, 4, 9, 10, 11, 12, 13, 14, 15, 16, 17, 18, 19, 20, 21, 22, 23, 24, 25, 26, 27, 28, 29, 30, 31, 32, 33, 34, 35] (by decide +kernel) (by decide +kernel)
set_option maxRecDepth 20000 in
theorem gX7_whereIn_X7_blockOf : GoodIn wsX7_whereIn (wsV RX7 143 RX7 yX7_blockOf wsX7_blockOf) := goodIn_app (goodIn_of _ (by decide +kernel)) ggX7_whereIn_X7_blockOf
set_option maxRecDepth 20000 in
theorem ggX7_whereIn_X7_firstOf : GoodIn wsX7_whereIn wsX7_firstOf := goodIn_r _ [9, 10, 11, 12, 4, 13, 14, 15, 16, 17, 18, 19, 20, 21, 22, 23, 24, 25, 26, 27, 28, 29, 30, 31, 32, 33, 34, 35] (by decide +kernel) (by decide +kernel)
set_option maxRecDepth 20000 in
theorem gX7_whereIn_X7_firstOf : GoodIn wsX7_whereIn (wsV RX7 54 RX7 yX7_firstOf wsX7_firstOf) := goodIn_app (goodIn_of _ (by decide +kernel)) ggX7_whereIn_X7_firstOf
set_option maxRecDepth 20000 in
theorem ggX7_whereIn_X7_tellingSize : GoodIn wsX7_whereIn wsX7_tellingSize := goodIn_r _ [17, 18, 19, 20, 4, 21, 22, 23, 24, 25, 26, 27, 28, 29, 30, 31, 32, 33, 34, 35] (by decide +kernel) (by decide +kernel)
set_option maxRecDepth 20000 in
theorem gX7_whereIn_X7_tellingSize : GoodIn wsX7_whereIn (wsV RX7 47 RX7 yX7_tellingSize wsX7_tellingSize) := goodIn_app (goodIn_of _ (by decide +kernel)) ggX7_whereIn_X7_tellingSize
theorem dX7_whereIn_0 : decode cX7_whereIn 0 = .ok (.aload_n 0, 1) := by decide +kernel
theorem dX7_whereIn_1 : decode cX7_whereIn 1 = .ok (.iload_n 1, 1) := by decide +kernel
theorem dX7_whereIn_2 : decode cX7_whereIn 2 = .ok (.invokevirtual 143, 3) := by decide +kernel
theorem dX7_whereIn_5 : decode cX7_whereIn 5 = .ok (.istore_n 2, 1) := by decide +kernel
theorem dX7_whereIn_6 : decode cX7_whereIn 6 = .ok (.iload_n 1, 1) := by decide +kernel
theorem dX7_whereIn_7 : decode cX7_whereIn 7 = .ok (.aload_n 0, 1) := by decide +kernel
theorem dX7_whereIn_8 : decode cX7_whereIn 8 = .ok (.iload_n 2, 1) := by decide +kernel
theorem dX7_whereIn_9 : decode cX7_whereIn 9 = .ok (.invokevirtual 54, 3) := by decide +kernel
theorem dX7_whereIn_12 : decode cX7_whereIn 12 = .ok (.isub, 1) := by decide +kernel
theorem dX7_whereIn_13 : decode cX7_whereIn 13 = .ok (.aload_n 0, 1) := by decide +kernel
theorem dX7_whereIn_14 : decode cX7_whereIn 14 = .ok (.iload_n 2, 1) := by decide +kernel
theorem dX7_whereIn_15 : decode cX7_whereIn 15 = .ok (.invokevirtual 47, 3) := by decide +kernel
theorem dX7_whereIn_18 : decode cX7_whereIn 18 = .ok (.idiv, 1) := by decide +kernel
theorem dX7_whereIn_19 : decode cX7_whereIn 19 = .ok (.ireturn, 1) := by decide +kernel
set_option maxRecDepth 20000 in
theorem ggX7_bitOf_X7_blockOf : GoodIn wsX7_bitOf wsX7_blockOf := goodIn_r _ [5, 6, 7, 8, 4, 9, 10, 11, 12, 13, 14, 15, 16, 17, 18, 19, 20, 21, 22, 46, 47, 48, 49, 50, 51, 52, 53, 54, 55, 56, 57, 58] (by decide +kernel) (by decide +kernel)
set_option maxRecDepth 20000 in
theorem gX7_bitOf_X7_blockOf : GoodIn wsX7_bitOf (wsV RX7 143 RX7 yX7_blockOf wsX7_blockOf) := goodIn_app (goodIn_of _ (by decide +kernel)) ggX7_bitOf_X7_blockOf
set_option maxRecDepth 20000 in
theorem ggX7_bitOf_X7_whereIn : GoodIn wsX7_bitOf wsX7_whereIn := goodIn_r _ [26, 1, 2, 3, 4, 5, 6, 7, 8, 9, 10, 11, 12, 13, 14, 15, 16, 17, 18, 19, 20, 21, 22, 46, 47, 48, 49, 50, 51, 52, 53, 54, 55, 56, 57, 58] (by decide +kernel) (by decide +kernel)
set_option maxRecDepth 20000 in
theorem gX7_bitOf_X7_whereIn : GoodIn wsX7_bitOf (wsV RX7 146 RX7 yX7_whereIn wsX7_whereIn) := goodIn_app (goodIn_of _ (by decide +kernel)) ggX7_bitOf_X7_whereIn
set_option maxRecDepth 20000 in
theorem ggX7_bitOf_X7_firstOf : GoodIn wsX7_bitOf wsX7_firstOf := goodIn_r _ [9, 10, 11, 12, 4, 13, 14, 15, 16, 17, 18, 19, 20, 21, 22, 46, 47, 48, 49, 50, 51, 52, 53, 54, 55, 56, 57, 58] (by decide +kernel) (by decide +kernel)
set_option maxRecDepth 20000 in
theorem gX7_bitOf_X7_firstOf : GoodIn wsX7_bitOf (wsV RX7 54 RX7 yX7_firstOf wsX7_firstOf) := goodIn_app (goodIn_of _ (by decide +kernel)) ggX7_bitOf_X7_firstOf
set_option maxRecDepth 20000 in
theorem ggX7_bitOf_X7_tellingSize : GoodIn wsX7_bitOf wsX7_tellingSize := goodIn_r _ [17, 18, 19, 20, 4, 21, 22, 46, 47, 48, 49, 50, 51, 52, 53, 54, 55, 56, 57, 58] (by decide +kernel) (by decide +kernel)
set_option maxRecDepth 20000 in
theorem gX7_bitOf_X7_tellingSize : GoodIn wsX7_bitOf (wsV RX7 47 RX7 yX7_tellingSize wsX7_tellingSize) := goodIn_app (goodIn_of _ (by decide +kernel)) ggX7_bitOf_X7_tellingSize
set_option maxRecDepth 20000 in
theorem ggX7_bitOf_X7_bitAt : GoodIn wsX7_bitOf wsX7_bitAt := goodIn_r _ [30, 31, 32, 33, 4, 34, 18, 19, 20, 21, 22, 35, 36, 37, 38, 39, 40, 41, 6, 7, 8, 9, 10, 11, 12, 13, 14, 15, 16, 17, 42, 43, 44, 45, 46, 47, 48, 49, 50, 51, 52, 53, 54, 55, 56, 57, 58] (by decide +kernel) (by decide +kernel)
set_option maxRecDepth 20000 in
theorem gX7_bitOf_X7_bitAt : GoodIn wsX7_bitOf (wsV RX7 80 RX7 yX7_bitAt wsX7_bitAt) := goodIn_app (goodIn_of _ (by decide +kernel)) ggX7_bitOf_X7_bitAt
theorem dX7_bitOf_0 : decode cX7_bitOf 0 = .ok (.aload_n 0, 1) := by decide +kernel
theorem dX7_bitOf_1 : decode cX7_bitOf 1 = .ok (.iload_n 1, 1) := by decide +kernel
theorem dX7_bitOf_2 : decode cX7_bitOf 2 = .ok (.invokevirtual 143, 3) := by decide +kernel
theorem dX7_bitOf_5 : decode cX7_bitOf 5 = .ok (.istore_n 2, 1) := by decide +kernel
theorem dX7_bitOf_6 : decode cX7_bitOf 6 = .ok (.aload_n 0, 1) := by decide +kernel
theorem dX7_bitOf_7 : decode cX7_bitOf 7 = .ok (.iload_n 1, 1) := by decide +kernel
theorem dX7_bitOf_8 : decode cX7_bitOf 8 = .ok (.invokevirtual 146, 3) := by decide +kernel
theorem dX7_bitOf_11 : decode cX7_bitOf 11 = .ok (.istore_n 3, 1) := by decide +kernel
theorem dX7_bitOf_12 : decode cX7_bitOf 12 = .ok (.iload_n 3, 1) := by decide +kernel
theorem dX7_bitOf_13 : decode cX7_bitOf 13 = .ok (.iconst 2, 1) := by decide +kernel
theorem dX7_bitOf_14 : decode cX7_bitOf 14 = .ok (.if_icmp .ne 7, 3) := by decide +kernel
theorem dX7_bitOf_17 : decode cX7_bitOf 17 = .ok (.iconst 0, 1) := by decide +kernel
theorem dX7_bitOf_18 : decode cX7_bitOf 18 = .ok (.goto 22, 3) := by decide +kernel
theorem dX7_bitOf_21 : decode cX7_bitOf 21 = .ok (.aload_n 0, 1) := by decide +kernel
theorem dX7_bitOf_22 : decode cX7_bitOf 22 = .ok (.iload_n 2, 1) := by decide +kernel
theorem dX7_bitOf_23 : decode cX7_bitOf 23 = .ok (.iload_n 3, 1) := by decide +kernel
theorem dX7_bitOf_24 : decode cX7_bitOf 24 = .ok (.iload_n 1, 1) := by decide +kernel
theorem dX7_bitOf_25 : decode cX7_bitOf 25 = .ok (.aload_n 0, 1) := by decide +kernel
theorem dX7_bitOf_26 : decode cX7_bitOf 26 = .ok (.iload_n 2, 1) := by decide +kernel
theorem dX7_bitOf_27 : decode cX7_bitOf 27 = .ok (.invokevirtual 54, 3) := by decide +kernel
theorem dX7_bitOf_30 : decode cX7_bitOf 30 = .ok (.isub, 1) := by decide +kernel
theorem dX7_bitOf_31 : decode cX7_bitOf 31 = .ok (.aload_n 0, 1) := by decide +kernel
theorem dX7_bitOf_32 : decode cX7_bitOf 32 = .ok (.iload_n 2, 1) := by decide +kernel
theorem dX7_bitOf_33 : decode cX7_bitOf 33 = .ok (.invokevirtual 47, 3) := by decide +kernel
theorem dX7_bitOf_36 : decode cX7_bitOf 36 = .ok (.irem, 1) := by decide +kernel
theorem dX7_bitOf_37 : decode cX7_bitOf 37 = .ok (.invokevirtual 80, 3) := by decide +kernel
theorem dX7_bitOf_40 : decode cX7_bitOf 40 = .ok (.ireturn, 1) := by decide +kernel
set_option maxRecDepth 20000 in
theorem ggX7_cell_X7_isCell : GoodIn wsX7_cell wsX7_isCell := goodIn_r _ [5, 6, 7, 8, 4, 9, 10, 11, 12, 13, 14, 15, 16, 17, 18, 19, 20, 21, 22, 23, 24, 25, 26, 27, 28, 29, 69, 70, 71, 72, 73, 74, 75, 76, 77, 78, 79, 80, 81] (by decide +kernel) (by decide +kernel)
set_option maxRecDepth 20000 in
theorem gX7_cell_X7_isCell : GoodIn wsX7_cell (wsV RX7 118 RX7 yX7_isCell wsX7_isCell) := goodIn_app (goodIn_of _ (by decide +kernel)) ggX7_cell_X7_isCell
set_option maxRecDepth 20000 in
theorem ggX7_cell_X7_volumeOf : GoodIn wsX7_cell wsX7_volumeOf := goodIn_r _ [33, 10, 69, 70, 71, 72, 73, 74, 75, 76, 77, 78, 79, 80, 81] (by decide +kernel) (by decide +kernel)
set_option maxRecDepth 20000 in
theorem gX7_cell_X7_volumeOf : GoodIn wsX7_cell (wsV RX7 73 RX7 yX7_volumeOf wsX7_volumeOf) := goodIn_app (goodIn_of _ (by decide +kernel)) ggX7_cell_X7_volumeOf
set_option maxRecDepth 20000 in
theorem ggX7_cell_X7_badness : GoodIn wsX7_cell wsX7_badness := goodIn_r _ [37, 10, 69, 70, 71, 72, 73, 74, 75, 76, 77, 78, 79, 80, 81] (by decide +kernel) (by decide +kernel)
set_option maxRecDepth 20000 in
theorem gX7_cell_X7_badness : GoodIn wsX7_cell (wsV RX7 70 RX7 yX7_badness wsX7_badness) := goodIn_app (goodIn_of _ (by decide +kernel)) ggX7_cell_X7_badness
set_option maxRecDepth 20000 in
theorem ggX7_cell_X7_bitOf : GoodIn wsX7_cell wsX7_bitOf := goodIn_r _ [41, 42, 43, 44, 4, 45, 11, 12, 13, 14, 15, 16, 17, 18, 19, 20, 21, 22, 23, 24, 25, 26, 10, 46, 47, 48, 49, 50, 51, 52, 53, 54, 55, 56, 57, 58, 59, 60, 61, 62, 63, 64, 34, 35, 36, 37, 69, 70, 71, 72, 73, 74, 75, 76, 77, 78, 79, 80, 81] (by decide +kernel) (by decide +kernel)
set_option maxRecDepth 20000 in
theorem gX7_cell_X7_bitOf : GoodIn wsX7_cell (wsV RX7 149 RX7 yX7_bitOf wsX7_bitOf) := goodIn_app (goodIn_of _ (by decide +kernel)) ggX7_cell_X7_bitOf
set_option maxRecDepth 20000 in
theorem ggX7_cell_X7_blockOf : GoodIn wsX7_cell wsX7_blockOf := goodIn_r _ [45, 11, 12, 13, 4, 14, 15, 16, 17, 18, 19, 20, 21, 22, 23, 24, 25, 26, 10, 69, 70, 71, 72, 73, 74, 75, 76, 77, 78, 79, 80, 81] (by decide +kernel) (by decide +kernel)
set_option maxRecDepth 20000 in
theorem gX7_cell_X7_blockOf : GoodIn wsX7_cell (wsV RX7 143 RX7 yX7_blockOf wsX7_blockOf) := goodIn_app (goodIn_of _ (by decide +kernel)) ggX7_cell_X7_blockOf
set_option maxRecDepth 20000 in
theorem ggX7_cell_X7_whereIn : GoodIn wsX7_cell wsX7_whereIn := goodIn_r _ [49, 42, 43, 44, 4, 45, 11, 12, 13, 14, 15, 16, 17, 18, 19, 20, 21, 22, 23, 24, 25, 26, 10, 69, 70, 71, 72, 73, 74, 75, 76, 77, 78, 79, 80, 81] (by decide +kernel) (by decide +kernel)
set_option maxRecDepth 20000 in
theorem gX7_cell_X7_whereIn : GoodIn wsX7_cell (wsV RX7 146 RX7 yX7_whereIn wsX7_whereIn) := goodIn_app (goodIn_of _ (by decide +kernel)) ggX7_cell_X7_whereIn
set_option maxRecDepth 20000 in
theorem ggX7_cell_X7_counterOf : GoodIn wsX7_cell wsX7_counterOf := goodIn_r _ [68, 10, 69, 70, 71, 72, 73, 74, 75, 76, 77, 78, 79, 80, 81] (by decide +kernel) (by decide +kernel)
set_option maxRecDepth 20000 in
theorem gX7_cell_X7_counterOf : GoodIn wsX7_cell (wsV RX7 136 RX7 yX7_counterOf wsX7_counterOf) := goodIn_app (goodIn_of _ (by decide +kernel)) ggX7_cell_X7_counterOf
theorem dX7_cell_0 : decode cX7_cell 0 = .ok (.aload_n 0, 1) := by decide +kernel
theorem dX7_cell_1 : decode cX7_cell 1 = .ok (.iload_n 1, 1) := by decide +kernel
theorem dX7_cell_2 : decode cX7_cell 2 = .ok (.invokevirtual 118, 3) := by decide +kernel
theorem dX7_cell_5 : decode cX7_cell 5 = .ok (.ifCond .ne 5, 3) := by decide +kernel
theorem dX7_cell_8 : decode cX7_cell 8 = .ok (.iconst (-1), 1) := by decide +kernel
theorem dX7_cell_9 : decode cX7_cell 9 = .ok (.ireturn, 1) := by decide +kernel
theorem dX7_cell_10 : decode cX7_cell 10 = .ok (.iload_n 2, 1) := by decide +kernel
theorem dX7_cell_11 : decode cX7_cell 11 = .ok (.tableswitch 73 0 5 #[37, 43, 49, 55, 61, 67], 37) := by decide +kernel
theorem dX7_cell_48 : decode cX7_cell 48 = .ok (.aload_n 0, 1) := by decide +kernel
theorem dX7_cell_49 : decode cX7_cell 49 = .ok (.iload_n 1, 1) := by decide +kernel
theorem dX7_cell_50 : decode cX7_cell 50 = .ok (.invokevirtual 73, 3) := by decide +kernel
theorem dX7_cell_53 : decode cX7_cell 53 = .ok (.ireturn, 1) := by decide +kernel
theorem dX7_cell_54 : decode cX7_cell 54 = .ok (.aload_n 0, 1) := by decide +kernel
theorem dX7_cell_55 : decode cX7_cell 55 = .ok (.iload_n 1, 1) := by decide +kernel
theorem dX7_cell_56 : decode cX7_cell 56 = .ok (.invokevirtual 70, 3) := by decide +kernel
theorem dX7_cell_59 : decode cX7_cell 59 = .ok (.ireturn, 1) := by decide +kernel
theorem dX7_cell_60 : decode cX7_cell 60 = .ok (.aload_n 0, 1) := by decide +kernel
theorem dX7_cell_61 : decode cX7_cell 61 = .ok (.iload_n 1, 1) := by decide +kernel
theorem dX7_cell_62 : decode cX7_cell 62 = .ok (.invokevirtual 149, 3) := by decide +kernel
theorem dX7_cell_65 : decode cX7_cell 65 = .ok (.ireturn, 1) := by decide +kernel
theorem dX7_cell_66 : decode cX7_cell 66 = .ok (.aload_n 0, 1) := by decide +kernel
theorem dX7_cell_67 : decode cX7_cell 67 = .ok (.iload_n 1, 1) := by decide +kernel
theorem dX7_cell_68 : decode cX7_cell 68 = .ok (.invokevirtual 143, 3) := by decide +kernel
theorem dX7_cell_71 : decode cX7_cell 71 = .ok (.ireturn, 1) := by decide +kernel
theorem dX7_cell_72 : decode cX7_cell 72 = .ok (.aload_n 0, 1) := by decide +kernel
theorem dX7_cell_73 : decode cX7_cell 73 = .ok (.iload_n 1, 1) := by decide +kernel
theorem dX7_cell_74 : decode cX7_cell 74 = .ok (.invokevirtual 146, 3) := by decide +kernel
theorem dX7_cell_77 : decode cX7_cell 77 = .ok (.ireturn, 1) := by decide +kernel
theorem dX7_cell_78 : decode cX7_cell 78 = .ok (.aload_n 0, 1) := by decide +kernel
theorem dX7_cell_79 : decode cX7_cell 79 = .ok (.iload_n 1, 1) := by decide +kernel
theorem dX7_cell_80 : decode cX7_cell 80 = .ok (.invokevirtual 136, 3) := by decide +kernel
theorem dX7_cell_83 : decode cX7_cell 83 = .ok (.ireturn, 1) := by decide +kernel
theorem dX7_cell_84 : decode cX7_cell 84 = .ok (.bipush (-2), 2) := by decide +kernel
theorem dX7_cell_86 : decode cX7_cell 86 = .ok (.ireturn, 1) := by decide +kernel
set_option maxRecDepth 20000 in
theorem ggX7_loadedSet_X7_loadedBy : GoodIn wsX7_loadedSet wsX7_loadedBy := goodIn_r _ [6, 7, 8, 9, 5, 10, 11, 12, 13, 14, 15, 16, 17, 18, 19, 20, 21, 22, 23, 24, 25, 26, 27, 28, 29, 30, 1, 31, 32, 33, 34, 35, 36, 37, 38, 39, 40, 41, 42, 43, 44, 45, 46, 47, 48, 49, 50, 51, 52, 53, 54, 55, 56, 57, 58, 59, 60, 61, 62, 63, 64, 65, 66, 67, 68, 69, 70, 71, 72, 73, 74, 75, 76, 77, 78, 79, 80, 81, 82, 83] (by decide +kernel) (by decide +kernel)
set_option maxRecDepth 20000 in
theorem gX7_loadedSet_X7_loadedBy : GoodIn wsX7_loadedSet (wsV RX7 130 RX7 yX7_loadedBy wsX7_loadedBy) := goodIn_app (goodIn_of _ (by decide +kernel)) ggX7_loadedSet_X7_loadedBy
theorem dX7_loadedSet_0 : decode cX7_loadedSet 0 = .ok (.iconst 0, 1) := by decide +kernel
theorem dX7_loadedSet_1 : decode cX7_loadedSet 1 = .ok (.istore_n 2, 1) := by decide +kernel
theorem dX7_loadedSet_2 : decode cX7_loadedSet 2 = .ok (.iconst 0, 1) := by decide +kernel
theorem dX7_loadedSet_3 : decode cX7_loadedSet 3 = .ok (.istore_n 3, 1) := by decide +kernel
theorem dX7_loadedSet_4 : decode cX7_loadedSet 4 = .ok (.iload_n 3, 1) := by decide +kernel
theorem dX7_loadedSet_5 : decode cX7_loadedSet 5 = .ok (.aload_n 0, 1) := by decide +kernel
theorem dX7_loadedSet_6 : decode cX7_loadedSet 6 = .ok (.getfield 7, 3) := by decide +kernel
theorem dX7_loadedSet_9 : decode cX7_loadedSet 9 = .ok (.iconst 3, 1) := by decide +kernel
theorem dX7_loadedSet_10 : decode cX7_loadedSet 10 = .ok (.iaload, 1) := by decide +kernel
theorem dX7_loadedSet_11 : decode cX7_loadedSet 11 = .ok (.if_icmp .ge 53, 3) := by decide +kernel
theorem dX7_loadedSet_14 : decode cX7_loadedSet 14 = .ok (.aload_n 0, 1) := by decide +kernel
theorem dX7_loadedSet_15 : decode cX7_loadedSet 15 = .ok (.iload_n 3, 1) := by decide +kernel
theorem dX7_loadedSet_16 : decode cX7_loadedSet 16 = .ok (.invokevirtual 130, 3) := by decide +kernel
theorem dX7_loadedSet_19 : decode cX7_loadedSet 19 = .ok (.istore 4, 2) := by decide +kernel
theorem dX7_loadedSet_21 : decode cX7_loadedSet 21 = .ok (.iload_n 2, 1) := by decide +kernel
theorem dX7_loadedSet_22 : decode cX7_loadedSet 22 = .ok (.iload_n 1, 1) := by decide +kernel
theorem dX7_loadedSet_23 : decode cX7_loadedSet 23 = .ok (.ifCond .eq 19, 3) := by decide +kernel
theorem dX7_loadedSet_26 : decode cX7_loadedSet 26 = .ok (.iload 4, 2) := by decide +kernel
theorem dX7_loadedSet_28 : decode cX7_loadedSet 28 = .ok (.iconst 2, 1) := by decide +kernel
theorem dX7_loadedSet_29 : decode cX7_loadedSet 29 = .ok (.if_icmp .ne 9, 3) := by decide +kernel
theorem dX7_loadedSet_32 : decode cX7_loadedSet 32 = .ok (.iconst 1, 1) := by decide +kernel
theorem dX7_loadedSet_33 : decode cX7_loadedSet 33 = .ok (.iload_n 3, 1) := by decide +kernel
theorem dX7_loadedSet_34 : decode cX7_loadedSet 34 = .ok (.ishl, 1) := by decide +kernel
theorem dX7_loadedSet_35 : decode cX7_loadedSet 35 = .ok (.goto 21, 3) := by decide +kernel
theorem dX7_loadedSet_38 : decode cX7_loadedSet 38 = .ok (.iconst 0, 1) := by decide +kernel
theorem dX7_loadedSet_39 : decode cX7_loadedSet 39 = .ok (.goto 17, 3) := by decide +kernel
theorem dX7_loadedSet_42 : decode cX7_loadedSet 42 = .ok (.iload 4, 2) := by decide +kernel
theorem dX7_loadedSet_44 : decode cX7_loadedSet 44 = .ok (.bipush (-6), 2) := by decide +kernel
theorem dX7_loadedSet_46 : decode cX7_loadedSet 46 = .ok (.if_icmp .eq 9, 3) := by decide +kernel
theorem dX7_loadedSet_49 : decode cX7_loadedSet 49 = .ok (.iconst 1, 1) := by decide +kernel
theorem dX7_loadedSet_50 : decode cX7_loadedSet 50 = .ok (.iload_n 3, 1) := by decide +kernel
theorem dX7_loadedSet_51 : decode cX7_loadedSet 51 = .ok (.ishl, 1) := by decide +kernel
theorem dX7_loadedSet_52 : decode cX7_loadedSet 52 = .ok (.goto 4, 3) := by decide +kernel
theorem dX7_loadedSet_55 : decode cX7_loadedSet 55 = .ok (.iconst 0, 1) := by decide +kernel
theorem dX7_loadedSet_56 : decode cX7_loadedSet 56 = .ok (.ior, 1) := by decide +kernel
theorem dX7_loadedSet_57 : decode cX7_loadedSet 57 = .ok (.istore_n 2, 1) := by decide +kernel
theorem dX7_loadedSet_58 : decode cX7_loadedSet 58 = .ok (.iinc 3 1, 3) := by decide +kernel
theorem dX7_loadedSet_61 : decode cX7_loadedSet 61 = .ok (.goto (-57), 3) := by decide +kernel
theorem dX7_loadedSet_64 : decode cX7_loadedSet 64 = .ok (.iload_n 2, 1) := by decide +kernel
theorem dX7_loadedSet_65 : decode cX7_loadedSet 65 = .ok (.ireturn, 1) := by decide +kernel
set_option maxRecDepth 20000 in
theorem ggX7_silentMany_X7_allCells : GoodIn wsX7_silentMany wsX7_allCells := goodIn_r _ [5, 6, 7, 8, 9, 4, 10, 11, 12, 13, 14, 15, 16, 17, 18, 19, 20, 21, 22, 31, 32, 33, 34, 35, 36, 37, 38, 39, 40, 41, 42, 43] (by decide +kernel) (by decide +kernel)
set_option maxRecDepth 20000 in
theorem gX7_silentMany_X7_allCells : GoodIn wsX7_silentMany (wsV RX7 57 RX7 yX7_allCells wsX7_allCells) := goodIn_app (goodIn_of _ (by decide +kernel)) ggX7_silentMany_X7_allCells
set_option maxRecDepth 20000 in
theorem ggX7_silentMany_X7_isHeard : GoodIn wsX7_silentMany wsX7_isHeard := goodIn_r _ [26, 6, 27, 28, 29, 4, 30, 31, 32, 33, 34, 35, 36, 37, 38, 39, 40, 41, 42, 43] (by decide +kernel) (by decide +kernel)
set_option maxRecDepth 20000 in
theorem gX7_silentMany_X7_isHeard : GoodIn wsX7_silentMany (wsV RX7 76 RX7 yX7_isHeard wsX7_isHeard) := goodIn_app (goodIn_of _ (by decide +kernel)) ggX7_silentMany_X7_isHeard
theorem dX7_silentMany_0 : decode cX7_silentMany 0 = .ok (.iconst 0, 1) := by decide +kernel
theorem dX7_silentMany_1 : decode cX7_silentMany 1 = .ok (.istore_n 1, 1) := by decide +kernel
theorem dX7_silentMany_2 : decode cX7_silentMany 2 = .ok (.iconst 0, 1) := by decide +kernel
theorem dX7_silentMany_3 : decode cX7_silentMany 3 = .ok (.istore_n 2, 1) := by decide +kernel
theorem dX7_silentMany_4 : decode cX7_silentMany 4 = .ok (.iload_n 2, 1) := by decide +kernel
theorem dX7_silentMany_5 : decode cX7_silentMany 5 = .ok (.aload_n 0, 1) := by decide +kernel
theorem dX7_silentMany_6 : decode cX7_silentMany 6 = .ok (.invokevirtual 57, 3) := by decide +kernel
theorem dX7_silentMany_9 : decode cX7_silentMany 9 = .ok (.if_icmp .ge 25, 3) := by decide +kernel
theorem dX7_silentMany_12 : decode cX7_silentMany 12 = .ok (.iload_n 1, 1) := by decide +kernel
theorem dX7_silentMany_13 : decode cX7_silentMany 13 = .ok (.aload_n 0, 1) := by decide +kernel
theorem dX7_silentMany_14 : decode cX7_silentMany 14 = .ok (.iload_n 2, 1) := by decide +kernel
theorem dX7_silentMany_15 : decode cX7_silentMany 15 = .ok (.invokevirtual 76, 3) := by decide +kernel
theorem dX7_silentMany_18 : decode cX7_silentMany 18 = .ok (.ifCond .eq 7, 3) := by decide +kernel
theorem dX7_silentMany_21 : decode cX7_silentMany 21 = .ok (.iconst 0, 1) := by decide +kernel
theorem dX7_silentMany_22 : decode cX7_silentMany 22 = .ok (.goto 4, 3) := by decide +kernel
theorem dX7_silentMany_25 : decode cX7_silentMany 25 = .ok (.iconst 1, 1) := by decide +kernel
theorem dX7_silentMany_26 : decode cX7_silentMany 26 = .ok (.iadd, 1) := by decide +kernel
theorem dX7_silentMany_27 : decode cX7_silentMany 27 = .ok (.istore_n 1, 1) := by decide +kernel
theorem dX7_silentMany_28 : decode cX7_silentMany 28 = .ok (.iinc 2 1, 3) := by decide +kernel
theorem dX7_silentMany_31 : decode cX7_silentMany 31 = .ok (.goto (-27), 3) := by decide +kernel
theorem dX7_silentMany_34 : decode cX7_silentMany 34 = .ok (.iload_n 1, 1) := by decide +kernel
theorem dX7_silentMany_35 : decode cX7_silentMany 35 = .ok (.ireturn, 1) := by decide +kernel
set_option maxRecDepth 20000 in
theorem ggX7_badMany_X7_allCells : GoodIn wsX7_badMany wsX7_allCells := goodIn_r _ [5, 6, 7, 8, 9, 4, 10, 11, 12, 13, 14, 15, 16, 17, 18, 19, 20, 21, 22, 27, 28, 29, 30, 31, 32, 33, 34, 35, 36, 37, 38, 39] (by decide +kernel) (by decide +kernel)
set_option maxRecDepth 20000 in
theorem gX7_badMany_X7_allCells : GoodIn wsX7_badMany (wsV RX7 57 RX7 yX7_allCells wsX7_allCells) := goodIn_app (goodIn_of _ (by decide +kernel)) ggX7_badMany_X7_allCells
set_option maxRecDepth 20000 in
theorem ggX7_badMany_X7_badness : GoodIn wsX7_badMany wsX7_badness := goodIn_r _ [26, 6, 27, 28, 29, 30, 31, 32, 33, 34, 35, 36, 37, 38, 39] (by decide +kernel) (by decide +kernel)
set_option maxRecDepth 20000 in
theorem gX7_badMany_X7_badness : GoodIn wsX7_badMany (wsV RX7 70 RX7 yX7_badness wsX7_badness) := goodIn_app (goodIn_of _ (by decide +kernel)) ggX7_badMany_X7_badness
theorem dX7_badMany_0 : decode cX7_badMany 0 = .ok (.iconst 0, 1) := by decide +kernel
theorem dX7_badMany_1 : decode cX7_badMany 1 = .ok (.istore_n 1, 1) := by decide +kernel
theorem dX7_badMany_2 : decode cX7_badMany 2 = .ok (.iconst 0, 1) := by decide +kernel
theorem dX7_badMany_3 : decode cX7_badMany 3 = .ok (.istore_n 2, 1) := by decide +kernel
theorem dX7_badMany_4 : decode cX7_badMany 4 = .ok (.iload_n 2, 1) := by decide +kernel
theorem dX7_badMany_5 : decode cX7_badMany 5 = .ok (.aload_n 0, 1) := by decide +kernel
theorem dX7_badMany_6 : decode cX7_badMany 6 = .ok (.invokevirtual 57, 3) := by decide +kernel
theorem dX7_badMany_9 : decode cX7_badMany 9 = .ok (.if_icmp .ge 17, 3) := by decide +kernel
theorem dX7_badMany_12 : decode cX7_badMany 12 = .ok (.iload_n 1, 1) := by decide +kernel
theorem dX7_badMany_13 : decode cX7_badMany 13 = .ok (.aload_n 0, 1) := by decide +kernel
theorem dX7_badMany_14 : decode cX7_badMany 14 = .ok (.iload_n 2, 1) := by decide +kernel
theorem dX7_badMany_15 : decode cX7_badMany 15 = .ok (.invokevirtual 70, 3) := by decide +kernel
theorem dX7_badMany_18 : decode cX7_badMany 18 = .ok (.iadd, 1) := by decide +kernel
theorem dX7_badMany_19 : decode cX7_badMany 19 = .ok (.istore_n 1, 1) := by decide +kernel
theorem dX7_badMany_20 : decode cX7_badMany 20 = .ok (.iinc 2 1, 3) := by decide +kernel
theorem dX7_badMany_23 : decode cX7_badMany 23 = .ok (.goto (-19), 3) := by decide +kernel
theorem dX7_badMany_26 : decode cX7_badMany 26 = .ok (.iload_n 1, 1) := by decide +kernel
theorem dX7_badMany_27 : decode cX7_badMany 27 = .ok (.ireturn, 1) := by decide +kernel
set_option maxRecDepth 20000 in
theorem ggX7_count_X7_allCells : GoodIn wsX7_count wsX7_allCells := goodIn_r _ [8, 1, 9, 10, 11, 7, 12, 13, 14, 15, 16, 17, 18, 19, 20, 21, 22, 23, 24, 89, 90, 91, 92, 93, 94, 95, 96, 97, 98, 99, 100, 101] (by decide +kernel) (by decide +kernel)
set_option maxRecDepth 20000 in
theorem gX7_count_X7_allCells : GoodIn wsX7_count (wsV RX7 57 RX7 yX7_allCells wsX7_allCells) := goodIn_app (goodIn_of _ (by decide +kernel)) ggX7_count_X7_allCells
set_option maxRecDepth 20000 in
theorem ggX7_count_X7_loadedSet : GoodIn wsX7_count wsX7_loadedSet := goodIn_r _ [28, 1, 29, 30, 31, 7, 32, 33, 34, 35, 36, 37, 38, 39, 40, 9, 10, 11, 12, 13, 14, 15, 16, 17, 18, 19, 20, 21, 22, 23, 24, 41, 42, 43, 44, 45, 46, 47, 48, 49, 50, 51, 52, 53, 54, 55, 56, 57, 58, 59, 60, 61, 62, 63, 64, 65, 66, 67, 68, 69, 70, 71, 72, 73, 74, 75, 76, 77, 78, 79, 80, 89, 90, 91, 92, 93, 94, 95, 96, 97, 98, 99, 100, 101] (by decide +kernel) (by decide +kernel)
set_option maxRecDepth 20000 in
theorem gX7_count_X7_loadedSet : GoodIn wsX7_count (wsV RX7 152 RX7 yX7_loadedSet wsX7_loadedSet) := goodIn_app (goodIn_of _ (by decide +kernel)) ggX7_count_X7_loadedSet
set_option maxRecDepth 20000 in
theorem ggX7_count_X7_silentMany : GoodIn wsX7_count wsX7_silentMany := goodIn_r _ [84, 4, 5, 6, 7, 8, 1, 9, 10, 11, 12, 13, 14, 15, 16, 17, 18, 19, 20, 21, 22, 23, 24, 41, 42, 43, 44, 45, 46, 47, 48, 89, 90, 91, 92, 93, 94, 95, 96, 97, 98, 99, 100, 101] (by decide +kernel) (by decide +kernel)
set_option maxRecDepth 20000 in
theorem gX7_count_X7_silentMany : GoodIn wsX7_count (wsV RX7 156 RX7 yX7_silentMany wsX7_silentMany) := goodIn_app (goodIn_of _ (by decide +kernel)) ggX7_count_X7_silentMany
set_option maxRecDepth 20000 in
theorem ggX7_count_X7_badMany : GoodIn wsX7_count wsX7_badMany := goodIn_r _ [88, 4, 5, 6, 7, 8, 1, 9, 10, 11, 12, 13, 14, 15, 16, 17, 18, 19, 20, 21, 22, 23, 24, 68, 69, 70, 71, 89, 90, 91, 92, 93, 94, 95, 96, 97, 98, 99, 100, 101] (by decide +kernel) (by decide +kernel)
set_option maxRecDepth 20000 in
theorem gX7_count_X7_badMany : GoodIn wsX7_count (wsV RX7 159 RX7 yX7_badMany wsX7_badMany) := goodIn_app (goodIn_of _ (by decide +kernel)) ggX7_count_X7_badMany
theorem dX7_count_0 : decode cX7_count 0 = .ok (.iload_n 1, 1) := by decide +kernel
theorem dX7_count_1 : decode cX7_count 1 = .ok (.tableswitch 113 0 10 #[59, 66, 71, 77, 83, 88, 93, 93, 93, 103, 108], 59) := by decide +kernel
theorem dX7_count_60 : decode cX7_count 60 = .ok (.aload_n 0, 1) := by decide +kernel
theorem dX7_count_61 : decode cX7_count 61 = .ok (.getfield 7, 3) := by decide +kernel
theorem dX7_count_64 : decode cX7_count 64 = .ok (.iconst 3, 1) := by decide +kernel
theorem dX7_count_65 : decode cX7_count 65 = .ok (.iaload, 1) := by decide +kernel
theorem dX7_count_66 : decode cX7_count 66 = .ok (.ireturn, 1) := by decide +kernel
theorem dX7_count_67 : decode cX7_count 67 = .ok (.aload_n 0, 1) := by decide +kernel
theorem dX7_count_68 : decode cX7_count 68 = .ok (.invokevirtual 57, 3) := by decide +kernel
theorem dX7_count_71 : decode cX7_count 71 = .ok (.ireturn, 1) := by decide +kernel
theorem dX7_count_72 : decode cX7_count 72 = .ok (.aload_n 0, 1) := by decide +kernel
theorem dX7_count_73 : decode cX7_count 73 = .ok (.iconst 0, 1) := by decide +kernel
theorem dX7_count_74 : decode cX7_count 74 = .ok (.invokevirtual 152, 3) := by decide +kernel
theorem dX7_count_77 : decode cX7_count 77 = .ok (.ireturn, 1) := by decide +kernel
theorem dX7_count_78 : decode cX7_count 78 = .ok (.aload_n 0, 1) := by decide +kernel
theorem dX7_count_79 : decode cX7_count 79 = .ok (.iconst 1, 1) := by decide +kernel
theorem dX7_count_80 : decode cX7_count 80 = .ok (.invokevirtual 152, 3) := by decide +kernel
theorem dX7_count_83 : decode cX7_count 83 = .ok (.ireturn, 1) := by decide +kernel
theorem dX7_count_84 : decode cX7_count 84 = .ok (.aload_n 0, 1) := by decide +kernel
theorem dX7_count_85 : decode cX7_count 85 = .ok (.invokevirtual 156, 3) := by decide +kernel
theorem dX7_count_88 : decode cX7_count 88 = .ok (.ireturn, 1) := by decide +kernel
theorem dX7_count_89 : decode cX7_count 89 = .ok (.aload_n 0, 1) := by decide +kernel
theorem dX7_count_90 : decode cX7_count 90 = .ok (.invokevirtual 159, 3) := by decide +kernel
theorem dX7_count_93 : decode cX7_count 93 = .ok (.ireturn, 1) := by decide +kernel
theorem dX7_count_94 : decode cX7_count 94 = .ok (.aload_n 0, 1) := by decide +kernel
theorem dX7_count_95 : decode cX7_count 95 = .ok (.getfield 7, 3) := by decide +kernel
theorem dX7_count_98 : decode cX7_count 98 = .ok (.iload_n 1, 1) := by decide +kernel
theorem dX7_count_99 : decode cX7_count 99 = .ok (.bipush 6, 2) := by decide +kernel
