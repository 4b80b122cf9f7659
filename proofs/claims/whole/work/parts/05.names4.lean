theorem dX7_count_101 : decode cX7_count 101 = .ok (.isub, 1) := by decide +kernel
theorem dX7_count_102 : decode cX7_count 102 = .ok (.iaload, 1) := by decide +kernel
theorem dX7_count_103 : decode cX7_count 103 = .ok (.ireturn, 1) := by decide +kernel
theorem dX7_count_104 : decode cX7_count 104 = .ok (.aload_n 0, 1) := by decide +kernel
theorem dX7_count_105 : decode cX7_count 105 = .ok (.getfield 162, 3) := by decide +kernel
theorem dX7_count_108 : decode cX7_count 108 = .ok (.ireturn, 1) := by decide +kernel
theorem dX7_count_109 : decode cX7_count 109 = .ok (.aload_n 0, 1) := by decide +kernel
theorem dX7_count_110 : decode cX7_count 110 = .ok (.getfield 31, 3) := by decide +kernel
theorem dX7_count_113 : decode cX7_count 113 = .ok (.ireturn, 1) := by decide +kernel
theorem dX7_count_114 : decode cX7_count 114 = .ok (.bipush (-2), 2) := by decide +kernel
theorem dX7_count_116 : decode cX7_count 116 = .ok (.ireturn, 1) := by decide +kernel
set_option maxRecDepth 20000 in
theorem ggX7_reachedSet_X7_loadedSet : GoodIn wsX7_reachedSet wsX7_loadedSet := goodIn_r _ [6, 1, 7, 8, 9, 5, 10, 11, 12, 13, 14, 15, 16, 17, 18, 19, 20, 21, 22, 23, 24, 25, 26, 27, 28, 29, 30, 31, 32, 33, 34, 35, 36, 37, 38, 39, 40, 41, 42, 43, 44, 45, 46, 47, 48, 49, 50, 51, 52, 53, 54, 55, 56, 57, 58, 59, 60, 61, 62, 63, 64, 65, 66, 67, 68, 69, 70, 71, 72, 73, 74, 75, 76, 77, 78, 79, 80, 81, 82, 83, 84, 85, 86, 87] (by decide +kernel) (by decide +kernel)
set_option maxRecDepth 20000 in
theorem gX7_reachedSet_X7_loadedSet : GoodIn wsX7_reachedSet (wsV RX7 152 RX7 yX7_loadedSet wsX7_loadedSet) := goodIn_app (goodIn_of _ (by decide +kernel)) ggX7_reachedSet_X7_loadedSet
set_option maxRecDepth 20000 in
theorem ggX7_reachedSet_X7_part : GoodIn wsX7_reachedSet wsX7_part := goodIn_r _ [34, 1, 75, 76, 77, 78, 79, 80, 81, 82, 83, 84, 85, 86, 87] (by decide +kernel) (by decide +kernel)
set_option maxRecDepth 20000 in
theorem gX7_reachedSet_X7_part : GoodIn wsX7_reachedSet (wsV RX7 43 RX7 yX7_part wsX7_part) := goodIn_app (goodIn_of _ (by decide +kernel)) ggX7_reachedSet_X7_part
theorem dX7_reachedSet_0 : decode cX7_reachedSet 0 = .ok (.aload_n 0, 1) := by decide +kernel
theorem dX7_reachedSet_1 : decode cX7_reachedSet 1 = .ok (.iconst 0, 1) := by decide +kernel
theorem dX7_reachedSet_2 : decode cX7_reachedSet 2 = .ok (.invokevirtual 152, 3) := by decide +kernel
theorem dX7_reachedSet_5 : decode cX7_reachedSet 5 = .ok (.istore_n 1, 1) := by decide +kernel
theorem dX7_reachedSet_6 : decode cX7_reachedSet 6 = .ok (.iconst 0, 1) := by decide +kernel
theorem dX7_reachedSet_7 : decode cX7_reachedSet 7 = .ok (.istore_n 2, 1) := by decide +kernel
theorem dX7_reachedSet_8 : decode cX7_reachedSet 8 = .ok (.iconst 0, 1) := by decide +kernel
theorem dX7_reachedSet_9 : decode cX7_reachedSet 9 = .ok (.istore_n 3, 1) := by decide +kernel
theorem dX7_reachedSet_10 : decode cX7_reachedSet 10 = .ok (.iload_n 3, 1) := by decide +kernel
theorem dX7_reachedSet_11 : decode cX7_reachedSet 11 = .ok (.aload_n 0, 1) := by decide +kernel
theorem dX7_reachedSet_12 : decode cX7_reachedSet 12 = .ok (.getfield 7, 3) := by decide +kernel
theorem dX7_reachedSet_15 : decode cX7_reachedSet 15 = .ok (.iconst 3, 1) := by decide +kernel
theorem dX7_reachedSet_16 : decode cX7_reachedSet 16 = .ok (.iaload, 1) := by decide +kernel
theorem dX7_reachedSet_17 : decode cX7_reachedSet 17 = .ok (.if_icmp .ge 53, 3) := by decide +kernel
theorem dX7_reachedSet_20 : decode cX7_reachedSet 20 = .ok (.aload_n 0, 1) := by decide +kernel
theorem dX7_reachedSet_21 : decode cX7_reachedSet 21 = .ok (.iload_n 3, 1) := by decide +kernel
theorem dX7_reachedSet_22 : decode cX7_reachedSet 22 = .ok (.iconst 1, 1) := by decide +kernel
theorem dX7_reachedSet_23 : decode cX7_reachedSet 23 = .ok (.invokevirtual 43, 3) := by decide +kernel
theorem dX7_reachedSet_26 : decode cX7_reachedSet 26 = .ok (.istore 4, 2) := by decide +kernel
theorem dX7_reachedSet_28 : decode cX7_reachedSet 28 = .ok (.iload_n 2, 1) := by decide +kernel
theorem dX7_reachedSet_29 : decode cX7_reachedSet 29 = .ok (.iload_n 1, 1) := by decide +kernel
theorem dX7_reachedSet_30 : decode cX7_reachedSet 30 = .ok (.iload_n 3, 1) := by decide +kernel
theorem dX7_reachedSet_31 : decode cX7_reachedSet 31 = .ok (.ishr, 1) := by decide +kernel
theorem dX7_reachedSet_32 : decode cX7_reachedSet 32 = .ok (.iconst 1, 1) := by decide +kernel
theorem dX7_reachedSet_33 : decode cX7_reachedSet 33 = .ok (.iand, 1) := by decide +kernel
theorem dX7_reachedSet_34 : decode cX7_reachedSet 34 = .ok (.iconst 1, 1) := by decide +kernel
theorem dX7_reachedSet_35 : decode cX7_reachedSet 35 = .ok (.if_icmp .ne 26, 3) := by decide +kernel
theorem dX7_reachedSet_38 : decode cX7_reachedSet 38 = .ok (.iload 4, 2) := by decide +kernel
theorem dX7_reachedSet_40 : decode cX7_reachedSet 40 = .ok (.bipush (-6), 2) := by decide +kernel
theorem dX7_reachedSet_42 : decode cX7_reachedSet 42 = .ok (.if_icmp .eq 13, 3) := by decide +kernel
theorem dX7_reachedSet_45 : decode cX7_reachedSet 45 = .ok (.iload_n 2, 1) := by decide +kernel
theorem dX7_reachedSet_46 : decode cX7_reachedSet 46 = .ok (.iload 4, 2) := by decide +kernel
theorem dX7_reachedSet_48 : decode cX7_reachedSet 48 = .ok (.ishr, 1) := by decide +kernel
theorem dX7_reachedSet_49 : decode cX7_reachedSet 49 = .ok (.iconst 1, 1) := by decide +kernel
theorem dX7_reachedSet_50 : decode cX7_reachedSet 50 = .ok (.iand, 1) := by decide +kernel
theorem dX7_reachedSet_51 : decode cX7_reachedSet 51 = .ok (.iconst 1, 1) := by decide +kernel
theorem dX7_reachedSet_52 : decode cX7_reachedSet 52 = .ok (.if_icmp .ne 9, 3) := by decide +kernel
theorem dX7_reachedSet_55 : decode cX7_reachedSet 55 = .ok (.iconst 1, 1) := by decide +kernel
theorem dX7_reachedSet_56 : decode cX7_reachedSet 56 = .ok (.iload_n 3, 1) := by decide +kernel
theorem dX7_reachedSet_57 : decode cX7_reachedSet 57 = .ok (.ishl, 1) := by decide +kernel
theorem dX7_reachedSet_58 : decode cX7_reachedSet 58 = .ok (.goto 4, 3) := by decide +kernel
theorem dX7_reachedSet_61 : decode cX7_reachedSet 61 = .ok (.iconst 0, 1) := by decide +kernel
theorem dX7_reachedSet_62 : decode cX7_reachedSet 62 = .ok (.ior, 1) := by decide +kernel
theorem dX7_reachedSet_63 : decode cX7_reachedSet 63 = .ok (.istore_n 2, 1) := by decide +kernel
theorem dX7_reachedSet_64 : decode cX7_reachedSet 64 = .ok (.iinc 3 1, 3) := by decide +kernel
theorem dX7_reachedSet_67 : decode cX7_reachedSet 67 = .ok (.goto (-57), 3) := by decide +kernel
theorem dX7_reachedSet_70 : decode cX7_reachedSet 70 = .ok (.iload_n 2, 1) := by decide +kernel
theorem dX7_reachedSet_71 : decode cX7_reachedSet 71 = .ok (.ireturn, 1) := by decide +kernel
set_option maxRecDepth 20000 in
theorem ggX7_reached_X7_reachedSet : GoodIn wsX7_reached wsX7_reachedSet := goodIn_r _ [5, 6, 7, 8, 9, 4, 10, 11, 12, 13, 14, 15, 16, 17, 18, 19, 20, 21, 22, 23, 24, 25, 26, 27, 28, 29, 30, 31, 32, 33, 34, 35, 36, 37, 38, 39, 40, 41, 42, 43, 44, 45, 46, 47, 48, 49, 50, 51, 52, 53, 54, 55, 56, 57, 58, 59, 60, 61, 62, 63, 64, 65, 66, 67, 68, 69, 70, 71, 72, 73, 74, 75, 76, 77, 78, 79, 80, 81, 82, 83, 84, 85, 86, 87, 88, 89, 90, 91] (by decide +kernel) (by decide +kernel)
set_option maxRecDepth 20000 in
theorem gX7_reached_X7_reachedSet : GoodIn wsX7_reached (wsV RX7 165 RX7 yX7_reachedSet wsX7_reachedSet) := goodIn_app (goodIn_of _ (by decide +kernel)) ggX7_reached_X7_reachedSet
theorem dX7_reached_0 : decode cX7_reached 0 = .ok (.aload_n 0, 1) := by decide +kernel
theorem dX7_reached_1 : decode cX7_reached 1 = .ok (.invokevirtual 165, 3) := by decide +kernel
theorem dX7_reached_4 : decode cX7_reached 4 = .ok (.ireturn, 1) := by decide +kernel
set_option maxRecDepth 20000 in
theorem ggX7_farFrom_X7_firstOf : GoodIn wsX7_farFrom wsX7_firstOf := goodIn_r _ [5, 6, 7, 8, 4, 9, 10, 11, 12, 13, 14, 15, 16, 17, 18, 26, 27, 28, 29, 30, 31, 32, 33, 34, 35, 36, 37, 38] (by decide +kernel) (by decide +kernel)
set_option maxRecDepth 20000 in
theorem gX7_farFrom_X7_firstOf : GoodIn wsX7_farFrom (wsV RX7 54 RX7 yX7_firstOf wsX7_firstOf) := goodIn_app (goodIn_of _ (by decide +kernel)) ggX7_farFrom_X7_firstOf
set_option maxRecDepth 20000 in
theorem ggX7_farFrom_X7_counterOf : GoodIn wsX7_farFrom wsX7_counterOf := goodIn_r _ [22, 18, 26, 27, 28, 29, 30, 31, 32, 33, 34, 35, 36, 37, 38] (by decide +kernel) (by decide +kernel)
set_option maxRecDepth 20000 in
theorem gX7_farFrom_X7_counterOf : GoodIn wsX7_farFrom (wsV RX7 136 RX7 yX7_counterOf wsX7_counterOf) := goodIn_app (goodIn_of _ (by decide +kernel)) ggX7_farFrom_X7_counterOf
set_option maxRecDepth 20000 in
theorem ggX7_farFrom_X7_size : GoodIn wsX7_farFrom wsX7_size := goodIn_r _ [25] (by decide +kernel) (by decide +kernel)
set_option maxRecDepth 20000 in
theorem gX7_farFrom_X7_size : GoodIn wsX7_farFrom (va_wsS RX7 168 yX7_size wsX7_size) := goodIn_app (goodIn_of _ (by decide +kernel)) ggX7_farFrom_X7_size
theorem dX7_farFrom_0 : decode cX7_farFrom 0 = .ok (.aload_n 0, 1) := by decide +kernel
theorem dX7_farFrom_1 : decode cX7_farFrom 1 = .ok (.aload_n 0, 1) := by decide +kernel
theorem dX7_farFrom_2 : decode cX7_farFrom 2 = .ok (.iload_n 1, 1) := by decide +kernel
theorem dX7_farFrom_3 : decode cX7_farFrom 3 = .ok (.invokevirtual 54, 3) := by decide +kernel
theorem dX7_farFrom_6 : decode cX7_farFrom 6 = .ok (.invokevirtual 136, 3) := by decide +kernel
theorem dX7_farFrom_9 : decode cX7_farFrom 9 = .ok (.iload_n 2, 1) := by decide +kernel
theorem dX7_farFrom_10 : decode cX7_farFrom 10 = .ok (.isub, 1) := by decide +kernel
theorem dX7_farFrom_11 : decode cX7_farFrom 11 = .ok (.invokestatic 168, 3) := by decide +kernel
theorem dX7_farFrom_14 : decode cX7_farFrom 14 = .ok (.istore_n 3, 1) := by decide +kernel
theorem dX7_farFrom_15 : decode cX7_farFrom 15 = .ok (.iload_n 3, 1) := by decide +kernel
theorem dX7_farFrom_16 : decode cX7_farFrom 16 = .ok (.sipush 1000, 3) := by decide +kernel
theorem dX7_farFrom_19 : decode cX7_farFrom 19 = .ok (.iload_n 3, 1) := by decide +kernel
theorem dX7_farFrom_20 : decode cX7_farFrom 20 = .ok (.isub, 1) := by decide +kernel
theorem dX7_farFrom_21 : decode cX7_farFrom 21 = .ok (.if_icmp .ge 7, 3) := by decide +kernel
theorem dX7_farFrom_24 : decode cX7_farFrom 24 = .ok (.iload_n 3, 1) := by decide +kernel
theorem dX7_farFrom_25 : decode cX7_farFrom 25 = .ok (.goto 8, 3) := by decide +kernel
theorem dX7_farFrom_28 : decode cX7_farFrom 28 = .ok (.sipush 1000, 3) := by decide +kernel
theorem dX7_farFrom_31 : decode cX7_farFrom 31 = .ok (.iload_n 3, 1) := by decide +kernel
theorem dX7_farFrom_32 : decode cX7_farFrom 32 = .ok (.isub, 1) := by decide +kernel
theorem dX7_farFrom_33 : decode cX7_farFrom 33 = .ok (.ireturn, 1) := by decide +kernel
set_option maxRecDepth 20000 in
theorem ggX7_near_X7_within : GoodIn wsX7_near wsX7_within := goodIn_r _ [5] (by decide +kernel) (by decide +kernel)
set_option maxRecDepth 20000 in
theorem gX7_near_X7_within : GoodIn wsX7_near (va_wsS RX7 39 yX7_within wsX7_within) := goodIn_app (goodIn_of _ (by decide +kernel)) ggX7_near_X7_within
set_option maxRecDepth 20000 in
theorem ggX7_near_X7_farFrom : GoodIn wsX7_near wsX7_farFrom := goodIn_r _ [9, 10, 11, 12, 4, 13, 14, 15, 16, 17, 18, 19, 20, 21, 22, 23, 24, 25, 1, 26, 27, 28, 29, 30, 31, 32, 33, 34, 35, 36, 37, 38, 39, 40, 41, 42, 43, 44, 45] (by decide +kernel) (by decide +kernel)
set_option maxRecDepth 20000 in
theorem gX7_near_X7_farFrom : GoodIn wsX7_near (wsV RX7 171 RX7 yX7_farFrom wsX7_farFrom) := goodIn_app (goodIn_of _ (by decide +kernel)) ggX7_near_X7_farFrom
theorem dX7_near_0 : decode cX7_near 0 = .ok (.iload_n 2, 1) := by decide +kernel
theorem dX7_near_1 : decode cX7_near 1 = .ok (.iconst 0, 1) := by decide +kernel
theorem dX7_near_2 : decode cX7_near 2 = .ok (.aload_n 0, 1) := by decide +kernel
theorem dX7_near_3 : decode cX7_near 3 = .ok (.getfield 7, 3) := by decide +kernel
theorem dX7_near_6 : decode cX7_near 6 = .ok (.iconst 3, 1) := by decide +kernel
theorem dX7_near_7 : decode cX7_near 7 = .ok (.iaload, 1) := by decide +kernel
theorem dX7_near_8 : decode cX7_near 8 = .ok (.iconst 1, 1) := by decide +kernel
theorem dX7_near_9 : decode cX7_near 9 = .ok (.isub, 1) := by decide +kernel
theorem dX7_near_10 : decode cX7_near 10 = .ok (.invokestatic 39, 3) := by decide +kernel
theorem dX7_near_13 : decode cX7_near 13 = .ok (.ifCond .ne 5, 3) := by decide +kernel
theorem dX7_near_16 : decode cX7_near 16 = .ok (.iconst (-1), 1) := by decide +kernel
theorem dX7_near_17 : decode cX7_near 17 = .ok (.ireturn, 1) := by decide +kernel
theorem dX7_near_18 : decode cX7_near 18 = .ok (.iload_n 1, 1) := by decide +kernel
theorem dX7_near_19 : decode cX7_near 19 = .ok (.iconst 0, 1) := by decide +kernel
theorem dX7_near_20 : decode cX7_near 20 = .ok (.sipush 999, 3) := by decide +kernel
theorem dX7_near_23 : decode cX7_near 23 = .ok (.invokestatic 39, 3) := by decide +kernel
theorem dX7_near_26 : decode cX7_near 26 = .ok (.ifCond .ne 6, 3) := by decide +kernel
theorem dX7_near_29 : decode cX7_near 29 = .ok (.bipush (-2), 2) := by decide +kernel
theorem dX7_near_31 : decode cX7_near 31 = .ok (.ireturn, 1) := by decide +kernel
theorem dX7_near_32 : decode cX7_near 32 = .ok (.bipush (-6), 2) := by decide +kernel
theorem dX7_near_34 : decode cX7_near 34 = .ok (.istore_n 3, 1) := by decide +kernel
theorem dX7_near_35 : decode cX7_near 35 = .ok (.iconst 0, 1) := by decide +kernel
theorem dX7_near_36 : decode cX7_near 36 = .ok (.istore 4, 2) := by decide +kernel
theorem dX7_near_38 : decode cX7_near 38 = .ok (.iload 4, 2) := by decide +kernel
theorem dX7_near_40 : decode cX7_near 40 = .ok (.aload_n 0, 1) := by decide +kernel
theorem dX7_near_41 : decode cX7_near 41 = .ok (.getfield 7, 3) := by decide +kernel
theorem dX7_near_44 : decode cX7_near 44 = .ok (.iconst 3, 1) := by decide +kernel
theorem dX7_near_45 : decode cX7_near 45 = .ok (.iaload, 1) := by decide +kernel
theorem dX7_near_46 : decode cX7_near 46 = .ok (.if_icmp .ge 96, 3) := by decide +kernel
theorem dX7_near_49 : decode cX7_near 49 = .ok (.iconst 0, 1) := by decide +kernel
theorem dX7_near_50 : decode cX7_near 50 = .ok (.istore 5, 2) := by decide +kernel
theorem dX7_near_52 : decode cX7_near 52 = .ok (.iconst 0, 1) := by decide +kernel
theorem dX7_near_53 : decode cX7_near 53 = .ok (.istore 6, 2) := by decide +kernel
theorem dX7_near_55 : decode cX7_near 55 = .ok (.iload 6, 2) := by decide +kernel
theorem dX7_near_57 : decode cX7_near 57 = .ok (.aload_n 0, 1) := by decide +kernel
theorem dX7_near_58 : decode cX7_near 58 = .ok (.getfield 7, 3) := by decide +kernel
theorem dX7_near_61 : decode cX7_near 61 = .ok (.iconst 3, 1) := by decide +kernel
theorem dX7_near_62 : decode cX7_near 62 = .ok (.iaload, 1) := by decide +kernel
theorem dX7_near_63 : decode cX7_near 63 = .ok (.if_icmp .ge 60, 3) := by decide +kernel
theorem dX7_near_66 : decode cX7_near 66 = .ok (.iload 5, 2) := by decide +kernel
theorem dX7_near_68 : decode cX7_near 68 = .ok (.aload_n 0, 1) := by decide +kernel
theorem dX7_near_69 : decode cX7_near 69 = .ok (.iload 6, 2) := by decide +kernel
theorem dX7_near_71 : decode cX7_near 71 = .ok (.iload_n 1, 1) := by decide +kernel
theorem dX7_near_72 : decode cX7_near 72 = .ok (.invokevirtual 171, 3) := by decide +kernel
theorem dX7_near_75 : decode cX7_near 75 = .ok (.aload_n 0, 1) := by decide +kernel
theorem dX7_near_76 : decode cX7_near 76 = .ok (.iload 4, 2) := by decide +kernel
theorem dX7_near_78 : decode cX7_near 78 = .ok (.iload_n 1, 1) := by decide +kernel
theorem dX7_near_79 : decode cX7_near 79 = .ok (.invokevirtual 171, 3) := by decide +kernel
theorem dX7_near_82 : decode cX7_near 82 = .ok (.if_icmp .lt 27, 3) := by decide +kernel
theorem dX7_near_85 : decode cX7_near 85 = .ok (.aload_n 0, 1) := by decide +kernel
theorem dX7_near_86 : decode cX7_near 86 = .ok (.iload 6, 2) := by decide +kernel
theorem dX7_near_88 : decode cX7_near 88 = .ok (.iload_n 1, 1) := by decide +kernel
theorem dX7_near_89 : decode cX7_near 89 = .ok (.invokevirtual 171, 3) := by decide +kernel
theorem dX7_near_92 : decode cX7_near 92 = .ok (.aload_n 0, 1) := by decide +kernel
theorem dX7_near_93 : decode cX7_near 93 = .ok (.iload 4, 2) := by decide +kernel
theorem dX7_near_95 : decode cX7_near 95 = .ok (.iload_n 1, 1) := by decide +kernel
theorem dX7_near_96 : decode cX7_near 96 = .ok (.invokevirtual 171, 3) := by decide +kernel
theorem dX7_near_99 : decode cX7_near 99 = .ok (.if_icmp .ne 14, 3) := by decide +kernel
theorem dX7_near_102 : decode cX7_near 102 = .ok (.iload 6, 2) := by decide +kernel
theorem dX7_near_104 : decode cX7_near 104 = .ok (.iload 4, 2) := by decide +kernel
theorem dX7_near_106 : decode cX7_near 106 = .ok (.if_icmp .ge 7, 3) := by decide +kernel
theorem dX7_near_109 : decode cX7_near 109 = .ok (.iconst 1, 1) := by decide +kernel
theorem dX7_near_110 : decode cX7_near 110 = .ok (.goto 4, 3) := by decide +kernel
theorem dX7_near_113 : decode cX7_near 113 = .ok (.iconst 0, 1) := by decide +kernel
theorem dX7_near_114 : decode cX7_near 114 = .ok (.iadd, 1) := by decide +kernel
theorem dX7_near_115 : decode cX7_near 115 = .ok (.istore 5, 2) := by decide +kernel
theorem dX7_near_117 : decode cX7_near 117 = .ok (.iinc 6 1, 3) := by decide +kernel
theorem dX7_near_120 : decode cX7_near 120 = .ok (.goto (-65), 3) := by decide +kernel
theorem dX7_near_123 : decode cX7_near 123 = .ok (.iload 5, 2) := by decide +kernel
theorem dX7_near_125 : decode cX7_near 125 = .ok (.iload_n 2, 1) := by decide +kernel
theorem dX7_near_126 : decode cX7_near 126 = .ok (.if_icmp .ne 8, 3) := by decide +kernel
theorem dX7_near_129 : decode cX7_near 129 = .ok (.iload 4, 2) := by decide +kernel
theorem dX7_near_131 : decode cX7_near 131 = .ok (.goto 4, 3) := by decide +kernel
theorem dX7_near_134 : decode cX7_near 134 = .ok (.iload_n 3, 1) := by decide +kernel
theorem dX7_near_135 : decode cX7_near 135 = .ok (.istore_n 3, 1) := by decide +kernel
theorem dX7_near_136 : decode cX7_near 136 = .ok (.iinc 4 1, 3) := by decide +kernel
theorem dX7_near_139 : decode cX7_near 139 = .ok (.goto (-101), 3) := by decide +kernel
theorem dX7_near_142 : decode cX7_near 142 = .ok (.iload_n 3, 1) := by decide +kernel
theorem dX7_near_143 : decode cX7_near 143 = .ok (.ireturn, 1) := by decide +kernel
set_option maxRecDepth 20000 in
theorem ggX7_mostLeast_X7_isBlock : GoodIn wsX7_mostLeast wsX7_isBlock := goodIn_r _ [6, 1, 7, 8, 5, 9, 78, 79, 80, 81, 82, 83, 84, 85, 86, 87, 88, 89, 90] (by decide +kernel) (by decide +kernel)
set_option maxRecDepth 20000 in
theorem gX7_mostLeast_X7_isBlock : GoodIn wsX7_mostLeast (wsV RX7 107 RX7 yX7_isBlock wsX7_isBlock) := goodIn_app (goodIn_of _ (by decide +kernel)) ggX7_mostLeast_X7_isBlock
set_option maxRecDepth 20000 in
theorem ggX7_mostLeast_X7_loadedBy : GoodIn wsX7_mostLeast wsX7_loadedBy := goodIn_r _ [13, 14, 15, 16, 5, 17, 18, 19, 20, 21, 22, 23, 24, 25, 26, 27, 28, 29, 30, 31, 32, 33, 34, 35, 36, 37, 1, 38, 39, 40, 41, 42, 43, 44, 45, 46, 47, 48, 49, 50, 51, 52, 53, 54, 55, 56, 57, 58, 59, 60, 61, 62, 63, 64, 65, 66, 67, 68, 69, 70, 71, 72, 73, 74, 75, 76, 77, 78, 79, 80, 81, 82, 83, 84, 85, 86, 87, 88, 89, 90] (by decide +kernel) (by decide +kernel)
set_option maxRecDepth 20000 in
theorem gX7_mostLeast_X7_loadedBy : GoodIn wsX7_mostLeast (wsV RX7 130 RX7 yX7_loadedBy wsX7_loadedBy) := goodIn_app (goodIn_of _ (by decide +kernel)) ggX7_mostLeast_X7_loadedBy
theorem dX7_mostLeast_0 : decode cX7_mostLeast 0 = .ok (.aload_n 0, 1) := by decide +kernel
theorem dX7_mostLeast_1 : decode cX7_mostLeast 1 = .ok (.iload_n 1, 1) := by decide +kernel
theorem dX7_mostLeast_2 : decode cX7_mostLeast 2 = .ok (.invokevirtual 107, 3) := by decide +kernel
theorem dX7_mostLeast_5 : decode cX7_mostLeast 5 = .ok (.ifCond .ne 5, 3) := by decide +kernel
theorem dX7_mostLeast_8 : decode cX7_mostLeast 8 = .ok (.iconst (-1), 1) := by decide +kernel
theorem dX7_mostLeast_9 : decode cX7_mostLeast 9 = .ok (.ireturn, 1) := by decide +kernel
theorem dX7_mostLeast_10 : decode cX7_mostLeast 10 = .ok (.aload_n 0, 1) := by decide +kernel
theorem dX7_mostLeast_11 : decode cX7_mostLeast 11 = .ok (.getfield 7, 3) := by decide +kernel
theorem dX7_mostLeast_14 : decode cX7_mostLeast 14 = .ok (.iconst 1, 1) := by decide +kernel
theorem dX7_mostLeast_15 : decode cX7_mostLeast 15 = .ok (.iaload, 1) := by decide +kernel
theorem dX7_mostLeast_16 : decode cX7_mostLeast 16 = .ok (.istore_n 2, 1) := by decide +kernel
theorem dX7_mostLeast_17 : decode cX7_mostLeast 17 = .ok (.bipush (-6), 2) := by decide +kernel
theorem dX7_mostLeast_19 : decode cX7_mostLeast 19 = .ok (.istore_n 3, 1) := by decide +kernel
theorem dX7_mostLeast_20 : decode cX7_mostLeast 20 = .ok (.bipush 99, 2) := by decide +kernel
theorem dX7_mostLeast_22 : decode cX7_mostLeast 22 = .ok (.istore 4, 2) := by decide +kernel
theorem dX7_mostLeast_24 : decode cX7_mostLeast 24 = .ok (.iload 4, 2) := by decide +kernel
theorem dX7_mostLeast_26 : decode cX7_mostLeast 26 = .ok (.ifCond .lt 41, 3) := by decide +kernel
theorem dX7_mostLeast_29 : decode cX7_mostLeast 29 = .ok (.iload_n 3, 1) := by decide +kernel
theorem dX7_mostLeast_30 : decode cX7_mostLeast 30 = .ok (.bipush (-6), 2) := by decide +kernel
theorem dX7_mostLeast_32 : decode cX7_mostLeast 32 = .ok (.if_icmp .ne 35, 3) := by decide +kernel
theorem dX7_mostLeast_35 : decode cX7_mostLeast 35 = .ok (.aload_n 0, 1) := by decide +kernel
theorem dX7_mostLeast_36 : decode cX7_mostLeast 36 = .ok (.getfield 7, 3) := by decide +kernel
theorem dX7_mostLeast_39 : decode cX7_mostLeast 39 = .ok (.iconst 1, 1) := by decide +kernel
theorem dX7_mostLeast_40 : decode cX7_mostLeast 40 = .ok (.iload 4, 2) := by decide +kernel
theorem dX7_mostLeast_42 : decode cX7_mostLeast 42 = .ok (.iastore, 1) := by decide +kernel
theorem dX7_mostLeast_43 : decode cX7_mostLeast 43 = .ok (.aload_n 0, 1) := by decide +kernel
theorem dX7_mostLeast_44 : decode cX7_mostLeast 44 = .ok (.iload_n 1, 1) := by decide +kernel
theorem dX7_mostLeast_45 : decode cX7_mostLeast 45 = .ok (.invokevirtual 130, 3) := by decide +kernel
theorem dX7_mostLeast_48 : decode cX7_mostLeast 48 = .ok (.bipush (-6), 2) := by decide +kernel
theorem dX7_mostLeast_50 : decode cX7_mostLeast 50 = .ok (.if_icmp .ne 8, 3) := by decide +kernel
theorem dX7_mostLeast_53 : decode cX7_mostLeast 53 = .ok (.bipush (-6), 2) := by decide +kernel
theorem dX7_mostLeast_55 : decode cX7_mostLeast 55 = .ok (.goto 5, 3) := by decide +kernel
theorem dX7_mostLeast_58 : decode cX7_mostLeast 58 = .ok (.iload 4, 2) := by decide +kernel
theorem dX7_mostLeast_60 : decode cX7_mostLeast 60 = .ok (.istore_n 3, 1) := by decide +kernel
theorem dX7_mostLeast_61 : decode cX7_mostLeast 61 = .ok (.iinc 4 (-1), 3) := by decide +kernel
theorem dX7_mostLeast_64 : decode cX7_mostLeast 64 = .ok (.goto (-40), 3) := by decide +kernel
theorem dX7_mostLeast_67 : decode cX7_mostLeast 67 = .ok (.aload_n 0, 1) := by decide +kernel
theorem dX7_mostLeast_68 : decode cX7_mostLeast 68 = .ok (.getfield 7, 3) := by decide +kernel
theorem dX7_mostLeast_71 : decode cX7_mostLeast 71 = .ok (.iconst 1, 1) := by decide +kernel
theorem dX7_mostLeast_72 : decode cX7_mostLeast 72 = .ok (.iload_n 2, 1) := by decide +kernel
theorem dX7_mostLeast_73 : decode cX7_mostLeast 73 = .ok (.iastore, 1) := by decide +kernel
theorem dX7_mostLeast_74 : decode cX7_mostLeast 74 = .ok (.iload_n 3, 1) := by decide +kernel
theorem dX7_mostLeast_75 : decode cX7_mostLeast 75 = .ok (.ireturn, 1) := by decide +kernel
set_option maxRecDepth 20000 in
theorem ggX7_weak_X7_isBlock : GoodIn wsX7_weak wsX7_isBlock := goodIn_r _ [5, 6, 7, 8, 4, 9, 69, 70, 71, 72, 73, 74, 75, 76, 77, 78, 79, 80, 81] (by decide +kernel) (by decide +kernel)
set_option maxRecDepth 20000 in
theorem gX7_weak_X7_isBlock : GoodIn wsX7_weak (wsV RX7 107 RX7 yX7_isBlock wsX7_isBlock) := goodIn_app (goodIn_of _ (by decide +kernel)) ggX7_weak_X7_isBlock
set_option maxRecDepth 20000 in
theorem ggX7_weak_X7_within : GoodIn wsX7_weak wsX7_within := goodIn_r _ [9] (by decide +kernel) (by decide +kernel)
set_option maxRecDepth 20000 in
theorem gX7_weak_X7_within : GoodIn wsX7_weak (va_wsS RX7 39 yX7_within wsX7_within) := goodIn_app (goodIn_of _ (by decide +kernel)) ggX7_weak_X7_within
set_option maxRecDepth 20000 in
theorem ggX7_weak_X7_howIs : GoodIn wsX7_weak wsX7_howIs := goodIn_r _ [13, 14, 15, 16, 4, 17, 18, 19, 20, 21, 22, 23, 24, 25, 26, 27, 28, 29, 30, 31, 32, 33, 6, 34, 35, 36, 37, 38, 39, 40, 41, 42, 43, 44, 45, 46, 47, 48, 49, 50, 51, 52, 53, 54, 55, 56, 57, 58, 59, 60, 61, 62, 63, 64, 69, 70, 71, 72, 73, 74, 75, 76, 77, 78, 79, 80, 81] (by decide +kernel) (by decide +kernel)
set_option maxRecDepth 20000 in
theorem gX7_weak_X7_howIs : GoodIn wsX7_weak (wsV RX7 91 RX7 yX7_howIs wsX7_howIs) := goodIn_app (goodIn_of _ (by decide +kernel)) ggX7_weak_X7_howIs
set_option maxRecDepth 20000 in
theorem ggX7_weak_X7_firstOf : GoodIn wsX7_weak wsX7_firstOf := goodIn_r _ [21, 22, 23, 24, 4, 25, 26, 27, 28, 29, 30, 31, 32, 33, 6, 69, 70, 71, 72, 73, 74, 75, 76, 77, 78, 79, 80, 81] (by decide +kernel) (by decide +kernel)
set_option maxRecDepth 20000 in
theorem gX7_weak_X7_firstOf : GoodIn wsX7_weak (wsV RX7 54 RX7 yX7_firstOf wsX7_firstOf) := goodIn_app (goodIn_of _ (by decide +kernel)) ggX7_weak_X7_firstOf
set_option maxRecDepth 20000 in
theorem ggX7_weak_X7_tellingSize : GoodIn wsX7_weak wsX7_tellingSize := goodIn_r _ [29, 30, 31, 32, 4, 33, 6, 69, 70, 71, 72, 73, 74, 75, 76, 77, 78, 79, 80, 81] (by decide +kernel) (by decide +kernel)
set_option maxRecDepth 20000 in
theorem gX7_weak_X7_tellingSize : GoodIn wsX7_weak (wsV RX7 47 RX7 yX7_tellingSize wsX7_tellingSize) := goodIn_app (goodIn_of _ (by decide +kernel)) ggX7_weak_X7_tellingSize
set_option maxRecDepth 20000 in
theorem ggX7_weak_X7_turns : GoodIn wsX7_weak wsX7_turns := goodIn_r _ [68, 6, 61, 62, 63, 4, 64, 69, 70, 71, 72, 73, 74, 75, 76, 77, 78, 79, 80, 81] (by decide +kernel) (by decide +kernel)
set_option maxRecDepth 20000 in
theorem gX7_weak_X7_turns : GoodIn wsX7_weak (wsV RX7 127 RX7 yX7_turns wsX7_turns) := goodIn_app (goodIn_of _ (by decide +kernel)) ggX7_weak_X7_turns
theorem dX7_weak_0 : decode cX7_weak 0 = .ok (.aload_n 0, 1) := by decide +kernel
theorem dX7_weak_1 : decode cX7_weak 1 = .ok (.iload_n 1, 1) := by decide +kernel
theorem dX7_weak_2 : decode cX7_weak 2 = .ok (.invokevirtual 107, 3) := by decide +kernel
theorem dX7_weak_5 : decode cX7_weak 5 = .ok (.ifCond .ne 5, 3) := by decide +kernel
theorem dX7_weak_8 : decode cX7_weak 8 = .ok (.iconst (-1), 1) := by decide +kernel
theorem dX7_weak_9 : decode cX7_weak 9 = .ok (.ireturn, 1) := by decide +kernel
theorem dX7_weak_10 : decode cX7_weak 10 = .ok (.iload_n 2, 1) := by decide +kernel
theorem dX7_weak_11 : decode cX7_weak 11 = .ok (.iconst 0, 1) := by decide +kernel
theorem dX7_weak_12 : decode cX7_weak 12 = .ok (.iconst 1, 1) := by decide +kernel
theorem dX7_weak_13 : decode cX7_weak 13 = .ok (.invokestatic 39, 3) := by decide +kernel
theorem dX7_weak_16 : decode cX7_weak 16 = .ok (.ifCond .ne 6, 3) := by decide +kernel
theorem dX7_weak_19 : decode cX7_weak 19 = .ok (.bipush (-2), 2) := by decide +kernel
theorem dX7_weak_21 : decode cX7_weak 21 = .ok (.ireturn, 1) := by decide +kernel
theorem dX7_weak_22 : decode cX7_weak 22 = .ok (.aload_n 0, 1) := by decide +kernel
theorem dX7_weak_23 : decode cX7_weak 23 = .ok (.iload_n 1, 1) := by decide +kernel
theorem dX7_weak_24 : decode cX7_weak 24 = .ok (.iload_n 2, 1) := by decide +kernel
theorem dX7_weak_25 : decode cX7_weak 25 = .ok (.invokevirtual 91, 3) := by decide +kernel
theorem dX7_weak_28 : decode cX7_weak 28 = .ok (.ifCond .eq 6, 3) := by decide +kernel
theorem dX7_weak_31 : decode cX7_weak 31 = .ok (.bipush (-5), 2) := by decide +kernel
theorem dX7_weak_33 : decode cX7_weak 33 = .ok (.ireturn, 1) := by decide +kernel
theorem dX7_weak_34 : decode cX7_weak 34 = .ok (.iconst 0, 1) := by decide +kernel
theorem dX7_weak_35 : decode cX7_weak 35 = .ok (.istore_n 3, 1) := by decide +kernel
theorem dX7_weak_36 : decode cX7_weak 36 = .ok (.aload_n 0, 1) := by decide +kernel
theorem dX7_weak_37 : decode cX7_weak 37 = .ok (.iload_n 1, 1) := by decide +kernel
theorem dX7_weak_38 : decode cX7_weak 38 = .ok (.invokevirtual 54, 3) := by decide +kernel
theorem dX7_weak_41 : decode cX7_weak 41 = .ok (.iload_n 2, 1) := by decide +kernel
theorem dX7_weak_42 : decode cX7_weak 42 = .ok (.aload_n 0, 1) := by decide +kernel
theorem dX7_weak_43 : decode cX7_weak 43 = .ok (.iload_n 1, 1) := by decide +kernel
theorem dX7_weak_44 : decode cX7_weak 44 = .ok (.invokevirtual 47, 3) := by decide +kernel
theorem dX7_weak_47 : decode cX7_weak 47 = .ok (.imul, 1) := by decide +kernel
theorem dX7_weak_48 : decode cX7_weak 48 = .ok (.iadd, 1) := by decide +kernel
theorem dX7_weak_49 : decode cX7_weak 49 = .ok (.istore 4, 2) := by decide +kernel
theorem dX7_weak_51 : decode cX7_weak 51 = .ok (.iconst 0, 1) := by decide +kernel
theorem dX7_weak_52 : decode cX7_weak 52 = .ok (.istore 5, 2) := by decide +kernel
theorem dX7_weak_54 : decode cX7_weak 54 = .ok (.iload 5, 2) := by decide +kernel
theorem dX7_weak_56 : decode cX7_weak 56 = .ok (.aload_n 0, 1) := by decide +kernel
theorem dX7_weak_57 : decode cX7_weak 57 = .ok (.iload_n 1, 1) := by decide +kernel
theorem dX7_weak_58 : decode cX7_weak 58 = .ok (.invokevirtual 47, 3) := by decide +kernel
theorem dX7_weak_61 : decode cX7_weak 61 = .ok (.if_icmp .ge 46, 3) := by decide +kernel
theorem dX7_weak_64 : decode cX7_weak 64 = .ok (.aload_n 0, 1) := by decide +kernel
theorem dX7_weak_65 : decode cX7_weak 65 = .ok (.iload 4, 2) := by decide +kernel
theorem dX7_weak_67 : decode cX7_weak 67 = .ok (.iload 5, 2) := by decide +kernel
theorem dX7_weak_69 : decode cX7_weak 69 = .ok (.iadd, 1) := by decide +kernel
theorem dX7_weak_70 : decode cX7_weak 70 = .ok (.invokevirtual 127, 3) := by decide +kernel
theorem dX7_weak_73 : decode cX7_weak 73 = .ok (.pop, 1) := by decide +kernel
theorem dX7_weak_74 : decode cX7_weak 74 = .ok (.iload_n 3, 1) := by decide +kernel
theorem dX7_weak_75 : decode cX7_weak 75 = .ok (.aload_n 0, 1) := by decide +kernel
theorem dX7_weak_76 : decode cX7_weak 76 = .ok (.iload_n 1, 1) := by decide +kernel
theorem dX7_weak_77 : decode cX7_weak 77 = .ok (.iload_n 2, 1) := by decide +kernel
theorem dX7_weak_78 : decode cX7_weak 78 = .ok (.invokevirtual 91, 3) := by decide +kernel
theorem dX7_weak_81 : decode cX7_weak 81 = .ok (.ifCond .ne 7, 3) := by decide +kernel
theorem dX7_weak_84 : decode cX7_weak 84 = .ok (.iconst 0, 1) := by decide +kernel
theorem dX7_weak_85 : decode cX7_weak 85 = .ok (.goto 4, 3) := by decide +kernel
theorem dX7_weak_88 : decode cX7_weak 88 = .ok (.iconst 1, 1) := by decide +kernel
theorem dX7_weak_89 : decode cX7_weak 89 = .ok (.iadd, 1) := by decide +kernel
theorem dX7_weak_90 : decode cX7_weak 90 = .ok (.istore_n 3, 1) := by decide +kernel
theorem dX7_weak_91 : decode cX7_weak 91 = .ok (.aload_n 0, 1) := by decide +kernel
theorem dX7_weak_92 : decode cX7_weak 92 = .ok (.iload 4, 2) := by decide +kernel
theorem dX7_weak_94 : decode cX7_weak 94 = .ok (.iload 5, 2) := by decide +kernel
theorem dX7_weak_96 : decode cX7_weak 96 = .ok (.iadd, 1) := by decide +kernel
theorem dX7_weak_97 : decode cX7_weak 97 = .ok (.invokevirtual 127, 3) := by decide +kernel
theorem dX7_weak_100 : decode cX7_weak 100 = .ok (.pop, 1) := by decide +kernel
theorem dX7_weak_101 : decode cX7_weak 101 = .ok (.iinc 5 1, 3) := by decide +kernel
theorem dX7_weak_104 : decode cX7_weak 104 = .ok (.goto (-50), 3) := by decide +kernel
theorem dX7_weak_107 : decode cX7_weak 107 = .ok (.iload_n 3, 1) := by decide +kernel
theorem dX7_weak_108 : decode cX7_weak 108 = .ok (.ireturn, 1) := by decide +kernel
set_option maxRecDepth 20000 in
theorem ggX7_isUnder_X7_part : GoodIn wsX7_isUnder wsX7_part := goodIn_r _ [5, 6, 7, 8, 9, 10, 11, 12, 13, 14, 15, 16, 17, 18, 19] (by decide +kernel) (by decide +kernel)
set_option maxRecDepth 20000 in
theorem gX7_isUnder_X7_part : GoodIn wsX7_isUnder (wsV RX7 43 RX7 yX7_part wsX7_part) := goodIn_app (goodIn_of _ (by decide +kernel)) ggX7_isUnder_X7_part
theorem dX7_isUnder_0 : decode cX7_isUnder 0 = .ok (.aload_n 0, 1) := by decide +kernel
theorem dX7_isUnder_1 : decode cX7_isUnder 1 = .ok (.iload_n 1, 1) := by decide +kernel
theorem dX7_isUnder_2 : decode cX7_isUnder 2 = .ok (.iconst 1, 1) := by decide +kernel
theorem dX7_isUnder_3 : decode cX7_isUnder 3 = .ok (.invokevirtual 43, 3) := by decide +kernel
theorem dX7_isUnder_6 : decode cX7_isUnder 6 = .ok (.istore_n 3, 1) := by decide +kernel
theorem dX7_isUnder_7 : decode cX7_isUnder 7 = .ok (.iload_n 3, 1) := by decide +kernel
theorem dX7_isUnder_8 : decode cX7_isUnder 8 = .ok (.bipush (-6), 2) := by decide +kernel
theorem dX7_isUnder_10 : decode cX7_isUnder 10 = .ok (.if_icmp .eq 18, 3) := by decide +kernel
theorem dX7_isUnder_13 : decode cX7_isUnder 13 = .ok (.iload_n 3, 1) := by decide +kernel
theorem dX7_isUnder_14 : decode cX7_isUnder 14 = .ok (.iload_n 2, 1) := by decide +kernel
theorem dX7_isUnder_15 : decode cX7_isUnder 15 = .ok (.if_icmp .eq 13, 3) := by decide +kernel
theorem dX7_isUnder_18 : decode cX7_isUnder 18 = .ok (.aload_n 0, 1) := by decide +kernel
theorem dX7_isUnder_19 : decode cX7_isUnder 19 = .ok (.iload_n 3, 1) := by decide +kernel
theorem dX7_isUnder_20 : decode cX7_isUnder 20 = .ok (.iconst 1, 1) := by decide +kernel
theorem dX7_isUnder_21 : decode cX7_isUnder 21 = .ok (.invokevirtual 43, 3) := by decide +kernel
theorem dX7_isUnder_24 : decode cX7_isUnder 24 = .ok (.istore_n 3, 1) := by decide +kernel
theorem dX7_isUnder_25 : decode cX7_isUnder 25 = .ok (.goto (-18), 3) := by decide +kernel
theorem dX7_isUnder_28 : decode cX7_isUnder 28 = .ok (.iload_n 3, 1) := by decide +kernel
theorem dX7_isUnder_29 : decode cX7_isUnder 29 = .ok (.iload_n 2, 1) := by decide +kernel
theorem dX7_isUnder_30 : decode cX7_isUnder 30 = .ok (.if_icmp .ne 7, 3) := by decide +kernel
theorem dX7_isUnder_33 : decode cX7_isUnder 33 = .ok (.iconst 1, 1) := by decide +kernel
theorem dX7_isUnder_34 : decode cX7_isUnder 34 = .ok (.goto 4, 3) := by decide +kernel
theorem dX7_isUnder_37 : decode cX7_isUnder 37 = .ok (.iconst 0, 1) := by decide +kernel
theorem dX7_isUnder_38 : decode cX7_isUnder 38 = .ok (.ireturn, 1) := by decide +kernel
set_option maxRecDepth 20000 in
theorem ggX7_widest_X7_within : GoodIn wsX7_widest wsX7_within := goodIn_r _ [5] (by decide +kernel) (by decide +kernel)
set_option maxRecDepth 20000 in
theorem gX7_widest_X7_within : GoodIn wsX7_widest (va_wsS RX7 39 yX7_within wsX7_within) := goodIn_app (goodIn_of _ (by decide +kernel)) ggX7_widest_X7_within
set_option maxRecDepth 20000 in
theorem ggX7_widest_X7_reachedSet : GoodIn wsX7_widest wsX7_reachedSet := goodIn_r _ [9, 1, 10, 11, 12, 4, 13, 14, 15, 16, 17, 18, 19, 20, 21, 22, 23, 24, 25, 26, 27, 28, 29, 30, 31, 32, 33, 34, 35, 36, 37, 38, 39, 40, 41, 42, 43, 44, 45, 46, 47, 48, 49, 50, 51, 52, 53, 54, 55, 56, 57, 58, 59, 60, 61, 62, 63, 64, 65, 66, 67, 68, 69, 70, 71, 72, 73, 74, 75, 76, 77, 78, 79, 80, 81, 86, 87, 88, 89, 90, 91, 92, 93, 94, 95, 96, 97, 98] (by decide +kernel) (by decide +kernel)
set_option maxRecDepth 20000 in
theorem gX7_widest_X7_reachedSet : GoodIn wsX7_widest (wsV RX7 165 RX7 yX7_reachedSet wsX7_reachedSet) := goodIn_app (goodIn_of _ (by decide +kernel)) ggX7_widest_X7_reachedSet
set_option maxRecDepth 20000 in
theorem ggX7_widest_X7_isUnder : GoodIn wsX7_widest wsX7_isUnder := goodIn_r _ [85, 38, 39, 40, 4, 41, 1, 86, 87, 88, 89, 90, 91, 92, 93, 94, 95, 96, 97, 98] (by decide +kernel) (by decide +kernel)
set_option maxRecDepth 20000 in
theorem gX7_widest_X7_isUnder : GoodIn wsX7_widest (wsV RX7 174 RX7 yX7_isUnder wsX7_isUnder) := goodIn_app (goodIn_of _ (by decide +kernel)) ggX7_widest_X7_isUnder
theorem dX7_widest_0 : decode cX7_widest 0 = .ok (.iload_n 1, 1) := by decide +kernel
theorem dX7_widest_1 : decode cX7_widest 1 = .ok (.iconst 0, 1) := by decide +kernel
theorem dX7_widest_2 : decode cX7_widest 2 = .ok (.iconst 1, 1) := by decide +kernel
theorem dX7_widest_3 : decode cX7_widest 3 = .ok (.invokestatic 39, 3) := by decide +kernel
theorem dX7_widest_6 : decode cX7_widest 6 = .ok (.ifCond .ne 6, 3) := by decide +kernel
theorem dX7_widest_9 : decode cX7_widest 9 = .ok (.bipush (-2), 2) := by decide +kernel
theorem dX7_widest_11 : decode cX7_widest 11 = .ok (.ireturn, 1) := by decide +kernel
theorem dX7_widest_12 : decode cX7_widest 12 = .ok (.aload_n 0, 1) := by decide +kernel
theorem dX7_widest_13 : decode cX7_widest 13 = .ok (.invokevirtual 165, 3) := by decide +kernel
theorem dX7_widest_16 : decode cX7_widest 16 = .ok (.istore_n 2, 1) := by decide +kernel
theorem dX7_widest_17 : decode cX7_widest 17 = .ok (.bipush (-6), 2) := by decide +kernel
theorem dX7_widest_19 : decode cX7_widest 19 = .ok (.istore_n 3, 1) := by decide +kernel
theorem dX7_widest_20 : decode cX7_widest 20 = .ok (.bipush (-6), 2) := by decide +kernel
theorem dX7_widest_22 : decode cX7_widest 22 = .ok (.istore 4, 2) := by decide +kernel
theorem dX7_widest_24 : decode cX7_widest 24 = .ok (.iconst 0, 1) := by decide +kernel
theorem dX7_widest_25 : decode cX7_widest 25 = .ok (.istore 5, 2) := by decide +kernel
theorem dX7_widest_27 : decode cX7_widest 27 = .ok (.iload 5, 2) := by decide +kernel
theorem dX7_widest_29 : decode cX7_widest 29 = .ok (.aload_n 0, 1) := by decide +kernel
theorem dX7_widest_30 : decode cX7_widest 30 = .ok (.getfield 7, 3) := by decide +kernel
theorem dX7_widest_33 : decode cX7_widest 33 = .ok (.iconst 3, 1) := by decide +kernel
theorem dX7_widest_34 : decode cX7_widest 34 = .ok (.iaload, 1) := by decide +kernel
theorem dX7_widest_35 : decode cX7_widest 35 = .ok (.if_icmp .ge 113, 3) := by decide +kernel
theorem dX7_widest_38 : decode cX7_widest 38 = .ok (.iconst 0, 1) := by decide +kernel
theorem dX7_widest_39 : decode cX7_widest 39 = .ok (.istore 6, 2) := by decide +kernel
theorem dX7_widest_41 : decode cX7_widest 41 = .ok (.iconst 0, 1) := by decide +kernel
theorem dX7_widest_42 : decode cX7_widest 42 = .ok (.istore 7, 2) := by decide +kernel
theorem dX7_widest_44 : decode cX7_widest 44 = .ok (.iload 7, 2) := by decide +kernel
theorem dX7_widest_46 : decode cX7_widest 46 = .ok (.aload_n 0, 1) := by decide +kernel
theorem dX7_widest_47 : decode cX7_widest 47 = .ok (.getfield 7, 3) := by decide +kernel
theorem dX7_widest_50 : decode cX7_widest 50 = .ok (.iconst 3, 1) := by decide +kernel
theorem dX7_widest_51 : decode cX7_widest 51 = .ok (.iaload, 1) := by decide +kernel
theorem dX7_widest_52 : decode cX7_widest 52 = .ok (.if_icmp .ge 40, 3) := by decide +kernel
theorem dX7_widest_55 : decode cX7_widest 55 = .ok (.iload 6, 2) := by decide +kernel
theorem dX7_widest_57 : decode cX7_widest 57 = .ok (.iload_n 2, 1) := by decide +kernel
theorem dX7_widest_58 : decode cX7_widest 58 = .ok (.iload 7, 2) := by decide +kernel
theorem dX7_widest_60 : decode cX7_widest 60 = .ok (.ishr, 1) := by decide +kernel
theorem dX7_widest_61 : decode cX7_widest 61 = .ok (.iconst 1, 1) := by decide +kernel
theorem dX7_widest_62 : decode cX7_widest 62 = .ok (.iand, 1) := by decide +kernel
theorem dX7_widest_63 : decode cX7_widest 63 = .ok (.iconst 1, 1) := by decide +kernel
theorem dX7_widest_64 : decode cX7_widest 64 = .ok (.if_icmp .ne 18, 3) := by decide +kernel
theorem dX7_widest_67 : decode cX7_widest 67 = .ok (.aload_n 0, 1) := by decide +kernel
theorem dX7_widest_68 : decode cX7_widest 68 = .ok (.iload 7, 2) := by decide +kernel
theorem dX7_widest_70 : decode cX7_widest 70 = .ok (.iload 5, 2) := by decide +kernel
theorem dX7_widest_72 : decode cX7_widest 72 = .ok (.invokevirtual 174, 3) := by decide +kernel
theorem dX7_widest_75 : decode cX7_widest 75 = .ok (.ifCond .eq 7, 3) := by decide +kernel
theorem dX7_widest_78 : decode cX7_widest 78 = .ok (.iconst 1, 1) := by decide +kernel
theorem dX7_widest_79 : decode cX7_widest 79 = .ok (.goto 4, 3) := by decide +kernel
theorem dX7_widest_82 : decode cX7_widest 82 = .ok (.iconst 0, 1) := by decide +kernel
theorem dX7_widest_83 : decode cX7_widest 83 = .ok (.iadd, 1) := by decide +kernel
theorem dX7_widest_84 : decode cX7_widest 84 = .ok (.istore 6, 2) := by decide +kernel
theorem dX7_widest_86 : decode cX7_widest 86 = .ok (.iinc 7 1, 3) := by decide +kernel
theorem dX7_widest_89 : decode cX7_widest 89 = .ok (.goto (-45), 3) := by decide +kernel
theorem dX7_widest_92 : decode cX7_widest 92 = .ok (.iload_n 2, 1) := by decide +kernel
theorem dX7_widest_93 : decode cX7_widest 93 = .ok (.iload 5, 2) := by decide +kernel
theorem dX7_widest_95 : decode cX7_widest 95 = .ok (.ishr, 1) := by decide +kernel
theorem dX7_widest_96 : decode cX7_widest 96 = .ok (.iconst 1, 1) := by decide +kernel
theorem dX7_widest_97 : decode cX7_widest 97 = .ok (.iand, 1) := by decide +kernel
theorem dX7_widest_98 : decode cX7_widest 98 = .ok (.iconst 1, 1) := by decide +kernel
theorem dX7_widest_99 : decode cX7_widest 99 = .ok (.if_icmp .ne 14, 3) := by decide +kernel
theorem dX7_widest_102 : decode cX7_widest 102 = .ok (.iload 6, 2) := by decide +kernel
theorem dX7_widest_104 : decode cX7_widest 104 = .ok (.iload 4, 2) := by decide +kernel
theorem dX7_widest_106 : decode cX7_widest 106 = .ok (.if_icmp .le 7, 3) := by decide +kernel
theorem dX7_widest_109 : decode cX7_widest 109 = .ok (.iconst 1, 1) := by decide +kernel
theorem dX7_widest_110 : decode cX7_widest 110 = .ok (.goto 4, 3) := by decide +kernel
theorem dX7_widest_113 : decode cX7_widest 113 = .ok (.iconst 0, 1) := by decide +kernel
theorem dX7_widest_114 : decode cX7_widest 114 = .ok (.istore 7, 2) := by decide +kernel
theorem dX7_widest_116 : decode cX7_widest 116 = .ok (.iload 7, 2) := by decide +kernel
theorem dX7_widest_118 : decode cX7_widest 118 = .ok (.ifCond .eq 8, 3) := by decide +kernel
theorem dX7_widest_121 : decode cX7_widest 121 = .ok (.iload 5, 2) := by decide +kernel
theorem dX7_widest_123 : decode cX7_widest 123 = .ok (.goto 4, 3) := by decide +kernel
theorem dX7_widest_126 : decode cX7_widest 126 = .ok (.iload_n 3, 1) := by decide +kernel
theorem dX7_widest_127 : decode cX7_widest 127 = .ok (.istore_n 3, 1) := by decide +kernel
theorem dX7_widest_128 : decode cX7_widest 128 = .ok (.iload 7, 2) := by decide +kernel
theorem dX7_widest_130 : decode cX7_widest 130 = .ok (.ifCond .eq 8, 3) := by decide +kernel
theorem dX7_widest_133 : decode cX7_widest 133 = .ok (.iload 6, 2) := by decide +kernel
theorem dX7_widest_135 : decode cX7_widest 135 = .ok (.goto 5, 3) := by decide +kernel
theorem dX7_widest_138 : decode cX7_widest 138 = .ok (.iload 4, 2) := by decide +kernel
theorem dX7_widest_140 : decode cX7_widest 140 = .ok (.istore 4, 2) := by decide +kernel
theorem dX7_widest_142 : decode cX7_widest 142 = .ok (.iinc 5 1, 3) := by decide +kernel
theorem dX7_widest_145 : decode cX7_widest 145 = .ok (.goto (-118), 3) := by decide +kernel
theorem dX7_widest_148 : decode cX7_widest 148 = .ok (.iload_n 1, 1) := by decide +kernel
theorem dX7_widest_149 : decode cX7_widest 149 = .ok (.ifCond .ne 7, 3) := by decide +kernel
theorem dX7_widest_152 : decode cX7_widest 152 = .ok (.iload_n 3, 1) := by decide +kernel
theorem dX7_widest_153 : decode cX7_widest 153 = .ok (.goto 5, 3) := by decide +kernel
theorem dX7_widest_156 : decode cX7_widest 156 = .ok (.iload 4, 2) := by decide +kernel
theorem dX7_widest_158 : decode cX7_widest 158 = .ok (.ireturn, 1) := by decide +kernel
set_option maxRecDepth 20000 in
theorem ggX7_put_X7_within : GoodIn wsX7_put wsX7_within := goodIn_r _ [7] (by decide +kernel) (by decide +kernel)
set_option maxRecDepth 20000 in
theorem gX7_put_X7_within : GoodIn wsX7_put (va_wsS RX7 39 yX7_within wsX7_within) := goodIn_app (goodIn_of _ (by decide +kernel)) ggX7_put_X7_within
theorem dX7_put_0 : decode cX7_put 0 = .ok (.iconst 0, 1) := by decide +kernel
theorem dX7_put_1 : decode cX7_put 1 = .ok (.istore_n 3, 1) := by decide +kernel
theorem dX7_put_2 : decode cX7_put 2 = .ok (.lload_n 1, 1) := by decide +kernel
theorem dX7_put_3 : decode cX7_put 3 = .ok (.lstore 4, 2) := by decide +kernel
theorem dX7_put_5 : decode cX7_put 5 = .ok (.iconst 1, 1) := by decide +kernel
theorem dX7_put_6 : decode cX7_put 6 = .ok (.istore 6, 2) := by decide +kernel
theorem dX7_put_8 : decode cX7_put 8 = .ok (.iload_n 3, 1) := by decide +kernel
theorem dX7_put_9 : decode cX7_put 9 = .ok (.bipush 8, 2) := by decide +kernel
theorem dX7_put_11 : decode cX7_put 11 = .ok (.if_icmp .ge 56, 3) := by decide +kernel
theorem dX7_put_14 : decode cX7_put 14 = .ok (.lload 4, 2) := by decide +kernel
theorem dX7_put_16 : decode cX7_put 16 = .ok (.ldc2_w 113, 3) := by decide +kernel
theorem dX7_put_19 : decode cX7_put 19 = .ok (.land, 1) := by decide +kernel
theorem dX7_put_20 : decode cX7_put 20 = .ok (.lconst 0, 1) := by decide +kernel
theorem dX7_put_21 : decode cX7_put 21 = .ok (.lcmp, 1) := by decide +kernel
theorem dX7_put_22 : decode cX7_put 22 = .ok (.ifCond .eq 45, 3) := by decide +kernel
theorem dX7_put_25 : decode cX7_put 25 = .ok (.iload 6, 2) := by decide +kernel
theorem dX7_put_27 : decode cX7_put 27 = .ok (.ifCond .eq 24, 3) := by decide +kernel
theorem dX7_put_30 : decode cX7_put 30 = .ok (.lload 4, 2) := by decide +kernel
theorem dX7_put_32 : decode cX7_put 32 = .ok (.ldc2_w 113, 3) := by decide +kernel
theorem dX7_put_35 : decode cX7_put 35 = .ok (.land, 1) := by decide +kernel
theorem dX7_put_36 : decode cX7_put 36 = .ok (.l2i, 1) := by decide +kernel
theorem dX7_put_37 : decode cX7_put 37 = .ok (.bipush 33, 2) := by decide +kernel
theorem dX7_put_39 : decode cX7_put 39 = .ok (.bipush 126, 2) := by decide +kernel
theorem dX7_put_41 : decode cX7_put 41 = .ok (.invokestatic 39, 3) := by decide +kernel
theorem dX7_put_44 : decode cX7_put 44 = .ok (.ifCond .eq 7, 3) := by decide +kernel
theorem dX7_put_47 : decode cX7_put 47 = .ok (.iconst 1, 1) := by decide +kernel
theorem dX7_put_48 : decode cX7_put 48 = .ok (.goto 4, 3) := by decide +kernel
theorem dX7_put_51 : decode cX7_put 51 = .ok (.iconst 0, 1) := by decide +kernel
theorem dX7_put_52 : decode cX7_put 52 = .ok (.istore 6, 2) := by decide +kernel
theorem dX7_put_54 : decode cX7_put 54 = .ok (.lload 4, 2) := by decide +kernel
theorem dX7_put_56 : decode cX7_put 56 = .ok (.bipush 8, 2) := by decide +kernel
theorem dX7_put_58 : decode cX7_put 58 = .ok (.lushr, 1) := by decide +kernel
theorem dX7_put_59 : decode cX7_put 59 = .ok (.lstore 4, 2) := by decide +kernel
theorem dX7_put_61 : decode cX7_put 61 = .ok (.iinc 3 1, 3) := by decide +kernel
theorem dX7_put_64 : decode cX7_put 64 = .ok (.goto (-56), 3) := by decide +kernel
theorem dX7_put_67 : decode cX7_put 67 = .ok (.iload_n 3, 1) := by decide +kernel
theorem dX7_put_68 : decode cX7_put 68 = .ok (.ifCond .eq 15, 3) := by decide +kernel
theorem dX7_put_71 : decode cX7_put 71 = .ok (.iload 6, 2) := by decide +kernel
theorem dX7_put_73 : decode cX7_put 73 = .ok (.ifCond .eq 10, 3) := by decide +kernel
theorem dX7_put_76 : decode cX7_put 76 = .ok (.lload 4, 2) := by decide +kernel
theorem dX7_put_78 : decode cX7_put 78 = .ok (.lconst 0, 1) := by decide +kernel
theorem dX7_put_79 : decode cX7_put 79 = .ok (.lcmp, 1) := by decide +kernel
theorem dX7_put_80 : decode cX7_put 80 = .ok (.ifCond .eq 6, 3) := by decide +kernel
theorem dX7_put_83 : decode cX7_put 83 = .ok (.bipush (-2), 2) := by decide +kernel
theorem dX7_put_85 : decode cX7_put 85 = .ok (.ireturn, 1) := by decide +kernel
theorem dX7_put_86 : decode cX7_put 86 = .ok (.aload_n 0, 1) := by decide +kernel
theorem dX7_put_87 : decode cX7_put 87 = .ok (.getfield 162, 3) := by decide +kernel
theorem dX7_put_90 : decode cX7_put 90 = .ok (.iload_n 3, 1) := by decide +kernel
theorem dX7_put_91 : decode cX7_put 91 = .ok (.iadd, 1) := by decide +kernel
theorem dX7_put_92 : decode cX7_put 92 = .ok (.bipush 80, 2) := by decide +kernel
theorem dX7_put_94 : decode cX7_put 94 = .ok (.if_icmp .le 6, 3) := by decide +kernel
theorem dX7_put_97 : decode cX7_put 97 = .ok (.bipush (-4), 2) := by decide +kernel
theorem dX7_put_99 : decode cX7_put 99 = .ok (.ireturn, 1) := by decide +kernel
theorem dX7_put_100 : decode cX7_put 100 = .ok (.iload_n 3, 1) := by decide +kernel
theorem dX7_put_101 : decode cX7_put 101 = .ok (.iconst 1, 1) := by decide +kernel
theorem dX7_put_102 : decode cX7_put 102 = .ok (.isub, 1) := by decide +kernel
theorem dX7_put_103 : decode cX7_put 103 = .ok (.istore 7, 2) := by decide +kernel
theorem dX7_put_105 : decode cX7_put 105 = .ok (.iload 7, 2) := by decide +kernel
theorem dX7_put_107 : decode cX7_put 107 = .ok (.ifCond .lt 40, 3) := by decide +kernel
theorem dX7_put_110 : decode cX7_put 110 = .ok (.aload_n 0, 1) := by decide +kernel
theorem dX7_put_111 : decode cX7_put 111 = .ok (.getfield 22, 3) := by decide +kernel
theorem dX7_put_114 : decode cX7_put 114 = .ok (.aload_n 0, 1) := by decide +kernel
theorem dX7_put_115 : decode cX7_put 115 = .ok (.getfield 162, 3) := by decide +kernel
theorem dX7_put_118 : decode cX7_put 118 = .ok (.lload_n 1, 1) := by decide +kernel
theorem dX7_put_119 : decode cX7_put 119 = .ok (.bipush 8, 2) := by decide +kernel
theorem dX7_put_121 : decode cX7_put 121 = .ok (.iload 7, 2) := by decide +kernel
theorem dX7_put_123 : decode cX7_put 123 = .ok (.imul, 1) := by decide +kernel
theorem dX7_put_124 : decode cX7_put 124 = .ok (.lushr, 1) := by decide +kernel
theorem dX7_put_125 : decode cX7_put 125 = .ok (.ldc2_w 113, 3) := by decide +kernel
theorem dX7_put_128 : decode cX7_put 128 = .ok (.land, 1) := by decide +kernel
theorem dX7_put_129 : decode cX7_put 129 = .ok (.l2i, 1) := by decide +kernel
theorem dX7_put_130 : decode cX7_put 130 = .ok (.iastore, 1) := by decide +kernel
theorem dX7_put_131 : decode cX7_put 131 = .ok (.aload_n 0, 1) := by decide +kernel
theorem dX7_put_132 : decode cX7_put 132 = .ok (.dup, 1) := by decide +kernel
theorem dX7_put_133 : decode cX7_put 133 = .ok (.getfield 162, 3) := by decide +kernel
theorem dX7_put_136 : decode cX7_put 136 = .ok (.iconst 1, 1) := by decide +kernel
theorem dX7_put_137 : decode cX7_put 137 = .ok (.iadd, 1) := by decide +kernel
theorem dX7_put_138 : decode cX7_put 138 = .ok (.putfield 162, 3) := by decide +kernel
theorem dX7_put_141 : decode cX7_put 141 = .ok (.iinc 7 (-1), 3) := by decide +kernel
theorem dX7_put_144 : decode cX7_put 144 = .ok (.goto (-39), 3) := by decide +kernel
theorem dX7_put_147 : decode cX7_put 147 = .ok (.aload_n 0, 1) := by decide +kernel
theorem dX7_put_148 : decode cX7_put 148 = .ok (.getfield 162, 3) := by decide +kernel
theorem dX7_put_151 : decode cX7_put 151 = .ok (.ireturn, 1) := by decide +kernel
theorem dX7_wipe_0 : decode cX7_wipe 0 = .ok (.aload_n 0, 1) := by decide +kernel
theorem dX7_wipe_1 : decode cX7_wipe 1 = .ok (.getfield 162, 3) := by decide +kernel
theorem dX7_wipe_4 : decode cX7_wipe 4 = .ok (.istore_n 1, 1) := by decide +kernel
theorem dX7_wipe_5 : decode cX7_wipe 5 = .ok (.aload_n 0, 1) := by decide +kernel
theorem dX7_wipe_6 : decode cX7_wipe 6 = .ok (.iconst 0, 1) := by decide +kernel
theorem dX7_wipe_7 : decode cX7_wipe 7 = .ok (.putfield 162, 3) := by decide +kernel
theorem dX7_wipe_10 : decode cX7_wipe 10 = .ok (.iload_n 1, 1) := by decide +kernel
theorem dX7_wipe_11 : decode cX7_wipe 11 = .ok (.ireturn, 1) := by decide +kernel
theorem dX7_character_0 : decode cX7_character 0 = .ok (.iload_n 1, 1) := by decide +kernel
theorem dX7_character_1 : decode cX7_character 1 = .ok (.aload_n 0, 1) := by decide +kernel
theorem dX7_character_2 : decode cX7_character 2 = .ok (.getfield 162, 3) := by decide +kernel
theorem dX7_character_5 : decode cX7_character 5 = .ok (.if_icmp .ge 12, 3) := by decide +kernel
theorem dX7_character_8 : decode cX7_character 8 = .ok (.aload_n 0, 1) := by decide +kernel
theorem dX7_character_9 : decode cX7_character 9 = .ok (.getfield 22, 3) := by decide +kernel
theorem dX7_character_12 : decode cX7_character 12 = .ok (.iload_n 1, 1) := by decide +kernel
theorem dX7_character_13 : decode cX7_character 13 = .ok (.iaload, 1) := by decide +kernel
theorem dX7_character_14 : decode cX7_character 14 = .ok (.goto 4, 3) := by decide +kernel
theorem dX7_character_17 : decode cX7_character 17 = .ok (.iconst (-1), 1) := by decide +kernel
theorem dX7_character_18 : decode cX7_character 18 = .ok (.ireturn, 1) := by decide +kernel
set_option maxRecDepth 20000 in
theorem ggX7_isNext_X7_character : GoodIn wsX7_isNext wsX7_character := goodIn_r _ [6, 7, 8, 9, 10, 11, 12, 13, 14, 15, 16, 17, 18, 19, 20, 21] (by decide +kernel) (by decide +kernel)
set_option maxRecDepth 20000 in
theorem gX7_isNext_X7_character : GoodIn wsX7_isNext (wsV RX7 180 RX7 yX7_character wsX7_character) := goodIn_app (goodIn_of _ (by decide +kernel)) ggX7_isNext_X7_character
theorem dX7_isNext_0 : decode cX7_isNext 0 = .ok (.aload_n 0, 1) := by decide +kernel
theorem dX7_isNext_1 : decode cX7_isNext 1 = .ok (.aload_n 0, 1) := by decide +kernel
theorem dX7_isNext_2 : decode cX7_isNext 2 = .ok (.getfield 177, 3) := by decide +kernel
theorem dX7_isNext_5 : decode cX7_isNext 5 = .ok (.invokevirtual 180, 3) := by decide +kernel
theorem dX7_isNext_8 : decode cX7_isNext 8 = .ok (.iload_n 1, 1) := by decide +kernel
theorem dX7_isNext_9 : decode cX7_isNext 9 = .ok (.if_icmp .ne 7, 3) := by decide +kernel
theorem dX7_isNext_12 : decode cX7_isNext 12 = .ok (.iconst 1, 1) := by decide +kernel
theorem dX7_isNext_13 : decode cX7_isNext 13 = .ok (.goto 4, 3) := by decide +kernel
theorem dX7_isNext_16 : decode cX7_isNext 16 = .ok (.iconst 0, 1) := by decide +kernel
theorem dX7_isNext_17 : decode cX7_isNext 17 = .ok (.istore_n 2, 1) := by decide +kernel
theorem dX7_isNext_18 : decode cX7_isNext 18 = .ok (.aload_n 0, 1) := by decide +kernel
theorem dX7_isNext_19 : decode cX7_isNext 19 = .ok (.dup, 1) := by decide +kernel
theorem dX7_isNext_20 : decode cX7_isNext 20 = .ok (.getfield 177, 3) := by decide +kernel
theorem dX7_isNext_23 : decode cX7_isNext 23 = .ok (.iload_n 2, 1) := by decide +kernel
theorem dX7_isNext_24 : decode cX7_isNext 24 = .ok (.ifCond .eq 7, 3) := by decide +kernel
theorem dX7_isNext_27 : decode cX7_isNext 27 = .ok (.iconst 1, 1) := by decide +kernel
theorem dX7_isNext_28 : decode cX7_isNext 28 = .ok (.goto 4, 3) := by decide +kernel
theorem dX7_isNext_31 : decode cX7_isNext 31 = .ok (.iconst 0, 1) := by decide +kernel
theorem dX7_isNext_32 : decode cX7_isNext 32 = .ok (.iadd, 1) := by decide +kernel
theorem dX7_isNext_33 : decode cX7_isNext 33 = .ok (.putfield 177, 3) := by decide +kernel
theorem dX7_isNext_36 : decode cX7_isNext 36 = .ok (.iload_n 2, 1) := by decide +kernel
theorem dX7_isNext_37 : decode cX7_isNext 37 = .ok (.ireturn, 1) := by decide +kernel
set_option maxRecDepth 20000 in
theorem ggX7_isDigit_X7_character : GoodIn wsX7_isDigit wsX7_character := goodIn_r _ [6, 7, 8, 12, 13, 14, 15, 16, 17, 18, 19, 20, 21, 22, 23, 24] (by decide +kernel) (by decide +kernel)
set_option maxRecDepth 20000 in
theorem gX7_isDigit_X7_character : GoodIn wsX7_isDigit (wsV RX7 180 RX7 yX7_character wsX7_character) := goodIn_app (goodIn_of _ (by decide +kernel)) ggX7_isDigit_X7_character
set_option maxRecDepth 20000 in
theorem ggX7_isDigit_X7_within : GoodIn wsX7_isDigit wsX7_within := goodIn_r _ [11] (by decide +kernel) (by decide +kernel)
set_option maxRecDepth 20000 in
theorem gX7_isDigit_X7_within : GoodIn wsX7_isDigit (va_wsS RX7 39 yX7_within wsX7_within) := goodIn_app (goodIn_of _ (by decide +kernel)) ggX7_isDigit_X7_within
theorem dX7_isDigit_0 : decode cX7_isDigit 0 = .ok (.aload_n 0, 1) := by decide +kernel
theorem dX7_isDigit_1 : decode cX7_isDigit 1 = .ok (.aload_n 0, 1) := by decide +kernel
theorem dX7_isDigit_2 : decode cX7_isDigit 2 = .ok (.getfield 177, 3) := by decide +kernel
theorem dX7_isDigit_5 : decode cX7_isDigit 5 = .ok (.invokevirtual 180, 3) := by decide +kernel
theorem dX7_isDigit_8 : decode cX7_isDigit 8 = .ok (.bipush 48, 2) := by decide +kernel
theorem dX7_isDigit_10 : decode cX7_isDigit 10 = .ok (.bipush 57, 2) := by decide +kernel
theorem dX7_isDigit_12 : decode cX7_isDigit 12 = .ok (.invokestatic 39, 3) := by decide +kernel
theorem dX7_isDigit_15 : decode cX7_isDigit 15 = .ok (.ireturn, 1) := by decide +kernel
set_option maxRecDepth 20000 in
theorem ggX7_takesNumber_X7_isDigit : GoodIn wsX7_takesNumber wsX7_isDigit := goodIn_r _ [8, 1, 9, 10, 11, 7, 12, 13, 14, 15, 16, 17, 18, 19, 20, 21, 22, 23, 24, 25, 26, 27, 28, 29, 30] (by decide +kernel) (by decide +kernel)
set_option maxRecDepth 20000 in
theorem gX7_takesNumber_X7_isDigit : GoodIn wsX7_takesNumber (wsV RX7 183 RX7 yX7_isDigit wsX7_isDigit) := goodIn_app (goodIn_of _ (by decide +kernel)) ggX7_takesNumber_X7_isDigit
set_option maxRecDepth 20000 in
theorem ggX7_takesNumber_X7_character : GoodIn wsX7_takesNumber wsX7_character := goodIn_r _ [12, 13, 14, 18, 19, 20, 21, 22, 23, 24, 25, 26, 27, 28, 29, 30] (by decide +kernel) (by decide +kernel)
set_option maxRecDepth 20000 in
theorem gX7_takesNumber_X7_character : GoodIn wsX7_takesNumber (wsV RX7 180 RX7 yX7_character wsX7_character) := goodIn_app (goodIn_of _ (by decide +kernel)) ggX7_takesNumber_X7_character
theorem dX7_takesNumber_0 : decode cX7_takesNumber 0 = .ok (.aload_n 0, 1) := by decide +kernel
theorem dX7_takesNumber_1 : decode cX7_takesNumber 1 = .ok (.invokevirtual 183, 3) := by decide +kernel
theorem dX7_takesNumber_4 : decode cX7_takesNumber 4 = .ok (.ifCond .ne 5, 3) := by decide +kernel
theorem dX7_takesNumber_7 : decode cX7_takesNumber 7 = .ok (.iconst 0, 1) := by decide +kernel
theorem dX7_takesNumber_8 : decode cX7_takesNumber 8 = .ok (.ireturn, 1) := by decide +kernel
theorem dX7_takesNumber_9 : decode cX7_takesNumber 9 = .ok (.aload_n 0, 1) := by decide +kernel
theorem dX7_takesNumber_10 : decode cX7_takesNumber 10 = .ok (.aload_n 0, 1) := by decide +kernel
theorem dX7_takesNumber_11 : decode cX7_takesNumber 11 = .ok (.getfield 177, 3) := by decide +kernel
theorem dX7_takesNumber_14 : decode cX7_takesNumber 14 = .ok (.invokevirtual 180, 3) := by decide +kernel
theorem dX7_takesNumber_17 : decode cX7_takesNumber 17 = .ok (.bipush 48, 2) := by decide +kernel
theorem dX7_takesNumber_19 : decode cX7_takesNumber 19 = .ok (.isub, 1) := by decide +kernel
theorem dX7_takesNumber_20 : decode cX7_takesNumber 20 = .ok (.istore_n 1, 1) := by decide +kernel
theorem dX7_takesNumber_21 : decode cX7_takesNumber 21 = .ok (.aload_n 0, 1) := by decide +kernel
theorem dX7_takesNumber_22 : decode cX7_takesNumber 22 = .ok (.dup, 1) := by decide +kernel
theorem dX7_takesNumber_23 : decode cX7_takesNumber 23 = .ok (.getfield 177, 3) := by decide +kernel
theorem dX7_takesNumber_26 : decode cX7_takesNumber 26 = .ok (.iconst 1, 1) := by decide +kernel
theorem dX7_takesNumber_27 : decode cX7_takesNumber 27 = .ok (.iadd, 1) := by decide +kernel
theorem dX7_takesNumber_28 : decode cX7_takesNumber 28 = .ok (.putfield 177, 3) := by decide +kernel
theorem dX7_takesNumber_31 : decode cX7_takesNumber 31 = .ok (.iload_n 1, 1) := by decide +kernel
theorem dX7_takesNumber_32 : decode cX7_takesNumber 32 = .ok (.ifCond .le 47, 3) := by decide +kernel
theorem dX7_takesNumber_35 : decode cX7_takesNumber 35 = .ok (.iload_n 1, 1) := by decide +kernel
theorem dX7_takesNumber_36 : decode cX7_takesNumber 36 = .ok (.sipush 1000, 3) := by decide +kernel
theorem dX7_takesNumber_39 : decode cX7_takesNumber 39 = .ok (.if_icmp .ge 40, 3) := by decide +kernel
theorem dX7_takesNumber_42 : decode cX7_takesNumber 42 = .ok (.aload_n 0, 1) := by decide +kernel
theorem dX7_takesNumber_43 : decode cX7_takesNumber 43 = .ok (.invokevirtual 183, 3) := by decide +kernel
theorem dX7_takesNumber_46 : decode cX7_takesNumber 46 = .ok (.ifCond .eq 33, 3) := by decide +kernel
theorem dX7_takesNumber_49 : decode cX7_takesNumber 49 = .ok (.bipush 10, 2) := by decide +kernel
theorem dX7_takesNumber_51 : decode cX7_takesNumber 51 = .ok (.iload_n 1, 1) := by decide +kernel
theorem dX7_takesNumber_52 : decode cX7_takesNumber 52 = .ok (.imul, 1) := by decide +kernel
theorem dX7_takesNumber_53 : decode cX7_takesNumber 53 = .ok (.aload_n 0, 1) := by decide +kernel
theorem dX7_takesNumber_54 : decode cX7_takesNumber 54 = .ok (.aload_n 0, 1) := by decide +kernel
theorem dX7_takesNumber_55 : decode cX7_takesNumber 55 = .ok (.getfield 177, 3) := by decide +kernel
theorem dX7_takesNumber_58 : decode cX7_takesNumber 58 = .ok (.invokevirtual 180, 3) := by decide +kernel
theorem dX7_takesNumber_61 : decode cX7_takesNumber 61 = .ok (.iadd, 1) := by decide +kernel
theorem dX7_takesNumber_62 : decode cX7_takesNumber 62 = .ok (.bipush 48, 2) := by decide +kernel
theorem dX7_takesNumber_64 : decode cX7_takesNumber 64 = .ok (.isub, 1) := by decide +kernel
theorem dX7_takesNumber_65 : decode cX7_takesNumber 65 = .ok (.istore_n 1, 1) := by decide +kernel
theorem dX7_takesNumber_66 : decode cX7_takesNumber 66 = .ok (.aload_n 0, 1) := by decide +kernel
theorem dX7_takesNumber_67 : decode cX7_takesNumber 67 = .ok (.dup, 1) := by decide +kernel
theorem dX7_takesNumber_68 : decode cX7_takesNumber 68 = .ok (.getfield 177, 3) := by decide +kernel
theorem dX7_takesNumber_71 : decode cX7_takesNumber 71 = .ok (.iconst 1, 1) := by decide +kernel
theorem dX7_takesNumber_72 : decode cX7_takesNumber 72 = .ok (.iadd, 1) := by decide +kernel
theorem dX7_takesNumber_73 : decode cX7_takesNumber 73 = .ok (.putfield 177, 3) := by decide +kernel
theorem dX7_takesNumber_76 : decode cX7_takesNumber 76 = .ok (.goto (-45), 3) := by decide +kernel
theorem dX7_takesNumber_79 : decode cX7_takesNumber 79 = .ok (.aload_n 0, 1) := by decide +kernel
theorem dX7_takesNumber_80 : decode cX7_takesNumber 80 = .ok (.getfield 28, 3) := by decide +kernel
theorem dX7_takesNumber_83 : decode cX7_takesNumber 83 = .ok (.aload_n 0, 1) := by decide +kernel
theorem dX7_takesNumber_84 : decode cX7_takesNumber 84 = .ok (.getfield 187, 3) := by decide +kernel
theorem dX7_takesNumber_87 : decode cX7_takesNumber 87 = .ok (.iload_n 1, 1) := by decide +kernel
theorem dX7_takesNumber_88 : decode cX7_takesNumber 88 = .ok (.iastore, 1) := by decide +kernel
theorem dX7_takesNumber_89 : decode cX7_takesNumber 89 = .ok (.aload_n 0, 1) := by decide +kernel
theorem dX7_takesNumber_90 : decode cX7_takesNumber 90 = .ok (.dup, 1) := by decide +kernel
theorem dX7_takesNumber_91 : decode cX7_takesNumber 91 = .ok (.getfield 187, 3) := by decide +kernel
theorem dX7_takesNumber_94 : decode cX7_takesNumber 94 = .ok (.iconst 1, 1) := by decide +kernel
theorem dX7_takesNumber_95 : decode cX7_takesNumber 95 = .ok (.iadd, 1) := by decide +kernel
theorem dX7_takesNumber_96 : decode cX7_takesNumber 96 = .ok (.putfield 187, 3) := by decide +kernel
theorem dX7_takesNumber_99 : decode cX7_takesNumber 99 = .ok (.iconst 1, 1) := by decide +kernel
theorem dX7_takesNumber_100 : decode cX7_takesNumber 100 = .ok (.ireturn, 1) := by decide +kernel
set_option maxRecDepth 20000 in
theorem ggX7_takesBytes_X7_takesNumber : GoodIn wsX7_takesBytes wsX7_takesNumber := goodIn_r _ [5, 6, 7, 8, 9, 10, 11, 4, 12, 13, 14, 15, 16, 17, 18, 19, 20, 21, 26, 27, 28, 29, 30, 31, 32, 33, 34, 35, 36, 37, 38] (by decide +kernel) (by decide +kernel)
set_option maxRecDepth 20000 in
theorem gX7_takesBytes_X7_takesNumber : GoodIn wsX7_takesBytes (wsV RX7 190 RX7 yX7_takesNumber wsX7_takesNumber) := goodIn_app (goodIn_of _ (by decide +kernel)) ggX7_takesBytes_X7_takesNumber
set_option maxRecDepth 20000 in
theorem ggX7_takesBytes_X7_isNext : GoodIn wsX7_takesBytes wsX7_isNext := goodIn_r _ [25, 6, 13, 14, 15, 4, 16, 17, 18, 26, 27, 28, 29, 30, 31, 32, 33, 34, 35, 36, 37, 38] (by decide +kernel) (by decide +kernel)
set_option maxRecDepth 20000 in
theorem gX7_takesBytes_X7_isNext : GoodIn wsX7_takesBytes (wsV RX7 193 RX7 yX7_isNext wsX7_isNext) := goodIn_app (goodIn_of _ (by decide +kernel)) ggX7_takesBytes_X7_isNext
theorem dX7_takesBytes_0 : decode cX7_takesBytes 0 = .ok (.aload_n 0, 1) := by decide +kernel
theorem dX7_takesBytes_1 : decode cX7_takesBytes 1 = .ok (.invokevirtual 190, 3) := by decide +kernel
theorem dX7_takesBytes_4 : decode cX7_takesBytes 4 = .ok (.istore_n 1, 1) := by decide +kernel
theorem dX7_takesBytes_5 : decode cX7_takesBytes 5 = .ok (.iload_n 1, 1) := by decide +kernel
theorem dX7_takesBytes_6 : decode cX7_takesBytes 6 = .ok (.ifCond .eq 20, 3) := by decide +kernel
theorem dX7_takesBytes_9 : decode cX7_takesBytes 9 = .ok (.aload_n 0, 1) := by decide +kernel
theorem dX7_takesBytes_10 : decode cX7_takesBytes 10 = .ok (.bipush 44, 2) := by decide +kernel
theorem dX7_takesBytes_12 : decode cX7_takesBytes 12 = .ok (.invokevirtual 193, 3) := by decide +kernel
theorem dX7_takesBytes_15 : decode cX7_takesBytes 15 = .ok (.ifCond .eq 11, 3) := by decide +kernel
theorem dX7_takesBytes_18 : decode cX7_takesBytes 18 = .ok (.aload_n 0, 1) := by decide +kernel
theorem dX7_takesBytes_19 : decode cX7_takesBytes 19 = .ok (.invokevirtual 190, 3) := by decide +kernel
theorem dX7_takesBytes_22 : decode cX7_takesBytes 22 = .ok (.istore_n 1, 1) := by decide +kernel
theorem dX7_takesBytes_23 : decode cX7_takesBytes 23 = .ok (.goto (-18), 3) := by decide +kernel
theorem dX7_takesBytes_26 : decode cX7_takesBytes 26 = .ok (.iload_n 1, 1) := by decide +kernel
theorem dX7_takesBytes_27 : decode cX7_takesBytes 27 = .ok (.ireturn, 1) := by decide +kernel
set_option maxRecDepth 20000 in
theorem ggX7_takesBlock_X7_takesNumber : GoodIn wsX7_takesBlock wsX7_takesNumber := goodIn_r _ [6, 7, 8, 9, 10, 11, 12, 5, 13, 14, 15, 16, 17, 18, 19, 20, 21, 22, 31, 32, 33, 34, 35, 36, 37, 38, 39, 40, 41, 42, 43] (by decide +kernel) (by decide +kernel)
set_option maxRecDepth 20000 in
theorem gX7_takesBlock_X7_takesNumber : GoodIn wsX7_takesBlock (wsV RX7 190 RX7 yX7_takesNumber wsX7_takesNumber) := goodIn_app (goodIn_of _ (by decide +kernel)) ggX7_takesBlock_X7_takesNumber
set_option maxRecDepth 20000 in
theorem ggX7_takesBlock_X7_isNext : GoodIn wsX7_takesBlock wsX7_isNext := goodIn_r _ [26, 7, 14, 15, 16, 5, 17, 18, 19, 31, 32, 33, 34, 35, 36, 37, 38, 39, 40, 41, 42, 43] (by decide +kernel) (by decide +kernel)
set_option maxRecDepth 20000 in
theorem gX7_takesBlock_X7_isNext : GoodIn wsX7_takesBlock (wsV RX7 193 RX7 yX7_isNext wsX7_isNext) := goodIn_app (goodIn_of _ (by decide +kernel)) ggX7_takesBlock_X7_isNext
set_option maxRecDepth 20000 in
theorem ggX7_takesBlock_X7_takesBytes : GoodIn wsX7_takesBlock wsX7_takesBytes := goodIn_r _ [30, 2, 3, 4, 5, 6, 7, 8, 9, 10, 11, 12, 13, 14, 15, 16, 17, 18, 19, 20, 21, 22, 23, 24, 25, 26, 31, 32, 33, 34, 35, 36, 37, 38, 39, 40, 41, 42, 43] (by decide +kernel) (by decide +kernel)
set_option maxRecDepth 20000 in
theorem gX7_takesBlock_X7_takesBytes : GoodIn wsX7_takesBlock (wsV RX7 200 RX7 yX7_takesBytes wsX7_takesBytes) := goodIn_app (goodIn_of _ (by decide +kernel)) ggX7_takesBlock_X7_takesBytes
theorem dX7_takesBlock_0 : decode cX7_takesBlock 0 = .ok (.aload_n 0, 1) := by decide +kernel
theorem dX7_takesBlock_1 : decode cX7_takesBlock 1 = .ok (.invokevirtual 190, 3) := by decide +kernel
theorem dX7_takesBlock_4 : decode cX7_takesBlock 4 = .ok (.istore_n 1, 1) := by decide +kernel
theorem dX7_takesBlock_5 : decode cX7_takesBlock 5 = .ok (.aload_n 0, 1) := by decide +kernel
theorem dX7_takesBlock_6 : decode cX7_takesBlock 6 = .ok (.iload_n 1, 1) := by decide +kernel
theorem dX7_takesBlock_7 : decode cX7_takesBlock 7 = .ok (.ifCond .eq 16, 3) := by decide +kernel
theorem dX7_takesBlock_10 : decode cX7_takesBlock 10 = .ok (.aload_n 0, 1) := by decide +kernel
theorem dX7_takesBlock_11 : decode cX7_takesBlock 11 = .ok (.bipush 94, 2) := by decide +kernel
theorem dX7_takesBlock_13 : decode cX7_takesBlock 13 = .ok (.invokevirtual 193, 3) := by decide +kernel
theorem dX7_takesBlock_16 : decode cX7_takesBlock 16 = .ok (.ifCond .eq 7, 3) := by decide +kernel
theorem dX7_takesBlock_19 : decode cX7_takesBlock 19 = .ok (.iconst 1, 1) := by decide +kernel
theorem dX7_takesBlock_20 : decode cX7_takesBlock 20 = .ok (.goto 4, 3) := by decide +kernel
theorem dX7_takesBlock_23 : decode cX7_takesBlock 23 = .ok (.iconst 0, 1) := by decide +kernel
theorem dX7_takesBlock_24 : decode cX7_takesBlock 24 = .ok (.putfield 196, 3) := by decide +kernel
theorem dX7_takesBlock_27 : decode cX7_takesBlock 27 = .ok (.iload_n 1, 1) := by decide +kernel
theorem dX7_takesBlock_28 : decode cX7_takesBlock 28 = .ok (.ifCond .eq 37, 3) := by decide +kernel
theorem dX7_takesBlock_31 : decode cX7_takesBlock 31 = .ok (.aload_n 0, 1) := by decide +kernel
theorem dX7_takesBlock_32 : decode cX7_takesBlock 32 = .ok (.getfield 196, 3) := by decide +kernel
theorem dX7_takesBlock_35 : decode cX7_takesBlock 35 = .ok (.ifCond .eq 10, 3) := by decide +kernel
theorem dX7_takesBlock_38 : decode cX7_takesBlock 38 = .ok (.aload_n 0, 1) := by decide +kernel
theorem dX7_takesBlock_39 : decode cX7_takesBlock 39 = .ok (.invokevirtual 190, 3) := by decide +kernel
theorem dX7_takesBlock_42 : decode cX7_takesBlock 42 = .ok (.ifCond .eq 23, 3) := by decide +kernel
theorem dX7_takesBlock_45 : decode cX7_takesBlock 45 = .ok (.aload_n 0, 1) := by decide +kernel
theorem dX7_takesBlock_46 : decode cX7_takesBlock 46 = .ok (.bipush 58, 2) := by decide +kernel
theorem dX7_takesBlock_48 : decode cX7_takesBlock 48 = .ok (.invokevirtual 193, 3) := by decide +kernel
theorem dX7_takesBlock_51 : decode cX7_takesBlock 51 = .ok (.ifCond .eq 14, 3) := by decide +kernel
theorem dX7_takesBlock_54 : decode cX7_takesBlock 54 = .ok (.aload_n 0, 1) := by decide +kernel
theorem dX7_takesBlock_55 : decode cX7_takesBlock 55 = .ok (.invokevirtual 200, 3) := by decide +kernel
theorem dX7_takesBlock_58 : decode cX7_takesBlock 58 = .ok (.ifCond .eq 7, 3) := by decide +kernel
theorem dX7_takesBlock_61 : decode cX7_takesBlock 61 = .ok (.iconst 1, 1) := by decide +kernel
theorem dX7_takesBlock_62 : decode cX7_takesBlock 62 = .ok (.goto 4, 3) := by decide +kernel
theorem dX7_takesBlock_65 : decode cX7_takesBlock 65 = .ok (.iconst 0, 1) := by decide +kernel
theorem dX7_takesBlock_66 : decode cX7_takesBlock 66 = .ok (.ireturn, 1) := by decide +kernel
set_option maxRecDepth 20000 in
theorem ggX7_readsOrder_X7_character : GoodIn wsX7_readsOrder wsX7_character := goodIn_r _ [8, 9, 10, 36, 37, 38, 39, 40, 41, 42, 43, 44, 45, 46, 47, 48] (by decide +kernel) (by decide +kernel)
set_option maxRecDepth 20000 in
theorem gX7_readsOrder_X7_character : GoodIn wsX7_readsOrder (wsV RX7 180 RX7 yX7_character wsX7_character) := goodIn_app (goodIn_of _ (by decide +kernel)) ggX7_readsOrder_X7_character
set_option maxRecDepth 20000 in
theorem ggX7_readsOrder_X7_takesBlock : GoodIn wsX7_readsOrder wsX7_takesBlock := goodIn_r _ [14, 15, 16, 17, 18, 7, 19, 2, 20, 1, 21, 22, 23, 24, 4, 5, 6, 8, 9, 10, 25, 26, 27, 28, 29, 30, 31, 32, 33, 34, 35, 36, 37, 38, 39, 40, 41, 42, 43, 44, 45, 46, 47, 48] (by decide +kernel) (by decide +kernel)
set_option maxRecDepth 20000 in
theorem gX7_readsOrder_X7_takesBlock : GoodIn wsX7_readsOrder (wsV RX7 206 RX7 yX7_takesBlock wsX7_takesBlock) := goodIn_app (goodIn_of _ (by decide +kernel)) ggX7_readsOrder_X7_takesBlock
set_option maxRecDepth 20000 in
theorem ggX7_readsOrder_X7_takesNumber : GoodIn wsX7_readsOrder wsX7_takesNumber := goodIn_r _ [19, 2, 20, 1, 21, 22, 23, 7, 24, 4, 5, 6, 8, 9, 10, 25, 26, 27, 36, 37, 38, 39, 40, 41, 42, 43, 44, 45, 46, 47, 48] (by decide +kernel) (by decide +kernel)
set_option maxRecDepth 20000 in
theorem gX7_readsOrder_X7_takesNumber : GoodIn wsX7_readsOrder (wsV RX7 190 RX7 yX7_takesNumber wsX7_takesNumber) := goodIn_app (goodIn_of _ (by decide +kernel)) ggX7_readsOrder_X7_takesNumber
set_option maxRecDepth 20000 in
theorem ggX7_readsOrder_X7_isNext : GoodIn wsX7_readsOrder wsX7_isNext := goodIn_r _ [31, 2, 4, 5, 6, 7, 8, 9, 10, 36, 37, 38, 39, 40, 41, 42, 43, 44, 45, 46, 47, 48] (by decide +kernel) (by decide +kernel)
set_option maxRecDepth 20000 in
theorem gX7_readsOrder_X7_isNext : GoodIn wsX7_readsOrder (wsV RX7 193 RX7 yX7_isNext wsX7_isNext) := goodIn_app (goodIn_of _ (by decide +kernel)) ggX7_readsOrder_X7_isNext
theorem dX7_readsOrder_0 : decode cX7_readsOrder 0 = .ok (.aload_n 0, 1) := by decide +kernel
theorem dX7_readsOrder_1 : decode cX7_readsOrder 1 = .ok (.iconst 0, 1) := by decide +kernel
theorem dX7_readsOrder_2 : decode cX7_readsOrder 2 = .ok (.putfield 187, 3) := by decide +kernel
theorem dX7_readsOrder_5 : decode cX7_readsOrder 5 = .ok (.aload_n 0, 1) := by decide +kernel
theorem dX7_readsOrder_6 : decode cX7_readsOrder 6 = .ok (.aload_n 0, 1) := by decide +kernel
theorem dX7_readsOrder_7 : decode cX7_readsOrder 7 = .ok (.aload_n 0, 1) := by decide +kernel
theorem dX7_readsOrder_8 : decode cX7_readsOrder 8 = .ok (.getfield 177, 3) := by decide +kernel
theorem dX7_readsOrder_11 : decode cX7_readsOrder 11 = .ok (.invokevirtual 180, 3) := by decide +kernel
theorem dX7_readsOrder_14 : decode cX7_readsOrder 14 = .ok (.putfield 203, 3) := by decide +kernel
theorem dX7_readsOrder_17 : decode cX7_readsOrder 17 = .ok (.aload_n 0, 1) := by decide +kernel
theorem dX7_readsOrder_18 : decode cX7_readsOrder 18 = .ok (.dup, 1) := by decide +kernel
theorem dX7_readsOrder_19 : decode cX7_readsOrder 19 = .ok (.getfield 177, 3) := by decide +kernel
theorem dX7_readsOrder_22 : decode cX7_readsOrder 22 = .ok (.iconst 1, 1) := by decide +kernel
theorem dX7_readsOrder_23 : decode cX7_readsOrder 23 = .ok (.iadd, 1) := by decide +kernel
theorem dX7_readsOrder_24 : decode cX7_readsOrder 24 = .ok (.putfield 177, 3) := by decide +kernel
theorem dX7_readsOrder_27 : decode cX7_readsOrder 27 = .ok (.aload_n 0, 1) := by decide +kernel
theorem dX7_readsOrder_28 : decode cX7_readsOrder 28 = .ok (.getfield 203, 3) := by decide +kernel
theorem dX7_readsOrder_31 : decode cX7_readsOrder 31 = .ok (.lookupswitch 88 #[(43, 33), (102, 38), (120, 83)], 33) := by decide +kernel
theorem dX7_readsOrder_64 : decode cX7_readsOrder 64 = .ok (.aload_n 0, 1) := by decide +kernel
theorem dX7_readsOrder_65 : decode cX7_readsOrder 65 = .ok (.invokevirtual 206, 3) := by decide +kernel
theorem dX7_readsOrder_68 : decode cX7_readsOrder 68 = .ok (.ireturn, 1) := by decide +kernel
theorem dX7_readsOrder_69 : decode cX7_readsOrder 69 = .ok (.aload_n 0, 1) := by decide +kernel
theorem dX7_readsOrder_70 : decode cX7_readsOrder 70 = .ok (.invokevirtual 190, 3) := by decide +kernel
theorem dX7_readsOrder_73 : decode cX7_readsOrder 73 = .ok (.ifCond .eq 39, 3) := by decide +kernel
theorem dX7_readsOrder_76 : decode cX7_readsOrder 76 = .ok (.aload_n 0, 1) := by decide +kernel
theorem dX7_readsOrder_77 : decode cX7_readsOrder 77 = .ok (.bipush 45, 2) := by decide +kernel
theorem dX7_readsOrder_79 : decode cX7_readsOrder 79 = .ok (.invokevirtual 193, 3) := by decide +kernel
theorem dX7_readsOrder_82 : decode cX7_readsOrder 82 = .ok (.ifCond .eq 30, 3) := by decide +kernel
theorem dX7_readsOrder_85 : decode cX7_readsOrder 85 = .ok (.aload_n 0, 1) := by decide +kernel
theorem dX7_readsOrder_86 : decode cX7_readsOrder 86 = .ok (.invokevirtual 190, 3) := by decide +kernel
theorem dX7_readsOrder_89 : decode cX7_readsOrder 89 = .ok (.ifCond .eq 23, 3) := by decide +kernel
theorem dX7_readsOrder_92 : decode cX7_readsOrder 92 = .ok (.aload_n 0, 1) := by decide +kernel
theorem dX7_readsOrder_93 : decode cX7_readsOrder 93 = .ok (.bipush 61, 2) := by decide +kernel
theorem dX7_readsOrder_95 : decode cX7_readsOrder 95 = .ok (.invokevirtual 193, 3) := by decide +kernel
theorem dX7_readsOrder_98 : decode cX7_readsOrder 98 = .ok (.ifCond .eq 14, 3) := by decide +kernel
theorem dX7_readsOrder_101 : decode cX7_readsOrder 101 = .ok (.aload_n 0, 1) := by decide +kernel
theorem dX7_readsOrder_102 : decode cX7_readsOrder 102 = .ok (.invokevirtual 190, 3) := by decide +kernel
theorem dX7_readsOrder_105 : decode cX7_readsOrder 105 = .ok (.ifCond .eq 7, 3) := by decide +kernel
theorem dX7_readsOrder_108 : decode cX7_readsOrder 108 = .ok (.iconst 1, 1) := by decide +kernel
theorem dX7_readsOrder_109 : decode cX7_readsOrder 109 = .ok (.goto 4, 3) := by decide +kernel
theorem dX7_readsOrder_112 : decode cX7_readsOrder 112 = .ok (.iconst 0, 1) := by decide +kernel
theorem dX7_readsOrder_113 : decode cX7_readsOrder 113 = .ok (.ireturn, 1) := by decide +kernel
theorem dX7_readsOrder_114 : decode cX7_readsOrder 114 = .ok (.aload_n 0, 1) := by decide +kernel
theorem dX7_readsOrder_115 : decode cX7_readsOrder 115 = .ok (.invokevirtual 190, 3) := by decide +kernel
theorem dX7_readsOrder_118 : decode cX7_readsOrder 118 = .ok (.ireturn, 1) := by decide +kernel
theorem dX7_readsOrder_119 : decode cX7_readsOrder 119 = .ok (.aload_n 0, 1) := by decide +kernel
theorem dX7_readsOrder_120 : decode cX7_readsOrder 120 = .ok (.dup, 1) := by decide +kernel
theorem dX7_readsOrder_121 : decode cX7_readsOrder 121 = .ok (.getfield 177, 3) := by decide +kernel
theorem dX7_readsOrder_124 : decode cX7_readsOrder 124 = .ok (.iconst 1, 1) := by decide +kernel
theorem dX7_readsOrder_125 : decode cX7_readsOrder 125 = .ok (.isub, 1) := by decide +kernel
theorem dX7_readsOrder_126 : decode cX7_readsOrder 126 = .ok (.putfield 177, 3) := by decide +kernel
theorem dX7_readsOrder_129 : decode cX7_readsOrder 129 = .ok (.iconst 0, 1) := by decide +kernel
theorem dX7_readsOrder_130 : decode cX7_readsOrder 130 = .ok (.ireturn, 1) := by decide +kernel
set_option maxRecDepth 20000 in
theorem ggX7_findFault_X7_readsOrder : GoodIn wsX7_findFault wsX7_readsOrder := goodIn_r _ [7, 8, 1, 9, 10, 11, 12, 6, 13, 2, 14, 15, 16, 17, 18, 19, 20, 21, 22, 23, 24, 25, 26, 27, 28, 29, 30, 31, 32, 33, 34, 35, 36, 37, 38, 39, 40, 41, 42, 43, 44, 45, 46, 47, 48, 49, 50, 51, 52] (by decide +kernel) (by decide +kernel)
set_option maxRecDepth 20000 in
theorem gX7_findFault_X7_readsOrder : GoodIn wsX7_findFault (wsV RX7 209 RX7 yX7_readsOrder wsX7_readsOrder) := goodIn_app (goodIn_of _ (by decide +kernel)) ggX7_findFault_X7_readsOrder
set_option maxRecDepth 20000 in
theorem ggX7_findFault_X7_isNext : GoodIn wsX7_findFault wsX7_isNext := goodIn_r _ [35, 1, 10, 11, 12, 6, 13, 2, 14, 40, 41, 42, 43, 44, 45, 46, 47, 48, 49, 50, 51, 52] (by decide +kernel) (by decide +kernel)
set_option maxRecDepth 20000 in
theorem gX7_findFault_X7_isNext : GoodIn wsX7_findFault (wsV RX7 193 RX7 yX7_isNext wsX7_isNext) := goodIn_app (goodIn_of _ (by decide +kernel)) ggX7_findFault_X7_isNext
theorem dX7_findFault_0 : decode cX7_findFault 0 = .ok (.aload_n 0, 1) := by decide +kernel
theorem dX7_findFault_1 : decode cX7_findFault 1 = .ok (.iconst 0, 1) := by decide +kernel
theorem dX7_findFault_2 : decode cX7_findFault 2 = .ok (.putfield 177, 3) := by decide +kernel
theorem dX7_findFault_5 : decode cX7_findFault 5 = .ok (.aload_n 0, 1) := by decide +kernel
theorem dX7_findFault_6 : decode cX7_findFault 6 = .ok (.invokevirtual 209, 3) := by decide +kernel
theorem dX7_findFault_9 : decode cX7_findFault 9 = .ok (.ifCond .ne 8, 3) := by decide +kernel
theorem dX7_findFault_12 : decode cX7_findFault 12 = .ok (.aload_n 0, 1) := by decide +kernel
theorem dX7_findFault_13 : decode cX7_findFault 13 = .ok (.getfield 177, 3) := by decide +kernel
theorem dX7_findFault_16 : decode cX7_findFault 16 = .ok (.ireturn, 1) := by decide +kernel
theorem dX7_findFault_17 : decode cX7_findFault 17 = .ok (.aload_n 0, 1) := by decide +kernel
theorem dX7_findFault_18 : decode cX7_findFault 18 = .ok (.getfield 177, 3) := by decide +kernel
theorem dX7_findFault_21 : decode cX7_findFault 21 = .ok (.aload_n 0, 1) := by decide +kernel
theorem dX7_findFault_22 : decode cX7_findFault 22 = .ok (.getfield 162, 3) := by decide +kernel
theorem dX7_findFault_25 : decode cX7_findFault 25 = .ok (.if_icmp .ne 6, 3) := by decide +kernel
theorem dX7_findFault_28 : decode cX7_findFault 28 = .ok (.bipush (-6), 2) := by decide +kernel
theorem dX7_findFault_30 : decode cX7_findFault 30 = .ok (.ireturn, 1) := by decide +kernel
theorem dX7_findFault_31 : decode cX7_findFault 31 = .ok (.aload_n 0, 1) := by decide +kernel
theorem dX7_findFault_32 : decode cX7_findFault 32 = .ok (.bipush 59, 2) := by decide +kernel
theorem dX7_findFault_34 : decode cX7_findFault 34 = .ok (.invokevirtual 193, 3) := by decide +kernel
theorem dX7_findFault_37 : decode cX7_findFault 37 = .ok (.ifCond .ne (-32), 3) := by decide +kernel
theorem dX7_findFault_40 : decode cX7_findFault 40 = .ok (.aload_n 0, 1) := by decide +kernel
theorem dX7_findFault_41 : decode cX7_findFault 41 = .ok (.getfield 177, 3) := by decide +kernel
theorem dX7_findFault_44 : decode cX7_findFault 44 = .ok (.ireturn, 1) := by decide +kernel
set_option maxRecDepth 20000 in
theorem ggX7_fault_X7_findFault : GoodIn wsX7_fault wsX7_findFault := goodIn_r _ [5, 6, 7, 8, 9, 10, 4, 11, 12, 13, 14, 15, 16, 17, 18, 19, 20, 21, 22, 23, 24, 25, 26, 27, 28, 29, 30, 31, 32, 33, 34, 35, 36, 37, 38, 39, 40, 41, 42, 43, 44, 45, 46, 47, 48, 49, 50, 51, 52, 53, 54, 55, 56] (by decide +kernel) (by decide +kernel)
set_option maxRecDepth 20000 in
theorem gX7_fault_X7_findFault : GoodIn wsX7_fault (wsV RX7 212 RX7 yX7_findFault wsX7_findFault) := goodIn_app (goodIn_of _ (by decide +kernel)) ggX7_fault_X7_findFault
theorem dX7_fault_0 : decode cX7_fault 0 = .ok (.aload_n 0, 1) := by decide +kernel
theorem dX7_fault_1 : decode cX7_fault 1 = .ok (.invokevirtual 212, 3) := by decide +kernel
theorem dX7_fault_4 : decode cX7_fault 4 = .ok (.ireturn, 1) := by decide +kernel
set_option maxRecDepth 20000 in
theorem ggX7_doesBlock_X7_whyNotWritten : GoodIn wsX7_doesBlock wsX7_whyNotWritten := goodIn_r _ [9, 10, 11, 12, 13, 8, 14, 15, 16, 17, 38, 39, 40, 41, 42, 43, 44, 45, 46, 47, 48, 49, 50] (by decide +kernel) (by decide +kernel)
set_option maxRecDepth 20000 in
theorem gX7_doesBlock_X7_whyNotWritten : GoodIn wsX7_doesBlock (wsV RX7 110 RX7 yX7_whyNotWritten wsX7_whyNotWritten) := goodIn_app (goodIn_of _ (by decide +kernel)) ggX7_doesBlock_X7_whyNotWritten
set_option maxRecDepth 20000 in
theorem ggX7_doesBlock_X7_writes : GoodIn wsX7_doesBlock wsX7_writes := goodIn_r _ [21, 10, 4, 22, 23, 24, 8, 25, 26, 27, 28, 29, 30, 31, 32, 33, 34, 35, 36, 37, 38, 39, 40, 41, 42, 43, 44, 45, 46, 47, 48, 49, 50] (by decide +kernel) (by decide +kernel)
set_option maxRecDepth 20000 in
theorem gX7_doesBlock_X7_writes : GoodIn wsX7_doesBlock (wsV RX7 115 RX7 yX7_writes wsX7_writes) := goodIn_app (goodIn_of _ (by decide +kernel)) ggX7_doesBlock_X7_writes
theorem dX7_doesBlock_0 : decode cX7_doesBlock 0 = .ok (.aload_n 0, 1) := by decide +kernel
theorem dX7_doesBlock_1 : decode cX7_doesBlock 1 = .ok (.getfield 196, 3) := by decide +kernel
theorem dX7_doesBlock_4 : decode cX7_doesBlock 4 = .ok (.ifCond .eq 7, 3) := by decide +kernel
theorem dX7_doesBlock_7 : decode cX7_doesBlock 7 = .ok (.iconst 2, 1) := by decide +kernel
theorem dX7_doesBlock_8 : decode cX7_doesBlock 8 = .ok (.goto 4, 3) := by decide +kernel
theorem dX7_doesBlock_11 : decode cX7_doesBlock 11 = .ok (.iconst 1, 1) := by decide +kernel
theorem dX7_doesBlock_12 : decode cX7_doesBlock 12 = .ok (.istore_n 1, 1) := by decide +kernel
theorem dX7_doesBlock_13 : decode cX7_doesBlock 13 = .ok (.aload_n 0, 1) := by decide +kernel
theorem dX7_doesBlock_14 : decode cX7_doesBlock 14 = .ok (.getfield 187, 3) := by decide +kernel
theorem dX7_doesBlock_17 : decode cX7_doesBlock 17 = .ok (.iload_n 1, 1) := by decide +kernel
theorem dX7_doesBlock_18 : decode cX7_doesBlock 18 = .ok (.isub, 1) := by decide +kernel
theorem dX7_doesBlock_19 : decode cX7_doesBlock 19 = .ok (.istore_n 2, 1) := by decide +kernel
theorem dX7_doesBlock_20 : decode cX7_doesBlock 20 = .ok (.aload_n 0, 1) := by decide +kernel
theorem dX7_doesBlock_21 : decode cX7_doesBlock 21 = .ok (.getfield 196, 3) := by decide +kernel
theorem dX7_doesBlock_24 : decode cX7_doesBlock 24 = .ok (.ifCond .eq 12, 3) := by decide +kernel
theorem dX7_doesBlock_27 : decode cX7_doesBlock 27 = .ok (.aload_n 0, 1) := by decide +kernel
theorem dX7_doesBlock_28 : decode cX7_doesBlock 28 = .ok (.getfield 28, 3) := by decide +kernel
theorem dX7_doesBlock_31 : decode cX7_doesBlock 31 = .ok (.iconst 1, 1) := by decide +kernel
theorem dX7_doesBlock_32 : decode cX7_doesBlock 32 = .ok (.iaload, 1) := by decide +kernel
theorem dX7_doesBlock_33 : decode cX7_doesBlock 33 = .ok (.goto 5, 3) := by decide +kernel
theorem dX7_doesBlock_36 : decode cX7_doesBlock 36 = .ok (.bipush (-6), 2) := by decide +kernel
theorem dX7_doesBlock_38 : decode cX7_doesBlock 38 = .ok (.istore_n 3, 1) := by decide +kernel
theorem dX7_doesBlock_39 : decode cX7_doesBlock 39 = .ok (.aload_n 0, 1) := by decide +kernel
theorem dX7_doesBlock_40 : decode cX7_doesBlock 40 = .ok (.aload_n 0, 1) := by decide +kernel
theorem dX7_doesBlock_41 : decode cX7_doesBlock 41 = .ok (.getfield 28, 3) := by decide +kernel
theorem dX7_doesBlock_44 : decode cX7_doesBlock 44 = .ok (.iconst 0, 1) := by decide +kernel
theorem dX7_doesBlock_45 : decode cX7_doesBlock 45 = .ok (.iaload, 1) := by decide +kernel
theorem dX7_doesBlock_46 : decode cX7_doesBlock 46 = .ok (.iload_n 3, 1) := by decide +kernel
theorem dX7_doesBlock_47 : decode cX7_doesBlock 47 = .ok (.iload_n 2, 1) := by decide +kernel
theorem dX7_doesBlock_48 : decode cX7_doesBlock 48 = .ok (.invokevirtual 110, 3) := by decide +kernel
theorem dX7_doesBlock_51 : decode cX7_doesBlock 51 = .ok (.ifCond .ne 7, 3) := by decide +kernel
theorem dX7_doesBlock_54 : decode cX7_doesBlock 54 = .ok (.iconst 1, 1) := by decide +kernel
theorem dX7_doesBlock_55 : decode cX7_doesBlock 55 = .ok (.goto 4, 3) := by decide +kernel
theorem dX7_doesBlock_58 : decode cX7_doesBlock 58 = .ok (.iconst 0, 1) := by decide +kernel
theorem dX7_doesBlock_59 : decode cX7_doesBlock 59 = .ok (.istore 4, 2) := by decide +kernel
theorem dX7_doesBlock_61 : decode cX7_doesBlock 61 = .ok (.iconst 0, 1) := by decide +kernel
theorem dX7_doesBlock_62 : decode cX7_doesBlock 62 = .ok (.istore 5, 2) := by decide +kernel
theorem dX7_doesBlock_64 : decode cX7_doesBlock 64 = .ok (.iload 5, 2) := by decide +kernel
theorem dX7_doesBlock_66 : decode cX7_doesBlock 66 = .ok (.iload_n 2, 1) := by decide +kernel
theorem dX7_doesBlock_67 : decode cX7_doesBlock 67 = .ok (.if_icmp .ge 52, 3) := by decide +kernel
theorem dX7_doesBlock_70 : decode cX7_doesBlock 70 = .ok (.iload 4, 2) := by decide +kernel
theorem dX7_doesBlock_72 : decode cX7_doesBlock 72 = .ok (.ifCond .eq 47, 3) := by decide +kernel
theorem dX7_doesBlock_75 : decode cX7_doesBlock 75 = .ok (.aload_n 0, 1) := by decide +kernel
theorem dX7_doesBlock_76 : decode cX7_doesBlock 76 = .ok (.getfield 28, 3) := by decide +kernel
theorem dX7_doesBlock_79 : decode cX7_doesBlock 79 = .ok (.iload_n 1, 1) := by decide +kernel
theorem dX7_doesBlock_80 : decode cX7_doesBlock 80 = .ok (.iload 5, 2) := by decide +kernel
theorem dX7_doesBlock_82 : decode cX7_doesBlock 82 = .ok (.iadd, 1) := by decide +kernel
theorem dX7_doesBlock_83 : decode cX7_doesBlock 83 = .ok (.iaload, 1) := by decide +kernel
theorem dX7_doesBlock_84 : decode cX7_doesBlock 84 = .ok (.sipush 256, 3) := by decide +kernel
theorem dX7_doesBlock_87 : decode cX7_doesBlock 87 = .ok (.if_icmp .ge 7, 3) := by decide +kernel
theorem dX7_doesBlock_90 : decode cX7_doesBlock 90 = .ok (.iconst 1, 1) := by decide +kernel
theorem dX7_doesBlock_91 : decode cX7_doesBlock 91 = .ok (.goto 4, 3) := by decide +kernel
theorem dX7_doesBlock_94 : decode cX7_doesBlock 94 = .ok (.iconst 0, 1) := by decide +kernel
theorem dX7_doesBlock_95 : decode cX7_doesBlock 95 = .ok (.istore 4, 2) := by decide +kernel
theorem dX7_doesBlock_97 : decode cX7_doesBlock 97 = .ok (.aload_n 0, 1) := by decide +kernel
theorem dX7_doesBlock_98 : decode cX7_doesBlock 98 = .ok (.getfield 25, 3) := by decide +kernel
theorem dX7_doesBlock_101 : decode cX7_doesBlock 101 = .ok (.iload 5, 2) := by decide +kernel
theorem dX7_doesBlock_103 : decode cX7_doesBlock 103 = .ok (.aload_n 0, 1) := by decide +kernel
theorem dX7_doesBlock_104 : decode cX7_doesBlock 104 = .ok (.getfield 28, 3) := by decide +kernel
theorem dX7_doesBlock_107 : decode cX7_doesBlock 107 = .ok (.iload_n 1, 1) := by decide +kernel
theorem dX7_doesBlock_108 : decode cX7_doesBlock 108 = .ok (.iload 5, 2) := by decide +kernel
theorem dX7_doesBlock_110 : decode cX7_doesBlock 110 = .ok (.iadd, 1) := by decide +kernel
theorem dX7_doesBlock_111 : decode cX7_doesBlock 111 = .ok (.iaload, 1) := by decide +kernel
theorem dX7_doesBlock_112 : decode cX7_doesBlock 112 = .ok (.iastore, 1) := by decide +kernel
theorem dX7_doesBlock_113 : decode cX7_doesBlock 113 = .ok (.iinc 5 1, 3) := by decide +kernel
theorem dX7_doesBlock_116 : decode cX7_doesBlock 116 = .ok (.goto (-52), 3) := by decide +kernel
theorem dX7_doesBlock_119 : decode cX7_doesBlock 119 = .ok (.iload 4, 2) := by decide +kernel
theorem dX7_doesBlock_121 : decode cX7_doesBlock 121 = .ok (.ifCond .eq 16, 3) := by decide +kernel
theorem dX7_doesBlock_124 : decode cX7_doesBlock 124 = .ok (.aload_n 0, 1) := by decide +kernel
theorem dX7_doesBlock_125 : decode cX7_doesBlock 125 = .ok (.aload_n 0, 1) := by decide +kernel
theorem dX7_doesBlock_126 : decode cX7_doesBlock 126 = .ok (.getfield 28, 3) := by decide +kernel
theorem dX7_doesBlock_129 : decode cX7_doesBlock 129 = .ok (.iconst 0, 1) := by decide +kernel
theorem dX7_doesBlock_130 : decode cX7_doesBlock 130 = .ok (.iaload, 1) := by decide +kernel
theorem dX7_doesBlock_131 : decode cX7_doesBlock 131 = .ok (.iload_n 3, 1) := by decide +kernel
theorem dX7_doesBlock_132 : decode cX7_doesBlock 132 = .ok (.iload_n 2, 1) := by decide +kernel
theorem dX7_doesBlock_133 : decode cX7_doesBlock 133 = .ok (.invokevirtual 115, 3) := by decide +kernel
theorem dX7_doesBlock_136 : decode cX7_doesBlock 136 = .ok (.pop, 1) := by decide +kernel
theorem dX7_doesBlock_137 : decode cX7_doesBlock 137 = .ok (.iload 4, 2) := by decide +kernel
theorem dX7_doesBlock_139 : decode cX7_doesBlock 139 = .ok (.ireturn, 1) := by decide +kernel
set_option maxRecDepth 20000 in
theorem ggX7_doesFade_X7_whyNotFaded : GoodIn wsX7_doesFade wsX7_whyNotFaded := goodIn_r _ [6, 7, 8, 9, 5, 10, 11, 12, 13, 14, 15, 16, 17, 18, 19, 20, 21, 22, 23, 24, 25, 26, 27, 28, 29, 30, 31, 32, 33, 34, 47, 48, 49, 50, 51, 52, 53, 54, 55, 56, 57, 58, 59] (by decide +kernel) (by decide +kernel)
set_option maxRecDepth 20000 in
theorem gX7_doesFade_X7_whyNotFaded : GoodIn wsX7_doesFade (wsV RX7 121 RX7 yX7_whyNotFaded wsX7_whyNotFaded) := goodIn_app (goodIn_of _ (by decide +kernel)) ggX7_doesFade_X7_whyNotFaded
set_option maxRecDepth 20000 in
theorem ggX7_doesFade_X7_fades : GoodIn wsX7_doesFade wsX7_fades := goodIn_r _ [38, 15, 39, 40, 41, 5, 42, 43, 44, 45, 46, 47, 48, 49, 50, 51, 52, 53, 54, 55, 56, 57, 58, 59] (by decide +kernel) (by decide +kernel)
set_option maxRecDepth 20000 in
theorem gX7_doesFade_X7_fades : GoodIn wsX7_doesFade (wsV RX7 124 RX7 yX7_fades wsX7_fades) := goodIn_app (goodIn_of _ (by decide +kernel)) ggX7_doesFade_X7_fades
theorem dX7_doesFade_0 : decode cX7_doesFade 0 = .ok (.aload_n 0, 1) := by decide +kernel
theorem dX7_doesFade_1 : decode cX7_doesFade 1 = .ok (.aload_n 0, 1) := by decide +kernel
theorem dX7_doesFade_2 : decode cX7_doesFade 2 = .ok (.getfield 28, 3) := by decide +kernel
theorem dX7_doesFade_5 : decode cX7_doesFade 5 = .ok (.iconst 0, 1) := by decide +kernel
theorem dX7_doesFade_6 : decode cX7_doesFade 6 = .ok (.iaload, 1) := by decide +kernel
theorem dX7_doesFade_7 : decode cX7_doesFade 7 = .ok (.aload_n 0, 1) := by decide +kernel
theorem dX7_doesFade_8 : decode cX7_doesFade 8 = .ok (.getfield 28, 3) := by decide +kernel
theorem dX7_doesFade_11 : decode cX7_doesFade 11 = .ok (.iconst 1, 1) := by decide +kernel
theorem dX7_doesFade_12 : decode cX7_doesFade 12 = .ok (.iaload, 1) := by decide +kernel
theorem dX7_doesFade_13 : decode cX7_doesFade 13 = .ok (.aload_n 0, 1) := by decide +kernel
theorem dX7_doesFade_14 : decode cX7_doesFade 14 = .ok (.getfield 28, 3) := by decide +kernel
theorem dX7_doesFade_17 : decode cX7_doesFade 17 = .ok (.iconst 2, 1) := by decide +kernel
theorem dX7_doesFade_18 : decode cX7_doesFade 18 = .ok (.iaload, 1) := by decide +kernel
theorem dX7_doesFade_19 : decode cX7_doesFade 19 = .ok (.invokevirtual 121, 3) := by decide +kernel
theorem dX7_doesFade_22 : decode cX7_doesFade 22 = .ok (.ifCond .ne 7, 3) := by decide +kernel
theorem dX7_doesFade_25 : decode cX7_doesFade 25 = .ok (.iconst 1, 1) := by decide +kernel
theorem dX7_doesFade_26 : decode cX7_doesFade 26 = .ok (.goto 4, 3) := by decide +kernel
theorem dX7_doesFade_29 : decode cX7_doesFade 29 = .ok (.iconst 0, 1) := by decide +kernel
theorem dX7_doesFade_30 : decode cX7_doesFade 30 = .ok (.istore_n 1, 1) := by decide +kernel
theorem dX7_doesFade_31 : decode cX7_doesFade 31 = .ok (.iload_n 1, 1) := by decide +kernel
theorem dX7_doesFade_32 : decode cX7_doesFade 32 = .ok (.ifCond .eq 26, 3) := by decide +kernel
theorem dX7_doesFade_35 : decode cX7_doesFade 35 = .ok (.aload_n 0, 1) := by decide +kernel
theorem dX7_doesFade_36 : decode cX7_doesFade 36 = .ok (.aload_n 0, 1) := by decide +kernel
theorem dX7_doesFade_37 : decode cX7_doesFade 37 = .ok (.getfield 28, 3) := by decide +kernel
theorem dX7_doesFade_40 : decode cX7_doesFade 40 = .ok (.iconst 0, 1) := by decide +kernel
theorem dX7_doesFade_41 : decode cX7_doesFade 41 = .ok (.iaload, 1) := by decide +kernel
theorem dX7_doesFade_42 : decode cX7_doesFade 42 = .ok (.aload_n 0, 1) := by decide +kernel
theorem dX7_doesFade_43 : decode cX7_doesFade 43 = .ok (.getfield 28, 3) := by decide +kernel
theorem dX7_doesFade_46 : decode cX7_doesFade 46 = .ok (.iconst 1, 1) := by decide +kernel
theorem dX7_doesFade_47 : decode cX7_doesFade 47 = .ok (.iaload, 1) := by decide +kernel
theorem dX7_doesFade_48 : decode cX7_doesFade 48 = .ok (.aload_n 0, 1) := by decide +kernel
theorem dX7_doesFade_49 : decode cX7_doesFade 49 = .ok (.getfield 28, 3) := by decide +kernel
theorem dX7_doesFade_52 : decode cX7_doesFade 52 = .ok (.iconst 2, 1) := by decide +kernel
theorem dX7_doesFade_53 : decode cX7_doesFade 53 = .ok (.iaload, 1) := by decide +kernel
theorem dX7_doesFade_54 : decode cX7_doesFade 54 = .ok (.invokevirtual 124, 3) := by decide +kernel
theorem dX7_doesFade_57 : decode cX7_doesFade 57 = .ok (.pop, 1) := by decide +kernel
theorem dX7_doesFade_58 : decode cX7_doesFade 58 = .ok (.iload_n 1, 1) := by decide +kernel
theorem dX7_doesFade_59 : decode cX7_doesFade 59 = .ok (.ireturn, 1) := by decide +kernel
set_option maxRecDepth 20000 in
theorem ggX7_doesOrder_X7_doesBlock : GoodIn wsX7_doesOrder wsX7_doesBlock := goodIn_r _ [7, 8, 9, 2, 10, 11, 12, 13, 6, 14, 15, 16, 17, 18, 19, 20, 21, 22, 23, 24, 25, 26, 27, 28, 29, 30, 31, 32, 33, 34, 35, 36, 37, 38, 39, 40, 41, 42, 75, 76, 77, 78, 79, 80, 81, 82, 83, 84, 85, 86, 87] (by decide +kernel) (by decide +kernel)
set_option maxRecDepth 20000 in
theorem gX7_doesOrder_X7_doesBlock : GoodIn wsX7_doesOrder (wsV RX7 215 RX7 yX7_doesBlock wsX7_doesBlock) := goodIn_app (goodIn_of _ (by decide +kernel)) ggX7_doesOrder_X7_doesBlock
set_option maxRecDepth 20000 in
theorem ggX7_doesOrder_X7_doesFade : GoodIn wsX7_doesOrder wsX7_doesFade := goodIn_r _ [46, 2, 47, 48, 49, 6, 50, 51, 52, 53, 54, 55, 56, 57, 58, 15, 27, 28, 29, 30, 31, 32, 33, 34, 35, 36, 37, 38, 39, 40, 41, 42, 20, 21, 22, 59, 60, 61, 62, 63, 64, 65, 66, 67, 68, 69, 70, 75, 76, 77, 78, 79, 80, 81, 82, 83, 84, 85, 86, 87] (by decide +kernel) (by decide +kernel)
set_option maxRecDepth 20000 in
theorem gX7_doesOrder_X7_doesFade : GoodIn wsX7_doesOrder (wsV RX7 218 RX7 yX7_doesFade wsX7_doesFade) := goodIn_app (goodIn_of _ (by decide +kernel)) ggX7_doesOrder_X7_doesFade
set_option maxRecDepth 20000 in
theorem ggX7_doesOrder_X7_isCell : GoodIn wsX7_doesOrder wsX7_isCell := goodIn_r _ [54, 55, 56, 57, 6, 58, 15, 27, 28, 29, 30, 31, 32, 33, 34, 35, 36, 37, 38, 39, 40, 41, 42, 20, 21, 22, 75, 76, 77, 78, 79, 80, 81, 82, 83, 84, 85, 86, 87] (by decide +kernel) (by decide +kernel)
set_option maxRecDepth 20000 in
theorem gX7_doesOrder_X7_isCell : GoodIn wsX7_doesOrder (wsV RX7 118 RX7 yX7_isCell wsX7_isCell) := goodIn_app (goodIn_of _ (by decide +kernel)) ggX7_doesOrder_X7_isCell
set_option maxRecDepth 20000 in
theorem ggX7_doesOrder_X7_turns : GoodIn wsX7_doesOrder wsX7_turns := goodIn_r _ [74, 15, 67, 68, 69, 6, 70, 75, 76, 77, 78, 79, 80, 81, 82, 83, 84, 85, 86, 87] (by decide +kernel) (by decide +kernel)
set_option maxRecDepth 20000 in
theorem gX7_doesOrder_X7_turns : GoodIn wsX7_doesOrder (wsV RX7 127 RX7 yX7_turns wsX7_turns) := goodIn_app (goodIn_of _ (by decide +kernel)) ggX7_doesOrder_X7_turns
theorem dX7_doesOrder_0 : decode cX7_doesOrder 0 = .ok (.aload_n 0, 1) := by decide +kernel
theorem dX7_doesOrder_1 : decode cX7_doesOrder 1 = .ok (.getfield 203, 3) := by decide +kernel
theorem dX7_doesOrder_4 : decode cX7_doesOrder 4 = .ok (.bipush 43, 2) := by decide +kernel
theorem dX7_doesOrder_6 : decode cX7_doesOrder 6 = .ok (.if_icmp .ne 8, 3) := by decide +kernel
theorem dX7_doesOrder_9 : decode cX7_doesOrder 9 = .ok (.aload_n 0, 1) := by decide +kernel
theorem dX7_doesOrder_10 : decode cX7_doesOrder 10 = .ok (.invokevirtual 215, 3) := by decide +kernel
theorem dX7_doesOrder_13 : decode cX7_doesOrder 13 = .ok (.ireturn, 1) := by decide +kernel
theorem dX7_doesOrder_14 : decode cX7_doesOrder 14 = .ok (.aload_n 0, 1) := by decide +kernel
theorem dX7_doesOrder_15 : decode cX7_doesOrder 15 = .ok (.getfield 203, 3) := by decide +kernel
theorem dX7_doesOrder_18 : decode cX7_doesOrder 18 = .ok (.bipush 102, 2) := by decide +kernel
theorem dX7_doesOrder_20 : decode cX7_doesOrder 20 = .ok (.if_icmp .ne 8, 3) := by decide +kernel
theorem dX7_doesOrder_23 : decode cX7_doesOrder 23 = .ok (.aload_n 0, 1) := by decide +kernel
theorem dX7_doesOrder_24 : decode cX7_doesOrder 24 = .ok (.invokevirtual 218, 3) := by decide +kernel
theorem dX7_doesOrder_27 : decode cX7_doesOrder 27 = .ok (.ireturn, 1) := by decide +kernel
theorem dX7_doesOrder_28 : decode cX7_doesOrder 28 = .ok (.aload_n 0, 1) := by decide +kernel
theorem dX7_doesOrder_29 : decode cX7_doesOrder 29 = .ok (.aload_n 0, 1) := by decide +kernel
theorem dX7_doesOrder_30 : decode cX7_doesOrder 30 = .ok (.getfield 28, 3) := by decide +kernel
theorem dX7_doesOrder_33 : decode cX7_doesOrder 33 = .ok (.iconst 0, 1) := by decide +kernel
theorem dX7_doesOrder_34 : decode cX7_doesOrder 34 = .ok (.iaload, 1) := by decide +kernel
theorem dX7_doesOrder_35 : decode cX7_doesOrder 35 = .ok (.invokevirtual 118, 3) := by decide +kernel
theorem dX7_doesOrder_38 : decode cX7_doesOrder 38 = .ok (.istore_n 1, 1) := by decide +kernel
theorem dX7_doesOrder_39 : decode cX7_doesOrder 39 = .ok (.iload_n 1, 1) := by decide +kernel
theorem dX7_doesOrder_40 : decode cX7_doesOrder 40 = .ok (.ifCond .eq 14, 3) := by decide +kernel
theorem dX7_doesOrder_43 : decode cX7_doesOrder 43 = .ok (.aload_n 0, 1) := by decide +kernel
theorem dX7_doesOrder_44 : decode cX7_doesOrder 44 = .ok (.aload_n 0, 1) := by decide +kernel
theorem dX7_doesOrder_45 : decode cX7_doesOrder 45 = .ok (.getfield 28, 3) := by decide +kernel
theorem dX7_doesOrder_48 : decode cX7_doesOrder 48 = .ok (.iconst 0, 1) := by decide +kernel
theorem dX7_doesOrder_49 : decode cX7_doesOrder 49 = .ok (.iaload, 1) := by decide +kernel
theorem dX7_doesOrder_50 : decode cX7_doesOrder 50 = .ok (.invokevirtual 127, 3) := by decide +kernel
theorem dX7_doesOrder_53 : decode cX7_doesOrder 53 = .ok (.pop, 1) := by decide +kernel
theorem dX7_doesOrder_54 : decode cX7_doesOrder 54 = .ok (.iload_n 1, 1) := by decide +kernel
theorem dX7_doesOrder_55 : decode cX7_doesOrder 55 = .ok (.ireturn, 1) := by decide +kernel
set_option maxRecDepth 20000 in
theorem ggX7_carryOut_X7_findFault : GoodIn wsX7_carryOut wsX7_findFault := goodIn_r _ [7, 1, 2, 8, 9, 10, 6, 11, 12, 13, 14, 15, 16, 17, 18, 19, 20, 21, 22, 23, 24, 25, 26, 27, 28, 29, 30, 31, 32, 33, 34, 35, 36, 37, 38, 39, 40, 41, 42, 43, 123, 124, 125, 126, 127, 128, 129, 130, 131, 132, 133, 134, 135] (by decide +kernel) (by decide +kernel)
set_option maxRecDepth 20000 in
theorem gX7_carryOut_X7_findFault : GoodIn wsX7_carryOut (wsV RX7 212 RX7 yX7_findFault wsX7_findFault) := goodIn_app (goodIn_of _ (by decide +kernel)) ggX7_carryOut_X7_findFault
set_option maxRecDepth 20000 in
theorem ggX7_carryOut_X7_record : GoodIn wsX7_carryOut wsX7_record := goodIn_r _ [47, 48, 49, 50, 51, 52, 6, 53, 123, 124, 125, 126, 127, 128, 129, 130, 131, 132, 133, 134, 135] (by decide +kernel) (by decide +kernel)
set_option maxRecDepth 20000 in
theorem gX7_carryOut_X7_record : GoodIn wsX7_carryOut (wsV RX7 104 RX7 yX7_record wsX7_record) := goodIn_app (goodIn_of _ (by decide +kernel)) ggX7_carryOut_X7_record
set_option maxRecDepth 20000 in
theorem ggX7_carryOut_X7_readsOrder : GoodIn wsX7_carryOut wsX7_readsOrder := goodIn_r _ [11, 12, 1, 13, 14, 15, 16, 6, 17, 2, 18, 19, 20, 21, 22, 23, 24, 25, 26, 27, 28, 29, 30, 31, 32, 33, 34, 35, 36, 37, 38, 39, 40, 41, 42, 43, 123, 124, 125, 126, 127, 128, 129, 130, 131, 132, 133, 134, 135] (by decide +kernel) (by decide +kernel)
set_option maxRecDepth 20000 in
theorem gX7_carryOut_X7_readsOrder : GoodIn wsX7_carryOut (wsV RX7 209 RX7 yX7_readsOrder wsX7_readsOrder) := goodIn_app (goodIn_of _ (by decide +kernel)) ggX7_carryOut_X7_readsOrder
set_option maxRecDepth 20000 in
theorem ggX7_carryOut_X7_isNext : GoodIn wsX7_carryOut wsX7_isNext := goodIn_r _ [39, 1, 14, 15, 16, 6, 17, 2, 18, 123, 124, 125, 126, 127, 128, 129, 130, 131, 132, 133, 134, 135] (by decide +kernel) (by decide +kernel)
set_option maxRecDepth 20000 in
theorem gX7_carryOut_X7_isNext : GoodIn wsX7_carryOut (wsV RX7 193 RX7 yX7_isNext wsX7_isNext) := goodIn_app (goodIn_of _ (by decide +kernel)) ggX7_carryOut_X7_isNext
set_option maxRecDepth 20000 in
theorem ggX7_carryOut_X7_doesOrder : GoodIn wsX7_carryOut wsX7_doesOrder := goodIn_r _ [57, 13, 28, 58, 59, 60, 6, 61, 23, 12, 62, 63, 64, 65, 66, 50, 67, 68, 69, 70, 33, 34, 35, 71, 72, 73, 74, 75, 76, 77, 78, 79, 80, 81, 82, 83, 84, 85, 86, 87, 88, 89, 90, 91, 92, 93, 94, 95, 96, 97, 98, 99, 100, 101, 102, 103, 104, 105, 106, 107, 108, 109, 110, 111, 112, 113, 114, 115, 116, 117, 118, 119, 120, 121, 122, 123, 124, 125, 126, 127, 128, 129, 130, 131, 132, 133, 134, 135] (by decide +kernel) (by decide +kernel)
set_option maxRecDepth 20000 in
theorem gX7_carryOut_X7_doesOrder : GoodIn wsX7_carryOut (wsV RX7 221 RX7 yX7_doesOrder wsX7_doesOrder) := goodIn_app (goodIn_of _ (by decide +kernel)) ggX7_carryOut_X7_doesOrder
theorem dX7_carryOut_0 : decode cX7_carryOut 0 = .ok (.aload_n 0, 1) := by decide +kernel
theorem dX7_carryOut_1 : decode cX7_carryOut 1 = .ok (.invokevirtual 212, 3) := by decide +kernel
theorem dX7_carryOut_4 : decode cX7_carryOut 4 = .ok (.bipush (-6), 2) := by decide +kernel
theorem dX7_carryOut_6 : decode cX7_carryOut 6 = .ok (.if_icmp .eq 6, 3) := by decide +kernel
theorem dX7_carryOut_9 : decode cX7_carryOut 9 = .ok (.bipush (-3), 2) := by decide +kernel
theorem dX7_carryOut_11 : decode cX7_carryOut 11 = .ok (.ireturn, 1) := by decide +kernel
theorem dX7_carryOut_12 : decode cX7_carryOut 12 = .ok (.aload_n 0, 1) := by decide +kernel
theorem dX7_carryOut_13 : decode cX7_carryOut 13 = .ok (.invokevirtual 104, 3) := by decide +kernel
theorem dX7_carryOut_16 : decode cX7_carryOut 16 = .ok (.iconst 0, 1) := by decide +kernel
theorem dX7_carryOut_17 : decode cX7_carryOut 17 = .ok (.istore_n 1, 1) := by decide +kernel
theorem dX7_carryOut_18 : decode cX7_carryOut 18 = .ok (.aload_n 0, 1) := by decide +kernel
theorem dX7_carryOut_19 : decode cX7_carryOut 19 = .ok (.iconst 0, 1) := by decide +kernel
theorem dX7_carryOut_20 : decode cX7_carryOut 20 = .ok (.putfield 177, 3) := by decide +kernel
theorem dX7_carryOut_23 : decode cX7_carryOut 23 = .ok (.iconst 1, 1) := by decide +kernel
theorem dX7_carryOut_24 : decode cX7_carryOut 24 = .ok (.istore_n 2, 1) := by decide +kernel
theorem dX7_carryOut_25 : decode cX7_carryOut 25 = .ok (.iload_n 2, 1) := by decide +kernel
theorem dX7_carryOut_26 : decode cX7_carryOut 26 = .ok (.ifCond .eq 46, 3) := by decide +kernel
theorem dX7_carryOut_29 : decode cX7_carryOut 29 = .ok (.aload_n 0, 1) := by decide +kernel
theorem dX7_carryOut_30 : decode cX7_carryOut 30 = .ok (.getfield 177, 3) := by decide +kernel
theorem dX7_carryOut_33 : decode cX7_carryOut 33 = .ok (.aload_n 0, 1) := by decide +kernel
theorem dX7_carryOut_34 : decode cX7_carryOut 34 = .ok (.getfield 162, 3) := by decide +kernel
theorem dX7_carryOut_37 : decode cX7_carryOut 37 = .ok (.if_icmp .ge 35, 3) := by decide +kernel
theorem dX7_carryOut_40 : decode cX7_carryOut 40 = .ok (.aload_n 0, 1) := by decide +kernel
theorem dX7_carryOut_41 : decode cX7_carryOut 41 = .ok (.invokevirtual 209, 3) := by decide +kernel
theorem dX7_carryOut_44 : decode cX7_carryOut 44 = .ok (.pop, 1) := by decide +kernel
theorem dX7_carryOut_45 : decode cX7_carryOut 45 = .ok (.aload_n 0, 1) := by decide +kernel
theorem dX7_carryOut_46 : decode cX7_carryOut 46 = .ok (.bipush 59, 2) := by decide +kernel
theorem dX7_carryOut_48 : decode cX7_carryOut 48 = .ok (.invokevirtual 193, 3) := by decide +kernel
theorem dX7_carryOut_51 : decode cX7_carryOut 51 = .ok (.pop, 1) := by decide +kernel
theorem dX7_carryOut_52 : decode cX7_carryOut 52 = .ok (.aload_n 0, 1) := by decide +kernel
theorem dX7_carryOut_53 : decode cX7_carryOut 53 = .ok (.invokevirtual 221, 3) := by decide +kernel
theorem dX7_carryOut_56 : decode cX7_carryOut 56 = .ok (.istore_n 2, 1) := by decide +kernel
theorem dX7_carryOut_57 : decode cX7_carryOut 57 = .ok (.iload_n 1, 1) := by decide +kernel
theorem dX7_carryOut_58 : decode cX7_carryOut 58 = .ok (.iload_n 2, 1) := by decide +kernel
theorem dX7_carryOut_59 : decode cX7_carryOut 59 = .ok (.ifCond .eq 7, 3) := by decide +kernel
theorem dX7_carryOut_62 : decode cX7_carryOut 62 = .ok (.iconst 1, 1) := by decide +kernel
theorem dX7_carryOut_63 : decode cX7_carryOut 63 = .ok (.goto 4, 3) := by decide +kernel
theorem dX7_carryOut_66 : decode cX7_carryOut 66 = .ok (.iconst 0, 1) := by decide +kernel
theorem dX7_carryOut_67 : decode cX7_carryOut 67 = .ok (.iadd, 1) := by decide +kernel
theorem dX7_carryOut_68 : decode cX7_carryOut 68 = .ok (.istore_n 1, 1) := by decide +kernel
theorem dX7_carryOut_69 : decode cX7_carryOut 69 = .ok (.goto (-44), 3) := by decide +kernel
theorem dX7_carryOut_72 : decode cX7_carryOut 72 = .ok (.aload_n 0, 1) := by decide +kernel
theorem dX7_carryOut_73 : decode cX7_carryOut 73 = .ok (.iconst 0, 1) := by decide +kernel
theorem dX7_carryOut_74 : decode cX7_carryOut 74 = .ok (.putfield 162, 3) := by decide +kernel
theorem dX7_carryOut_77 : decode cX7_carryOut 77 = .ok (.iload_n 1, 1) := by decide +kernel
theorem dX7_carryOut_78 : decode cX7_carryOut 78 = .ok (.ireturn, 1) := by decide +kernel
set_option maxRecDepth 20000 in
theorem ggX7_undo_X7_moves : GoodIn wsX7_undo wsX7_moves := goodIn_r _ [7] (by decide +kernel) (by decide +kernel)
set_option maxRecDepth 20000 in
theorem gX7_undo_X7_moves : GoodIn wsX7_undo (va_wsS RX7 35 yX7_moves wsX7_moves) := goodIn_app (goodIn_of _ (by decide +kernel)) ggX7_undo_X7_moves
theorem dX7_undo_0 : decode cX7_undo 0 = .ok (.aload_n 0, 1) := by decide +kernel
theorem dX7_undo_1 : decode cX7_undo 1 = .ok (.getfield 31, 3) := by decide +kernel
theorem dX7_undo_4 : decode cX7_undo 4 = .ok (.ifCond .ne 6, 3) := by decide +kernel
theorem dX7_undo_7 : decode cX7_undo 7 = .ok (.bipush (-5), 2) := by decide +kernel
theorem dX7_undo_9 : decode cX7_undo 9 = .ok (.ireturn, 1) := by decide +kernel
theorem dX7_undo_10 : decode cX7_undo 10 = .ok (.aload_n 0, 1) := by decide +kernel
theorem dX7_undo_11 : decode cX7_undo 11 = .ok (.dup, 1) := by decide +kernel
theorem dX7_undo_12 : decode cX7_undo 12 = .ok (.getfield 31, 3) := by decide +kernel
theorem dX7_undo_15 : decode cX7_undo 15 = .ok (.iconst 1, 1) := by decide +kernel
theorem dX7_undo_16 : decode cX7_undo 16 = .ok (.isub, 1) := by decide +kernel
theorem dX7_undo_17 : decode cX7_undo 17 = .ok (.putfield 31, 3) := by decide +kernel
theorem dX7_undo_20 : decode cX7_undo 20 = .ok (.aload_n 0, 1) := by decide +kernel
theorem dX7_undo_21 : decode cX7_undo 21 = .ok (.getfield 13, 3) := by decide +kernel
theorem dX7_undo_24 : decode cX7_undo 24 = .ok (.aload_n 0, 1) := by decide +kernel
theorem dX7_undo_25 : decode cX7_undo 25 = .ok (.getfield 31, 3) := by decide +kernel
theorem dX7_undo_28 : decode cX7_undo 28 = .ok (.sipush 2628, 3) := by decide +kernel
theorem dX7_undo_31 : decode cX7_undo 31 = .ok (.imul, 1) := by decide +kernel
theorem dX7_undo_32 : decode cX7_undo 32 = .ok (.aload_n 0, 1) := by decide +kernel
theorem dX7_undo_33 : decode cX7_undo 33 = .ok (.getfield 7, 3) := by decide +kernel
theorem dX7_undo_36 : decode cX7_undo 36 = .ok (.iconst 0, 1) := by decide +kernel
theorem dX7_undo_37 : decode cX7_undo 37 = .ok (.invokestatic 35, 3) := by decide +kernel
theorem dX7_undo_40 : decode cX7_undo 40 = .ok (.aload_n 0, 1) := by decide +kernel
theorem dX7_undo_41 : decode cX7_undo 41 = .ok (.getfield 31, 3) := by decide +kernel
theorem dX7_undo_44 : decode cX7_undo 44 = .ok (.ireturn, 1) := by decide +kernel
set_option maxRecDepth 20000 in
theorem ggX7_save_X7_within : GoodIn wsX7_save wsX7_within := goodIn_r _ [7] (by decide +kernel) (by decide +kernel)
set_option maxRecDepth 20000 in
theorem gX7_save_X7_within : GoodIn wsX7_save (va_wsS RX7 39 yX7_within wsX7_within) := goodIn_app (goodIn_of _ (by decide +kernel)) ggX7_save_X7_within
set_option maxRecDepth 20000 in
theorem ggX7_save_X7_moves : GoodIn wsX7_save wsX7_moves := goodIn_r _ [10] (by decide +kernel) (by decide +kernel)
set_option maxRecDepth 20000 in
theorem gX7_save_X7_moves : GoodIn wsX7_save (va_wsS RX7 35 yX7_moves wsX7_moves) := goodIn_app (goodIn_of _ (by decide +kernel)) ggX7_save_X7_moves
theorem dX7_save_0 : decode cX7_save 0 = .ok (.iload_n 1, 1) := by decide +kernel
theorem dX7_save_1 : decode cX7_save 1 = .ok (.iconst 0, 1) := by decide +kernel
theorem dX7_save_2 : decode cX7_save 2 = .ok (.iconst 1, 1) := by decide +kernel
theorem dX7_save_3 : decode cX7_save 3 = .ok (.invokestatic 39, 3) := by decide +kernel
theorem dX7_save_6 : decode cX7_save 6 = .ok (.ifCond .ne 6, 3) := by decide +kernel
theorem dX7_save_9 : decode cX7_save 9 = .ok (.bipush (-2), 2) := by decide +kernel
theorem dX7_save_11 : decode cX7_save 11 = .ok (.ireturn, 1) := by decide +kernel
theorem dX7_save_12 : decode cX7_save 12 = .ok (.aload_n 0, 1) := by decide +kernel
theorem dX7_save_13 : decode cX7_save 13 = .ok (.getfield 7, 3) := by decide +kernel
theorem dX7_save_16 : decode cX7_save 16 = .ok (.iconst 0, 1) := by decide +kernel
theorem dX7_save_17 : decode cX7_save 17 = .ok (.aload_n 0, 1) := by decide +kernel
theorem dX7_save_18 : decode cX7_save 18 = .ok (.getfield 16, 3) := by decide +kernel
theorem dX7_save_21 : decode cX7_save 21 = .ok (.sipush 2628, 3) := by decide +kernel
theorem dX7_save_24 : decode cX7_save 24 = .ok (.iload_n 1, 1) := by decide +kernel
theorem dX7_save_25 : decode cX7_save 25 = .ok (.imul, 1) := by decide +kernel
theorem dX7_save_26 : decode cX7_save 26 = .ok (.invokestatic 35, 3) := by decide +kernel
theorem dX7_save_29 : decode cX7_save 29 = .ok (.aload_n 0, 1) := by decide +kernel
theorem dX7_save_30 : decode cX7_save 30 = .ok (.getfield 19, 3) := by decide +kernel
theorem dX7_save_33 : decode cX7_save 33 = .ok (.iload_n 1, 1) := by decide +kernel
theorem dX7_save_34 : decode cX7_save 34 = .ok (.iconst 1, 1) := by decide +kernel
theorem dX7_save_35 : decode cX7_save 35 = .ok (.iastore, 1) := by decide +kernel
theorem dX7_save_36 : decode cX7_save 36 = .ok (.aload_n 0, 1) := by decide +kernel
theorem dX7_save_37 : decode cX7_save 37 = .ok (.getfield 7, 3) := by decide +kernel
theorem dX7_save_40 : decode cX7_save 40 = .ok (.iconst 3, 1) := by decide +kernel
theorem dX7_save_41 : decode cX7_save 41 = .ok (.iaload, 1) := by decide +kernel
theorem dX7_save_42 : decode cX7_save 42 = .ok (.ireturn, 1) := by decide +kernel
set_option maxRecDepth 20000 in
theorem ggX7_restore_X7_within : GoodIn wsX7_restore wsX7_within := goodIn_r _ [7] (by decide +kernel) (by decide +kernel)
set_option maxRecDepth 20000 in
theorem gX7_restore_X7_within : GoodIn wsX7_restore (va_wsS RX7 39 yX7_within wsX7_within) := goodIn_app (goodIn_of _ (by decide +kernel)) ggX7_restore_X7_within
set_option maxRecDepth 20000 in
theorem ggX7_restore_X7_record : GoodIn wsX7_restore wsX7_record := goodIn_r _ [11, 12, 13, 3, 14, 15, 6, 16, 17, 18, 19, 20, 21, 22, 23, 24, 25, 26, 27, 28, 29] (by decide +kernel) (by decide +kernel)
set_option maxRecDepth 20000 in
theorem gX7_restore_X7_record : GoodIn wsX7_restore (wsV RX7 104 RX7 yX7_record wsX7_record) := goodIn_app (goodIn_of _ (by decide +kernel)) ggX7_restore_X7_record
set_option maxRecDepth 20000 in
theorem ggX7_restore_X7_moves : GoodIn wsX7_restore wsX7_moves := goodIn_r _ [16] (by decide +kernel) (by decide +kernel)
set_option maxRecDepth 20000 in
theorem gX7_restore_X7_moves : GoodIn wsX7_restore (va_wsS RX7 35 yX7_moves wsX7_moves) := goodIn_app (goodIn_of _ (by decide +kernel)) ggX7_restore_X7_moves
theorem dX7_restore_0 : decode cX7_restore 0 = .ok (.iload_n 1, 1) := by decide +kernel
theorem dX7_restore_1 : decode cX7_restore 1 = .ok (.iconst 0, 1) := by decide +kernel
theorem dX7_restore_2 : decode cX7_restore 2 = .ok (.iconst 1, 1) := by decide +kernel
theorem dX7_restore_3 : decode cX7_restore 3 = .ok (.invokestatic 39, 3) := by decide +kernel
theorem dX7_restore_6 : decode cX7_restore 6 = .ok (.ifCond .ne 6, 3) := by decide +kernel
theorem dX7_restore_9 : decode cX7_restore 9 = .ok (.bipush (-2), 2) := by decide +kernel
theorem dX7_restore_11 : decode cX7_restore 11 = .ok (.ireturn, 1) := by decide +kernel
theorem dX7_restore_12 : decode cX7_restore 12 = .ok (.aload_n 0, 1) := by decide +kernel
theorem dX7_restore_13 : decode cX7_restore 13 = .ok (.getfield 19, 3) := by decide +kernel
theorem dX7_restore_16 : decode cX7_restore 16 = .ok (.iload_n 1, 1) := by decide +kernel
theorem dX7_restore_17 : decode cX7_restore 17 = .ok (.iaload, 1) := by decide +kernel
theorem dX7_restore_18 : decode cX7_restore 18 = .ok (.ifCond .ne 6, 3) := by decide +kernel
theorem dX7_restore_21 : decode cX7_restore 21 = .ok (.bipush (-5), 2) := by decide +kernel
theorem dX7_restore_23 : decode cX7_restore 23 = .ok (.ireturn, 1) := by decide +kernel
theorem dX7_restore_24 : decode cX7_restore 24 = .ok (.aload_n 0, 1) := by decide +kernel
theorem dX7_restore_25 : decode cX7_restore 25 = .ok (.invokevirtual 104, 3) := by decide +kernel
theorem dX7_restore_28 : decode cX7_restore 28 = .ok (.aload_n 0, 1) := by decide +kernel
theorem dX7_restore_29 : decode cX7_restore 29 = .ok (.getfield 16, 3) := by decide +kernel
theorem dX7_restore_32 : decode cX7_restore 32 = .ok (.sipush 2628, 3) := by decide +kernel
theorem dX7_restore_35 : decode cX7_restore 35 = .ok (.iload_n 1, 1) := by decide +kernel
theorem dX7_restore_36 : decode cX7_restore 36 = .ok (.imul, 1) := by decide +kernel
theorem dX7_restore_37 : decode cX7_restore 37 = .ok (.aload_n 0, 1) := by decide +kernel
theorem dX7_restore_38 : decode cX7_restore 38 = .ok (.getfield 7, 3) := by decide +kernel
theorem dX7_restore_41 : decode cX7_restore 41 = .ok (.iconst 0, 1) := by decide +kernel
theorem dX7_restore_42 : decode cX7_restore 42 = .ok (.invokestatic 35, 3) := by decide +kernel
theorem dX7_restore_45 : decode cX7_restore 45 = .ok (.aload_n 0, 1) := by decide +kernel
theorem dX7_restore_46 : decode cX7_restore 46 = .ok (.getfield 7, 3) := by decide +kernel
theorem dX7_restore_49 : decode cX7_restore 49 = .ok (.iconst 3, 1) := by decide +kernel
theorem dX7_restore_50 : decode cX7_restore 50 = .ok (.iaload, 1) := by decide +kernel
theorem dX7_restore_51 : decode cX7_restore 51 = .ok (.ireturn, 1) := by decide +kernel
theorem dJ6_bitCount_0f7a4_0 : decode cJ6_bitCount_0f7a4 0 = .ok (.iload_n 0, 1) := by decide +kernel
theorem dJ6_bitCount_0f7a4_1 : decode cJ6_bitCount_0f7a4 1 = .ok (.iload_n 0, 1) := by decide +kernel
theorem dJ6_bitCount_0f7a4_2 : decode cJ6_bitCount_0f7a4 2 = .ok (.iconst 1, 1) := by decide +kernel
theorem dJ6_bitCount_0f7a4_3 : decode cJ6_bitCount_0f7a4 3 = .ok (.iushr, 1) := by decide +kernel
theorem dJ6_bitCount_0f7a4_4 : decode cJ6_bitCount_0f7a4 4 = .ok (.ldc_w 265, 3) := by decide +kernel
theorem dJ6_bitCount_0f7a4_7 : decode cJ6_bitCount_0f7a4 7 = .ok (.iand, 1) := by decide +kernel
theorem dJ6_bitCount_0f7a4_8 : decode cJ6_bitCount_0f7a4 8 = .ok (.isub, 1) := by decide +kernel
theorem dJ6_bitCount_0f7a4_9 : decode cJ6_bitCount_0f7a4 9 = .ok (.istore_n 0, 1) := by decide +kernel
theorem dJ6_bitCount_0f7a4_10 : decode cJ6_bitCount_0f7a4 10 = .ok (.iload_n 0, 1) := by decide +kernel
theorem dJ6_bitCount_0f7a4_11 : decode cJ6_bitCount_0f7a4 11 = .ok (.ldc_w 266, 3) := by decide +kernel
theorem dJ6_bitCount_0f7a4_14 : decode cJ6_bitCount_0f7a4 14 = .ok (.iand, 1) := by decide +kernel
theorem dJ6_bitCount_0f7a4_15 : decode cJ6_bitCount_0f7a4 15 = .ok (.iload_n 0, 1) := by decide +kernel
theorem dJ6_bitCount_0f7a4_16 : decode cJ6_bitCount_0f7a4 16 = .ok (.iconst 2, 1) := by decide +kernel
theorem dJ6_bitCount_0f7a4_17 : decode cJ6_bitCount_0f7a4 17 = .ok (.iushr, 1) := by decide +kernel
theorem dJ6_bitCount_0f7a4_18 : decode cJ6_bitCount_0f7a4 18 = .ok (.ldc_w 266, 3) := by decide +kernel
theorem dJ6_bitCount_0f7a4_21 : decode cJ6_bitCount_0f7a4 21 = .ok (.iand, 1) := by decide +kernel
theorem dJ6_bitCount_0f7a4_22 : decode cJ6_bitCount_0f7a4 22 = .ok (.iadd, 1) := by decide +kernel
theorem dJ6_bitCount_0f7a4_23 : decode cJ6_bitCount_0f7a4 23 = .ok (.istore_n 0, 1) := by decide +kernel
theorem dJ6_bitCount_0f7a4_24 : decode cJ6_bitCount_0f7a4 24 = .ok (.iload_n 0, 1) := by decide +kernel
theorem dJ6_bitCount_0f7a4_25 : decode cJ6_bitCount_0f7a4 25 = .ok (.iload_n 0, 1) := by decide +kernel
theorem dJ6_bitCount_0f7a4_26 : decode cJ6_bitCount_0f7a4 26 = .ok (.iconst 4, 1) := by decide +kernel
theorem dJ6_bitCount_0f7a4_27 : decode cJ6_bitCount_0f7a4 27 = .ok (.iushr, 1) := by decide +kernel
theorem dJ6_bitCount_0f7a4_28 : decode cJ6_bitCount_0f7a4 28 = .ok (.iadd, 1) := by decide +kernel
theorem dJ6_bitCount_0f7a4_29 : decode cJ6_bitCount_0f7a4 29 = .ok (.ldc_w 267, 3) := by decide +kernel
theorem dJ6_bitCount_0f7a4_32 : decode cJ6_bitCount_0f7a4 32 = .ok (.iand, 1) := by decide +kernel
theorem dJ6_bitCount_0f7a4_33 : decode cJ6_bitCount_0f7a4 33 = .ok (.istore_n 0, 1) := by decide +kernel
theorem dJ6_bitCount_0f7a4_34 : decode cJ6_bitCount_0f7a4 34 = .ok (.iload_n 0, 1) := by decide +kernel
theorem dJ6_bitCount_0f7a4_35 : decode cJ6_bitCount_0f7a4 35 = .ok (.iload_n 0, 1) := by decide +kernel
theorem dJ6_bitCount_0f7a4_36 : decode cJ6_bitCount_0f7a4 36 = .ok (.bipush 8, 2) := by decide +kernel
theorem dJ6_bitCount_0f7a4_38 : decode cJ6_bitCount_0f7a4 38 = .ok (.iushr, 1) := by decide +kernel
theorem dJ6_bitCount_0f7a4_39 : decode cJ6_bitCount_0f7a4 39 = .ok (.iadd, 1) := by decide +kernel
theorem dJ6_bitCount_0f7a4_40 : decode cJ6_bitCount_0f7a4 40 = .ok (.istore_n 0, 1) := by decide +kernel
theorem dJ6_bitCount_0f7a4_41 : decode cJ6_bitCount_0f7a4 41 = .ok (.iload_n 0, 1) := by decide +kernel
theorem dJ6_bitCount_0f7a4_42 : decode cJ6_bitCount_0f7a4 42 = .ok (.iload_n 0, 1) := by decide +kernel
theorem dJ6_bitCount_0f7a4_43 : decode cJ6_bitCount_0f7a4 43 = .ok (.bipush 16, 2) := by decide +kernel
theorem dJ6_bitCount_0f7a4_45 : decode cJ6_bitCount_0f7a4 45 = .ok (.iushr, 1) := by decide +kernel
theorem dJ6_bitCount_0f7a4_46 : decode cJ6_bitCount_0f7a4 46 = .ok (.iadd, 1) := by decide +kernel
theorem dJ6_bitCount_0f7a4_47 : decode cJ6_bitCount_0f7a4 47 = .ok (.istore_n 0, 1) := by decide +kernel
theorem dJ6_bitCount_0f7a4_48 : decode cJ6_bitCount_0f7a4 48 = .ok (.iload_n 0, 1) := by decide +kernel
theorem dJ6_bitCount_0f7a4_49 : decode cJ6_bitCount_0f7a4 49 = .ok (.bipush 63, 2) := by decide +kernel
theorem dJ6_bitCount_0f7a4_51 : decode cJ6_bitCount_0f7a4 51 = .ok (.iand, 1) := by decide +kernel
theorem dJ6_bitCount_0f7a4_52 : decode cJ6_bitCount_0f7a4 52 = .ok (.ireturn, 1) := by decide +kernel
theorem dJ9_floorMod_7cf53_0 : decode cJ9_floorMod_7cf53 0 = .ok (.iload_n 0, 1) := by decide +kernel
theorem dJ9_floorMod_7cf53_1 : decode cJ9_floorMod_7cf53 1 = .ok (.iload_n 1, 1) := by decide +kernel
theorem dJ9_floorMod_7cf53_2 : decode cJ9_floorMod_7cf53 2 = .ok (.irem, 1) := by decide +kernel
theorem dJ9_floorMod_7cf53_3 : decode cJ9_floorMod_7cf53 3 = .ok (.istore_n 2, 1) := by decide +kernel
theorem dJ9_floorMod_7cf53_4 : decode cJ9_floorMod_7cf53 4 = .ok (.iload_n 0, 1) := by decide +kernel
theorem dJ9_floorMod_7cf53_5 : decode cJ9_floorMod_7cf53 5 = .ok (.iload_n 1, 1) := by decide +kernel
theorem dJ9_floorMod_7cf53_6 : decode cJ9_floorMod_7cf53 6 = .ok (.ixor, 1) := by decide +kernel
theorem dJ9_floorMod_7cf53_7 : decode cJ9_floorMod_7cf53 7 = .ok (.ifCond .ge 11, 3) := by decide +kernel
theorem dJ9_floorMod_7cf53_10 : decode cJ9_floorMod_7cf53 10 = .ok (.iload_n 2, 1) := by decide +kernel
theorem dJ9_floorMod_7cf53_11 : decode cJ9_floorMod_7cf53 11 = .ok (.ifCond .eq 7, 3) := by decide +kernel
theorem dJ9_floorMod_7cf53_14 : decode cJ9_floorMod_7cf53 14 = .ok (.iload_n 2, 1) := by decide +kernel
theorem dJ9_floorMod_7cf53_15 : decode cJ9_floorMod_7cf53 15 = .ok (.iload_n 1, 1) := by decide +kernel
theorem dJ9_floorMod_7cf53_16 : decode cJ9_floorMod_7cf53 16 = .ok (.iadd, 1) := by decide +kernel
theorem dJ9_floorMod_7cf53_17 : decode cJ9_floorMod_7cf53 17 = .ok (.ireturn, 1) := by decide +kernel
theorem dJ9_floorMod_7cf53_18 : decode cJ9_floorMod_7cf53 18 = .ok (.iload_n 2, 1) := by decide +kernel
theorem dJ9_floorMod_7cf53_19 : decode cJ9_floorMod_7cf53 19 = .ok (.ireturn, 1) := by decide +kernel
theorem dJ9_abs_0f7a4_0 : decode cJ9_abs_0f7a4 0 = .ok (.iload_n 0, 1) := by decide +kernel
theorem dJ9_abs_0f7a4_1 : decode cJ9_abs_0f7a4 1 = .ok (.ifCond .ge 8, 3) := by decide +kernel
theorem dJ9_abs_0f7a4_4 : decode cJ9_abs_0f7a4 4 = .ok (.iload_n 0, 1) := by decide +kernel
theorem dJ9_abs_0f7a4_5 : decode cJ9_abs_0f7a4 5 = .ok (.ineg, 1) := by decide +kernel
theorem dJ9_abs_0f7a4_6 : decode cJ9_abs_0f7a4 6 = .ok (.goto 4, 3) := by decide +kernel
theorem dJ9_abs_0f7a4_9 : decode cJ9_abs_0f7a4 9 = .ok (.iload_n 0, 1) := by decide +kernel
theorem dJ9_abs_0f7a4_10 : decode cJ9_abs_0f7a4 10 = .ok (.ireturn, 1) := by decide +kernel
theorem dJ9_max_7cf53_0 : decode cJ9_max_7cf53 0 = .ok (.iload_n 0, 1) := by decide +kernel
theorem dJ9_max_7cf53_1 : decode cJ9_max_7cf53 1 = .ok (.iload_n 1, 1) := by decide +kernel
theorem dJ9_max_7cf53_2 : decode cJ9_max_7cf53 2 = .ok (.if_icmp .lt 7, 3) := by decide +kernel
theorem dJ9_max_7cf53_5 : decode cJ9_max_7cf53 5 = .ok (.iload_n 0, 1) := by decide +kernel
theorem dJ9_max_7cf53_6 : decode cJ9_max_7cf53 6 = .ok (.goto 4, 3) := by decide +kernel
theorem dJ9_max_7cf53_9 : decode cJ9_max_7cf53 9 = .ok (.iload_n 1, 1) := by decide +kernel
theorem dJ9_max_7cf53_10 : decode cJ9_max_7cf53 10 = .ok (.ireturn, 1) := by decide +kernel
theorem dJ9_min_7cf53_0 : decode cJ9_min_7cf53 0 = .ok (.iload_n 0, 1) := by decide +kernel
theorem dJ9_min_7cf53_1 : decode cJ9_min_7cf53 1 = .ok (.iload_n 1, 1) := by decide +kernel
theorem dJ9_min_7cf53_2 : decode cJ9_min_7cf53 2 = .ok (.if_icmp .gt 7, 3) := by decide +kernel
theorem dJ9_min_7cf53_5 : decode cJ9_min_7cf53 5 = .ok (.iload_n 0, 1) := by decide +kernel
theorem dJ9_min_7cf53_6 : decode cJ9_min_7cf53 6 = .ok (.goto 4, 3) := by decide +kernel
theorem dJ9_min_7cf53_9 : decode cJ9_min_7cf53 9 = .ok (.iload_n 1, 1) := by decide +kernel
theorem dJ9_min_7cf53_10 : decode cJ9_min_7cf53 10 = .ok (.ireturn, 1) := by decide +kernel
abbrev vwCl : List vw_C := [(RX0, TX0, 2), (RX1, TX1, 3), (RX2, TX2, 11), (RX3, TX3, 2), (RX4, TX4, 9), (RX5, TX5, 4), (RX6, TX6, 7), (RX7, TX7, 13)]
