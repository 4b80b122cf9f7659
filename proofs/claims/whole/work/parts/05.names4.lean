set_option maxRecDepth 20000 in
theorem ggX6_loadedSet_X6_loadedBy : GoodIn wsX6_loadedSet wsX6_loadedBy := goodIn_r _ [6, 7, 8, 9, 5, 10, 11, 12, 13, 14, 15, 16, 17, 18, 19, 20, 21, 22, 23, 24, 25, 26, 27, 28, 29, 30, 1, 31, 32, 33, 34, 35, 36, 37, 38, 39, 40, 41, 42, 43, 44, 45, 46, 47, 48, 49, 50, 51, 52, 53, 54, 55, 56, 57, 58, 59, 60, 61, 62, 63, 64, 65, 66, 67, 68, 69, 70, 71, 72, 73, 74, 75, 76, 77, 78, 79, 80, 81, 82, 83] (by decide +kernel) (by decide +kernel)
set_option maxRecDepth 20000 in
theorem gX6_loadedSet_X6_loadedBy : GoodIn wsX6_loadedSet (wsV RX6 130 RX6 yX6_loadedBy wsX6_loadedBy) := goodIn_app (goodIn_of _ (by decide +kernel)) ggX6_loadedSet_X6_loadedBy
theorem dX6_loadedSet_0 : decode cX6_loadedSet 0 = .ok (.iconst 0, 1) := by decide +kernel
theorem dX6_loadedSet_1 : decode cX6_loadedSet 1 = .ok (.istore_n 2, 1) := by decide +kernel
theorem dX6_loadedSet_2 : decode cX6_loadedSet 2 = .ok (.iconst 0, 1) := by decide +kernel
theorem dX6_loadedSet_3 : decode cX6_loadedSet 3 = .ok (.istore_n 3, 1) := by decide +kernel
theorem dX6_loadedSet_4 : decode cX6_loadedSet 4 = .ok (.iload_n 3, 1) := by decide +kernel
theorem dX6_loadedSet_5 : decode cX6_loadedSet 5 = .ok (.aload_n 0, 1) := by decide +kernel
theorem dX6_loadedSet_6 : decode cX6_loadedSet 6 = .ok (.getfield 7, 3) := by decide +kernel
theorem dX6_loadedSet_9 : decode cX6_loadedSet 9 = .ok (.iconst 3, 1) := by decide +kernel
theorem dX6_loadedSet_10 : decode cX6_loadedSet 10 = .ok (.iaload, 1) := by decide +kernel
theorem dX6_loadedSet_11 : decode cX6_loadedSet 11 = .ok (.if_icmp .ge 53, 3) := by decide +kernel
theorem dX6_loadedSet_14 : decode cX6_loadedSet 14 = .ok (.aload_n 0, 1) := by decide +kernel
theorem dX6_loadedSet_15 : decode cX6_loadedSet 15 = .ok (.iload_n 3, 1) := by decide +kernel
theorem dX6_loadedSet_16 : decode cX6_loadedSet 16 = .ok (.invokevirtual 130, 3) := by decide +kernel
theorem dX6_loadedSet_19 : decode cX6_loadedSet 19 = .ok (.istore 4, 2) := by decide +kernel
theorem dX6_loadedSet_21 : decode cX6_loadedSet 21 = .ok (.iload_n 2, 1) := by decide +kernel
theorem dX6_loadedSet_22 : decode cX6_loadedSet 22 = .ok (.iload_n 1, 1) := by decide +kernel
theorem dX6_loadedSet_23 : decode cX6_loadedSet 23 = .ok (.ifCond .eq 19, 3) := by decide +kernel
theorem dX6_loadedSet_26 : decode cX6_loadedSet 26 = .ok (.iload 4, 2) := by decide +kernel
theorem dX6_loadedSet_28 : decode cX6_loadedSet 28 = .ok (.iconst 2, 1) := by decide +kernel
theorem dX6_loadedSet_29 : decode cX6_loadedSet 29 = .ok (.if_icmp .ne 9, 3) := by decide +kernel
theorem dX6_loadedSet_32 : decode cX6_loadedSet 32 = .ok (.iconst 1, 1) := by decide +kernel
theorem dX6_loadedSet_33 : decode cX6_loadedSet 33 = .ok (.iload_n 3, 1) := by decide +kernel
theorem dX6_loadedSet_34 : decode cX6_loadedSet 34 = .ok (.ishl, 1) := by decide +kernel
theorem dX6_loadedSet_35 : decode cX6_loadedSet 35 = .ok (.goto 21, 3) := by decide +kernel
theorem dX6_loadedSet_38 : decode cX6_loadedSet 38 = .ok (.iconst 0, 1) := by decide +kernel
theorem dX6_loadedSet_39 : decode cX6_loadedSet 39 = .ok (.goto 17, 3) := by decide +kernel
theorem dX6_loadedSet_42 : decode cX6_loadedSet 42 = .ok (.iload 4, 2) := by decide +kernel
theorem dX6_loadedSet_44 : decode cX6_loadedSet 44 = .ok (.bipush (-6), 2) := by decide +kernel
theorem dX6_loadedSet_46 : decode cX6_loadedSet 46 = .ok (.if_icmp .eq 9, 3) := by decide +kernel
theorem dX6_loadedSet_49 : decode cX6_loadedSet 49 = .ok (.iconst 1, 1) := by decide +kernel
theorem dX6_loadedSet_50 : decode cX6_loadedSet 50 = .ok (.iload_n 3, 1) := by decide +kernel
theorem dX6_loadedSet_51 : decode cX6_loadedSet 51 = .ok (.ishl, 1) := by decide +kernel
theorem dX6_loadedSet_52 : decode cX6_loadedSet 52 = .ok (.goto 4, 3) := by decide +kernel
theorem dX6_loadedSet_55 : decode cX6_loadedSet 55 = .ok (.iconst 0, 1) := by decide +kernel
theorem dX6_loadedSet_56 : decode cX6_loadedSet 56 = .ok (.ior, 1) := by decide +kernel
theorem dX6_loadedSet_57 : decode cX6_loadedSet 57 = .ok (.istore_n 2, 1) := by decide +kernel
theorem dX6_loadedSet_58 : decode cX6_loadedSet 58 = .ok (.iinc 3 1, 3) := by decide +kernel
theorem dX6_loadedSet_61 : decode cX6_loadedSet 61 = .ok (.goto (-57), 3) := by decide +kernel
theorem dX6_loadedSet_64 : decode cX6_loadedSet 64 = .ok (.iload_n 2, 1) := by decide +kernel
theorem dX6_loadedSet_65 : decode cX6_loadedSet 65 = .ok (.ireturn, 1) := by decide +kernel
set_option maxRecDepth 20000 in
theorem ggX6_silentMany_X6_allCells : GoodIn wsX6_silentMany wsX6_allCells := goodIn_r _ [5, 6, 7, 8, 9, 4, 10, 11, 12, 13, 14, 15, 16, 17, 18, 19, 20, 21, 22, 31, 32, 33, 34, 35, 36, 37, 38, 39, 40, 41, 42, 43] (by decide +kernel) (by decide +kernel)
set_option maxRecDepth 20000 in
theorem gX6_silentMany_X6_allCells : GoodIn wsX6_silentMany (wsV RX6 57 RX6 yX6_allCells wsX6_allCells) := goodIn_app (goodIn_of _ (by decide +kernel)) ggX6_silentMany_X6_allCells
set_option maxRecDepth 20000 in
theorem ggX6_silentMany_X6_isHeard : GoodIn wsX6_silentMany wsX6_isHeard := goodIn_r _ [26, 6, 27, 28, 29, 4, 30, 31, 32, 33, 34, 35, 36, 37, 38, 39, 40, 41, 42, 43] (by decide +kernel) (by decide +kernel)
set_option maxRecDepth 20000 in
theorem gX6_silentMany_X6_isHeard : GoodIn wsX6_silentMany (wsV RX6 76 RX6 yX6_isHeard wsX6_isHeard) := goodIn_app (goodIn_of _ (by decide +kernel)) ggX6_silentMany_X6_isHeard
theorem dX6_silentMany_0 : decode cX6_silentMany 0 = .ok (.iconst 0, 1) := by decide +kernel
theorem dX6_silentMany_1 : decode cX6_silentMany 1 = .ok (.istore_n 1, 1) := by decide +kernel
theorem dX6_silentMany_2 : decode cX6_silentMany 2 = .ok (.iconst 0, 1) := by decide +kernel
theorem dX6_silentMany_3 : decode cX6_silentMany 3 = .ok (.istore_n 2, 1) := by decide +kernel
theorem dX6_silentMany_4 : decode cX6_silentMany 4 = .ok (.iload_n 2, 1) := by decide +kernel
theorem dX6_silentMany_5 : decode cX6_silentMany 5 = .ok (.aload_n 0, 1) := by decide +kernel
theorem dX6_silentMany_6 : decode cX6_silentMany 6 = .ok (.invokevirtual 57, 3) := by decide +kernel
theorem dX6_silentMany_9 : decode cX6_silentMany 9 = .ok (.if_icmp .ge 25, 3) := by decide +kernel
theorem dX6_silentMany_12 : decode cX6_silentMany 12 = .ok (.iload_n 1, 1) := by decide +kernel
theorem dX6_silentMany_13 : decode cX6_silentMany 13 = .ok (.aload_n 0, 1) := by decide +kernel
theorem dX6_silentMany_14 : decode cX6_silentMany 14 = .ok (.iload_n 2, 1) := by decide +kernel
theorem dX6_silentMany_15 : decode cX6_silentMany 15 = .ok (.invokevirtual 76, 3) := by decide +kernel
theorem dX6_silentMany_18 : decode cX6_silentMany 18 = .ok (.ifCond .eq 7, 3) := by decide +kernel
theorem dX6_silentMany_21 : decode cX6_silentMany 21 = .ok (.iconst 0, 1) := by decide +kernel
theorem dX6_silentMany_22 : decode cX6_silentMany 22 = .ok (.goto 4, 3) := by decide +kernel
theorem dX6_silentMany_25 : decode cX6_silentMany 25 = .ok (.iconst 1, 1) := by decide +kernel
theorem dX6_silentMany_26 : decode cX6_silentMany 26 = .ok (.iadd, 1) := by decide +kernel
theorem dX6_silentMany_27 : decode cX6_silentMany 27 = .ok (.istore_n 1, 1) := by decide +kernel
theorem dX6_silentMany_28 : decode cX6_silentMany 28 = .ok (.iinc 2 1, 3) := by decide +kernel
theorem dX6_silentMany_31 : decode cX6_silentMany 31 = .ok (.goto (-27), 3) := by decide +kernel
theorem dX6_silentMany_34 : decode cX6_silentMany 34 = .ok (.iload_n 1, 1) := by decide +kernel
theorem dX6_silentMany_35 : decode cX6_silentMany 35 = .ok (.ireturn, 1) := by decide +kernel
set_option maxRecDepth 20000 in
theorem ggX6_badMany_X6_allCells : GoodIn wsX6_badMany wsX6_allCells := goodIn_r _ [5, 6, 7, 8, 9, 4, 10, 11, 12, 13, 14, 15, 16, 17, 18, 19, 20, 21, 22, 27, 28, 29, 30, 31, 32, 33, 34, 35, 36, 37, 38, 39] (by decide +kernel) (by decide +kernel)
set_option maxRecDepth 20000 in
theorem gX6_badMany_X6_allCells : GoodIn wsX6_badMany (wsV RX6 57 RX6 yX6_allCells wsX6_allCells) := goodIn_app (goodIn_of _ (by decide +kernel)) ggX6_badMany_X6_allCells
set_option maxRecDepth 20000 in
theorem ggX6_badMany_X6_badness : GoodIn wsX6_badMany wsX6_badness := goodIn_r _ [26, 6, 27, 28, 29, 30, 31, 32, 33, 34, 35, 36, 37, 38, 39] (by decide +kernel) (by decide +kernel)
set_option maxRecDepth 20000 in
theorem gX6_badMany_X6_badness : GoodIn wsX6_badMany (wsV RX6 70 RX6 yX6_badness wsX6_badness) := goodIn_app (goodIn_of _ (by decide +kernel)) ggX6_badMany_X6_badness
theorem dX6_badMany_0 : decode cX6_badMany 0 = .ok (.iconst 0, 1) := by decide +kernel
theorem dX6_badMany_1 : decode cX6_badMany 1 = .ok (.istore_n 1, 1) := by decide +kernel
theorem dX6_badMany_2 : decode cX6_badMany 2 = .ok (.iconst 0, 1) := by decide +kernel
theorem dX6_badMany_3 : decode cX6_badMany 3 = .ok (.istore_n 2, 1) := by decide +kernel
theorem dX6_badMany_4 : decode cX6_badMany 4 = .ok (.iload_n 2, 1) := by decide +kernel
theorem dX6_badMany_5 : decode cX6_badMany 5 = .ok (.aload_n 0, 1) := by decide +kernel
theorem dX6_badMany_6 : decode cX6_badMany 6 = .ok (.invokevirtual 57, 3) := by decide +kernel
theorem dX6_badMany_9 : decode cX6_badMany 9 = .ok (.if_icmp .ge 17, 3) := by decide +kernel
theorem dX6_badMany_12 : decode cX6_badMany 12 = .ok (.iload_n 1, 1) := by decide +kernel
theorem dX6_badMany_13 : decode cX6_badMany 13 = .ok (.aload_n 0, 1) := by decide +kernel
theorem dX6_badMany_14 : decode cX6_badMany 14 = .ok (.iload_n 2, 1) := by decide +kernel
theorem dX6_badMany_15 : decode cX6_badMany 15 = .ok (.invokevirtual 70, 3) := by decide +kernel
theorem dX6_badMany_18 : decode cX6_badMany 18 = .ok (.iadd, 1) := by decide +kernel
theorem dX6_badMany_19 : decode cX6_badMany 19 = .ok (.istore_n 1, 1) := by decide +kernel
theorem dX6_badMany_20 : decode cX6_badMany 20 = .ok (.iinc 2 1, 3) := by decide +kernel
theorem dX6_badMany_23 : decode cX6_badMany 23 = .ok (.goto (-19), 3) := by decide +kernel
theorem dX6_badMany_26 : decode cX6_badMany 26 = .ok (.iload_n 1, 1) := by decide +kernel
theorem dX6_badMany_27 : decode cX6_badMany 27 = .ok (.ireturn, 1) := by decide +kernel
set_option maxRecDepth 20000 in
theorem ggX6_count_X6_allCells : GoodIn wsX6_count wsX6_allCells := goodIn_r _ [8, 1, 9, 10, 11, 7, 12, 13, 14, 15, 16, 17, 18, 19, 20, 21, 22, 23, 24, 89, 90, 91, 92, 93, 94, 95, 96, 97, 98, 99, 100, 101] (by decide +kernel) (by decide +kernel)
set_option maxRecDepth 20000 in
theorem gX6_count_X6_allCells : GoodIn wsX6_count (wsV RX6 57 RX6 yX6_allCells wsX6_allCells) := goodIn_app (goodIn_of _ (by decide +kernel)) ggX6_count_X6_allCells
set_option maxRecDepth 20000 in
theorem ggX6_count_X6_loadedSet : GoodIn wsX6_count wsX6_loadedSet := goodIn_r _ [28, 1, 29, 30, 31, 7, 32, 33, 34, 35, 36, 37, 38, 39, 40, 9, 10, 11, 12, 13, 14, 15, 16, 17, 18, 19, 20, 21, 22, 23, 24, 41, 42, 43, 44, 45, 46, 47, 48, 49, 50, 51, 52, 53, 54, 55, 56, 57, 58, 59, 60, 61, 62, 63, 64, 65, 66, 67, 68, 69, 70, 71, 72, 73, 74, 75, 76, 77, 78, 79, 80, 89, 90, 91, 92, 93, 94, 95, 96, 97, 98, 99, 100, 101] (by decide +kernel) (by decide +kernel)
set_option maxRecDepth 20000 in
theorem gX6_count_X6_loadedSet : GoodIn wsX6_count (wsV RX6 152 RX6 yX6_loadedSet wsX6_loadedSet) := goodIn_app (goodIn_of _ (by decide +kernel)) ggX6_count_X6_loadedSet
set_option maxRecDepth 20000 in
theorem ggX6_count_X6_silentMany : GoodIn wsX6_count wsX6_silentMany := goodIn_r _ [84, 4, 5, 6, 7, 8, 1, 9, 10, 11, 12, 13, 14, 15, 16, 17, 18, 19, 20, 21, 22, 23, 24, 41, 42, 43, 44, 45, 46, 47, 48, 89, 90, 91, 92, 93, 94, 95, 96, 97, 98, 99, 100, 101] (by decide +kernel) (by decide +kernel)
set_option maxRecDepth 20000 in
theorem gX6_count_X6_silentMany : GoodIn wsX6_count (wsV RX6 156 RX6 yX6_silentMany wsX6_silentMany) := goodIn_app (goodIn_of _ (by decide +kernel)) ggX6_count_X6_silentMany
set_option maxRecDepth 20000 in
theorem ggX6_count_X6_badMany : GoodIn wsX6_count wsX6_badMany := goodIn_r _ [88, 4, 5, 6, 7, 8, 1, 9, 10, 11, 12, 13, 14, 15, 16, 17, 18, 19, 20, 21, 22, 23, 24, 68, 69, 70, 71, 89, 90, 91, 92, 93, 94, 95, 96, 97, 98, 99, 100, 101] (by decide +kernel) (by decide +kernel)
set_option maxRecDepth 20000 in
theorem gX6_count_X6_badMany : GoodIn wsX6_count (wsV RX6 159 RX6 yX6_badMany wsX6_badMany) := goodIn_app (goodIn_of _ (by decide +kernel)) ggX6_count_X6_badMany
theorem dX6_count_0 : decode cX6_count 0 = .ok (.iload_n 1, 1) := by decide +kernel
theorem dX6_count_1 : decode cX6_count 1 = .ok (.tableswitch 113 0 10 #[59, 66, 71, 77, 83, 88, 93, 93, 93, 103, 108], 59) := by decide +kernel
theorem dX6_count_60 : decode cX6_count 60 = .ok (.aload_n 0, 1) := by decide +kernel
theorem dX6_count_61 : decode cX6_count 61 = .ok (.getfield 7, 3) := by decide +kernel
theorem dX6_count_64 : decode cX6_count 64 = .ok (.iconst 3, 1) := by decide +kernel
theorem dX6_count_65 : decode cX6_count 65 = .ok (.iaload, 1) := by decide +kernel
theorem dX6_count_66 : decode cX6_count 66 = .ok (.ireturn, 1) := by decide +kernel
theorem dX6_count_67 : decode cX6_count 67 = .ok (.aload_n 0, 1) := by decide +kernel
theorem dX6_count_68 : decode cX6_count 68 = .ok (.invokevirtual 57, 3) := by decide +kernel
theorem dX6_count_71 : decode cX6_count 71 = .ok (.ireturn, 1) := by decide +kernel
theorem dX6_count_72 : decode cX6_count 72 = .ok (.aload_n 0, 1) := by decide +kernel
theorem dX6_count_73 : decode cX6_count 73 = .ok (.iconst 0, 1) := by decide +kernel
theorem dX6_count_74 : decode cX6_count 74 = .ok (.invokevirtual 152, 3) := by decide +kernel
theorem dX6_count_77 : decode cX6_count 77 = .ok (.ireturn, 1) := by decide +kernel
theorem dX6_count_78 : decode cX6_count 78 = .ok (.aload_n 0, 1) := by decide +kernel
theorem dX6_count_79 : decode cX6_count 79 = .ok (.iconst 1, 1) := by decide +kernel
theorem dX6_count_80 : decode cX6_count 80 = .ok (.invokevirtual 152, 3) := by decide +kernel
theorem dX6_count_83 : decode cX6_count 83 = .ok (.ireturn, 1) := by decide +kernel
theorem dX6_count_84 : decode cX6_count 84 = .ok (.aload_n 0, 1) := by decide +kernel
theorem dX6_count_85 : decode cX6_count 85 = .ok (.invokevirtual 156, 3) := by decide +kernel
theorem dX6_count_88 : decode cX6_count 88 = .ok (.ireturn, 1) := by decide +kernel
theorem dX6_count_89 : decode cX6_count 89 = .ok (.aload_n 0, 1) := by decide +kernel
theorem dX6_count_90 : decode cX6_count 90 = .ok (.invokevirtual 159, 3) := by decide +kernel
theorem dX6_count_93 : decode cX6_count 93 = .ok (.ireturn, 1) := by decide +kernel
theorem dX6_count_94 : decode cX6_count 94 = .ok (.aload_n 0, 1) := by decide +kernel
theorem dX6_count_95 : decode cX6_count 95 = .ok (.getfield 7, 3) := by decide +kernel
theorem dX6_count_98 : decode cX6_count 98 = .ok (.iload_n 1, 1) := by decide +kernel
theorem dX6_count_99 : decode cX6_count 99 = .ok (.bipush 6, 2) := by decide +kernel
theorem dX6_count_101 : decode cX6_count 101 = .ok (.isub, 1) := by decide +kernel
theorem dX6_count_102 : decode cX6_count 102 = .ok (.iaload, 1) := by decide +kernel
theorem dX6_count_103 : decode cX6_count 103 = .ok (.ireturn, 1) := by decide +kernel
theorem dX6_count_104 : decode cX6_count 104 = .ok (.aload_n 0, 1) := by decide +kernel
theorem dX6_count_105 : decode cX6_count 105 = .ok (.getfield 162, 3) := by decide +kernel
theorem dX6_count_108 : decode cX6_count 108 = .ok (.ireturn, 1) := by decide +kernel
theorem dX6_count_109 : decode cX6_count 109 = .ok (.aload_n 0, 1) := by decide +kernel
theorem dX6_count_110 : decode cX6_count 110 = .ok (.getfield 31, 3) := by decide +kernel
theorem dX6_count_113 : decode cX6_count 113 = .ok (.ireturn, 1) := by decide +kernel
theorem dX6_count_114 : decode cX6_count 114 = .ok (.bipush (-2), 2) := by decide +kernel
theorem dX6_count_116 : decode cX6_count 116 = .ok (.ireturn, 1) := by decide +kernel
set_option maxRecDepth 20000 in
theorem ggX6_reachedSet_X6_loadedSet : GoodIn wsX6_reachedSet wsX6_loadedSet := goodIn_r _ [6, 1, 7, 8, 9, 5, 10, 11, 12, 13, 14, 15, 16, 17, 18, 19, 20, 21, 22, 23, 24, 25, 26, 27, 28, 29, 30, 31, 32, 33, 34, 35, 36, 37, 38, 39, 40, 41, 42, 43, 44, 45, 46, 47, 48, 49, 50, 51, 52, 53, 54, 55, 56, 57, 58, 59, 60, 61, 62, 63, 64, 65, 66, 67, 68, 69, 70, 71, 72, 73, 74, 75, 76, 77, 78, 79, 80, 81, 82, 83, 84, 85, 86, 87] (by decide +kernel) (by decide +kernel)
set_option maxRecDepth 20000 in
theorem gX6_reachedSet_X6_loadedSet : GoodIn wsX6_reachedSet (wsV RX6 152 RX6 yX6_loadedSet wsX6_loadedSet) := goodIn_app (goodIn_of _ (by decide +kernel)) ggX6_reachedSet_X6_loadedSet
set_option maxRecDepth 20000 in
theorem ggX6_reachedSet_X6_part : GoodIn wsX6_reachedSet wsX6_part := goodIn_r _ [34, 1, 75, 76, 77, 78, 79, 80, 81, 82, 83, 84, 85, 86, 87] (by decide +kernel) (by decide +kernel)
set_option maxRecDepth 20000 in
theorem gX6_reachedSet_X6_part : GoodIn wsX6_reachedSet (wsV RX6 43 RX6 yX6_part wsX6_part) := goodIn_app (goodIn_of _ (by decide +kernel)) ggX6_reachedSet_X6_part
theorem dX6_reachedSet_0 : decode cX6_reachedSet 0 = .ok (.aload_n 0, 1) := by decide +kernel
theorem dX6_reachedSet_1 : decode cX6_reachedSet 1 = .ok (.iconst 0, 1) := by decide +kernel
theorem dX6_reachedSet_2 : decode cX6_reachedSet 2 = .ok (.invokevirtual 152, 3) := by decide +kernel
theorem dX6_reachedSet_5 : decode cX6_reachedSet 5 = .ok (.istore_n 1, 1) := by decide +kernel
theorem dX6_reachedSet_6 : decode cX6_reachedSet 6 = .ok (.iconst 0, 1) := by decide +kernel
theorem dX6_reachedSet_7 : decode cX6_reachedSet 7 = .ok (.istore_n 2, 1) := by decide +kernel
theorem dX6_reachedSet_8 : decode cX6_reachedSet 8 = .ok (.iconst 0, 1) := by decide +kernel
theorem dX6_reachedSet_9 : decode cX6_reachedSet 9 = .ok (.istore_n 3, 1) := by decide +kernel
theorem dX6_reachedSet_10 : decode cX6_reachedSet 10 = .ok (.iload_n 3, 1) := by decide +kernel
theorem dX6_reachedSet_11 : decode cX6_reachedSet 11 = .ok (.aload_n 0, 1) := by decide +kernel
theorem dX6_reachedSet_12 : decode cX6_reachedSet 12 = .ok (.getfield 7, 3) := by decide +kernel
theorem dX6_reachedSet_15 : decode cX6_reachedSet 15 = .ok (.iconst 3, 1) := by decide +kernel
theorem dX6_reachedSet_16 : decode cX6_reachedSet 16 = .ok (.iaload, 1) := by decide +kernel
theorem dX6_reachedSet_17 : decode cX6_reachedSet 17 = .ok (.if_icmp .ge 53, 3) := by decide +kernel
theorem dX6_reachedSet_20 : decode cX6_reachedSet 20 = .ok (.aload_n 0, 1) := by decide +kernel
theorem dX6_reachedSet_21 : decode cX6_reachedSet 21 = .ok (.iload_n 3, 1) := by decide +kernel
theorem dX6_reachedSet_22 : decode cX6_reachedSet 22 = .ok (.iconst 1, 1) := by decide +kernel
theorem dX6_reachedSet_23 : decode cX6_reachedSet 23 = .ok (.invokevirtual 43, 3) := by decide +kernel
theorem dX6_reachedSet_26 : decode cX6_reachedSet 26 = .ok (.istore 4, 2) := by decide +kernel
theorem dX6_reachedSet_28 : decode cX6_reachedSet 28 = .ok (.iload_n 2, 1) := by decide +kernel
theorem dX6_reachedSet_29 : decode cX6_reachedSet 29 = .ok (.iload_n 1, 1) := by decide +kernel
theorem dX6_reachedSet_30 : decode cX6_reachedSet 30 = .ok (.iload_n 3, 1) := by decide +kernel
theorem dX6_reachedSet_31 : decode cX6_reachedSet 31 = .ok (.ishr, 1) := by decide +kernel
theorem dX6_reachedSet_32 : decode cX6_reachedSet 32 = .ok (.iconst 1, 1) := by decide +kernel
theorem dX6_reachedSet_33 : decode cX6_reachedSet 33 = .ok (.iand, 1) := by decide +kernel
theorem dX6_reachedSet_34 : decode cX6_reachedSet 34 = .ok (.iconst 1, 1) := by decide +kernel
theorem dX6_reachedSet_35 : decode cX6_reachedSet 35 = .ok (.if_icmp .ne 26, 3) := by decide +kernel
theorem dX6_reachedSet_38 : decode cX6_reachedSet 38 = .ok (.iload 4, 2) := by decide +kernel
theorem dX6_reachedSet_40 : decode cX6_reachedSet 40 = .ok (.bipush (-6), 2) := by decide +kernel
theorem dX6_reachedSet_42 : decode cX6_reachedSet 42 = .ok (.if_icmp .eq 13, 3) := by decide +kernel
theorem dX6_reachedSet_45 : decode cX6_reachedSet 45 = .ok (.iload_n 2, 1) := by decide +kernel
theorem dX6_reachedSet_46 : decode cX6_reachedSet 46 = .ok (.iload 4, 2) := by decide +kernel
theorem dX6_reachedSet_48 : decode cX6_reachedSet 48 = .ok (.ishr, 1) := by decide +kernel
theorem dX6_reachedSet_49 : decode cX6_reachedSet 49 = .ok (.iconst 1, 1) := by decide +kernel
theorem dX6_reachedSet_50 : decode cX6_reachedSet 50 = .ok (.iand, 1) := by decide +kernel
theorem dX6_reachedSet_51 : decode cX6_reachedSet 51 = .ok (.iconst 1, 1) := by decide +kernel
theorem dX6_reachedSet_52 : decode cX6_reachedSet 52 = .ok (.if_icmp .ne 9, 3) := by decide +kernel
theorem dX6_reachedSet_55 : decode cX6_reachedSet 55 = .ok (.iconst 1, 1) := by decide +kernel
theorem dX6_reachedSet_56 : decode cX6_reachedSet 56 = .ok (.iload_n 3, 1) := by decide +kernel
theorem dX6_reachedSet_57 : decode cX6_reachedSet 57 = .ok (.ishl, 1) := by decide +kernel
theorem dX6_reachedSet_58 : decode cX6_reachedSet 58 = .ok (.goto 4, 3) := by decide +kernel
theorem dX6_reachedSet_61 : decode cX6_reachedSet 61 = .ok (.iconst 0, 1) := by decide +kernel
theorem dX6_reachedSet_62 : decode cX6_reachedSet 62 = .ok (.ior, 1) := by decide +kernel
theorem dX6_reachedSet_63 : decode cX6_reachedSet 63 = .ok (.istore_n 2, 1) := by decide +kernel
theorem dX6_reachedSet_64 : decode cX6_reachedSet 64 = .ok (.iinc 3 1, 3) := by decide +kernel
theorem dX6_reachedSet_67 : decode cX6_reachedSet 67 = .ok (.goto (-57), 3) := by decide +kernel
theorem dX6_reachedSet_70 : decode cX6_reachedSet 70 = .ok (.iload_n 2, 1) := by decide +kernel
theorem dX6_reachedSet_71 : decode cX6_reachedSet 71 = .ok (.ireturn, 1) := by decide +kernel
set_option maxRecDepth 20000 in
theorem ggX6_reached_X6_reachedSet : GoodIn wsX6_reached wsX6_reachedSet := goodIn_r _ [5, 6, 7, 8, 9, 4, 10, 11, 12, 13, 14, 15, 16, 17, 18, 19, 20, 21, 22, 23, 24, 25, 26, 27, 28, 29, 30, 31, 32, 33, 34, 35, 36, 37, 38, 39, 40, 41, 42, 43, 44, 45, 46, 47, 48, 49, 50, 51, 52, 53, 54, 55, 56, 57, 58, 59, 60, 61, 62, 63, 64, 65, 66, 67, 68, 69, 70, 71, 72, 73, 74, 75, 76, 77, 78, 79, 80, 81, 82, 83, 84, 85, 86, 87, 88, 89, 90, 91] (by decide +kernel) (by decide +kernel)
set_option maxRecDepth 20000 in
theorem gX6_reached_X6_reachedSet : GoodIn wsX6_reached (wsV RX6 165 RX6 yX6_reachedSet wsX6_reachedSet) := goodIn_app (goodIn_of _ (by decide +kernel)) ggX6_reached_X6_reachedSet
theorem dX6_reached_0 : decode cX6_reached 0 = .ok (.aload_n 0, 1) := by decide +kernel
theorem dX6_reached_1 : decode cX6_reached 1 = .ok (.invokevirtual 165, 3) := by decide +kernel
theorem dX6_reached_4 : decode cX6_reached 4 = .ok (.ireturn, 1) := by decide +kernel
set_option maxRecDepth 20000 in
theorem ggX6_farFrom_X6_firstOf : GoodIn wsX6_farFrom wsX6_firstOf := goodIn_r _ [5, 6, 7, 8, 4, 9, 10, 11, 12, 13, 14, 15, 16, 17, 18, 26, 27, 28, 29, 30, 31, 32, 33, 34, 35, 36, 37, 38] (by decide +kernel) (by decide +kernel)
set_option maxRecDepth 20000 in
theorem gX6_farFrom_X6_firstOf : GoodIn wsX6_farFrom (wsV RX6 54 RX6 yX6_firstOf wsX6_firstOf) := goodIn_app (goodIn_of _ (by decide +kernel)) ggX6_farFrom_X6_firstOf
set_option maxRecDepth 20000 in
theorem ggX6_farFrom_X6_counterOf : GoodIn wsX6_farFrom wsX6_counterOf := goodIn_r _ [22, 18, 26, 27, 28, 29, 30, 31, 32, 33, 34, 35, 36, 37, 38] (by decide +kernel) (by decide +kernel)
set_option maxRecDepth 20000 in
theorem gX6_farFrom_X6_counterOf : GoodIn wsX6_farFrom (wsV RX6 136 RX6 yX6_counterOf wsX6_counterOf) := goodIn_app (goodIn_of _ (by decide +kernel)) ggX6_farFrom_X6_counterOf
set_option maxRecDepth 20000 in
theorem ggX6_farFrom_X6_size : GoodIn wsX6_farFrom wsX6_size := goodIn_r _ [25] (by decide +kernel) (by decide +kernel)
set_option maxRecDepth 20000 in
theorem gX6_farFrom_X6_size : GoodIn wsX6_farFrom (va_wsS RX6 168 yX6_size wsX6_size) := goodIn_app (goodIn_of _ (by decide +kernel)) ggX6_farFrom_X6_size
theorem dX6_farFrom_0 : decode cX6_farFrom 0 = .ok (.aload_n 0, 1) := by decide +kernel
theorem dX6_farFrom_1 : decode cX6_farFrom 1 = .ok (.aload_n 0, 1) := by decide +kernel
theorem dX6_farFrom_2 : decode cX6_farFrom 2 = .ok (.iload_n 1, 1) := by decide +kernel
theorem dX6_farFrom_3 : decode cX6_farFrom 3 = .ok (.invokevirtual 54, 3) := by decide +kernel
theorem dX6_farFrom_6 : decode cX6_farFrom 6 = .ok (.invokevirtual 136, 3) := by decide +kernel
theorem dX6_farFrom_9 : decode cX6_farFrom 9 = .ok (.iload_n 2, 1) := by decide +kernel
theorem dX6_farFrom_10 : decode cX6_farFrom 10 = .ok (.isub, 1) := by decide +kernel
theorem dX6_farFrom_11 : decode cX6_farFrom 11 = .ok (.invokestatic 168, 3) := by decide +kernel
theorem dX6_farFrom_14 : decode cX6_farFrom 14 = .ok (.istore_n 3, 1) := by decide +kernel
theorem dX6_farFrom_15 : decode cX6_farFrom 15 = .ok (.iload_n 3, 1) := by decide +kernel
theorem dX6_farFrom_16 : decode cX6_farFrom 16 = .ok (.sipush 1000, 3) := by decide +kernel
theorem dX6_farFrom_19 : decode cX6_farFrom 19 = .ok (.iload_n 3, 1) := by decide +kernel
theorem dX6_farFrom_20 : decode cX6_farFrom 20 = .ok (.isub, 1) := by decide +kernel
theorem dX6_farFrom_21 : decode cX6_farFrom 21 = .ok (.if_icmp .ge 7, 3) := by decide +kernel
theorem dX6_farFrom_24 : decode cX6_farFrom 24 = .ok (.iload_n 3, 1) := by decide +kernel
theorem dX6_farFrom_25 : decode cX6_farFrom 25 = .ok (.goto 8, 3) := by decide +kernel
theorem dX6_farFrom_28 : decode cX6_farFrom 28 = .ok (.sipush 1000, 3) := by decide +kernel
theorem dX6_farFrom_31 : decode cX6_farFrom 31 = .ok (.iload_n 3, 1) := by decide +kernel
theorem dX6_farFrom_32 : decode cX6_farFrom 32 = .ok (.isub, 1) := by decide +kernel
theorem dX6_farFrom_33 : decode cX6_farFrom 33 = .ok (.ireturn, 1) := by decide +kernel
set_option maxRecDepth 20000 in
theorem ggX6_near_X6_within : GoodIn wsX6_near wsX6_within := goodIn_r _ [5] (by decide +kernel) (by decide +kernel)
set_option maxRecDepth 20000 in
theorem gX6_near_X6_within : GoodIn wsX6_near (va_wsS RX6 39 yX6_within wsX6_within) := goodIn_app (goodIn_of _ (by decide +kernel)) ggX6_near_X6_within
set_option maxRecDepth 20000 in
theorem ggX6_near_X6_farFrom : GoodIn wsX6_near wsX6_farFrom := goodIn_r _ [9, 10, 11, 12, 4, 13, 14, 15, 16, 17, 18, 19, 20, 21, 22, 23, 24, 25, 1, 26, 27, 28, 29, 30, 31, 32, 33, 34, 35, 36, 37, 38, 39, 40, 41, 42, 43, 44, 45] (by decide +kernel) (by decide +kernel)
set_option maxRecDepth 20000 in
theorem gX6_near_X6_farFrom : GoodIn wsX6_near (wsV RX6 171 RX6 yX6_farFrom wsX6_farFrom) := goodIn_app (goodIn_of _ (by decide +kernel)) ggX6_near_X6_farFrom
theorem dX6_near_0 : decode cX6_near 0 = .ok (.iload_n 2, 1) := by decide +kernel
theorem dX6_near_1 : decode cX6_near 1 = .ok (.iconst 0, 1) := by decide +kernel
theorem dX6_near_2 : decode cX6_near 2 = .ok (.aload_n 0, 1) := by decide +kernel
theorem dX6_near_3 : decode cX6_near 3 = .ok (.getfield 7, 3) := by decide +kernel
theorem dX6_near_6 : decode cX6_near 6 = .ok (.iconst 3, 1) := by decide +kernel
theorem dX6_near_7 : decode cX6_near 7 = .ok (.iaload, 1) := by decide +kernel
theorem dX6_near_8 : decode cX6_near 8 = .ok (.iconst 1, 1) := by decide +kernel
theorem dX6_near_9 : decode cX6_near 9 = .ok (.isub, 1) := by decide +kernel
theorem dX6_near_10 : decode cX6_near 10 = .ok (.invokestatic 39, 3) := by decide +kernel
theorem dX6_near_13 : decode cX6_near 13 = .ok (.ifCond .ne 5, 3) := by decide +kernel
theorem dX6_near_16 : decode cX6_near 16 = .ok (.iconst (-1), 1) := by decide +kernel
theorem dX6_near_17 : decode cX6_near 17 = .ok (.ireturn, 1) := by decide +kernel
theorem dX6_near_18 : decode cX6_near 18 = .ok (.iload_n 1, 1) := by decide +kernel
theorem dX6_near_19 : decode cX6_near 19 = .ok (.iconst 0, 1) := by decide +kernel
theorem dX6_near_20 : decode cX6_near 20 = .ok (.sipush 999, 3) := by decide +kernel
theorem dX6_near_23 : decode cX6_near 23 = .ok (.invokestatic 39, 3) := by decide +kernel
theorem dX6_near_26 : decode cX6_near 26 = .ok (.ifCond .ne 6, 3) := by decide +kernel
theorem dX6_near_29 : decode cX6_near 29 = .ok (.bipush (-2), 2) := by decide +kernel
theorem dX6_near_31 : decode cX6_near 31 = .ok (.ireturn, 1) := by decide +kernel
theorem dX6_near_32 : decode cX6_near 32 = .ok (.bipush (-6), 2) := by decide +kernel
theorem dX6_near_34 : decode cX6_near 34 = .ok (.istore_n 3, 1) := by decide +kernel
theorem dX6_near_35 : decode cX6_near 35 = .ok (.iconst 0, 1) := by decide +kernel
theorem dX6_near_36 : decode cX6_near 36 = .ok (.istore 4, 2) := by decide +kernel
theorem dX6_near_38 : decode cX6_near 38 = .ok (.iload 4, 2) := by decide +kernel
theorem dX6_near_40 : decode cX6_near 40 = .ok (.aload_n 0, 1) := by decide +kernel
theorem dX6_near_41 : decode cX6_near 41 = .ok (.getfield 7, 3) := by decide +kernel
theorem dX6_near_44 : decode cX6_near 44 = .ok (.iconst 3, 1) := by decide +kernel
theorem dX6_near_45 : decode cX6_near 45 = .ok (.iaload, 1) := by decide +kernel
theorem dX6_near_46 : decode cX6_near 46 = .ok (.if_icmp .ge 96, 3) := by decide +kernel
theorem dX6_near_49 : decode cX6_near 49 = .ok (.iconst 0, 1) := by decide +kernel
theorem dX6_near_50 : decode cX6_near 50 = .ok (.istore 5, 2) := by decide +kernel
theorem dX6_near_52 : decode cX6_near 52 = .ok (.iconst 0, 1) := by decide +kernel
theorem dX6_near_53 : decode cX6_near 53 = .ok (.istore 6, 2) := by decide +kernel
theorem dX6_near_55 : decode cX6_near 55 = .ok (.iload 6, 2) := by decide +kernel
theorem dX6_near_57 : decode cX6_near 57 = .ok (.aload_n 0, 1) := by decide +kernel
theorem dX6_near_58 : decode cX6_near 58 = .ok (.getfield 7, 3) := by decide +kernel
theorem dX6_near_61 : decode cX6_near 61 = .ok (.iconst 3, 1) := by decide +kernel
theorem dX6_near_62 : decode cX6_near 62 = .ok (.iaload, 1) := by decide +kernel
theorem dX6_near_63 : decode cX6_near 63 = .ok (.if_icmp .ge 60, 3) := by decide +kernel
theorem dX6_near_66 : decode cX6_near 66 = .ok (.iload 5, 2) := by decide +kernel
theorem dX6_near_68 : decode cX6_near 68 = .ok (.aload_n 0, 1) := by decide +kernel
theorem dX6_near_69 : decode cX6_near 69 = .ok (.iload 6, 2) := by decide +kernel
theorem dX6_near_71 : decode cX6_near 71 = .ok (.iload_n 1, 1) := by decide +kernel
theorem dX6_near_72 : decode cX6_near 72 = .ok (.invokevirtual 171, 3) := by decide +kernel
theorem dX6_near_75 : decode cX6_near 75 = .ok (.aload_n 0, 1) := by decide +kernel
theorem dX6_near_76 : decode cX6_near 76 = .ok (.iload 4, 2) := by decide +kernel
theorem dX6_near_78 : decode cX6_near 78 = .ok (.iload_n 1, 1) := by decide +kernel
theorem dX6_near_79 : decode cX6_near 79 = .ok (.invokevirtual 171, 3) := by decide +kernel
theorem dX6_near_82 : decode cX6_near 82 = .ok (.if_icmp .lt 27, 3) := by decide +kernel
theorem dX6_near_85 : decode cX6_near 85 = .ok (.aload_n 0, 1) := by decide +kernel
theorem dX6_near_86 : decode cX6_near 86 = .ok (.iload 6, 2) := by decide +kernel
theorem dX6_near_88 : decode cX6_near 88 = .ok (.iload_n 1, 1) := by decide +kernel
theorem dX6_near_89 : decode cX6_near 89 = .ok (.invokevirtual 171, 3) := by decide +kernel
theorem dX6_near_92 : decode cX6_near 92 = .ok (.aload_n 0, 1) := by decide +kernel
theorem dX6_near_93 : decode cX6_near 93 = .ok (.iload 4, 2) := by decide +kernel
theorem dX6_near_95 : decode cX6_near 95 = .ok (.iload_n 1, 1) := by decide +kernel
theorem dX6_near_96 : decode cX6_near 96 = .ok (.invokevirtual 171, 3) := by decide +kernel
theorem dX6_near_99 : decode cX6_near 99 = .ok (.if_icmp .ne 14, 3) := by decide +kernel
theorem dX6_near_102 : decode cX6_near 102 = .ok (.iload 6, 2) := by decide +kernel
theorem dX6_near_104 : decode cX6_near 104 = .ok (.iload 4, 2) := by decide +kernel
theorem dX6_near_106 : decode cX6_near 106 = .ok (.if_icmp .ge 7, 3) := by decide +kernel
theorem dX6_near_109 : decode cX6_near 109 = .ok (.iconst 1, 1) := by decide +kernel
theorem dX6_near_110 : decode cX6_near 110 = .ok (.goto 4, 3) := by decide +kernel
theorem dX6_near_113 : decode cX6_near 113 = .ok (.iconst 0, 1) := by decide +kernel
theorem dX6_near_114 : decode cX6_near 114 = .ok (.iadd, 1) := by decide +kernel
theorem dX6_near_115 : decode cX6_near 115 = .ok (.istore 5, 2) := by decide +kernel
theorem dX6_near_117 : decode cX6_near 117 = .ok (.iinc 6 1, 3) := by decide +kernel
theorem dX6_near_120 : decode cX6_near 120 = .ok (.goto (-65), 3) := by decide +kernel
theorem dX6_near_123 : decode cX6_near 123 = .ok (.iload 5, 2) := by decide +kernel
theorem dX6_near_125 : decode cX6_near 125 = .ok (.iload_n 2, 1) := by decide +kernel
theorem dX6_near_126 : decode cX6_near 126 = .ok (.if_icmp .ne 8, 3) := by decide +kernel
theorem dX6_near_129 : decode cX6_near 129 = .ok (.iload 4, 2) := by decide +kernel
theorem dX6_near_131 : decode cX6_near 131 = .ok (.goto 4, 3) := by decide +kernel
theorem dX6_near_134 : decode cX6_near 134 = .ok (.iload_n 3, 1) := by decide +kernel
theorem dX6_near_135 : decode cX6_near 135 = .ok (.istore_n 3, 1) := by decide +kernel
theorem dX6_near_136 : decode cX6_near 136 = .ok (.iinc 4 1, 3) := by decide +kernel
theorem dX6_near_139 : decode cX6_near 139 = .ok (.goto (-101), 3) := by decide +kernel
theorem dX6_near_142 : decode cX6_near 142 = .ok (.iload_n 3, 1) := by decide +kernel
theorem dX6_near_143 : decode cX6_near 143 = .ok (.ireturn, 1) := by decide +kernel
set_option maxRecDepth 20000 in
theorem ggX6_mostLeast_X6_isBlock : GoodIn wsX6_mostLeast wsX6_isBlock := goodIn_r _ [6, 1, 7, 8, 5, 9, 78, 79, 80, 81, 82, 83, 84, 85, 86, 87, 88, 89, 90] (by decide +kernel) (by decide +kernel)
set_option maxRecDepth 20000 in
theorem gX6_mostLeast_X6_isBlock : GoodIn wsX6_mostLeast (wsV RX6 107 RX6 yX6_isBlock wsX6_isBlock) := goodIn_app (goodIn_of _ (by decide +kernel)) ggX6_mostLeast_X6_isBlock
set_option maxRecDepth 20000 in
theorem ggX6_mostLeast_X6_loadedBy : GoodIn wsX6_mostLeast wsX6_loadedBy := goodIn_r _ [13, 14, 15, 16, 5, 17, 18, 19, 20, 21, 22, 23, 24, 25, 26, 27, 28, 29, 30, 31, 32, 33, 34, 35, 36, 37, 1, 38, 39, 40, 41, 42, 43, 44, 45, 46, 47, 48, 49, 50, 51, 52, 53, 54, 55, 56, 57, 58, 59, 60, 61, 62, 63, 64, 65, 66, 67, 68, 69, 70, 71, 72, 73, 74, 75, 76, 77, 78, 79, 80, 81, 82, 83, 84, 85, 86, 87, 88, 89, 90] (by decide +kernel) (by decide +kernel)
set_option maxRecDepth 20000 in
theorem gX6_mostLeast_X6_loadedBy : GoodIn wsX6_mostLeast (wsV RX6 130 RX6 yX6_loadedBy wsX6_loadedBy) := goodIn_app (goodIn_of _ (by decide +kernel)) ggX6_mostLeast_X6_loadedBy
theorem dX6_mostLeast_0 : decode cX6_mostLeast 0 = .ok (.aload_n 0, 1) := by decide +kernel
theorem dX6_mostLeast_1 : decode cX6_mostLeast 1 = .ok (.iload_n 1, 1) := by decide +kernel
theorem dX6_mostLeast_2 : decode cX6_mostLeast 2 = .ok (.invokevirtual 107, 3) := by decide +kernel
theorem dX6_mostLeast_5 : decode cX6_mostLeast 5 = .ok (.ifCond .ne 5, 3) := by decide +kernel
theorem dX6_mostLeast_8 : decode cX6_mostLeast 8 = .ok (.iconst (-1), 1) := by decide +kernel
theorem dX6_mostLeast_9 : decode cX6_mostLeast 9 = .ok (.ireturn, 1) := by decide +kernel
theorem dX6_mostLeast_10 : decode cX6_mostLeast 10 = .ok (.aload_n 0, 1) := by decide +kernel
theorem dX6_mostLeast_11 : decode cX6_mostLeast 11 = .ok (.getfield 7, 3) := by decide +kernel
theorem dX6_mostLeast_14 : decode cX6_mostLeast 14 = .ok (.iconst 1, 1) := by decide +kernel
theorem dX6_mostLeast_15 : decode cX6_mostLeast 15 = .ok (.iaload, 1) := by decide +kernel
theorem dX6_mostLeast_16 : decode cX6_mostLeast 16 = .ok (.istore_n 2, 1) := by decide +kernel
theorem dX6_mostLeast_17 : decode cX6_mostLeast 17 = .ok (.bipush (-6), 2) := by decide +kernel
theorem dX6_mostLeast_19 : decode cX6_mostLeast 19 = .ok (.istore_n 3, 1) := by decide +kernel
theorem dX6_mostLeast_20 : decode cX6_mostLeast 20 = .ok (.bipush 99, 2) := by decide +kernel
theorem dX6_mostLeast_22 : decode cX6_mostLeast 22 = .ok (.istore 4, 2) := by decide +kernel
theorem dX6_mostLeast_24 : decode cX6_mostLeast 24 = .ok (.iload 4, 2) := by decide +kernel
theorem dX6_mostLeast_26 : decode cX6_mostLeast 26 = .ok (.ifCond .lt 41, 3) := by decide +kernel
theorem dX6_mostLeast_29 : decode cX6_mostLeast 29 = .ok (.iload_n 3, 1) := by decide +kernel
theorem dX6_mostLeast_30 : decode cX6_mostLeast 30 = .ok (.bipush (-6), 2) := by decide +kernel
theorem dX6_mostLeast_32 : decode cX6_mostLeast 32 = .ok (.if_icmp .ne 35, 3) := by decide +kernel
theorem dX6_mostLeast_35 : decode cX6_mostLeast 35 = .ok (.aload_n 0, 1) := by decide +kernel
theorem dX6_mostLeast_36 : decode cX6_mostLeast 36 = .ok (.getfield 7, 3) := by decide +kernel
theorem dX6_mostLeast_39 : decode cX6_mostLeast 39 = .ok (.iconst 1, 1) := by decide +kernel
theorem dX6_mostLeast_40 : decode cX6_mostLeast 40 = .ok (.iload 4, 2) := by decide +kernel
theorem dX6_mostLeast_42 : decode cX6_mostLeast 42 = .ok (.iastore, 1) := by decide +kernel
theorem dX6_mostLeast_43 : decode cX6_mostLeast 43 = .ok (.aload_n 0, 1) := by decide +kernel
theorem dX6_mostLeast_44 : decode cX6_mostLeast 44 = .ok (.iload_n 1, 1) := by decide +kernel
theorem dX6_mostLeast_45 : decode cX6_mostLeast 45 = .ok (.invokevirtual 130, 3) := by decide +kernel
theorem dX6_mostLeast_48 : decode cX6_mostLeast 48 = .ok (.bipush (-6), 2) := by decide +kernel
theorem dX6_mostLeast_50 : decode cX6_mostLeast 50 = .ok (.if_icmp .ne 8, 3) := by decide +kernel
theorem dX6_mostLeast_53 : decode cX6_mostLeast 53 = .ok (.bipush (-6), 2) := by decide +kernel
theorem dX6_mostLeast_55 : decode cX6_mostLeast 55 = .ok (.goto 5, 3) := by decide +kernel
theorem dX6_mostLeast_58 : decode cX6_mostLeast 58 = .ok (.iload 4, 2) := by decide +kernel
theorem dX6_mostLeast_60 : decode cX6_mostLeast 60 = .ok (.istore_n 3, 1) := by decide +kernel
theorem dX6_mostLeast_61 : decode cX6_mostLeast 61 = .ok (.iinc 4 (-1), 3) := by decide +kernel
theorem dX6_mostLeast_64 : decode cX6_mostLeast 64 = .ok (.goto (-40), 3) := by decide +kernel
theorem dX6_mostLeast_67 : decode cX6_mostLeast 67 = .ok (.aload_n 0, 1) := by decide +kernel
theorem dX6_mostLeast_68 : decode cX6_mostLeast 68 = .ok (.getfield 7, 3) := by decide +kernel
theorem dX6_mostLeast_71 : decode cX6_mostLeast 71 = .ok (.iconst 1, 1) := by decide +kernel
theorem dX6_mostLeast_72 : decode cX6_mostLeast 72 = .ok (.iload_n 2, 1) := by decide +kernel
theorem dX6_mostLeast_73 : decode cX6_mostLeast 73 = .ok (.iastore, 1) := by decide +kernel
theorem dX6_mostLeast_74 : decode cX6_mostLeast 74 = .ok (.iload_n 3, 1) := by decide +kernel
theorem dX6_mostLeast_75 : decode cX6_mostLeast 75 = .ok (.ireturn, 1) := by decide +kernel
set_option maxRecDepth 20000 in
theorem ggX6_weak_X6_isBlock : GoodIn wsX6_weak wsX6_isBlock := goodIn_r _ [5, 6, 7, 8, 4, 9, 69, 70, 71, 72, 73, 74, 75, 76, 77, 78, 79, 80, 81] (by decide +kernel) (by decide +kernel)
set_option maxRecDepth 20000 in
theorem gX6_weak_X6_isBlock : GoodIn wsX6_weak (wsV RX6 107 RX6 yX6_isBlock wsX6_isBlock) := goodIn_app (goodIn_of _ (by decide +kernel)) ggX6_weak_X6_isBlock
set_option maxRecDepth 20000 in
theorem ggX6_weak_X6_within : GoodIn wsX6_weak wsX6_within := goodIn_r _ [9] (by decide +kernel) (by decide +kernel)
set_option maxRecDepth 20000 in
theorem gX6_weak_X6_within : GoodIn wsX6_weak (va_wsS RX6 39 yX6_within wsX6_within) := goodIn_app (goodIn_of _ (by decide +kernel)) ggX6_weak_X6_within
set_option maxRecDepth 20000 in
theorem ggX6_weak_X6_howIs : GoodIn wsX6_weak wsX6_howIs := goodIn_r _ [13, 14, 15, 16, 4, 17, 18, 19, 20, 21, 22, 23, 24, 25, 26, 27, 28, 29, 30, 31, 32, 33, 6, 34, 35, 36, 37, 38, 39, 40, 41, 42, 43, 44, 45, 46, 47, 48, 49, 50, 51, 52, 53, 54, 55, 56, 57, 58, 59, 60, 61, 62, 63, 64, 69, 70, 71, 72, 73, 74, 75, 76, 77, 78, 79, 80, 81] (by decide +kernel) (by decide +kernel)
set_option maxRecDepth 20000 in
theorem gX6_weak_X6_howIs : GoodIn wsX6_weak (wsV RX6 91 RX6 yX6_howIs wsX6_howIs) := goodIn_app (goodIn_of _ (by decide +kernel)) ggX6_weak_X6_howIs
set_option maxRecDepth 20000 in
theorem ggX6_weak_X6_firstOf : GoodIn wsX6_weak wsX6_firstOf := goodIn_r _ [21, 22, 23, 24, 4, 25, 26, 27, 28, 29, 30, 31, 32, 33, 6, 69, 70, 71, 72, 73, 74, 75, 76, 77, 78, 79, 80, 81] (by decide +kernel) (by decide +kernel)
set_option maxRecDepth 20000 in
theorem gX6_weak_X6_firstOf : GoodIn wsX6_weak (wsV RX6 54 RX6 yX6_firstOf wsX6_firstOf) := goodIn_app (goodIn_of _ (by decide +kernel)) ggX6_weak_X6_firstOf
set_option maxRecDepth 20000 in
theorem ggX6_weak_X6_tellingSize : GoodIn wsX6_weak wsX6_tellingSize := goodIn_r _ [29, 30, 31, 32, 4, 33, 6, 69, 70, 71, 72, 73, 74, 75, 76, 77, 78, 79, 80, 81] (by decide +kernel) (by decide +kernel)
set_option maxRecDepth 20000 in
theorem gX6_weak_X6_tellingSize : GoodIn wsX6_weak (wsV RX6 47 RX6 yX6_tellingSize wsX6_tellingSize) := goodIn_app (goodIn_of _ (by decide +kernel)) ggX6_weak_X6_tellingSize
set_option maxRecDepth 20000 in
theorem ggX6_weak_X6_turns : GoodIn wsX6_weak wsX6_turns := goodIn_r _ [68, 6, 61, 62, 63, 4, 64, 69, 70, 71, 72, 73, 74, 75, 76, 77, 78, 79, 80, 81] (by decide +kernel) (by decide +kernel)
set_option maxRecDepth 20000 in
theorem gX6_weak_X6_turns : GoodIn wsX6_weak (wsV RX6 127 RX6 yX6_turns wsX6_turns) := goodIn_app (goodIn_of _ (by decide +kernel)) ggX6_weak_X6_turns
theorem dX6_weak_0 : decode cX6_weak 0 = .ok (.aload_n 0, 1) := by decide +kernel
theorem dX6_weak_1 : decode cX6_weak 1 = .ok (.iload_n 1, 1) := by decide +kernel
theorem dX6_weak_2 : decode cX6_weak 2 = .ok (.invokevirtual 107, 3) := by decide +kernel
theorem dX6_weak_5 : decode cX6_weak 5 = .ok (.ifCond .ne 5, 3) := by decide +kernel
theorem dX6_weak_8 : decode cX6_weak 8 = .ok (.iconst (-1), 1) := by decide +kernel
theorem dX6_weak_9 : decode cX6_weak 9 = .ok (.ireturn, 1) := by decide +kernel
theorem dX6_weak_10 : decode cX6_weak 10 = .ok (.iload_n 2, 1) := by decide +kernel
theorem dX6_weak_11 : decode cX6_weak 11 = .ok (.iconst 0, 1) := by decide +kernel
theorem dX6_weak_12 : decode cX6_weak 12 = .ok (.iconst 1, 1) := by decide +kernel
theorem dX6_weak_13 : decode cX6_weak 13 = .ok (.invokestatic 39, 3) := by decide +kernel
theorem dX6_weak_16 : decode cX6_weak 16 = .ok (.ifCond .ne 6, 3) := by decide +kernel
theorem dX6_weak_19 : decode cX6_weak 19 = .ok (.bipush (-2), 2) := by decide +kernel
theorem dX6_weak_21 : decode cX6_weak 21 = .ok (.ireturn, 1) := by decide +kernel
theorem dX6_weak_22 : decode cX6_weak 22 = .ok (.aload_n 0, 1) := by decide +kernel
theorem dX6_weak_23 : decode cX6_weak 23 = .ok (.iload_n 1, 1) := by decide +kernel
theorem dX6_weak_24 : decode cX6_weak 24 = .ok (.iload_n 2, 1) := by decide +kernel
theorem dX6_weak_25 : decode cX6_weak 25 = .ok (.invokevirtual 91, 3) := by decide +kernel
theorem dX6_weak_28 : decode cX6_weak 28 = .ok (.ifCond .eq 6, 3) := by decide +kernel
theorem dX6_weak_31 : decode cX6_weak 31 = .ok (.bipush (-5), 2) := by decide +kernel
theorem dX6_weak_33 : decode cX6_weak 33 = .ok (.ireturn, 1) := by decide +kernel
theorem dX6_weak_34 : decode cX6_weak 34 = .ok (.iconst 0, 1) := by decide +kernel
theorem dX6_weak_35 : decode cX6_weak 35 = .ok (.istore_n 3, 1) := by decide +kernel
theorem dX6_weak_36 : decode cX6_weak 36 = .ok (.aload_n 0, 1) := by decide +kernel
theorem dX6_weak_37 : decode cX6_weak 37 = .ok (.iload_n 1, 1) := by decide +kernel
theorem dX6_weak_38 : decode cX6_weak 38 = .ok (.invokevirtual 54, 3) := by decide +kernel
theorem dX6_weak_41 : decode cX6_weak 41 = .ok (.iload_n 2, 1) := by decide +kernel
theorem dX6_weak_42 : decode cX6_weak 42 = .ok (.aload_n 0, 1) := by decide +kernel
theorem dX6_weak_43 : decode cX6_weak 43 = .ok (.iload_n 1, 1) := by decide +kernel
theorem dX6_weak_44 : decode cX6_weak 44 = .ok (.invokevirtual 47, 3) := by decide +kernel
theorem dX6_weak_47 : decode cX6_weak 47 = .ok (.imul, 1) := by decide +kernel
theorem dX6_weak_48 : decode cX6_weak 48 = .ok (.iadd, 1) := by decide +kernel
theorem dX6_weak_49 : decode cX6_weak 49 = .ok (.istore 4, 2) := by decide +kernel
theorem dX6_weak_51 : decode cX6_weak 51 = .ok (.iconst 0, 1) := by decide +kernel
theorem dX6_weak_52 : decode cX6_weak 52 = .ok (.istore 5, 2) := by decide +kernel
theorem dX6_weak_54 : decode cX6_weak 54 = .ok (.iload 5, 2) := by decide +kernel
theorem dX6_weak_56 : decode cX6_weak 56 = .ok (.aload_n 0, 1) := by decide +kernel
theorem dX6_weak_57 : decode cX6_weak 57 = .ok (.iload_n 1, 1) := by decide +kernel
theorem dX6_weak_58 : decode cX6_weak 58 = .ok (.invokevirtual 47, 3) := by decide +kernel
theorem dX6_weak_61 : decode cX6_weak 61 = .ok (.if_icmp .ge 46, 3) := by decide +kernel
theorem dX6_weak_64 : decode cX6_weak 64 = .ok (.aload_n 0, 1) := by decide +kernel
theorem dX6_weak_65 : decode cX6_weak 65 = .ok (.iload 4, 2) := by decide +kernel
theorem dX6_weak_67 : decode cX6_weak 67 = .ok (.iload 5, 2) := by decide +kernel
theorem dX6_weak_69 : decode cX6_weak 69 = .ok (.iadd, 1) := by decide +kernel
theorem dX6_weak_70 : decode cX6_weak 70 = .ok (.invokevirtual 127, 3) := by decide +kernel
theorem dX6_weak_73 : decode cX6_weak 73 = .ok (.pop, 1) := by decide +kernel
theorem dX6_weak_74 : decode cX6_weak 74 = .ok (.iload_n 3, 1) := by decide +kernel
theorem dX6_weak_75 : decode cX6_weak 75 = .ok (.aload_n 0, 1) := by decide +kernel
theorem dX6_weak_76 : decode cX6_weak 76 = .ok (.iload_n 1, 1) := by decide +kernel
theorem dX6_weak_77 : decode cX6_weak 77 = .ok (.iload_n 2, 1) := by decide +kernel
theorem dX6_weak_78 : decode cX6_weak 78 = .ok (.invokevirtual 91, 3) := by decide +kernel
theorem dX6_weak_81 : decode cX6_weak 81 = .ok (.ifCond .ne 7, 3) := by decide +kernel
theorem dX6_weak_84 : decode cX6_weak 84 = .ok (.iconst 0, 1) := by decide +kernel
theorem dX6_weak_85 : decode cX6_weak 85 = .ok (.goto 4, 3) := by decide +kernel
theorem dX6_weak_88 : decode cX6_weak 88 = .ok (.iconst 1, 1) := by decide +kernel
theorem dX6_weak_89 : decode cX6_weak 89 = .ok (.iadd, 1) := by decide +kernel
theorem dX6_weak_90 : decode cX6_weak 90 = .ok (.istore_n 3, 1) := by decide +kernel
theorem dX6_weak_91 : decode cX6_weak 91 = .ok (.aload_n 0, 1) := by decide +kernel
theorem dX6_weak_92 : decode cX6_weak 92 = .ok (.iload 4, 2) := by decide +kernel
theorem dX6_weak_94 : decode cX6_weak 94 = .ok (.iload 5, 2) := by decide +kernel
theorem dX6_weak_96 : decode cX6_weak 96 = .ok (.iadd, 1) := by decide +kernel
theorem dX6_weak_97 : decode cX6_weak 97 = .ok (.invokevirtual 127, 3) := by decide +kernel
theorem dX6_weak_100 : decode cX6_weak 100 = .ok (.pop, 1) := by decide +kernel
theorem dX6_weak_101 : decode cX6_weak 101 = .ok (.iinc 5 1, 3) := by decide +kernel
theorem dX6_weak_104 : decode cX6_weak 104 = .ok (.goto (-50), 3) := by decide +kernel
theorem dX6_weak_107 : decode cX6_weak 107 = .ok (.iload_n 3, 1) := by decide +kernel
theorem dX6_weak_108 : decode cX6_weak 108 = .ok (.ireturn, 1) := by decide +kernel
set_option maxRecDepth 20000 in
theorem ggX6_isUnder_X6_part : GoodIn wsX6_isUnder wsX6_part := goodIn_r _ [5, 6, 7, 8, 9, 10, 11, 12, 13, 14, 15, 16, 17, 18, 19] (by decide +kernel) (by decide +kernel)
set_option maxRecDepth 20000 in
theorem gX6_isUnder_X6_part : GoodIn wsX6_isUnder (wsV RX6 43 RX6 yX6_part wsX6_part) := goodIn_app (goodIn_of _ (by decide +kernel)) ggX6_isUnder_X6_part
theorem dX6_isUnder_0 : decode cX6_isUnder 0 = .ok (.aload_n 0, 1) := by decide +kernel
theorem dX6_isUnder_1 : decode cX6_isUnder 1 = .ok (.iload_n 1, 1) := by decide +kernel
theorem dX6_isUnder_2 : decode cX6_isUnder 2 = .ok (.iconst 1, 1) := by decide +kernel
theorem dX6_isUnder_3 : decode cX6_isUnder 3 = .ok (.invokevirtual 43, 3) := by decide +kernel
theorem dX6_isUnder_6 : decode cX6_isUnder 6 = .ok (.istore_n 3, 1) := by decide +kernel
theorem dX6_isUnder_7 : decode cX6_isUnder 7 = .ok (.iload_n 3, 1) := by decide +kernel
theorem dX6_isUnder_8 : decode cX6_isUnder 8 = .ok (.bipush (-6), 2) := by decide +kernel
theorem dX6_isUnder_10 : decode cX6_isUnder 10 = .ok (.if_icmp .eq 18, 3) := by decide +kernel
theorem dX6_isUnder_13 : decode cX6_isUnder 13 = .ok (.iload_n 3, 1) := by decide +kernel
theorem dX6_isUnder_14 : decode cX6_isUnder 14 = .ok (.iload_n 2, 1) := by decide +kernel
theorem dX6_isUnder_15 : decode cX6_isUnder 15 = .ok (.if_icmp .eq 13, 3) := by decide +kernel
theorem dX6_isUnder_18 : decode cX6_isUnder 18 = .ok (.aload_n 0, 1) := by decide +kernel
theorem dX6_isUnder_19 : decode cX6_isUnder 19 = .ok (.iload_n 3, 1) := by decide +kernel
theorem dX6_isUnder_20 : decode cX6_isUnder 20 = .ok (.iconst 1, 1) := by decide +kernel
theorem dX6_isUnder_21 : decode cX6_isUnder 21 = .ok (.invokevirtual 43, 3) := by decide +kernel
theorem dX6_isUnder_24 : decode cX6_isUnder 24 = .ok (.istore_n 3, 1) := by decide +kernel
theorem dX6_isUnder_25 : decode cX6_isUnder 25 = .ok (.goto (-18), 3) := by decide +kernel
theorem dX6_isUnder_28 : decode cX6_isUnder 28 = .ok (.iload_n 3, 1) := by decide +kernel
theorem dX6_isUnder_29 : decode cX6_isUnder 29 = .ok (.iload_n 2, 1) := by decide +kernel
theorem dX6_isUnder_30 : decode cX6_isUnder 30 = .ok (.if_icmp .ne 7, 3) := by decide +kernel
theorem dX6_isUnder_33 : decode cX6_isUnder 33 = .ok (.iconst 1, 1) := by decide +kernel
theorem dX6_isUnder_34 : decode cX6_isUnder 34 = .ok (.goto 4, 3) := by decide +kernel
theorem dX6_isUnder_37 : decode cX6_isUnder 37 = .ok (.iconst 0, 1) := by decide +kernel
theorem dX6_isUnder_38 : decode cX6_isUnder 38 = .ok (.ireturn, 1) := by decide +kernel
set_option maxRecDepth 20000 in
theorem ggX6_widest_X6_within : GoodIn wsX6_widest wsX6_within := goodIn_r _ [5] (by decide +kernel) (by decide +kernel)
set_option maxRecDepth 20000 in
theorem gX6_widest_X6_within : GoodIn wsX6_widest (va_wsS RX6 39 yX6_within wsX6_within) := goodIn_app (goodIn_of _ (by decide +kernel)) ggX6_widest_X6_within
set_option maxRecDepth 20000 in
theorem ggX6_widest_X6_reachedSet : GoodIn wsX6_widest wsX6_reachedSet := goodIn_r _ [9, 1, 10, 11, 12, 4, 13, 14, 15, 16, 17, 18, 19, 20, 21, 22, 23, 24, 25, 26, 27, 28, 29, 30, 31, 32, 33, 34, 35, 36, 37, 38, 39, 40, 41, 42, 43, 44, 45, 46, 47, 48, 49, 50, 51, 52, 53, 54, 55, 56, 57, 58, 59, 60, 61, 62, 63, 64, 65, 66, 67, 68, 69, 70, 71, 72, 73, 74, 75, 76, 77, 78, 79, 80, 81, 86, 87, 88, 89, 90, 91, 92, 93, 94, 95, 96, 97, 98] (by decide +kernel) (by decide +kernel)
set_option maxRecDepth 20000 in
theorem gX6_widest_X6_reachedSet : GoodIn wsX6_widest (wsV RX6 165 RX6 yX6_reachedSet wsX6_reachedSet) := goodIn_app (goodIn_of _ (by decide +kernel)) ggX6_widest_X6_reachedSet
set_option maxRecDepth 20000 in
theorem ggX6_widest_X6_isUnder : GoodIn wsX6_widest wsX6_isUnder := goodIn_r _ [85, 38, 39, 40, 4, 41, 1, 86, 87, 88, 89, 90, 91, 92, 93, 94, 95, 96, 97, 98] (by decide +kernel) (by decide +kernel)
set_option maxRecDepth 20000 in
theorem gX6_widest_X6_isUnder : GoodIn wsX6_widest (wsV RX6 174 RX6 yX6_isUnder wsX6_isUnder) := goodIn_app (goodIn_of _ (by decide +kernel)) ggX6_widest_X6_isUnder
theorem dX6_widest_0 : decode cX6_widest 0 = .ok (.iload_n 1, 1) := by decide +kernel
theorem dX6_widest_1 : decode cX6_widest 1 = .ok (.iconst 0, 1) := by decide +kernel
theorem dX6_widest_2 : decode cX6_widest 2 = .ok (.iconst 1, 1) := by decide +kernel
theorem dX6_widest_3 : decode cX6_widest 3 = .ok (.invokestatic 39, 3) := by decide +kernel
theorem dX6_widest_6 : decode cX6_widest 6 = .ok (.ifCond .ne 6, 3) := by decide +kernel
theorem dX6_widest_9 : decode cX6_widest 9 = .ok (.bipush (-2), 2) := by decide +kernel
theorem dX6_widest_11 : decode cX6_widest 11 = .ok (.ireturn, 1) := by decide +kernel
theorem dX6_widest_12 : decode cX6_widest 12 = .ok (.aload_n 0, 1) := by decide +kernel
theorem dX6_widest_13 : decode cX6_widest 13 = .ok (.invokevirtual 165, 3) := by decide +kernel
theorem dX6_widest_16 : decode cX6_widest 16 = .ok (.istore_n 2, 1) := by decide +kernel
theorem dX6_widest_17 : decode cX6_widest 17 = .ok (.bipush (-6), 2) := by decide +kernel
theorem dX6_widest_19 : decode cX6_widest 19 = .ok (.istore_n 3, 1) := by decide +kernel
theorem dX6_widest_20 : decode cX6_widest 20 = .ok (.bipush (-6), 2) := by decide +kernel
theorem dX6_widest_22 : decode cX6_widest 22 = .ok (.istore 4, 2) := by decide +kernel
theorem dX6_widest_24 : decode cX6_widest 24 = .ok (.iconst 0, 1) := by decide +kernel
theorem dX6_widest_25 : decode cX6_widest 25 = .ok (.istore 5, 2) := by decide +kernel
theorem dX6_widest_27 : decode cX6_widest 27 = .ok (.iload 5, 2) := by decide +kernel
theorem dX6_widest_29 : decode cX6_widest 29 = .ok (.aload_n 0, 1) := by decide +kernel
theorem dX6_widest_30 : decode cX6_widest 30 = .ok (.getfield 7, 3) := by decide +kernel
theorem dX6_widest_33 : decode cX6_widest 33 = .ok (.iconst 3, 1) := by decide +kernel
theorem dX6_widest_34 : decode cX6_widest 34 = .ok (.iaload, 1) := by decide +kernel
theorem dX6_widest_35 : decode cX6_widest 35 = .ok (.if_icmp .ge 113, 3) := by decide +kernel
theorem dX6_widest_38 : decode cX6_widest 38 = .ok (.iconst 0, 1) := by decide +kernel
theorem dX6_widest_39 : decode cX6_widest 39 = .ok (.istore 6, 2) := by decide +kernel
theorem dX6_widest_41 : decode cX6_widest 41 = .ok (.iconst 0, 1) := by decide +kernel
theorem dX6_widest_42 : decode cX6_widest 42 = .ok (.istore 7, 2) := by decide +kernel
theorem dX6_widest_44 : decode cX6_widest 44 = .ok (.iload 7, 2) := by decide +kernel
theorem dX6_widest_46 : decode cX6_widest 46 = .ok (.aload_n 0, 1) := by decide +kernel
theorem dX6_widest_47 : decode cX6_widest 47 = .ok (.getfield 7, 3) := by decide +kernel
theorem dX6_widest_50 : decode cX6_widest 50 = .ok (.iconst 3, 1) := by decide +kernel
theorem dX6_widest_51 : decode cX6_widest 51 = .ok (.iaload, 1) := by decide +kernel
theorem dX6_widest_52 : decode cX6_widest 52 = .ok (.if_icmp .ge 40, 3) := by decide +kernel
theorem dX6_widest_55 : decode cX6_widest 55 = .ok (.iload 6, 2) := by decide +kernel
theorem dX6_widest_57 : decode cX6_widest 57 = .ok (.iload_n 2, 1) := by decide +kernel
theorem dX6_widest_58 : decode cX6_widest 58 = .ok (.iload 7, 2) := by decide +kernel
theorem dX6_widest_60 : decode cX6_widest 60 = .ok (.ishr, 1) := by decide +kernel
theorem dX6_widest_61 : decode cX6_widest 61 = .ok (.iconst 1, 1) := by decide +kernel
theorem dX6_widest_62 : decode cX6_widest 62 = .ok (.iand, 1) := by decide +kernel
theorem dX6_widest_63 : decode cX6_widest 63 = .ok (.iconst 1, 1) := by decide +kernel
theorem dX6_widest_64 : decode cX6_widest 64 = .ok (.if_icmp .ne 18, 3) := by decide +kernel
theorem dX6_widest_67 : decode cX6_widest 67 = .ok (.aload_n 0, 1) := by decide +kernel
theorem dX6_widest_68 : decode cX6_widest 68 = .ok (.iload 7, 2) := by decide +kernel
theorem dX6_widest_70 : decode cX6_widest 70 = .ok (.iload 5, 2) := by decide +kernel
theorem dX6_widest_72 : decode cX6_widest 72 = .ok (.invokevirtual 174, 3) := by decide +kernel
theorem dX6_widest_75 : decode cX6_widest 75 = .ok (.ifCond .eq 7, 3) := by decide +kernel
theorem dX6_widest_78 : decode cX6_widest 78 = .ok (.iconst 1, 1) := by decide +kernel
theorem dX6_widest_79 : decode cX6_widest 79 = .ok (.goto 4, 3) := by decide +kernel
theorem dX6_widest_82 : decode cX6_widest 82 = .ok (.iconst 0, 1) := by decide +kernel
theorem dX6_widest_83 : decode cX6_widest 83 = .ok (.iadd, 1) := by decide +kernel
theorem dX6_widest_84 : decode cX6_widest 84 = .ok (.istore 6, 2) := by decide +kernel
theorem dX6_widest_86 : decode cX6_widest 86 = .ok (.iinc 7 1, 3) := by decide +kernel
theorem dX6_widest_89 : decode cX6_widest 89 = .ok (.goto (-45), 3) := by decide +kernel
theorem dX6_widest_92 : decode cX6_widest 92 = .ok (.iload_n 2, 1) := by decide +kernel
theorem dX6_widest_93 : decode cX6_widest 93 = .ok (.iload 5, 2) := by decide +kernel
theorem dX6_widest_95 : decode cX6_widest 95 = .ok (.ishr, 1) := by decide +kernel
theorem dX6_widest_96 : decode cX6_widest 96 = .ok (.iconst 1, 1) := by decide +kernel
theorem dX6_widest_97 : decode cX6_widest 97 = .ok (.iand, 1) := by decide +kernel
theorem dX6_widest_98 : decode cX6_widest 98 = .ok (.iconst 1, 1) := by decide +kernel
theorem dX6_widest_99 : decode cX6_widest 99 = .ok (.if_icmp .ne 14, 3) := by decide +kernel
theorem dX6_widest_102 : decode cX6_widest 102 = .ok (.iload 6, 2) := by decide +kernel
theorem dX6_widest_104 : decode cX6_widest 104 = .ok (.iload 4, 2) := by decide +kernel
theorem dX6_widest_106 : decode cX6_widest 106 = .ok (.if_icmp .le 7, 3) := by decide +kernel
theorem dX6_widest_109 : decode cX6_widest 109 = .ok (.iconst 1, 1) := by decide +kernel
theorem dX6_widest_110 : decode cX6_widest 110 = .ok (.goto 4, 3) := by decide +kernel
theorem dX6_widest_113 : decode cX6_widest 113 = .ok (.iconst 0, 1) := by decide +kernel
theorem dX6_widest_114 : decode cX6_widest 114 = .ok (.istore 7, 2) := by decide +kernel
theorem dX6_widest_116 : decode cX6_widest 116 = .ok (.iload 7, 2) := by decide +kernel
theorem dX6_widest_118 : decode cX6_widest 118 = .ok (.ifCond .eq 8, 3) := by decide +kernel
theorem dX6_widest_121 : decode cX6_widest 121 = .ok (.iload 5, 2) := by decide +kernel
theorem dX6_widest_123 : decode cX6_widest 123 = .ok (.goto 4, 3) := by decide +kernel
theorem dX6_widest_126 : decode cX6_widest 126 = .ok (.iload_n 3, 1) := by decide +kernel
theorem dX6_widest_127 : decode cX6_widest 127 = .ok (.istore_n 3, 1) := by decide +kernel
theorem dX6_widest_128 : decode cX6_widest 128 = .ok (.iload 7, 2) := by decide +kernel
theorem dX6_widest_130 : decode cX6_widest 130 = .ok (.ifCond .eq 8, 3) := by decide +kernel
theorem dX6_widest_133 : decode cX6_widest 133 = .ok (.iload 6, 2) := by decide +kernel
theorem dX6_widest_135 : decode cX6_widest 135 = .ok (.goto 5, 3) := by decide +kernel
theorem dX6_widest_138 : decode cX6_widest 138 = .ok (.iload 4, 2) := by decide +kernel
theorem dX6_widest_140 : decode cX6_widest 140 = .ok (.istore 4, 2) := by decide +kernel
theorem dX6_widest_142 : decode cX6_widest 142 = .ok (.iinc 5 1, 3) := by decide +kernel
theorem dX6_widest_145 : decode cX6_widest 145 = .ok (.goto (-118), 3) := by decide +kernel
theorem dX6_widest_148 : decode cX6_widest 148 = .ok (.iload_n 1, 1) := by decide +kernel
theorem dX6_widest_149 : decode cX6_widest 149 = .ok (.ifCond .ne 7, 3) := by decide +kernel
theorem dX6_widest_152 : decode cX6_widest 152 = .ok (.iload_n 3, 1) := by decide +kernel
theorem dX6_widest_153 : decode cX6_widest 153 = .ok (.goto 5, 3) := by decide +kernel
theorem dX6_widest_156 : decode cX6_widest 156 = .ok (.iload 4, 2) := by decide +kernel
theorem dX6_widest_158 : decode cX6_widest 158 = .ok (.ireturn, 1) := by decide +kernel
set_option maxRecDepth 20000 in
theorem ggX6_put_X6_within : GoodIn wsX6_put wsX6_within := goodIn_r _ [7] (by decide +kernel) (by decide +kernel)
set_option maxRecDepth 20000 in
theorem gX6_put_X6_within : GoodIn wsX6_put (va_wsS RX6 39 yX6_within wsX6_within) := goodIn_app (goodIn_of _ (by decide +kernel)) ggX6_put_X6_within
theorem dX6_put_0 : decode cX6_put 0 = .ok (.iconst 0, 1) := by decide +kernel
theorem dX6_put_1 : decode cX6_put 1 = .ok (.istore_n 3, 1) := by decide +kernel
theorem dX6_put_2 : decode cX6_put 2 = .ok (.lload_n 1, 1) := by decide +kernel
theorem dX6_put_3 : decode cX6_put 3 = .ok (.lstore 4, 2) := by decide +kernel
theorem dX6_put_5 : decode cX6_put 5 = .ok (.iconst 1, 1) := by decide +kernel
theorem dX6_put_6 : decode cX6_put 6 = .ok (.istore 6, 2) := by decide +kernel
theorem dX6_put_8 : decode cX6_put 8 = .ok (.iload_n 3, 1) := by decide +kernel
theorem dX6_put_9 : decode cX6_put 9 = .ok (.bipush 8, 2) := by decide +kernel
theorem dX6_put_11 : decode cX6_put 11 = .ok (.if_icmp .ge 56, 3) := by decide +kernel
theorem dX6_put_14 : decode cX6_put 14 = .ok (.lload 4, 2) := by decide +kernel
theorem dX6_put_16 : decode cX6_put 16 = .ok (.ldc2_w 113, 3) := by decide +kernel
theorem dX6_put_19 : decode cX6_put 19 = .ok (.land, 1) := by decide +kernel
theorem dX6_put_20 : decode cX6_put 20 = .ok (.lconst 0, 1) := by decide +kernel
theorem dX6_put_21 : decode cX6_put 21 = .ok (.lcmp, 1) := by decide +kernel
theorem dX6_put_22 : decode cX6_put 22 = .ok (.ifCond .eq 45, 3) := by decide +kernel
theorem dX6_put_25 : decode cX6_put 25 = .ok (.iload 6, 2) := by decide +kernel
theorem dX6_put_27 : decode cX6_put 27 = .ok (.ifCond .eq 24, 3) := by decide +kernel
theorem dX6_put_30 : decode cX6_put 30 = .ok (.lload 4, 2) := by decide +kernel
theorem dX6_put_32 : decode cX6_put 32 = .ok (.ldc2_w 113, 3) := by decide +kernel
theorem dX6_put_35 : decode cX6_put 35 = .ok (.land, 1) := by decide +kernel
theorem dX6_put_36 : decode cX6_put 36 = .ok (.l2i, 1) := by decide +kernel
theorem dX6_put_37 : decode cX6_put 37 = .ok (.bipush 33, 2) := by decide +kernel
theorem dX6_put_39 : decode cX6_put 39 = .ok (.bipush 126, 2) := by decide +kernel
theorem dX6_put_41 : decode cX6_put 41 = .ok (.invokestatic 39, 3) := by decide +kernel
theorem dX6_put_44 : decode cX6_put 44 = .ok (.ifCond .eq 7, 3) := by decide +kernel
theorem dX6_put_47 : decode cX6_put 47 = .ok (.iconst 1, 1) := by decide +kernel
theorem dX6_put_48 : decode cX6_put 48 = .ok (.goto 4, 3) := by decide +kernel
theorem dX6_put_51 : decode cX6_put 51 = .ok (.iconst 0, 1) := by decide +kernel
theorem dX6_put_52 : decode cX6_put 52 = .ok (.istore 6, 2) := by decide +kernel
theorem dX6_put_54 : decode cX6_put 54 = .ok (.lload 4, 2) := by decide +kernel
theorem dX6_put_56 : decode cX6_put 56 = .ok (.bipush 8, 2) := by decide +kernel
theorem dX6_put_58 : decode cX6_put 58 = .ok (.lushr, 1) := by decide +kernel
theorem dX6_put_59 : decode cX6_put 59 = .ok (.lstore 4, 2) := by decide +kernel
theorem dX6_put_61 : decode cX6_put 61 = .ok (.iinc 3 1, 3) := by decide +kernel
theorem dX6_put_64 : decode cX6_put 64 = .ok (.goto (-56), 3) := by decide +kernel
theorem dX6_put_67 : decode cX6_put 67 = .ok (.iload_n 3, 1) := by decide +kernel
theorem dX6_put_68 : decode cX6_put 68 = .ok (.ifCond .eq 15, 3) := by decide +kernel
theorem dX6_put_71 : decode cX6_put 71 = .ok (.iload 6, 2) := by decide +kernel
theorem dX6_put_73 : decode cX6_put 73 = .ok (.ifCond .eq 10, 3) := by decide +kernel
theorem dX6_put_76 : decode cX6_put 76 = .ok (.lload 4, 2) := by decide +kernel
theorem dX6_put_78 : decode cX6_put 78 = .ok (.lconst 0, 1) := by decide +kernel
theorem dX6_put_79 : decode cX6_put 79 = .ok (.lcmp, 1) := by decide +kernel
theorem dX6_put_80 : decode cX6_put 80 = .ok (.ifCond .eq 6, 3) := by decide +kernel
theorem dX6_put_83 : decode cX6_put 83 = .ok (.bipush (-2), 2) := by decide +kernel
theorem dX6_put_85 : decode cX6_put 85 = .ok (.ireturn, 1) := by decide +kernel
theorem dX6_put_86 : decode cX6_put 86 = .ok (.aload_n 0, 1) := by decide +kernel
theorem dX6_put_87 : decode cX6_put 87 = .ok (.getfield 162, 3) := by decide +kernel
theorem dX6_put_90 : decode cX6_put 90 = .ok (.iload_n 3, 1) := by decide +kernel
theorem dX6_put_91 : decode cX6_put 91 = .ok (.iadd, 1) := by decide +kernel
theorem dX6_put_92 : decode cX6_put 92 = .ok (.bipush 80, 2) := by decide +kernel
theorem dX6_put_94 : decode cX6_put 94 = .ok (.if_icmp .le 6, 3) := by decide +kernel
theorem dX6_put_97 : decode cX6_put 97 = .ok (.bipush (-4), 2) := by decide +kernel
theorem dX6_put_99 : decode cX6_put 99 = .ok (.ireturn, 1) := by decide +kernel
theorem dX6_put_100 : decode cX6_put 100 = .ok (.iload_n 3, 1) := by decide +kernel
theorem dX6_put_101 : decode cX6_put 101 = .ok (.iconst 1, 1) := by decide +kernel
theorem dX6_put_102 : decode cX6_put 102 = .ok (.isub, 1) := by decide +kernel
theorem dX6_put_103 : decode cX6_put 103 = .ok (.istore 7, 2) := by decide +kernel
theorem dX6_put_105 : decode cX6_put 105 = .ok (.iload 7, 2) := by decide +kernel
theorem dX6_put_107 : decode cX6_put 107 = .ok (.ifCond .lt 40, 3) := by decide +kernel
theorem dX6_put_110 : decode cX6_put 110 = .ok (.aload_n 0, 1) := by decide +kernel
theorem dX6_put_111 : decode cX6_put 111 = .ok (.getfield 22, 3) := by decide +kernel
theorem dX6_put_114 : decode cX6_put 114 = .ok (.aload_n 0, 1) := by decide +kernel
theorem dX6_put_115 : decode cX6_put 115 = .ok (.getfield 162, 3) := by decide +kernel
theorem dX6_put_118 : decode cX6_put 118 = .ok (.lload_n 1, 1) := by decide +kernel
theorem dX6_put_119 : decode cX6_put 119 = .ok (.bipush 8, 2) := by decide +kernel
theorem dX6_put_121 : decode cX6_put 121 = .ok (.iload 7, 2) := by decide +kernel
theorem dX6_put_123 : decode cX6_put 123 = .ok (.imul, 1) := by decide +kernel
theorem dX6_put_124 : decode cX6_put 124 = .ok (.lushr, 1) := by decide +kernel
theorem dX6_put_125 : decode cX6_put 125 = .ok (.ldc2_w 113, 3) := by decide +kernel
theorem dX6_put_128 : decode cX6_put 128 = .ok (.land, 1) := by decide +kernel
theorem dX6_put_129 : decode cX6_put 129 = .ok (.l2i, 1) := by decide +kernel
theorem dX6_put_130 : decode cX6_put 130 = .ok (.iastore, 1) := by decide +kernel
theorem dX6_put_131 : decode cX6_put 131 = .ok (.aload_n 0, 1) := by decide +kernel
theorem dX6_put_132 : decode cX6_put 132 = .ok (.dup, 1) := by decide +kernel
theorem dX6_put_133 : decode cX6_put 133 = .ok (.getfield 162, 3) := by decide +kernel
theorem dX6_put_136 : decode cX6_put 136 = .ok (.iconst 1, 1) := by decide +kernel
theorem dX6_put_137 : decode cX6_put 137 = .ok (.iadd, 1) := by decide +kernel
theorem dX6_put_138 : decode cX6_put 138 = .ok (.putfield 162, 3) := by decide +kernel
theorem dX6_put_141 : decode cX6_put 141 = .ok (.iinc 7 (-1), 3) := by decide +kernel
theorem dX6_put_144 : decode cX6_put 144 = .ok (.goto (-39), 3) := by decide +kernel
theorem dX6_put_147 : decode cX6_put 147 = .ok (.aload_n 0, 1) := by decide +kernel
theorem dX6_put_148 : decode cX6_put 148 = .ok (.getfield 162, 3) := by decide +kernel
theorem dX6_put_151 : decode cX6_put 151 = .ok (.ireturn, 1) := by decide +kernel
theorem dX6_wipe_0 : decode cX6_wipe 0 = .ok (.aload_n 0, 1) := by decide +kernel
theorem dX6_wipe_1 : decode cX6_wipe 1 = .ok (.getfield 162, 3) := by decide +kernel
theorem dX6_wipe_4 : decode cX6_wipe 4 = .ok (.istore_n 1, 1) := by decide +kernel
theorem dX6_wipe_5 : decode cX6_wipe 5 = .ok (.aload_n 0, 1) := by decide +kernel
theorem dX6_wipe_6 : decode cX6_wipe 6 = .ok (.iconst 0, 1) := by decide +kernel
theorem dX6_wipe_7 : decode cX6_wipe 7 = .ok (.putfield 162, 3) := by decide +kernel
theorem dX6_wipe_10 : decode cX6_wipe 10 = .ok (.iload_n 1, 1) := by decide +kernel
theorem dX6_wipe_11 : decode cX6_wipe 11 = .ok (.ireturn, 1) := by decide +kernel
theorem dX6_character_0 : decode cX6_character 0 = .ok (.iload_n 1, 1) := by decide +kernel
theorem dX6_character_1 : decode cX6_character 1 = .ok (.aload_n 0, 1) := by decide +kernel
theorem dX6_character_2 : decode cX6_character 2 = .ok (.getfield 162, 3) := by decide +kernel
theorem dX6_character_5 : decode cX6_character 5 = .ok (.if_icmp .ge 12, 3) := by decide +kernel
theorem dX6_character_8 : decode cX6_character 8 = .ok (.aload_n 0, 1) := by decide +kernel
theorem dX6_character_9 : decode cX6_character 9 = .ok (.getfield 22, 3) := by decide +kernel
theorem dX6_character_12 : decode cX6_character 12 = .ok (.iload_n 1, 1) := by decide +kernel
theorem dX6_character_13 : decode cX6_character 13 = .ok (.iaload, 1) := by decide +kernel
theorem dX6_character_14 : decode cX6_character 14 = .ok (.goto 4, 3) := by decide +kernel
theorem dX6_character_17 : decode cX6_character 17 = .ok (.iconst (-1), 1) := by decide +kernel
theorem dX6_character_18 : decode cX6_character 18 = .ok (.ireturn, 1) := by decide +kernel
set_option maxRecDepth 20000 in
theorem ggX6_isNext_X6_character : GoodIn wsX6_isNext wsX6_character := goodIn_r _ [6, 7, 8, 9, 10, 11, 12, 13, 14, 15, 16, 17, 18, 19, 20, 21] (by decide +kernel) (by decide +kernel)
set_option maxRecDepth 20000 in
theorem gX6_isNext_X6_character : GoodIn wsX6_isNext (wsV RX6 180 RX6 yX6_character wsX6_character) := goodIn_app (goodIn_of _ (by decide +kernel)) ggX6_isNext_X6_character
theorem dX6_isNext_0 : decode cX6_isNext 0 = .ok (.aload_n 0, 1) := by decide +kernel
theorem dX6_isNext_1 : decode cX6_isNext 1 = .ok (.aload_n 0, 1) := by decide +kernel
theorem dX6_isNext_2 : decode cX6_isNext 2 = .ok (.getfield 177, 3) := by decide +kernel
theorem dX6_isNext_5 : decode cX6_isNext 5 = .ok (.invokevirtual 180, 3) := by decide +kernel
theorem dX6_isNext_8 : decode cX6_isNext 8 = .ok (.iload_n 1, 1) := by decide +kernel
theorem dX6_isNext_9 : decode cX6_isNext 9 = .ok (.if_icmp .ne 7, 3) := by decide +kernel
theorem dX6_isNext_12 : decode cX6_isNext 12 = .ok (.iconst 1, 1) := by decide +kernel
theorem dX6_isNext_13 : decode cX6_isNext 13 = .ok (.goto 4, 3) := by decide +kernel
theorem dX6_isNext_16 : decode cX6_isNext 16 = .ok (.iconst 0, 1) := by decide +kernel
theorem dX6_isNext_17 : decode cX6_isNext 17 = .ok (.istore_n 2, 1) := by decide +kernel
theorem dX6_isNext_18 : decode cX6_isNext 18 = .ok (.aload_n 0, 1) := by decide +kernel
theorem dX6_isNext_19 : decode cX6_isNext 19 = .ok (.dup, 1) := by decide +kernel
theorem dX6_isNext_20 : decode cX6_isNext 20 = .ok (.getfield 177, 3) := by decide +kernel
theorem dX6_isNext_23 : decode cX6_isNext 23 = .ok (.iload_n 2, 1) := by decide +kernel
theorem dX6_isNext_24 : decode cX6_isNext 24 = .ok (.ifCond .eq 7, 3) := by decide +kernel
theorem dX6_isNext_27 : decode cX6_isNext 27 = .ok (.iconst 1, 1) := by decide +kernel
theorem dX6_isNext_28 : decode cX6_isNext 28 = .ok (.goto 4, 3) := by decide +kernel
theorem dX6_isNext_31 : decode cX6_isNext 31 = .ok (.iconst 0, 1) := by decide +kernel
theorem dX6_isNext_32 : decode cX6_isNext 32 = .ok (.iadd, 1) := by decide +kernel
theorem dX6_isNext_33 : decode cX6_isNext 33 = .ok (.putfield 177, 3) := by decide +kernel
theorem dX6_isNext_36 : decode cX6_isNext 36 = .ok (.iload_n 2, 1) := by decide +kernel
theorem dX6_isNext_37 : decode cX6_isNext 37 = .ok (.ireturn, 1) := by decide +kernel
set_option maxRecDepth 20000 in
theorem ggX6_isDigit_X6_character : GoodIn wsX6_isDigit wsX6_character := goodIn_r _ [6, 7, 8, 12, 13, 14, 15, 16, 17, 18, 19, 20, 21, 22, 23, 24] (by decide +kernel) (by decide +kernel)
set_option maxRecDepth 20000 in
theorem gX6_isDigit_X6_character : GoodIn wsX6_isDigit (wsV RX6 180 RX6 yX6_character wsX6_character) := goodIn_app (goodIn_of _ (by decide +kernel)) ggX6_isDigit_X6_character
set_option maxRecDepth 20000 in
theorem ggX6_isDigit_X6_within : GoodIn wsX6_isDigit wsX6_within := goodIn_r _ [11] (by decide +kernel) (by decide +kernel)
set_option maxRecDepth 20000 in
theorem gX6_isDigit_X6_within : GoodIn wsX6_isDigit (va_wsS RX6 39 yX6_within wsX6_within) := goodIn_app (goodIn_of _ (by decide +kernel)) ggX6_isDigit_X6_within
theorem dX6_isDigit_0 : decode cX6_isDigit 0 = .ok (.aload_n 0, 1) := by decide +kernel
theorem dX6_isDigit_1 : decode cX6_isDigit 1 = .ok (.aload_n 0, 1) := by decide +kernel
theorem dX6_isDigit_2 : decode cX6_isDigit 2 = .ok (.getfield 177, 3) := by decide +kernel
theorem dX6_isDigit_5 : decode cX6_isDigit 5 = .ok (.invokevirtual 180, 3) := by decide +kernel
theorem dX6_isDigit_8 : decode cX6_isDigit 8 = .ok (.bipush 48, 2) := by decide +kernel
theorem dX6_isDigit_10 : decode cX6_isDigit 10 = .ok (.bipush 57, 2) := by decide +kernel
theorem dX6_isDigit_12 : decode cX6_isDigit 12 = .ok (.invokestatic 39, 3) := by decide +kernel
theorem dX6_isDigit_15 : decode cX6_isDigit 15 = .ok (.ireturn, 1) := by decide +kernel
set_option maxRecDepth 20000 in
theorem ggX6_takesNumber_X6_isDigit : GoodIn wsX6_takesNumber wsX6_isDigit := goodIn_r _ [8, 1, 9, 10, 11, 7, 12, 13, 14, 15, 16, 17, 18, 19, 20, 21, 22, 23, 24, 25, 26, 27, 28, 29, 30] (by decide +kernel) (by decide +kernel)
set_option maxRecDepth 20000 in
theorem gX6_takesNumber_X6_isDigit : GoodIn wsX6_takesNumber (wsV RX6 183 RX6 yX6_isDigit wsX6_isDigit) := goodIn_app (goodIn_of _ (by decide +kernel)) ggX6_takesNumber_X6_isDigit
set_option maxRecDepth 20000 in
theorem ggX6_takesNumber_X6_character : GoodIn wsX6_takesNumber wsX6_character := goodIn_r _ [12, 13, 14, 18, 19, 20, 21, 22, 23, 24, 25, 26, 27, 28, 29, 30] (by decide +kernel) (by decide +kernel)
set_option maxRecDepth 20000 in
theorem gX6_takesNumber_X6_character : GoodIn wsX6_takesNumber (wsV RX6 180 RX6 yX6_character wsX6_character) := goodIn_app (goodIn_of _ (by decide +kernel)) ggX6_takesNumber_X6_character
theorem dX6_takesNumber_0 : decode cX6_takesNumber 0 = .ok (.aload_n 0, 1) := by decide +kernel
theorem dX6_takesNumber_1 : decode cX6_takesNumber 1 = .ok (.invokevirtual 183, 3) := by decide +kernel
theorem dX6_takesNumber_4 : decode cX6_takesNumber 4 = .ok (.ifCond .ne 5, 3) := by decide +kernel
theorem dX6_takesNumber_7 : decode cX6_takesNumber 7 = .ok (.iconst 0, 1) := by decide +kernel
theorem dX6_takesNumber_8 : decode cX6_takesNumber 8 = .ok (.ireturn, 1) := by decide +kernel
theorem dX6_takesNumber_9 : decode cX6_takesNumber 9 = .ok (.aload_n 0, 1) := by decide +kernel
theorem dX6_takesNumber_10 : decode cX6_takesNumber 10 = .ok (.aload_n 0, 1) := by decide +kernel
theorem dX6_takesNumber_11 : decode cX6_takesNumber 11 = .ok (.getfield 177, 3) := by decide +kernel
theorem dX6_takesNumber_14 : decode cX6_takesNumber 14 = .ok (.invokevirtual 180, 3) := by decide +kernel
theorem dX6_takesNumber_17 : decode cX6_takesNumber 17 = .ok (.bipush 48, 2) := by decide +kernel
theorem dX6_takesNumber_19 : decode cX6_takesNumber 19 = .ok (.isub, 1) := by decide +kernel
theorem dX6_takesNumber_20 : decode cX6_takesNumber 20 = .ok (.istore_n 1, 1) := by decide +kernel
theorem dX6_takesNumber_21 : decode cX6_takesNumber 21 = .ok (.aload_n 0, 1) := by decide +kernel
theorem dX6_takesNumber_22 : decode cX6_takesNumber 22 = .ok (.dup, 1) := by decide +kernel
theorem dX6_takesNumber_23 : decode cX6_takesNumber 23 = .ok (.getfield 177, 3) := by decide +kernel
theorem dX6_takesNumber_26 : decode cX6_takesNumber 26 = .ok (.iconst 1, 1) := by decide +kernel
theorem dX6_takesNumber_27 : decode cX6_takesNumber 27 = .ok (.iadd, 1) := by decide +kernel
theorem dX6_takesNumber_28 : decode cX6_takesNumber 28 = .ok (.putfield 177, 3) := by decide +kernel
theorem dX6_takesNumber_31 : decode cX6_takesNumber 31 = .ok (.iload_n 1, 1) := by decide +kernel
theorem dX6_takesNumber_32 : decode cX6_takesNumber 32 = .ok (.ifCond .le 47, 3) := by decide +kernel
theorem dX6_takesNumber_35 : decode cX6_takesNumber 35 = .ok (.iload_n 1, 1) := by decide +kernel
theorem dX6_takesNumber_36 : decode cX6_takesNumber 36 = .ok (.sipush 1000, 3) := by decide +kernel
theorem dX6_takesNumber_39 : decode cX6_takesNumber 39 = .ok (.if_icmp .ge 40, 3) := by decide +kernel
theorem dX6_takesNumber_42 : decode cX6_takesNumber 42 = .ok (.aload_n 0, 1) := by decide +kernel
theorem dX6_takesNumber_43 : decode cX6_takesNumber 43 = .ok (.invokevirtual 183, 3) := by decide +kernel
theorem dX6_takesNumber_46 : decode cX6_takesNumber 46 = .ok (.ifCond .eq 33, 3) := by decide +kernel
theorem dX6_takesNumber_49 : decode cX6_takesNumber 49 = .ok (.bipush 10, 2) := by decide +kernel
theorem dX6_takesNumber_51 : decode cX6_takesNumber 51 = .ok (.iload_n 1, 1) := by decide +kernel
theorem dX6_takesNumber_52 : decode cX6_takesNumber 52 = .ok (.imul, 1) := by decide +kernel
theorem dX6_takesNumber_53 : decode cX6_takesNumber 53 = .ok (.aload_n 0, 1) := by decide +kernel
theorem dX6_takesNumber_54 : decode cX6_takesNumber 54 = .ok (.aload_n 0, 1) := by decide +kernel
theorem dX6_takesNumber_55 : decode cX6_takesNumber 55 = .ok (.getfield 177, 3) := by decide +kernel
theorem dX6_takesNumber_58 : decode cX6_takesNumber 58 = .ok (.invokevirtual 180, 3) := by decide +kernel
theorem dX6_takesNumber_61 : decode cX6_takesNumber 61 = .ok (.iadd, 1) := by decide +kernel
theorem dX6_takesNumber_62 : decode cX6_takesNumber 62 = .ok (.bipush 48, 2) := by decide +kernel
theorem dX6_takesNumber_64 : decode cX6_takesNumber 64 = .ok (.isub, 1) := by decide +kernel
theorem dX6_takesNumber_65 : decode cX6_takesNumber 65 = .ok (.istore_n 1, 1) := by decide +kernel
theorem dX6_takesNumber_66 : decode cX6_takesNumber 66 = .ok (.aload_n 0, 1) := by decide +kernel
theorem dX6_takesNumber_67 : decode cX6_takesNumber 67 = .ok (.dup, 1) := by decide +kernel
theorem dX6_takesNumber_68 : decode cX6_takesNumber 68 = .ok (.getfield 177, 3) := by decide +kernel
theorem dX6_takesNumber_71 : decode cX6_takesNumber 71 = .ok (.iconst 1, 1) := by decide +kernel
theorem dX6_takesNumber_72 : decode cX6_takesNumber 72 = .ok (.iadd, 1) := by decide +kernel
theorem dX6_takesNumber_73 : decode cX6_takesNumber 73 = .ok (.putfield 177, 3) := by decide +kernel
theorem dX6_takesNumber_76 : decode cX6_takesNumber 76 = .ok (.goto (-45), 3) := by decide +kernel
theorem dX6_takesNumber_79 : decode cX6_takesNumber 79 = .ok (.aload_n 0, 1) := by decide +kernel
theorem dX6_takesNumber_80 : decode cX6_takesNumber 80 = .ok (.getfield 28, 3) := by decide +kernel
theorem dX6_takesNumber_83 : decode cX6_takesNumber 83 = .ok (.aload_n 0, 1) := by decide +kernel
theorem dX6_takesNumber_84 : decode cX6_takesNumber 84 = .ok (.getfield 187, 3) := by decide +kernel
theorem dX6_takesNumber_87 : decode cX6_takesNumber 87 = .ok (.iload_n 1, 1) := by decide +kernel
theorem dX6_takesNumber_88 : decode cX6_takesNumber 88 = .ok (.iastore, 1) := by decide +kernel
theorem dX6_takesNumber_89 : decode cX6_takesNumber 89 = .ok (.aload_n 0, 1) := by decide +kernel
theorem dX6_takesNumber_90 : decode cX6_takesNumber 90 = .ok (.dup, 1) := by decide +kernel
theorem dX6_takesNumber_91 : decode cX6_takesNumber 91 = .ok (.getfield 187, 3) := by decide +kernel
theorem dX6_takesNumber_94 : decode cX6_takesNumber 94 = .ok (.iconst 1, 1) := by decide +kernel
theorem dX6_takesNumber_95 : decode cX6_takesNumber 95 = .ok (.iadd, 1) := by decide +kernel
theorem dX6_takesNumber_96 : decode cX6_takesNumber 96 = .ok (.putfield 187, 3) := by decide +kernel
theorem dX6_takesNumber_99 : decode cX6_takesNumber 99 = .ok (.iconst 1, 1) := by decide +kernel
theorem dX6_takesNumber_100 : decode cX6_takesNumber 100 = .ok (.ireturn, 1) := by decide +kernel
set_option maxRecDepth 20000 in
theorem ggX6_takesBytes_X6_takesNumber : GoodIn wsX6_takesBytes wsX6_takesNumber := goodIn_r _ [5, 6, 7, 8, 9, 10, 11, 4, 12, 13, 14, 15, 16, 17, 18, 19, 20, 21, 26, 27, 28, 29, 30, 31, 32, 33, 34, 35, 36, 37, 38] (by decide +kernel) (by decide +kernel)
set_option maxRecDepth 20000 in
theorem gX6_takesBytes_X6_takesNumber : GoodIn wsX6_takesBytes (wsV RX6 190 RX6 yX6_takesNumber wsX6_takesNumber) := goodIn_app (goodIn_of _ (by decide +kernel)) ggX6_takesBytes_X6_takesNumber
set_option maxRecDepth 20000 in
theorem ggX6_takesBytes_X6_isNext : GoodIn wsX6_takesBytes wsX6_isNext := goodIn_r _ [25, 6, 13, 14, 15, 4, 16, 17, 18, 26, 27, 28, 29, 30, 31, 32, 33, 34, 35, 36, 37, 38] (by decide +kernel) (by decide +kernel)
set_option maxRecDepth 20000 in
theorem gX6_takesBytes_X6_isNext : GoodIn wsX6_takesBytes (wsV RX6 193 RX6 yX6_isNext wsX6_isNext) := goodIn_app (goodIn_of _ (by decide +kernel)) ggX6_takesBytes_X6_isNext
theorem dX6_takesBytes_0 : decode cX6_takesBytes 0 = .ok (.aload_n 0, 1) := by decide +kernel
theorem dX6_takesBytes_1 : decode cX6_takesBytes 1 = .ok (.invokevirtual 190, 3) := by decide +kernel
theorem dX6_takesBytes_4 : decode cX6_takesBytes 4 = .ok (.istore_n 1, 1) := by decide +kernel
theorem dX6_takesBytes_5 : decode cX6_takesBytes 5 = .ok (.iload_n 1, 1) := by decide +kernel
theorem dX6_takesBytes_6 : decode cX6_takesBytes 6 = .ok (.ifCond .eq 20, 3) := by decide +kernel
theorem dX6_takesBytes_9 : decode cX6_takesBytes 9 = .ok (.aload_n 0, 1) := by decide +kernel
theorem dX6_takesBytes_10 : decode cX6_takesBytes 10 = .ok (.bipush 44, 2) := by decide +kernel
theorem dX6_takesBytes_12 : decode cX6_takesBytes 12 = .ok (.invokevirtual 193, 3) := by decide +kernel
theorem dX6_takesBytes_15 : decode cX6_takesBytes 15 = .ok (.ifCond .eq 11, 3) := by decide +kernel
theorem dX6_takesBytes_18 : decode cX6_takesBytes 18 = .ok (.aload_n 0, 1) := by decide +kernel
theorem dX6_takesBytes_19 : decode cX6_takesBytes 19 = .ok (.invokevirtual 190, 3) := by decide +kernel
theorem dX6_takesBytes_22 : decode cX6_takesBytes 22 = .ok (.istore_n 1, 1) := by decide +kernel
theorem dX6_takesBytes_23 : decode cX6_takesBytes 23 = .ok (.goto (-18), 3) := by decide +kernel
theorem dX6_takesBytes_26 : decode cX6_takesBytes 26 = .ok (.iload_n 1, 1) := by decide +kernel
theorem dX6_takesBytes_27 : decode cX6_takesBytes 27 = .ok (.ireturn, 1) := by decide +kernel
set_option maxRecDepth 20000 in
theorem ggX6_takesBlock_X6_takesNumber : GoodIn wsX6_takesBlock wsX6_takesNumber := goodIn_r _ [6, 7, 8, 9, 10, 11, 12, 5, 13, 14, 15, 16, 17, 18, 19, 20, 21, 22, 31, 32, 33, 34, 35, 36, 37, 38, 39, 40, 41, 42, 43] (by decide +kernel) (by decide +kernel)
set_option maxRecDepth 20000 in
theorem gX6_takesBlock_X6_takesNumber : GoodIn wsX6_takesBlock (wsV RX6 190 RX6 yX6_takesNumber wsX6_takesNumber) := goodIn_app (goodIn_of _ (by decide +kernel)) ggX6_takesBlock_X6_takesNumber
set_option maxRecDepth 20000 in
theorem ggX6_takesBlock_X6_isNext : GoodIn wsX6_takesBlock wsX6_isNext := goodIn_r _ [26, 7, 14, 15, 16, 5, 17, 18, 19, 31, 32, 33, 34, 35, 36, 37, 38, 39, 40, 41, 42, 43] (by decide +kernel) (by decide +kernel)
set_option maxRecDepth 20000 in
theorem gX6_takesBlock_X6_isNext : GoodIn wsX6_takesBlock (wsV RX6 193 RX6 yX6_isNext wsX6_isNext) := goodIn_app (goodIn_of _ (by decide +kernel)) ggX6_takesBlock_X6_isNext
set_option maxRecDepth 20000 in
theorem ggX6_takesBlock_X6_takesBytes : GoodIn wsX6_takesBlock wsX6_takesBytes := goodIn_r _ [30, 2, 3, 4, 5, 6, 7, 8, 9, 10, 11, 12, 13, 14, 15, 16, 17, 18, 19, 20, 21, 22, 23, 24, 25, 26, 31, 32, 33, 34, 35, 36, 37, 38, 39, 40, 41, 42, 43] (by decide +kernel) (by decide +kernel)
set_option maxRecDepth 20000 in
theorem gX6_takesBlock_X6_takesBytes : GoodIn wsX6_takesBlock (wsV RX6 200 RX6 yX6_takesBytes wsX6_takesBytes) := goodIn_app (goodIn_of _ (by decide +kernel)) ggX6_takesBlock_X6_takesBytes
theorem dX6_takesBlock_0 : decode cX6_takesBlock 0 = .ok (.aload_n 0, 1) := by decide +kernel
theorem dX6_takesBlock_1 : decode cX6_takesBlock 1 = .ok (.invokevirtual 190, 3) := by decide +kernel
theorem dX6_takesBlock_4 : decode cX6_takesBlock 4 = .ok (.istore_n 1, 1) := by decide +kernel
theorem dX6_takesBlock_5 : decode cX6_takesBlock 5 = .ok (.aload_n 0, 1) := by decide +kernel
theorem dX6_takesBlock_6 : decode cX6_takesBlock 6 = .ok (.iload_n 1, 1) := by decide +kernel
theorem dX6_takesBlock_7 : decode cX6_takesBlock 7 = .ok (.ifCond .eq 16, 3) := by decide +kernel
theorem dX6_takesBlock_10 : decode cX6_takesBlock 10 = .ok (.aload_n 0, 1) := by decide +kernel
theorem dX6_takesBlock_11 : decode cX6_takesBlock 11 = .ok (.bipush 94, 2) := by decide +kernel
theorem dX6_takesBlock_13 : decode cX6_takesBlock 13 = .ok (.invokevirtual 193, 3) := by decide +kernel
theorem dX6_takesBlock_16 : decode cX6_takesBlock 16 = .ok (.ifCond .eq 7, 3) := by decide +kernel
theorem dX6_takesBlock_19 : decode cX6_takesBlock 19 = .ok (.iconst 1, 1) := by decide +kernel
theorem dX6_takesBlock_20 : decode cX6_takesBlock 20 = .ok (.goto 4, 3) := by decide +kernel
theorem dX6_takesBlock_23 : decode cX6_takesBlock 23 = .ok (.iconst 0, 1) := by decide +kernel
theorem dX6_takesBlock_24 : decode cX6_takesBlock 24 = .ok (.putfield 196, 3) := by decide +kernel
theorem dX6_takesBlock_27 : decode cX6_takesBlock 27 = .ok (.iload_n 1, 1) := by decide +kernel
theorem dX6_takesBlock_28 : decode cX6_takesBlock 28 = .ok (.ifCond .eq 37, 3) := by decide +kernel
theorem dX6_takesBlock_31 : decode cX6_takesBlock 31 = .ok (.aload_n 0, 1) := by decide +kernel
theorem dX6_takesBlock_32 : decode cX6_takesBlock 32 = .ok (.getfield 196, 3) := by decide +kernel
theorem dX6_takesBlock_35 : decode cX6_takesBlock 35 = .ok (.ifCond .eq 10, 3) := by decide +kernel
theorem dX6_takesBlock_38 : decode cX6_takesBlock 38 = .ok (.aload_n 0, 1) := by decide +kernel
theorem dX6_takesBlock_39 : decode cX6_takesBlock 39 = .ok (.invokevirtual 190, 3) := by decide +kernel
theorem dX6_takesBlock_42 : decode cX6_takesBlock 42 = .ok (.ifCond .eq 23, 3) := by decide +kernel
theorem dX6_takesBlock_45 : decode cX6_takesBlock 45 = .ok (.aload_n 0, 1) := by decide +kernel
theorem dX6_takesBlock_46 : decode cX6_takesBlock 46 = .ok (.bipush 58, 2) := by decide +kernel
theorem dX6_takesBlock_48 : decode cX6_takesBlock 48 = .ok (.invokevirtual 193, 3) := by decide +kernel
theorem dX6_takesBlock_51 : decode cX6_takesBlock 51 = .ok (.ifCond .eq 14, 3) := by decide +kernel
theorem dX6_takesBlock_54 : decode cX6_takesBlock 54 = .ok (.aload_n 0, 1) := by decide +kernel
theorem dX6_takesBlock_55 : decode cX6_takesBlock 55 = .ok (.invokevirtual 200, 3) := by decide +kernel
theorem dX6_takesBlock_58 : decode cX6_takesBlock 58 = .ok (.ifCond .eq 7, 3) := by decide +kernel
theorem dX6_takesBlock_61 : decode cX6_takesBlock 61 = .ok (.iconst 1, 1) := by decide +kernel
theorem dX6_takesBlock_62 : decode cX6_takesBlock 62 = .ok (.goto 4, 3) := by decide +kernel
theorem dX6_takesBlock_65 : decode cX6_takesBlock 65 = .ok (.iconst 0, 1) := by decide +kernel
theorem dX6_takesBlock_66 : decode cX6_takesBlock 66 = .ok (.ireturn, 1) := by decide +kernel
set_option maxRecDepth 20000 in
theorem ggX6_readsOrder_X6_character : GoodIn wsX6_readsOrder wsX6_character := goodIn_r _ [8, 9, 10, 36, 37, 38, 39, 40, 41, 42, 43, 44, 45, 46, 47, 48] (by decide +kernel) (by decide +kernel)
set_option maxRecDepth 20000 in
theorem gX6_readsOrder_X6_character : GoodIn wsX6_readsOrder (wsV RX6 180 RX6 yX6_character wsX6_character) := goodIn_app (goodIn_of _ (by decide +kernel)) ggX6_readsOrder_X6_character
set_option maxRecDepth 20000 in
theorem ggX6_readsOrder_X6_takesBlock : GoodIn wsX6_readsOrder wsX6_takesBlock := goodIn_r _ [14, 15, 16, 17, 18, 7, 19, 2, 20, 1, 21, 22, 23, 24, 4, 5, 6, 8, 9, 10, 25, 26, 27, 28, 29, 30, 31, 32, 33, 34, 35, 36, 37, 38, 39, 40, 41, 42, 43, 44, 45, 46, 47, 48] (by decide +kernel) (by decide +kernel)
set_option maxRecDepth 20000 in
theorem gX6_readsOrder_X6_takesBlock : GoodIn wsX6_readsOrder (wsV RX6 206 RX6 yX6_takesBlock wsX6_takesBlock) := goodIn_app (goodIn_of _ (by decide +kernel)) ggX6_readsOrder_X6_takesBlock
set_option maxRecDepth 20000 in
theorem ggX6_readsOrder_X6_takesNumber : GoodIn wsX6_readsOrder wsX6_takesNumber := goodIn_r _ [19, 2, 20, 1, 21, 22, 23, 7, 24, 4, 5, 6, 8, 9, 10, 25, 26, 27, 36, 37, 38, 39, 40, 41, 42, 43, 44, 45, 46, 47, 48] (by decide +kernel) (by decide +kernel)
set_option maxRecDepth 20000 in
theorem gX6_readsOrder_X6_takesNumber : GoodIn wsX6_readsOrder (wsV RX6 190 RX6 yX6_takesNumber wsX6_takesNumber) := goodIn_app (goodIn_of _ (by decide +kernel)) ggX6_readsOrder_X6_takesNumber
set_option maxRecDepth 20000 in
theorem ggX6_readsOrder_X6_isNext : GoodIn wsX6_readsOrder wsX6_isNext := goodIn_r _ [31, 2, 4, 5, 6, 7, 8, 9, 10, 36, 37, 38, 39, 40, 41, 42, 43, 44, 45, 46, 47, 48] (by decide +kernel) (by decide +kernel)
set_option maxRecDepth 20000 in
theorem gX6_readsOrder_X6_isNext : GoodIn wsX6_readsOrder (wsV RX6 193 RX6 yX6_isNext wsX6_isNext) := goodIn_app (goodIn_of _ (by decide +kernel)) ggX6_readsOrder_X6_isNext
theorem dX6_readsOrder_0 : decode cX6_readsOrder 0 = .ok (.aload_n 0, 1) := by decide +kernel
theorem dX6_readsOrder_1 : decode cX6_readsOrder 1 = .ok (.iconst 0, 1) := by decide +kernel
theorem dX6_readsOrder_2 : decode cX6_readsOrder 2 = .ok (.putfield 187, 3) := by decide +kernel
theorem dX6_readsOrder_5 : decode cX6_readsOrder 5 = .ok (.aload_n 0, 1) := by decide +kernel
theorem dX6_readsOrder_6 : decode cX6_readsOrder 6 = .ok (.aload_n 0, 1) := by decide +kernel
theorem dX6_readsOrder_7 : decode cX6_readsOrder 7 = .ok (.aload_n 0, 1) := by decide +kernel
theorem dX6_readsOrder_8 : decode cX6_readsOrder 8 = .ok (.getfield 177, 3) := by decide +kernel
theorem dX6_readsOrder_11 : decode cX6_readsOrder 11 = .ok (.invokevirtual 180, 3) := by decide +kernel
theorem dX6_readsOrder_14 : decode cX6_readsOrder 14 = .ok (.putfield 203, 3) := by decide +kernel
theorem dX6_readsOrder_17 : decode cX6_readsOrder 17 = .ok (.aload_n 0, 1) := by decide +kernel
theorem dX6_readsOrder_18 : decode cX6_readsOrder 18 = .ok (.dup, 1) := by decide +kernel
theorem dX6_readsOrder_19 : decode cX6_readsOrder 19 = .ok (.getfield 177, 3) := by decide +kernel
theorem dX6_readsOrder_22 : decode cX6_readsOrder 22 = .ok (.iconst 1, 1) := by decide +kernel
theorem dX6_readsOrder_23 : decode cX6_readsOrder 23 = .ok (.iadd, 1) := by decide +kernel
theorem dX6_readsOrder_24 : decode cX6_readsOrder 24 = .ok (.putfield 177, 3) := by decide +kernel
theorem dX6_readsOrder_27 : decode cX6_readsOrder 27 = .ok (.aload_n 0, 1) := by decide +kernel
theorem dX6_readsOrder_28 : decode cX6_readsOrder 28 = .ok (.getfield 203, 3) := by decide +kernel
theorem dX6_readsOrder_31 : decode cX6_readsOrder 31 = .ok (.lookupswitch 88 #[(43, 33), (102, 38), (120, 83)], 33) := by decide +kernel
theorem dX6_readsOrder_64 : decode cX6_readsOrder 64 = .ok (.aload_n 0, 1) := by decide +kernel
theorem dX6_readsOrder_65 : decode cX6_readsOrder 65 = .ok (.invokevirtual 206, 3) := by decide +kernel
theorem dX6_readsOrder_68 : decode cX6_readsOrder 68 = .ok (.ireturn, 1) := by decide +kernel
theorem dX6_readsOrder_69 : decode cX6_readsOrder 69 = .ok (.aload_n 0, 1) := by decide +kernel
theorem dX6_readsOrder_70 : decode cX6_readsOrder 70 = .ok (.invokevirtual 190, 3) := by decide +kernel
theorem dX6_readsOrder_73 : decode cX6_readsOrder 73 = .ok (.ifCond .eq 39, 3) := by decide +kernel
theorem dX6_readsOrder_76 : decode cX6_readsOrder 76 = .ok (.aload_n 0, 1) := by decide +kernel
theorem dX6_readsOrder_77 : decode cX6_readsOrder 77 = .ok (.bipush 45, 2) := by decide +kernel
theorem dX6_readsOrder_79 : decode cX6_readsOrder 79 = .ok (.invokevirtual 193, 3) := by decide +kernel
theorem dX6_readsOrder_82 : decode cX6_readsOrder 82 = .ok (.ifCond .eq 30, 3) := by decide +kernel
theorem dX6_readsOrder_85 : decode cX6_readsOrder 85 = .ok (.aload_n 0, 1) := by decide +kernel
theorem dX6_readsOrder_86 : decode cX6_readsOrder 86 = .ok (.invokevirtual 190, 3) := by decide +kernel
theorem dX6_readsOrder_89 : decode cX6_readsOrder 89 = .ok (.ifCond .eq 23, 3) := by decide +kernel
theorem dX6_readsOrder_92 : decode cX6_readsOrder 92 = .ok (.aload_n 0, 1) := by decide +kernel
theorem dX6_readsOrder_93 : decode cX6_readsOrder 93 = .ok (.bipush 61, 2) := by decide +kernel
theorem dX6_readsOrder_95 : decode cX6_readsOrder 95 = .ok (.invokevirtual 193, 3) := by decide +kernel
theorem dX6_readsOrder_98 : decode cX6_readsOrder 98 = .ok (.ifCond .eq 14, 3) := by decide +kernel
theorem dX6_readsOrder_101 : decode cX6_readsOrder 101 = .ok (.aload_n 0, 1) := by decide +kernel
theorem dX6_readsOrder_102 : decode cX6_readsOrder 102 = .ok (.invokevirtual 190, 3) := by decide +kernel
theorem dX6_readsOrder_105 : decode cX6_readsOrder 105 = .ok (.ifCond .eq 7, 3) := by decide +kernel
theorem dX6_readsOrder_108 : decode cX6_readsOrder 108 = .ok (.iconst 1, 1) := by decide +kernel
theorem dX6_readsOrder_109 : decode cX6_readsOrder 109 = .ok (.goto 4, 3) := by decide +kernel
theorem dX6_readsOrder_112 : decode cX6_readsOrder 112 = .ok (.iconst 0, 1) := by decide +kernel
theorem dX6_readsOrder_113 : decode cX6_readsOrder 113 = .ok (.ireturn, 1) := by decide +kernel
theorem dX6_readsOrder_114 : decode cX6_readsOrder 114 = .ok (.aload_n 0, 1) := by decide +kernel
theorem dX6_readsOrder_115 : decode cX6_readsOrder 115 = .ok (.invokevirtual 190, 3) := by decide +kernel
theorem dX6_readsOrder_118 : decode cX6_readsOrder 118 = .ok (.ireturn, 1) := by decide +kernel
theorem dX6_readsOrder_119 : decode cX6_readsOrder 119 = .ok (.aload_n 0, 1) := by decide +kernel
theorem dX6_readsOrder_120 : decode cX6_readsOrder 120 = .ok (.dup, 1) := by decide +kernel
theorem dX6_readsOrder_121 : decode cX6_readsOrder 121 = .ok (.getfield 177, 3) := by decide +kernel
theorem dX6_readsOrder_124 : decode cX6_readsOrder 124 = .ok (.iconst 1, 1) := by decide +kernel
theorem dX6_readsOrder_125 : decode cX6_readsOrder 125 = .ok (.isub, 1) := by decide +kernel
theorem dX6_readsOrder_126 : decode cX6_readsOrder 126 = .ok (.putfield 177, 3) := by decide +kernel
theorem dX6_readsOrder_129 : decode cX6_readsOrder 129 = .ok (.iconst 0, 1) := by decide +kernel
theorem dX6_readsOrder_130 : decode cX6_readsOrder 130 = .ok (.ireturn, 1) := by decide +kernel
set_option maxRecDepth 20000 in
theorem ggX6_findFault_X6_readsOrder : GoodIn wsX6_findFault wsX6_readsOrder := goodIn_r _ [7, 8, 1, 9, 10, 11, 12, 6, 13, 2, 14, 15, 16, 17, 18, 19, 20, 21, 22, 23, 24, 25, 26, 27, 28, 29, 30, 31, 32, 33, 34, 35, 36, 37, 38, 39, 40, 41, 42, 43, 44, 45, 46, 47, 48, 49, 50, 51, 52] (by decide +kernel) (by decide +kernel)
set_option maxRecDepth 20000 in
theorem gX6_findFault_X6_readsOrder : GoodIn wsX6_findFault (wsV RX6 209 RX6 yX6_readsOrder wsX6_readsOrder) := goodIn_app (goodIn_of _ (by decide +kernel)) ggX6_findFault_X6_readsOrder
set_option maxRecDepth 20000 in
theorem ggX6_findFault_X6_isNext : GoodIn wsX6_findFault wsX6_isNext := goodIn_r _ [35, 1, 10, 11, 12, 6, 13, 2, 14, 40, 41, 42, 43, 44, 45, 46, 47, 48, 49, 50, 51, 52] (by decide +kernel) (by decide +kernel)
set_option maxRecDepth 20000 in
theorem gX6_findFault_X6_isNext : GoodIn wsX6_findFault (wsV RX6 193 RX6 yX6_isNext wsX6_isNext) := goodIn_app (goodIn_of _ (by decide +kernel)) ggX6_findFault_X6_isNext
theorem dX6_findFault_0 : decode cX6_findFault 0 = .ok (.aload_n 0, 1) := by decide +kernel
theorem dX6_findFault_1 : decode cX6_findFault 1 = .ok (.iconst 0, 1) := by decide +kernel
theorem dX6_findFault_2 : decode cX6_findFault 2 = .ok (.putfield 177, 3) := by decide +kernel
theorem dX6_findFault_5 : decode cX6_findFault 5 = .ok (.aload_n 0, 1) := by decide +kernel
theorem dX6_findFault_6 : decode cX6_findFault 6 = .ok (.invokevirtual 209, 3) := by decide +kernel
theorem dX6_findFault_9 : decode cX6_findFault 9 = .ok (.ifCond .ne 8, 3) := by decide +kernel
theorem dX6_findFault_12 : decode cX6_findFault 12 = .ok (.aload_n 0, 1) := by decide +kernel
theorem dX6_findFault_13 : decode cX6_findFault 13 = .ok (.getfield 177, 3) := by decide +kernel
theorem dX6_findFault_16 : decode cX6_findFault 16 = .ok (.ireturn, 1) := by decide +kernel
theorem dX6_findFault_17 : decode cX6_findFault 17 = .ok (.aload_n 0, 1) := by decide +kernel
theorem dX6_findFault_18 : decode cX6_findFault 18 = .ok (.getfield 177, 3) := by decide +kernel
theorem dX6_findFault_21 : decode cX6_findFault 21 = .ok (.aload_n 0, 1) := by decide +kernel
theorem dX6_findFault_22 : decode cX6_findFault 22 = .ok (.getfield 162, 3) := by decide +kernel
theorem dX6_findFault_25 : decode cX6_findFault 25 = .ok (.if_icmp .ne 6, 3) := by decide +kernel
theorem dX6_findFault_28 : decode cX6_findFault 28 = .ok (.bipush (-6), 2) := by decide +kernel
theorem dX6_findFault_30 : decode cX6_findFault 30 = .ok (.ireturn, 1) := by decide +kernel
theorem dX6_findFault_31 : decode cX6_findFault 31 = .ok (.aload_n 0, 1) := by decide +kernel
theorem dX6_findFault_32 : decode cX6_findFault 32 = .ok (.bipush 59, 2) := by decide +kernel
theorem dX6_findFault_34 : decode cX6_findFault 34 = .ok (.invokevirtual 193, 3) := by decide +kernel
theorem dX6_findFault_37 : decode cX6_findFault 37 = .ok (.ifCond .ne (-32), 3) := by decide +kernel
theorem dX6_findFault_40 : decode cX6_findFault 40 = .ok (.aload_n 0, 1) := by decide +kernel
theorem dX6_findFault_41 : decode cX6_findFault 41 = .ok (.getfield 177, 3) := by decide +kernel
theorem dX6_findFault_44 : decode cX6_findFault 44 = .ok (.ireturn, 1) := by decide +kernel
set_option maxRecDepth 20000 in
theorem ggX6_fault_X6_findFault : GoodIn wsX6_fault wsX6_findFault := goodIn_r _ [5, 6, 7, 8, 9, 10, 4, 11, 12, 13, 14, 15, 16, 17, 18, 19, 20, 21, 22, 23, 24, 25, 26, 27, 28, 29, 30, 31, 32, 33, 34, 35, 36, 37, 38, 39, 40, 41, 42, 43, 44, 45, 46, 47, 48, 49, 50, 51, 52, 53, 54, 55, 56] (by decide +kernel) (by decide +kernel)
set_option maxRecDepth 20000 in
theorem gX6_fault_X6_findFault : GoodIn wsX6_fault (wsV RX6 212 RX6 yX6_findFault wsX6_findFault) := goodIn_app (goodIn_of _ (by decide +kernel)) ggX6_fault_X6_findFault
theorem dX6_fault_0 : decode cX6_fault 0 = .ok (.aload_n 0, 1) := by decide +kernel
theorem dX6_fault_1 : decode cX6_fault 1 = .ok (.invokevirtual 212, 3) := by decide +kernel
theorem dX6_fault_4 : decode cX6_fault 4 = .ok (.ireturn, 1) := by decide +kernel
set_option maxRecDepth 20000 in
theorem ggX6_doesBlock_X6_whyNotWritten : GoodIn wsX6_doesBlock wsX6_whyNotWritten := goodIn_r _ [9, 10, 11, 12, 13, 8, 14, 15, 16, 17, 38, 39, 40, 41, 42, 43, 44, 45, 46, 47, 48, 49, 50] (by decide +kernel) (by decide +kernel)
set_option maxRecDepth 20000 in
theorem gX6_doesBlock_X6_whyNotWritten : GoodIn wsX6_doesBlock (wsV RX6 110 RX6 yX6_whyNotWritten wsX6_whyNotWritten) := goodIn_app (goodIn_of _ (by decide +kernel)) ggX6_doesBlock_X6_whyNotWritten
set_option maxRecDepth 20000 in
theorem ggX6_doesBlock_X6_writes : GoodIn wsX6_doesBlock wsX6_writes := goodIn_r _ [21, 10, 4, 22, 23, 24, 8, 25, 26, 27, 28, 29, 30, 31, 32, 33, 34, 35, 36, 37, 38, 39, 40, 41, 42, 43, 44, 45, 46, 47, 48, 49, 50] (by decide +kernel) (by decide +kernel)
set_option maxRecDepth 20000 in
theorem gX6_doesBlock_X6_writes : GoodIn wsX6_doesBlock (wsV RX6 115 RX6 yX6_writes wsX6_writes) := goodIn_app (goodIn_of _ (by decide +kernel)) ggX6_doesBlock_X6_writes
theorem dX6_doesBlock_0 : decode cX6_doesBlock 0 = .ok (.aload_n 0, 1) := by decide +kernel
theorem dX6_doesBlock_1 : decode cX6_doesBlock 1 = .ok (.getfield 196, 3) := by decide +kernel
theorem dX6_doesBlock_4 : decode cX6_doesBlock 4 = .ok (.ifCond .eq 7, 3) := by decide +kernel
theorem dX6_doesBlock_7 : decode cX6_doesBlock 7 = .ok (.iconst 2, 1) := by decide +kernel
theorem dX6_doesBlock_8 : decode cX6_doesBlock 8 = .ok (.goto 4, 3) := by decide +kernel
theorem dX6_doesBlock_11 : decode cX6_doesBlock 11 = .ok (.iconst 1, 1) := by decide +kernel
theorem dX6_doesBlock_12 : decode cX6_doesBlock 12 = .ok (.istore_n 1, 1) := by decide +kernel
theorem dX6_doesBlock_13 : decode cX6_doesBlock 13 = .ok (.aload_n 0, 1) := by decide +kernel
theorem dX6_doesBlock_14 : decode cX6_doesBlock 14 = .ok (.getfield 187, 3) := by decide +kernel
theorem dX6_doesBlock_17 : decode cX6_doesBlock 17 = .ok (.iload_n 1, 1) := by decide +kernel
theorem dX6_doesBlock_18 : decode cX6_doesBlock 18 = .ok (.isub, 1) := by decide +kernel
theorem dX6_doesBlock_19 : decode cX6_doesBlock 19 = .ok (.istore_n 2, 1) := by decide +kernel
theorem dX6_doesBlock_20 : decode cX6_doesBlock 20 = .ok (.aload_n 0, 1) := by decide +kernel
theorem dX6_doesBlock_21 : decode cX6_doesBlock 21 = .ok (.getfield 196, 3) := by decide +kernel
theorem dX6_doesBlock_24 : decode cX6_doesBlock 24 = .ok (.ifCond .eq 12, 3) := by decide +kernel
theorem dX6_doesBlock_27 : decode cX6_doesBlock 27 = .ok (.aload_n 0, 1) := by decide +kernel
theorem dX6_doesBlock_28 : decode cX6_doesBlock 28 = .ok (.getfield 28, 3) := by decide +kernel
theorem dX6_doesBlock_31 : decode cX6_doesBlock 31 = .ok (.iconst 1, 1) := by decide +kernel
theorem dX6_doesBlock_32 : decode cX6_doesBlock 32 = .ok (.iaload, 1) := by decide +kernel
theorem dX6_doesBlock_33 : decode cX6_doesBlock 33 = .ok (.goto 5, 3) := by decide +kernel
theorem dX6_doesBlock_36 : decode cX6_doesBlock 36 = .ok (.bipush (-6), 2) := by decide +kernel
theorem dX6_doesBlock_38 : decode cX6_doesBlock 38 = .ok (.istore_n 3, 1) := by decide +kernel
theorem dX6_doesBlock_39 : decode cX6_doesBlock 39 = .ok (.aload_n 0, 1) := by decide +kernel
theorem dX6_doesBlock_40 : decode cX6_doesBlock 40 = .ok (.aload_n 0, 1) := by decide +kernel
theorem dX6_doesBlock_41 : decode cX6_doesBlock 41 = .ok (.getfield 28, 3) := by decide +kernel
theorem dX6_doesBlock_44 : decode cX6_doesBlock 44 = .ok (.iconst 0, 1) := by decide +kernel
theorem dX6_doesBlock_45 : decode cX6_doesBlock 45 = .ok (.iaload, 1) := by decide +kernel
theorem dX6_doesBlock_46 : decode cX6_doesBlock 46 = .ok (.iload_n 3, 1) := by decide +kernel
theorem dX6_doesBlock_47 : decode cX6_doesBlock 47 = .ok (.iload_n 2, 1) := by decide +kernel
theorem dX6_doesBlock_48 : decode cX6_doesBlock 48 = .ok (.invokevirtual 110, 3) := by decide +kernel
theorem dX6_doesBlock_51 : decode cX6_doesBlock 51 = .ok (.ifCond .ne 7, 3) := by decide +kernel
theorem dX6_doesBlock_54 : decode cX6_doesBlock 54 = .ok (.iconst 1, 1) := by decide +kernel
theorem dX6_doesBlock_55 : decode cX6_doesBlock 55 = .ok (.goto 4, 3) := by decide +kernel
theorem dX6_doesBlock_58 : decode cX6_doesBlock 58 = .ok (.iconst 0, 1) := by decide +kernel
theorem dX6_doesBlock_59 : decode cX6_doesBlock 59 = .ok (.istore 4, 2) := by decide +kernel
theorem dX6_doesBlock_61 : decode cX6_doesBlock 61 = .ok (.iconst 0, 1) := by decide +kernel
theorem dX6_doesBlock_62 : decode cX6_doesBlock 62 = .ok (.istore 5, 2) := by decide +kernel
theorem dX6_doesBlock_64 : decode cX6_doesBlock 64 = .ok (.iload 5, 2) := by decide +kernel
theorem dX6_doesBlock_66 : decode cX6_doesBlock 66 = .ok (.iload_n 2, 1) := by decide +kernel
theorem dX6_doesBlock_67 : decode cX6_doesBlock 67 = .ok (.if_icmp .ge 52, 3) := by decide +kernel
theorem dX6_doesBlock_70 : decode cX6_doesBlock 70 = .ok (.iload 4, 2) := by decide +kernel
theorem dX6_doesBlock_72 : decode cX6_doesBlock 72 = .ok (.ifCond .eq 47, 3) := by decide +kernel
theorem dX6_doesBlock_75 : decode cX6_doesBlock 75 = .ok (.aload_n 0, 1) := by decide +kernel
theorem dX6_doesBlock_76 : decode cX6_doesBlock 76 = .ok (.getfield 28, 3) := by decide +kernel
theorem dX6_doesBlock_79 : decode cX6_doesBlock 79 = .ok (.iload_n 1, 1) := by decide +kernel
theorem dX6_doesBlock_80 : decode cX6_doesBlock 80 = .ok (.iload 5, 2) := by decide +kernel
theorem dX6_doesBlock_82 : decode cX6_doesBlock 82 = .ok (.iadd, 1) := by decide +kernel
theorem dX6_doesBlock_83 : decode cX6_doesBlock 83 = .ok (.iaload, 1) := by decide +kernel
theorem dX6_doesBlock_84 : decode cX6_doesBlock 84 = .ok (.sipush 256, 3) := by decide +kernel
theorem dX6_doesBlock_87 : decode cX6_doesBlock 87 = .ok (.if_icmp .ge 7, 3) := by decide +kernel
theorem dX6_doesBlock_90 : decode cX6_doesBlock 90 = .ok (.iconst 1, 1) := by decide +kernel
theorem dX6_doesBlock_91 : decode cX6_doesBlock 91 = .ok (.goto 4, 3) := by decide +kernel
theorem dX6_doesBlock_94 : decode cX6_doesBlock 94 = .ok (.iconst 0, 1) := by decide +kernel
theorem dX6_doesBlock_95 : decode cX6_doesBlock 95 = .ok (.istore 4, 2) := by decide +kernel
theorem dX6_doesBlock_97 : decode cX6_doesBlock 97 = .ok (.aload_n 0, 1) := by decide +kernel
theorem dX6_doesBlock_98 : decode cX6_doesBlock 98 = .ok (.getfield 25, 3) := by decide +kernel
theorem dX6_doesBlock_101 : decode cX6_doesBlock 101 = .ok (.iload 5, 2) := by decide +kernel
theorem dX6_doesBlock_103 : decode cX6_doesBlock 103 = .ok (.aload_n 0, 1) := by decide +kernel
theorem dX6_doesBlock_104 : decode cX6_doesBlock 104 = .ok (.getfield 28, 3) := by decide +kernel
theorem dX6_doesBlock_107 : decode cX6_doesBlock 107 = .ok (.iload_n 1, 1) := by decide +kernel
theorem dX6_doesBlock_108 : decode cX6_doesBlock 108 = .ok (.iload 5, 2) := by decide +kernel
theorem dX6_doesBlock_110 : decode cX6_doesBlock 110 = .ok (.iadd, 1) := by decide +kernel
theorem dX6_doesBlock_111 : decode cX6_doesBlock 111 = .ok (.iaload, 1) := by decide +kernel
theorem dX6_doesBlock_112 : decode cX6_doesBlock 112 = .ok (.iastore, 1) := by decide +kernel
theorem dX6_doesBlock_113 : decode cX6_doesBlock 113 = .ok (.iinc 5 1, 3) := by decide +kernel
theorem dX6_doesBlock_116 : decode cX6_doesBlock 116 = .ok (.goto (-52), 3) := by decide +kernel
theorem dX6_doesBlock_119 : decode cX6_doesBlock 119 = .ok (.iload 4, 2) := by decide +kernel
theorem dX6_doesBlock_121 : decode cX6_doesBlock 121 = .ok (.ifCond .eq 16, 3) := by decide +kernel
theorem dX6_doesBlock_124 : decode cX6_doesBlock 124 = .ok (.aload_n 0, 1) := by decide +kernel
theorem dX6_doesBlock_125 : decode cX6_doesBlock 125 = .ok (.aload_n 0, 1) := by decide +kernel
theorem dX6_doesBlock_126 : decode cX6_doesBlock 126 = .ok (.getfield 28, 3) := by decide +kernel
theorem dX6_doesBlock_129 : decode cX6_doesBlock 129 = .ok (.iconst 0, 1) := by decide +kernel
theorem dX6_doesBlock_130 : decode cX6_doesBlock 130 = .ok (.iaload, 1) := by decide +kernel
theorem dX6_doesBlock_131 : decode cX6_doesBlock 131 = .ok (.iload_n 3, 1) := by decide +kernel
theorem dX6_doesBlock_132 : decode cX6_doesBlock 132 = .ok (.iload_n 2, 1) := by decide +kernel
theorem dX6_doesBlock_133 : decode cX6_doesBlock 133 = .ok (.invokevirtual 115, 3) := by decide +kernel
theorem dX6_doesBlock_136 : decode cX6_doesBlock 136 = .ok (.pop, 1) := by decide +kernel
theorem dX6_doesBlock_137 : decode cX6_doesBlock 137 = .ok (.iload 4, 2) := by decide +kernel
theorem dX6_doesBlock_139 : decode cX6_doesBlock 139 = .ok (.ireturn, 1) := by decide +kernel
set_option maxRecDepth 20000 in
theorem ggX6_doesFade_X6_whyNotFaded : GoodIn wsX6_doesFade wsX6_whyNotFaded := goodIn_r _ [6, 7, 8, 9, 5, 10, 11, 12, 13, 14, 15, 16, 17, 18, 19, 20, 21, 22, 23, 24, 25, 26, 27, 28, 29, 30, 31, 32, 33, 34, 47, 48, 49, 50, 51, 52, 53, 54, 55, 56, 57, 58, 59] (by decide +kernel) (by decide +kernel)
set_option maxRecDepth 20000 in
theorem gX6_doesFade_X6_whyNotFaded : GoodIn wsX6_doesFade (wsV RX6 121 RX6 yX6_whyNotFaded wsX6_whyNotFaded) := goodIn_app (goodIn_of _ (by decide +kernel)) ggX6_doesFade_X6_whyNotFaded
set_option maxRecDepth 20000 in
theorem ggX6_doesFade_X6_fades : GoodIn wsX6_doesFade wsX6_fades := goodIn_r _ [38, 15, 39, 40, 41, 5, 42, 43, 44, 45, 46, 47, 48, 49, 50, 51, 52, 53, 54, 55, 56, 57, 58, 59] (by decide +kernel) (by decide +kernel)
set_option maxRecDepth 20000 in
theorem gX6_doesFade_X6_fades : GoodIn wsX6_doesFade (wsV RX6 124 RX6 yX6_fades wsX6_fades) := goodIn_app (goodIn_of _ (by decide +kernel)) ggX6_doesFade_X6_fades
theorem dX6_doesFade_0 : decode cX6_doesFade 0 = .ok (.aload_n 0, 1) := by decide +kernel
theorem dX6_doesFade_1 : decode cX6_doesFade 1 = .ok (.aload_n 0, 1) := by decide +kernel
theorem dX6_doesFade_2 : decode cX6_doesFade 2 = .ok (.getfield 28, 3) := by decide +kernel
theorem dX6_doesFade_5 : decode cX6_doesFade 5 = .ok (.iconst 0, 1) := by decide +kernel
theorem dX6_doesFade_6 : decode cX6_doesFade 6 = .ok (.iaload, 1) := by decide +kernel
theorem dX6_doesFade_7 : decode cX6_doesFade 7 = .ok (.aload_n 0, 1) := by decide +kernel
theorem dX6_doesFade_8 : decode cX6_doesFade 8 = .ok (.getfield 28, 3) := by decide +kernel
theorem dX6_doesFade_11 : decode cX6_doesFade 11 = .ok (.iconst 1, 1) := by decide +kernel
theorem dX6_doesFade_12 : decode cX6_doesFade 12 = .ok (.iaload, 1) := by decide +kernel
theorem dX6_doesFade_13 : decode cX6_doesFade 13 = .ok (.aload_n 0, 1) := by decide +kernel
theorem dX6_doesFade_14 : decode cX6_doesFade 14 = .ok (.getfield 28, 3) := by decide +kernel
theorem dX6_doesFade_17 : decode cX6_doesFade 17 = .ok (.iconst 2, 1) := by decide +kernel
theorem dX6_doesFade_18 : decode cX6_doesFade 18 = .ok (.iaload, 1) := by decide +kernel
theorem dX6_doesFade_19 : decode cX6_doesFade 19 = .ok (.invokevirtual 121, 3) := by decide +kernel
theorem dX6_doesFade_22 : decode cX6_doesFade 22 = .ok (.ifCond .ne 7, 3) := by decide +kernel
theorem dX6_doesFade_25 : decode cX6_doesFade 25 = .ok (.iconst 1, 1) := by decide +kernel
theorem dX6_doesFade_26 : decode cX6_doesFade 26 = .ok (.goto 4, 3) := by decide +kernel
theorem dX6_doesFade_29 : decode cX6_doesFade 29 = .ok (.iconst 0, 1) := by decide +kernel
theorem dX6_doesFade_30 : decode cX6_doesFade 30 = .ok (.istore_n 1, 1) := by decide +kernel
theorem dX6_doesFade_31 : decode cX6_doesFade 31 = .ok (.iload_n 1, 1) := by decide +kernel
theorem dX6_doesFade_32 : decode cX6_doesFade 32 = .ok (.ifCond .eq 26, 3) := by decide +kernel
theorem dX6_doesFade_35 : decode cX6_doesFade 35 = .ok (.aload_n 0, 1) := by decide +kernel
theorem dX6_doesFade_36 : decode cX6_doesFade 36 = .ok (.aload_n 0, 1) := by decide +kernel
theorem dX6_doesFade_37 : decode cX6_doesFade 37 = .ok (.getfield 28, 3) := by decide +kernel
theorem dX6_doesFade_40 : decode cX6_doesFade 40 = .ok (.iconst 0, 1) := by decide +kernel
theorem dX6_doesFade_41 : decode cX6_doesFade 41 = .ok (.iaload, 1) := by decide +kernel
theorem dX6_doesFade_42 : decode cX6_doesFade 42 = .ok (.aload_n 0, 1) := by decide +kernel
theorem dX6_doesFade_43 : decode cX6_doesFade 43 = .ok (.getfield 28, 3) := by decide +kernel
theorem dX6_doesFade_46 : decode cX6_doesFade 46 = .ok (.iconst 1, 1) := by decide +kernel
theorem dX6_doesFade_47 : decode cX6_doesFade 47 = .ok (.iaload, 1) := by decide +kernel
theorem dX6_doesFade_48 : decode cX6_doesFade 48 = .ok (.aload_n 0, 1) := by decide +kernel
theorem dX6_doesFade_49 : decode cX6_doesFade 49 = .ok (.getfield 28, 3) := by decide +kernel
theorem dX6_doesFade_52 : decode cX6_doesFade 52 = .ok (.iconst 2, 1) := by decide +kernel
theorem dX6_doesFade_53 : decode cX6_doesFade 53 = .ok (.iaload, 1) := by decide +kernel
theorem dX6_doesFade_54 : decode cX6_doesFade 54 = .ok (.invokevirtual 124, 3) := by decide +kernel
theorem dX6_doesFade_57 : decode cX6_doesFade 57 = .ok (.pop, 1) := by decide +kernel
theorem dX6_doesFade_58 : decode cX6_doesFade 58 = .ok (.iload_n 1, 1) := by decide +kernel
theorem dX6_doesFade_59 : decode cX6_doesFade 59 = .ok (.ireturn, 1) := by decide +kernel
set_option maxRecDepth 20000 in
theorem ggX6_doesOrder_X6_doesBlock : GoodIn wsX6_doesOrder wsX6_doesBlock := goodIn_r _ [7, 8, 9, 2, 10, 11, 12, 13, 6, 14, 15, 16, 17, 18, 19, 20, 21, 22, 23, 24, 25, 26, 27, 28, 29, 30, 31, 32, 33, 34, 35, 36, 37, 38, 39, 40, 41, 42, 75, 76, 77, 78, 79, 80, 81, 82, 83, 84, 85, 86, 87] (by decide +kernel) (by decide +kernel)
set_option maxRecDepth 20000 in
theorem gX6_doesOrder_X6_doesBlock : GoodIn wsX6_doesOrder (wsV RX6 215 RX6 yX6_doesBlock wsX6_doesBlock) := goodIn_app (goodIn_of _ (by decide +kernel)) ggX6_doesOrder_X6_doesBlock
set_option maxRecDepth 20000 in
theorem ggX6_doesOrder_X6_doesFade : GoodIn wsX6_doesOrder wsX6_doesFade := goodIn_r _ [46, 2, 47, 48, 49, 6, 50, 51, 52, 53, 54, 55, 56, 57, 58, 15, 27, 28, 29, 30, 31, 32, 33, 34, 35, 36, 37, 38, 39, 40, 41, 42, 20, 21, 22, 59, 60, 61, 62, 63, 64, 65, 66, 67, 68, 69, 70, 75, 76, 77, 78, 79, 80, 81, 82, 83, 84, 85, 86, 87] (by decide +kernel) (by decide +kernel)
set_option maxRecDepth 20000 in
theorem gX6_doesOrder_X6_doesFade : GoodIn wsX6_doesOrder (wsV RX6 218 RX6 yX6_doesFade wsX6_doesFade) := goodIn_app (goodIn_of _ (by decide +kernel)) ggX6_doesOrder_X6_doesFade
set_option maxRecDepth 20000 in
theorem ggX6_doesOrder_X6_isCell : GoodIn wsX6_doesOrder wsX6_isCell := goodIn_r _ [54, 55, 56, 57, 6, 58, 15, 27, 28, 29, 30, 31, 32, 33, 34, 35, 36, 37, 38, 39, 40, 41, 42, 20, 21, 22, 75, 76, 77, 78, 79, 80, 81, 82, 83, 84, 85, 86, 87] (by decide +kernel) (by decide +kernel)
set_option maxRecDepth 20000 in
theorem gX6_doesOrder_X6_isCell : GoodIn wsX6_doesOrder (wsV RX6 118 RX6 yX6_isCell wsX6_isCell) := goodIn_app (goodIn_of _ (by decide +kernel)) ggX6_doesOrder_X6_isCell
set_option maxRecDepth 20000 in
theorem ggX6_doesOrder_X6_turns : GoodIn wsX6_doesOrder wsX6_turns := goodIn_r _ [74, 15, 67, 68, 69, 6, 70, 75, 76, 77, 78, 79, 80, 81, 82, 83, 84, 85, 86, 87] (by decide +kernel) (by decide +kernel)
set_option maxRecDepth 20000 in
theorem gX6_doesOrder_X6_turns : GoodIn wsX6_doesOrder (wsV RX6 127 RX6 yX6_turns wsX6_turns) := goodIn_app (goodIn_of _ (by decide +kernel)) ggX6_doesOrder_X6_turns
theorem dX6_doesOrder_0 : decode cX6_doesOrder 0 = .ok (.aload_n 0, 1) := by decide +kernel
theorem dX6_doesOrder_1 : decode cX6_doesOrder 1 = .ok (.getfield 203, 3) := by decide +kernel
theorem dX6_doesOrder_4 : decode cX6_doesOrder 4 = .ok (.bipush 43, 2) := by decide +kernel
theorem dX6_doesOrder_6 : decode cX6_doesOrder 6 = .ok (.if_icmp .ne 8, 3) := by decide +kernel
theorem dX6_doesOrder_9 : decode cX6_doesOrder 9 = .ok (.aload_n 0, 1) := by decide +kernel
theorem dX6_doesOrder_10 : decode cX6_doesOrder 10 = .ok (.invokevirtual 215, 3) := by decide +kernel
theorem dX6_doesOrder_13 : decode cX6_doesOrder 13 = .ok (.ireturn, 1) := by decide +kernel
theorem dX6_doesOrder_14 : decode cX6_doesOrder 14 = .ok (.aload_n 0, 1) := by decide +kernel
theorem dX6_doesOrder_15 : decode cX6_doesOrder 15 = .ok (.getfield 203, 3) := by decide +kernel
theorem dX6_doesOrder_18 : decode cX6_doesOrder 18 = .ok (.bipush 102, 2) := by decide +kernel
theorem dX6_doesOrder_20 : decode cX6_doesOrder 20 = .ok (.if_icmp .ne 8, 3) := by decide +kernel
theorem dX6_doesOrder_23 : decode cX6_doesOrder 23 = .ok (.aload_n 0, 1) := by decide +kernel
theorem dX6_doesOrder_24 : decode cX6_doesOrder 24 = .ok (.invokevirtual 218, 3) := by decide +kernel
theorem dX6_doesOrder_27 : decode cX6_doesOrder 27 = .ok (.ireturn, 1) := by decide +kernel
theorem dX6_doesOrder_28 : decode cX6_doesOrder 28 = .ok (.aload_n 0, 1) := by decide +kernel
theorem dX6_doesOrder_29 : decode cX6_doesOrder 29 = .ok (.aload_n 0, 1) := by decide +kernel
theorem dX6_doesOrder_30 : decode cX6_doesOrder 30 = .ok (.getfield 28, 3) := by decide +kernel
theorem dX6_doesOrder_33 : decode cX6_doesOrder 33 = .ok (.iconst 0, 1) := by decide +kernel
theorem dX6_doesOrder_34 : decode cX6_doesOrder 34 = .ok (.iaload, 1) := by decide +kernel
theorem dX6_doesOrder_35 : decode cX6_doesOrder 35 = .ok (.invokevirtual 118, 3) := by decide +kernel
theorem dX6_doesOrder_38 : decode cX6_doesOrder 38 = .ok (.istore_n 1, 1) := by decide +kernel
theorem dX6_doesOrder_39 : decode cX6_doesOrder 39 = .ok (.iload_n 1, 1) := by decide +kernel
theorem dX6_doesOrder_40 : decode cX6_doesOrder 40 = .ok (.ifCond .eq 14, 3) := by decide +kernel
theorem dX6_doesOrder_43 : decode cX6_doesOrder 43 = .ok (.aload_n 0, 1) := by decide +kernel
theorem dX6_doesOrder_44 : decode cX6_doesOrder 44 = .ok (.aload_n 0, 1) := by decide +kernel
theorem dX6_doesOrder_45 : decode cX6_doesOrder 45 = .ok (.getfield 28, 3) := by decide +kernel
theorem dX6_doesOrder_48 : decode cX6_doesOrder 48 = .ok (.iconst 0, 1) := by decide +kernel
theorem dX6_doesOrder_49 : decode cX6_doesOrder 49 = .ok (.iaload, 1) := by decide +kernel
theorem dX6_doesOrder_50 : decode cX6_doesOrder 50 = .ok (.invokevirtual 127, 3) := by decide +kernel
theorem dX6_doesOrder_53 : decode cX6_doesOrder 53 = .ok (.pop, 1) := by decide +kernel
theorem dX6_doesOrder_54 : decode cX6_doesOrder 54 = .ok (.iload_n 1, 1) := by decide +kernel
theorem dX6_doesOrder_55 : decode cX6_doesOrder 55 = .ok (.ireturn, 1) := by decide +kernel
set_option maxRecDepth 20000 in
theorem ggX6_carryOut_X6_findFault : GoodIn wsX6_carryOut wsX6_findFault := goodIn_r _ [7, 1, 2, 8, 9, 10, 6, 11, 12, 13, 14, 15, 16, 17, 18, 19, 20, 21, 22, 23, 24, 25, 26, 27, 28, 29, 30, 31, 32, 33, 34, 35, 36, 37, 38, 39, 40, 41, 42, 43, 123, 124, 125, 126, 127, 128, 129, 130, 131, 132, 133, 134, 135] (by decide +kernel) (by decide +kernel)
set_option maxRecDepth 20000 in
theorem gX6_carryOut_X6_findFault : GoodIn wsX6_carryOut (wsV RX6 212 RX6 yX6_findFault wsX6_findFault) := goodIn_app (goodIn_of _ (by decide +kernel)) ggX6_carryOut_X6_findFault
set_option maxRecDepth 20000 in
theorem ggX6_carryOut_X6_record : GoodIn wsX6_carryOut wsX6_record := goodIn_r _ [47, 48, 49, 50, 51, 52, 6, 53, 123, 124, 125, 126, 127, 128, 129, 130, 131, 132, 133, 134, 135] (by decide +kernel) (by decide +kernel)
set_option maxRecDepth 20000 in
theorem gX6_carryOut_X6_record : GoodIn wsX6_carryOut (wsV RX6 104 RX6 yX6_record wsX6_record) := goodIn_app (goodIn_of _ (by decide +kernel)) ggX6_carryOut_X6_record
set_option maxRecDepth 20000 in
theorem ggX6_carryOut_X6_readsOrder : GoodIn wsX6_carryOut wsX6_readsOrder := goodIn_r _ [11, 12, 1, 13, 14, 15, 16, 6, 17, 2, 18, 19, 20, 21, 22, 23, 24, 25, 26, 27, 28, 29, 30, 31, 32, 33, 34, 35, 36, 37, 38, 39, 40, 41, 42, 43, 123, 124, 125, 126, 127, 128, 129, 130, 131, 132, 133, 134, 135] (by decide +kernel) (by decide +kernel)
set_option maxRecDepth 20000 in
theorem gX6_carryOut_X6_readsOrder : GoodIn wsX6_carryOut (wsV RX6 209 RX6 yX6_readsOrder wsX6_readsOrder) := goodIn_app (goodIn_of _ (by decide +kernel)) ggX6_carryOut_X6_readsOrder
set_option maxRecDepth 20000 in
theorem ggX6_carryOut_X6_isNext : GoodIn wsX6_carryOut wsX6_isNext := goodIn_r _ [39, 1, 14, 15, 16, 6, 17, 2, 18, 123, 124, 125, 126, 127, 128, 129, 130, 131, 132, 133, 134, 135] (by decide +kernel) (by decide +kernel)
set_option maxRecDepth 20000 in
theorem gX6_carryOut_X6_isNext : GoodIn wsX6_carryOut (wsV RX6 193 RX6 yX6_isNext wsX6_isNext) := goodIn_app (goodIn_of _ (by decide +kernel)) ggX6_carryOut_X6_isNext
set_option maxRecDepth 20000 in
theorem ggX6_carryOut_X6_doesOrder : GoodIn wsX6_carryOut wsX6_doesOrder := goodIn_r _ [57, 13, 28, 58, 59, 60, 6, 61, 23, 12, 62, 63, 64, 65, 66, 50, 67, 68, 69, 70, 33, 34, 35, 71, 72, 73, 74, 75, 76, 77, 78, 79, 80, 81, 82, 83, 84, 85, 86, 87, 88, 89, 90, 91, 92, 93, 94, 95, 96, 97, 98, 99, 100, 101, 102, 103, 104, 105, 106, 107, 108, 109, 110, 111, 112, 113, 114, 115, 116, 117, 118, 119, 120, 121, 122, 123, 124, 125, 126, 127, 128, 129, 130, 131, 132, 133, 134, 135] (by decide +kernel) (by decide +kernel)
set_option maxRecDepth 20000 in
theorem gX6_carryOut_X6_doesOrder : GoodIn wsX6_carryOut (wsV RX6 221 RX6 yX6_doesOrder wsX6_doesOrder) := goodIn_app (goodIn_of _ (by decide +kernel)) ggX6_carryOut_X6_doesOrder
theorem dX6_carryOut_0 : decode cX6_carryOut 0 = .ok (.aload_n 0, 1) := by decide +kernel
theorem dX6_carryOut_1 : decode cX6_carryOut 1 = .ok (.invokevirtual 212, 3) := by decide +kernel
theorem dX6_carryOut_4 : decode cX6_carryOut 4 = .ok (.bipush (-6), 2) := by decide +kernel
theorem dX6_carryOut_6 : decode cX6_carryOut 6 = .ok (.if_icmp .eq 6, 3) := by decide +kernel
theorem dX6_carryOut_9 : decode cX6_carryOut 9 = .ok (.bipush (-3), 2) := by decide +kernel
theorem dX6_carryOut_11 : decode cX6_carryOut 11 = .ok (.ireturn, 1) := by decide +kernel
theorem dX6_carryOut_12 : decode cX6_carryOut 12 = .ok (.aload_n 0, 1) := by decide +kernel
theorem dX6_carryOut_13 : decode cX6_carryOut 13 = .ok (.invokevirtual 104, 3) := by decide +kernel
theorem dX6_carryOut_16 : decode cX6_carryOut 16 = .ok (.iconst 0, 1) := by decide +kernel
theorem dX6_carryOut_17 : decode cX6_carryOut 17 = .ok (.istore_n 1, 1) := by decide +kernel
theorem dX6_carryOut_18 : decode cX6_carryOut 18 = .ok (.aload_n 0, 1) := by decide +kernel
theorem dX6_carryOut_19 : decode cX6_carryOut 19 = .ok (.iconst 0, 1) := by decide +kernel
theorem dX6_carryOut_20 : decode cX6_carryOut 20 = .ok (.putfield 177, 3) := by decide +kernel
theorem dX6_carryOut_23 : decode cX6_carryOut 23 = .ok (.iconst 1, 1) := by decide +kernel
theorem dX6_carryOut_24 : decode cX6_carryOut 24 = .ok (.istore_n 2, 1) := by decide +kernel
theorem dX6_carryOut_25 : decode cX6_carryOut 25 = .ok (.iload_n 2, 1) := by decide +kernel
theorem dX6_carryOut_26 : decode cX6_carryOut 26 = .ok (.ifCond .eq 46, 3) := by decide +kernel
theorem dX6_carryOut_29 : decode cX6_carryOut 29 = .ok (.aload_n 0, 1) := by decide +kernel
theorem dX6_carryOut_30 : decode cX6_carryOut 30 = .ok (.getfield 177, 3) := by decide +kernel
theorem dX6_carryOut_33 : decode cX6_carryOut 33 = .ok (.aload_n 0, 1) := by decide +kernel
theorem dX6_carryOut_34 : decode cX6_carryOut 34 = .ok (.getfield 162, 3) := by decide +kernel
theorem dX6_carryOut_37 : decode cX6_carryOut 37 = .ok (.if_icmp .ge 35, 3) := by decide +kernel
theorem dX6_carryOut_40 : decode cX6_carryOut 40 = .ok (.aload_n 0, 1) := by decide +kernel
theorem dX6_carryOut_41 : decode cX6_carryOut 41 = .ok (.invokevirtual 209, 3) := by decide +kernel
theorem dX6_carryOut_44 : decode cX6_carryOut 44 = .ok (.pop, 1) := by decide +kernel
theorem dX6_carryOut_45 : decode cX6_carryOut 45 = .ok (.aload_n 0, 1) := by decide +kernel
theorem dX6_carryOut_46 : decode cX6_carryOut 46 = .ok (.bipush 59, 2) := by decide +kernel
theorem dX6_carryOut_48 : decode cX6_carryOut 48 = .ok (.invokevirtual 193, 3) := by decide +kernel
theorem dX6_carryOut_51 : decode cX6_carryOut 51 = .ok (.pop, 1) := by decide +kernel
theorem dX6_carryOut_52 : decode cX6_carryOut 52 = .ok (.aload_n 0, 1) := by decide +kernel
theorem dX6_carryOut_53 : decode cX6_carryOut 53 = .ok (.invokevirtual 221, 3) := by decide +kernel
theorem dX6_carryOut_56 : decode cX6_carryOut 56 = .ok (.istore_n 2, 1) := by decide +kernel
theorem dX6_carryOut_57 : decode cX6_carryOut 57 = .ok (.iload_n 1, 1) := by decide +kernel
theorem dX6_carryOut_58 : decode cX6_carryOut 58 = .ok (.iload_n 2, 1) := by decide +kernel
theorem dX6_carryOut_59 : decode cX6_carryOut 59 = .ok (.ifCond .eq 7, 3) := by decide +kernel
theorem dX6_carryOut_62 : decode cX6_carryOut 62 = .ok (.iconst 1, 1) := by decide +kernel
theorem dX6_carryOut_63 : decode cX6_carryOut 63 = .ok (.goto 4, 3) := by decide +kernel
theorem dX6_carryOut_66 : decode cX6_carryOut 66 = .ok (.iconst 0, 1) := by decide +kernel
theorem dX6_carryOut_67 : decode cX6_carryOut 67 = .ok (.iadd, 1) := by decide +kernel
theorem dX6_carryOut_68 : decode cX6_carryOut 68 = .ok (.istore_n 1, 1) := by decide +kernel
theorem dX6_carryOut_69 : decode cX6_carryOut 69 = .ok (.goto (-44), 3) := by decide +kernel
theorem dX6_carryOut_72 : decode cX6_carryOut 72 = .ok (.aload_n 0, 1) := by decide +kernel
theorem dX6_carryOut_73 : decode cX6_carryOut 73 = .ok (.iconst 0, 1) := by decide +kernel
theorem dX6_carryOut_74 : decode cX6_carryOut 74 = .ok (.putfield 162, 3) := by decide +kernel
theorem dX6_carryOut_77 : decode cX6_carryOut 77 = .ok (.iload_n 1, 1) := by decide +kernel
theorem dX6_carryOut_78 : decode cX6_carryOut 78 = .ok (.ireturn, 1) := by decide +kernel
set_option maxRecDepth 20000 in
theorem ggX6_undo_X6_moves : GoodIn wsX6_undo wsX6_moves := goodIn_r _ [7] (by decide +kernel) (by decide +kernel)
set_option maxRecDepth 20000 in
theorem gX6_undo_X6_moves : GoodIn wsX6_undo (va_wsS RX6 35 yX6_moves wsX6_moves) := goodIn_app (goodIn_of _ (by decide +kernel)) ggX6_undo_X6_moves
theorem dX6_undo_0 : decode cX6_undo 0 = .ok (.aload_n 0, 1) := by decide +kernel
theorem dX6_undo_1 : decode cX6_undo 1 = .ok (.getfield 31, 3) := by decide +kernel
theorem dX6_undo_4 : decode cX6_undo 4 = .ok (.ifCond .ne 6, 3) := by decide +kernel
theorem dX6_undo_7 : decode cX6_undo 7 = .ok (.bipush (-5), 2) := by decide +kernel
theorem dX6_undo_9 : decode cX6_undo 9 = .ok (.ireturn, 1) := by decide +kernel
theorem dX6_undo_10 : decode cX6_undo 10 = .ok (.aload_n 0, 1) := by decide +kernel
theorem dX6_undo_11 : decode cX6_undo 11 = .ok (.dup, 1) := by decide +kernel
theorem dX6_undo_12 : decode cX6_undo 12 = .ok (.getfield 31, 3) := by decide +kernel
theorem dX6_undo_15 : decode cX6_undo 15 = .ok (.iconst 1, 1) := by decide +kernel
theorem dX6_undo_16 : decode cX6_undo 16 = .ok (.isub, 1) := by decide +kernel
theorem dX6_undo_17 : decode cX6_undo 17 = .ok (.putfield 31, 3) := by decide +kernel
theorem dX6_undo_20 : decode cX6_undo 20 = .ok (.aload_n 0, 1) := by decide +kernel
theorem dX6_undo_21 : decode cX6_undo 21 = .ok (.getfield 13, 3) := by decide +kernel
theorem dX6_undo_24 : decode cX6_undo 24 = .ok (.aload_n 0, 1) := by decide +kernel
theorem dX6_undo_25 : decode cX6_undo 25 = .ok (.getfield 31, 3) := by decide +kernel
theorem dX6_undo_28 : decode cX6_undo 28 = .ok (.sipush 2628, 3) := by decide +kernel
theorem dX6_undo_31 : decode cX6_undo 31 = .ok (.imul, 1) := by decide +kernel
theorem dX6_undo_32 : decode cX6_undo 32 = .ok (.aload_n 0, 1) := by decide +kernel
theorem dX6_undo_33 : decode cX6_undo 33 = .ok (.getfield 7, 3) := by decide +kernel
theorem dX6_undo_36 : decode cX6_undo 36 = .ok (.iconst 0, 1) := by decide +kernel
theorem dX6_undo_37 : decode cX6_undo 37 = .ok (.invokestatic 35, 3) := by decide +kernel
theorem dX6_undo_40 : decode cX6_undo 40 = .ok (.aload_n 0, 1) := by decide +kernel
theorem dX6_undo_41 : decode cX6_undo 41 = .ok (.getfield 31, 3) := by decide +kernel
theorem dX6_undo_44 : decode cX6_undo 44 = .ok (.ireturn, 1) := by decide +kernel
set_option maxRecDepth 20000 in
theorem ggX6_save_X6_within : GoodIn wsX6_save wsX6_within := goodIn_r _ [7] (by decide +kernel) (by decide +kernel)
set_option maxRecDepth 20000 in
theorem gX6_save_X6_within : GoodIn wsX6_save (va_wsS RX6 39 yX6_within wsX6_within) := goodIn_app (goodIn_of _ (by decide +kernel)) ggX6_save_X6_within
set_option maxRecDepth 20000 in
theorem ggX6_save_X6_moves : GoodIn wsX6_save wsX6_moves := goodIn_r _ [10] (by decide +kernel) (by decide +kernel)
set_option maxRecDepth 20000 in
theorem gX6_save_X6_moves : GoodIn wsX6_save (va_wsS RX6 35 yX6_moves wsX6_moves) := goodIn_app (goodIn_of _ (by decide +kernel)) ggX6_save_X6_moves
theorem dX6_save_0 : decode cX6_save 0 = .ok (.iload_n 1, 1) := by decide +kernel
theorem dX6_save_1 : decode cX6_save 1 = .ok (.iconst 0, 1) := by decide +kernel
theorem dX6_save_2 : decode cX6_save 2 = .ok (.iconst 1, 1) := by decide +kernel
theorem dX6_save_3 : decode cX6_save 3 = .ok (.invokestatic 39, 3) := by decide +kernel
theorem dX6_save_6 : decode cX6_save 6 = .ok (.ifCond .ne 6, 3) := by decide +kernel
theorem dX6_save_9 : decode cX6_save 9 = .ok (.bipush (-2), 2) := by decide +kernel
theorem dX6_save_11 : decode cX6_save 11 = .ok (.ireturn, 1) := by decide +kernel
theorem dX6_save_12 : decode cX6_save 12 = .ok (.aload_n 0, 1) := by decide +kernel
theorem dX6_save_13 : decode cX6_save 13 = .ok (.getfield 7, 3) := by decide +kernel
theorem dX6_save_16 : decode cX6_save 16 = .ok (.iconst 0, 1) := by decide +kernel
theorem dX6_save_17 : decode cX6_save 17 = .ok (.aload_n 0, 1) := by decide +kernel
theorem dX6_save_18 : decode cX6_save 18 = .ok (.getfield 16, 3) := by decide +kernel
theorem dX6_save_21 : decode cX6_save 21 = .ok (.sipush 2628, 3) := by decide +kernel
theorem dX6_save_24 : decode cX6_save 24 = .ok (.iload_n 1, 1) := by decide +kernel
theorem dX6_save_25 : decode cX6_save 25 = .ok (.imul, 1) := by decide +kernel
theorem dX6_save_26 : decode cX6_save 26 = .ok (.invokestatic 35, 3) := by decide +kernel
theorem dX6_save_29 : decode cX6_save 29 = .ok (.aload_n 0, 1) := by decide +kernel
theorem dX6_save_30 : decode cX6_save 30 = .ok (.getfield 19, 3) := by decide +kernel
theorem dX6_save_33 : decode cX6_save 33 = .ok (.iload_n 1, 1) := by decide +kernel
theorem dX6_save_34 : decode cX6_save 34 = .ok (.iconst 1, 1) := by decide +kernel
theorem dX6_save_35 : decode cX6_save 35 = .ok (.iastore, 1) := by decide +kernel
theorem dX6_save_36 : decode cX6_save 36 = .ok (.aload_n 0, 1) := by decide +kernel
theorem dX6_save_37 : decode cX6_save 37 = .ok (.getfield 7, 3) := by decide +kernel
theorem dX6_save_40 : decode cX6_save 40 = .ok (.iconst 3, 1) := by decide +kernel
theorem dX6_save_41 : decode cX6_save 41 = .ok (.iaload, 1) := by decide +kernel
theorem dX6_save_42 : decode cX6_save 42 = .ok (.ireturn, 1) := by decide +kernel
set_option maxRecDepth 20000 in
theorem ggX6_restore_X6_within : GoodIn wsX6_restore wsX6_within := goodIn_r _ [7] (by decide +kernel) (by decide +kernel)
set_option maxRecDepth 20000 in
theorem gX6_restore_X6_within : GoodIn wsX6_restore (va_wsS RX6 39 yX6_within wsX6_within) := goodIn_app (goodIn_of _ (by decide +kernel)) ggX6_restore_X6_within
set_option maxRecDepth 20000 in
theorem ggX6_restore_X6_record : GoodIn wsX6_restore wsX6_record := goodIn_r _ [11, 12, 13, 3, 14, 15, 6, 16, 17, 18, 19, 20, 21, 22, 23, 24, 25, 26, 27, 28, 29] (by decide +kernel) (by decide +kernel)
set_option maxRecDepth 20000 in
theorem gX6_restore_X6_record : GoodIn wsX6_restore (wsV RX6 104 RX6 yX6_record wsX6_record) := goodIn_app (goodIn_of _ (by decide +kernel)) ggX6_restore_X6_record
set_option maxRecDepth 20000 in
theorem ggX6_restore_X6_moves : GoodIn wsX6_restore wsX6_moves := goodIn_r _ [16] (by decide +kernel) (by decide +kernel)
set_option maxRecDepth 20000 in
theorem gX6_restore_X6_moves : GoodIn wsX6_restore (va_wsS RX6 35 yX6_moves wsX6_moves) := goodIn_app (goodIn_of _ (by decide +kernel)) ggX6_restore_X6_moves
theorem dX6_restore_0 : decode cX6_restore 0 = .ok (.iload_n 1, 1) := by decide +kernel
theorem dX6_restore_1 : decode cX6_restore 1 = .ok (.iconst 0, 1) := by decide +kernel
theorem dX6_restore_2 : decode cX6_restore 2 = .ok (.iconst 1, 1) := by decide +kernel
theorem dX6_restore_3 : decode cX6_restore 3 = .ok (.invokestatic 39, 3) := by decide +kernel
theorem dX6_restore_6 : decode cX6_restore 6 = .ok (.ifCond .ne 6, 3) := by decide +kernel
theorem dX6_restore_9 : decode cX6_restore 9 = .ok (.bipush (-2), 2) := by decide +kernel
theorem dX6_restore_11 : decode cX6_restore 11 = .ok (.ireturn, 1) := by decide +kernel
theorem dX6_restore_12 : decode cX6_restore 12 = .ok (.aload_n 0, 1) := by decide +kernel
theorem dX6_restore_13 : decode cX6_restore 13 = .ok (.getfield 19, 3) := by decide +kernel
theorem dX6_restore_16 : decode cX6_restore 16 = .ok (.iload_n 1, 1) := by decide +kernel
theorem dX6_restore_17 : decode cX6_restore 17 = .ok (.iaload, 1) := by decide +kernel
theorem dX6_restore_18 : decode cX6_restore 18 = .ok (.ifCond .ne 6, 3) := by decide +kernel
theorem dX6_restore_21 : decode cX6_restore 21 = .ok (.bipush (-5), 2) := by decide +kernel
theorem dX6_restore_23 : decode cX6_restore 23 = .ok (.ireturn, 1) := by decide +kernel
theorem dX6_restore_24 : decode cX6_restore 24 = .ok (.aload_n 0, 1) := by decide +kernel
theorem dX6_restore_25 : decode cX6_restore 25 = .ok (.invokevirtual 104, 3) := by decide +kernel
theorem dX6_restore_28 : decode cX6_restore 28 = .ok (.aload_n 0, 1) := by decide +kernel
theorem dX6_restore_29 : decode cX6_restore 29 = .ok (.getfield 16, 3) := by decide +kernel
theorem dX6_restore_32 : decode cX6_restore 32 = .ok (.sipush 2628, 3) := by decide +kernel
theorem dX6_restore_35 : decode cX6_restore 35 = .ok (.iload_n 1, 1) := by decide +kernel
theorem dX6_restore_36 : decode cX6_restore 36 = .ok (.imul, 1) := by decide +kernel
theorem dX6_restore_37 : decode cX6_restore 37 = .ok (.aload_n 0, 1) := by decide +kernel
theorem dX6_restore_38 : decode cX6_restore 38 = .ok (.getfield 7, 3) := by decide +kernel
theorem dX6_restore_41 : decode cX6_restore 41 = .ok (.iconst 0, 1) := by decide +kernel
theorem dX6_restore_42 : decode cX6_restore 42 = .ok (.invokestatic 35, 3) := by decide +kernel
theorem dX6_restore_45 : decode cX6_restore 45 = .ok (.aload_n 0, 1) := by decide +kernel
theorem dX6_restore_46 : decode cX6_restore 46 = .ok (.getfield 7, 3) := by decide +kernel
theorem dX6_restore_49 : decode cX6_restore 49 = .ok (.iconst 3, 1) := by decide +kernel
theorem dX6_restore_50 : decode cX6_restore 50 = .ok (.iaload, 1) := by decide +kernel
theorem dX6_restore_51 : decode cX6_restore 51 = .ok (.ireturn, 1) := by decide +kernel
theorem dJ6_bitCount_0f7a4_0 : decode cJ6_bitCount_0f7a4 0 = .ok (.iload_n 0, 1) := by decide +kernel
theorem dJ6_bitCount_0f7a4_1 : decode cJ6_bitCount_0f7a4 1 = .ok (.iload_n 0, 1) := by decide +kernel
theorem dJ6_bitCount_0f7a4_2 : decode cJ6_bitCount_0f7a4 2 = .ok (.iconst 1, 1) := by decide +kernel
theorem dJ6_bitCount_0f7a4_3 : decode cJ6_bitCount_0f7a4 3 = .ok (.iushr, 1) := by decide +kernel
theorem dJ6_bitCount_0f7a4_4 : decode cJ6_bitCount_0f7a4 4 = .ok (.ldc_w 265, 3) := by decide +kernel
theorem dJ6_bitCount_0f7a4_7 : decode cJ6_bitCount_0f7a4 7 = .ok (.iand, 1) := by decide +kernel
theorem dJ6_bitCount_0f7a4_8 : decode cJ6_bitCount_0f7a4 8 = .ok (.isub, 1) := by decide +kernel
theorem dJ6_bitCount_0f7a4_9 : decode cJ6_bitCount_0f7a4 9 = .ok (.istore_n 0, 1) := by decide +kernel
theorem dJ6_bitCount_0f7a4_10 : decode cJ6_bitCount_0f7a4 10 = .ok (.iload_n 0, 1) := by decide +kernel
theorem dJ6_bitCount_0f7a4_11 : decode cJ6_bitCount_0f7a4 11 = .ok (.ldc_w 266, 3) := by decide +kernel
theorem dJ6_bitCount_0f7a4_14 : decode cJ6_bitCount_0f7a4 14 = .ok (.iand, 1) := by decide +kernel
theorem dJ6_bitCount_0f7a4_15 : decode cJ6_bitCount_0f7a4 15 = .ok (.iload_n 0, 1) := by decide +kernel
theorem dJ6_bitCount_0f7a4_16 : decode cJ6_bitCount_0f7a4 16 = .ok (.iconst 2, 1) := by decide +kernel
theorem dJ6_bitCount_0f7a4_17 : decode cJ6_bitCount_0f7a4 17 = .ok (.iushr, 1) := by decide +kernel
theorem dJ6_bitCount_0f7a4_18 : decode cJ6_bitCount_0f7a4 18 = .ok (.ldc_w 266, 3) := by decide +kernel
theorem dJ6_bitCount_0f7a4_21 : decode cJ6_bitCount_0f7a4 21 = .ok (.iand, 1) := by decide +kernel
theorem dJ6_bitCount_0f7a4_22 : decode cJ6_bitCount_0f7a4 22 = .ok (.iadd, 1) := by decide +kernel
theorem dJ6_bitCount_0f7a4_23 : decode cJ6_bitCount_0f7a4 23 = .ok (.istore_n 0, 1) := by decide +kernel
theorem dJ6_bitCount_0f7a4_24 : decode cJ6_bitCount_0f7a4 24 = .ok (.iload_n 0, 1) := by decide +kernel
theorem dJ6_bitCount_0f7a4_25 : decode cJ6_bitCount_0f7a4 25 = .ok (.iload_n 0, 1) := by decide +kernel
theorem dJ6_bitCount_0f7a4_26 : decode cJ6_bitCount_0f7a4 26 = .ok (.iconst 4, 1) := by decide +kernel
theorem dJ6_bitCount_0f7a4_27 : decode cJ6_bitCount_0f7a4 27 = .ok (.iushr, 1) := by decide +kernel
theorem dJ6_bitCount_0f7a4_28 : decode cJ6_bitCount_0f7a4 28 = .ok (.iadd, 1) := by decide +kernel
theorem dJ6_bitCount_0f7a4_29 : decode cJ6_bitCount_0f7a4 29 = .ok (.ldc_w 267, 3) := by decide +kernel
theorem dJ6_bitCount_0f7a4_32 : decode cJ6_bitCount_0f7a4 32 = .ok (.iand, 1) := by decide +kernel
theorem dJ6_bitCount_0f7a4_33 : decode cJ6_bitCount_0f7a4 33 = .ok (.istore_n 0, 1) := by decide +kernel
theorem dJ6_bitCount_0f7a4_34 : decode cJ6_bitCount_0f7a4 34 = .ok (.iload_n 0, 1) := by decide +kernel
theorem dJ6_bitCount_0f7a4_35 : decode cJ6_bitCount_0f7a4 35 = .ok (.iload_n 0, 1) := by decide +kernel
theorem dJ6_bitCount_0f7a4_36 : decode cJ6_bitCount_0f7a4 36 = .ok (.bipush 8, 2) := by decide +kernel
theorem dJ6_bitCount_0f7a4_38 : decode cJ6_bitCount_0f7a4 38 = .ok (.iushr, 1) := by decide +kernel
theorem dJ6_bitCount_0f7a4_39 : decode cJ6_bitCount_0f7a4 39 = .ok (.iadd, 1) := by decide +kernel
theorem dJ6_bitCount_0f7a4_40 : decode cJ6_bitCount_0f7a4 40 = .ok (.istore_n 0, 1) := by decide +kernel
theorem dJ6_bitCount_0f7a4_41 : decode cJ6_bitCount_0f7a4 41 = .ok (.iload_n 0, 1) := by decide +kernel
theorem dJ6_bitCount_0f7a4_42 : decode cJ6_bitCount_0f7a4 42 = .ok (.iload_n 0, 1) := by decide +kernel
theorem dJ6_bitCount_0f7a4_43 : decode cJ6_bitCount_0f7a4 43 = .ok (.bipush 16, 2) := by decide +kernel
theorem dJ6_bitCount_0f7a4_45 : decode cJ6_bitCount_0f7a4 45 = .ok (.iushr, 1) := by decide +kernel
theorem dJ6_bitCount_0f7a4_46 : decode cJ6_bitCount_0f7a4 46 = .ok (.iadd, 1) := by decide +kernel
theorem dJ6_bitCount_0f7a4_47 : decode cJ6_bitCount_0f7a4 47 = .ok (.istore_n 0, 1) := by decide +kernel
theorem dJ6_bitCount_0f7a4_48 : decode cJ6_bitCount_0f7a4 48 = .ok (.iload_n 0, 1) := by decide +kernel
theorem dJ6_bitCount_0f7a4_49 : decode cJ6_bitCount_0f7a4 49 = .ok (.bipush 63, 2) := by decide +kernel
theorem dJ6_bitCount_0f7a4_51 : decode cJ6_bitCount_0f7a4 51 = .ok (.iand, 1) := by decide +kernel
theorem dJ6_bitCount_0f7a4_52 : decode cJ6_bitCount_0f7a4 52 = .ok (.ireturn, 1) := by decide +kernel
theorem dJ9_abs_0f7a4_0 : decode cJ9_abs_0f7a4 0 = .ok (.iload_n 0, 1) := by decide +kernel
theorem dJ9_abs_0f7a4_1 : decode cJ9_abs_0f7a4 1 = .ok (.ifCond .ge 8, 3) := by decide +kernel
theorem dJ9_abs_0f7a4_4 : decode cJ9_abs_0f7a4 4 = .ok (.iload_n 0, 1) := by decide +kernel
theorem dJ9_abs_0f7a4_5 : decode cJ9_abs_0f7a4 5 = .ok (.ineg, 1) := by decide +kernel
theorem dJ9_abs_0f7a4_6 : decode cJ9_abs_0f7a4 6 = .ok (.goto 4, 3) := by decide +kernel
theorem dJ9_abs_0f7a4_9 : decode cJ9_abs_0f7a4 9 = .ok (.iload_n 0, 1) := by decide +kernel
theorem dJ9_abs_0f7a4_10 : decode cJ9_abs_0f7a4 10 = .ok (.ireturn, 1) := by decide +kernel
theorem dJ9_max_7cf53_0 : decode cJ9_max_7cf53 0 = .ok (.iload_n 0, 1) := by decide +kernel
theorem dJ9_max_7cf53_1 : decode cJ9_max_7cf53 1 = .ok (.iload_n 1, 1) := by decide +kernel
theorem dJ9_max_7cf53_2 : decode cJ9_max_7cf53 2 = .ok (.if_icmp .lt 7, 3) := by decide +kernel
theorem dJ9_max_7cf53_5 : decode cJ9_max_7cf53 5 = .ok (.iload_n 0, 1) := by decide +kernel
theorem dJ9_max_7cf53_6 : decode cJ9_max_7cf53 6 = .ok (.goto 4, 3) := by decide +kernel
theorem dJ9_max_7cf53_9 : decode cJ9_max_7cf53 9 = .ok (.iload_n 1, 1) := by decide +kernel
theorem dJ9_max_7cf53_10 : decode cJ9_max_7cf53 10 = .ok (.ireturn, 1) := by decide +kernel
theorem dJ9_min_7cf53_0 : decode cJ9_min_7cf53 0 = .ok (.iload_n 0, 1) := by decide +kernel
theorem dJ9_min_7cf53_1 : decode cJ9_min_7cf53 1 = .ok (.iload_n 1, 1) := by decide +kernel
theorem dJ9_min_7cf53_2 : decode cJ9_min_7cf53 2 = .ok (.if_icmp .gt 7, 3) := by decide +kernel
theorem dJ9_min_7cf53_5 : decode cJ9_min_7cf53 5 = .ok (.iload_n 0, 1) := by decide +kernel
theorem dJ9_min_7cf53_6 : decode cJ9_min_7cf53 6 = .ok (.goto 4, 3) := by decide +kernel
theorem dJ9_min_7cf53_9 : decode cJ9_min_7cf53 9 = .ok (.iload_n 1, 1) := by decide +kernel
theorem dJ9_min_7cf53_10 : decode cJ9_min_7cf53 10 = .ok (.ireturn, 1) := by decide +kernel
abbrev vwCl : List vw_C := [(RX0, TX0, 3), (RX1, TX1, 3), (RX2, TX2, 11), (RX3, TX3, 9), (RX4, TX4, 4), (RX5, TX5, 7), (RX6, TX6, 13)]
/-! ===== END printed: names (the pool that follows in NAMES.whole is left out: it holds a word that rows may not hold, and is not used) ===== -/
