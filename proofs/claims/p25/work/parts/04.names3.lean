theorem dX6_cell_5 : decode cX6_cell 5 = .ok (.invokevirtual 87, 3) := by decide +kernel
theorem dX6_cell_8 : decode cX6_cell 8 = .ok (.ifCond .ne 5, 3) := by decide +kernel
theorem dX6_cell_11 : decode cX6_cell 11 = .ok (.iconst (-1), 1) := by decide +kernel
theorem dX6_cell_12 : decode cX6_cell 12 = .ok (.ireturn, 1) := by decide +kernel
theorem dX6_cell_13 : decode cX6_cell 13 = .ok (.iload_n 2, 1) := by decide +kernel
theorem dX6_cell_14 : decode cX6_cell 14 = .ok (.tableswitch 98 0 5 #[38, 50, 62, 71, 80, 89], 38) := by decide +kernel
theorem dX6_cell_52 : decode cX6_cell 52 = .ok (.aload_n 0, 1) := by decide +kernel
theorem dX6_cell_53 : decode cX6_cell 53 = .ok (.getfield 12, 3) := by decide +kernel
theorem dX6_cell_56 : decode cX6_cell 56 = .ok (.getfield 154, 3) := by decide +kernel
theorem dX6_cell_59 : decode cX6_cell 59 = .ok (.iload_n 1, 1) := by decide +kernel
theorem dX6_cell_60 : decode cX6_cell 60 = .ok (.invokestatic 100, 3) := by decide +kernel
theorem dX6_cell_63 : decode cX6_cell 63 = .ok (.ireturn, 1) := by decide +kernel
theorem dX6_cell_64 : decode cX6_cell 64 = .ok (.aload_n 0, 1) := by decide +kernel
theorem dX6_cell_65 : decode cX6_cell 65 = .ok (.getfield 12, 3) := by decide +kernel
theorem dX6_cell_68 : decode cX6_cell 68 = .ok (.getfield 157, 3) := by decide +kernel
theorem dX6_cell_71 : decode cX6_cell 71 = .ok (.iload_n 1, 1) := by decide +kernel
theorem dX6_cell_72 : decode cX6_cell 72 = .ok (.invokestatic 100, 3) := by decide +kernel
theorem dX6_cell_75 : decode cX6_cell 75 = .ok (.ireturn, 1) := by decide +kernel
theorem dX6_cell_76 : decode cX6_cell 76 = .ok (.aload_n 0, 1) := by decide +kernel
theorem dX6_cell_77 : decode cX6_cell 77 = .ok (.getfield 12, 3) := by decide +kernel
theorem dX6_cell_80 : decode cX6_cell 80 = .ok (.iload_n 1, 1) := by decide +kernel
theorem dX6_cell_81 : decode cX6_cell 81 = .ok (.invokevirtual 160, 3) := by decide +kernel
theorem dX6_cell_84 : decode cX6_cell 84 = .ok (.ireturn, 1) := by decide +kernel
theorem dX6_cell_85 : decode cX6_cell 85 = .ok (.aload_n 0, 1) := by decide +kernel
theorem dX6_cell_86 : decode cX6_cell 86 = .ok (.getfield 12, 3) := by decide +kernel
theorem dX6_cell_89 : decode cX6_cell 89 = .ok (.iload_n 1, 1) := by decide +kernel
theorem dX6_cell_90 : decode cX6_cell 90 = .ok (.invokevirtual 163, 3) := by decide +kernel
theorem dX6_cell_93 : decode cX6_cell 93 = .ok (.ireturn, 1) := by decide +kernel
theorem dX6_cell_94 : decode cX6_cell 94 = .ok (.aload_n 0, 1) := by decide +kernel
theorem dX6_cell_95 : decode cX6_cell 95 = .ok (.getfield 12, 3) := by decide +kernel
theorem dX6_cell_98 : decode cX6_cell 98 = .ok (.iload_n 1, 1) := by decide +kernel
theorem dX6_cell_99 : decode cX6_cell 99 = .ok (.invokevirtual 166, 3) := by decide +kernel
theorem dX6_cell_102 : decode cX6_cell 102 = .ok (.ireturn, 1) := by decide +kernel
theorem dX6_cell_103 : decode cX6_cell 103 = .ok (.aload_n 0, 1) := by decide +kernel
theorem dX6_cell_104 : decode cX6_cell 104 = .ok (.getfield 12, 3) := by decide +kernel
theorem dX6_cell_107 : decode cX6_cell 107 = .ok (.iload_n 1, 1) := by decide +kernel
theorem dX6_cell_108 : decode cX6_cell 108 = .ok (.invokevirtual 123, 3) := by decide +kernel
theorem dX6_cell_111 : decode cX6_cell 111 = .ok (.ireturn, 1) := by decide +kernel
theorem dX6_cell_112 : decode cX6_cell 112 = .ok (.bipush (-2), 2) := by decide +kernel
theorem dX6_cell_114 : decode cX6_cell 114 = .ok (.ireturn, 1) := by decide +kernel
set_option maxRecDepth 20000 in
theorem ggX6_count_X4_cells : GoodIn wsX6_count wsX4_cells := goodIn_r _ [7, 8, 9, 10, 11, 12, 111, 112, 113, 114, 115, 116, 117, 118, 119] (by decide +kernel) (by decide +kernel)
set_option maxRecDepth 20000 in
theorem gX6_count_X4_cells_n169 : GoodIn wsX6_count (wsX4_cells) := ggX6_count_X4_cells
set_option maxRecDepth 20000 in
theorem ggX6_count_X6_loadedBlocks : GoodIn wsX6_count wsX6_loadedBlocks := goodIn_r _ [16, 1, 17, 18, 19, 11, 20, 21, 22, 23, 24, 25, 26, 27, 28, 5, 29, 30, 8, 10, 12, 31, 32, 33, 34, 35, 36, 37, 38, 39, 40, 41, 42, 43, 44, 45, 46, 47, 48, 49, 50, 51, 52, 53, 54, 55, 56, 57, 58, 59, 60, 61, 62, 63, 64, 65, 66, 67, 68, 69, 70, 71, 72, 73, 74, 75, 76, 77, 78, 79, 80, 81, 82, 83, 84, 85, 86, 87, 88, 89, 90, 91, 92, 93, 94, 104, 105, 106, 107, 108, 109, 110, 111, 112, 113, 114, 115, 116, 117, 118, 119, 134, 135, 136, 137, 138, 139] (by decide +kernel) (by decide +kernel)
set_option maxRecDepth 20000 in
theorem gX6_count_X6_loadedBlocks : GoodIn wsX6_count (wsV RX6 173 RX6 yX6_loadedBlocks wsX6_loadedBlocks) := goodIn_app (goodIn_of _ (by decide +kernel)) ggX6_count_X6_loadedBlocks
set_option maxRecDepth 20000 in
theorem ggX6_count_X4_silentCells : GoodIn wsX6_count wsX4_silentCells := goodIn_r _ [97, 98, 99, 4, 6, 5, 7, 8, 9, 10, 11, 12, 100, 65, 66, 67, 68, 111, 112, 113, 114, 115, 116, 117, 118, 119] (by decide +kernel) (by decide +kernel)
set_option maxRecDepth 20000 in
theorem gX6_count_X4_silentCells_n177 : GoodIn wsX6_count (wsX4_silentCells) := ggX6_count_X4_silentCells
set_option maxRecDepth 20000 in
theorem ggX6_count_X4_badCells : GoodIn wsX6_count wsX4_badCells := goodIn_r _ [103, 58, 99, 4, 6, 5, 7, 8, 9, 10, 11, 12, 111, 112, 113, 114, 115, 116, 117, 118, 119] (by decide +kernel) (by decide +kernel)
set_option maxRecDepth 20000 in
theorem gX6_count_X4_badCells_n180 : GoodIn wsX6_count (wsX4_badCells) := ggX6_count_X4_badCells
set_option maxRecDepth 20000 in
theorem ggX6_count_X4_setting : GoodIn wsX6_count wsX4_setting := goodIn_r _ [67, 68, 10, 11, 12, 111, 112, 113, 114, 115, 116, 117, 118, 119] (by decide +kernel) (by decide +kernel)
set_option maxRecDepth 20000 in
theorem gX6_count_X4_setting_n59 : GoodIn wsX6_count (wsX4_setting) := ggX6_count_X4_setting
theorem dX6_count_0 : decode cX6_count 0 = .ok (.iload_n 1, 1) := by decide +kernel
theorem dX6_count_1 : decode cX6_count 1 = .ok (.tableswitch 146 0 10 #[59, 67, 75, 81, 87, 95, 103, 112, 121, 130, 138], 59) := by decide +kernel
theorem dX6_count_60 : decode cX6_count 60 = .ok (.aload_n 0, 1) := by decide +kernel
theorem dX6_count_61 : decode cX6_count 61 = .ok (.getfield 12, 3) := by decide +kernel
theorem dX6_count_64 : decode cX6_count 64 = .ok (.getfield 77, 3) := by decide +kernel
theorem dX6_count_67 : decode cX6_count 67 = .ok (.ireturn, 1) := by decide +kernel
theorem dX6_count_68 : decode cX6_count 68 = .ok (.aload_n 0, 1) := by decide +kernel
theorem dX6_count_69 : decode cX6_count 69 = .ok (.getfield 12, 3) := by decide +kernel
theorem dX6_count_72 : decode cX6_count 72 = .ok (.invokevirtual 169, 3) := by decide +kernel
theorem dX6_count_75 : decode cX6_count 75 = .ok (.ireturn, 1) := by decide +kernel
theorem dX6_count_76 : decode cX6_count 76 = .ok (.aload_n 0, 1) := by decide +kernel
theorem dX6_count_77 : decode cX6_count 77 = .ok (.iconst 0, 1) := by decide +kernel
theorem dX6_count_78 : decode cX6_count 78 = .ok (.invokevirtual 173, 3) := by decide +kernel
theorem dX6_count_81 : decode cX6_count 81 = .ok (.ireturn, 1) := by decide +kernel
theorem dX6_count_82 : decode cX6_count 82 = .ok (.aload_n 0, 1) := by decide +kernel
theorem dX6_count_83 : decode cX6_count 83 = .ok (.iconst 1, 1) := by decide +kernel
theorem dX6_count_84 : decode cX6_count 84 = .ok (.invokevirtual 173, 3) := by decide +kernel
theorem dX6_count_87 : decode cX6_count 87 = .ok (.ireturn, 1) := by decide +kernel
theorem dX6_count_88 : decode cX6_count 88 = .ok (.aload_n 0, 1) := by decide +kernel
theorem dX6_count_89 : decode cX6_count 89 = .ok (.getfield 12, 3) := by decide +kernel
theorem dX6_count_92 : decode cX6_count 92 = .ok (.invokevirtual 177, 3) := by decide +kernel
theorem dX6_count_95 : decode cX6_count 95 = .ok (.ireturn, 1) := by decide +kernel
theorem dX6_count_96 : decode cX6_count 96 = .ok (.aload_n 0, 1) := by decide +kernel
theorem dX6_count_97 : decode cX6_count 97 = .ok (.getfield 12, 3) := by decide +kernel
theorem dX6_count_100 : decode cX6_count 100 = .ok (.invokevirtual 180, 3) := by decide +kernel
theorem dX6_count_103 : decode cX6_count 103 = .ok (.ireturn, 1) := by decide +kernel
theorem dX6_count_104 : decode cX6_count 104 = .ok (.aload_n 0, 1) := by decide +kernel
theorem dX6_count_105 : decode cX6_count 105 = .ok (.getfield 12, 3) := by decide +kernel
theorem dX6_count_108 : decode cX6_count 108 = .ok (.iconst 0, 1) := by decide +kernel
theorem dX6_count_109 : decode cX6_count 109 = .ok (.invokevirtual 59, 3) := by decide +kernel
theorem dX6_count_112 : decode cX6_count 112 = .ok (.ireturn, 1) := by decide +kernel
theorem dX6_count_113 : decode cX6_count 113 = .ok (.aload_n 0, 1) := by decide +kernel
theorem dX6_count_114 : decode cX6_count 114 = .ok (.getfield 12, 3) := by decide +kernel
theorem dX6_count_117 : decode cX6_count 117 = .ok (.iconst 1, 1) := by decide +kernel
theorem dX6_count_118 : decode cX6_count 118 = .ok (.invokevirtual 59, 3) := by decide +kernel
theorem dX6_count_121 : decode cX6_count 121 = .ok (.ireturn, 1) := by decide +kernel
theorem dX6_count_122 : decode cX6_count 122 = .ok (.aload_n 0, 1) := by decide +kernel
theorem dX6_count_123 : decode cX6_count 123 = .ok (.getfield 12, 3) := by decide +kernel
theorem dX6_count_126 : decode cX6_count 126 = .ok (.iconst 2, 1) := by decide +kernel
theorem dX6_count_127 : decode cX6_count 127 = .ok (.invokevirtual 59, 3) := by decide +kernel
theorem dX6_count_130 : decode cX6_count 130 = .ok (.ireturn, 1) := by decide +kernel
theorem dX6_count_131 : decode cX6_count 131 = .ok (.aload_n 0, 1) := by decide +kernel
theorem dX6_count_132 : decode cX6_count 132 = .ok (.getfield 26, 3) := by decide +kernel
theorem dX6_count_135 : decode cX6_count 135 = .ok (.getfield 183, 3) := by decide +kernel
theorem dX6_count_138 : decode cX6_count 138 = .ok (.ireturn, 1) := by decide +kernel
theorem dX6_count_139 : decode cX6_count 139 = .ok (.aload_n 0, 1) := by decide +kernel
theorem dX6_count_140 : decode cX6_count 140 = .ok (.getfield 33, 3) := by decide +kernel
theorem dX6_count_143 : decode cX6_count 143 = .ok (.getfield 186, 3) := by decide +kernel
theorem dX6_count_146 : decode cX6_count 146 = .ok (.ireturn, 1) := by decide +kernel
theorem dX6_count_147 : decode cX6_count 147 = .ok (.bipush (-2), 2) := by decide +kernel
theorem dX6_count_149 : decode cX6_count 149 = .ok (.ireturn, 1) := by decide +kernel
set_option maxRecDepth 20000 in
theorem ggX6_reached_X6_valueAt : GoodIn wsX6_reached wsX6_valueAt := goodIn_r _ [5] (by decide +kernel) (by decide +kernel)
set_option maxRecDepth 20000 in
theorem gX6_reached_X6_valueAt : GoodIn wsX6_reached (va_wsS RX6 100 yX6_valueAt wsX6_valueAt) := goodIn_app (goodIn_of _ (by decide +kernel)) ggX6_reached_X6_valueAt
set_option maxRecDepth 20000 in
theorem ggX6_reached_X6_holds : GoodIn wsX6_reached wsX6_holds := goodIn_r _ [8] (by decide +kernel) (by decide +kernel)
set_option maxRecDepth 20000 in
theorem gX6_reached_X6_holds : GoodIn wsX6_reached (va_wsS RX6 189 yX6_holds wsX6_holds) := goodIn_app (goodIn_of _ (by decide +kernel)) ggX6_reached_X6_holds
set_option maxRecDepth 20000 in
theorem ggX6_reached_X6_wayOfLoading : GoodIn wsX6_reached wsX6_wayOfLoading := goodIn_r _ [12, 13, 1, 14, 15, 16, 17, 18, 19, 20, 21, 22, 23, 24, 3, 4, 5, 25, 26, 27, 28, 29, 30, 31, 32, 33, 34, 35, 36, 37, 38, 39, 40, 41, 42, 43, 44, 45, 46, 47, 48, 49, 50, 51, 52, 53, 54, 55, 56, 57, 58, 59, 60, 61, 62, 63, 64, 65, 66, 67, 68, 69, 70, 71, 72, 73, 74, 75, 76, 77, 78, 79, 80, 81, 82, 83, 84, 85, 86, 87, 88, 89, 90, 91, 92, 93, 94, 95, 96, 97, 98, 99, 100, 101, 102, 103, 104, 105, 106, 107, 108, 109, 110] (by decide +kernel) (by decide +kernel)
set_option maxRecDepth 20000 in
theorem gX6_reached_X6_wayOfLoading : GoodIn wsX6_reached (wsV RX6 117 RX6 yX6_wayOfLoading wsX6_wayOfLoading) := goodIn_app (goodIn_of _ (by decide +kernel)) ggX6_reached_X6_wayOfLoading
theorem dX6_reached_0 : decode cX6_reached 0 = .ok (.iconst 0, 1) := by decide +kernel
theorem dX6_reached_1 : decode cX6_reached 1 = .ok (.istore_n 1, 1) := by decide +kernel
theorem dX6_reached_2 : decode cX6_reached 2 = .ok (.iconst 0, 1) := by decide +kernel
theorem dX6_reached_3 : decode cX6_reached 3 = .ok (.istore_n 2, 1) := by decide +kernel
theorem dX6_reached_4 : decode cX6_reached 4 = .ok (.iload_n 2, 1) := by decide +kernel
theorem dX6_reached_5 : decode cX6_reached 5 = .ok (.aload_n 0, 1) := by decide +kernel
theorem dX6_reached_6 : decode cX6_reached 6 = .ok (.getfield 12, 3) := by decide +kernel
theorem dX6_reached_9 : decode cX6_reached 9 = .ok (.getfield 77, 3) := by decide +kernel
theorem dX6_reached_12 : decode cX6_reached 12 = .ok (.if_icmp .ge 51, 3) := by decide +kernel
theorem dX6_reached_15 : decode cX6_reached 15 = .ok (.aload_n 0, 1) := by decide +kernel
theorem dX6_reached_16 : decode cX6_reached 16 = .ok (.getfield 12, 3) := by decide +kernel
theorem dX6_reached_19 : decode cX6_reached 19 = .ok (.getfield 104, 3) := by decide +kernel
theorem dX6_reached_22 : decode cX6_reached 22 = .ok (.iload_n 2, 1) := by decide +kernel
theorem dX6_reached_23 : decode cX6_reached 23 = .ok (.invokestatic 100, 3) := by decide +kernel
theorem dX6_reached_26 : decode cX6_reached 26 = .ok (.istore_n 3, 1) := by decide +kernel
theorem dX6_reached_27 : decode cX6_reached 27 = .ok (.iload_n 3, 1) := by decide +kernel
theorem dX6_reached_28 : decode cX6_reached 28 = .ok (.bipush (-6), 2) := by decide +kernel
theorem dX6_reached_30 : decode cX6_reached 30 = .ok (.if_icmp .eq 11, 3) := by decide +kernel
theorem dX6_reached_33 : decode cX6_reached 33 = .ok (.iload_n 1, 1) := by decide +kernel
theorem dX6_reached_34 : decode cX6_reached 34 = .ok (.iload_n 3, 1) := by decide +kernel
theorem dX6_reached_35 : decode cX6_reached 35 = .ok (.invokestatic 189, 3) := by decide +kernel
theorem dX6_reached_38 : decode cX6_reached 38 = .ok (.ifCond .eq 19, 3) := by decide +kernel
theorem dX6_reached_41 : decode cX6_reached 41 = .ok (.aload_n 0, 1) := by decide +kernel
theorem dX6_reached_42 : decode cX6_reached 42 = .ok (.iload_n 2, 1) := by decide +kernel
theorem dX6_reached_43 : decode cX6_reached 43 = .ok (.invokevirtual 117, 3) := by decide +kernel
theorem dX6_reached_46 : decode cX6_reached 46 = .ok (.bipush (-6), 2) := by decide +kernel
theorem dX6_reached_48 : decode cX6_reached 48 = .ok (.if_icmp .eq 9, 3) := by decide +kernel
theorem dX6_reached_51 : decode cX6_reached 51 = .ok (.iload_n 1, 1) := by decide +kernel
theorem dX6_reached_52 : decode cX6_reached 52 = .ok (.iconst 1, 1) := by decide +kernel
theorem dX6_reached_53 : decode cX6_reached 53 = .ok (.iload_n 2, 1) := by decide +kernel
theorem dX6_reached_54 : decode cX6_reached 54 = .ok (.ishl, 1) := by decide +kernel
theorem dX6_reached_55 : decode cX6_reached 55 = .ok (.ior, 1) := by decide +kernel
theorem dX6_reached_56 : decode cX6_reached 56 = .ok (.istore_n 1, 1) := by decide +kernel
theorem dX6_reached_57 : decode cX6_reached 57 = .ok (.iinc 2 1, 3) := by decide +kernel
theorem dX6_reached_60 : decode cX6_reached 60 = .ok (.goto (-56), 3) := by decide +kernel
theorem dX6_reached_63 : decode cX6_reached 63 = .ok (.iload_n 1, 1) := by decide +kernel
theorem dX6_reached_64 : decode cX6_reached 64 = .ok (.ireturn, 1) := by decide +kernel
set_option maxRecDepth 20000 in
theorem ggX6_near_X4_nearerBlocks : GoodIn wsX6_near wsX4_nearerBlocks := goodIn_r _ [5, 6, 7, 8, 9, 3, 10, 11, 12, 13, 14, 15, 16, 17, 18, 19, 20, 21, 22, 23, 24, 25, 26, 27, 28, 29, 30, 31, 32, 33, 34, 42, 43, 44, 45, 46, 47, 48, 49, 50] (by decide +kernel) (by decide +kernel)
set_option maxRecDepth 20000 in
theorem gX6_near_X4_nearerBlocks_n192 : GoodIn wsX6_near (wsX4_nearerBlocks) := ggX6_near_X4_nearerBlocks
theorem dX6_near_0 : decode cX6_near 0 = .ok (.iload_n 2, 1) := by decide +kernel
theorem dX6_near_1 : decode cX6_near 1 = .ok (.ifCond .lt 14, 3) := by decide +kernel
theorem dX6_near_4 : decode cX6_near 4 = .ok (.iload_n 2, 1) := by decide +kernel
theorem dX6_near_5 : decode cX6_near 5 = .ok (.aload_n 0, 1) := by decide +kernel
theorem dX6_near_6 : decode cX6_near 6 = .ok (.getfield 12, 3) := by decide +kernel
theorem dX6_near_9 : decode cX6_near 9 = .ok (.getfield 77, 3) := by decide +kernel
theorem dX6_near_12 : decode cX6_near 12 = .ok (.if_icmp .lt 5, 3) := by decide +kernel
theorem dX6_near_15 : decode cX6_near 15 = .ok (.iconst (-1), 1) := by decide +kernel
theorem dX6_near_16 : decode cX6_near 16 = .ok (.ireturn, 1) := by decide +kernel
theorem dX6_near_17 : decode cX6_near 17 = .ok (.iload_n 1, 1) := by decide +kernel
theorem dX6_near_18 : decode cX6_near 18 = .ok (.ifCond .lt 10, 3) := by decide +kernel
theorem dX6_near_21 : decode cX6_near 21 = .ok (.iload_n 1, 1) := by decide +kernel
theorem dX6_near_22 : decode cX6_near 22 = .ok (.sipush 1000, 3) := by decide +kernel
theorem dX6_near_25 : decode cX6_near 25 = .ok (.if_icmp .lt 6, 3) := by decide +kernel
theorem dX6_near_28 : decode cX6_near 28 = .ok (.bipush (-2), 2) := by decide +kernel
theorem dX6_near_30 : decode cX6_near 30 = .ok (.ireturn, 1) := by decide +kernel
theorem dX6_near_31 : decode cX6_near 31 = .ok (.iconst 0, 1) := by decide +kernel
theorem dX6_near_32 : decode cX6_near 32 = .ok (.istore_n 3, 1) := by decide +kernel
theorem dX6_near_33 : decode cX6_near 33 = .ok (.iload_n 3, 1) := by decide +kernel
theorem dX6_near_34 : decode cX6_near 34 = .ok (.aload_n 0, 1) := by decide +kernel
theorem dX6_near_35 : decode cX6_near 35 = .ok (.getfield 12, 3) := by decide +kernel
theorem dX6_near_38 : decode cX6_near 38 = .ok (.getfield 77, 3) := by decide +kernel
theorem dX6_near_41 : decode cX6_near 41 = .ok (.if_icmp .ge 24, 3) := by decide +kernel
theorem dX6_near_44 : decode cX6_near 44 = .ok (.aload_n 0, 1) := by decide +kernel
theorem dX6_near_45 : decode cX6_near 45 = .ok (.getfield 12, 3) := by decide +kernel
theorem dX6_near_48 : decode cX6_near 48 = .ok (.iload_n 3, 1) := by decide +kernel
theorem dX6_near_49 : decode cX6_near 49 = .ok (.iload_n 1, 1) := by decide +kernel
theorem dX6_near_50 : decode cX6_near 50 = .ok (.invokevirtual 192, 3) := by decide +kernel
theorem dX6_near_53 : decode cX6_near 53 = .ok (.iload_n 2, 1) := by decide +kernel
theorem dX6_near_54 : decode cX6_near 54 = .ok (.if_icmp .ne 5, 3) := by decide +kernel
theorem dX6_near_57 : decode cX6_near 57 = .ok (.iload_n 3, 1) := by decide +kernel
theorem dX6_near_58 : decode cX6_near 58 = .ok (.ireturn, 1) := by decide +kernel
theorem dX6_near_59 : decode cX6_near 59 = .ok (.iinc 3 1, 3) := by decide +kernel
theorem dX6_near_62 : decode cX6_near 62 = .ok (.goto (-29), 3) := by decide +kernel
theorem dX6_near_65 : decode cX6_near 65 = .ok (.iconst (-1), 1) := by decide +kernel
theorem dX6_near_66 : decode cX6_near 66 = .ok (.ireturn, 1) := by decide +kernel
set_option maxRecDepth 20000 in
theorem ggX6_mostLeast_X4_hasBlock : GoodIn wsX6_mostLeast wsX4_hasBlock := goodIn_r _ [6, 7, 88, 89, 90, 91, 92, 93, 94, 95, 96] (by decide +kernel) (by decide +kernel)
set_option maxRecDepth 20000 in
theorem gX6_mostLeast_X4_hasBlock_n94 : GoodIn wsX6_mostLeast (wsX4_hasBlock) := ggX6_mostLeast_X4_hasBlock
set_option maxRecDepth 20000 in
theorem ggX6_mostLeast_X0_readBlock : GoodIn wsX6_mostLeast wsX0_readBlock := goodIn_r _ [11, 12, 13, 14, 4, 15, 16, 17, 18, 19, 20, 21, 22, 23, 24, 25, 26, 27, 28, 29, 30, 31, 32, 33, 34, 35, 36, 37, 38, 39, 40, 41, 42, 43, 44, 45, 46, 47, 48, 49, 50, 51, 52, 53, 54, 88, 89, 90, 91, 92, 93, 94, 95, 96, 97, 98, 99, 100, 101, 102] (by decide +kernel) (by decide +kernel)
set_option maxRecDepth 20000 in
theorem gX6_mostLeast_X0_readBlock_n134 : GoodIn wsX6_mostLeast (wsX0_readBlock) := ggX6_mostLeast_X0_readBlock
set_option maxRecDepth 20000 in
theorem ggX6_mostLeast_X0_wayBy : GoodIn wsX6_mostLeast wsX0_wayBy := goodIn_r _ [57, 12, 13, 58, 22, 59, 60, 25, 42, 61, 62, 63, 64, 37, 65, 66, 67, 68, 43, 18, 19, 20, 69, 70, 71, 72, 73, 74, 75, 9, 76, 77, 78, 79, 80, 97, 98, 99, 100, 101, 102] (by decide +kernel) (by decide +kernel)
set_option maxRecDepth 20000 in
theorem gX6_mostLeast_X0_wayBy_n195 : GoodIn wsX6_mostLeast (wsX0_wayBy) := ggX6_mostLeast_X0_wayBy
theorem dX6_mostLeast_0 : decode cX6_mostLeast 0 = .ok (.aload_n 0, 1) := by decide +kernel
theorem dX6_mostLeast_1 : decode cX6_mostLeast 1 = .ok (.getfield 12, 3) := by decide +kernel
theorem dX6_mostLeast_4 : decode cX6_mostLeast 4 = .ok (.iload_n 1, 1) := by decide +kernel
theorem dX6_mostLeast_5 : decode cX6_mostLeast 5 = .ok (.invokevirtual 94, 3) := by decide +kernel
theorem dX6_mostLeast_8 : decode cX6_mostLeast 8 = .ok (.ifCond .ne 5, 3) := by decide +kernel
theorem dX6_mostLeast_11 : decode cX6_mostLeast 11 = .ok (.iconst (-1), 1) := by decide +kernel
theorem dX6_mostLeast_12 : decode cX6_mostLeast 12 = .ok (.ireturn, 1) := by decide +kernel
theorem dX6_mostLeast_13 : decode cX6_mostLeast 13 = .ok (.aload_n 0, 1) := by decide +kernel
theorem dX6_mostLeast_14 : decode cX6_mostLeast 14 = .ok (.getfield 19, 3) := by decide +kernel
theorem dX6_mostLeast_17 : decode cX6_mostLeast 17 = .ok (.aload_n 0, 1) := by decide +kernel
theorem dX6_mostLeast_18 : decode cX6_mostLeast 18 = .ok (.getfield 12, 3) := by decide +kernel
theorem dX6_mostLeast_21 : decode cX6_mostLeast 21 = .ok (.iload_n 1, 1) := by decide +kernel
theorem dX6_mostLeast_22 : decode cX6_mostLeast 22 = .ok (.invokevirtual 134, 3) := by decide +kernel
theorem dX6_mostLeast_25 : decode cX6_mostLeast 25 = .ok (.bipush 99, 2) := by decide +kernel
theorem dX6_mostLeast_27 : decode cX6_mostLeast 27 = .ok (.istore_n 2, 1) := by decide +kernel
theorem dX6_mostLeast_28 : decode cX6_mostLeast 28 = .ok (.iload_n 2, 1) := by decide +kernel
theorem dX6_mostLeast_29 : decode cX6_mostLeast 29 = .ok (.ifCond .lt 24, 3) := by decide +kernel
theorem dX6_mostLeast_32 : decode cX6_mostLeast 32 = .ok (.aload_n 0, 1) := by decide +kernel
theorem dX6_mostLeast_33 : decode cX6_mostLeast 33 = .ok (.getfield 19, 3) := by decide +kernel
theorem dX6_mostLeast_36 : decode cX6_mostLeast 36 = .ok (.iload_n 2, 1) := by decide +kernel
theorem dX6_mostLeast_37 : decode cX6_mostLeast 37 = .ok (.invokevirtual 195, 3) := by decide +kernel
theorem dX6_mostLeast_40 : decode cX6_mostLeast 40 = .ok (.bipush (-6), 2) := by decide +kernel
theorem dX6_mostLeast_42 : decode cX6_mostLeast 42 = .ok (.if_icmp .eq 5, 3) := by decide +kernel
theorem dX6_mostLeast_45 : decode cX6_mostLeast 45 = .ok (.iload_n 2, 1) := by decide +kernel
theorem dX6_mostLeast_46 : decode cX6_mostLeast 46 = .ok (.ireturn, 1) := by decide +kernel
theorem dX6_mostLeast_47 : decode cX6_mostLeast 47 = .ok (.iinc 2 (-1), 3) := by decide +kernel
theorem dX6_mostLeast_50 : decode cX6_mostLeast 50 = .ok (.goto (-22), 3) := by decide +kernel
theorem dX6_mostLeast_53 : decode cX6_mostLeast 53 = .ok (.bipush (-6), 2) := by decide +kernel
theorem dX6_mostLeast_55 : decode cX6_mostLeast 55 = .ok (.ireturn, 1) := by decide +kernel
set_option maxRecDepth 20000 in
theorem ggX6_weak_X4_hasBlock : GoodIn wsX6_weak wsX4_hasBlock := goodIn_r _ [5, 6, 88, 89, 90, 91, 92, 93, 94, 95, 96] (by decide +kernel) (by decide +kernel)
set_option maxRecDepth 20000 in
theorem gX6_weak_X4_hasBlock_n94 : GoodIn wsX6_weak (wsX4_hasBlock) := ggX6_weak_X4_hasBlock
set_option maxRecDepth 20000 in
theorem ggX6_weak_X6_stateOfTelling : GoodIn wsX6_weak wsX6_stateOfTelling := goodIn_r _ [11, 12, 1, 13, 14, 15, 16, 17, 18, 19, 3, 20, 21, 22, 23, 10, 24, 25, 26, 27, 28, 29, 30, 31, 32, 33, 34, 35, 36, 37, 38, 39, 40, 41, 42, 43, 44, 45, 46, 47, 48, 49, 50, 51, 52, 53, 54, 55, 56, 57, 58, 59, 60, 61, 62, 63, 64, 65, 66, 67, 68, 69, 70, 71, 72, 73, 74, 75, 76, 77, 78, 79, 80, 81, 82, 83, 84, 85, 86, 87, 88, 89, 90, 91, 92, 93, 94, 95, 96, 97, 98, 99, 100, 101, 102] (by decide +kernel) (by decide +kernel)
set_option maxRecDepth 20000 in
theorem gX6_weak_X6_stateOfTelling : GoodIn wsX6_weak (wsV RX6 113 RX6 yX6_stateOfTelling wsX6_stateOfTelling) := goodIn_app (goodIn_of _ (by decide +kernel)) ggX6_weak_X6_stateOfTelling
set_option maxRecDepth 20000 in
theorem ggX6_weak_X4_tellingCells : GoodIn wsX6_weak wsX4_tellingCells := goodIn_r _ [57, 58, 23, 10, 24, 88, 89, 90, 91, 92, 93, 94, 95, 96] (by decide +kernel) (by decide +kernel)
set_option maxRecDepth 20000 in
theorem gX6_weak_X4_tellingCells_n198 : GoodIn wsX6_weak (wsX4_tellingCells) := ggX6_weak_X4_tellingCells
theorem dX6_weak_0 : decode cX6_weak 0 = .ok (.aload_n 0, 1) := by decide +kernel
theorem dX6_weak_1 : decode cX6_weak 1 = .ok (.getfield 12, 3) := by decide +kernel
theorem dX6_weak_4 : decode cX6_weak 4 = .ok (.iload_n 1, 1) := by decide +kernel
theorem dX6_weak_5 : decode cX6_weak 5 = .ok (.invokevirtual 94, 3) := by decide +kernel
theorem dX6_weak_8 : decode cX6_weak 8 = .ok (.ifCond .ne 5, 3) := by decide +kernel
theorem dX6_weak_11 : decode cX6_weak 11 = .ok (.iconst (-1), 1) := by decide +kernel
theorem dX6_weak_12 : decode cX6_weak 12 = .ok (.ireturn, 1) := by decide +kernel
theorem dX6_weak_13 : decode cX6_weak 13 = .ok (.iload_n 2, 1) := by decide +kernel
theorem dX6_weak_14 : decode cX6_weak 14 = .ok (.ifCond .lt 8, 3) := by decide +kernel
theorem dX6_weak_17 : decode cX6_weak 17 = .ok (.iload_n 2, 1) := by decide +kernel
theorem dX6_weak_18 : decode cX6_weak 18 = .ok (.iconst 2, 1) := by decide +kernel
theorem dX6_weak_19 : decode cX6_weak 19 = .ok (.if_icmp .lt 6, 3) := by decide +kernel
theorem dX6_weak_22 : decode cX6_weak 22 = .ok (.bipush (-2), 2) := by decide +kernel
theorem dX6_weak_24 : decode cX6_weak 24 = .ok (.ireturn, 1) := by decide +kernel
theorem dX6_weak_25 : decode cX6_weak 25 = .ok (.aload_n 0, 1) := by decide +kernel
theorem dX6_weak_26 : decode cX6_weak 26 = .ok (.iload_n 1, 1) := by decide +kernel
theorem dX6_weak_27 : decode cX6_weak 27 = .ok (.iload_n 2, 1) := by decide +kernel
theorem dX6_weak_28 : decode cX6_weak 28 = .ok (.invokevirtual 113, 3) := by decide +kernel
theorem dX6_weak_31 : decode cX6_weak 31 = .ok (.ifCond .eq 6, 3) := by decide +kernel
theorem dX6_weak_34 : decode cX6_weak 34 = .ok (.bipush (-5), 2) := by decide +kernel
theorem dX6_weak_36 : decode cX6_weak 36 = .ok (.ireturn, 1) := by decide +kernel
theorem dX6_weak_37 : decode cX6_weak 37 = .ok (.aload_n 0, 1) := by decide +kernel
theorem dX6_weak_38 : decode cX6_weak 38 = .ok (.getfield 12, 3) := by decide +kernel
theorem dX6_weak_41 : decode cX6_weak 41 = .ok (.iload_n 1, 1) := by decide +kernel
theorem dX6_weak_42 : decode cX6_weak 42 = .ok (.invokevirtual 198, 3) := by decide +kernel
theorem dX6_weak_45 : decode cX6_weak 45 = .ok (.iconst 4, 1) := by decide +kernel
theorem dX6_weak_46 : decode cX6_weak 46 = .ok (.isub, 1) := by decide +kernel
theorem dX6_weak_47 : decode cX6_weak 47 = .ok (.ireturn, 1) := by decide +kernel
set_option maxRecDepth 20000 in
theorem ggX6_widest_X6_reached : GoodIn wsX6_widest wsX6_reached := goodIn_r _ [7, 1, 8, 9, 6, 10, 11, 12, 13, 14, 15, 16, 17, 18, 19, 20, 21, 22, 23, 24, 25, 26, 27, 28, 29, 30, 31, 32, 33, 34, 35, 36, 37, 38, 39, 40, 41, 42, 43, 44, 45, 46, 47, 48, 49, 50, 51, 52, 53, 54, 55, 56, 57, 58, 59, 60, 61, 62, 63, 64, 65, 66, 67, 68, 69, 70, 71, 72, 73, 74, 75, 76, 77, 78, 79, 80, 81, 82, 83, 84, 85, 86, 87, 88, 89, 90, 91, 92, 93, 99, 100, 101, 102, 103, 104, 105, 106, 107, 108, 109, 110, 111, 112, 113, 114, 115, 116, 117, 118, 119, 120] (by decide +kernel) (by decide +kernel)
set_option maxRecDepth 20000 in
theorem gX6_widest_X6_reached : GoodIn wsX6_widest (wsV RX6 201 RX6 yX6_reached wsX6_reached) := goodIn_app (goodIn_of _ (by decide +kernel)) ggX6_widest_X6_reached
set_option maxRecDepth 20000 in
theorem ggX6_widest_X6_countBelow : GoodIn wsX6_widest wsX6_countBelow := goodIn_r _ [97, 2, 1, 98, 58, 6, 59, 8, 9, 10, 11, 12, 13, 99, 100, 101, 102, 103, 104, 105, 106, 107, 108, 109, 110, 111, 112, 113, 114] (by decide +kernel) (by decide +kernel)
set_option maxRecDepth 20000 in
theorem gX6_widest_X6_countBelow : GoodIn wsX6_widest (wsV RX6 204 RX6 yX6_countBelow wsX6_countBelow) := goodIn_app (goodIn_of _ (by decide +kernel)) ggX6_widest_X6_countBelow
set_option maxRecDepth 20000 in
theorem ggX6_widest_X6_holds : GoodIn wsX6_widest wsX6_holds := goodIn_r _ [13] (by decide +kernel) (by decide +kernel)
set_option maxRecDepth 20000 in
theorem gX6_widest_X6_holds : GoodIn wsX6_widest (va_wsS RX6 189 yX6_holds wsX6_holds) := goodIn_app (goodIn_of _ (by decide +kernel)) ggX6_widest_X6_holds
set_option maxRecDepth 20000 in
theorem ggX6_widest_X6_valueAt : GoodIn wsX6_widest wsX6_valueAt := goodIn_r _ [10] (by decide +kernel) (by decide +kernel)
set_option maxRecDepth 20000 in
theorem gX6_widest_X6_valueAt : GoodIn wsX6_widest (va_wsS RX6 100 yX6_valueAt wsX6_valueAt) := goodIn_app (goodIn_of _ (by decide +kernel)) ggX6_widest_X6_valueAt
theorem dX6_widest_0 : decode cX6_widest 0 = .ok (.iload_n 1, 1) := by decide +kernel
theorem dX6_widest_1 : decode cX6_widest 1 = .ok (.ifCond .eq 11, 3) := by decide +kernel
theorem dX6_widest_4 : decode cX6_widest 4 = .ok (.iload_n 1, 1) := by decide +kernel
theorem dX6_widest_5 : decode cX6_widest 5 = .ok (.iconst 1, 1) := by decide +kernel
theorem dX6_widest_6 : decode cX6_widest 6 = .ok (.if_icmp .eq 6, 3) := by decide +kernel
theorem dX6_widest_9 : decode cX6_widest 9 = .ok (.bipush (-2), 2) := by decide +kernel
theorem dX6_widest_11 : decode cX6_widest 11 = .ok (.ireturn, 1) := by decide +kernel
theorem dX6_widest_12 : decode cX6_widest 12 = .ok (.aload_n 0, 1) := by decide +kernel
theorem dX6_widest_13 : decode cX6_widest 13 = .ok (.invokevirtual 201, 3) := by decide +kernel
theorem dX6_widest_16 : decode cX6_widest 16 = .ok (.istore_n 2, 1) := by decide +kernel
theorem dX6_widest_17 : decode cX6_widest 17 = .ok (.iload_n 2, 1) := by decide +kernel
theorem dX6_widest_18 : decode cX6_widest 18 = .ok (.ifCond .ne 6, 3) := by decide +kernel
theorem dX6_widest_21 : decode cX6_widest 21 = .ok (.bipush (-6), 2) := by decide +kernel
theorem dX6_widest_23 : decode cX6_widest 23 = .ok (.ireturn, 1) := by decide +kernel
theorem dX6_widest_24 : decode cX6_widest 24 = .ok (.aload_n 0, 1) := by decide +kernel
theorem dX6_widest_25 : decode cX6_widest 25 = .ok (.iload_n 2, 1) := by decide +kernel
theorem dX6_widest_26 : decode cX6_widest 26 = .ok (.invokevirtual 204, 3) := by decide +kernel
theorem dX6_widest_29 : decode cX6_widest 29 = .ok (.bipush (-6), 2) := by decide +kernel
theorem dX6_widest_31 : decode cX6_widest 31 = .ok (.istore_n 3, 1) := by decide +kernel
theorem dX6_widest_32 : decode cX6_widest 32 = .ok (.iconst 0, 1) := by decide +kernel
theorem dX6_widest_33 : decode cX6_widest 33 = .ok (.istore 4, 2) := by decide +kernel
theorem dX6_widest_35 : decode cX6_widest 35 = .ok (.iload 4, 2) := by decide +kernel
theorem dX6_widest_37 : decode cX6_widest 37 = .ok (.aload_n 0, 1) := by decide +kernel
theorem dX6_widest_38 : decode cX6_widest 38 = .ok (.getfield 12, 3) := by decide +kernel
theorem dX6_widest_41 : decode cX6_widest 41 = .ok (.getfield 77, 3) := by decide +kernel
theorem dX6_widest_44 : decode cX6_widest 44 = .ok (.if_icmp .ge 47, 3) := by decide +kernel
theorem dX6_widest_47 : decode cX6_widest 47 = .ok (.iload_n 2, 1) := by decide +kernel
theorem dX6_widest_48 : decode cX6_widest 48 = .ok (.iload 4, 2) := by decide +kernel
theorem dX6_widest_50 : decode cX6_widest 50 = .ok (.invokestatic 189, 3) := by decide +kernel
theorem dX6_widest_53 : decode cX6_widest 53 = .ok (.ifCond .eq 32, 3) := by decide +kernel
theorem dX6_widest_56 : decode cX6_widest 56 = .ok (.iload_n 3, 1) := by decide +kernel
theorem dX6_widest_57 : decode cX6_widest 57 = .ok (.bipush (-6), 2) := by decide +kernel
theorem dX6_widest_59 : decode cX6_widest 59 = .ok (.if_icmp .eq 23, 3) := by decide +kernel
theorem dX6_widest_62 : decode cX6_widest 62 = .ok (.aload_n 0, 1) := by decide +kernel
theorem dX6_widest_63 : decode cX6_widest 63 = .ok (.getfield 47, 3) := by decide +kernel
theorem dX6_widest_66 : decode cX6_widest 66 = .ok (.iload 4, 2) := by decide +kernel
theorem dX6_widest_68 : decode cX6_widest 68 = .ok (.invokestatic 100, 3) := by decide +kernel
theorem dX6_widest_71 : decode cX6_widest 71 = .ok (.aload_n 0, 1) := by decide +kernel
theorem dX6_widest_72 : decode cX6_widest 72 = .ok (.getfield 47, 3) := by decide +kernel
theorem dX6_widest_75 : decode cX6_widest 75 = .ok (.iload_n 3, 1) := by decide +kernel
theorem dX6_widest_76 : decode cX6_widest 76 = .ok (.invokestatic 100, 3) := by decide +kernel
theorem dX6_widest_79 : decode cX6_widest 79 = .ok (.if_icmp .le 6, 3) := by decide +kernel
theorem dX6_widest_82 : decode cX6_widest 82 = .ok (.iload 4, 2) := by decide +kernel
theorem dX6_widest_84 : decode cX6_widest 84 = .ok (.istore_n 3, 1) := by decide +kernel
theorem dX6_widest_85 : decode cX6_widest 85 = .ok (.iinc 4 1, 3) := by decide +kernel
theorem dX6_widest_88 : decode cX6_widest 88 = .ok (.goto (-53), 3) := by decide +kernel
theorem dX6_widest_91 : decode cX6_widest 91 = .ok (.iload_n 1, 1) := by decide +kernel
theorem dX6_widest_92 : decode cX6_widest 92 = .ok (.ifCond .ne 7, 3) := by decide +kernel
theorem dX6_widest_95 : decode cX6_widest 95 = .ok (.iload_n 3, 1) := by decide +kernel
theorem dX6_widest_96 : decode cX6_widest 96 = .ok (.goto 11, 3) := by decide +kernel
theorem dX6_widest_99 : decode cX6_widest 99 = .ok (.aload_n 0, 1) := by decide +kernel
theorem dX6_widest_100 : decode cX6_widest 100 = .ok (.getfield 47, 3) := by decide +kernel
theorem dX6_widest_103 : decode cX6_widest 103 = .ok (.iload_n 3, 1) := by decide +kernel
theorem dX6_widest_104 : decode cX6_widest 104 = .ok (.invokestatic 100, 3) := by decide +kernel
theorem dX6_widest_107 : decode cX6_widest 107 = .ok (.ireturn, 1) := by decide +kernel
theorem dX6_valueAt_0 : decode cX6_valueAt 0 = .ok (.iload_n 1, 1) := by decide +kernel
theorem dX6_valueAt_1 : decode cX6_valueAt 1 = .ok (.ifCond .lt 15, 3) := by decide +kernel
theorem dX6_valueAt_4 : decode cX6_valueAt 4 = .ok (.iload_n 1, 1) := by decide +kernel
theorem dX6_valueAt_5 : decode cX6_valueAt 5 = .ok (.aload_n 0, 1) := by decide +kernel
theorem dX6_valueAt_6 : decode cX6_valueAt 6 = .ok (.arraylength, 1) := by decide +kernel
theorem dX6_valueAt_7 : decode cX6_valueAt 7 = .ok (.if_icmp .ge 9, 3) := by decide +kernel
theorem dX6_valueAt_10 : decode cX6_valueAt 10 = .ok (.aload_n 0, 1) := by decide +kernel
theorem dX6_valueAt_11 : decode cX6_valueAt 11 = .ok (.iload_n 1, 1) := by decide +kernel
theorem dX6_valueAt_12 : decode cX6_valueAt 12 = .ok (.iaload, 1) := by decide +kernel
theorem dX6_valueAt_13 : decode cX6_valueAt 13 = .ok (.goto 4, 3) := by decide +kernel
theorem dX6_valueAt_16 : decode cX6_valueAt 16 = .ok (.iconst 0, 1) := by decide +kernel
theorem dX6_valueAt_17 : decode cX6_valueAt 17 = .ok (.ireturn, 1) := by decide +kernel
theorem dX6_setValue_0 : decode cX6_setValue 0 = .ok (.iload_n 1, 1) := by decide +kernel
theorem dX6_setValue_1 : decode cX6_setValue 1 = .ok (.ifCond .lt 13, 3) := by decide +kernel
theorem dX6_setValue_4 : decode cX6_setValue 4 = .ok (.iload_n 1, 1) := by decide +kernel
theorem dX6_setValue_5 : decode cX6_setValue 5 = .ok (.aload_n 0, 1) := by decide +kernel
theorem dX6_setValue_6 : decode cX6_setValue 6 = .ok (.arraylength, 1) := by decide +kernel
theorem dX6_setValue_7 : decode cX6_setValue 7 = .ok (.if_icmp .ge 7, 3) := by decide +kernel
theorem dX6_setValue_10 : decode cX6_setValue 10 = .ok (.aload_n 0, 1) := by decide +kernel
theorem dX6_setValue_11 : decode cX6_setValue 11 = .ok (.iload_n 1, 1) := by decide +kernel
theorem dX6_setValue_12 : decode cX6_setValue 12 = .ok (.iload_n 2, 1) := by decide +kernel
theorem dX6_setValue_13 : decode cX6_setValue 13 = .ok (.iastore, 1) := by decide +kernel
theorem dX6_setValue_14 : decode cX6_setValue 14 = .ok (.return_, 1) := by decide +kernel
theorem dX6_mostOf_0 : decode cX6_mostOf 0 = .ok (.iload_n 0, 1) := by decide +kernel
theorem dX6_mostOf_1 : decode cX6_mostOf 1 = .ok (.iconst 2, 1) := by decide +kernel
theorem dX6_mostOf_2 : decode cX6_mostOf 2 = .ok (.if_icmp .ne 8, 3) := by decide +kernel
theorem dX6_mostOf_5 : decode cX6_mostOf 5 = .ok (.bipush 20, 2) := by decide +kernel
theorem dX6_mostOf_7 : decode cX6_mostOf 7 = .ok (.goto 5, 3) := by decide +kernel
theorem dX6_mostOf_10 : decode cX6_mostOf 10 = .ok (.bipush 99, 2) := by decide +kernel
theorem dX6_mostOf_12 : decode cX6_mostOf 12 = .ok (.ireturn, 1) := by decide +kernel
theorem dX6_holds_0 : decode cX6_holds 0 = .ok (.iload_n 0, 1) := by decide +kernel
theorem dX6_holds_1 : decode cX6_holds 1 = .ok (.iload_n 1, 1) := by decide +kernel
theorem dX6_holds_2 : decode cX6_holds 2 = .ok (.iushr, 1) := by decide +kernel
theorem dX6_holds_3 : decode cX6_holds 3 = .ok (.iconst 1, 1) := by decide +kernel
theorem dX6_holds_4 : decode cX6_holds 4 = .ok (.iand, 1) := by decide +kernel
theorem dX6_holds_5 : decode cX6_holds 5 = .ok (.iconst 1, 1) := by decide +kernel
theorem dX6_holds_6 : decode cX6_holds 6 = .ok (.if_icmp .ne 7, 3) := by decide +kernel
theorem dX6_holds_9 : decode cX6_holds 9 = .ok (.iconst 1, 1) := by decide +kernel
theorem dX6_holds_10 : decode cX6_holds 10 = .ok (.goto 4, 3) := by decide +kernel
theorem dX6_holds_13 : decode cX6_holds 13 = .ok (.iconst 0, 1) := by decide +kernel
theorem dX6_holds_14 : decode cX6_holds 14 = .ok (.ireturn, 1) := by decide +kernel
set_option maxRecDepth 20000 in
theorem ggX6_stateOfTelling_X0_readBlock : GoodIn wsX6_stateOfTelling wsX0_readBlock := goodIn_r _ [6, 7, 8, 9, 10, 11, 12, 13, 14, 15, 16, 17, 18, 19, 20, 21, 22, 23, 24, 25, 26, 27, 28, 29, 30, 31, 32, 33, 34, 35, 36, 37, 38, 39, 40, 41, 42, 43, 44, 45, 46, 47, 48, 49, 50, 80, 81, 82, 83, 84, 85, 86, 87, 88, 89, 90, 91, 92, 93, 94] (by decide +kernel) (by decide +kernel)
set_option maxRecDepth 20000 in
theorem gX6_stateOfTelling_X0_readBlock_n134 : GoodIn wsX6_stateOfTelling (wsX0_readBlock) := ggX6_stateOfTelling_X0_readBlock
set_option maxRecDepth 20000 in
theorem ggX6_stateOfTelling_X0_telling : GoodIn wsX6_stateOfTelling wsX0_telling := goodIn_r _ [53, 7, 8, 89, 90] (by decide +kernel) (by decide +kernel)
set_option maxRecDepth 20000 in
theorem gX6_stateOfTelling_X0_telling_n138 : GoodIn wsX6_stateOfTelling (wsX0_telling) := ggX6_stateOfTelling_X0_telling
set_option maxRecDepth 20000 in
theorem ggX6_stateOfTelling_X4_setting : GoodIn wsX6_stateOfTelling wsX4_setting := goodIn_r _ [56, 57, 14, 15, 16, 80, 81, 82, 83, 84, 85, 86, 87, 88] (by decide +kernel) (by decide +kernel)
set_option maxRecDepth 20000 in
theorem gX6_stateOfTelling_X4_setting_n59 : GoodIn wsX6_stateOfTelling (wsX4_setting) := ggX6_stateOfTelling_X4_setting
set_option maxRecDepth 20000 in
theorem ggX6_stateOfTelling_X5_stateBy : GoodIn wsX6_stateOfTelling wsX5_stateBy := goodIn_r _ [60, 21, 38, 61, 62, 63, 18, 64, 33, 65, 66, 67, 68, 39, 14, 15, 16, 69, 70, 71, 72, 91, 92, 93, 94] (by decide +kernel) (by decide +kernel)
set_option maxRecDepth 20000 in
theorem gX6_stateOfTelling_X5_stateBy_n250 : GoodIn wsX6_stateOfTelling (wsX5_stateBy) := ggX6_stateOfTelling_X5_stateBy
theorem dX6_stateOfTelling_0 : decode cX6_stateOfTelling 0 = .ok (.aload_n 0, 1) := by decide +kernel
theorem dX6_stateOfTelling_1 : decode cX6_stateOfTelling 1 = .ok (.getfield 19, 3) := by decide +kernel
theorem dX6_stateOfTelling_4 : decode cX6_stateOfTelling 4 = .ok (.aload_n 0, 1) := by decide +kernel
theorem dX6_stateOfTelling_5 : decode cX6_stateOfTelling 5 = .ok (.getfield 12, 3) := by decide +kernel
theorem dX6_stateOfTelling_8 : decode cX6_stateOfTelling 8 = .ok (.iload_n 1, 1) := by decide +kernel
theorem dX6_stateOfTelling_9 : decode cX6_stateOfTelling 9 = .ok (.invokevirtual 134, 3) := by decide +kernel
theorem dX6_stateOfTelling_12 : decode cX6_stateOfTelling 12 = .ok (.aload_n 0, 1) := by decide +kernel
theorem dX6_stateOfTelling_13 : decode cX6_stateOfTelling 13 = .ok (.getfield 19, 3) := by decide +kernel
theorem dX6_stateOfTelling_16 : decode cX6_stateOfTelling 16 = .ok (.iload_n 2, 1) := by decide +kernel
theorem dX6_stateOfTelling_17 : decode cX6_stateOfTelling 17 = .ok (.invokevirtual 138, 3) := by decide +kernel
theorem dX6_stateOfTelling_20 : decode cX6_stateOfTelling 20 = .ok (.aload_n 0, 1) := by decide +kernel
theorem dX6_stateOfTelling_21 : decode cX6_stateOfTelling 21 = .ok (.getfield 12, 3) := by decide +kernel
theorem dX6_stateOfTelling_24 : decode cX6_stateOfTelling 24 = .ok (.iconst 1, 1) := by decide +kernel
theorem dX6_stateOfTelling_25 : decode cX6_stateOfTelling 25 = .ok (.invokevirtual 59, 3) := by decide +kernel
theorem dX6_stateOfTelling_28 : decode cX6_stateOfTelling 28 = .ok (.invokevirtual 250, 3) := by decide +kernel
theorem dX6_stateOfTelling_31 : decode cX6_stateOfTelling 31 = .ok (.ireturn, 1) := by decide +kernel
set_option maxRecDepth 20000 in
theorem ggX6_wayOfLoading_X0_readBlock : GoodIn wsX6_wayOfLoading wsX0_readBlock := goodIn_r _ [6, 7, 8, 9, 10, 11, 12, 13, 14, 15, 16, 17, 18, 19, 20, 21, 22, 23, 24, 25, 26, 27, 28, 29, 30, 31, 32, 33, 34, 35, 36, 37, 38, 39, 40, 41, 42, 43, 44, 45, 46, 47, 48, 49, 50, 88, 89, 90, 91, 92, 93, 94, 95, 96, 97, 98, 99, 100, 101, 102] (by decide +kernel) (by decide +kernel)
set_option maxRecDepth 20000 in
theorem gX6_wayOfLoading_X0_readBlock_n134 : GoodIn wsX6_wayOfLoading (wsX0_readBlock) := ggX6_wayOfLoading_X0_readBlock
set_option maxRecDepth 20000 in
theorem ggX6_wayOfLoading_X4_setting : GoodIn wsX6_wayOfLoading wsX4_setting := goodIn_r _ [53, 54, 14, 15, 16, 88, 89, 90, 91, 92, 93, 94, 95, 96] (by decide +kernel) (by decide +kernel)
set_option maxRecDepth 20000 in
theorem gX6_wayOfLoading_X4_setting_n59 : GoodIn wsX6_wayOfLoading (wsX4_setting) := ggX6_wayOfLoading_X4_setting
set_option maxRecDepth 20000 in
theorem ggX6_wayOfLoading_X0_wayBy : GoodIn wsX6_wayOfLoading wsX0_wayBy := goodIn_r _ [57, 7, 8, 58, 18, 59, 60, 21, 38, 61, 62, 63, 64, 33, 65, 66, 67, 68, 39, 14, 15, 16, 69, 70, 71, 72, 73, 74, 75, 4, 76, 77, 78, 79, 80, 97, 98, 99, 100, 101, 102] (by decide +kernel) (by decide +kernel)
set_option maxRecDepth 20000 in
theorem gX6_wayOfLoading_X0_wayBy_n195 : GoodIn wsX6_wayOfLoading (wsX0_wayBy) := ggX6_wayOfLoading_X0_wayBy
theorem dX6_wayOfLoading_0 : decode cX6_wayOfLoading 0 = .ok (.aload_n 0, 1) := by decide +kernel
theorem dX6_wayOfLoading_1 : decode cX6_wayOfLoading 1 = .ok (.getfield 19, 3) := by decide +kernel
theorem dX6_wayOfLoading_4 : decode cX6_wayOfLoading 4 = .ok (.aload_n 0, 1) := by decide +kernel
theorem dX6_wayOfLoading_5 : decode cX6_wayOfLoading 5 = .ok (.getfield 12, 3) := by decide +kernel
theorem dX6_wayOfLoading_8 : decode cX6_wayOfLoading 8 = .ok (.iload_n 1, 1) := by decide +kernel
theorem dX6_wayOfLoading_9 : decode cX6_wayOfLoading 9 = .ok (.invokevirtual 134, 3) := by decide +kernel
theorem dX6_wayOfLoading_12 : decode cX6_wayOfLoading 12 = .ok (.aload_n 0, 1) := by decide +kernel
theorem dX6_wayOfLoading_13 : decode cX6_wayOfLoading 13 = .ok (.getfield 19, 3) := by decide +kernel
theorem dX6_wayOfLoading_16 : decode cX6_wayOfLoading 16 = .ok (.aload_n 0, 1) := by decide +kernel
theorem dX6_wayOfLoading_17 : decode cX6_wayOfLoading 17 = .ok (.getfield 12, 3) := by decide +kernel
theorem dX6_wayOfLoading_20 : decode cX6_wayOfLoading 20 = .ok (.iconst 1, 1) := by decide +kernel
theorem dX6_wayOfLoading_21 : decode cX6_wayOfLoading 21 = .ok (.invokevirtual 59, 3) := by decide +kernel
theorem dX6_wayOfLoading_24 : decode cX6_wayOfLoading 24 = .ok (.invokevirtual 195, 3) := by decide +kernel
theorem dX6_wayOfLoading_27 : decode cX6_wayOfLoading 27 = .ok (.ireturn, 1) := by decide +kernel
set_option maxRecDepth 20000 in
theorem ggX6_loadedBlocks_X6_wayOfLoading : GoodIn wsX6_loadedBlocks wsX6_wayOfLoading := goodIn_r _ [6, 7, 1, 8, 9, 10, 11, 12, 13, 14, 15, 16, 17, 18, 19, 5, 20, 21, 22, 23, 24, 25, 26, 27, 28, 29, 30, 31, 32, 33, 34, 35, 36, 37, 38, 39, 40, 41, 42, 43, 44, 45, 46, 47, 48, 49, 50, 51, 52, 53, 54, 55, 56, 57, 58, 59, 60, 61, 62, 63, 64, 65, 66, 67, 68, 69, 70, 71, 72, 73, 74, 75, 76, 77, 78, 79, 80, 81, 82, 83, 84, 85, 86, 87, 88, 89, 90, 91, 92, 93, 94, 95, 96, 97, 98, 99, 100, 101, 102, 103, 104, 105, 106] (by decide +kernel) (by decide +kernel)
set_option maxRecDepth 20000 in
theorem gX6_loadedBlocks_X6_wayOfLoading : GoodIn wsX6_loadedBlocks (wsV RX6 117 RX6 yX6_wayOfLoading wsX6_wayOfLoading) := goodIn_app (goodIn_of _ (by decide +kernel)) ggX6_loadedBlocks_X6_wayOfLoading
theorem dX6_loadedBlocks_0 : decode cX6_loadedBlocks 0 = .ok (.iconst 0, 1) := by decide +kernel
theorem dX6_loadedBlocks_1 : decode cX6_loadedBlocks 1 = .ok (.istore_n 2, 1) := by decide +kernel
theorem dX6_loadedBlocks_2 : decode cX6_loadedBlocks 2 = .ok (.iconst 0, 1) := by decide +kernel
theorem dX6_loadedBlocks_3 : decode cX6_loadedBlocks 3 = .ok (.istore_n 3, 1) := by decide +kernel
theorem dX6_loadedBlocks_4 : decode cX6_loadedBlocks 4 = .ok (.iload_n 3, 1) := by decide +kernel
theorem dX6_loadedBlocks_5 : decode cX6_loadedBlocks 5 = .ok (.aload_n 0, 1) := by decide +kernel
theorem dX6_loadedBlocks_6 : decode cX6_loadedBlocks 6 = .ok (.getfield 12, 3) := by decide +kernel
theorem dX6_loadedBlocks_9 : decode cX6_loadedBlocks 9 = .ok (.getfield 77, 3) := by decide +kernel
theorem dX6_loadedBlocks_12 : decode cX6_loadedBlocks 12 = .ok (.if_icmp .ge 39, 3) := by decide +kernel
theorem dX6_loadedBlocks_15 : decode cX6_loadedBlocks 15 = .ok (.aload_n 0, 1) := by decide +kernel
theorem dX6_loadedBlocks_16 : decode cX6_loadedBlocks 16 = .ok (.iload_n 3, 1) := by decide +kernel
theorem dX6_loadedBlocks_17 : decode cX6_loadedBlocks 17 = .ok (.invokevirtual 117, 3) := by decide +kernel
theorem dX6_loadedBlocks_20 : decode cX6_loadedBlocks 20 = .ok (.istore 4, 2) := by decide +kernel
theorem dX6_loadedBlocks_22 : decode cX6_loadedBlocks 22 = .ok (.iload 4, 2) := by decide +kernel
theorem dX6_loadedBlocks_24 : decode cX6_loadedBlocks 24 = .ok (.iconst 2, 1) := by decide +kernel
theorem dX6_loadedBlocks_25 : decode cX6_loadedBlocks 25 = .ok (.if_icmp .eq 14, 3) := by decide +kernel
theorem dX6_loadedBlocks_28 : decode cX6_loadedBlocks 28 = .ok (.iload 4, 2) := by decide +kernel
theorem dX6_loadedBlocks_30 : decode cX6_loadedBlocks 30 = .ok (.bipush (-6), 2) := by decide +kernel
theorem dX6_loadedBlocks_32 : decode cX6_loadedBlocks 32 = .ok (.if_icmp .eq 13, 3) := by decide +kernel
theorem dX6_loadedBlocks_35 : decode cX6_loadedBlocks 35 = .ok (.iload_n 1, 1) := by decide +kernel
theorem dX6_loadedBlocks_36 : decode cX6_loadedBlocks 36 = .ok (.ifCond .ne 9, 3) := by decide +kernel
theorem dX6_loadedBlocks_39 : decode cX6_loadedBlocks 39 = .ok (.iload_n 2, 1) := by decide +kernel
theorem dX6_loadedBlocks_40 : decode cX6_loadedBlocks 40 = .ok (.iconst 1, 1) := by decide +kernel
theorem dX6_loadedBlocks_41 : decode cX6_loadedBlocks 41 = .ok (.iload_n 3, 1) := by decide +kernel
theorem dX6_loadedBlocks_42 : decode cX6_loadedBlocks 42 = .ok (.ishl, 1) := by decide +kernel
theorem dX6_loadedBlocks_43 : decode cX6_loadedBlocks 43 = .ok (.ior, 1) := by decide +kernel
theorem dX6_loadedBlocks_44 : decode cX6_loadedBlocks 44 = .ok (.istore_n 2, 1) := by decide +kernel
theorem dX6_loadedBlocks_45 : decode cX6_loadedBlocks 45 = .ok (.iinc 3 1, 3) := by decide +kernel
theorem dX6_loadedBlocks_48 : decode cX6_loadedBlocks 48 = .ok (.goto (-44), 3) := by decide +kernel
theorem dX6_loadedBlocks_51 : decode cX6_loadedBlocks 51 = .ok (.iload_n 2, 1) := by decide +kernel
theorem dX6_loadedBlocks_52 : decode cX6_loadedBlocks 52 = .ok (.ireturn, 1) := by decide +kernel
set_option maxRecDepth 20000 in
theorem ggX6_countBelow_X6_setValue : GoodIn wsX6_countBelow wsX6_setValue := goodIn_r _ [6] (by decide +kernel) (by decide +kernel)
set_option maxRecDepth 20000 in
theorem gX6_countBelow_X6_setValue : GoodIn wsX6_countBelow (va_wsS RX6 65 yX6_setValue wsX6_setValue) := goodIn_app (goodIn_of _ (by decide +kernel)) ggX6_countBelow_X6_setValue
set_option maxRecDepth 20000 in
theorem ggX6_countBelow_X6_valueAt : GoodIn wsX6_countBelow wsX6_valueAt := goodIn_r _ [9] (by decide +kernel) (by decide +kernel)
set_option maxRecDepth 20000 in
theorem gX6_countBelow_X6_valueAt : GoodIn wsX6_countBelow (va_wsS RX6 100 yX6_valueAt wsX6_valueAt) := goodIn_app (goodIn_of _ (by decide +kernel)) ggX6_countBelow_X6_valueAt
set_option maxRecDepth 20000 in
theorem ggX6_countBelow_X6_holds : GoodIn wsX6_countBelow wsX6_holds := goodIn_r _ [12] (by decide +kernel) (by decide +kernel)
set_option maxRecDepth 20000 in
theorem gX6_countBelow_X6_holds : GoodIn wsX6_countBelow (va_wsS RX6 189 yX6_holds wsX6_holds) := goodIn_app (goodIn_of _ (by decide +kernel)) ggX6_countBelow_X6_holds
theorem dX6_countBelow_0 : decode cX6_countBelow 0 = .ok (.iconst 0, 1) := by decide +kernel
theorem dX6_countBelow_1 : decode cX6_countBelow 1 = .ok (.istore_n 2, 1) := by decide +kernel
theorem dX6_countBelow_2 : decode cX6_countBelow 2 = .ok (.iload_n 2, 1) := by decide +kernel
theorem dX6_countBelow_3 : decode cX6_countBelow 3 = .ok (.bipush 16, 2) := by decide +kernel
theorem dX6_countBelow_5 : decode cX6_countBelow 5 = .ok (.if_icmp .ge 18, 3) := by decide +kernel
theorem dX6_countBelow_8 : decode cX6_countBelow 8 = .ok (.aload_n 0, 1) := by decide +kernel
theorem dX6_countBelow_9 : decode cX6_countBelow 9 = .ok (.getfield 47, 3) := by decide +kernel
theorem dX6_countBelow_12 : decode cX6_countBelow 12 = .ok (.iload_n 2, 1) := by decide +kernel
theorem dX6_countBelow_13 : decode cX6_countBelow 13 = .ok (.iconst 0, 1) := by decide +kernel
theorem dX6_countBelow_14 : decode cX6_countBelow 14 = .ok (.invokestatic 65, 3) := by decide +kernel
theorem dX6_countBelow_17 : decode cX6_countBelow 17 = .ok (.iinc 2 1, 3) := by decide +kernel
theorem dX6_countBelow_20 : decode cX6_countBelow 20 = .ok (.goto (-18), 3) := by decide +kernel
theorem dX6_countBelow_23 : decode cX6_countBelow 23 = .ok (.aload_n 0, 1) := by decide +kernel
theorem dX6_countBelow_24 : decode cX6_countBelow 24 = .ok (.getfield 12, 3) := by decide +kernel
theorem dX6_countBelow_27 : decode cX6_countBelow 27 = .ok (.getfield 77, 3) := by decide +kernel
theorem dX6_countBelow_30 : decode cX6_countBelow 30 = .ok (.iconst 1, 1) := by decide +kernel
theorem dX6_countBelow_31 : decode cX6_countBelow 31 = .ok (.isub, 1) := by decide +kernel
theorem dX6_countBelow_32 : decode cX6_countBelow 32 = .ok (.istore_n 2, 1) := by decide +kernel
theorem dX6_countBelow_33 : decode cX6_countBelow 33 = .ok (.iload_n 2, 1) := by decide +kernel
theorem dX6_countBelow_34 : decode cX6_countBelow 34 = .ok (.ifCond .lt 62, 3) := by decide +kernel
theorem dX6_countBelow_37 : decode cX6_countBelow 37 = .ok (.aload_n 0, 1) := by decide +kernel
theorem dX6_countBelow_38 : decode cX6_countBelow 38 = .ok (.getfield 12, 3) := by decide +kernel
theorem dX6_countBelow_41 : decode cX6_countBelow 41 = .ok (.getfield 104, 3) := by decide +kernel
theorem dX6_countBelow_44 : decode cX6_countBelow 44 = .ok (.iload_n 2, 1) := by decide +kernel
theorem dX6_countBelow_45 : decode cX6_countBelow 45 = .ok (.invokestatic 100, 3) := by decide +kernel
theorem dX6_countBelow_48 : decode cX6_countBelow 48 = .ok (.istore_n 3, 1) := by decide +kernel
theorem dX6_countBelow_49 : decode cX6_countBelow 49 = .ok (.iload_n 1, 1) := by decide +kernel
theorem dX6_countBelow_50 : decode cX6_countBelow 50 = .ok (.iload_n 2, 1) := by decide +kernel
theorem dX6_countBelow_51 : decode cX6_countBelow 51 = .ok (.invokestatic 189, 3) := by decide +kernel
theorem dX6_countBelow_54 : decode cX6_countBelow 54 = .ok (.ifCond .eq 36, 3) := by decide +kernel
theorem dX6_countBelow_57 : decode cX6_countBelow 57 = .ok (.iload_n 3, 1) := by decide +kernel
theorem dX6_countBelow_58 : decode cX6_countBelow 58 = .ok (.bipush (-6), 2) := by decide +kernel
theorem dX6_countBelow_60 : decode cX6_countBelow 60 = .ok (.if_icmp .eq 30, 3) := by decide +kernel
theorem dX6_countBelow_63 : decode cX6_countBelow 63 = .ok (.aload_n 0, 1) := by decide +kernel
theorem dX6_countBelow_64 : decode cX6_countBelow 64 = .ok (.getfield 47, 3) := by decide +kernel
theorem dX6_countBelow_67 : decode cX6_countBelow 67 = .ok (.iload_n 3, 1) := by decide +kernel
theorem dX6_countBelow_68 : decode cX6_countBelow 68 = .ok (.aload_n 0, 1) := by decide +kernel
theorem dX6_countBelow_69 : decode cX6_countBelow 69 = .ok (.getfield 47, 3) := by decide +kernel
theorem dX6_countBelow_72 : decode cX6_countBelow 72 = .ok (.iload_n 3, 1) := by decide +kernel
theorem dX6_countBelow_73 : decode cX6_countBelow 73 = .ok (.invokestatic 100, 3) := by decide +kernel
theorem dX6_countBelow_76 : decode cX6_countBelow 76 = .ok (.aload_n 0, 1) := by decide +kernel
theorem dX6_countBelow_77 : decode cX6_countBelow 77 = .ok (.getfield 47, 3) := by decide +kernel
theorem dX6_countBelow_80 : decode cX6_countBelow 80 = .ok (.iload_n 2, 1) := by decide +kernel
theorem dX6_countBelow_81 : decode cX6_countBelow 81 = .ok (.invokestatic 100, 3) := by decide +kernel
theorem dX6_countBelow_84 : decode cX6_countBelow 84 = .ok (.iadd, 1) := by decide +kernel
theorem dX6_countBelow_85 : decode cX6_countBelow 85 = .ok (.iconst 1, 1) := by decide +kernel
theorem dX6_countBelow_86 : decode cX6_countBelow 86 = .ok (.iadd, 1) := by decide +kernel
theorem dX6_countBelow_87 : decode cX6_countBelow 87 = .ok (.invokestatic 65, 3) := by decide +kernel
theorem dX6_countBelow_90 : decode cX6_countBelow 90 = .ok (.iinc 2 (-1), 3) := by decide +kernel
theorem dX6_countBelow_93 : decode cX6_countBelow 93 = .ok (.goto (-60), 3) := by decide +kernel
theorem dX6_countBelow_96 : decode cX6_countBelow 96 = .ok (.return_, 1) := by decide +kernel
theorem dJ6_bitCount_0f7a4_0 : decode cJ6_bitCount_0f7a4 0 = .ok (.iload_n 0, 1) := by decide +kernel
theorem dJ6_bitCount_0f7a4_1 : decode cJ6_bitCount_0f7a4 1 = .ok (.iload_n 0, 1) := by decide +kernel
theorem dJ6_bitCount_0f7a4_2 : decode cJ6_bitCount_0f7a4 2 = .ok (.iconst 1, 1) := by decide +kernel
theorem dJ6_bitCount_0f7a4_3 : decode cJ6_bitCount_0f7a4 3 = .ok (.iushr, 1) := by decide +kernel
theorem dJ6_bitCount_0f7a4_4 : decode cJ6_bitCount_0f7a4 4 = .ok (.ldc_w 265, 3) := by decide +kernel
theorem dJ6_bitCount_0f7a4_7 : decode cJ6_bitCount_0f7a4 7 = .ok (.iand, 1) := by decide +kernel
theorem dJ6_bitCount_0f7a4_8 : decode cJ6_bitCount_0f7a4 8 = .ok (.isub, 1) := by decide +kernel
theorem dJ6_bitCount_0f7a4_9 : decode cJ6_bitCount_0f7a4 9 = .ok (.istore_n 0, 1) := by decide +kernel
theorem dJ6_bitCount_0f7a4_10 : decode cJ6_bitCount_0f7a4 10 = .ok (.iload_n 0, 1) := by decide +kernel
theorem dJ6_bitCount_0f7a4_11 : decode cJ6_bitCount_0f7a4 11 = .ok (.ldc_w 266, 3) := by decide +kernel
theorem dJ6_bitCount_0f7a4_14 : decode cJ6_bitCount_0f7a4 14 = .ok (.iand, 1) := by decide +kernel
theorem dJ6_bitCount_0f7a4_15 : decode cJ6_bitCount_0f7a4 15 = .ok (.iload_n 0, 1) := by decide +kernel
theorem dJ6_bitCount_0f7a4_16 : decode cJ6_bitCount_0f7a4 16 = .ok (.iconst 2, 1) := by decide +kernel
theorem dJ6_bitCount_0f7a4_17 : decode cJ6_bitCount_0f7a4 17 = .ok (.iushr, 1) := by decide +kernel
theorem dJ6_bitCount_0f7a4_18 : decode cJ6_bitCount_0f7a4 18 = .ok (.ldc_w 266, 3) := by decide +kernel
theorem dJ6_bitCount_0f7a4_21 : decode cJ6_bitCount_0f7a4 21 = .ok (.iand, 1) := by decide +kernel
theorem dJ6_bitCount_0f7a4_22 : decode cJ6_bitCount_0f7a4 22 = .ok (.iadd, 1) := by decide +kernel
theorem dJ6_bitCount_0f7a4_23 : decode cJ6_bitCount_0f7a4 23 = .ok (.istore_n 0, 1) := by decide +kernel
theorem dJ6_bitCount_0f7a4_24 : decode cJ6_bitCount_0f7a4 24 = .ok (.iload_n 0, 1) := by decide +kernel
theorem dJ6_bitCount_0f7a4_25 : decode cJ6_bitCount_0f7a4 25 = .ok (.iload_n 0, 1) := by decide +kernel
theorem dJ6_bitCount_0f7a4_26 : decode cJ6_bitCount_0f7a4 26 = .ok (.iconst 4, 1) := by decide +kernel
theorem dJ6_bitCount_0f7a4_27 : decode cJ6_bitCount_0f7a4 27 = .ok (.iushr, 1) := by decide +kernel
theorem dJ6_bitCount_0f7a4_28 : decode cJ6_bitCount_0f7a4 28 = .ok (.iadd, 1) := by decide +kernel
theorem dJ6_bitCount_0f7a4_29 : decode cJ6_bitCount_0f7a4 29 = .ok (.ldc_w 267, 3) := by decide +kernel
theorem dJ6_bitCount_0f7a4_32 : decode cJ6_bitCount_0f7a4 32 = .ok (.iand, 1) := by decide +kernel
theorem dJ6_bitCount_0f7a4_33 : decode cJ6_bitCount_0f7a4 33 = .ok (.istore_n 0, 1) := by decide +kernel
theorem dJ6_bitCount_0f7a4_34 : decode cJ6_bitCount_0f7a4 34 = .ok (.iload_n 0, 1) := by decide +kernel
theorem dJ6_bitCount_0f7a4_35 : decode cJ6_bitCount_0f7a4 35 = .ok (.iload_n 0, 1) := by decide +kernel
theorem dJ6_bitCount_0f7a4_36 : decode cJ6_bitCount_0f7a4 36 = .ok (.bipush 8, 2) := by decide +kernel
theorem dJ6_bitCount_0f7a4_38 : decode cJ6_bitCount_0f7a4 38 = .ok (.iushr, 1) := by decide +kernel
theorem dJ6_bitCount_0f7a4_39 : decode cJ6_bitCount_0f7a4 39 = .ok (.iadd, 1) := by decide +kernel
theorem dJ6_bitCount_0f7a4_40 : decode cJ6_bitCount_0f7a4 40 = .ok (.istore_n 0, 1) := by decide +kernel
theorem dJ6_bitCount_0f7a4_41 : decode cJ6_bitCount_0f7a4 41 = .ok (.iload_n 0, 1) := by decide +kernel
theorem dJ6_bitCount_0f7a4_42 : decode cJ6_bitCount_0f7a4 42 = .ok (.iload_n 0, 1) := by decide +kernel
theorem dJ6_bitCount_0f7a4_43 : decode cJ6_bitCount_0f7a4 43 = .ok (.bipush 16, 2) := by decide +kernel
theorem dJ6_bitCount_0f7a4_45 : decode cJ6_bitCount_0f7a4 45 = .ok (.iushr, 1) := by decide +kernel
theorem dJ6_bitCount_0f7a4_46 : decode cJ6_bitCount_0f7a4 46 = .ok (.iadd, 1) := by decide +kernel
theorem dJ6_bitCount_0f7a4_47 : decode cJ6_bitCount_0f7a4 47 = .ok (.istore_n 0, 1) := by decide +kernel
theorem dJ6_bitCount_0f7a4_48 : decode cJ6_bitCount_0f7a4 48 = .ok (.iload_n 0, 1) := by decide +kernel
theorem dJ6_bitCount_0f7a4_49 : decode cJ6_bitCount_0f7a4 49 = .ok (.bipush 63, 2) := by decide +kernel
theorem dJ6_bitCount_0f7a4_51 : decode cJ6_bitCount_0f7a4 51 = .ok (.iand, 1) := by decide +kernel
theorem dJ6_bitCount_0f7a4_52 : decode cJ6_bitCount_0f7a4 52 = .ok (.ireturn, 1) := by decide +kernel
theorem dJ9_floorMod_7cf53_0 : decode cJ9_floorMod_7cf53 0 = .ok (.iload_n 0, 1) := by decide +kernel
theorem dJ9_floorMod_7cf53_1 : decode cJ9_floorMod_7cf53 1 = .ok (.iload_n 1, 1) := by decide +kernel
theorem dJ9_floorMod_7cf53_2 : decode cJ9_floorMod_7cf53 2 = .ok (.irem, 1) := by decide +kernel
theorem dJ9_floorMod_7cf53_3 : decode cJ9_floorMod_7cf53 3 = .ok (.istore_n 2, 1) := by decide +kernel
theorem dJ9_floorMod_7cf53_4 : decode cJ9_floorMod_7cf53 4 = .ok (.iload_n 0, 1) := by decide +kernel
theorem dJ9_floorMod_7cf53_5 : decode cJ9_floorMod_7cf53 5 = .ok (.iload_n 1, 1) := by decide +kernel
theorem dJ9_floorMod_7cf53_6 : decode cJ9_floorMod_7cf53 6 = .ok (.ixor, 1) := by decide +kernel
theorem dJ9_floorMod_7cf53_7 : decode cJ9_floorMod_7cf53 7 = .ok (.ifCond .ge 11, 3) := by decide +kernel
theorem dJ9_floorMod_7cf53_10 : decode cJ9_floorMod_7cf53 10 = .ok (.iload_n 2, 1) := by decide +kernel
theorem dJ9_floorMod_7cf53_11 : decode cJ9_floorMod_7cf53 11 = .ok (.ifCond .eq 7, 3) := by decide +kernel
theorem dJ9_floorMod_7cf53_14 : decode cJ9_floorMod_7cf53 14 = .ok (.iload_n 2, 1) := by decide +kernel
theorem dJ9_floorMod_7cf53_15 : decode cJ9_floorMod_7cf53 15 = .ok (.iload_n 1, 1) := by decide +kernel
theorem dJ9_floorMod_7cf53_16 : decode cJ9_floorMod_7cf53 16 = .ok (.iadd, 1) := by decide +kernel
theorem dJ9_floorMod_7cf53_17 : decode cJ9_floorMod_7cf53 17 = .ok (.ireturn, 1) := by decide +kernel
theorem dJ9_floorMod_7cf53_18 : decode cJ9_floorMod_7cf53 18 = .ok (.iload_n 2, 1) := by decide +kernel
theorem dJ9_floorMod_7cf53_19 : decode cJ9_floorMod_7cf53 19 = .ok (.ireturn, 1) := by decide +kernel
theorem dJ9_abs_0f7a4_0 : decode cJ9_abs_0f7a4 0 = .ok (.iload_n 0, 1) := by decide +kernel
theorem dJ9_abs_0f7a4_1 : decode cJ9_abs_0f7a4 1 = .ok (.ifCond .ge 8, 3) := by decide +kernel
theorem dJ9_abs_0f7a4_4 : decode cJ9_abs_0f7a4 4 = .ok (.iload_n 0, 1) := by decide +kernel
theorem dJ9_abs_0f7a4_5 : decode cJ9_abs_0f7a4 5 = .ok (.ineg, 1) := by decide +kernel
theorem dJ9_abs_0f7a4_6 : decode cJ9_abs_0f7a4 6 = .ok (.goto 4, 3) := by decide +kernel
theorem dJ9_abs_0f7a4_9 : decode cJ9_abs_0f7a4 9 = .ok (.iload_n 0, 1) := by decide +kernel
theorem dJ9_abs_0f7a4_10 : decode cJ9_abs_0f7a4 10 = .ok (.ireturn, 1) := by decide +kernel
theorem dJ9_max_7cf53_0 : decode cJ9_max_7cf53 0 = .ok (.iload_n 0, 1) := by decide +kernel
theorem dJ9_max_7cf53_1 : decode cJ9_max_7cf53 1 = .ok (.iload_n 1, 1) := by decide +kernel
theorem dJ9_max_7cf53_2 : decode cJ9_max_7cf53 2 = .ok (.if_icmp .lt 7, 3) := by decide +kernel
theorem dJ9_max_7cf53_5 : decode cJ9_max_7cf53 5 = .ok (.iload_n 0, 1) := by decide +kernel
theorem dJ9_max_7cf53_6 : decode cJ9_max_7cf53 6 = .ok (.goto 4, 3) := by decide +kernel
theorem dJ9_max_7cf53_9 : decode cJ9_max_7cf53 9 = .ok (.iload_n 1, 1) := by decide +kernel
theorem dJ9_max_7cf53_10 : decode cJ9_max_7cf53 10 = .ok (.ireturn, 1) := by decide +kernel
theorem dJ9_min_7cf53_0 : decode cJ9_min_7cf53 0 = .ok (.iload_n 0, 1) := by decide +kernel
theorem dJ9_min_7cf53_1 : decode cJ9_min_7cf53 1 = .ok (.iload_n 1, 1) := by decide +kernel
theorem dJ9_min_7cf53_2 : decode cJ9_min_7cf53 2 = .ok (.if_icmp .gt 7, 3) := by decide +kernel
theorem dJ9_min_7cf53_5 : decode cJ9_min_7cf53 5 = .ok (.iload_n 0, 1) := by decide +kernel
theorem dJ9_min_7cf53_6 : decode cJ9_min_7cf53 6 = .ok (.goto 4, 3) := by decide +kernel
theorem dJ9_min_7cf53_9 : decode cJ9_min_7cf53 9 = .ok (.iload_n 1, 1) := by decide +kernel
theorem dJ9_min_7cf53_10 : decode cJ9_min_7cf53 10 = .ok (.ireturn, 1) := by decide +kernel
theorem dL_cell_0 : decode cL_cell 0 = .ok (.iload_n 1, 1) := by decide +kernel
theorem dL_cell_1 : decode cL_cell 1 = .ok (.aload_n 0, 1) := by decide +kernel
theorem dL_cell_2 : decode cL_cell 2 = .ok (.arraylength, 1) := by decide +kernel
theorem dL_cell_3 : decode cL_cell 3 = .ok (.if_icmp .ge 9, 3) := by decide +kernel
theorem dL_cell_6 : decode cL_cell 6 = .ok (.aload_n 0, 1) := by decide +kernel
theorem dL_cell_7 : decode cL_cell 7 = .ok (.iload_n 1, 1) := by decide +kernel
theorem dL_cell_8 : decode cL_cell 8 = .ok (.iaload, 1) := by decide +kernel
theorem dL_cell_9 : decode cL_cell 9 = .ok (.goto 12, 3) := by decide +kernel
theorem dL_cell_12 : decode cL_cell 12 = .ok (.ldc 7, 2) := by decide +kernel
theorem dL_cell_14 : decode cL_cell 14 = .ok (.iload_n 1, 1) := by decide +kernel
theorem dL_cell_15 : decode cL_cell 15 = .ok (.iconst 1, 1) := by decide +kernel
theorem dL_cell_16 : decode cL_cell 16 = .ok (.iadd, 1) := by decide +kernel
theorem dL_cell_17 : decode cL_cell 17 = .ok (.imul, 1) := by decide +kernel
theorem dL_cell_18 : decode cL_cell 18 = .ok (.ldc 8, 2) := by decide +kernel
theorem dL_cell_20 : decode cL_cell 20 = .ok (.iadd, 1) := by decide +kernel
theorem dL_cell_21 : decode cL_cell 21 = .ok (.ireturn, 1) := by decide +kernel
theorem dL_low_0 : decode cL_low 0 = .ok (.iload_n 0, 1) := by decide +kernel
theorem dL_low_1 : decode cL_low 1 = .ok (.ldc 9, 2) := by decide +kernel
theorem dL_low_3 : decode cL_low 3 = .ok (.iand, 1) := by decide +kernel
theorem dL_low_4 : decode cL_low 4 = .ok (.iload_n 1, 1) := by decide +kernel
theorem dL_low_5 : decode cL_low 5 = .ok (.irem, 1) := by decide +kernel
theorem dL_low_6 : decode cL_low 6 = .ok (.ireturn, 1) := by decide +kernel
theorem dL_mem_0 : decode cL_mem 0 = .ok (.aload_n 1, 1) := by decide +kernel
theorem dL_mem_1 : decode cL_mem 1 = .ok (.iload_n 0, 1) := by decide +kernel
theorem dL_mem_2 : decode cL_mem 2 = .ok (.bipush 8, 2) := by decide +kernel
theorem dL_mem_4 : decode cL_mem 4 = .ok (.idiv, 1) := by decide +kernel
theorem dL_mem_5 : decode cL_mem 5 = .ok (.laload, 1) := by decide +kernel
theorem dL_mem_6 : decode cL_mem 6 = .ok (.bipush 8, 2) := by decide +kernel
theorem dL_mem_8 : decode cL_mem 8 = .ok (.iload_n 0, 1) := by decide +kernel
theorem dL_mem_9 : decode cL_mem 9 = .ok (.bipush 8, 2) := by decide +kernel
theorem dL_mem_11 : decode cL_mem 11 = .ok (.irem, 1) := by decide +kernel
theorem dL_mem_12 : decode cL_mem 12 = .ok (.imul, 1) := by decide +kernel
theorem dL_mem_13 : decode cL_mem 13 = .ok (.lshr, 1) := by decide +kernel
theorem dL_mem_14 : decode cL_mem 14 = .ok (.l2i, 1) := by decide +kernel
theorem dL_mem_15 : decode cL_mem 15 = .ok (.sipush 255, 3) := by decide +kernel
theorem dL_mem_18 : decode cL_mem 18 = .ok (.iand, 1) := by decide +kernel
theorem dL_mem_19 : decode cL_mem 19 = .ok (.ireturn, 1) := by decide +kernel
theorem dL_lay_0 : decode cL_lay 0 = .ok (.aload_n 2, 1) := by decide +kernel
theorem dL_lay_1 : decode cL_lay 1 = .ok (.iload_n 0, 1) := by decide +kernel
theorem dL_lay_2 : decode cL_lay 2 = .ok (.bipush 8, 2) := by decide +kernel
theorem dL_lay_4 : decode cL_lay 4 = .ok (.idiv, 1) := by decide +kernel
theorem dL_lay_5 : decode cL_lay 5 = .ok (.aload_n 2, 1) := by decide +kernel
theorem dL_lay_6 : decode cL_lay 6 = .ok (.iload_n 0, 1) := by decide +kernel
theorem dL_lay_7 : decode cL_lay 7 = .ok (.bipush 8, 2) := by decide +kernel
theorem dL_lay_9 : decode cL_lay 9 = .ok (.idiv, 1) := by decide +kernel
theorem dL_lay_10 : decode cL_lay 10 = .ok (.laload, 1) := by decide +kernel
theorem dL_lay_11 : decode cL_lay 11 = .ok (.ldc2_w 10, 3) := by decide +kernel
theorem dL_lay_14 : decode cL_lay 14 = .ok (.bipush 8, 2) := by decide +kernel
theorem dL_lay_16 : decode cL_lay 16 = .ok (.iload_n 0, 1) := by decide +kernel
theorem dL_lay_17 : decode cL_lay 17 = .ok (.bipush 8, 2) := by decide +kernel
theorem dL_lay_19 : decode cL_lay 19 = .ok (.irem, 1) := by decide +kernel
theorem dL_lay_20 : decode cL_lay 20 = .ok (.imul, 1) := by decide +kernel
theorem dL_lay_21 : decode cL_lay 21 = .ok (.lshl, 1) := by decide +kernel
theorem dL_lay_22 : decode cL_lay 22 = .ok (.ldc2_w 12, 3) := by decide +kernel
theorem dL_lay_25 : decode cL_lay 25 = .ok (.lxor, 1) := by decide +kernel
theorem dL_lay_26 : decode cL_lay 26 = .ok (.land, 1) := by decide +kernel
theorem dL_lay_27 : decode cL_lay 27 = .ok (.iload_n 1, 1) := by decide +kernel
theorem dL_lay_28 : decode cL_lay 28 = .ok (.i2l, 1) := by decide +kernel
theorem dL_lay_29 : decode cL_lay 29 = .ok (.bipush 8, 2) := by decide +kernel
theorem dL_lay_31 : decode cL_lay 31 = .ok (.iload_n 0, 1) := by decide +kernel
theorem dL_lay_32 : decode cL_lay 32 = .ok (.bipush 8, 2) := by decide +kernel
theorem dL_lay_34 : decode cL_lay 34 = .ok (.irem, 1) := by decide +kernel
theorem dL_lay_35 : decode cL_lay 35 = .ok (.imul, 1) := by decide +kernel
theorem dL_lay_36 : decode cL_lay 36 = .ok (.lshl, 1) := by decide +kernel
theorem dL_lay_37 : decode cL_lay 37 = .ok (.lor, 1) := by decide +kernel
theorem dL_lay_38 : decode cL_lay 38 = .ok (.lastore, 1) := by decide +kernel
theorem dL_lay_39 : decode cL_lay 39 = .ok (.return_, 1) := by decide +kernel
theorem dL_odd_0 : decode cL_odd 0 = .ok (.iconst 0, 1) := by decide +kernel
theorem dL_odd_1 : decode cL_odd 1 = .ok (.istore_n 1, 1) := by decide +kernel
theorem dL_odd_2 : decode cL_odd 2 = .ok (.iload_n 0, 1) := by decide +kernel
theorem dL_odd_3 : decode cL_odd 3 = .ok (.istore_n 2, 1) := by decide +kernel
theorem dL_odd_4 : decode cL_odd 4 = .ok (.iload_n 2, 1) := by decide +kernel
theorem dL_odd_5 : decode cL_odd 5 = .ok (.ifCond .eq 16, 3) := by decide +kernel
theorem dL_odd_8 : decode cL_odd 8 = .ok (.iload_n 1, 1) := by decide +kernel
theorem dL_odd_9 : decode cL_odd 9 = .ok (.iconst 1, 1) := by decide +kernel
theorem dL_odd_10 : decode cL_odd 10 = .ok (.ixor, 1) := by decide +kernel
theorem dL_odd_11 : decode cL_odd 11 = .ok (.istore_n 1, 1) := by decide +kernel
theorem dL_odd_12 : decode cL_odd 12 = .ok (.iload_n 2, 1) := by decide +kernel
theorem dL_odd_13 : decode cL_odd 13 = .ok (.iload_n 2, 1) := by decide +kernel
theorem dL_odd_14 : decode cL_odd 14 = .ok (.iconst 1, 1) := by decide +kernel
theorem dL_odd_15 : decode cL_odd 15 = .ok (.isub, 1) := by decide +kernel
theorem dL_odd_16 : decode cL_odd 16 = .ok (.iand, 1) := by decide +kernel
theorem dL_odd_17 : decode cL_odd 17 = .ok (.istore_n 2, 1) := by decide +kernel
theorem dL_odd_18 : decode cL_odd 18 = .ok (.goto (-14), 3) := by decide +kernel
theorem dL_odd_21 : decode cL_odd 21 = .ok (.iload_n 1, 1) := by decide +kernel
theorem dL_odd_22 : decode cL_odd 22 = .ok (.ireturn, 1) := by decide +kernel
theorem dL_size_0 : decode cL_size 0 = .ok (.bipush 13, 2) := by decide +kernel
theorem dL_size_2 : decode cL_size 2 = .ok (.bipush 9, 2) := by decide +kernel
theorem dL_size_4 : decode cL_size 4 = .ok (.aload_n 1, 1) := by decide +kernel
theorem dL_size_5 : decode cL_size 5 = .ok (.bipush 8, 2) := by decide +kernel
theorem dL_size_7 : decode cL_size 7 = .ok (.iload_n 0, 1) := by decide +kernel
theorem dL_size_8 : decode cL_size 8 = .ok (.imul, 1) := by decide +kernel
theorem dL_size_9 : decode cL_size 9 = .ok (.iconst 2, 1) := by decide +kernel
theorem dL_size_10 : decode cL_size 10 = .ok (.iadd, 1) := by decide +kernel
theorem dL_size_11 : decode cL_size 11 = .ok (.iaload, 1) := by decide +kernel
theorem dL_size_12 : decode cL_size 12 = .ok (.imul, 1) := by decide +kernel
theorem dL_size_13 : decode cL_size 13 = .ok (.iadd, 1) := by decide +kernel
theorem dL_size_14 : decode cL_size 14 = .ok (.ireturn, 1) := by decide +kernel
theorem dL_sum_0 : decode cL_sum 0 = .ok (.aload_n 1, 1) := by decide +kernel
theorem dL_sum_1 : decode cL_sum 1 = .ok (.bipush 8, 2) := by decide +kernel
theorem dL_sum_3 : decode cL_sum 3 = .ok (.iload_n 0, 1) := by decide +kernel
theorem dL_sum_4 : decode cL_sum 4 = .ok (.imul, 1) := by decide +kernel
theorem dL_sum_5 : decode cL_sum 5 = .ok (.iconst 4, 1) := by decide +kernel
theorem dL_sum_6 : decode cL_sum 6 = .ok (.iadd, 1) := by decide +kernel
theorem dL_sum_7 : decode cL_sum 7 = .ok (.iaload, 1) := by decide +kernel
theorem dL_sum_8 : decode cL_sum 8 = .ok (.aload_n 1, 1) := by decide +kernel
theorem dL_sum_9 : decode cL_sum 9 = .ok (.bipush 8, 2) := by decide +kernel
theorem dL_sum_11 : decode cL_sum 11 = .ok (.iload_n 0, 1) := by decide +kernel
theorem dL_sum_12 : decode cL_sum 12 = .ok (.imul, 1) := by decide +kernel
theorem dL_sum_13 : decode cL_sum 13 = .ok (.iconst 5, 1) := by decide +kernel
theorem dL_sum_14 : decode cL_sum 14 = .ok (.iadd, 1) := by decide +kernel
theorem dL_sum_15 : decode cL_sum 15 = .ok (.iaload, 1) := by decide +kernel
theorem dL_sum_16 : decode cL_sum 16 = .ok (.iadd, 1) := by decide +kernel
theorem dL_sum_17 : decode cL_sum 17 = .ok (.aload_n 1, 1) := by decide +kernel
theorem dL_sum_18 : decode cL_sum 18 = .ok (.bipush 8, 2) := by decide +kernel
theorem dL_sum_20 : decode cL_sum 20 = .ok (.iload_n 0, 1) := by decide +kernel
theorem dL_sum_21 : decode cL_sum 21 = .ok (.imul, 1) := by decide +kernel
theorem dL_sum_22 : decode cL_sum 22 = .ok (.bipush 6, 2) := by decide +kernel
theorem dL_sum_24 : decode cL_sum 24 = .ok (.iadd, 1) := by decide +kernel
theorem dL_sum_25 : decode cL_sum 25 = .ok (.iaload, 1) := by decide +kernel
theorem dL_sum_26 : decode cL_sum 26 = .ok (.iadd, 1) := by decide +kernel
theorem dL_sum_27 : decode cL_sum 27 = .ok (.sipush 255, 3) := by decide +kernel
theorem dL_sum_30 : decode cL_sum 30 = .ok (.iand, 1) := by decide +kernel
theorem dL_sum_31 : decode cL_sum 31 = .ok (.ireturn, 1) := by decide +kernel
set_option maxRecDepth 20000 in
theorem ggL_nine_L_sum : GoodIn wsL_nine wsL_sum := goodIn_r _ [4] (by decide +kernel) (by decide +kernel)
set_option maxRecDepth 20000 in
theorem gL_nine_L_sum : GoodIn wsL_nine (va_wsS RL 14 yL_sum wsL_sum) := goodIn_app (goodIn_of _ (by decide +kernel)) ggL_nine_L_sum
set_option maxRecDepth 20000 in
theorem ggL_nine_L_odd : GoodIn wsL_nine wsL_odd := goodIn_r _ [7] (by decide +kernel) (by decide +kernel)
set_option maxRecDepth 20000 in
theorem gL_nine_L_odd : GoodIn wsL_nine (va_wsS RL 20 yL_odd wsL_odd) := goodIn_app (goodIn_of _ (by decide +kernel)) ggL_nine_L_odd
set_option maxRecDepth 20000 in
theorem ggL_nine_L_size : GoodIn wsL_nine wsL_size := goodIn_r _ [10] (by decide +kernel) (by decide +kernel)
set_option maxRecDepth 20000 in
theorem gL_nine_L_size : GoodIn wsL_nine (va_wsS RL 24 yL_size wsL_size) := goodIn_app (goodIn_of _ (by decide +kernel)) ggL_nine_L_size
set_option maxRecDepth 20000 in
theorem ggL_nine_L_mem : GoodIn wsL_nine wsL_mem := goodIn_r _ [13] (by decide +kernel) (by decide +kernel)
set_option maxRecDepth 20000 in
theorem gL_nine_L_mem : GoodIn wsL_nine (va_wsS RL 27 yL_mem wsL_mem) := goodIn_app (goodIn_of _ (by decide +kernel)) ggL_nine_L_mem
theorem dL_nine_0 : decode cL_nine 0 = .ok (.iload_n 2, 1) := by decide +kernel
theorem dL_nine_1 : decode cL_nine 1 = .ok (.aload_n 3, 1) := by decide +kernel
theorem dL_nine_2 : decode cL_nine 2 = .ok (.bipush 8, 2) := by decide +kernel
theorem dL_nine_4 : decode cL_nine 4 = .ok (.iload_n 0, 1) := by decide +kernel
theorem dL_nine_5 : decode cL_nine 5 = .ok (.imul, 1) := by decide +kernel
theorem dL_nine_6 : decode cL_nine 6 = .ok (.iconst 2, 1) := by decide +kernel
theorem dL_nine_7 : decode cL_nine 7 = .ok (.iadd, 1) := by decide +kernel
theorem dL_nine_8 : decode cL_nine 8 = .ok (.iaload, 1) := by decide +kernel
theorem dL_nine_9 : decode cL_nine 9 = .ok (.if_icmp .ne 11, 3) := by decide +kernel
theorem dL_nine_12 : decode cL_nine 12 = .ok (.iload_n 0, 1) := by decide +kernel
theorem dL_nine_13 : decode cL_nine 13 = .ok (.aload_n 3, 1) := by decide +kernel
theorem dL_nine_14 : decode cL_nine 14 = .ok (.invokestatic 14, 3) := by decide +kernel
theorem dL_nine_17 : decode cL_nine 17 = .ok (.goto 13, 3) := by decide +kernel
theorem dL_nine_20 : decode cL_nine 20 = .ok (.aload_n 3, 1) := by decide +kernel
theorem dL_nine_21 : decode cL_nine 21 = .ok (.bipush 8, 2) := by decide +kernel
theorem dL_nine_23 : decode cL_nine 23 = .ok (.iload_n 0, 1) := by decide +kernel
theorem dL_nine_24 : decode cL_nine 24 = .ok (.imul, 1) := by decide +kernel
theorem dL_nine_25 : decode cL_nine 25 = .ok (.iconst 4, 1) := by decide +kernel
theorem dL_nine_26 : decode cL_nine 26 = .ok (.iadd, 1) := by decide +kernel
theorem dL_nine_27 : decode cL_nine 27 = .ok (.iload_n 2, 1) := by decide +kernel
theorem dL_nine_28 : decode cL_nine 28 = .ok (.iadd, 1) := by decide +kernel
theorem dL_nine_29 : decode cL_nine 29 = .ok (.iaload, 1) := by decide +kernel
theorem dL_nine_30 : decode cL_nine 30 = .ok (.istore 5, 2) := by decide +kernel
theorem dL_nine_32 : decode cL_nine 32 = .ok (.iload 5, 2) := by decide +kernel
theorem dL_nine_34 : decode cL_nine 34 = .ok (.iload 5, 2) := by decide +kernel
theorem dL_nine_36 : decode cL_nine 36 = .ok (.invokestatic 20, 3) := by decide +kernel
theorem dL_nine_39 : decode cL_nine 39 = .ok (.bipush 8, 2) := by decide +kernel
theorem dL_nine_41 : decode cL_nine 41 = .ok (.ishl, 1) := by decide +kernel
theorem dL_nine_42 : decode cL_nine 42 = .ok (.ior, 1) := by decide +kernel
theorem dL_nine_43 : decode cL_nine 43 = .ok (.istore 6, 2) := by decide +kernel
theorem dL_nine_45 : decode cL_nine 45 = .ok (.aload_n 3, 1) := by decide +kernel
theorem dL_nine_46 : decode cL_nine 46 = .ok (.bipush 8, 2) := by decide +kernel
theorem dL_nine_48 : decode cL_nine 48 = .ok (.iload_n 0, 1) := by decide +kernel
theorem dL_nine_49 : decode cL_nine 49 = .ok (.imul, 1) := by decide +kernel
theorem dL_nine_50 : decode cL_nine 50 = .ok (.iconst 3, 1) := by decide +kernel
theorem dL_nine_51 : decode cL_nine 51 = .ok (.iadd, 1) := by decide +kernel
theorem dL_nine_52 : decode cL_nine 52 = .ok (.iaload, 1) := by decide +kernel
theorem dL_nine_53 : decode cL_nine 53 = .ok (.iload_n 1, 1) := by decide +kernel
theorem dL_nine_54 : decode cL_nine 54 = .ok (.iload_n 0, 1) := by decide +kernel
theorem dL_nine_55 : decode cL_nine 55 = .ok (.aload_n 3, 1) := by decide +kernel
theorem dL_nine_56 : decode cL_nine 56 = .ok (.invokestatic 24, 3) := by decide +kernel
theorem dL_nine_59 : decode cL_nine 59 = .ok (.imul, 1) := by decide +kernel
theorem dL_nine_60 : decode cL_nine 60 = .ok (.iadd, 1) := by decide +kernel
theorem dL_nine_61 : decode cL_nine 61 = .ok (.iconst 4, 1) := by decide +kernel
theorem dL_nine_62 : decode cL_nine 62 = .ok (.iadd, 1) := by decide +kernel
theorem dL_nine_63 : decode cL_nine 63 = .ok (.bipush 9, 2) := by decide +kernel
theorem dL_nine_65 : decode cL_nine 65 = .ok (.iload_n 2, 1) := by decide +kernel
theorem dL_nine_66 : decode cL_nine 66 = .ok (.imul, 1) := by decide +kernel
theorem dL_nine_67 : decode cL_nine 67 = .ok (.iadd, 1) := by decide +kernel
theorem dL_nine_68 : decode cL_nine 68 = .ok (.istore 7, 2) := by decide +kernel
theorem dL_nine_70 : decode cL_nine 70 = .ok (.iconst 0, 1) := by decide +kernel
theorem dL_nine_71 : decode cL_nine 71 = .ok (.istore 8, 2) := by decide +kernel
theorem dL_nine_73 : decode cL_nine 73 = .ok (.iload 8, 2) := by decide +kernel
theorem dL_nine_75 : decode cL_nine 75 = .ok (.bipush 9, 2) := by decide +kernel
theorem dL_nine_77 : decode cL_nine 77 = .ok (.if_icmp .ge 31, 3) := by decide +kernel
theorem dL_nine_80 : decode cL_nine 80 = .ok (.iload 6, 2) := by decide +kernel
theorem dL_nine_82 : decode cL_nine 82 = .ok (.iload 7, 2) := by decide +kernel
theorem dL_nine_84 : decode cL_nine 84 = .ok (.iload 8, 2) := by decide +kernel
theorem dL_nine_86 : decode cL_nine 86 = .ok (.iadd, 1) := by decide +kernel
theorem dL_nine_87 : decode cL_nine 87 = .ok (.aload 4, 2) := by decide +kernel
theorem dL_nine_89 : decode cL_nine 89 = .ok (.invokestatic 27, 3) := by decide +kernel
theorem dL_nine_92 : decode cL_nine 92 = .ok (.sipush 128, 3) := by decide +kernel
theorem dL_nine_95 : decode cL_nine 95 = .ok (.idiv, 1) := by decide +kernel
theorem dL_nine_96 : decode cL_nine 96 = .ok (.iload 8, 2) := by decide +kernel
theorem dL_nine_98 : decode cL_nine 98 = .ok (.ishl, 1) := by decide +kernel
theorem dL_nine_99 : decode cL_nine 99 = .ok (.ixor, 1) := by decide +kernel
theorem dL_nine_100 : decode cL_nine 100 = .ok (.istore 6, 2) := by decide +kernel
theorem dL_nine_102 : decode cL_nine 102 = .ok (.iinc 8 1, 3) := by decide +kernel
theorem dL_nine_105 : decode cL_nine 105 = .ok (.goto (-32), 3) := by decide +kernel
theorem dL_nine_108 : decode cL_nine 108 = .ok (.iload 6, 2) := by decide +kernel
theorem dL_nine_110 : decode cL_nine 110 = .ok (.ireturn, 1) := by decide +kernel
set_option maxRecDepth 20000 in
theorem ggL_byteOf_L_size : GoodIn wsL_byteOf wsL_size := goodIn_r _ [4] (by decide +kernel) (by decide +kernel)
set_option maxRecDepth 20000 in
theorem gL_byteOf_L_size : GoodIn wsL_byteOf (va_wsS RL 24 yL_size wsL_size) := goodIn_app (goodIn_of _ (by decide +kernel)) ggL_byteOf_L_size
set_option maxRecDepth 20000 in
theorem ggL_byteOf_L_mem : GoodIn wsL_byteOf wsL_mem := goodIn_r _ [7] (by decide +kernel) (by decide +kernel)
set_option maxRecDepth 20000 in
theorem gL_byteOf_L_mem : GoodIn wsL_byteOf (va_wsS RL 27 yL_mem wsL_mem) := goodIn_app (goodIn_of _ (by decide +kernel)) ggL_byteOf_L_mem
set_option maxRecDepth 20000 in
theorem ggL_byteOf_L_nine : GoodIn wsL_byteOf wsL_nine := goodIn_r _ [10, 11, 12, 3, 13, 14, 15, 16, 1, 2, 4, 5, 6, 7] (by decide +kernel) (by decide +kernel)
set_option maxRecDepth 20000 in
theorem gL_byteOf_L_nine : GoodIn wsL_byteOf (va_wsS RL 31 yL_nine wsL_nine) := goodIn_app (goodIn_of _ (by decide +kernel)) ggL_byteOf_L_nine
set_option maxRecDepth 20000 in
theorem ggL_byteOf_L_odd : GoodIn wsL_byteOf wsL_odd := goodIn_r _ [16] (by decide +kernel) (by decide +kernel)
set_option maxRecDepth 20000 in
theorem gL_byteOf_L_odd : GoodIn wsL_byteOf (va_wsS RL 20 yL_odd wsL_odd) := goodIn_app (goodIn_of _ (by decide +kernel)) ggL_byteOf_L_odd
theorem dL_byteOf_0 : decode cL_byteOf 0 = .ok (.aload 4, 2) := by decide +kernel
theorem dL_byteOf_2 : decode cL_byteOf 2 = .ok (.bipush 8, 2) := by decide +kernel
theorem dL_byteOf_4 : decode cL_byteOf 4 = .ok (.iload_n 0, 1) := by decide +kernel
theorem dL_byteOf_5 : decode cL_byteOf 5 = .ok (.imul, 1) := by decide +kernel
theorem dL_byteOf_6 : decode cL_byteOf 6 = .ok (.iconst 3, 1) := by decide +kernel
theorem dL_byteOf_7 : decode cL_byteOf 7 = .ok (.iadd, 1) := by decide +kernel
theorem dL_byteOf_8 : decode cL_byteOf 8 = .ok (.iaload, 1) := by decide +kernel
theorem dL_byteOf_9 : decode cL_byteOf 9 = .ok (.iload_n 1, 1) := by decide +kernel
theorem dL_byteOf_10 : decode cL_byteOf 10 = .ok (.iload_n 0, 1) := by decide +kernel
theorem dL_byteOf_11 : decode cL_byteOf 11 = .ok (.aload 4, 2) := by decide +kernel
theorem dL_byteOf_13 : decode cL_byteOf 13 = .ok (.invokestatic 24, 3) := by decide +kernel
theorem dL_byteOf_16 : decode cL_byteOf 16 = .ok (.imul, 1) := by decide +kernel
theorem dL_byteOf_17 : decode cL_byteOf 17 = .ok (.iadd, 1) := by decide +kernel
theorem dL_byteOf_18 : decode cL_byteOf 18 = .ok (.iconst 4, 1) := by decide +kernel
theorem dL_byteOf_19 : decode cL_byteOf 19 = .ok (.iadd, 1) := by decide +kernel
theorem dL_byteOf_20 : decode cL_byteOf 20 = .ok (.bipush 9, 2) := by decide +kernel
theorem dL_byteOf_22 : decode cL_byteOf 22 = .ok (.iload_n 2, 1) := by decide +kernel
theorem dL_byteOf_23 : decode cL_byteOf 23 = .ok (.imul, 1) := by decide +kernel
theorem dL_byteOf_24 : decode cL_byteOf 24 = .ok (.iadd, 1) := by decide +kernel
theorem dL_byteOf_25 : decode cL_byteOf 25 = .ok (.istore 6, 2) := by decide +kernel
theorem dL_byteOf_27 : decode cL_byteOf 27 = .ok (.iconst 0, 1) := by decide +kernel
theorem dL_byteOf_28 : decode cL_byteOf 28 = .ok (.istore 7, 2) := by decide +kernel
theorem dL_byteOf_30 : decode cL_byteOf 30 = .ok (.iload 7, 2) := by decide +kernel
theorem dL_byteOf_32 : decode cL_byteOf 32 = .ok (.bipush 9, 2) := by decide +kernel
theorem dL_byteOf_34 : decode cL_byteOf 34 = .ok (.if_icmp .ge 30, 3) := by decide +kernel
theorem dL_byteOf_37 : decode cL_byteOf 37 = .ok (.iload 6, 2) := by decide +kernel
theorem dL_byteOf_39 : decode cL_byteOf 39 = .ok (.iload 7, 2) := by decide +kernel
theorem dL_byteOf_41 : decode cL_byteOf 41 = .ok (.iadd, 1) := by decide +kernel
theorem dL_byteOf_42 : decode cL_byteOf 42 = .ok (.aload 5, 2) := by decide +kernel
theorem dL_byteOf_44 : decode cL_byteOf 44 = .ok (.invokestatic 27, 3) := by decide +kernel
theorem dL_byteOf_47 : decode cL_byteOf 47 = .ok (.sipush 128, 3) := by decide +kernel
theorem dL_byteOf_50 : decode cL_byteOf 50 = .ok (.irem, 1) := by decide +kernel
theorem dL_byteOf_51 : decode cL_byteOf 51 = .ok (.iload_n 3, 1) := by decide +kernel
theorem dL_byteOf_52 : decode cL_byteOf 52 = .ok (.if_icmp .ge 6, 3) := by decide +kernel
theorem dL_byteOf_55 : decode cL_byteOf 55 = .ok (.bipush (-6), 2) := by decide +kernel
theorem dL_byteOf_57 : decode cL_byteOf 57 = .ok (.ireturn, 1) := by decide +kernel
theorem dL_byteOf_58 : decode cL_byteOf 58 = .ok (.iinc 7 1, 3) := by decide +kernel
theorem dL_byteOf_61 : decode cL_byteOf 61 = .ok (.goto (-31), 3) := by decide +kernel
theorem dL_byteOf_64 : decode cL_byteOf 64 = .ok (.iload_n 0, 1) := by decide +kernel
theorem dL_byteOf_65 : decode cL_byteOf 65 = .ok (.iload_n 1, 1) := by decide +kernel
theorem dL_byteOf_66 : decode cL_byteOf 66 = .ok (.iload_n 2, 1) := by decide +kernel
theorem dL_byteOf_67 : decode cL_byteOf 67 = .ok (.aload 4, 2) := by decide +kernel
theorem dL_byteOf_69 : decode cL_byteOf 69 = .ok (.aload 5, 2) := by decide +kernel
theorem dL_byteOf_71 : decode cL_byteOf 71 = .ok (.invokestatic 31, 3) := by decide +kernel
theorem dL_byteOf_74 : decode cL_byteOf 74 = .ok (.istore 7, 2) := by decide +kernel
theorem dL_byteOf_76 : decode cL_byteOf 76 = .ok (.iload 7, 2) := by decide +kernel
theorem dL_byteOf_78 : decode cL_byteOf 78 = .ok (.invokestatic 20, 3) := by decide +kernel
theorem dL_byteOf_81 : decode cL_byteOf 81 = .ok (.ifCond .ne 12, 3) := by decide +kernel
theorem dL_byteOf_84 : decode cL_byteOf 84 = .ok (.iload 7, 2) := by decide +kernel
theorem dL_byteOf_86 : decode cL_byteOf 86 = .ok (.sipush 255, 3) := by decide +kernel
theorem dL_byteOf_89 : decode cL_byteOf 89 = .ok (.iand, 1) := by decide +kernel
theorem dL_byteOf_90 : decode cL_byteOf 90 = .ok (.goto 5, 3) := by decide +kernel
theorem dL_byteOf_93 : decode cL_byteOf 93 = .ok (.bipush (-6), 2) := by decide +kernel
theorem dL_byteOf_95 : decode cL_byteOf 95 = .ok (.ireturn, 1) := by decide +kernel
set_option maxRecDepth 20000 in
theorem ggL_lost_L_size : GoodIn wsL_lost wsL_size := goodIn_r _ [4] (by decide +kernel) (by decide +kernel)
set_option maxRecDepth 20000 in
theorem gL_lost_L_size : GoodIn wsL_lost (va_wsS RL 24 yL_size wsL_size) := goodIn_app (goodIn_of _ (by decide +kernel)) ggL_lost_L_size
set_option maxRecDepth 20000 in
theorem ggL_lost_L_mem : GoodIn wsL_lost wsL_mem := goodIn_r _ [7] (by decide +kernel) (by decide +kernel)
set_option maxRecDepth 20000 in
theorem gL_lost_L_mem : GoodIn wsL_lost (va_wsS RL 27 yL_mem wsL_mem) := goodIn_app (goodIn_of _ (by decide +kernel)) ggL_lost_L_mem
theorem dL_lost_0 : decode cL_lost 0 = .ok (.iconst 0, 1) := by decide +kernel
theorem dL_lost_1 : decode cL_lost 1 = .ok (.istore 5, 2) := by decide +kernel
theorem dL_lost_3 : decode cL_lost 3 = .ok (.iconst 0, 1) := by decide +kernel
theorem dL_lost_4 : decode cL_lost 4 = .ok (.istore 6, 2) := by decide +kernel
theorem dL_lost_6 : decode cL_lost 6 = .ok (.iload 6, 2) := by decide +kernel
theorem dL_lost_8 : decode cL_lost 8 = .ok (.iconst 4, 1) := by decide +kernel
theorem dL_lost_9 : decode cL_lost 9 = .ok (.if_icmp .ge 51, 3) := by decide +kernel
theorem dL_lost_12 : decode cL_lost 12 = .ok (.iload 5, 2) := by decide +kernel
theorem dL_lost_14 : decode cL_lost 14 = .ok (.aload_n 3, 1) := by decide +kernel
theorem dL_lost_15 : decode cL_lost 15 = .ok (.bipush 8, 2) := by decide +kernel
theorem dL_lost_17 : decode cL_lost 17 = .ok (.iload_n 0, 1) := by decide +kernel
theorem dL_lost_18 : decode cL_lost 18 = .ok (.imul, 1) := by decide +kernel
theorem dL_lost_19 : decode cL_lost 19 = .ok (.iconst 3, 1) := by decide +kernel
theorem dL_lost_20 : decode cL_lost 20 = .ok (.iadd, 1) := by decide +kernel
theorem dL_lost_21 : decode cL_lost 21 = .ok (.iaload, 1) := by decide +kernel
theorem dL_lost_22 : decode cL_lost 22 = .ok (.iload_n 1, 1) := by decide +kernel
theorem dL_lost_23 : decode cL_lost 23 = .ok (.iload_n 0, 1) := by decide +kernel
theorem dL_lost_24 : decode cL_lost 24 = .ok (.aload_n 3, 1) := by decide +kernel
theorem dL_lost_25 : decode cL_lost 25 = .ok (.invokestatic 24, 3) := by decide +kernel
theorem dL_lost_28 : decode cL_lost 28 = .ok (.imul, 1) := by decide +kernel
theorem dL_lost_29 : decode cL_lost 29 = .ok (.iadd, 1) := by decide +kernel
theorem dL_lost_30 : decode cL_lost 30 = .ok (.iload 6, 2) := by decide +kernel
theorem dL_lost_32 : decode cL_lost 32 = .ok (.iadd, 1) := by decide +kernel
theorem dL_lost_33 : decode cL_lost 33 = .ok (.aload 4, 2) := by decide +kernel
theorem dL_lost_35 : decode cL_lost 35 = .ok (.invokestatic 27, 3) := by decide +kernel
theorem dL_lost_38 : decode cL_lost 38 = .ok (.sipush 128, 3) := by decide +kernel
theorem dL_lost_41 : decode cL_lost 41 = .ok (.irem, 1) := by decide +kernel
theorem dL_lost_42 : decode cL_lost 42 = .ok (.iload_n 2, 1) := by decide +kernel
theorem dL_lost_43 : decode cL_lost 43 = .ok (.if_icmp .lt 7, 3) := by decide +kernel
theorem dL_lost_46 : decode cL_lost 46 = .ok (.iconst 1, 1) := by decide +kernel
theorem dL_lost_47 : decode cL_lost 47 = .ok (.goto 4, 3) := by decide +kernel
theorem dL_lost_50 : decode cL_lost 50 = .ok (.iconst 0, 1) := by decide +kernel
theorem dL_lost_51 : decode cL_lost 51 = .ok (.iadd, 1) := by decide +kernel
theorem dL_lost_52 : decode cL_lost 52 = .ok (.istore 5, 2) := by decide +kernel
theorem dL_lost_54 : decode cL_lost 54 = .ok (.iinc 6 1, 3) := by decide +kernel
theorem dL_lost_57 : decode cL_lost 57 = .ok (.goto (-51), 3) := by decide +kernel
theorem dL_lost_60 : decode cL_lost 60 = .ok (.iload 5, 2) := by decide +kernel
theorem dL_lost_62 : decode cL_lost 62 = .ok (.iconst 2, 1) := by decide +kernel
theorem dL_lost_63 : decode cL_lost 63 = .ok (.if_icmp .ge 7, 3) := by decide +kernel
theorem dL_lost_66 : decode cL_lost 66 = .ok (.iconst 1, 1) := by decide +kernel
theorem dL_lost_67 : decode cL_lost 67 = .ok (.goto 4, 3) := by decide +kernel
theorem dL_lost_70 : decode cL_lost 70 = .ok (.iconst 0, 1) := by decide +kernel
theorem dL_lost_71 : decode cL_lost 71 = .ok (.ireturn, 1) := by decide +kernel
set_option maxRecDepth 20000 in
theorem ggL_how_L_lost : GoodIn wsL_how wsL_lost := goodIn_r _ [4, 5, 6, 3, 7, 8, 9, 10] (by decide +kernel) (by decide +kernel)
set_option maxRecDepth 20000 in
theorem gL_how_L_lost : GoodIn wsL_how (va_wsS RL 35 yL_lost wsL_lost) := goodIn_app (goodIn_of _ (by decide +kernel)) ggL_how_L_lost
set_option maxRecDepth 20000 in
theorem ggL_how_L_byteOf : GoodIn wsL_how wsL_byteOf := goodIn_r _ [13, 5, 6, 3, 7, 8, 9, 10, 14, 15, 16, 17, 18, 19, 20, 21, 22] (by decide +kernel) (by decide +kernel)
set_option maxRecDepth 20000 in
theorem gL_how_L_byteOf : GoodIn wsL_how (va_wsS RL 39 yL_byteOf wsL_byteOf) := goodIn_app (goodIn_of _ (by decide +kernel)) ggL_how_L_byteOf
theorem dL_how_0 : decode cL_how 0 = .ok (.iload_n 0, 1) := by decide +kernel
theorem dL_how_1 : decode cL_how 1 = .ok (.iload_n 1, 1) := by decide +kernel
theorem dL_how_2 : decode cL_how 2 = .ok (.iload_n 2, 1) := by decide +kernel
theorem dL_how_3 : decode cL_how 3 = .ok (.aload_n 3, 1) := by decide +kernel
theorem dL_how_4 : decode cL_how 4 = .ok (.aload 4, 2) := by decide +kernel
theorem dL_how_6 : decode cL_how 6 = .ok (.invokestatic 35, 3) := by decide +kernel
theorem dL_how_9 : decode cL_how 9 = .ok (.ifCond .eq 5, 3) := by decide +kernel
theorem dL_how_12 : decode cL_how 12 = .ok (.iconst 1, 1) := by decide +kernel
theorem dL_how_13 : decode cL_how 13 = .ok (.ireturn, 1) := by decide +kernel
theorem dL_how_14 : decode cL_how 14 = .ok (.iconst 0, 1) := by decide +kernel
theorem dL_how_15 : decode cL_how 15 = .ok (.istore 5, 2) := by decide +kernel
theorem dL_how_17 : decode cL_how 17 = .ok (.iconst 0, 1) := by decide +kernel
theorem dL_how_18 : decode cL_how 18 = .ok (.istore 6, 2) := by decide +kernel
theorem dL_how_20 : decode cL_how 20 = .ok (.iload 6, 2) := by decide +kernel
theorem dL_how_22 : decode cL_how 22 = .ok (.aload_n 3, 1) := by decide +kernel
theorem dL_how_23 : decode cL_how 23 = .ok (.bipush 8, 2) := by decide +kernel
theorem dL_how_25 : decode cL_how 25 = .ok (.iload_n 0, 1) := by decide +kernel
theorem dL_how_26 : decode cL_how 26 = .ok (.imul, 1) := by decide +kernel
theorem dL_how_27 : decode cL_how 27 = .ok (.iconst 2, 1) := by decide +kernel
theorem dL_how_28 : decode cL_how 28 = .ok (.iadd, 1) := by decide +kernel
theorem dL_how_29 : decode cL_how 29 = .ok (.iaload, 1) := by decide +kernel
theorem dL_how_30 : decode cL_how 30 = .ok (.if_icmp .ge 36, 3) := by decide +kernel
theorem dL_how_33 : decode cL_how 33 = .ok (.iload_n 0, 1) := by decide +kernel
theorem dL_how_34 : decode cL_how 34 = .ok (.iload_n 1, 1) := by decide +kernel
theorem dL_how_35 : decode cL_how 35 = .ok (.iload 6, 2) := by decide +kernel
theorem dL_how_37 : decode cL_how 37 = .ok (.iload_n 2, 1) := by decide +kernel
theorem dL_how_38 : decode cL_how 38 = .ok (.aload_n 3, 1) := by decide +kernel
theorem dL_how_39 : decode cL_how 39 = .ok (.aload 4, 2) := by decide +kernel
theorem dL_how_41 : decode cL_how 41 = .ok (.invokestatic 39, 3) := by decide +kernel
theorem dL_how_44 : decode cL_how 44 = .ok (.istore 7, 2) := by decide +kernel
theorem dL_how_46 : decode cL_how 46 = .ok (.iload 7, 2) := by decide +kernel
theorem dL_how_48 : decode cL_how 48 = .ok (.ifCond .ge 5, 3) := by decide +kernel
theorem dL_how_51 : decode cL_how 51 = .ok (.iconst 2, 1) := by decide +kernel
theorem dL_how_52 : decode cL_how 52 = .ok (.ireturn, 1) := by decide +kernel
theorem dL_how_53 : decode cL_how 53 = .ok (.iload 5, 2) := by decide +kernel
theorem dL_how_55 : decode cL_how 55 = .ok (.iload 7, 2) := by decide +kernel
theorem dL_how_57 : decode cL_how 57 = .ok (.iadd, 1) := by decide +kernel
theorem dL_how_58 : decode cL_how 58 = .ok (.istore 5, 2) := by decide +kernel
theorem dL_how_60 : decode cL_how 60 = .ok (.iinc 6 1, 3) := by decide +kernel
theorem dL_how_63 : decode cL_how 63 = .ok (.goto (-43), 3) := by decide +kernel
theorem dL_how_66 : decode cL_how 66 = .ok (.iload_n 0, 1) := by decide +kernel
theorem dL_how_67 : decode cL_how 67 = .ok (.iload_n 1, 1) := by decide +kernel
theorem dL_how_68 : decode cL_how 68 = .ok (.aload_n 3, 1) := by decide +kernel
theorem dL_how_69 : decode cL_how 69 = .ok (.bipush 8, 2) := by decide +kernel
theorem dL_how_71 : decode cL_how 71 = .ok (.iload_n 0, 1) := by decide +kernel
theorem dL_how_72 : decode cL_how 72 = .ok (.imul, 1) := by decide +kernel
theorem dL_how_73 : decode cL_how 73 = .ok (.iconst 2, 1) := by decide +kernel
theorem dL_how_74 : decode cL_how 74 = .ok (.iadd, 1) := by decide +kernel
theorem dL_how_75 : decode cL_how 75 = .ok (.iaload, 1) := by decide +kernel
theorem dL_how_76 : decode cL_how 76 = .ok (.iload_n 2, 1) := by decide +kernel
theorem dL_how_77 : decode cL_how 77 = .ok (.aload_n 3, 1) := by decide +kernel
theorem dL_how_78 : decode cL_how 78 = .ok (.aload 4, 2) := by decide +kernel
theorem dL_how_80 : decode cL_how 80 = .ok (.invokestatic 39, 3) := by decide +kernel
theorem dL_how_83 : decode cL_how 83 = .ok (.iload 5, 2) := by decide +kernel
theorem dL_how_85 : decode cL_how 85 = .ok (.sipush 255, 3) := by decide +kernel
theorem dL_how_88 : decode cL_how 88 = .ok (.iand, 1) := by decide +kernel
theorem dL_how_89 : decode cL_how 89 = .ok (.if_icmp .ne 7, 3) := by decide +kernel
theorem dL_how_92 : decode cL_how 92 = .ok (.iconst 0, 1) := by decide +kernel
theorem dL_how_93 : decode cL_how 93 = .ok (.goto 4, 3) := by decide +kernel
theorem dL_how_96 : decode cL_how 96 = .ok (.iconst 3, 1) := by decide +kernel
theorem dL_how_97 : decode cL_how 97 = .ok (.ireturn, 1) := by decide +kernel
set_option maxRecDepth 20000 in
theorem ggL_load_L_how : GoodIn wsL_load wsL_how := goodIn_r _ [5, 6, 7, 4, 8, 9, 10, 11, 12, 13, 14, 15, 16, 17, 18, 19, 20, 21, 22, 23, 24, 25, 26] (by decide +kernel) (by decide +kernel)
set_option maxRecDepth 20000 in
theorem gL_load_L_how : GoodIn wsL_load (va_wsS RL 43 yL_how wsL_how) := goodIn_app (goodIn_of _ (by decide +kernel)) ggL_load_L_how
set_option maxRecDepth 20000 in
theorem ggL_load_L_lost : GoodIn wsL_load wsL_lost := goodIn_r _ [8, 9, 10, 4, 11, 12, 13, 14] (by decide +kernel) (by decide +kernel)
set_option maxRecDepth 20000 in
theorem gL_load_L_lost : GoodIn wsL_load (va_wsS RL 35 yL_lost wsL_lost) := goodIn_app (goodIn_of _ (by decide +kernel)) ggL_load_L_lost
set_option maxRecDepth 20000 in
theorem ggL_load_L_byteOf : GoodIn wsL_load wsL_byteOf := goodIn_r _ [17, 9, 10, 4, 11, 12, 13, 14, 18, 19, 20, 21, 22, 23, 24, 25, 26] (by decide +kernel) (by decide +kernel)
set_option maxRecDepth 20000 in
theorem gL_load_L_byteOf : GoodIn wsL_load (va_wsS RL 39 yL_byteOf wsL_byteOf) := goodIn_app (goodIn_of _ (by decide +kernel)) ggL_load_L_byteOf
theorem dL_load_0 : decode cL_load 0 = .ok (.aload_n 2, 1) := by decide +kernel
theorem dL_load_1 : decode cL_load 1 = .ok (.bipush 8, 2) := by decide +kernel
theorem dL_load_3 : decode cL_load 3 = .ok (.iload_n 0, 1) := by decide +kernel
theorem dL_load_4 : decode cL_load 4 = .ok (.imul, 1) := by decide +kernel
theorem dL_load_5 : decode cL_load 5 = .ok (.iconst 2, 1) := by decide +kernel
theorem dL_load_6 : decode cL_load 6 = .ok (.iadd, 1) := by decide +kernel
theorem dL_load_7 : decode cL_load 7 = .ok (.iaload, 1) := by decide +kernel
theorem dL_load_8 : decode cL_load 8 = .ok (.istore 4, 2) := by decide +kernel
theorem dL_load_10 : decode cL_load 10 = .ok (.iload_n 0, 1) := by decide +kernel
theorem dL_load_11 : decode cL_load 11 = .ok (.iconst 0, 1) := by decide +kernel
theorem dL_load_12 : decode cL_load 12 = .ok (.iload_n 1, 1) := by decide +kernel
theorem dL_load_13 : decode cL_load 13 = .ok (.aload_n 2, 1) := by decide +kernel
theorem dL_load_14 : decode cL_load 14 = .ok (.aload_n 3, 1) := by decide +kernel
theorem dL_load_15 : decode cL_load 15 = .ok (.invokestatic 43, 3) := by decide +kernel
theorem dL_load_18 : decode cL_load 18 = .ok (.ifCond .ne 7, 3) := by decide +kernel
theorem dL_load_21 : decode cL_load 21 = .ok (.iconst 0, 1) := by decide +kernel
theorem dL_load_22 : decode cL_load 22 = .ok (.goto 19, 3) := by decide +kernel
theorem dL_load_25 : decode cL_load 25 = .ok (.iload_n 0, 1) := by decide +kernel
theorem dL_load_26 : decode cL_load 26 = .ok (.iconst 1, 1) := by decide +kernel
theorem dL_load_27 : decode cL_load 27 = .ok (.iload_n 1, 1) := by decide +kernel
theorem dL_load_28 : decode cL_load 28 = .ok (.aload_n 2, 1) := by decide +kernel
theorem dL_load_29 : decode cL_load 29 = .ok (.aload_n 3, 1) := by decide +kernel
theorem dL_load_30 : decode cL_load 30 = .ok (.invokestatic 43, 3) := by decide +kernel
theorem dL_load_33 : decode cL_load 33 = .ok (.ifCond .ne 7, 3) := by decide +kernel
theorem dL_load_36 : decode cL_load 36 = .ok (.iconst 1, 1) := by decide +kernel
theorem dL_load_37 : decode cL_load 37 = .ok (.goto 4, 3) := by decide +kernel
theorem dL_load_40 : decode cL_load 40 = .ok (.iconst 2, 1) := by decide +kernel
theorem dL_load_41 : decode cL_load 41 = .ok (.istore 5, 2) := by decide +kernel
theorem dL_load_43 : decode cL_load 43 = .ok (.iload 5, 2) := by decide +kernel
theorem dL_load_45 : decode cL_load 45 = .ok (.iconst 2, 1) := by decide +kernel
theorem dL_load_46 : decode cL_load 46 = .ok (.if_icmp .ne 29, 3) := by decide +kernel
theorem dL_load_49 : decode cL_load 49 = .ok (.iload_n 0, 1) := by decide +kernel
theorem dL_load_50 : decode cL_load 50 = .ok (.iconst 0, 1) := by decide +kernel
theorem dL_load_51 : decode cL_load 51 = .ok (.iload_n 1, 1) := by decide +kernel
theorem dL_load_52 : decode cL_load 52 = .ok (.aload_n 2, 1) := by decide +kernel
theorem dL_load_53 : decode cL_load 53 = .ok (.aload_n 3, 1) := by decide +kernel
theorem dL_load_54 : decode cL_load 54 = .ok (.invokestatic 35, 3) := by decide +kernel
theorem dL_load_57 : decode cL_load 57 = .ok (.ifCond .ne 14, 3) := by decide +kernel
theorem dL_load_60 : decode cL_load 60 = .ok (.iload_n 0, 1) := by decide +kernel
theorem dL_load_61 : decode cL_load 61 = .ok (.iconst 1, 1) := by decide +kernel
theorem dL_load_62 : decode cL_load 62 = .ok (.iload_n 1, 1) := by decide +kernel
theorem dL_load_63 : decode cL_load 63 = .ok (.aload_n 2, 1) := by decide +kernel
theorem dL_load_64 : decode cL_load 64 = .ok (.aload_n 3, 1) := by decide +kernel
theorem dL_load_65 : decode cL_load 65 = .ok (.invokestatic 35, 3) := by decide +kernel
theorem dL_load_68 : decode cL_load 68 = .ok (.ifCond .eq 7, 3) := by decide +kernel
theorem dL_load_71 : decode cL_load 71 = .ok (.ldc2_w 46, 3) := by decide +kernel
theorem dL_load_74 : decode cL_load 74 = .ok (.lreturn, 1) := by decide +kernel
theorem dL_load_75 : decode cL_load 75 = .ok (.lconst 0, 1) := by decide +kernel
theorem dL_load_76 : decode cL_load 76 = .ok (.lstore 6, 2) := by decide +kernel
theorem dL_load_78 : decode cL_load 78 = .ok (.iconst 0, 1) := by decide +kernel
theorem dL_load_79 : decode cL_load 79 = .ok (.istore 8, 2) := by decide +kernel
theorem dL_load_81 : decode cL_load 81 = .ok (.iload 4, 2) := by decide +kernel
theorem dL_load_83 : decode cL_load 83 = .ok (.iconst 1, 1) := by decide +kernel
theorem dL_load_84 : decode cL_load 84 = .ok (.isub, 1) := by decide +kernel
theorem dL_load_85 : decode cL_load 85 = .ok (.istore 9, 2) := by decide +kernel
theorem dL_load_87 : decode cL_load 87 = .ok (.iload 9, 2) := by decide +kernel
theorem dL_load_89 : decode cL_load 89 = .ok (.ifCond .lt 80, 3) := by decide +kernel
theorem dL_load_92 : decode cL_load 92 = .ok (.iload_n 0, 1) := by decide +kernel
theorem dL_load_93 : decode cL_load 93 = .ok (.iload 5, 2) := by decide +kernel
theorem dL_load_95 : decode cL_load 95 = .ok (.iconst 1, 1) := by decide +kernel
theorem dL_load_96 : decode cL_load 96 = .ok (.if_icmp .ne 7, 3) := by decide +kernel
theorem dL_load_99 : decode cL_load 99 = .ok (.iconst 1, 1) := by decide +kernel
theorem dL_load_100 : decode cL_load 100 = .ok (.goto 4, 3) := by decide +kernel
theorem dL_load_103 : decode cL_load 103 = .ok (.iconst 0, 1) := by decide +kernel
theorem dL_load_104 : decode cL_load 104 = .ok (.iload 9, 2) := by decide +kernel
theorem dL_load_106 : decode cL_load 106 = .ok (.iload_n 1, 1) := by decide +kernel
theorem dL_load_107 : decode cL_load 107 = .ok (.aload_n 2, 1) := by decide +kernel
theorem dL_load_108 : decode cL_load 108 = .ok (.aload_n 3, 1) := by decide +kernel
theorem dL_load_109 : decode cL_load 109 = .ok (.invokestatic 39, 3) := by decide +kernel
theorem dL_load_112 : decode cL_load 112 = .ok (.istore 10, 2) := by decide +kernel
theorem dL_load_114 : decode cL_load 114 = .ok (.iload 10, 2) := by decide +kernel
theorem dL_load_116 : decode cL_load 116 = .ok (.ifCond .ge 16, 3) := by decide +kernel
theorem dL_load_119 : decode cL_load 119 = .ok (.iload_n 0, 1) := by decide +kernel
theorem dL_load_120 : decode cL_load 120 = .ok (.iconst 1, 1) := by decide +kernel
theorem dL_load_121 : decode cL_load 121 = .ok (.iload 9, 2) := by decide +kernel
