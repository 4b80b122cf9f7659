theorem dX4_errorOfFading_0 : decode cX4_errorOfFading 0 = .ok (.aload_n 0, 1) := by decide +kernel
theorem dX4_errorOfFading_1 : decode cX4_errorOfFading 1 = .ok (.iload_n 1, 1) := by decide +kernel
theorem dX4_errorOfFading_2 : decode cX4_errorOfFading 2 = .ok (.invokevirtual 94, 3) := by decide +kernel
theorem dX4_errorOfFading_5 : decode cX4_errorOfFading 5 = .ok (.ifCond .eq 11, 3) := by decide +kernel
theorem dX4_errorOfFading_8 : decode cX4_errorOfFading 8 = .ok (.aload_n 0, 1) := by decide +kernel
theorem dX4_errorOfFading_9 : decode cX4_errorOfFading 9 = .ok (.iload_n 2, 1) := by decide +kernel
theorem dX4_errorOfFading_10 : decode cX4_errorOfFading 10 = .ok (.invokevirtual 94, 3) := by decide +kernel
theorem dX4_errorOfFading_13 : decode cX4_errorOfFading 13 = .ok (.ifCond .ne 5, 3) := by decide +kernel
theorem dX4_errorOfFading_16 : decode cX4_errorOfFading 16 = .ok (.iconst (-1), 1) := by decide +kernel
theorem dX4_errorOfFading_17 : decode cX4_errorOfFading 17 = .ok (.ireturn, 1) := by decide +kernel
theorem dX4_errorOfFading_18 : decode cX4_errorOfFading 18 = .ok (.iload_n 2, 1) := by decide +kernel
theorem dX4_errorOfFading_19 : decode cX4_errorOfFading 19 = .ok (.iload_n 1, 1) := by decide +kernel
theorem dX4_errorOfFading_20 : decode cX4_errorOfFading 20 = .ok (.if_icmp .lt 13, 3) := by decide +kernel
theorem dX4_errorOfFading_23 : decode cX4_errorOfFading 23 = .ok (.iload_n 3, 1) := by decide +kernel
theorem dX4_errorOfFading_24 : decode cX4_errorOfFading 24 = .ok (.ifCond .lt 9, 3) := by decide +kernel
theorem dX4_errorOfFading_27 : decode cX4_errorOfFading 27 = .ok (.iload_n 3, 1) := by decide +kernel
theorem dX4_errorOfFading_28 : decode cX4_errorOfFading 28 = .ok (.bipush 99, 2) := by decide +kernel
theorem dX4_errorOfFading_30 : decode cX4_errorOfFading 30 = .ok (.if_icmp .le 8, 3) := by decide +kernel
theorem dX4_errorOfFading_33 : decode cX4_errorOfFading 33 = .ok (.bipush (-2), 2) := by decide +kernel
theorem dX4_errorOfFading_35 : decode cX4_errorOfFading 35 = .ok (.goto 4, 3) := by decide +kernel
theorem dX4_errorOfFading_38 : decode cX4_errorOfFading 38 = .ok (.iconst 0, 1) := by decide +kernel
theorem dX4_errorOfFading_39 : decode cX4_errorOfFading 39 = .ok (.ireturn, 1) := by decide +kernel
set_option maxRecDepth 20000 in
theorem ggX4_fadeCells_X6_valueAt : GoodIn wsX4_fadeCells wsX6_valueAt := goodIn_r _ [4] (by decide +kernel) (by decide +kernel)
set_option maxRecDepth 20000 in
theorem gX4_fadeCells_X6_valueAt_n59 : GoodIn wsX4_fadeCells (wsX6_valueAt) := ggX4_fadeCells_X6_valueAt
set_option maxRecDepth 20000 in
theorem ggX4_fadeCells_X6_setValue : GoodIn wsX4_fadeCells wsX6_setValue := goodIn_r _ [6] (by decide +kernel) (by decide +kernel)
set_option maxRecDepth 20000 in
theorem gX4_fadeCells_X6_setValue_n67 : GoodIn wsX4_fadeCells (wsX6_setValue) := ggX4_fadeCells_X6_setValue
theorem dX4_fadeCells_0 : decode cX4_fadeCells 0 = .ok (.iconst 0, 1) := by decide +kernel
theorem dX4_fadeCells_1 : decode cX4_fadeCells 1 = .ok (.istore 4, 2) := by decide +kernel
theorem dX4_fadeCells_3 : decode cX4_fadeCells 3 = .ok (.iload_n 1, 1) := by decide +kernel
theorem dX4_fadeCells_4 : decode cX4_fadeCells 4 = .ok (.istore 5, 2) := by decide +kernel
theorem dX4_fadeCells_6 : decode cX4_fadeCells 6 = .ok (.iload 5, 2) := by decide +kernel
theorem dX4_fadeCells_8 : decode cX4_fadeCells 8 = .ok (.iload_n 2, 1) := by decide +kernel
theorem dX4_fadeCells_9 : decode cX4_fadeCells 9 = .ok (.if_icmp .gt 35, 3) := by decide +kernel
theorem dX4_fadeCells_12 : decode cX4_fadeCells 12 = .ok (.aload_n 0, 1) := by decide +kernel
theorem dX4_fadeCells_13 : decode cX4_fadeCells 13 = .ok (.getfield 27, 3) := by decide +kernel
theorem dX4_fadeCells_16 : decode cX4_fadeCells 16 = .ok (.iload 5, 2) := by decide +kernel
theorem dX4_fadeCells_18 : decode cX4_fadeCells 18 = .ok (.invokestatic 59, 3) := by decide +kernel
theorem dX4_fadeCells_21 : decode cX4_fadeCells 21 = .ok (.iload_n 3, 1) := by decide +kernel
theorem dX4_fadeCells_22 : decode cX4_fadeCells 22 = .ok (.if_icmp .le 16, 3) := by decide +kernel
theorem dX4_fadeCells_25 : decode cX4_fadeCells 25 = .ok (.aload_n 0, 1) := by decide +kernel
theorem dX4_fadeCells_26 : decode cX4_fadeCells 26 = .ok (.getfield 27, 3) := by decide +kernel
theorem dX4_fadeCells_29 : decode cX4_fadeCells 29 = .ok (.iload 5, 2) := by decide +kernel
theorem dX4_fadeCells_31 : decode cX4_fadeCells 31 = .ok (.iload_n 3, 1) := by decide +kernel
theorem dX4_fadeCells_32 : decode cX4_fadeCells 32 = .ok (.invokestatic 67, 3) := by decide +kernel
theorem dX4_fadeCells_35 : decode cX4_fadeCells 35 = .ok (.iinc 4 1, 3) := by decide +kernel
theorem dX4_fadeCells_38 : decode cX4_fadeCells 38 = .ok (.iinc 5 1, 3) := by decide +kernel
theorem dX4_fadeCells_41 : decode cX4_fadeCells 41 = .ok (.goto (-35), 3) := by decide +kernel
theorem dX4_fadeCells_44 : decode cX4_fadeCells 44 = .ok (.iload 4, 2) := by decide +kernel
theorem dX4_fadeCells_46 : decode cX4_fadeCells 46 = .ok (.ireturn, 1) := by decide +kernel
set_option maxRecDepth 20000 in
theorem ggX4_spoilCell_X6_valueAt : GoodIn wsX4_spoilCell wsX6_valueAt := goodIn_r _ [4] (by decide +kernel) (by decide +kernel)
set_option maxRecDepth 20000 in
theorem gX4_spoilCell_X6_valueAt_n59 : GoodIn wsX4_spoilCell (wsX6_valueAt) := ggX4_spoilCell_X6_valueAt
set_option maxRecDepth 20000 in
theorem ggX4_spoilCell_X6_setValue : GoodIn wsX4_spoilCell wsX6_setValue := goodIn_r _ [6] (by decide +kernel) (by decide +kernel)
set_option maxRecDepth 20000 in
theorem gX4_spoilCell_X6_setValue_n67 : GoodIn wsX4_spoilCell (wsX6_setValue) := ggX4_spoilCell_X6_setValue
theorem dX4_spoilCell_0 : decode cX4_spoilCell 0 = .ok (.iconst 1, 1) := by decide +kernel
theorem dX4_spoilCell_1 : decode cX4_spoilCell 1 = .ok (.aload_n 0, 1) := by decide +kernel
theorem dX4_spoilCell_2 : decode cX4_spoilCell 2 = .ok (.getfield 30, 3) := by decide +kernel
theorem dX4_spoilCell_5 : decode cX4_spoilCell 5 = .ok (.iload_n 1, 1) := by decide +kernel
theorem dX4_spoilCell_6 : decode cX4_spoilCell 6 = .ok (.invokestatic 59, 3) := by decide +kernel
theorem dX4_spoilCell_9 : decode cX4_spoilCell 9 = .ok (.isub, 1) := by decide +kernel
theorem dX4_spoilCell_10 : decode cX4_spoilCell 10 = .ok (.istore_n 2, 1) := by decide +kernel
theorem dX4_spoilCell_11 : decode cX4_spoilCell 11 = .ok (.aload_n 0, 1) := by decide +kernel
theorem dX4_spoilCell_12 : decode cX4_spoilCell 12 = .ok (.getfield 30, 3) := by decide +kernel
theorem dX4_spoilCell_15 : decode cX4_spoilCell 15 = .ok (.iload_n 1, 1) := by decide +kernel
theorem dX4_spoilCell_16 : decode cX4_spoilCell 16 = .ok (.iload_n 2, 1) := by decide +kernel
theorem dX4_spoilCell_17 : decode cX4_spoilCell 17 = .ok (.invokestatic 67, 3) := by decide +kernel
theorem dX4_spoilCell_20 : decode cX4_spoilCell 20 = .ok (.iload_n 2, 1) := by decide +kernel
theorem dX4_spoilCell_21 : decode cX4_spoilCell 21 = .ok (.ireturn, 1) := by decide +kernel
set_option maxRecDepth 20000 in
theorem ggX4_silentCells_X4_cells : GoodIn wsX4_silentCells wsX4_cells := goodIn_r _ [6, 7, 8, 9, 10, 11, 17, 18, 19, 20, 21, 22, 23, 24, 25] (by decide +kernel) (by decide +kernel)
set_option maxRecDepth 20000 in
theorem gX4_silentCells_X4_cells : GoodIn wsX4_silentCells (wsV RX4 46 RX4 yX4_cells wsX4_cells) := goodIn_app (goodIn_of _ (by decide +kernel)) ggX4_silentCells_X4_cells
set_option maxRecDepth 20000 in
theorem ggX4_silentCells_X6_valueAt : GoodIn wsX4_silentCells wsX6_valueAt := goodIn_r _ [11] (by decide +kernel) (by decide +kernel)
set_option maxRecDepth 20000 in
theorem gX4_silentCells_X6_valueAt_n59 : GoodIn wsX4_silentCells (wsX6_valueAt) := ggX4_silentCells_X6_valueAt
set_option maxRecDepth 20000 in
theorem ggX4_silentCells_X4_setting : GoodIn wsX4_silentCells wsX4_setting := goodIn_r _ [15, 16, 9, 10, 11, 17, 18, 19, 20, 21, 22, 23, 24, 25] (by decide +kernel) (by decide +kernel)
set_option maxRecDepth 20000 in
theorem gX4_silentCells_X4_setting : GoodIn wsX4_silentCells (wsV RX4 78 RX4 yX4_setting wsX4_setting) := goodIn_app (goodIn_of _ (by decide +kernel)) ggX4_silentCells_X4_setting
theorem dX4_silentCells_0 : decode cX4_silentCells 0 = .ok (.iconst 0, 1) := by decide +kernel
theorem dX4_silentCells_1 : decode cX4_silentCells 1 = .ok (.istore_n 1, 1) := by decide +kernel
theorem dX4_silentCells_2 : decode cX4_silentCells 2 = .ok (.aload_n 0, 1) := by decide +kernel
theorem dX4_silentCells_3 : decode cX4_silentCells 3 = .ok (.invokevirtual 46, 3) := by decide +kernel
theorem dX4_silentCells_6 : decode cX4_silentCells 6 = .ok (.istore_n 2, 1) := by decide +kernel
theorem dX4_silentCells_7 : decode cX4_silentCells 7 = .ok (.iconst 0, 1) := by decide +kernel
theorem dX4_silentCells_8 : decode cX4_silentCells 8 = .ok (.istore_n 3, 1) := by decide +kernel
theorem dX4_silentCells_9 : decode cX4_silentCells 9 = .ok (.iload_n 3, 1) := by decide +kernel
theorem dX4_silentCells_10 : decode cX4_silentCells 10 = .ok (.iload_n 2, 1) := by decide +kernel
theorem dX4_silentCells_11 : decode cX4_silentCells 11 = .ok (.if_icmp .ge 28, 3) := by decide +kernel
theorem dX4_silentCells_14 : decode cX4_silentCells 14 = .ok (.aload_n 0, 1) := by decide +kernel
theorem dX4_silentCells_15 : decode cX4_silentCells 15 = .ok (.getfield 27, 3) := by decide +kernel
theorem dX4_silentCells_18 : decode cX4_silentCells 18 = .ok (.iload_n 3, 1) := by decide +kernel
theorem dX4_silentCells_19 : decode cX4_silentCells 19 = .ok (.invokestatic 59, 3) := by decide +kernel
theorem dX4_silentCells_22 : decode cX4_silentCells 22 = .ok (.aload_n 0, 1) := by decide +kernel
theorem dX4_silentCells_23 : decode cX4_silentCells 23 = .ok (.iconst 1, 1) := by decide +kernel
theorem dX4_silentCells_24 : decode cX4_silentCells 24 = .ok (.invokevirtual 78, 3) := by decide +kernel
theorem dX4_silentCells_27 : decode cX4_silentCells 27 = .ok (.if_icmp .ge 6, 3) := by decide +kernel
theorem dX4_silentCells_30 : decode cX4_silentCells 30 = .ok (.iinc 1 1, 3) := by decide +kernel
theorem dX4_silentCells_33 : decode cX4_silentCells 33 = .ok (.iinc 3 1, 3) := by decide +kernel
theorem dX4_silentCells_36 : decode cX4_silentCells 36 = .ok (.goto (-27), 3) := by decide +kernel
theorem dX4_silentCells_39 : decode cX4_silentCells 39 = .ok (.iload_n 1, 1) := by decide +kernel
theorem dX4_silentCells_40 : decode cX4_silentCells 40 = .ok (.ireturn, 1) := by decide +kernel
set_option maxRecDepth 20000 in
theorem ggX4_badCells_X4_cells : GoodIn wsX4_badCells wsX4_cells := goodIn_r _ [6, 7, 8, 9, 10, 11, 12, 13, 14, 15, 16, 17, 18, 19, 20] (by decide +kernel) (by decide +kernel)
set_option maxRecDepth 20000 in
theorem gX4_badCells_X4_cells : GoodIn wsX4_badCells (wsV RX4 46 RX4 yX4_cells wsX4_cells) := goodIn_app (goodIn_of _ (by decide +kernel)) ggX4_badCells_X4_cells
set_option maxRecDepth 20000 in
theorem ggX4_badCells_X6_valueAt : GoodIn wsX4_badCells wsX6_valueAt := goodIn_r _ [11] (by decide +kernel) (by decide +kernel)
set_option maxRecDepth 20000 in
theorem gX4_badCells_X6_valueAt_n59 : GoodIn wsX4_badCells (wsX6_valueAt) := ggX4_badCells_X6_valueAt
theorem dX4_badCells_0 : decode cX4_badCells 0 = .ok (.iconst 0, 1) := by decide +kernel
theorem dX4_badCells_1 : decode cX4_badCells 1 = .ok (.istore_n 1, 1) := by decide +kernel
theorem dX4_badCells_2 : decode cX4_badCells 2 = .ok (.aload_n 0, 1) := by decide +kernel
theorem dX4_badCells_3 : decode cX4_badCells 3 = .ok (.invokevirtual 46, 3) := by decide +kernel
theorem dX4_badCells_6 : decode cX4_badCells 6 = .ok (.istore_n 2, 1) := by decide +kernel
theorem dX4_badCells_7 : decode cX4_badCells 7 = .ok (.iconst 0, 1) := by decide +kernel
theorem dX4_badCells_8 : decode cX4_badCells 8 = .ok (.istore_n 3, 1) := by decide +kernel
theorem dX4_badCells_9 : decode cX4_badCells 9 = .ok (.iload_n 3, 1) := by decide +kernel
theorem dX4_badCells_10 : decode cX4_badCells 10 = .ok (.iload_n 2, 1) := by decide +kernel
theorem dX4_badCells_11 : decode cX4_badCells 11 = .ok (.if_icmp .ge 20, 3) := by decide +kernel
theorem dX4_badCells_14 : decode cX4_badCells 14 = .ok (.iload_n 1, 1) := by decide +kernel
theorem dX4_badCells_15 : decode cX4_badCells 15 = .ok (.aload_n 0, 1) := by decide +kernel
theorem dX4_badCells_16 : decode cX4_badCells 16 = .ok (.getfield 30, 3) := by decide +kernel
theorem dX4_badCells_19 : decode cX4_badCells 19 = .ok (.iload_n 3, 1) := by decide +kernel
theorem dX4_badCells_20 : decode cX4_badCells 20 = .ok (.invokestatic 59, 3) := by decide +kernel
theorem dX4_badCells_23 : decode cX4_badCells 23 = .ok (.iadd, 1) := by decide +kernel
theorem dX4_badCells_24 : decode cX4_badCells 24 = .ok (.istore_n 1, 1) := by decide +kernel
theorem dX4_badCells_25 : decode cX4_badCells 25 = .ok (.iinc 3 1, 3) := by decide +kernel
theorem dX4_badCells_28 : decode cX4_badCells 28 = .ok (.goto (-19), 3) := by decide +kernel
theorem dX4_badCells_31 : decode cX4_badCells 31 = .ok (.iload_n 1, 1) := by decide +kernel
theorem dX4_badCells_32 : decode cX4_badCells 32 = .ok (.ireturn, 1) := by decide +kernel
set_option maxRecDepth 20000 in
theorem ggX4_blockAt_X4_firstOf : GoodIn wsX4_blockAt wsX4_firstOf := goodIn_r _ [6, 7, 8, 9, 10, 11, 12, 13, 14, 15, 16, 17, 18, 19] (by decide +kernel) (by decide +kernel)
set_option maxRecDepth 20000 in
theorem gX4_blockAt_X4_firstOf : GoodIn wsX4_blockAt (wsV RX4 71 RX4 yX4_firstOf wsX4_firstOf) := goodIn_app (goodIn_of _ (by decide +kernel)) ggX4_blockAt_X4_firstOf
theorem dX4_blockAt_0 : decode cX4_blockAt 0 = .ok (.iconst 0, 1) := by decide +kernel
theorem dX4_blockAt_1 : decode cX4_blockAt 1 = .ok (.istore_n 2, 1) := by decide +kernel
theorem dX4_blockAt_2 : decode cX4_blockAt 2 = .ok (.iload_n 2, 1) := by decide +kernel
theorem dX4_blockAt_3 : decode cX4_blockAt 3 = .ok (.aload_n 0, 1) := by decide +kernel
theorem dX4_blockAt_4 : decode cX4_blockAt 4 = .ok (.getfield 36, 3) := by decide +kernel
theorem dX4_blockAt_7 : decode cX4_blockAt 7 = .ok (.iconst 1, 1) := by decide +kernel
theorem dX4_blockAt_8 : decode cX4_blockAt 8 = .ok (.isub, 1) := by decide +kernel
theorem dX4_blockAt_9 : decode cX4_blockAt 9 = .ok (.if_icmp .ge 20, 3) := by decide +kernel
theorem dX4_blockAt_12 : decode cX4_blockAt 12 = .ok (.iload_n 1, 1) := by decide +kernel
theorem dX4_blockAt_13 : decode cX4_blockAt 13 = .ok (.aload_n 0, 1) := by decide +kernel
theorem dX4_blockAt_14 : decode cX4_blockAt 14 = .ok (.iload_n 2, 1) := by decide +kernel
theorem dX4_blockAt_15 : decode cX4_blockAt 15 = .ok (.iconst 1, 1) := by decide +kernel
theorem dX4_blockAt_16 : decode cX4_blockAt 16 = .ok (.iadd, 1) := by decide +kernel
theorem dX4_blockAt_17 : decode cX4_blockAt 17 = .ok (.invokevirtual 71, 3) := by decide +kernel
theorem dX4_blockAt_20 : decode cX4_blockAt 20 = .ok (.if_icmp .lt 9, 3) := by decide +kernel
theorem dX4_blockAt_23 : decode cX4_blockAt 23 = .ok (.iinc 2 1, 3) := by decide +kernel
theorem dX4_blockAt_26 : decode cX4_blockAt 26 = .ok (.goto (-24), 3) := by decide +kernel
theorem dX4_blockAt_29 : decode cX4_blockAt 29 = .ok (.iload_n 2, 1) := by decide +kernel
theorem dX4_blockAt_30 : decode cX4_blockAt 30 = .ok (.ireturn, 1) := by decide +kernel
set_option maxRecDepth 20000 in
theorem ggX4_partAt_X4_blockAt : GoodIn wsX4_partAt wsX4_blockAt := goodIn_r _ [5, 6, 7, 8, 9, 4, 10, 11, 12, 13, 14, 20, 21, 22, 23, 24, 25, 26, 27, 28] (by decide +kernel) (by decide +kernel)
set_option maxRecDepth 20000 in
theorem gX4_partAt_X4_blockAt : GoodIn wsX4_partAt (wsV RX4 97 RX4 yX4_blockAt wsX4_blockAt) := goodIn_app (goodIn_of _ (by decide +kernel)) ggX4_partAt_X4_blockAt
set_option maxRecDepth 20000 in
theorem ggX4_partAt_X4_firstOf : GoodIn wsX4_partAt wsX4_firstOf := goodIn_r _ [10, 11, 12, 13, 14, 20, 21, 22, 23, 24, 25, 26, 27, 28] (by decide +kernel) (by decide +kernel)
set_option maxRecDepth 20000 in
theorem gX4_partAt_X4_firstOf : GoodIn wsX4_partAt (wsV RX4 71 RX4 yX4_firstOf wsX4_firstOf) := goodIn_app (goodIn_of _ (by decide +kernel)) ggX4_partAt_X4_firstOf
set_option maxRecDepth 20000 in
theorem ggX4_partAt_X4_tellingCells : GoodIn wsX4_partAt wsX4_tellingCells := goodIn_r _ [18, 19, 12, 13, 14, 20, 21, 22, 23, 24, 25, 26, 27, 28] (by decide +kernel) (by decide +kernel)
set_option maxRecDepth 20000 in
theorem gX4_partAt_X4_tellingCells : GoodIn wsX4_partAt (wsV RX4 75 RX4 yX4_tellingCells wsX4_tellingCells) := goodIn_app (goodIn_of _ (by decide +kernel)) ggX4_partAt_X4_tellingCells
theorem dX4_partAt_0 : decode cX4_partAt 0 = .ok (.aload_n 0, 1) := by decide +kernel
theorem dX4_partAt_1 : decode cX4_partAt 1 = .ok (.iload_n 1, 1) := by decide +kernel
theorem dX4_partAt_2 : decode cX4_partAt 2 = .ok (.invokevirtual 97, 3) := by decide +kernel
theorem dX4_partAt_5 : decode cX4_partAt 5 = .ok (.istore_n 2, 1) := by decide +kernel
theorem dX4_partAt_6 : decode cX4_partAt 6 = .ok (.iload_n 1, 1) := by decide +kernel
theorem dX4_partAt_7 : decode cX4_partAt 7 = .ok (.aload_n 0, 1) := by decide +kernel
theorem dX4_partAt_8 : decode cX4_partAt 8 = .ok (.iload_n 2, 1) := by decide +kernel
theorem dX4_partAt_9 : decode cX4_partAt 9 = .ok (.invokevirtual 71, 3) := by decide +kernel
theorem dX4_partAt_12 : decode cX4_partAt 12 = .ok (.isub, 1) := by decide +kernel
theorem dX4_partAt_13 : decode cX4_partAt 13 = .ok (.istore_n 3, 1) := by decide +kernel
theorem dX4_partAt_14 : decode cX4_partAt 14 = .ok (.aload_n 0, 1) := by decide +kernel
theorem dX4_partAt_15 : decode cX4_partAt 15 = .ok (.iload_n 2, 1) := by decide +kernel
theorem dX4_partAt_16 : decode cX4_partAt 16 = .ok (.invokevirtual 75, 3) := by decide +kernel
theorem dX4_partAt_19 : decode cX4_partAt 19 = .ok (.istore 4, 2) := by decide +kernel
theorem dX4_partAt_21 : decode cX4_partAt 21 = .ok (.iload_n 3, 1) := by decide +kernel
theorem dX4_partAt_22 : decode cX4_partAt 22 = .ok (.iload 4, 2) := by decide +kernel
theorem dX4_partAt_24 : decode cX4_partAt 24 = .ok (.if_icmp .ge 5, 3) := by decide +kernel
theorem dX4_partAt_27 : decode cX4_partAt 27 = .ok (.iconst 0, 1) := by decide +kernel
theorem dX4_partAt_28 : decode cX4_partAt 28 = .ok (.ireturn, 1) := by decide +kernel
theorem dX4_partAt_29 : decode cX4_partAt 29 = .ok (.iload_n 3, 1) := by decide +kernel
theorem dX4_partAt_30 : decode cX4_partAt 30 = .ok (.iconst 2, 1) := by decide +kernel
theorem dX4_partAt_31 : decode cX4_partAt 31 = .ok (.iload 4, 2) := by decide +kernel
theorem dX4_partAt_33 : decode cX4_partAt 33 = .ok (.imul, 1) := by decide +kernel
theorem dX4_partAt_34 : decode cX4_partAt 34 = .ok (.if_icmp .ge 7, 3) := by decide +kernel
theorem dX4_partAt_37 : decode cX4_partAt 37 = .ok (.iconst 1, 1) := by decide +kernel
theorem dX4_partAt_38 : decode cX4_partAt 38 = .ok (.goto 4, 3) := by decide +kernel
theorem dX4_partAt_41 : decode cX4_partAt 41 = .ok (.iconst 2, 1) := by decide +kernel
theorem dX4_partAt_42 : decode cX4_partAt 42 = .ok (.ireturn, 1) := by decide +kernel
set_option maxRecDepth 20000 in
theorem ggX4_bitAt_X4_blockAt : GoodIn wsX4_bitAt wsX4_blockAt := goodIn_r _ [5, 6, 7, 8, 9, 4, 10, 11, 12, 13, 14, 30, 31, 32, 33, 34, 35, 36, 37, 38] (by decide +kernel) (by decide +kernel)
set_option maxRecDepth 20000 in
theorem gX4_bitAt_X4_blockAt : GoodIn wsX4_bitAt (wsV RX4 97 RX4 yX4_blockAt wsX4_blockAt) := goodIn_app (goodIn_of _ (by decide +kernel)) ggX4_bitAt_X4_blockAt
set_option maxRecDepth 20000 in
theorem ggX4_bitAt_X4_partAt : GoodIn wsX4_bitAt wsX4_partAt := goodIn_r _ [18, 1, 2, 3, 4, 5, 6, 7, 8, 9, 10, 11, 12, 13, 14, 19, 20, 21, 22, 23, 30, 31, 32, 33, 34, 35, 36, 37, 38] (by decide +kernel) (by decide +kernel)
set_option maxRecDepth 20000 in
theorem gX4_bitAt_X4_partAt : GoodIn wsX4_bitAt (wsV RX4 100 RX4 yX4_partAt wsX4_partAt) := goodIn_app (goodIn_of _ (by decide +kernel)) ggX4_bitAt_X4_partAt
set_option maxRecDepth 20000 in
theorem ggX4_bitAt_X4_firstOf : GoodIn wsX4_bitAt wsX4_firstOf := goodIn_r _ [10, 11, 12, 13, 14, 30, 31, 32, 33, 34, 35, 36, 37, 38] (by decide +kernel) (by decide +kernel)
set_option maxRecDepth 20000 in
theorem gX4_bitAt_X4_firstOf : GoodIn wsX4_bitAt (wsV RX4 71 RX4 yX4_firstOf wsX4_firstOf) := goodIn_app (goodIn_of _ (by decide +kernel)) ggX4_bitAt_X4_firstOf
set_option maxRecDepth 20000 in
theorem ggX4_bitAt_X4_tellingCells : GoodIn wsX4_bitAt wsX4_tellingCells := goodIn_r _ [22, 23, 12, 13, 14, 30, 31, 32, 33, 34, 35, 36, 37, 38] (by decide +kernel) (by decide +kernel)
set_option maxRecDepth 20000 in
theorem gX4_bitAt_X4_tellingCells : GoodIn wsX4_bitAt (wsV RX4 75 RX4 yX4_tellingCells wsX4_tellingCells) := goodIn_app (goodIn_of _ (by decide +kernel)) ggX4_bitAt_X4_tellingCells
set_option maxRecDepth 20000 in
theorem ggX4_bitAt_X4_toldAt : GoodIn wsX4_bitAt wsX4_toldAt := goodIn_r _ [27, 28, 29, 12, 13, 14, 30, 31, 32, 33, 34, 35, 36, 37, 38] (by decide +kernel) (by decide +kernel)
set_option maxRecDepth 20000 in
theorem gX4_bitAt_X4_toldAt : GoodIn wsX4_bitAt (wsV RX4 103 RX4 yX4_toldAt wsX4_toldAt) := goodIn_app (goodIn_of _ (by decide +kernel)) ggX4_bitAt_X4_toldAt
theorem dX4_bitAt_0 : decode cX4_bitAt 0 = .ok (.aload_n 0, 1) := by decide +kernel
theorem dX4_bitAt_1 : decode cX4_bitAt 1 = .ok (.iload_n 1, 1) := by decide +kernel
theorem dX4_bitAt_2 : decode cX4_bitAt 2 = .ok (.invokevirtual 97, 3) := by decide +kernel
theorem dX4_bitAt_5 : decode cX4_bitAt 5 = .ok (.istore_n 2, 1) := by decide +kernel
theorem dX4_bitAt_6 : decode cX4_bitAt 6 = .ok (.aload_n 0, 1) := by decide +kernel
theorem dX4_bitAt_7 : decode cX4_bitAt 7 = .ok (.iload_n 1, 1) := by decide +kernel
theorem dX4_bitAt_8 : decode cX4_bitAt 8 = .ok (.invokevirtual 100, 3) := by decide +kernel
theorem dX4_bitAt_11 : decode cX4_bitAt 11 = .ok (.istore_n 3, 1) := by decide +kernel
theorem dX4_bitAt_12 : decode cX4_bitAt 12 = .ok (.iload_n 1, 1) := by decide +kernel
theorem dX4_bitAt_13 : decode cX4_bitAt 13 = .ok (.aload_n 0, 1) := by decide +kernel
theorem dX4_bitAt_14 : decode cX4_bitAt 14 = .ok (.iload_n 2, 1) := by decide +kernel
theorem dX4_bitAt_15 : decode cX4_bitAt 15 = .ok (.invokevirtual 71, 3) := by decide +kernel
theorem dX4_bitAt_18 : decode cX4_bitAt 18 = .ok (.isub, 1) := by decide +kernel
theorem dX4_bitAt_19 : decode cX4_bitAt 19 = .ok (.iload_n 3, 1) := by decide +kernel
theorem dX4_bitAt_20 : decode cX4_bitAt 20 = .ok (.aload_n 0, 1) := by decide +kernel
theorem dX4_bitAt_21 : decode cX4_bitAt 21 = .ok (.iload_n 2, 1) := by decide +kernel
theorem dX4_bitAt_22 : decode cX4_bitAt 22 = .ok (.invokevirtual 75, 3) := by decide +kernel
theorem dX4_bitAt_25 : decode cX4_bitAt 25 = .ok (.imul, 1) := by decide +kernel
theorem dX4_bitAt_26 : decode cX4_bitAt 26 = .ok (.isub, 1) := by decide +kernel
theorem dX4_bitAt_27 : decode cX4_bitAt 27 = .ok (.istore 4, 2) := by decide +kernel
theorem dX4_bitAt_29 : decode cX4_bitAt 29 = .ok (.iload_n 3, 1) := by decide +kernel
theorem dX4_bitAt_30 : decode cX4_bitAt 30 = .ok (.iconst 2, 1) := by decide +kernel
theorem dX4_bitAt_31 : decode cX4_bitAt 31 = .ok (.if_icmp .eq 9, 3) := by decide +kernel
theorem dX4_bitAt_34 : decode cX4_bitAt 34 = .ok (.iload 4, 2) := by decide +kernel
theorem dX4_bitAt_36 : decode cX4_bitAt 36 = .ok (.iconst 4, 1) := by decide +kernel
theorem dX4_bitAt_37 : decode cX4_bitAt 37 = .ok (.if_icmp .ge 5, 3) := by decide +kernel
theorem dX4_bitAt_40 : decode cX4_bitAt 40 = .ok (.iconst 0, 1) := by decide +kernel
theorem dX4_bitAt_41 : decode cX4_bitAt 41 = .ok (.ireturn, 1) := by decide +kernel
theorem dX4_bitAt_42 : decode cX4_bitAt 42 = .ok (.aload_n 0, 1) := by decide +kernel
theorem dX4_bitAt_43 : decode cX4_bitAt 43 = .ok (.iload_n 1, 1) := by decide +kernel
theorem dX4_bitAt_44 : decode cX4_bitAt 44 = .ok (.invokevirtual 103, 3) := by decide +kernel
theorem dX4_bitAt_47 : decode cX4_bitAt 47 = .ok (.ireturn, 1) := by decide +kernel
set_option maxRecDepth 20000 in
theorem ggX4_toldAt_X6_valueAt : GoodIn wsX4_toldAt wsX6_valueAt := goodIn_r _ [5] (by decide +kernel) (by decide +kernel)
set_option maxRecDepth 20000 in
theorem gX4_toldAt_X6_valueAt_n59 : GoodIn wsX4_toldAt (wsX6_valueAt) := ggX4_toldAt_X6_valueAt
theorem dX4_toldAt_0 : decode cX4_toldAt 0 = .ok (.aload_n 0, 1) := by decide +kernel
theorem dX4_toldAt_1 : decode cX4_toldAt 1 = .ok (.getfield 33, 3) := by decide +kernel
theorem dX4_toldAt_4 : decode cX4_toldAt 4 = .ok (.iload_n 1, 1) := by decide +kernel
theorem dX4_toldAt_5 : decode cX4_toldAt 5 = .ok (.invokestatic 59, 3) := by decide +kernel
theorem dX4_toldAt_8 : decode cX4_toldAt 8 = .ok (.aload_n 0, 1) := by decide +kernel
theorem dX4_toldAt_9 : decode cX4_toldAt 9 = .ok (.getfield 30, 3) := by decide +kernel
theorem dX4_toldAt_12 : decode cX4_toldAt 12 = .ok (.iload_n 1, 1) := by decide +kernel
theorem dX4_toldAt_13 : decode cX4_toldAt 13 = .ok (.invokestatic 59, 3) := by decide +kernel
theorem dX4_toldAt_16 : decode cX4_toldAt 16 = .ok (.ixor, 1) := by decide +kernel
theorem dX4_toldAt_17 : decode cX4_toldAt 17 = .ok (.ireturn, 1) := by decide +kernel
set_option maxRecDepth 20000 in
theorem ggX4_counterOf_X4_setting : GoodIn wsX4_counterOf wsX4_setting := goodIn_r _ [5, 6, 7, 8, 9, 10, 11, 12, 13, 14, 15, 16, 17, 18] (by decide +kernel) (by decide +kernel)
set_option maxRecDepth 20000 in
theorem gX4_counterOf_X4_setting : GoodIn wsX4_counterOf (wsV RX4 78 RX4 yX4_setting wsX4_setting) := goodIn_app (goodIn_of _ (by decide +kernel)) ggX4_counterOf_X4_setting
theorem dX4_counterOf_0 : decode cX4_counterOf 0 = .ok (.iload_n 1, 1) := by decide +kernel
theorem dX4_counterOf_1 : decode cX4_counterOf 1 = .ok (.iload_n 1, 1) := by decide +kernel
theorem dX4_counterOf_2 : decode cX4_counterOf 2 = .ok (.aload_n 0, 1) := by decide +kernel
theorem dX4_counterOf_3 : decode cX4_counterOf 3 = .ok (.iconst 2, 1) := by decide +kernel
theorem dX4_counterOf_4 : decode cX4_counterOf 4 = .ok (.invokevirtual 78, 3) := by decide +kernel
theorem dX4_counterOf_7 : decode cX4_counterOf 7 = .ok (.imul, 1) := by decide +kernel
theorem dX4_counterOf_8 : decode cX4_counterOf 8 = .ok (.bipush 100, 2) := by decide +kernel
theorem dX4_counterOf_10 : decode cX4_counterOf 10 = .ok (.idiv, 1) := by decide +kernel
theorem dX4_counterOf_11 : decode cX4_counterOf 11 = .ok (.isub, 1) := by decide +kernel
theorem dX4_counterOf_12 : decode cX4_counterOf 12 = .ok (.sipush 1000, 3) := by decide +kernel
theorem dX4_counterOf_15 : decode cX4_counterOf 15 = .ok (.irem, 1) := by decide +kernel
theorem dX4_counterOf_16 : decode cX4_counterOf 16 = .ok (.ireturn, 1) := by decide +kernel
set_option maxRecDepth 20000 in
theorem ggX4_distanceOf_X4_firstOf : GoodIn wsX4_distanceOf wsX4_firstOf := goodIn_r _ [12, 13, 14, 15, 16, 26, 27, 28, 29, 30, 31, 32, 33, 34] (by decide +kernel) (by decide +kernel)
set_option maxRecDepth 20000 in
theorem gX4_distanceOf_X4_firstOf : GoodIn wsX4_distanceOf (wsV RX4 71 RX4 yX4_firstOf wsX4_firstOf) := goodIn_app (goodIn_of _ (by decide +kernel)) ggX4_distanceOf_X4_firstOf
set_option maxRecDepth 20000 in
theorem ggX4_distanceOf_X4_counterOf : GoodIn wsX4_distanceOf wsX4_counterOf := goodIn_r _ [20, 21, 22, 23, 11, 24, 25, 14, 15, 16, 26, 27, 28, 29, 30, 31, 32, 33, 34] (by decide +kernel) (by decide +kernel)
set_option maxRecDepth 20000 in
theorem gX4_distanceOf_X4_counterOf : GoodIn wsX4_distanceOf (wsV RX4 106 RX4 yX4_counterOf wsX4_counterOf) := goodIn_app (goodIn_of _ (by decide +kernel)) ggX4_distanceOf_X4_counterOf
theorem dX4_distanceOf_0 : decode cX4_distanceOf 0 = .ok (.aload_n 0, 1) := by decide +kernel
theorem dX4_distanceOf_1 : decode cX4_distanceOf 1 = .ok (.aload_n 0, 1) := by decide +kernel
theorem dX4_distanceOf_2 : decode cX4_distanceOf 2 = .ok (.iload_n 1, 1) := by decide +kernel
theorem dX4_distanceOf_3 : decode cX4_distanceOf 3 = .ok (.invokevirtual 71, 3) := by decide +kernel
theorem dX4_distanceOf_6 : decode cX4_distanceOf 6 = .ok (.invokevirtual 106, 3) := by decide +kernel
theorem dX4_distanceOf_9 : decode cX4_distanceOf 9 = .ok (.iload_n 2, 1) := by decide +kernel
theorem dX4_distanceOf_10 : decode cX4_distanceOf 10 = .ok (.isub, 1) := by decide +kernel
theorem dX4_distanceOf_11 : decode cX4_distanceOf 11 = .ok (.invokestatic 109, 3) := by decide +kernel
theorem dX4_distanceOf_14 : decode cX4_distanceOf 14 = .ok (.istore_n 3, 1) := by decide +kernel
theorem dX4_distanceOf_15 : decode cX4_distanceOf 15 = .ok (.iload_n 3, 1) := by decide +kernel
theorem dX4_distanceOf_16 : decode cX4_distanceOf 16 = .ok (.sipush 1000, 3) := by decide +kernel
theorem dX4_distanceOf_19 : decode cX4_distanceOf 19 = .ok (.iload_n 3, 1) := by decide +kernel
theorem dX4_distanceOf_20 : decode cX4_distanceOf 20 = .ok (.isub, 1) := by decide +kernel
theorem dX4_distanceOf_21 : decode cX4_distanceOf 21 = .ok (.invokestatic 50, 3) := by decide +kernel
theorem dX4_distanceOf_24 : decode cX4_distanceOf 24 = .ok (.ireturn, 1) := by decide +kernel
set_option maxRecDepth 20000 in
theorem ggX4_nearerBlocks_X4_distanceOf : GoodIn wsX4_nearerBlocks wsX4_distanceOf := goodIn_r _ [6, 7, 8, 9, 10, 11, 12, 13, 14, 15, 16, 5, 17, 18, 19, 20, 21, 22, 23, 24, 25, 26, 27, 28, 29, 30, 31, 32, 33, 34, 35, 36, 37, 38, 39] (by decide +kernel) (by decide +kernel)
set_option maxRecDepth 20000 in
theorem gX4_nearerBlocks_X4_distanceOf : GoodIn wsX4_nearerBlocks (wsV RX4 112 RX4 yX4_distanceOf wsX4_distanceOf) := goodIn_app (goodIn_of _ (by decide +kernel)) ggX4_nearerBlocks_X4_distanceOf
theorem dX4_nearerBlocks_0 : decode cX4_nearerBlocks 0 = .ok (.aload_n 0, 1) := by decide +kernel
theorem dX4_nearerBlocks_1 : decode cX4_nearerBlocks 1 = .ok (.iload_n 1, 1) := by decide +kernel
theorem dX4_nearerBlocks_2 : decode cX4_nearerBlocks 2 = .ok (.iload_n 2, 1) := by decide +kernel
theorem dX4_nearerBlocks_3 : decode cX4_nearerBlocks 3 = .ok (.invokevirtual 112, 3) := by decide +kernel
theorem dX4_nearerBlocks_6 : decode cX4_nearerBlocks 6 = .ok (.istore_n 3, 1) := by decide +kernel
theorem dX4_nearerBlocks_7 : decode cX4_nearerBlocks 7 = .ok (.iconst 0, 1) := by decide +kernel
theorem dX4_nearerBlocks_8 : decode cX4_nearerBlocks 8 = .ok (.istore 4, 2) := by decide +kernel
theorem dX4_nearerBlocks_10 : decode cX4_nearerBlocks 10 = .ok (.iconst 0, 1) := by decide +kernel
theorem dX4_nearerBlocks_11 : decode cX4_nearerBlocks 11 = .ok (.istore 5, 2) := by decide +kernel
theorem dX4_nearerBlocks_13 : decode cX4_nearerBlocks 13 = .ok (.iload 5, 2) := by decide +kernel
theorem dX4_nearerBlocks_15 : decode cX4_nearerBlocks 15 = .ok (.aload_n 0, 1) := by decide +kernel
theorem dX4_nearerBlocks_16 : decode cX4_nearerBlocks 16 = .ok (.getfield 36, 3) := by decide +kernel
theorem dX4_nearerBlocks_19 : decode cX4_nearerBlocks 19 = .ok (.if_icmp .ge 39, 3) := by decide +kernel
theorem dX4_nearerBlocks_22 : decode cX4_nearerBlocks 22 = .ok (.aload_n 0, 1) := by decide +kernel
theorem dX4_nearerBlocks_23 : decode cX4_nearerBlocks 23 = .ok (.iload 5, 2) := by decide +kernel
theorem dX4_nearerBlocks_25 : decode cX4_nearerBlocks 25 = .ok (.iload_n 2, 1) := by decide +kernel
theorem dX4_nearerBlocks_26 : decode cX4_nearerBlocks 26 = .ok (.invokevirtual 112, 3) := by decide +kernel
theorem dX4_nearerBlocks_29 : decode cX4_nearerBlocks 29 = .ok (.istore 6, 2) := by decide +kernel
theorem dX4_nearerBlocks_31 : decode cX4_nearerBlocks 31 = .ok (.iload 6, 2) := by decide +kernel
theorem dX4_nearerBlocks_33 : decode cX4_nearerBlocks 33 = .ok (.iload_n 3, 1) := by decide +kernel
theorem dX4_nearerBlocks_34 : decode cX4_nearerBlocks 34 = .ok (.if_icmp .lt 15, 3) := by decide +kernel
theorem dX4_nearerBlocks_37 : decode cX4_nearerBlocks 37 = .ok (.iload 6, 2) := by decide +kernel
theorem dX4_nearerBlocks_39 : decode cX4_nearerBlocks 39 = .ok (.iload_n 3, 1) := by decide +kernel
theorem dX4_nearerBlocks_40 : decode cX4_nearerBlocks 40 = .ok (.if_icmp .ne 12, 3) := by decide +kernel
theorem dX4_nearerBlocks_43 : decode cX4_nearerBlocks 43 = .ok (.iload 5, 2) := by decide +kernel
theorem dX4_nearerBlocks_45 : decode cX4_nearerBlocks 45 = .ok (.iload_n 1, 1) := by decide +kernel
theorem dX4_nearerBlocks_46 : decode cX4_nearerBlocks 46 = .ok (.if_icmp .ge 6, 3) := by decide +kernel
theorem dX4_nearerBlocks_49 : decode cX4_nearerBlocks 49 = .ok (.iinc 4 1, 3) := by decide +kernel
theorem dX4_nearerBlocks_52 : decode cX4_nearerBlocks 52 = .ok (.iinc 5 1, 3) := by decide +kernel
theorem dX4_nearerBlocks_55 : decode cX4_nearerBlocks 55 = .ok (.goto (-42), 3) := by decide +kernel
theorem dX4_nearerBlocks_58 : decode cX4_nearerBlocks 58 = .ok (.iload 4, 2) := by decide +kernel
theorem dX4_nearerBlocks_60 : decode cX4_nearerBlocks 60 = .ok (.ireturn, 1) := by decide +kernel
set_option maxRecDepth 20000 in
theorem ggX4_depthOf_X6_valueAt : GoodIn wsX4_depthOf wsX6_valueAt := goodIn_r _ [4] (by decide +kernel) (by decide +kernel)
set_option maxRecDepth 20000 in
theorem gX4_depthOf_X6_valueAt_n59 : GoodIn wsX4_depthOf (wsX6_valueAt) := ggX4_depthOf_X6_valueAt
theorem dX4_depthOf_0 : decode cX4_depthOf 0 = .ok (.iconst 0, 1) := by decide +kernel
theorem dX4_depthOf_1 : decode cX4_depthOf 1 = .ok (.istore_n 2, 1) := by decide +kernel
theorem dX4_depthOf_2 : decode cX4_depthOf 2 = .ok (.aload_n 0, 1) := by decide +kernel
theorem dX4_depthOf_3 : decode cX4_depthOf 3 = .ok (.getfield 18, 3) := by decide +kernel
theorem dX4_depthOf_6 : decode cX4_depthOf 6 = .ok (.iload_n 1, 1) := by decide +kernel
theorem dX4_depthOf_7 : decode cX4_depthOf 7 = .ok (.invokestatic 59, 3) := by decide +kernel
theorem dX4_depthOf_10 : decode cX4_depthOf 10 = .ok (.istore_n 3, 1) := by decide +kernel
theorem dX4_depthOf_11 : decode cX4_depthOf 11 = .ok (.iload_n 3, 1) := by decide +kernel
theorem dX4_depthOf_12 : decode cX4_depthOf 12 = .ok (.bipush (-6), 2) := by decide +kernel
theorem dX4_depthOf_14 : decode cX4_depthOf 14 = .ok (.if_icmp .eq 24, 3) := by decide +kernel
theorem dX4_depthOf_17 : decode cX4_depthOf 17 = .ok (.iload_n 2, 1) := by decide +kernel
theorem dX4_depthOf_18 : decode cX4_depthOf 18 = .ok (.bipush 16, 2) := by decide +kernel
theorem dX4_depthOf_20 : decode cX4_depthOf 20 = .ok (.if_icmp .ge 18, 3) := by decide +kernel
theorem dX4_depthOf_23 : decode cX4_depthOf 23 = .ok (.iinc 2 1, 3) := by decide +kernel
theorem dX4_depthOf_26 : decode cX4_depthOf 26 = .ok (.aload_n 0, 1) := by decide +kernel
theorem dX4_depthOf_27 : decode cX4_depthOf 27 = .ok (.getfield 18, 3) := by decide +kernel
theorem dX4_depthOf_30 : decode cX4_depthOf 30 = .ok (.iload_n 3, 1) := by decide +kernel
theorem dX4_depthOf_31 : decode cX4_depthOf 31 = .ok (.invokestatic 59, 3) := by decide +kernel
theorem dX4_depthOf_34 : decode cX4_depthOf 34 = .ok (.istore_n 3, 1) := by decide +kernel
theorem dX4_depthOf_35 : decode cX4_depthOf 35 = .ok (.goto (-24), 3) := by decide +kernel
theorem dX4_depthOf_38 : decode cX4_depthOf 38 = .ok (.iload_n 2, 1) := by decide +kernel
theorem dX4_depthOf_39 : decode cX4_depthOf 39 = .ok (.ireturn, 1) := by decide +kernel
theorem dX5_init_0 : decode cX5_init 0 = .ok (.aload_n 0, 1) := by decide +kernel
theorem dX5_init_1 : decode cX5_init 1 = .ok (.invokespecial 3, 3) := by decide +kernel
theorem dX5_init_4 : decode cX5_init 4 = .ok (.aload_n 0, 1) := by decide +kernel
theorem dX5_init_5 : decode cX5_init 5 = .ok (.bipush 8, 2) := by decide +kernel
theorem dX5_init_7 : decode cX5_init 7 = .ok (.newarray .int, 2) := by decide +kernel
theorem dX5_init_9 : decode cX5_init 9 = .ok (.putfield 9, 3) := by decide +kernel
theorem dX5_init_12 : decode cX5_init 12 = .ok (.aload_n 0, 1) := by decide +kernel
theorem dX5_init_13 : decode cX5_init 13 = .ok (.bipush 8, 2) := by decide +kernel
theorem dX5_init_15 : decode cX5_init 15 = .ok (.newarray .int, 2) := by decide +kernel
theorem dX5_init_17 : decode cX5_init 17 = .ok (.putfield 15, 3) := by decide +kernel
theorem dX5_init_20 : decode cX5_init 20 = .ok (.return_, 1) := by decide +kernel
set_option maxRecDepth 20000 in
theorem ggX5_readCells_X5_readLeader : GoodIn wsX5_readCells wsX5_readLeader := goodIn_r _ [6, 7, 8, 9, 10, 11, 12, 13, 14, 15, 16, 17, 36, 37, 38, 39, 40, 41, 42, 43, 44, 32, 33, 34, 35] (by decide +kernel) (by decide +kernel)
set_option maxRecDepth 20000 in
theorem gX5_readCells_X5_readLeader : GoodIn wsX5_readCells (wsV RX5 22 RX5 yX5_readLeader wsX5_readLeader) := goodIn_app (goodIn_of _ (by decide +kernel)) ggX5_readCells_X5_readLeader
set_option maxRecDepth 20000 in
theorem ggX5_readCells_X5_readByte : GoodIn wsX5_readCells wsX5_readByte := goodIn_r _ [21, 7, 8, 9, 10, 22, 23, 24, 25, 26, 27, 28, 29, 15, 16, 17, 30, 31, 36, 37, 38, 39, 40, 41, 42, 43, 44, 32, 33, 34, 35] (by decide +kernel) (by decide +kernel)
set_option maxRecDepth 20000 in
theorem gX5_readCells_X5_readByte : GoodIn wsX5_readCells (wsV RX5 26 RX5 yX5_readByte wsX5_readByte) := goodIn_app (goodIn_of _ (by decide +kernel)) ggX5_readCells_X5_readByte
theorem dX5_readCells_0 : decode cX5_readCells 0 = .ok (.aload_n 0, 1) := by decide +kernel
theorem dX5_readCells_1 : decode cX5_readCells 1 = .ok (.iload_n 3, 1) := by decide +kernel
theorem dX5_readCells_2 : decode cX5_readCells 2 = .ok (.putfield 18, 3) := by decide +kernel
theorem dX5_readCells_5 : decode cX5_readCells 5 = .ok (.aload_n 0, 1) := by decide +kernel
theorem dX5_readCells_6 : decode cX5_readCells 6 = .ok (.aload_n 1, 1) := by decide +kernel
theorem dX5_readCells_7 : decode cX5_readCells 7 = .ok (.iload_n 2, 1) := by decide +kernel
theorem dX5_readCells_8 : decode cX5_readCells 8 = .ok (.invokevirtual 22, 3) := by decide +kernel
theorem dX5_readCells_11 : decode cX5_readCells 11 = .ok (.iconst 0, 1) := by decide +kernel
theorem dX5_readCells_12 : decode cX5_readCells 12 = .ok (.istore 4, 2) := by decide +kernel
theorem dX5_readCells_14 : decode cX5_readCells 14 = .ok (.iload 4, 2) := by decide +kernel
theorem dX5_readCells_16 : decode cX5_readCells 16 = .ok (.aload_n 0, 1) := by decide +kernel
theorem dX5_readCells_17 : decode cX5_readCells 17 = .ok (.getfield 18, 3) := by decide +kernel
theorem dX5_readCells_20 : decode cX5_readCells 20 = .ok (.if_icmp .gt 25, 3) := by decide +kernel
theorem dX5_readCells_23 : decode cX5_readCells 23 = .ok (.aload_n 0, 1) := by decide +kernel
theorem dX5_readCells_24 : decode cX5_readCells 24 = .ok (.aload_n 1, 1) := by decide +kernel
theorem dX5_readCells_25 : decode cX5_readCells 25 = .ok (.iload_n 2, 1) := by decide +kernel
theorem dX5_readCells_26 : decode cX5_readCells 26 = .ok (.iconst 4, 1) := by decide +kernel
theorem dX5_readCells_27 : decode cX5_readCells 27 = .ok (.iadd, 1) := by decide +kernel
theorem dX5_readCells_28 : decode cX5_readCells 28 = .ok (.iload 4, 2) := by decide +kernel
theorem dX5_readCells_30 : decode cX5_readCells 30 = .ok (.bipush 9, 2) := by decide +kernel
theorem dX5_readCells_32 : decode cX5_readCells 32 = .ok (.imul, 1) := by decide +kernel
theorem dX5_readCells_33 : decode cX5_readCells 33 = .ok (.iadd, 1) := by decide +kernel
theorem dX5_readCells_34 : decode cX5_readCells 34 = .ok (.iload 4, 2) := by decide +kernel
theorem dX5_readCells_36 : decode cX5_readCells 36 = .ok (.invokevirtual 26, 3) := by decide +kernel
theorem dX5_readCells_39 : decode cX5_readCells 39 = .ok (.iinc 4 1, 3) := by decide +kernel
theorem dX5_readCells_42 : decode cX5_readCells 42 = .ok (.goto (-28), 3) := by decide +kernel
theorem dX5_readCells_45 : decode cX5_readCells 45 = .ok (.return_, 1) := by decide +kernel
set_option maxRecDepth 20000 in
theorem ggX5_readLeader_X6_valueAt : GoodIn wsX5_readLeader wsX6_valueAt := goodIn_r _ [11] (by decide +kernel) (by decide +kernel)
set_option maxRecDepth 20000 in
theorem gX5_readLeader_X6_valueAt_n35 : GoodIn wsX5_readLeader (wsX6_valueAt) := ggX5_readLeader_X6_valueAt
theorem dX5_readLeader_0 : decode cX5_readLeader 0 = .ok (.iconst (-1), 1) := by decide +kernel
theorem dX5_readLeader_1 : decode cX5_readLeader 1 = .ok (.istore_n 3, 1) := by decide +kernel
theorem dX5_readLeader_2 : decode cX5_readLeader 2 = .ok (.iconst (-1), 1) := by decide +kernel
theorem dX5_readLeader_3 : decode cX5_readLeader 3 = .ok (.istore 4, 2) := by decide +kernel
theorem dX5_readLeader_5 : decode cX5_readLeader 5 = .ok (.iload_n 2, 1) := by decide +kernel
theorem dX5_readLeader_6 : decode cX5_readLeader 6 = .ok (.istore 5, 2) := by decide +kernel
theorem dX5_readLeader_8 : decode cX5_readLeader 8 = .ok (.iload 5, 2) := by decide +kernel
theorem dX5_readLeader_10 : decode cX5_readLeader 10 = .ok (.iload_n 2, 1) := by decide +kernel
theorem dX5_readLeader_11 : decode cX5_readLeader 11 = .ok (.iconst 4, 1) := by decide +kernel
theorem dX5_readLeader_12 : decode cX5_readLeader 12 = .ok (.iadd, 1) := by decide +kernel
theorem dX5_readLeader_13 : decode cX5_readLeader 13 = .ok (.if_icmp .ge 40, 3) := by decide +kernel
theorem dX5_readLeader_16 : decode cX5_readLeader 16 = .ok (.aload_n 1, 1) := by decide +kernel
theorem dX5_readLeader_17 : decode cX5_readLeader 17 = .ok (.getfield 30, 3) := by decide +kernel
theorem dX5_readLeader_20 : decode cX5_readLeader 20 = .ok (.iload 5, 2) := by decide +kernel
theorem dX5_readLeader_22 : decode cX5_readLeader 22 = .ok (.invokestatic 35, 3) := by decide +kernel
theorem dX5_readLeader_25 : decode cX5_readLeader 25 = .ok (.istore 6, 2) := by decide +kernel
theorem dX5_readLeader_27 : decode cX5_readLeader 27 = .ok (.iload 4, 2) := by decide +kernel
theorem dX5_readLeader_29 : decode cX5_readLeader 29 = .ok (.iload 6, 2) := by decide +kernel
theorem dX5_readLeader_31 : decode cX5_readLeader 31 = .ok (.iload_n 3, 1) := by decide +kernel
theorem dX5_readLeader_32 : decode cX5_readLeader 32 = .ok (.invokestatic 39, 3) := by decide +kernel
theorem dX5_readLeader_35 : decode cX5_readLeader 35 = .ok (.invokestatic 45, 3) := by decide +kernel
theorem dX5_readLeader_38 : decode cX5_readLeader 38 = .ok (.istore 4, 2) := by decide +kernel
theorem dX5_readLeader_40 : decode cX5_readLeader 40 = .ok (.iload_n 3, 1) := by decide +kernel
theorem dX5_readLeader_41 : decode cX5_readLeader 41 = .ok (.iload 6, 2) := by decide +kernel
theorem dX5_readLeader_43 : decode cX5_readLeader 43 = .ok (.invokestatic 45, 3) := by decide +kernel
theorem dX5_readLeader_46 : decode cX5_readLeader 46 = .ok (.istore_n 3, 1) := by decide +kernel
theorem dX5_readLeader_47 : decode cX5_readLeader 47 = .ok (.iinc 5 1, 3) := by decide +kernel
theorem dX5_readLeader_50 : decode cX5_readLeader 50 = .ok (.goto (-42), 3) := by decide +kernel
theorem dX5_readLeader_53 : decode cX5_readLeader 53 = .ok (.aload_n 0, 1) := by decide +kernel
theorem dX5_readLeader_54 : decode cX5_readLeader 54 = .ok (.iload 4, 2) := by decide +kernel
theorem dX5_readLeader_56 : decode cX5_readLeader 56 = .ok (.putfield 48, 3) := by decide +kernel
theorem dX5_readLeader_59 : decode cX5_readLeader 59 = .ok (.return_, 1) := by decide +kernel
set_option maxRecDepth 20000 in
theorem ggX5_readByte_X4_toldAt : GoodIn wsX5_readByte wsX4_toldAt := goodIn_r _ [10, 11, 12, 13, 14, 15, 18, 19, 20, 21, 22, 23, 24, 25, 26] (by decide +kernel) (by decide +kernel)
set_option maxRecDepth 20000 in
theorem gX5_readByte_X4_toldAt_n51 : GoodIn wsX5_readByte (wsX4_toldAt) := ggX5_readByte_X4_toldAt
set_option maxRecDepth 20000 in
theorem ggX5_readByte_X6_valueAt : GoodIn wsX5_readByte wsX6_valueAt := goodIn_r _ [15] (by decide +kernel) (by decide +kernel)
set_option maxRecDepth 20000 in
theorem gX5_readByte_X6_valueAt_n35 : GoodIn wsX5_readByte (wsX6_valueAt) := ggX5_readByte_X6_valueAt
set_option maxRecDepth 20000 in
theorem ggX5_readByte_X6_setValue : GoodIn wsX5_readByte wsX6_setValue := goodIn_r _ [17] (by decide +kernel) (by decide +kernel)
set_option maxRecDepth 20000 in
theorem gX5_readByte_X6_setValue_n55 : GoodIn wsX5_readByte (wsX6_setValue) := ggX5_readByte_X6_setValue
theorem dX5_readByte_0 : decode cX5_readByte 0 = .ok (.bipush 99, 2) := by decide +kernel
theorem dX5_readByte_2 : decode cX5_readByte 2 = .ok (.istore 4, 2) := by decide +kernel
theorem dX5_readByte_4 : decode cX5_readByte 4 = .ok (.iconst 0, 1) := by decide +kernel
theorem dX5_readByte_5 : decode cX5_readByte 5 = .ok (.istore 5, 2) := by decide +kernel
theorem dX5_readByte_7 : decode cX5_readByte 7 = .ok (.iconst 0, 1) := by decide +kernel
theorem dX5_readByte_8 : decode cX5_readByte 8 = .ok (.istore 6, 2) := by decide +kernel
theorem dX5_readByte_10 : decode cX5_readByte 10 = .ok (.iconst 0, 1) := by decide +kernel
theorem dX5_readByte_11 : decode cX5_readByte 11 = .ok (.istore 7, 2) := by decide +kernel
theorem dX5_readByte_13 : decode cX5_readByte 13 = .ok (.iload 7, 2) := by decide +kernel
theorem dX5_readByte_15 : decode cX5_readByte 15 = .ok (.bipush 9, 2) := by decide +kernel
theorem dX5_readByte_17 : decode cX5_readByte 17 = .ok (.if_icmp .ge 54, 3) := by decide +kernel
theorem dX5_readByte_20 : decode cX5_readByte 20 = .ok (.aload_n 1, 1) := by decide +kernel
theorem dX5_readByte_21 : decode cX5_readByte 21 = .ok (.iload_n 2, 1) := by decide +kernel
theorem dX5_readByte_22 : decode cX5_readByte 22 = .ok (.iload 7, 2) := by decide +kernel
theorem dX5_readByte_24 : decode cX5_readByte 24 = .ok (.iadd, 1) := by decide +kernel
theorem dX5_readByte_25 : decode cX5_readByte 25 = .ok (.invokevirtual 51, 3) := by decide +kernel
theorem dX5_readByte_28 : decode cX5_readByte 28 = .ok (.istore 8, 2) := by decide +kernel
theorem dX5_readByte_30 : decode cX5_readByte 30 = .ok (.iload 4, 2) := by decide +kernel
theorem dX5_readByte_32 : decode cX5_readByte 32 = .ok (.aload_n 1, 1) := by decide +kernel
theorem dX5_readByte_33 : decode cX5_readByte 33 = .ok (.getfield 30, 3) := by decide +kernel
theorem dX5_readByte_36 : decode cX5_readByte 36 = .ok (.iload_n 2, 1) := by decide +kernel
theorem dX5_readByte_37 : decode cX5_readByte 37 = .ok (.iload 7, 2) := by decide +kernel
theorem dX5_readByte_39 : decode cX5_readByte 39 = .ok (.iadd, 1) := by decide +kernel
theorem dX5_readByte_40 : decode cX5_readByte 40 = .ok (.invokestatic 35, 3) := by decide +kernel
theorem dX5_readByte_43 : decode cX5_readByte 43 = .ok (.invokestatic 39, 3) := by decide +kernel
theorem dX5_readByte_46 : decode cX5_readByte 46 = .ok (.istore 4, 2) := by decide +kernel
theorem dX5_readByte_48 : decode cX5_readByte 48 = .ok (.iload 5, 2) := by decide +kernel
theorem dX5_readByte_50 : decode cX5_readByte 50 = .ok (.iload 8, 2) := by decide +kernel
theorem dX5_readByte_52 : decode cX5_readByte 52 = .ok (.iload 7, 2) := by decide +kernel
theorem dX5_readByte_54 : decode cX5_readByte 54 = .ok (.ishl, 1) := by decide +kernel
theorem dX5_readByte_55 : decode cX5_readByte 55 = .ok (.ior, 1) := by decide +kernel
theorem dX5_readByte_56 : decode cX5_readByte 56 = .ok (.istore 5, 2) := by decide +kernel
theorem dX5_readByte_58 : decode cX5_readByte 58 = .ok (.iload 6, 2) := by decide +kernel
theorem dX5_readByte_60 : decode cX5_readByte 60 = .ok (.iload 8, 2) := by decide +kernel
theorem dX5_readByte_62 : decode cX5_readByte 62 = .ok (.iadd, 1) := by decide +kernel
theorem dX5_readByte_63 : decode cX5_readByte 63 = .ok (.istore 6, 2) := by decide +kernel
theorem dX5_readByte_65 : decode cX5_readByte 65 = .ok (.iinc 7 1, 3) := by decide +kernel
theorem dX5_readByte_68 : decode cX5_readByte 68 = .ok (.goto (-55), 3) := by decide +kernel
theorem dX5_readByte_71 : decode cX5_readByte 71 = .ok (.aload_n 0, 1) := by decide +kernel
theorem dX5_readByte_72 : decode cX5_readByte 72 = .ok (.getfield 9, 3) := by decide +kernel
theorem dX5_readByte_75 : decode cX5_readByte 75 = .ok (.iload_n 3, 1) := by decide +kernel
theorem dX5_readByte_76 : decode cX5_readByte 76 = .ok (.iload 5, 2) := by decide +kernel
theorem dX5_readByte_78 : decode cX5_readByte 78 = .ok (.sipush 255, 3) := by decide +kernel
theorem dX5_readByte_81 : decode cX5_readByte 81 = .ok (.iand, 1) := by decide +kernel
theorem dX5_readByte_82 : decode cX5_readByte 82 = .ok (.invokestatic 55, 3) := by decide +kernel
theorem dX5_readByte_85 : decode cX5_readByte 85 = .ok (.iload 6, 2) := by decide +kernel
theorem dX5_readByte_87 : decode cX5_readByte 87 = .ok (.iconst 1, 1) := by decide +kernel
theorem dX5_readByte_88 : decode cX5_readByte 88 = .ok (.iand, 1) := by decide +kernel
theorem dX5_readByte_89 : decode cX5_readByte 89 = .ok (.ifCond .ne 7, 3) := by decide +kernel
theorem dX5_readByte_92 : decode cX5_readByte 92 = .ok (.iconst 1, 1) := by decide +kernel
theorem dX5_readByte_93 : decode cX5_readByte 93 = .ok (.goto 4, 3) := by decide +kernel
theorem dX5_readByte_96 : decode cX5_readByte 96 = .ok (.iconst 0, 1) := by decide +kernel
theorem dX5_readByte_97 : decode cX5_readByte 97 = .ok (.istore 7, 2) := by decide +kernel
theorem dX5_readByte_99 : decode cX5_readByte 99 = .ok (.aload_n 0, 1) := by decide +kernel
theorem dX5_readByte_100 : decode cX5_readByte 100 = .ok (.getfield 15, 3) := by decide +kernel
theorem dX5_readByte_103 : decode cX5_readByte 103 = .ok (.iload_n 3, 1) := by decide +kernel
theorem dX5_readByte_104 : decode cX5_readByte 104 = .ok (.iload 7, 2) := by decide +kernel
theorem dX5_readByte_106 : decode cX5_readByte 106 = .ok (.ifCond .eq 8, 3) := by decide +kernel
theorem dX5_readByte_109 : decode cX5_readByte 109 = .ok (.iload 4, 2) := by decide +kernel
theorem dX5_readByte_111 : decode cX5_readByte 111 = .ok (.goto 4, 3) := by decide +kernel
theorem dX5_readByte_114 : decode cX5_readByte 114 = .ok (.iconst (-1), 1) := by decide +kernel
theorem dX5_readByte_115 : decode cX5_readByte 115 = .ok (.invokestatic 55, 3) := by decide +kernel
theorem dX5_readByte_118 : decode cX5_readByte 118 = .ok (.return_, 1) := by decide +kernel
theorem dX5_isLost_0 : decode cX5_isLost 0 = .ok (.aload_n 0, 1) := by decide +kernel
theorem dX5_isLost_1 : decode cX5_isLost 1 = .ok (.getfield 48, 3) := by decide +kernel
theorem dX5_isLost_4 : decode cX5_isLost 4 = .ok (.iload_n 1, 1) := by decide +kernel
theorem dX5_isLost_5 : decode cX5_isLost 5 = .ok (.if_icmp .ge 7, 3) := by decide +kernel
theorem dX5_isLost_8 : decode cX5_isLost 8 = .ok (.iconst 1, 1) := by decide +kernel
theorem dX5_isLost_9 : decode cX5_isLost 9 = .ok (.goto 4, 3) := by decide +kernel
theorem dX5_isLost_12 : decode cX5_isLost 12 = .ok (.iconst 0, 1) := by decide +kernel
theorem dX5_isLost_13 : decode cX5_isLost 13 = .ok (.ireturn, 1) := by decide +kernel
set_option maxRecDepth 20000 in
theorem ggX5_isByteWhole_X6_valueAt : GoodIn wsX5_isByteWhole wsX6_valueAt := goodIn_r _ [4] (by decide +kernel) (by decide +kernel)
set_option maxRecDepth 20000 in
theorem gX5_isByteWhole_X6_valueAt_n35 : GoodIn wsX5_isByteWhole (wsX6_valueAt) := ggX5_isByteWhole_X6_valueAt
theorem dX5_isByteWhole_0 : decode cX5_isByteWhole 0 = .ok (.aload_n 0, 1) := by decide +kernel
theorem dX5_isByteWhole_1 : decode cX5_isByteWhole 1 = .ok (.getfield 15, 3) := by decide +kernel
theorem dX5_isByteWhole_4 : decode cX5_isByteWhole 4 = .ok (.iload_n 1, 1) := by decide +kernel
theorem dX5_isByteWhole_5 : decode cX5_isByteWhole 5 = .ok (.invokestatic 35, 3) := by decide +kernel
theorem dX5_isByteWhole_8 : decode cX5_isByteWhole 8 = .ok (.iload_n 2, 1) := by decide +kernel
theorem dX5_isByteWhole_9 : decode cX5_isByteWhole 9 = .ok (.if_icmp .lt 7, 3) := by decide +kernel
theorem dX5_isByteWhole_12 : decode cX5_isByteWhole 12 = .ok (.iconst 1, 1) := by decide +kernel
theorem dX5_isByteWhole_13 : decode cX5_isByteWhole 13 = .ok (.goto 4, 3) := by decide +kernel
theorem dX5_isByteWhole_16 : decode cX5_isByteWhole 16 = .ok (.iconst 0, 1) := by decide +kernel
theorem dX5_isByteWhole_17 : decode cX5_isByteWhole 17 = .ok (.ireturn, 1) := by decide +kernel
set_option maxRecDepth 20000 in
theorem ggX5_tellsSum_X5_isByteWhole : GoodIn wsX5_tellsSum wsX5_isByteWhole := goodIn_r _ [7, 8, 9, 10, 11, 12, 13, 14, 15] (by decide +kernel) (by decide +kernel)
set_option maxRecDepth 20000 in
theorem gX5_tellsSum_X5_isByteWhole : GoodIn wsX5_tellsSum (wsV RX5 59 RX5 yX5_isByteWhole wsX5_isByteWhole) := goodIn_app (goodIn_of _ (by decide +kernel)) ggX5_tellsSum_X5_isByteWhole
set_option maxRecDepth 20000 in
theorem ggX5_tellsSum_X6_valueAt : GoodIn wsX5_tellsSum wsX6_valueAt := goodIn_r _ [11] (by decide +kernel) (by decide +kernel)
set_option maxRecDepth 20000 in
theorem gX5_tellsSum_X6_valueAt_n35 : GoodIn wsX5_tellsSum (wsX6_valueAt) := ggX5_tellsSum_X6_valueAt
theorem dX5_tellsSum_0 : decode cX5_tellsSum 0 = .ok (.aload_n 0, 1) := by decide +kernel
theorem dX5_tellsSum_1 : decode cX5_tellsSum 1 = .ok (.aload_n 0, 1) := by decide +kernel
theorem dX5_tellsSum_2 : decode cX5_tellsSum 2 = .ok (.getfield 18, 3) := by decide +kernel
theorem dX5_tellsSum_5 : decode cX5_tellsSum 5 = .ok (.iload_n 2, 1) := by decide +kernel
theorem dX5_tellsSum_6 : decode cX5_tellsSum 6 = .ok (.invokevirtual 59, 3) := by decide +kernel
theorem dX5_tellsSum_9 : decode cX5_tellsSum 9 = .ok (.ifCond .eq 26, 3) := by decide +kernel
theorem dX5_tellsSum_12 : decode cX5_tellsSum 12 = .ok (.aload_n 0, 1) := by decide +kernel
theorem dX5_tellsSum_13 : decode cX5_tellsSum 13 = .ok (.getfield 9, 3) := by decide +kernel
theorem dX5_tellsSum_16 : decode cX5_tellsSum 16 = .ok (.aload_n 0, 1) := by decide +kernel
theorem dX5_tellsSum_17 : decode cX5_tellsSum 17 = .ok (.getfield 18, 3) := by decide +kernel
theorem dX5_tellsSum_20 : decode cX5_tellsSum 20 = .ok (.invokestatic 35, 3) := by decide +kernel
theorem dX5_tellsSum_23 : decode cX5_tellsSum 23 = .ok (.iload_n 1, 1) := by decide +kernel
theorem dX5_tellsSum_24 : decode cX5_tellsSum 24 = .ok (.sipush 255, 3) := by decide +kernel
theorem dX5_tellsSum_27 : decode cX5_tellsSum 27 = .ok (.iand, 1) := by decide +kernel
theorem dX5_tellsSum_28 : decode cX5_tellsSum 28 = .ok (.if_icmp .ne 7, 3) := by decide +kernel
theorem dX5_tellsSum_31 : decode cX5_tellsSum 31 = .ok (.iconst 1, 1) := by decide +kernel
theorem dX5_tellsSum_32 : decode cX5_tellsSum 32 = .ok (.goto 4, 3) := by decide +kernel
theorem dX5_tellsSum_35 : decode cX5_tellsSum 35 = .ok (.iconst 0, 1) := by decide +kernel
theorem dX5_tellsSum_36 : decode cX5_tellsSum 36 = .ok (.ireturn, 1) := by decide +kernel
set_option maxRecDepth 20000 in
theorem ggX5_stateBy_X5_isLost : GoodIn wsX5_stateBy wsX5_isLost := goodIn_r _ [7, 8, 21, 22, 23, 24] (by decide +kernel) (by decide +kernel)
set_option maxRecDepth 20000 in
theorem gX5_stateBy_X5_isLost : GoodIn wsX5_stateBy (wsV RX5 63 RX5 yX5_isLost wsX5_isLost) := goodIn_app (goodIn_of _ (by decide +kernel)) ggX5_stateBy_X5_isLost
set_option maxRecDepth 20000 in
theorem ggX5_stateBy_X5_isByteWhole : GoodIn wsX5_stateBy wsX5_isByteWhole := goodIn_r _ [12, 13, 14, 15, 16, 21, 22, 23, 24] (by decide +kernel) (by decide +kernel)
set_option maxRecDepth 20000 in
theorem gX5_stateBy_X5_isByteWhole : GoodIn wsX5_stateBy (wsV RX5 59 RX5 yX5_isByteWhole wsX5_isByteWhole) := goodIn_app (goodIn_of _ (by decide +kernel)) ggX5_stateBy_X5_isByteWhole
set_option maxRecDepth 20000 in
theorem ggX5_stateBy_X6_valueAt : GoodIn wsX5_stateBy wsX6_valueAt := goodIn_r _ [16] (by decide +kernel) (by decide +kernel)
set_option maxRecDepth 20000 in
theorem gX5_stateBy_X6_valueAt_n35 : GoodIn wsX5_stateBy (wsX6_valueAt) := ggX5_stateBy_X6_valueAt
set_option maxRecDepth 20000 in
theorem ggX5_stateBy_X5_tellsSum : GoodIn wsX5_stateBy wsX5_tellsSum := goodIn_r _ [20, 1, 2, 9, 10, 11, 6, 12, 13, 14, 15, 16, 21, 22, 23, 24] (by decide +kernel) (by decide +kernel)
set_option maxRecDepth 20000 in
theorem gX5_stateBy_X5_tellsSum : GoodIn wsX5_stateBy (wsV RX5 67 RX5 yX5_tellsSum wsX5_tellsSum) := goodIn_app (goodIn_of _ (by decide +kernel)) ggX5_stateBy_X5_tellsSum
theorem dX5_stateBy_0 : decode cX5_stateBy 0 = .ok (.aload_n 0, 1) := by decide +kernel
theorem dX5_stateBy_1 : decode cX5_stateBy 1 = .ok (.iload_n 1, 1) := by decide +kernel
theorem dX5_stateBy_2 : decode cX5_stateBy 2 = .ok (.invokevirtual 63, 3) := by decide +kernel
theorem dX5_stateBy_5 : decode cX5_stateBy 5 = .ok (.ifCond .eq 5, 3) := by decide +kernel
theorem dX5_stateBy_8 : decode cX5_stateBy 8 = .ok (.iconst 1, 1) := by decide +kernel
theorem dX5_stateBy_9 : decode cX5_stateBy 9 = .ok (.ireturn, 1) := by decide +kernel
theorem dX5_stateBy_10 : decode cX5_stateBy 10 = .ok (.iconst 0, 1) := by decide +kernel
theorem dX5_stateBy_11 : decode cX5_stateBy 11 = .ok (.istore_n 2, 1) := by decide +kernel
theorem dX5_stateBy_12 : decode cX5_stateBy 12 = .ok (.iconst 0, 1) := by decide +kernel
theorem dX5_stateBy_13 : decode cX5_stateBy 13 = .ok (.istore_n 3, 1) := by decide +kernel
theorem dX5_stateBy_14 : decode cX5_stateBy 14 = .ok (.iload_n 3, 1) := by decide +kernel
theorem dX5_stateBy_15 : decode cX5_stateBy 15 = .ok (.aload_n 0, 1) := by decide +kernel
theorem dX5_stateBy_16 : decode cX5_stateBy 16 = .ok (.getfield 18, 3) := by decide +kernel
theorem dX5_stateBy_19 : decode cX5_stateBy 19 = .ok (.if_icmp .ge 31, 3) := by decide +kernel
theorem dX5_stateBy_22 : decode cX5_stateBy 22 = .ok (.aload_n 0, 1) := by decide +kernel
theorem dX5_stateBy_23 : decode cX5_stateBy 23 = .ok (.iload_n 3, 1) := by decide +kernel
theorem dX5_stateBy_24 : decode cX5_stateBy 24 = .ok (.iload_n 1, 1) := by decide +kernel
theorem dX5_stateBy_25 : decode cX5_stateBy 25 = .ok (.invokevirtual 59, 3) := by decide +kernel
theorem dX5_stateBy_28 : decode cX5_stateBy 28 = .ok (.ifCond .ne 5, 3) := by decide +kernel
theorem dX5_stateBy_31 : decode cX5_stateBy 31 = .ok (.iconst 2, 1) := by decide +kernel
theorem dX5_stateBy_32 : decode cX5_stateBy 32 = .ok (.ireturn, 1) := by decide +kernel
theorem dX5_stateBy_33 : decode cX5_stateBy 33 = .ok (.iload_n 2, 1) := by decide +kernel
theorem dX5_stateBy_34 : decode cX5_stateBy 34 = .ok (.aload_n 0, 1) := by decide +kernel
theorem dX5_stateBy_35 : decode cX5_stateBy 35 = .ok (.getfield 9, 3) := by decide +kernel
theorem dX5_stateBy_38 : decode cX5_stateBy 38 = .ok (.iload_n 3, 1) := by decide +kernel
theorem dX5_stateBy_39 : decode cX5_stateBy 39 = .ok (.invokestatic 35, 3) := by decide +kernel
theorem dX5_stateBy_42 : decode cX5_stateBy 42 = .ok (.iadd, 1) := by decide +kernel
theorem dX5_stateBy_43 : decode cX5_stateBy 43 = .ok (.istore_n 2, 1) := by decide +kernel
theorem dX5_stateBy_44 : decode cX5_stateBy 44 = .ok (.iinc 3 1, 3) := by decide +kernel
theorem dX5_stateBy_47 : decode cX5_stateBy 47 = .ok (.goto (-33), 3) := by decide +kernel
theorem dX5_stateBy_50 : decode cX5_stateBy 50 = .ok (.aload_n 0, 1) := by decide +kernel
theorem dX5_stateBy_51 : decode cX5_stateBy 51 = .ok (.iload_n 2, 1) := by decide +kernel
theorem dX5_stateBy_52 : decode cX5_stateBy 52 = .ok (.iload_n 1, 1) := by decide +kernel
theorem dX5_stateBy_53 : decode cX5_stateBy 53 = .ok (.invokevirtual 67, 3) := by decide +kernel
theorem dX5_stateBy_56 : decode cX5_stateBy 56 = .ok (.ifCond .eq 7, 3) := by decide +kernel
theorem dX5_stateBy_59 : decode cX5_stateBy 59 = .ok (.iconst 0, 1) := by decide +kernel
theorem dX5_stateBy_60 : decode cX5_stateBy 60 = .ok (.goto 4, 3) := by decide +kernel
theorem dX5_stateBy_63 : decode cX5_stateBy 63 = .ok (.iconst 3, 1) := by decide +kernel
theorem dX5_stateBy_64 : decode cX5_stateBy 64 = .ok (.ireturn, 1) := by decide +kernel
set_option maxRecDepth 20000 in
theorem ggX6_init_X4_init : GoodIn wsX6_init wsX4_init := goodIn_r _ [28, 29, 2, 3, 25, 30, 31, 32, 33, 34, 35, 36, 37, 66, 67, 68, 69, 70, 71, 72, 73, 74] (by decide +kernel) (by decide +kernel)
set_option maxRecDepth 20000 in
theorem gX6_init_X4_init_n11 : GoodIn wsX6_init (wsX4_init) := ggX6_init_X4_init
set_option maxRecDepth 20000 in
theorem ggX6_init_X0_init : GoodIn wsX6_init wsX0_init := goodIn_r _ [39, 40, 2, 3, 41, 42, 43, 44, 45, 46, 47, 48, 25, 49, 50, 100, 101, 102, 103, 82, 83] (by decide +kernel) (by decide +kernel)
set_option maxRecDepth 20000 in
theorem gX6_init_X0_init_n18 : GoodIn wsX6_init (wsX0_init) := ggX6_init_X0_init
set_option maxRecDepth 20000 in
theorem ggX6_init_X2_init : GoodIn wsX6_init wsX2_init := goodIn_r _ [52, 53, 2, 3, 54, 55, 84, 85, 86, 87, 88, 89, 90, 91, 92, 93, 94] (by decide +kernel) (by decide +kernel)
set_option maxRecDepth 20000 in
theorem gX6_init_X2_init_n25 : GoodIn wsX6_init (wsX2_init) := ggX6_init_X2_init
set_option maxRecDepth 20000 in
theorem ggX6_init_X1_init : GoodIn wsX6_init wsX1_init := goodIn_r _ [57, 58, 2, 3, 59, 60, 5, 6, 27, 28, 29, 25, 30, 31, 32, 33, 34, 35, 36, 37, 95, 96, 97, 66, 67, 68, 69, 70, 71, 72, 73, 74] (by decide +kernel) (by decide +kernel)
set_option maxRecDepth 20000 in
theorem gX6_init_X1_init_n32 : GoodIn wsX6_init (wsX1_init) := ggX6_init_X1_init
set_option maxRecDepth 20000 in
theorem ggX6_init_X3_init : GoodIn wsX6_init wsX3_init := goodIn_r _ [62, 63, 2, 3, 64, 5, 6, 65, 27, 28, 29, 25, 30, 31, 32, 33, 34, 35, 36, 37, 66, 67, 68, 69, 70, 71, 72, 73, 74, 98, 99] (by decide +kernel) (by decide +kernel)
set_option maxRecDepth 20000 in
theorem gX6_init_X3_init_n39 : GoodIn wsX6_init (wsX3_init) := ggX6_init_X3_init
theorem dX6_init_0 : decode cX6_init 0 = .ok (.aload_n 0, 1) := by decide +kernel
theorem dX6_init_1 : decode cX6_init 1 = .ok (.invokespecial 3, 3) := by decide +kernel
theorem dX6_init_4 : decode cX6_init 4 = .ok (.aload_n 0, 1) := by decide +kernel
theorem dX6_init_5 : decode cX6_init 5 = .ok (.new 9, 3) := by decide +kernel
theorem dX6_init_8 : decode cX6_init 8 = .ok (.dup, 1) := by decide +kernel
theorem dX6_init_9 : decode cX6_init 9 = .ok (.invokespecial 11, 3) := by decide +kernel
theorem dX6_init_12 : decode cX6_init 12 = .ok (.putfield 12, 3) := by decide +kernel
theorem dX6_init_15 : decode cX6_init 15 = .ok (.aload_n 0, 1) := by decide +kernel
theorem dX6_init_16 : decode cX6_init 16 = .ok (.new 16, 3) := by decide +kernel
theorem dX6_init_19 : decode cX6_init 19 = .ok (.dup, 1) := by decide +kernel
theorem dX6_init_20 : decode cX6_init 20 = .ok (.invokespecial 18, 3) := by decide +kernel
theorem dX6_init_23 : decode cX6_init 23 = .ok (.putfield 19, 3) := by decide +kernel
theorem dX6_init_26 : decode cX6_init 26 = .ok (.aload_n 0, 1) := by decide +kernel
theorem dX6_init_27 : decode cX6_init 27 = .ok (.new 23, 3) := by decide +kernel
theorem dX6_init_30 : decode cX6_init 30 = .ok (.dup, 1) := by decide +kernel
theorem dX6_init_31 : decode cX6_init 31 = .ok (.invokespecial 25, 3) := by decide +kernel
theorem dX6_init_34 : decode cX6_init 34 = .ok (.putfield 26, 3) := by decide +kernel
theorem dX6_init_37 : decode cX6_init 37 = .ok (.aload_n 0, 1) := by decide +kernel
theorem dX6_init_38 : decode cX6_init 38 = .ok (.new 30, 3) := by decide +kernel
theorem dX6_init_41 : decode cX6_init 41 = .ok (.dup, 1) := by decide +kernel
theorem dX6_init_42 : decode cX6_init 42 = .ok (.invokespecial 32, 3) := by decide +kernel
theorem dX6_init_45 : decode cX6_init 45 = .ok (.putfield 33, 3) := by decide +kernel
theorem dX6_init_48 : decode cX6_init 48 = .ok (.aload_n 0, 1) := by decide +kernel
theorem dX6_init_49 : decode cX6_init 49 = .ok (.new 37, 3) := by decide +kernel
theorem dX6_init_52 : decode cX6_init 52 = .ok (.dup, 1) := by decide +kernel
theorem dX6_init_53 : decode cX6_init 53 = .ok (.invokespecial 39, 3) := by decide +kernel
theorem dX6_init_56 : decode cX6_init 56 = .ok (.putfield 40, 3) := by decide +kernel
theorem dX6_init_59 : decode cX6_init 59 = .ok (.aload_n 0, 1) := by decide +kernel
theorem dX6_init_60 : decode cX6_init 60 = .ok (.new 37, 3) := by decide +kernel
theorem dX6_init_63 : decode cX6_init 63 = .ok (.dup, 1) := by decide +kernel
theorem dX6_init_64 : decode cX6_init 64 = .ok (.invokespecial 39, 3) := by decide +kernel
theorem dX6_init_67 : decode cX6_init 67 = .ok (.putfield 44, 3) := by decide +kernel
theorem dX6_init_70 : decode cX6_init 70 = .ok (.aload_n 0, 1) := by decide +kernel
theorem dX6_init_71 : decode cX6_init 71 = .ok (.bipush 16, 2) := by decide +kernel
theorem dX6_init_73 : decode cX6_init 73 = .ok (.newarray .int, 2) := by decide +kernel
theorem dX6_init_75 : decode cX6_init 75 = .ok (.putfield 47, 3) := by decide +kernel
theorem dX6_init_78 : decode cX6_init 78 = .ok (.return_, 1) := by decide +kernel
set_option maxRecDepth 20000 in
theorem ggX6_set_X6_mostOf : GoodIn wsX6_set wsX6_mostOf := goodIn_r _ [6] (by decide +kernel) (by decide +kernel)
set_option maxRecDepth 20000 in
theorem gX6_set_X6_mostOf : GoodIn wsX6_set (va_wsS RX6 51 yX6_mostOf wsX6_mostOf) := goodIn_app (goodIn_of _ (by decide +kernel)) ggX6_set_X6_mostOf
set_option maxRecDepth 20000 in
theorem ggX6_set_X1_keep : GoodIn wsX6_set wsX1_keep := goodIn_r _ [10, 11, 12, 13, 14, 15, 8, 16, 17, 18, 19, 20, 21, 22, 23, 24, 25, 26, 27, 28, 29, 30, 31, 32, 33, 34, 35, 36, 37, 38, 39, 40, 41, 42, 43, 44, 45, 46, 47, 48, 49, 50, 5, 51, 74, 75, 76, 65, 66, 67, 68, 69, 70, 71, 72, 73] (by decide +kernel) (by decide +kernel)
set_option maxRecDepth 20000 in
theorem gX6_set_X1_keep_n55 : GoodIn wsX6_set (wsX1_keep) := ggX6_set_X1_keep
set_option maxRecDepth 20000 in
theorem ggX6_set_X4_setting : GoodIn wsX6_set wsX4_setting := goodIn_r _ [54, 27, 50, 5, 51, 65, 66, 67, 68, 69, 70, 71, 72, 73] (by decide +kernel) (by decide +kernel)
set_option maxRecDepth 20000 in
theorem gX6_set_X4_setting_n59 : GoodIn wsX6_set (wsX4_setting) := ggX6_set_X4_setting
set_option maxRecDepth 20000 in
theorem ggX6_set_X6_setValue : GoodIn wsX6_set wsX6_setValue := goodIn_r _ [57] (by decide +kernel) (by decide +kernel)
set_option maxRecDepth 20000 in
theorem gX6_set_X6_setValue : GoodIn wsX6_set (va_wsS RX6 65 yX6_setValue wsX6_setValue) := goodIn_app (goodIn_of _ (by decide +kernel)) ggX6_set_X6_setValue
theorem dX6_set_0 : decode cX6_set 0 = .ok (.iload_n 1, 1) := by decide +kernel
theorem dX6_set_1 : decode cX6_set 1 = .ok (.ifCond .lt 20, 3) := by decide +kernel
theorem dX6_set_4 : decode cX6_set 4 = .ok (.iload_n 1, 1) := by decide +kernel
theorem dX6_set_5 : decode cX6_set 5 = .ok (.iconst 3, 1) := by decide +kernel
theorem dX6_set_6 : decode cX6_set 6 = .ok (.if_icmp .ge 15, 3) := by decide +kernel
theorem dX6_set_9 : decode cX6_set 9 = .ok (.iload_n 2, 1) := by decide +kernel
theorem dX6_set_10 : decode cX6_set 10 = .ok (.ifCond .lt 11, 3) := by decide +kernel
theorem dX6_set_13 : decode cX6_set 13 = .ok (.iload_n 2, 1) := by decide +kernel
theorem dX6_set_14 : decode cX6_set 14 = .ok (.iload_n 1, 1) := by decide +kernel
theorem dX6_set_15 : decode cX6_set 15 = .ok (.invokestatic 51, 3) := by decide +kernel
theorem dX6_set_18 : decode cX6_set 18 = .ok (.if_icmp .le 6, 3) := by decide +kernel
theorem dX6_set_21 : decode cX6_set 21 = .ok (.bipush (-2), 2) := by decide +kernel
theorem dX6_set_23 : decode cX6_set 23 = .ok (.ireturn, 1) := by decide +kernel
theorem dX6_set_24 : decode cX6_set 24 = .ok (.aload_n 0, 1) := by decide +kernel
theorem dX6_set_25 : decode cX6_set 25 = .ok (.getfield 33, 3) := by decide +kernel
theorem dX6_set_28 : decode cX6_set 28 = .ok (.aload_n 0, 1) := by decide +kernel
theorem dX6_set_29 : decode cX6_set 29 = .ok (.getfield 12, 3) := by decide +kernel
theorem dX6_set_32 : decode cX6_set 32 = .ok (.invokevirtual 55, 3) := by decide +kernel
theorem dX6_set_35 : decode cX6_set 35 = .ok (.aload_n 0, 1) := by decide +kernel
theorem dX6_set_36 : decode cX6_set 36 = .ok (.getfield 12, 3) := by decide +kernel
theorem dX6_set_39 : decode cX6_set 39 = .ok (.iload_n 1, 1) := by decide +kernel
theorem dX6_set_40 : decode cX6_set 40 = .ok (.invokevirtual 59, 3) := by decide +kernel
theorem dX6_set_43 : decode cX6_set 43 = .ok (.istore_n 3, 1) := by decide +kernel
theorem dX6_set_44 : decode cX6_set 44 = .ok (.aload_n 0, 1) := by decide +kernel
theorem dX6_set_45 : decode cX6_set 45 = .ok (.getfield 12, 3) := by decide +kernel
theorem dX6_set_48 : decode cX6_set 48 = .ok (.getfield 62, 3) := by decide +kernel
theorem dX6_set_51 : decode cX6_set 51 = .ok (.iload_n 1, 1) := by decide +kernel
theorem dX6_set_52 : decode cX6_set 52 = .ok (.iload_n 2, 1) := by decide +kernel
theorem dX6_set_53 : decode cX6_set 53 = .ok (.invokestatic 65, 3) := by decide +kernel
theorem dX6_set_56 : decode cX6_set 56 = .ok (.iload_n 3, 1) := by decide +kernel
theorem dX6_set_57 : decode cX6_set 57 = .ok (.ireturn, 1) := by decide +kernel
set_option maxRecDepth 20000 in
theorem ggX6_write_X4_errorOfBlock : GoodIn wsX6_write wsX4_errorOfBlock := goodIn_r _ [6, 7, 8, 9, 10, 4, 11, 95, 96, 97, 98, 99, 100, 101, 102, 103] (by decide +kernel) (by decide +kernel)
set_option maxRecDepth 20000 in
theorem gX6_write_X4_errorOfBlock_n69 : GoodIn wsX6_write (wsX4_errorOfBlock) := ggX6_write_X4_errorOfBlock
set_option maxRecDepth 20000 in
theorem ggX6_write_X1_keep : GoodIn wsX6_write wsX1_keep := goodIn_r _ [15, 16, 17, 18, 19, 20, 13, 21, 22, 23, 24, 25, 26, 27, 4, 28, 29, 7, 30, 31, 32, 33, 34, 35, 36, 37, 38, 39, 40, 41, 42, 43, 44, 45, 46, 47, 48, 49, 50, 51, 52, 53, 54, 55, 104, 105, 106, 95, 96, 97, 98, 99, 100, 101, 102, 103] (by decide +kernel) (by decide +kernel)
set_option maxRecDepth 20000 in
theorem gX6_write_X1_keep_n55 : GoodIn wsX6_write (wsX1_keep) := ggX6_write_X1_keep
set_option maxRecDepth 20000 in
theorem ggX6_write_X4_appendBlock : GoodIn wsX6_write wsX4_appendBlock := goodIn_r _ [58, 7, 35, 36, 37, 46, 47, 38, 59, 54, 60, 61, 62, 63, 4, 64, 53, 55, 65, 66, 67, 68, 69, 70, 71, 72, 30, 73, 74, 75, 76, 77, 78, 79, 80, 48, 81, 82, 83, 84, 85, 86, 87, 95, 96, 97, 98, 99, 100, 101, 102, 103] (by decide +kernel) (by decide +kernel)
set_option maxRecDepth 20000 in
theorem gX6_write_X4_appendBlock_n73 : GoodIn wsX6_write (wsX4_appendBlock) := ggX6_write_X4_appendBlock
theorem dX6_write_0 : decode cX6_write 0 = .ok (.aload_n 0, 1) := by decide +kernel
theorem dX6_write_1 : decode cX6_write 1 = .ok (.getfield 12, 3) := by decide +kernel
theorem dX6_write_4 : decode cX6_write 4 = .ok (.iload_n 1, 1) := by decide +kernel
theorem dX6_write_5 : decode cX6_write 5 = .ok (.iload_n 2, 1) := by decide +kernel
theorem dX6_write_6 : decode cX6_write 6 = .ok (.iload_n 3, 1) := by decide +kernel
theorem dX6_write_7 : decode cX6_write 7 = .ok (.invokevirtual 69, 3) := by decide +kernel
theorem dX6_write_10 : decode cX6_write 10 = .ok (.istore 6, 2) := by decide +kernel
theorem dX6_write_12 : decode cX6_write 12 = .ok (.iload 6, 2) := by decide +kernel
theorem dX6_write_14 : decode cX6_write 14 = .ok (.ifCond .eq 6, 3) := by decide +kernel
theorem dX6_write_17 : decode cX6_write 17 = .ok (.iload 6, 2) := by decide +kernel
theorem dX6_write_19 : decode cX6_write 19 = .ok (.ireturn, 1) := by decide +kernel
theorem dX6_write_20 : decode cX6_write 20 = .ok (.aload_n 0, 1) := by decide +kernel
theorem dX6_write_21 : decode cX6_write 21 = .ok (.getfield 33, 3) := by decide +kernel
theorem dX6_write_24 : decode cX6_write 24 = .ok (.aload_n 0, 1) := by decide +kernel
theorem dX6_write_25 : decode cX6_write 25 = .ok (.getfield 12, 3) := by decide +kernel
theorem dX6_write_28 : decode cX6_write 28 = .ok (.invokevirtual 55, 3) := by decide +kernel
theorem dX6_write_31 : decode cX6_write 31 = .ok (.aload_n 0, 1) := by decide +kernel
theorem dX6_write_32 : decode cX6_write 32 = .ok (.getfield 12, 3) := by decide +kernel
theorem dX6_write_35 : decode cX6_write 35 = .ok (.iload_n 1, 1) := by decide +kernel
theorem dX6_write_36 : decode cX6_write 36 = .ok (.iload_n 2, 1) := by decide +kernel
theorem dX6_write_37 : decode cX6_write 37 = .ok (.iload_n 3, 1) := by decide +kernel
theorem dX6_write_38 : decode cX6_write 38 = .ok (.lload 4, 2) := by decide +kernel
theorem dX6_write_40 : decode cX6_write 40 = .ok (.invokevirtual 73, 3) := by decide +kernel
theorem dX6_write_43 : decode cX6_write 43 = .ok (.ireturn, 1) := by decide +kernel
set_option maxRecDepth 20000 in
theorem ggX6_wipeLast_X1_keep : GoodIn wsX6_wipeLast wsX1_keep := goodIn_r _ [6, 7, 8, 9, 10, 11, 4, 12, 13, 14, 15, 16, 17, 18, 19, 20, 21, 22, 23, 24, 25, 26, 27, 28, 29, 30, 31, 32, 33, 34, 35, 36, 37, 38, 39, 40, 41, 42, 43, 44, 45, 46, 47, 48, 65, 66, 67, 56, 57, 58, 59, 60, 61, 62, 63, 64] (by decide +kernel) (by decide +kernel)
set_option maxRecDepth 20000 in
theorem gX6_wipeLast_X1_keep_n55 : GoodIn wsX6_wipeLast (wsX1_keep) := ggX6_wipeLast_X1_keep
theorem dX6_wipeLast_0 : decode cX6_wipeLast 0 = .ok (.aload_n 0, 1) := by decide +kernel
theorem dX6_wipeLast_1 : decode cX6_wipeLast 1 = .ok (.getfield 12, 3) := by decide +kernel
theorem dX6_wipeLast_4 : decode cX6_wipeLast 4 = .ok (.getfield 77, 3) := by decide +kernel
theorem dX6_wipeLast_7 : decode cX6_wipeLast 7 = .ok (.ifCond .gt 6, 3) := by decide +kernel
theorem dX6_wipeLast_10 : decode cX6_wipeLast 10 = .ok (.bipush (-5), 2) := by decide +kernel
theorem dX6_wipeLast_12 : decode cX6_wipeLast 12 = .ok (.ireturn, 1) := by decide +kernel
theorem dX6_wipeLast_13 : decode cX6_wipeLast 13 = .ok (.aload_n 0, 1) := by decide +kernel
theorem dX6_wipeLast_14 : decode cX6_wipeLast 14 = .ok (.getfield 33, 3) := by decide +kernel
theorem dX6_wipeLast_17 : decode cX6_wipeLast 17 = .ok (.aload_n 0, 1) := by decide +kernel
theorem dX6_wipeLast_18 : decode cX6_wipeLast 18 = .ok (.getfield 12, 3) := by decide +kernel
theorem dX6_wipeLast_21 : decode cX6_wipeLast 21 = .ok (.invokevirtual 55, 3) := by decide +kernel
theorem dX6_wipeLast_24 : decode cX6_wipeLast 24 = .ok (.aload_n 0, 1) := by decide +kernel
theorem dX6_wipeLast_25 : decode cX6_wipeLast 25 = .ok (.getfield 12, 3) := by decide +kernel
theorem dX6_wipeLast_28 : decode cX6_wipeLast 28 = .ok (.dup, 1) := by decide +kernel
theorem dX6_wipeLast_29 : decode cX6_wipeLast 29 = .ok (.getfield 77, 3) := by decide +kernel
theorem dX6_wipeLast_32 : decode cX6_wipeLast 32 = .ok (.iconst 1, 1) := by decide +kernel
theorem dX6_wipeLast_33 : decode cX6_wipeLast 33 = .ok (.isub, 1) := by decide +kernel
theorem dX6_wipeLast_34 : decode cX6_wipeLast 34 = .ok (.putfield 77, 3) := by decide +kernel
theorem dX6_wipeLast_37 : decode cX6_wipeLast 37 = .ok (.aload_n 0, 1) := by decide +kernel
theorem dX6_wipeLast_38 : decode cX6_wipeLast 38 = .ok (.getfield 12, 3) := by decide +kernel
theorem dX6_wipeLast_41 : decode cX6_wipeLast 41 = .ok (.getfield 77, 3) := by decide +kernel
theorem dX6_wipeLast_44 : decode cX6_wipeLast 44 = .ok (.ireturn, 1) := by decide +kernel
set_option maxRecDepth 20000 in
theorem ggX6_fade_X4_errorOfFading : GoodIn wsX6_fade wsX4_errorOfFading := goodIn_r _ [6, 7, 8, 9, 4, 10, 11, 12, 13, 14, 15, 16, 17, 18, 19, 68, 69, 70, 71, 72, 73, 74, 75, 76] (by decide +kernel) (by decide +kernel)
set_option maxRecDepth 20000 in
theorem gX6_fade_X4_errorOfFading_n81 : GoodIn wsX6_fade (wsX4_errorOfFading) := ggX6_fade_X4_errorOfFading
set_option maxRecDepth 20000 in
theorem ggX6_fade_X1_keep : GoodIn wsX6_fade wsX1_keep := goodIn_r _ [23, 24, 25, 26, 27, 28, 21, 29, 30, 31, 32, 33, 34, 35, 4, 36, 37, 16, 38, 39, 40, 41, 42, 43, 44, 45, 15, 46, 47, 48, 49, 50, 51, 52, 53, 54, 55, 11, 12, 13, 14, 17, 18, 19, 77, 78, 79, 68, 69, 70, 71, 72, 73, 74, 75, 76] (by decide +kernel) (by decide +kernel)
set_option maxRecDepth 20000 in
theorem gX6_fade_X1_keep_n55 : GoodIn wsX6_fade (wsX1_keep) := ggX6_fade_X1_keep
set_option maxRecDepth 20000 in
theorem ggX6_fade_X4_fadeCells : GoodIn wsX6_fade wsX4_fadeCells := goodIn_r _ [58, 53, 17, 18, 19, 59, 60, 68, 69, 70, 71, 72, 73, 74, 75, 76] (by decide +kernel) (by decide +kernel)
set_option maxRecDepth 20000 in
theorem gX6_fade_X4_fadeCells_n84 : GoodIn wsX6_fade (wsX4_fadeCells) := ggX6_fade_X4_fadeCells
theorem dX6_fade_0 : decode cX6_fade 0 = .ok (.aload_n 0, 1) := by decide +kernel
theorem dX6_fade_1 : decode cX6_fade 1 = .ok (.getfield 12, 3) := by decide +kernel
theorem dX6_fade_4 : decode cX6_fade 4 = .ok (.iload_n 1, 1) := by decide +kernel
theorem dX6_fade_5 : decode cX6_fade 5 = .ok (.iload_n 2, 1) := by decide +kernel
theorem dX6_fade_6 : decode cX6_fade 6 = .ok (.iload_n 3, 1) := by decide +kernel
theorem dX6_fade_7 : decode cX6_fade 7 = .ok (.invokevirtual 81, 3) := by decide +kernel
theorem dX6_fade_10 : decode cX6_fade 10 = .ok (.istore 4, 2) := by decide +kernel
theorem dX6_fade_12 : decode cX6_fade 12 = .ok (.iload 4, 2) := by decide +kernel
theorem dX6_fade_14 : decode cX6_fade 14 = .ok (.ifCond .eq 6, 3) := by decide +kernel
theorem dX6_fade_17 : decode cX6_fade 17 = .ok (.iload 4, 2) := by decide +kernel
theorem dX6_fade_19 : decode cX6_fade 19 = .ok (.ireturn, 1) := by decide +kernel
theorem dX6_fade_20 : decode cX6_fade 20 = .ok (.aload_n 0, 1) := by decide +kernel
theorem dX6_fade_21 : decode cX6_fade 21 = .ok (.getfield 33, 3) := by decide +kernel
theorem dX6_fade_24 : decode cX6_fade 24 = .ok (.aload_n 0, 1) := by decide +kernel
theorem dX6_fade_25 : decode cX6_fade 25 = .ok (.getfield 12, 3) := by decide +kernel
theorem dX6_fade_28 : decode cX6_fade 28 = .ok (.invokevirtual 55, 3) := by decide +kernel
theorem dX6_fade_31 : decode cX6_fade 31 = .ok (.aload_n 0, 1) := by decide +kernel
theorem dX6_fade_32 : decode cX6_fade 32 = .ok (.getfield 12, 3) := by decide +kernel
theorem dX6_fade_35 : decode cX6_fade 35 = .ok (.iload_n 1, 1) := by decide +kernel
theorem dX6_fade_36 : decode cX6_fade 36 = .ok (.iload_n 2, 1) := by decide +kernel
theorem dX6_fade_37 : decode cX6_fade 37 = .ok (.iload_n 3, 1) := by decide +kernel
theorem dX6_fade_38 : decode cX6_fade 38 = .ok (.invokevirtual 84, 3) := by decide +kernel
theorem dX6_fade_41 : decode cX6_fade 41 = .ok (.ireturn, 1) := by decide +kernel
set_option maxRecDepth 20000 in
theorem ggX6_spoil_X4_hasCell : GoodIn wsX6_spoil wsX4_hasCell := goodIn_r _ [6, 7, 8, 9, 4, 10, 11, 12, 13, 14, 15, 64, 65, 66, 67, 68, 69, 70, 71, 72] (by decide +kernel) (by decide +kernel)
set_option maxRecDepth 20000 in
theorem gX6_spoil_X4_hasCell_n87 : GoodIn wsX6_spoil (wsX4_hasCell) := ggX6_spoil_X4_hasCell
set_option maxRecDepth 20000 in
theorem ggX6_spoil_X1_keep : GoodIn wsX6_spoil wsX1_keep := goodIn_r _ [19, 20, 21, 22, 23, 24, 17, 25, 26, 27, 28, 29, 30, 31, 4, 32, 33, 12, 34, 35, 36, 37, 38, 39, 40, 41, 11, 42, 43, 44, 45, 46, 47, 48, 49, 50, 51, 7, 8, 9, 10, 13, 14, 15, 73, 74, 75, 64, 65, 66, 67, 68, 69, 70, 71, 72] (by decide +kernel) (by decide +kernel)
set_option maxRecDepth 20000 in
theorem gX6_spoil_X1_keep_n55 : GoodIn wsX6_spoil (wsX1_keep) := ggX6_spoil_X1_keep
set_option maxRecDepth 20000 in
theorem ggX6_spoil_X4_spoilCell : GoodIn wsX6_spoil wsX4_spoilCell := goodIn_r _ [54, 50, 13, 14, 15, 55, 56, 64, 65, 66, 67, 68, 69, 70, 71, 72] (by decide +kernel) (by decide +kernel)
set_option maxRecDepth 20000 in
theorem gX6_spoil_X4_spoilCell_n91 : GoodIn wsX6_spoil (wsX4_spoilCell) := ggX6_spoil_X4_spoilCell
theorem dX6_spoil_0 : decode cX6_spoil 0 = .ok (.aload_n 0, 1) := by decide +kernel
theorem dX6_spoil_1 : decode cX6_spoil 1 = .ok (.getfield 12, 3) := by decide +kernel
theorem dX6_spoil_4 : decode cX6_spoil 4 = .ok (.iload_n 1, 1) := by decide +kernel
theorem dX6_spoil_5 : decode cX6_spoil 5 = .ok (.invokevirtual 87, 3) := by decide +kernel
theorem dX6_spoil_8 : decode cX6_spoil 8 = .ok (.ifCond .ne 5, 3) := by decide +kernel
theorem dX6_spoil_11 : decode cX6_spoil 11 = .ok (.iconst (-1), 1) := by decide +kernel
theorem dX6_spoil_12 : decode cX6_spoil 12 = .ok (.ireturn, 1) := by decide +kernel
theorem dX6_spoil_13 : decode cX6_spoil 13 = .ok (.aload_n 0, 1) := by decide +kernel
theorem dX6_spoil_14 : decode cX6_spoil 14 = .ok (.getfield 33, 3) := by decide +kernel
theorem dX6_spoil_17 : decode cX6_spoil 17 = .ok (.aload_n 0, 1) := by decide +kernel
theorem dX6_spoil_18 : decode cX6_spoil 18 = .ok (.getfield 12, 3) := by decide +kernel
theorem dX6_spoil_21 : decode cX6_spoil 21 = .ok (.invokevirtual 55, 3) := by decide +kernel
theorem dX6_spoil_24 : decode cX6_spoil 24 = .ok (.aload_n 0, 1) := by decide +kernel
theorem dX6_spoil_25 : decode cX6_spoil 25 = .ok (.getfield 12, 3) := by decide +kernel
theorem dX6_spoil_28 : decode cX6_spoil 28 = .ok (.iload_n 1, 1) := by decide +kernel
theorem dX6_spoil_29 : decode cX6_spoil 29 = .ok (.invokevirtual 91, 3) := by decide +kernel
theorem dX6_spoil_32 : decode cX6_spoil 32 = .ok (.ireturn, 1) := by decide +kernel
set_option maxRecDepth 20000 in
theorem ggX6_of_X4_hasBlock : GoodIn wsX6_of wsX4_hasBlock := goodIn_r _ [5, 6, 112, 113, 114, 115, 116, 117, 118, 119, 120] (by decide +kernel) (by decide +kernel)
set_option maxRecDepth 20000 in
theorem gX6_of_X4_hasBlock_n94 : GoodIn wsX6_of (wsX4_hasBlock) := ggX6_of_X4_hasBlock
set_option maxRecDepth 20000 in
theorem ggX6_of_X6_valueAt : GoodIn wsX6_of wsX6_valueAt := goodIn_r _ [10] (by decide +kernel) (by decide +kernel)
set_option maxRecDepth 20000 in
theorem gX6_of_X6_valueAt : GoodIn wsX6_of (va_wsS RX6 100 yX6_valueAt wsX6_valueAt) := goodIn_app (goodIn_of _ (by decide +kernel)) ggX6_of_X6_valueAt
set_option maxRecDepth 20000 in
theorem ggX6_of_X4_firstOf : GoodIn wsX6_of wsX4_firstOf := goodIn_r _ [13, 14, 8, 9, 10, 112, 113, 114, 115, 116, 117, 118, 119, 120] (by decide +kernel) (by decide +kernel)
set_option maxRecDepth 20000 in
theorem gX6_of_X4_firstOf_n110 : GoodIn wsX6_of (wsX4_firstOf) := ggX6_of_X4_firstOf
set_option maxRecDepth 20000 in
theorem ggX6_of_X6_stateOfTelling : GoodIn wsX6_of wsX6_stateOfTelling := goodIn_r _ [18, 19, 1, 20, 21, 22, 23, 24, 25, 11, 3, 12, 13, 14, 8, 9, 10, 26, 27, 28, 29, 30, 31, 32, 33, 34, 35, 36, 37, 38, 39, 40, 41, 42, 43, 44, 45, 46, 47, 48, 49, 50, 51, 52, 53, 54, 55, 56, 57, 58, 59, 60, 61, 62, 63, 64, 65, 66, 67, 68, 69, 70, 71, 72, 73, 74, 75, 76, 77, 78, 79, 80, 81, 105, 106, 107, 108, 109, 110, 111, 112, 113, 114, 115, 116, 117, 118, 119, 120, 121, 122, 123, 124, 125, 126] (by decide +kernel) (by decide +kernel)
set_option maxRecDepth 20000 in
theorem gX6_of_X6_stateOfTelling : GoodIn wsX6_of (wsV RX6 113 RX6 yX6_stateOfTelling wsX6_stateOfTelling) := goodIn_app (goodIn_of _ (by decide +kernel)) ggX6_of_X6_stateOfTelling
set_option maxRecDepth 20000 in
theorem ggX6_of_X6_wayOfLoading : GoodIn wsX6_of wsX6_wayOfLoading := goodIn_r _ [85, 19, 1, 20, 21, 22, 23, 24, 25, 11, 3, 12, 13, 14, 8, 9, 10, 26, 27, 28, 29, 30, 31, 32, 33, 34, 35, 36, 37, 38, 39, 40, 41, 42, 43, 44, 45, 46, 47, 48, 49, 50, 51, 52, 53, 54, 55, 56, 57, 58, 59, 63, 64, 65, 66, 86, 87, 88, 67, 68, 69, 70, 71, 72, 73, 74, 75, 76, 77, 78, 79, 80, 81, 89, 90, 91, 92, 93, 94, 95, 96, 105, 106, 107, 108, 109, 110, 111, 112, 113, 114, 115, 116, 117, 118, 119, 120, 121, 122, 123, 124, 125, 126] (by decide +kernel) (by decide +kernel)
set_option maxRecDepth 20000 in
theorem gX6_of_X6_wayOfLoading : GoodIn wsX6_of (wsV RX6 117 RX6 yX6_wayOfLoading wsX6_wayOfLoading) := goodIn_app (goodIn_of _ (by decide +kernel)) ggX6_of_X6_wayOfLoading
set_option maxRecDepth 20000 in
theorem ggX6_of_X4_depthOf : GoodIn wsX6_of wsX4_depthOf := goodIn_r _ [99, 100, 8, 9, 10, 112, 113, 114, 115, 116, 117, 118, 119, 120] (by decide +kernel) (by decide +kernel)
set_option maxRecDepth 20000 in
theorem gX6_of_X4_depthOf_n120 : GoodIn wsX6_of (wsX4_depthOf) := ggX6_of_X4_depthOf
set_option maxRecDepth 20000 in
theorem ggX6_of_X4_counterOf : GoodIn wsX6_of wsX4_counterOf := goodIn_r _ [103, 104, 63, 64, 3, 65, 66, 8, 9, 10, 112, 113, 114, 115, 116, 117, 118, 119, 120] (by decide +kernel) (by decide +kernel)
set_option maxRecDepth 20000 in
theorem gX6_of_X4_counterOf_n123 : GoodIn wsX6_of (wsX4_counterOf) := ggX6_of_X4_counterOf
theorem dX6_of_0 : decode cX6_of 0 = .ok (.aload_n 0, 1) := by decide +kernel
theorem dX6_of_1 : decode cX6_of 1 = .ok (.getfield 12, 3) := by decide +kernel
theorem dX6_of_4 : decode cX6_of 4 = .ok (.iload_n 1, 1) := by decide +kernel
theorem dX6_of_5 : decode cX6_of 5 = .ok (.invokevirtual 94, 3) := by decide +kernel
theorem dX6_of_8 : decode cX6_of 8 = .ok (.ifCond .ne 5, 3) := by decide +kernel
theorem dX6_of_11 : decode cX6_of 11 = .ok (.iconst (-1), 1) := by decide +kernel
theorem dX6_of_12 : decode cX6_of 12 = .ok (.ireturn, 1) := by decide +kernel
theorem dX6_of_13 : decode cX6_of 13 = .ok (.iload_n 2, 1) := by decide +kernel
theorem dX6_of_14 : decode cX6_of 14 = .ok (.tableswitch 164 0 9 #[54, 66, 78, 90, 99, 119, 126, 133, 139, 148], 54) := by decide +kernel
theorem dX6_of_68 : decode cX6_of 68 = .ok (.aload_n 0, 1) := by decide +kernel
theorem dX6_of_69 : decode cX6_of 69 = .ok (.getfield 12, 3) := by decide +kernel
theorem dX6_of_72 : decode cX6_of 72 = .ok (.getfield 97, 3) := by decide +kernel
theorem dX6_of_75 : decode cX6_of 75 = .ok (.iload_n 1, 1) := by decide +kernel
theorem dX6_of_76 : decode cX6_of 76 = .ok (.invokestatic 100, 3) := by decide +kernel
theorem dX6_of_79 : decode cX6_of 79 = .ok (.ireturn, 1) := by decide +kernel
theorem dX6_of_80 : decode cX6_of 80 = .ok (.aload_n 0, 1) := by decide +kernel
theorem dX6_of_81 : decode cX6_of 81 = .ok (.getfield 12, 3) := by decide +kernel
theorem dX6_of_84 : decode cX6_of 84 = .ok (.getfield 104, 3) := by decide +kernel
theorem dX6_of_87 : decode cX6_of 87 = .ok (.iload_n 1, 1) := by decide +kernel
theorem dX6_of_88 : decode cX6_of 88 = .ok (.invokestatic 100, 3) := by decide +kernel
theorem dX6_of_91 : decode cX6_of 91 = .ok (.ireturn, 1) := by decide +kernel
theorem dX6_of_92 : decode cX6_of 92 = .ok (.aload_n 0, 1) := by decide +kernel
theorem dX6_of_93 : decode cX6_of 93 = .ok (.getfield 12, 3) := by decide +kernel
theorem dX6_of_96 : decode cX6_of 96 = .ok (.getfield 107, 3) := by decide +kernel
theorem dX6_of_99 : decode cX6_of 99 = .ok (.iload_n 1, 1) := by decide +kernel
theorem dX6_of_100 : decode cX6_of 100 = .ok (.invokestatic 100, 3) := by decide +kernel
theorem dX6_of_103 : decode cX6_of 103 = .ok (.ireturn, 1) := by decide +kernel
theorem dX6_of_104 : decode cX6_of 104 = .ok (.aload_n 0, 1) := by decide +kernel
theorem dX6_of_105 : decode cX6_of 105 = .ok (.getfield 12, 3) := by decide +kernel
theorem dX6_of_108 : decode cX6_of 108 = .ok (.iload_n 1, 1) := by decide +kernel
theorem dX6_of_109 : decode cX6_of 109 = .ok (.invokevirtual 110, 3) := by decide +kernel
theorem dX6_of_112 : decode cX6_of 112 = .ok (.ireturn, 1) := by decide +kernel
theorem dX6_of_113 : decode cX6_of 113 = .ok (.aload_n 0, 1) := by decide +kernel
theorem dX6_of_114 : decode cX6_of 114 = .ok (.getfield 12, 3) := by decide +kernel
theorem dX6_of_117 : decode cX6_of 117 = .ok (.iload_n 1, 1) := by decide +kernel
theorem dX6_of_118 : decode cX6_of 118 = .ok (.iconst 1, 1) := by decide +kernel
theorem dX6_of_119 : decode cX6_of 119 = .ok (.iadd, 1) := by decide +kernel
theorem dX6_of_120 : decode cX6_of 120 = .ok (.invokevirtual 110, 3) := by decide +kernel
theorem dX6_of_123 : decode cX6_of 123 = .ok (.aload_n 0, 1) := by decide +kernel
theorem dX6_of_124 : decode cX6_of 124 = .ok (.getfield 12, 3) := by decide +kernel
theorem dX6_of_127 : decode cX6_of 127 = .ok (.iload_n 1, 1) := by decide +kernel
theorem dX6_of_128 : decode cX6_of 128 = .ok (.invokevirtual 110, 3) := by decide +kernel
theorem dX6_of_131 : decode cX6_of 131 = .ok (.isub, 1) := by decide +kernel
theorem dX6_of_132 : decode cX6_of 132 = .ok (.ireturn, 1) := by decide +kernel
theorem dX6_of_133 : decode cX6_of 133 = .ok (.aload_n 0, 1) := by decide +kernel
theorem dX6_of_134 : decode cX6_of 134 = .ok (.iload_n 1, 1) := by decide +kernel
theorem dX6_of_135 : decode cX6_of 135 = .ok (.iconst 0, 1) := by decide +kernel
theorem dX6_of_136 : decode cX6_of 136 = .ok (.invokevirtual 113, 3) := by decide +kernel
theorem dX6_of_139 : decode cX6_of 139 = .ok (.ireturn, 1) := by decide +kernel
theorem dX6_of_140 : decode cX6_of 140 = .ok (.aload_n 0, 1) := by decide +kernel
theorem dX6_of_141 : decode cX6_of 141 = .ok (.iload_n 1, 1) := by decide +kernel
theorem dX6_of_142 : decode cX6_of 142 = .ok (.iconst 1, 1) := by decide +kernel
theorem dX6_of_143 : decode cX6_of 143 = .ok (.invokevirtual 113, 3) := by decide +kernel
theorem dX6_of_146 : decode cX6_of 146 = .ok (.ireturn, 1) := by decide +kernel
theorem dX6_of_147 : decode cX6_of 147 = .ok (.aload_n 0, 1) := by decide +kernel
theorem dX6_of_148 : decode cX6_of 148 = .ok (.iload_n 1, 1) := by decide +kernel
theorem dX6_of_149 : decode cX6_of 149 = .ok (.invokevirtual 117, 3) := by decide +kernel
theorem dX6_of_152 : decode cX6_of 152 = .ok (.ireturn, 1) := by decide +kernel
theorem dX6_of_153 : decode cX6_of 153 = .ok (.aload_n 0, 1) := by decide +kernel
theorem dX6_of_154 : decode cX6_of 154 = .ok (.getfield 12, 3) := by decide +kernel
theorem dX6_of_157 : decode cX6_of 157 = .ok (.iload_n 1, 1) := by decide +kernel
theorem dX6_of_158 : decode cX6_of 158 = .ok (.invokevirtual 120, 3) := by decide +kernel
theorem dX6_of_161 : decode cX6_of 161 = .ok (.ireturn, 1) := by decide +kernel
theorem dX6_of_162 : decode cX6_of 162 = .ok (.aload_n 0, 1) := by decide +kernel
theorem dX6_of_163 : decode cX6_of 163 = .ok (.getfield 12, 3) := by decide +kernel
theorem dX6_of_166 : decode cX6_of 166 = .ok (.aload_n 0, 1) := by decide +kernel
theorem dX6_of_167 : decode cX6_of 167 = .ok (.getfield 12, 3) := by decide +kernel
theorem dX6_of_170 : decode cX6_of 170 = .ok (.iload_n 1, 1) := by decide +kernel
theorem dX6_of_171 : decode cX6_of 171 = .ok (.invokevirtual 110, 3) := by decide +kernel
theorem dX6_of_174 : decode cX6_of 174 = .ok (.invokevirtual 123, 3) := by decide +kernel
theorem dX6_of_177 : decode cX6_of 177 = .ok (.ireturn, 1) := by decide +kernel
theorem dX6_of_178 : decode cX6_of 178 = .ok (.bipush (-2), 2) := by decide +kernel
theorem dX6_of_180 : decode cX6_of 180 = .ok (.ireturn, 1) := by decide +kernel
set_option maxRecDepth 20000 in
theorem ggX6_load_X4_hasBlock : GoodIn wsX6_load wsX4_hasBlock := goodIn_r _ [8, 9, 105, 106, 107, 108, 109, 110, 111, 112, 113] (by decide +kernel) (by decide +kernel)
set_option maxRecDepth 20000 in
theorem gX6_load_X4_hasBlock_n94 : GoodIn wsX6_load (wsX4_hasBlock) := ggX6_load_X4_hasBlock
set_option maxRecDepth 20000 in
theorem ggX6_load_X6_wayOfLoading : GoodIn wsX6_load wsX6_wayOfLoading := goodIn_r _ [14, 4, 1, 15, 16, 17, 18, 19, 20, 21, 6, 22, 23, 24, 25, 13, 26, 27, 28, 29, 30, 31, 32, 33, 34, 35, 36, 37, 38, 39, 40, 41, 42, 43, 44, 45, 46, 47, 48, 49, 50, 51, 52, 53, 54, 55, 56, 57, 58, 59, 60, 61, 62, 63, 64, 65, 66, 67, 68, 69, 70, 71, 72, 73, 74, 75, 76, 77, 78, 79, 80, 81, 82, 83, 84, 85, 86, 87, 88, 89, 90, 98, 99, 100, 101, 102, 103, 104, 105, 106, 107, 108, 109, 110, 111, 112, 113, 114, 115, 116, 117, 118, 119] (by decide +kernel) (by decide +kernel)
set_option maxRecDepth 20000 in
theorem gX6_load_X6_wayOfLoading : GoodIn wsX6_load (wsV RX6 117 RX6 yX6_wayOfLoading wsX6_wayOfLoading) := goodIn_app (goodIn_of _ (by decide +kernel)) ggX6_load_X6_wayOfLoading
set_option maxRecDepth 20000 in
theorem ggX6_load_X4_setting : GoodIn wsX6_load wsX4_setting := goodIn_r _ [63, 64, 25, 13, 26, 105, 106, 107, 108, 109, 110, 111, 112, 113] (by decide +kernel) (by decide +kernel)
set_option maxRecDepth 20000 in
theorem gX6_load_X4_setting_n59 : GoodIn wsX6_load (wsX4_setting) := ggX6_load_X4_setting
set_option maxRecDepth 20000 in
theorem ggX6_load_X0_bytesBy : GoodIn wsX6_load wsX0_bytesBy := goodIn_r _ [93, 19, 94, 95, 96, 16, 97, 20, 25, 13, 26, 87, 88, 89, 90, 76, 28, 77, 78, 49, 114, 115, 116, 117, 118, 119] (by decide +kernel) (by decide +kernel)
set_option maxRecDepth 20000 in
theorem gX6_load_X0_bytesBy_n130 : GoodIn wsX6_load (wsX0_bytesBy) := ggX6_load_X0_bytesBy
theorem dX6_load_0 : decode cX6_load 0 = .ok (.aload_n 0, 1) := by decide +kernel
theorem dX6_load_1 : decode cX6_load 1 = .ok (.getfield 12, 3) := by decide +kernel
theorem dX6_load_4 : decode cX6_load 4 = .ok (.iload_n 1, 1) := by decide +kernel
theorem dX6_load_5 : decode cX6_load 5 = .ok (.invokevirtual 94, 3) := by decide +kernel
theorem dX6_load_8 : decode cX6_load 8 = .ok (.ifCond .ne 7, 3) := by decide +kernel
theorem dX6_load_11 : decode cX6_load 11 = .ok (.ldc2_w 126, 3) := by decide +kernel
theorem dX6_load_14 : decode cX6_load 14 = .ok (.lreturn, 1) := by decide +kernel
theorem dX6_load_15 : decode cX6_load 15 = .ok (.aload_n 0, 1) := by decide +kernel
theorem dX6_load_16 : decode cX6_load 16 = .ok (.iload_n 1, 1) := by decide +kernel
theorem dX6_load_17 : decode cX6_load 17 = .ok (.invokevirtual 117, 3) := by decide +kernel
theorem dX6_load_20 : decode cX6_load 20 = .ok (.istore_n 2, 1) := by decide +kernel
theorem dX6_load_21 : decode cX6_load 21 = .ok (.iload_n 2, 1) := by decide +kernel
theorem dX6_load_22 : decode cX6_load 22 = .ok (.bipush (-6), 2) := by decide +kernel
theorem dX6_load_24 : decode cX6_load 24 = .ok (.if_icmp .ne 7, 3) := by decide +kernel
theorem dX6_load_27 : decode cX6_load 27 = .ok (.ldc2_w 128, 3) := by decide +kernel
theorem dX6_load_30 : decode cX6_load 30 = .ok (.lreturn, 1) := by decide +kernel
theorem dX6_load_31 : decode cX6_load 31 = .ok (.aload_n 0, 1) := by decide +kernel
theorem dX6_load_32 : decode cX6_load 32 = .ok (.getfield 19, 3) := by decide +kernel
theorem dX6_load_35 : decode cX6_load 35 = .ok (.iload_n 2, 1) := by decide +kernel
theorem dX6_load_36 : decode cX6_load 36 = .ok (.aload_n 0, 1) := by decide +kernel
theorem dX6_load_37 : decode cX6_load 37 = .ok (.getfield 12, 3) := by decide +kernel
theorem dX6_load_40 : decode cX6_load 40 = .ok (.iconst 1, 1) := by decide +kernel
theorem dX6_load_41 : decode cX6_load 41 = .ok (.invokevirtual 59, 3) := by decide +kernel
theorem dX6_load_44 : decode cX6_load 44 = .ok (.invokevirtual 130, 3) := by decide +kernel
theorem dX6_load_47 : decode cX6_load 47 = .ok (.lreturn, 1) := by decide +kernel
set_option maxRecDepth 20000 in
theorem ggX6_read_X4_hasBlock : GoodIn wsX6_read wsX4_hasBlock := goodIn_r _ [6, 7, 76, 77, 78, 79, 80, 81, 82, 83, 84] (by decide +kernel) (by decide +kernel)
set_option maxRecDepth 20000 in
theorem gX6_read_X4_hasBlock_n94 : GoodIn wsX6_read (wsX4_hasBlock) := ggX6_read_X4_hasBlock
set_option maxRecDepth 20000 in
theorem ggX6_read_X6_valueAt : GoodIn wsX6_read wsX6_valueAt := goodIn_r _ [11] (by decide +kernel) (by decide +kernel)
set_option maxRecDepth 20000 in
theorem gX6_read_X6_valueAt : GoodIn wsX6_read (va_wsS RX6 100 yX6_valueAt wsX6_valueAt) := goodIn_app (goodIn_of _ (by decide +kernel)) ggX6_read_X6_valueAt
set_option maxRecDepth 20000 in
theorem ggX6_read_X0_readBlock : GoodIn wsX6_read wsX0_readBlock := goodIn_r _ [15, 16, 17, 18, 4, 19, 20, 21, 9, 10, 11, 22, 23, 24, 25, 26, 27, 28, 29, 30, 31, 32, 33, 34, 35, 36, 37, 38, 39, 40, 41, 42, 43, 44, 45, 46, 47, 48, 49, 50, 51, 52, 53, 54, 55, 76, 77, 78, 79, 80, 81, 82, 83, 84, 89, 90, 85, 86, 87, 88] (by decide +kernel) (by decide +kernel)
set_option maxRecDepth 20000 in
theorem gX6_read_X0_readBlock_n134 : GoodIn wsX6_read (wsX0_readBlock) := ggX6_read_X0_readBlock
set_option maxRecDepth 20000 in
theorem ggX6_read_X0_telling : GoodIn wsX6_read wsX0_telling := goodIn_r _ [58, 16, 17, 89, 90] (by decide +kernel) (by decide +kernel)
set_option maxRecDepth 20000 in
theorem gX6_read_X0_telling_n138 : GoodIn wsX6_read (wsX0_telling) := ggX6_read_X0_telling
set_option maxRecDepth 20000 in
theorem ggX6_read_X4_setting : GoodIn wsX6_read wsX4_setting := goodIn_r _ [61, 62, 9, 10, 11, 76, 77, 78, 79, 80, 81, 82, 83, 84] (by decide +kernel) (by decide +kernel)
set_option maxRecDepth 20000 in
theorem gX6_read_X4_setting_n59 : GoodIn wsX6_read (wsX4_setting) := ggX6_read_X4_setting
set_option maxRecDepth 20000 in
theorem ggX6_read_X5_isLost : GoodIn wsX6_read wsX5_isLost := goodIn_r _ [65, 38, 85, 86, 87, 88] (by decide +kernel) (by decide +kernel)
set_option maxRecDepth 20000 in
theorem gX6_read_X5_isLost_n142 : GoodIn wsX6_read (wsX5_isLost) := ggX6_read_X5_isLost
set_option maxRecDepth 20000 in
theorem ggX6_read_X5_isByteWhole : GoodIn wsX6_read wsX5_isByteWhole := goodIn_r _ [68, 44, 9, 10, 11, 85, 86, 87, 88] (by decide +kernel) (by decide +kernel)
set_option maxRecDepth 20000 in
theorem gX6_read_X5_isByteWhole_n147 : GoodIn wsX6_read (wsX5_isByteWhole) := ggX6_read_X5_isByteWhole
theorem dX6_read_0 : decode cX6_read 0 = .ok (.aload_n 0, 1) := by decide +kernel
theorem dX6_read_1 : decode cX6_read 1 = .ok (.getfield 12, 3) := by decide +kernel
theorem dX6_read_4 : decode cX6_read 4 = .ok (.iload_n 1, 1) := by decide +kernel
theorem dX6_read_5 : decode cX6_read 5 = .ok (.invokevirtual 94, 3) := by decide +kernel
theorem dX6_read_8 : decode cX6_read 8 = .ok (.ifCond .eq 22, 3) := by decide +kernel
theorem dX6_read_11 : decode cX6_read 11 = .ok (.iload_n 3, 1) := by decide +kernel
theorem dX6_read_12 : decode cX6_read 12 = .ok (.ifCond .lt 18, 3) := by decide +kernel
theorem dX6_read_15 : decode cX6_read 15 = .ok (.iload_n 3, 1) := by decide +kernel
theorem dX6_read_16 : decode cX6_read 16 = .ok (.aload_n 0, 1) := by decide +kernel
theorem dX6_read_17 : decode cX6_read 17 = .ok (.getfield 12, 3) := by decide +kernel
theorem dX6_read_20 : decode cX6_read 20 = .ok (.getfield 107, 3) := by decide +kernel
theorem dX6_read_23 : decode cX6_read 23 = .ok (.iload_n 1, 1) := by decide +kernel
theorem dX6_read_24 : decode cX6_read 24 = .ok (.invokestatic 100, 3) := by decide +kernel
theorem dX6_read_27 : decode cX6_read 27 = .ok (.if_icmp .le 5, 3) := by decide +kernel
theorem dX6_read_30 : decode cX6_read 30 = .ok (.iconst (-1), 1) := by decide +kernel
theorem dX6_read_31 : decode cX6_read 31 = .ok (.ireturn, 1) := by decide +kernel
theorem dX6_read_32 : decode cX6_read 32 = .ok (.iload_n 2, 1) := by decide +kernel
theorem dX6_read_33 : decode cX6_read 33 = .ok (.ifCond .lt 8, 3) := by decide +kernel
theorem dX6_read_36 : decode cX6_read 36 = .ok (.iload_n 2, 1) := by decide +kernel
theorem dX6_read_37 : decode cX6_read 37 = .ok (.iconst 2, 1) := by decide +kernel
theorem dX6_read_38 : decode cX6_read 38 = .ok (.if_icmp .lt 6, 3) := by decide +kernel
theorem dX6_read_41 : decode cX6_read 41 = .ok (.bipush (-2), 2) := by decide +kernel
theorem dX6_read_43 : decode cX6_read 43 = .ok (.ireturn, 1) := by decide +kernel
theorem dX6_read_44 : decode cX6_read 44 = .ok (.aload_n 0, 1) := by decide +kernel
theorem dX6_read_45 : decode cX6_read 45 = .ok (.getfield 19, 3) := by decide +kernel
theorem dX6_read_48 : decode cX6_read 48 = .ok (.aload_n 0, 1) := by decide +kernel
theorem dX6_read_49 : decode cX6_read 49 = .ok (.getfield 12, 3) := by decide +kernel
theorem dX6_read_52 : decode cX6_read 52 = .ok (.iload_n 1, 1) := by decide +kernel
theorem dX6_read_53 : decode cX6_read 53 = .ok (.invokevirtual 134, 3) := by decide +kernel
theorem dX6_read_56 : decode cX6_read 56 = .ok (.aload_n 0, 1) := by decide +kernel
theorem dX6_read_57 : decode cX6_read 57 = .ok (.getfield 19, 3) := by decide +kernel
theorem dX6_read_60 : decode cX6_read 60 = .ok (.iload_n 2, 1) := by decide +kernel
theorem dX6_read_61 : decode cX6_read 61 = .ok (.invokevirtual 138, 3) := by decide +kernel
theorem dX6_read_64 : decode cX6_read 64 = .ok (.astore 4, 2) := by decide +kernel
theorem dX6_read_66 : decode cX6_read 66 = .ok (.aload_n 0, 1) := by decide +kernel
theorem dX6_read_67 : decode cX6_read 67 = .ok (.getfield 12, 3) := by decide +kernel
theorem dX6_read_70 : decode cX6_read 70 = .ok (.iconst 1, 1) := by decide +kernel
theorem dX6_read_71 : decode cX6_read 71 = .ok (.invokevirtual 59, 3) := by decide +kernel
theorem dX6_read_74 : decode cX6_read 74 = .ok (.istore 5, 2) := by decide +kernel
theorem dX6_read_76 : decode cX6_read 76 = .ok (.aload 4, 2) := by decide +kernel
theorem dX6_read_78 : decode cX6_read 78 = .ok (.iload 5, 2) := by decide +kernel
theorem dX6_read_80 : decode cX6_read 80 = .ok (.invokevirtual 142, 3) := by decide +kernel
theorem dX6_read_83 : decode cX6_read 83 = .ok (.ifCond .ne 14, 3) := by decide +kernel
theorem dX6_read_86 : decode cX6_read 86 = .ok (.aload 4, 2) := by decide +kernel
theorem dX6_read_88 : decode cX6_read 88 = .ok (.iload_n 3, 1) := by decide +kernel
theorem dX6_read_89 : decode cX6_read 89 = .ok (.iload 5, 2) := by decide +kernel
theorem dX6_read_91 : decode cX6_read 91 = .ok (.invokevirtual 147, 3) := by decide +kernel
theorem dX6_read_94 : decode cX6_read 94 = .ok (.ifCond .ne 6, 3) := by decide +kernel
theorem dX6_read_97 : decode cX6_read 97 = .ok (.bipush (-6), 2) := by decide +kernel
theorem dX6_read_99 : decode cX6_read 99 = .ok (.ireturn, 1) := by decide +kernel
theorem dX6_read_100 : decode cX6_read 100 = .ok (.aload 4, 2) := by decide +kernel
theorem dX6_read_102 : decode cX6_read 102 = .ok (.getfield 151, 3) := by decide +kernel
theorem dX6_read_105 : decode cX6_read 105 = .ok (.iload_n 3, 1) := by decide +kernel
theorem dX6_read_106 : decode cX6_read 106 = .ok (.invokestatic 100, 3) := by decide +kernel
theorem dX6_read_109 : decode cX6_read 109 = .ok (.ireturn, 1) := by decide +kernel
set_option maxRecDepth 20000 in
theorem ggX6_cell_X4_hasCell : GoodIn wsX6_cell wsX4_hasCell := goodIn_r _ [5, 6, 7, 8, 3, 9, 10, 11, 12, 13, 14, 57, 58, 59, 60, 61, 62, 63, 64, 65] (by decide +kernel) (by decide +kernel)
set_option maxRecDepth 20000 in
theorem gX6_cell_X4_hasCell_n87 : GoodIn wsX6_cell (wsX4_hasCell) := ggX6_cell_X4_hasCell
set_option maxRecDepth 20000 in
theorem ggX6_cell_X6_valueAt : GoodIn wsX6_cell wsX6_valueAt := goodIn_r _ [14] (by decide +kernel) (by decide +kernel)
set_option maxRecDepth 20000 in
theorem gX6_cell_X6_valueAt : GoodIn wsX6_cell (va_wsS RX6 100 yX6_valueAt wsX6_valueAt) := goodIn_app (goodIn_of _ (by decide +kernel)) ggX6_cell_X6_valueAt
set_option maxRecDepth 20000 in
theorem ggX6_cell_X4_bitAt : GoodIn wsX6_cell wsX4_bitAt := goodIn_r _ [18, 19, 20, 21, 3, 22, 11, 23, 24, 25, 26, 10, 12, 13, 14, 27, 28, 29, 30, 31, 32, 33, 34, 35, 36, 37, 38, 39, 40, 41, 57, 58, 59, 60, 61, 62, 63, 64, 65] (by decide +kernel) (by decide +kernel)
set_option maxRecDepth 20000 in
theorem gX6_cell_X4_bitAt_n160 : GoodIn wsX6_cell (wsX4_bitAt) := ggX6_cell_X4_bitAt
set_option maxRecDepth 20000 in
theorem ggX6_cell_X4_blockAt : GoodIn wsX6_cell wsX4_blockAt := goodIn_r _ [22, 11, 23, 24, 25, 3, 26, 10, 12, 13, 14, 57, 58, 59, 60, 61, 62, 63, 64, 65] (by decide +kernel) (by decide +kernel)
set_option maxRecDepth 20000 in
theorem gX6_cell_X4_blockAt_n163 : GoodIn wsX6_cell (wsX4_blockAt) := ggX6_cell_X4_blockAt
set_option maxRecDepth 20000 in
theorem ggX6_cell_X4_partAt : GoodIn wsX6_cell wsX4_partAt := goodIn_r _ [30, 19, 20, 21, 3, 22, 11, 23, 24, 25, 26, 10, 12, 13, 14, 31, 32, 33, 34, 35, 57, 58, 59, 60, 61, 62, 63, 64, 65] (by decide +kernel) (by decide +kernel)
set_option maxRecDepth 20000 in
theorem gX6_cell_X4_partAt_n166 : GoodIn wsX6_cell (wsX4_partAt) := ggX6_cell_X4_partAt
set_option maxRecDepth 20000 in
theorem ggX6_cell_X4_counterOf : GoodIn wsX6_cell wsX4_counterOf := goodIn_r _ [44, 45, 46, 47, 3, 48, 49, 12, 13, 14, 57, 58, 59, 60, 61, 62, 63, 64, 65] (by decide +kernel) (by decide +kernel)
set_option maxRecDepth 20000 in
theorem gX6_cell_X4_counterOf_n123 : GoodIn wsX6_cell (wsX4_counterOf) := ggX6_cell_X4_counterOf
theorem dX6_cell_0 : decode cX6_cell 0 = .ok (.aload_n 0, 1) := by decide +kernel
theorem dX6_cell_1 : decode cX6_cell 1 = .ok (.getfield 12, 3) := by decide +kernel
theorem dX6_cell_4 : decode cX6_cell 4 = .ok (.iload_n 1, 1) := by decide +kernel
