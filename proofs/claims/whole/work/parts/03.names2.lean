set_option maxRecDepth 20000 in
theorem ggX3_writeTelling_X3_writeByte : GoodIn wsX3_writeTelling wsX3_writeByte := goodIn_r _ [5, 6, 7, 8, 9, 10, 11, 12, 13, 14, 15, 16, 17, 18, 19, 20, 21, 22] (by decide +kernel) (by decide +kernel)
set_option maxRecDepth 20000 in
theorem gX3_writeTelling_X3_writeByte : GoodIn wsX3_writeTelling (wsV RX3 62 RX3 yX3_writeByte wsX3_writeByte) := goodIn_app (goodIn_of _ (by decide +kernel)) ggX3_writeTelling_X3_writeByte
theorem dX3_writeTelling_0 : decode cX3_writeTelling 0 = .ok (.iconst 0, 1) := by decide +kernel
theorem dX3_writeTelling_1 : decode cX3_writeTelling 1 = .ok (.istore 5, 2) := by decide +kernel
theorem dX3_writeTelling_3 : decode cX3_writeTelling 3 = .ok (.iconst 0, 1) := by decide +kernel
theorem dX3_writeTelling_4 : decode cX3_writeTelling 4 = .ok (.istore 6, 2) := by decide +kernel
theorem dX3_writeTelling_6 : decode cX3_writeTelling 6 = .ok (.iload 6, 2) := by decide +kernel
theorem dX3_writeTelling_8 : decode cX3_writeTelling 8 = .ok (.iload_n 2, 1) := by decide +kernel
theorem dX3_writeTelling_9 : decode cX3_writeTelling 9 = .ok (.if_icmp .ge 43, 3) := by decide +kernel
theorem dX3_writeTelling_12 : decode cX3_writeTelling 12 = .ok (.lload_n 3, 1) := by decide +kernel
theorem dX3_writeTelling_13 : decode cX3_writeTelling 13 = .ok (.iload 6, 2) := by decide +kernel
theorem dX3_writeTelling_15 : decode cX3_writeTelling 15 = .ok (.bipush 8, 2) := by decide +kernel
theorem dX3_writeTelling_17 : decode cX3_writeTelling 17 = .ok (.imul, 1) := by decide +kernel
theorem dX3_writeTelling_18 : decode cX3_writeTelling 18 = .ok (.lushr, 1) := by decide +kernel
theorem dX3_writeTelling_19 : decode cX3_writeTelling 19 = .ok (.l2i, 1) := by decide +kernel
theorem dX3_writeTelling_20 : decode cX3_writeTelling 20 = .ok (.sipush 255, 3) := by decide +kernel
theorem dX3_writeTelling_23 : decode cX3_writeTelling 23 = .ok (.iand, 1) := by decide +kernel
theorem dX3_writeTelling_24 : decode cX3_writeTelling 24 = .ok (.istore 7, 2) := by decide +kernel
theorem dX3_writeTelling_26 : decode cX3_writeTelling 26 = .ok (.iload 5, 2) := by decide +kernel
theorem dX3_writeTelling_28 : decode cX3_writeTelling 28 = .ok (.iload 7, 2) := by decide +kernel
theorem dX3_writeTelling_30 : decode cX3_writeTelling 30 = .ok (.iadd, 1) := by decide +kernel
theorem dX3_writeTelling_31 : decode cX3_writeTelling 31 = .ok (.istore 5, 2) := by decide +kernel
theorem dX3_writeTelling_33 : decode cX3_writeTelling 33 = .ok (.aload_n 0, 1) := by decide +kernel
theorem dX3_writeTelling_34 : decode cX3_writeTelling 34 = .ok (.iload_n 1, 1) := by decide +kernel
theorem dX3_writeTelling_35 : decode cX3_writeTelling 35 = .ok (.iload 6, 2) := by decide +kernel
theorem dX3_writeTelling_37 : decode cX3_writeTelling 37 = .ok (.bipush 9, 2) := by decide +kernel
theorem dX3_writeTelling_39 : decode cX3_writeTelling 39 = .ok (.imul, 1) := by decide +kernel
theorem dX3_writeTelling_40 : decode cX3_writeTelling 40 = .ok (.iadd, 1) := by decide +kernel
theorem dX3_writeTelling_41 : decode cX3_writeTelling 41 = .ok (.iload 7, 2) := by decide +kernel
theorem dX3_writeTelling_43 : decode cX3_writeTelling 43 = .ok (.invokevirtual 62, 3) := by decide +kernel
theorem dX3_writeTelling_46 : decode cX3_writeTelling 46 = .ok (.iinc 6 1, 3) := by decide +kernel
theorem dX3_writeTelling_49 : decode cX3_writeTelling 49 = .ok (.goto (-43), 3) := by decide +kernel
theorem dX3_writeTelling_52 : decode cX3_writeTelling 52 = .ok (.aload_n 0, 1) := by decide +kernel
theorem dX3_writeTelling_53 : decode cX3_writeTelling 53 = .ok (.iload_n 1, 1) := by decide +kernel
theorem dX3_writeTelling_54 : decode cX3_writeTelling 54 = .ok (.iload_n 2, 1) := by decide +kernel
theorem dX3_writeTelling_55 : decode cX3_writeTelling 55 = .ok (.bipush 9, 2) := by decide +kernel
theorem dX3_writeTelling_57 : decode cX3_writeTelling 57 = .ok (.imul, 1) := by decide +kernel
theorem dX3_writeTelling_58 : decode cX3_writeTelling 58 = .ok (.iadd, 1) := by decide +kernel
theorem dX3_writeTelling_59 : decode cX3_writeTelling 59 = .ok (.iload 5, 2) := by decide +kernel
theorem dX3_writeTelling_61 : decode cX3_writeTelling 61 = .ok (.sipush 255, 3) := by decide +kernel
theorem dX3_writeTelling_64 : decode cX3_writeTelling 64 = .ok (.iand, 1) := by decide +kernel
theorem dX3_writeTelling_65 : decode cX3_writeTelling 65 = .ok (.invokevirtual 62, 3) := by decide +kernel
theorem dX3_writeTelling_68 : decode cX3_writeTelling 68 = .ok (.return_, 1) := by decide +kernel
set_option maxRecDepth 20000 in
theorem ggX3_writeByte_J6_bitCount_0f7a4 : GoodIn wsX3_writeByte wsJ6_bitCount_0f7a4 := goodIn_r _ [5, 6, 7, 8] (by decide +kernel) (by decide +kernel)
set_option maxRecDepth 20000 in
theorem gX3_writeByte_J6_bitCount_0f7a4 : GoodIn wsX3_writeByte (va_wsS RX3 66 yJ6_bitCount_0f7a4 wsJ6_bitCount_0f7a4) := goodIn_app (goodIn_of _ (by decide +kernel)) ggX3_writeByte_J6_bitCount_0f7a4
theorem dX3_writeByte_0 : decode cX3_writeByte 0 = .ok (.iconst 0, 1) := by decide +kernel
theorem dX3_writeByte_1 : decode cX3_writeByte 1 = .ok (.istore_n 3, 1) := by decide +kernel
theorem dX3_writeByte_2 : decode cX3_writeByte 2 = .ok (.iload_n 3, 1) := by decide +kernel
theorem dX3_writeByte_3 : decode cX3_writeByte 3 = .ok (.bipush 8, 2) := by decide +kernel
theorem dX3_writeByte_5 : decode cX3_writeByte 5 = .ok (.if_icmp .ge 22, 3) := by decide +kernel
theorem dX3_writeByte_8 : decode cX3_writeByte 8 = .ok (.aload_n 0, 1) := by decide +kernel
theorem dX3_writeByte_9 : decode cX3_writeByte 9 = .ok (.getfield 33, 3) := by decide +kernel
theorem dX3_writeByte_12 : decode cX3_writeByte 12 = .ok (.iload_n 1, 1) := by decide +kernel
theorem dX3_writeByte_13 : decode cX3_writeByte 13 = .ok (.iload_n 3, 1) := by decide +kernel
theorem dX3_writeByte_14 : decode cX3_writeByte 14 = .ok (.iadd, 1) := by decide +kernel
theorem dX3_writeByte_15 : decode cX3_writeByte 15 = .ok (.iload_n 2, 1) := by decide +kernel
theorem dX3_writeByte_16 : decode cX3_writeByte 16 = .ok (.iload_n 3, 1) := by decide +kernel
theorem dX3_writeByte_17 : decode cX3_writeByte 17 = .ok (.iushr, 1) := by decide +kernel
theorem dX3_writeByte_18 : decode cX3_writeByte 18 = .ok (.iconst 1, 1) := by decide +kernel
theorem dX3_writeByte_19 : decode cX3_writeByte 19 = .ok (.iand, 1) := by decide +kernel
theorem dX3_writeByte_20 : decode cX3_writeByte 20 = .ok (.iastore, 1) := by decide +kernel
theorem dX3_writeByte_21 : decode cX3_writeByte 21 = .ok (.iinc 3 1, 3) := by decide +kernel
theorem dX3_writeByte_24 : decode cX3_writeByte 24 = .ok (.goto (-22), 3) := by decide +kernel
theorem dX3_writeByte_27 : decode cX3_writeByte 27 = .ok (.aload_n 0, 1) := by decide +kernel
theorem dX3_writeByte_28 : decode cX3_writeByte 28 = .ok (.getfield 33, 3) := by decide +kernel
theorem dX3_writeByte_31 : decode cX3_writeByte 31 = .ok (.iload_n 1, 1) := by decide +kernel
theorem dX3_writeByte_32 : decode cX3_writeByte 32 = .ok (.bipush 8, 2) := by decide +kernel
theorem dX3_writeByte_34 : decode cX3_writeByte 34 = .ok (.iadd, 1) := by decide +kernel
theorem dX3_writeByte_35 : decode cX3_writeByte 35 = .ok (.iload_n 2, 1) := by decide +kernel
theorem dX3_writeByte_36 : decode cX3_writeByte 36 = .ok (.invokestatic 66, 3) := by decide +kernel
theorem dX3_writeByte_39 : decode cX3_writeByte 39 = .ok (.iconst 1, 1) := by decide +kernel
theorem dX3_writeByte_40 : decode cX3_writeByte 40 = .ok (.iand, 1) := by decide +kernel
theorem dX3_writeByte_41 : decode cX3_writeByte 41 = .ok (.iastore, 1) := by decide +kernel
theorem dX3_writeByte_42 : decode cX3_writeByte 42 = .ok (.return_, 1) := by decide +kernel
set_option maxRecDepth 20000 in
theorem ggX3_errorOfFading_X3_hasCell : GoodIn wsX3_errorOfFading wsX3_hasCell := goodIn_r _ [5, 6, 7, 8, 4, 9, 10, 11, 12, 13, 14, 15, 16, 17, 18, 19, 20] (by decide +kernel) (by decide +kernel)
set_option maxRecDepth 20000 in
theorem gX3_errorOfFading_X3_hasCell : GoodIn wsX3_errorOfFading (wsV RX3 71 RX3 yX3_hasCell wsX3_hasCell) := goodIn_app (goodIn_of _ (by decide +kernel)) ggX3_errorOfFading_X3_hasCell
theorem dX3_errorOfFading_0 : decode cX3_errorOfFading 0 = .ok (.aload_n 0, 1) := by decide +kernel
theorem dX3_errorOfFading_1 : decode cX3_errorOfFading 1 = .ok (.iload_n 1, 1) := by decide +kernel
theorem dX3_errorOfFading_2 : decode cX3_errorOfFading 2 = .ok (.invokevirtual 71, 3) := by decide +kernel
theorem dX3_errorOfFading_5 : decode cX3_errorOfFading 5 = .ok (.ifCond .eq 11, 3) := by decide +kernel
theorem dX3_errorOfFading_8 : decode cX3_errorOfFading 8 = .ok (.aload_n 0, 1) := by decide +kernel
theorem dX3_errorOfFading_9 : decode cX3_errorOfFading 9 = .ok (.iload_n 2, 1) := by decide +kernel
theorem dX3_errorOfFading_10 : decode cX3_errorOfFading 10 = .ok (.invokevirtual 71, 3) := by decide +kernel
theorem dX3_errorOfFading_13 : decode cX3_errorOfFading 13 = .ok (.ifCond .ne 5, 3) := by decide +kernel
theorem dX3_errorOfFading_16 : decode cX3_errorOfFading 16 = .ok (.iconst (-1), 1) := by decide +kernel
theorem dX3_errorOfFading_17 : decode cX3_errorOfFading 17 = .ok (.ireturn, 1) := by decide +kernel
theorem dX3_errorOfFading_18 : decode cX3_errorOfFading 18 = .ok (.iload_n 2, 1) := by decide +kernel
theorem dX3_errorOfFading_19 : decode cX3_errorOfFading 19 = .ok (.iload_n 1, 1) := by decide +kernel
theorem dX3_errorOfFading_20 : decode cX3_errorOfFading 20 = .ok (.if_icmp .lt 13, 3) := by decide +kernel
theorem dX3_errorOfFading_23 : decode cX3_errorOfFading 23 = .ok (.iload_n 3, 1) := by decide +kernel
theorem dX3_errorOfFading_24 : decode cX3_errorOfFading 24 = .ok (.ifCond .lt 9, 3) := by decide +kernel
theorem dX3_errorOfFading_27 : decode cX3_errorOfFading 27 = .ok (.iload_n 3, 1) := by decide +kernel
theorem dX3_errorOfFading_28 : decode cX3_errorOfFading 28 = .ok (.bipush 99, 2) := by decide +kernel
theorem dX3_errorOfFading_30 : decode cX3_errorOfFading 30 = .ok (.if_icmp .le 8, 3) := by decide +kernel
theorem dX3_errorOfFading_33 : decode cX3_errorOfFading 33 = .ok (.bipush (-2), 2) := by decide +kernel
theorem dX3_errorOfFading_35 : decode cX3_errorOfFading 35 = .ok (.goto 4, 3) := by decide +kernel
theorem dX3_errorOfFading_38 : decode cX3_errorOfFading 38 = .ok (.iconst 0, 1) := by decide +kernel
theorem dX3_errorOfFading_39 : decode cX3_errorOfFading 39 = .ok (.ireturn, 1) := by decide +kernel
theorem dX3_fadeCells_0 : decode cX3_fadeCells 0 = .ok (.iconst 0, 1) := by decide +kernel
theorem dX3_fadeCells_1 : decode cX3_fadeCells 1 = .ok (.istore 4, 2) := by decide +kernel
theorem dX3_fadeCells_3 : decode cX3_fadeCells 3 = .ok (.iload_n 1, 1) := by decide +kernel
theorem dX3_fadeCells_4 : decode cX3_fadeCells 4 = .ok (.istore 5, 2) := by decide +kernel
theorem dX3_fadeCells_6 : decode cX3_fadeCells 6 = .ok (.iload 5, 2) := by decide +kernel
theorem dX3_fadeCells_8 : decode cX3_fadeCells 8 = .ok (.iload_n 2, 1) := by decide +kernel
theorem dX3_fadeCells_9 : decode cX3_fadeCells 9 = .ok (.if_icmp .gt 31, 3) := by decide +kernel
theorem dX3_fadeCells_12 : decode cX3_fadeCells 12 = .ok (.aload_n 0, 1) := by decide +kernel
theorem dX3_fadeCells_13 : decode cX3_fadeCells 13 = .ok (.getfield 27, 3) := by decide +kernel
theorem dX3_fadeCells_16 : decode cX3_fadeCells 16 = .ok (.iload 5, 2) := by decide +kernel
theorem dX3_fadeCells_18 : decode cX3_fadeCells 18 = .ok (.iaload, 1) := by decide +kernel
theorem dX3_fadeCells_19 : decode cX3_fadeCells 19 = .ok (.iload_n 3, 1) := by decide +kernel
theorem dX3_fadeCells_20 : decode cX3_fadeCells 20 = .ok (.if_icmp .le 14, 3) := by decide +kernel
theorem dX3_fadeCells_23 : decode cX3_fadeCells 23 = .ok (.aload_n 0, 1) := by decide +kernel
theorem dX3_fadeCells_24 : decode cX3_fadeCells 24 = .ok (.getfield 27, 3) := by decide +kernel
theorem dX3_fadeCells_27 : decode cX3_fadeCells 27 = .ok (.iload 5, 2) := by decide +kernel
theorem dX3_fadeCells_29 : decode cX3_fadeCells 29 = .ok (.iload_n 3, 1) := by decide +kernel
theorem dX3_fadeCells_30 : decode cX3_fadeCells 30 = .ok (.iastore, 1) := by decide +kernel
theorem dX3_fadeCells_31 : decode cX3_fadeCells 31 = .ok (.iinc 4 1, 3) := by decide +kernel
theorem dX3_fadeCells_34 : decode cX3_fadeCells 34 = .ok (.iinc 5 1, 3) := by decide +kernel
theorem dX3_fadeCells_37 : decode cX3_fadeCells 37 = .ok (.goto (-31), 3) := by decide +kernel
theorem dX3_fadeCells_40 : decode cX3_fadeCells 40 = .ok (.iload 4, 2) := by decide +kernel
theorem dX3_fadeCells_42 : decode cX3_fadeCells 42 = .ok (.ireturn, 1) := by decide +kernel
theorem dX3_spoilCell_0 : decode cX3_spoilCell 0 = .ok (.aload_n 0, 1) := by decide +kernel
theorem dX3_spoilCell_1 : decode cX3_spoilCell 1 = .ok (.getfield 30, 3) := by decide +kernel
theorem dX3_spoilCell_4 : decode cX3_spoilCell 4 = .ok (.iload_n 1, 1) := by decide +kernel
theorem dX3_spoilCell_5 : decode cX3_spoilCell 5 = .ok (.iconst 1, 1) := by decide +kernel
theorem dX3_spoilCell_6 : decode cX3_spoilCell 6 = .ok (.aload_n 0, 1) := by decide +kernel
theorem dX3_spoilCell_7 : decode cX3_spoilCell 7 = .ok (.getfield 30, 3) := by decide +kernel
theorem dX3_spoilCell_10 : decode cX3_spoilCell 10 = .ok (.iload_n 1, 1) := by decide +kernel
theorem dX3_spoilCell_11 : decode cX3_spoilCell 11 = .ok (.iaload, 1) := by decide +kernel
theorem dX3_spoilCell_12 : decode cX3_spoilCell 12 = .ok (.isub, 1) := by decide +kernel
theorem dX3_spoilCell_13 : decode cX3_spoilCell 13 = .ok (.iastore, 1) := by decide +kernel
theorem dX3_spoilCell_14 : decode cX3_spoilCell 14 = .ok (.aload_n 0, 1) := by decide +kernel
theorem dX3_spoilCell_15 : decode cX3_spoilCell 15 = .ok (.getfield 30, 3) := by decide +kernel
theorem dX3_spoilCell_18 : decode cX3_spoilCell 18 = .ok (.iload_n 1, 1) := by decide +kernel
theorem dX3_spoilCell_19 : decode cX3_spoilCell 19 = .ok (.iaload, 1) := by decide +kernel
theorem dX3_spoilCell_20 : decode cX3_spoilCell 20 = .ok (.ireturn, 1) := by decide +kernel
set_option maxRecDepth 20000 in
theorem ggX3_silentCells_X3_cells : GoodIn wsX3_silentCells wsX3_cells := goodIn_r _ [7, 8, 9, 10, 11, 12, 13, 14, 15, 16, 17, 18] (by decide +kernel) (by decide +kernel)
set_option maxRecDepth 20000 in
theorem gX3_silentCells_X3_cells : GoodIn wsX3_silentCells (wsV RX3 46 RX3 yX3_cells wsX3_cells) := goodIn_app (goodIn_of _ (by decide +kernel)) ggX3_silentCells_X3_cells
theorem dX3_silentCells_0 : decode cX3_silentCells 0 = .ok (.iconst 0, 1) := by decide +kernel
theorem dX3_silentCells_1 : decode cX3_silentCells 1 = .ok (.istore_n 1, 1) := by decide +kernel
theorem dX3_silentCells_2 : decode cX3_silentCells 2 = .ok (.aload_n 0, 1) := by decide +kernel
theorem dX3_silentCells_3 : decode cX3_silentCells 3 = .ok (.invokevirtual 46, 3) := by decide +kernel
theorem dX3_silentCells_6 : decode cX3_silentCells 6 = .ok (.istore_n 2, 1) := by decide +kernel
theorem dX3_silentCells_7 : decode cX3_silentCells 7 = .ok (.iconst 0, 1) := by decide +kernel
theorem dX3_silentCells_8 : decode cX3_silentCells 8 = .ok (.istore_n 3, 1) := by decide +kernel
theorem dX3_silentCells_9 : decode cX3_silentCells 9 = .ok (.iload_n 3, 1) := by decide +kernel
theorem dX3_silentCells_10 : decode cX3_silentCells 10 = .ok (.iload_n 2, 1) := by decide +kernel
theorem dX3_silentCells_11 : decode cX3_silentCells 11 = .ok (.if_icmp .ge 27, 3) := by decide +kernel
theorem dX3_silentCells_14 : decode cX3_silentCells 14 = .ok (.aload_n 0, 1) := by decide +kernel
theorem dX3_silentCells_15 : decode cX3_silentCells 15 = .ok (.getfield 27, 3) := by decide +kernel
theorem dX3_silentCells_18 : decode cX3_silentCells 18 = .ok (.iload_n 3, 1) := by decide +kernel
theorem dX3_silentCells_19 : decode cX3_silentCells 19 = .ok (.iaload, 1) := by decide +kernel
theorem dX3_silentCells_20 : decode cX3_silentCells 20 = .ok (.aload_n 0, 1) := by decide +kernel
theorem dX3_silentCells_21 : decode cX3_silentCells 21 = .ok (.getfield 9, 3) := by decide +kernel
theorem dX3_silentCells_24 : decode cX3_silentCells 24 = .ok (.iconst 1, 1) := by decide +kernel
theorem dX3_silentCells_25 : decode cX3_silentCells 25 = .ok (.iaload, 1) := by decide +kernel
theorem dX3_silentCells_26 : decode cX3_silentCells 26 = .ok (.if_icmp .ge 6, 3) := by decide +kernel
theorem dX3_silentCells_29 : decode cX3_silentCells 29 = .ok (.iinc 1 1, 3) := by decide +kernel
theorem dX3_silentCells_32 : decode cX3_silentCells 32 = .ok (.iinc 3 1, 3) := by decide +kernel
theorem dX3_silentCells_35 : decode cX3_silentCells 35 = .ok (.goto (-26), 3) := by decide +kernel
theorem dX3_silentCells_38 : decode cX3_silentCells 38 = .ok (.iload_n 1, 1) := by decide +kernel
theorem dX3_silentCells_39 : decode cX3_silentCells 39 = .ok (.ireturn, 1) := by decide +kernel
set_option maxRecDepth 20000 in
theorem ggX3_badCells_X3_cells : GoodIn wsX3_badCells wsX3_cells := goodIn_r _ [6, 7, 8, 9, 10, 11, 12, 13, 14, 15, 16, 17] (by decide +kernel) (by decide +kernel)
set_option maxRecDepth 20000 in
theorem gX3_badCells_X3_cells : GoodIn wsX3_badCells (wsV RX3 46 RX3 yX3_cells wsX3_cells) := goodIn_app (goodIn_of _ (by decide +kernel)) ggX3_badCells_X3_cells
theorem dX3_badCells_0 : decode cX3_badCells 0 = .ok (.iconst 0, 1) := by decide +kernel
theorem dX3_badCells_1 : decode cX3_badCells 1 = .ok (.istore_n 1, 1) := by decide +kernel
theorem dX3_badCells_2 : decode cX3_badCells 2 = .ok (.aload_n 0, 1) := by decide +kernel
theorem dX3_badCells_3 : decode cX3_badCells 3 = .ok (.invokevirtual 46, 3) := by decide +kernel
theorem dX3_badCells_6 : decode cX3_badCells 6 = .ok (.istore_n 2, 1) := by decide +kernel
theorem dX3_badCells_7 : decode cX3_badCells 7 = .ok (.iconst 0, 1) := by decide +kernel
theorem dX3_badCells_8 : decode cX3_badCells 8 = .ok (.istore_n 3, 1) := by decide +kernel
theorem dX3_badCells_9 : decode cX3_badCells 9 = .ok (.iload_n 3, 1) := by decide +kernel
theorem dX3_badCells_10 : decode cX3_badCells 10 = .ok (.iload_n 2, 1) := by decide +kernel
theorem dX3_badCells_11 : decode cX3_badCells 11 = .ok (.if_icmp .ge 18, 3) := by decide +kernel
theorem dX3_badCells_14 : decode cX3_badCells 14 = .ok (.iload_n 1, 1) := by decide +kernel
theorem dX3_badCells_15 : decode cX3_badCells 15 = .ok (.aload_n 0, 1) := by decide +kernel
theorem dX3_badCells_16 : decode cX3_badCells 16 = .ok (.getfield 30, 3) := by decide +kernel
theorem dX3_badCells_19 : decode cX3_badCells 19 = .ok (.iload_n 3, 1) := by decide +kernel
theorem dX3_badCells_20 : decode cX3_badCells 20 = .ok (.iaload, 1) := by decide +kernel
theorem dX3_badCells_21 : decode cX3_badCells 21 = .ok (.iadd, 1) := by decide +kernel
theorem dX3_badCells_22 : decode cX3_badCells 22 = .ok (.istore_n 1, 1) := by decide +kernel
theorem dX3_badCells_23 : decode cX3_badCells 23 = .ok (.iinc 3 1, 3) := by decide +kernel
theorem dX3_badCells_26 : decode cX3_badCells 26 = .ok (.goto (-17), 3) := by decide +kernel
theorem dX3_badCells_29 : decode cX3_badCells 29 = .ok (.iload_n 1, 1) := by decide +kernel
theorem dX3_badCells_30 : decode cX3_badCells 30 = .ok (.ireturn, 1) := by decide +kernel
theorem dX3_blockAt_0 : decode cX3_blockAt 0 = .ok (.iconst 0, 1) := by decide +kernel
theorem dX3_blockAt_1 : decode cX3_blockAt 1 = .ok (.istore_n 2, 1) := by decide +kernel
theorem dX3_blockAt_2 : decode cX3_blockAt 2 = .ok (.iload_n 2, 1) := by decide +kernel
theorem dX3_blockAt_3 : decode cX3_blockAt 3 = .ok (.aload_n 0, 1) := by decide +kernel
theorem dX3_blockAt_4 : decode cX3_blockAt 4 = .ok (.getfield 36, 3) := by decide +kernel
theorem dX3_blockAt_7 : decode cX3_blockAt 7 = .ok (.iconst 1, 1) := by decide +kernel
theorem dX3_blockAt_8 : decode cX3_blockAt 8 = .ok (.isub, 1) := by decide +kernel
theorem dX3_blockAt_9 : decode cX3_blockAt 9 = .ok (.if_icmp .ge 21, 3) := by decide +kernel
theorem dX3_blockAt_12 : decode cX3_blockAt 12 = .ok (.iload_n 1, 1) := by decide +kernel
theorem dX3_blockAt_13 : decode cX3_blockAt 13 = .ok (.aload_n 0, 1) := by decide +kernel
theorem dX3_blockAt_14 : decode cX3_blockAt 14 = .ok (.getfield 24, 3) := by decide +kernel
theorem dX3_blockAt_17 : decode cX3_blockAt 17 = .ok (.iload_n 2, 1) := by decide +kernel
theorem dX3_blockAt_18 : decode cX3_blockAt 18 = .ok (.iconst 1, 1) := by decide +kernel
theorem dX3_blockAt_19 : decode cX3_blockAt 19 = .ok (.iadd, 1) := by decide +kernel
theorem dX3_blockAt_20 : decode cX3_blockAt 20 = .ok (.iaload, 1) := by decide +kernel
theorem dX3_blockAt_21 : decode cX3_blockAt 21 = .ok (.if_icmp .lt 9, 3) := by decide +kernel
theorem dX3_blockAt_24 : decode cX3_blockAt 24 = .ok (.iinc 2 1, 3) := by decide +kernel
theorem dX3_blockAt_27 : decode cX3_blockAt 27 = .ok (.goto (-25), 3) := by decide +kernel
theorem dX3_blockAt_30 : decode cX3_blockAt 30 = .ok (.iload_n 2, 1) := by decide +kernel
theorem dX3_blockAt_31 : decode cX3_blockAt 31 = .ok (.ireturn, 1) := by decide +kernel
set_option maxRecDepth 20000 in
theorem ggX3_partAt_X3_blockAt : GoodIn wsX3_partAt wsX3_blockAt := goodIn_r _ [6, 7, 1, 13, 14, 15, 16, 17, 18, 19, 20, 21] (by decide +kernel) (by decide +kernel)
set_option maxRecDepth 20000 in
theorem gX3_partAt_X3_blockAt : GoodIn wsX3_partAt (wsV RX3 74 RX3 yX3_blockAt wsX3_blockAt) := goodIn_app (goodIn_of _ (by decide +kernel)) ggX3_partAt_X3_blockAt
set_option maxRecDepth 20000 in
theorem ggX3_partAt_X3_tellingCells : GoodIn wsX3_partAt wsX3_tellingCells := goodIn_r _ [11, 12, 13, 14, 15, 16, 17, 18, 19, 20, 21] (by decide +kernel) (by decide +kernel)
set_option maxRecDepth 20000 in
theorem gX3_partAt_X3_tellingCells : GoodIn wsX3_partAt (wsV RX3 54 RX3 yX3_tellingCells wsX3_tellingCells) := goodIn_app (goodIn_of _ (by decide +kernel)) ggX3_partAt_X3_tellingCells
theorem dX3_partAt_0 : decode cX3_partAt 0 = .ok (.aload_n 0, 1) := by decide +kernel
theorem dX3_partAt_1 : decode cX3_partAt 1 = .ok (.iload_n 1, 1) := by decide +kernel
theorem dX3_partAt_2 : decode cX3_partAt 2 = .ok (.invokevirtual 74, 3) := by decide +kernel
theorem dX3_partAt_5 : decode cX3_partAt 5 = .ok (.istore_n 2, 1) := by decide +kernel
theorem dX3_partAt_6 : decode cX3_partAt 6 = .ok (.iload_n 1, 1) := by decide +kernel
theorem dX3_partAt_7 : decode cX3_partAt 7 = .ok (.aload_n 0, 1) := by decide +kernel
theorem dX3_partAt_8 : decode cX3_partAt 8 = .ok (.getfield 24, 3) := by decide +kernel
theorem dX3_partAt_11 : decode cX3_partAt 11 = .ok (.iload_n 2, 1) := by decide +kernel
theorem dX3_partAt_12 : decode cX3_partAt 12 = .ok (.iaload, 1) := by decide +kernel
theorem dX3_partAt_13 : decode cX3_partAt 13 = .ok (.isub, 1) := by decide +kernel
theorem dX3_partAt_14 : decode cX3_partAt 14 = .ok (.istore_n 3, 1) := by decide +kernel
theorem dX3_partAt_15 : decode cX3_partAt 15 = .ok (.aload_n 0, 1) := by decide +kernel
theorem dX3_partAt_16 : decode cX3_partAt 16 = .ok (.iload_n 2, 1) := by decide +kernel
theorem dX3_partAt_17 : decode cX3_partAt 17 = .ok (.invokevirtual 54, 3) := by decide +kernel
theorem dX3_partAt_20 : decode cX3_partAt 20 = .ok (.istore 4, 2) := by decide +kernel
theorem dX3_partAt_22 : decode cX3_partAt 22 = .ok (.iload_n 3, 1) := by decide +kernel
theorem dX3_partAt_23 : decode cX3_partAt 23 = .ok (.iload 4, 2) := by decide +kernel
theorem dX3_partAt_25 : decode cX3_partAt 25 = .ok (.if_icmp .ge 5, 3) := by decide +kernel
theorem dX3_partAt_28 : decode cX3_partAt 28 = .ok (.iconst 0, 1) := by decide +kernel
theorem dX3_partAt_29 : decode cX3_partAt 29 = .ok (.ireturn, 1) := by decide +kernel
theorem dX3_partAt_30 : decode cX3_partAt 30 = .ok (.iload_n 3, 1) := by decide +kernel
theorem dX3_partAt_31 : decode cX3_partAt 31 = .ok (.iconst 2, 1) := by decide +kernel
theorem dX3_partAt_32 : decode cX3_partAt 32 = .ok (.iload 4, 2) := by decide +kernel
theorem dX3_partAt_34 : decode cX3_partAt 34 = .ok (.imul, 1) := by decide +kernel
theorem dX3_partAt_35 : decode cX3_partAt 35 = .ok (.if_icmp .ge 7, 3) := by decide +kernel
theorem dX3_partAt_38 : decode cX3_partAt 38 = .ok (.iconst 1, 1) := by decide +kernel
theorem dX3_partAt_39 : decode cX3_partAt 39 = .ok (.goto 4, 3) := by decide +kernel
theorem dX3_partAt_42 : decode cX3_partAt 42 = .ok (.iconst 2, 1) := by decide +kernel
theorem dX3_partAt_43 : decode cX3_partAt 43 = .ok (.ireturn, 1) := by decide +kernel
set_option maxRecDepth 20000 in
theorem ggX3_bitAt_X3_blockAt : GoodIn wsX3_bitAt wsX3_blockAt := goodIn_r _ [8, 9, 1, 19, 20, 21, 22, 23, 24, 25, 26, 27] (by decide +kernel) (by decide +kernel)
set_option maxRecDepth 20000 in
theorem gX3_bitAt_X3_blockAt : GoodIn wsX3_bitAt (wsV RX3 74 RX3 yX3_blockAt wsX3_blockAt) := goodIn_app (goodIn_of _ (by decide +kernel)) ggX3_bitAt_X3_blockAt
set_option maxRecDepth 20000 in
theorem ggX3_bitAt_X3_partAt : GoodIn wsX3_bitAt wsX3_partAt := goodIn_r _ [13, 1, 4, 5, 6, 7, 8, 9, 14, 15, 16, 17, 18, 19, 20, 21, 22, 23, 24, 25, 26, 27] (by decide +kernel) (by decide +kernel)
set_option maxRecDepth 20000 in
theorem gX3_bitAt_X3_partAt : GoodIn wsX3_bitAt (wsV RX3 77 RX3 yX3_partAt wsX3_partAt) := goodIn_app (goodIn_of _ (by decide +kernel)) ggX3_bitAt_X3_partAt
set_option maxRecDepth 20000 in
theorem ggX3_bitAt_X3_tellingCells : GoodIn wsX3_bitAt wsX3_tellingCells := goodIn_r _ [17, 18, 19, 20, 21, 22, 23, 24, 25, 26, 27] (by decide +kernel) (by decide +kernel)
set_option maxRecDepth 20000 in
theorem gX3_bitAt_X3_tellingCells : GoodIn wsX3_bitAt (wsV RX3 54 RX3 yX3_tellingCells wsX3_tellingCells) := goodIn_app (goodIn_of _ (by decide +kernel)) ggX3_bitAt_X3_tellingCells
theorem dX3_bitAt_0 : decode cX3_bitAt 0 = .ok (.aload_n 0, 1) := by decide +kernel
theorem dX3_bitAt_1 : decode cX3_bitAt 1 = .ok (.iload_n 1, 1) := by decide +kernel
theorem dX3_bitAt_2 : decode cX3_bitAt 2 = .ok (.invokevirtual 74, 3) := by decide +kernel
theorem dX3_bitAt_5 : decode cX3_bitAt 5 = .ok (.istore_n 2, 1) := by decide +kernel
theorem dX3_bitAt_6 : decode cX3_bitAt 6 = .ok (.aload_n 0, 1) := by decide +kernel
theorem dX3_bitAt_7 : decode cX3_bitAt 7 = .ok (.iload_n 1, 1) := by decide +kernel
theorem dX3_bitAt_8 : decode cX3_bitAt 8 = .ok (.invokevirtual 77, 3) := by decide +kernel
theorem dX3_bitAt_11 : decode cX3_bitAt 11 = .ok (.istore_n 3, 1) := by decide +kernel
theorem dX3_bitAt_12 : decode cX3_bitAt 12 = .ok (.iload_n 1, 1) := by decide +kernel
theorem dX3_bitAt_13 : decode cX3_bitAt 13 = .ok (.aload_n 0, 1) := by decide +kernel
theorem dX3_bitAt_14 : decode cX3_bitAt 14 = .ok (.getfield 24, 3) := by decide +kernel
theorem dX3_bitAt_17 : decode cX3_bitAt 17 = .ok (.iload_n 2, 1) := by decide +kernel
theorem dX3_bitAt_18 : decode cX3_bitAt 18 = .ok (.iaload, 1) := by decide +kernel
theorem dX3_bitAt_19 : decode cX3_bitAt 19 = .ok (.isub, 1) := by decide +kernel
theorem dX3_bitAt_20 : decode cX3_bitAt 20 = .ok (.iload_n 3, 1) := by decide +kernel
theorem dX3_bitAt_21 : decode cX3_bitAt 21 = .ok (.aload_n 0, 1) := by decide +kernel
theorem dX3_bitAt_22 : decode cX3_bitAt 22 = .ok (.iload_n 2, 1) := by decide +kernel
theorem dX3_bitAt_23 : decode cX3_bitAt 23 = .ok (.invokevirtual 54, 3) := by decide +kernel
theorem dX3_bitAt_26 : decode cX3_bitAt 26 = .ok (.imul, 1) := by decide +kernel
theorem dX3_bitAt_27 : decode cX3_bitAt 27 = .ok (.isub, 1) := by decide +kernel
theorem dX3_bitAt_28 : decode cX3_bitAt 28 = .ok (.istore 4, 2) := by decide +kernel
theorem dX3_bitAt_30 : decode cX3_bitAt 30 = .ok (.iload_n 3, 1) := by decide +kernel
theorem dX3_bitAt_31 : decode cX3_bitAt 31 = .ok (.iconst 2, 1) := by decide +kernel
theorem dX3_bitAt_32 : decode cX3_bitAt 32 = .ok (.if_icmp .eq 9, 3) := by decide +kernel
theorem dX3_bitAt_35 : decode cX3_bitAt 35 = .ok (.iload 4, 2) := by decide +kernel
theorem dX3_bitAt_37 : decode cX3_bitAt 37 = .ok (.iconst 4, 1) := by decide +kernel
theorem dX3_bitAt_38 : decode cX3_bitAt 38 = .ok (.if_icmp .ge 5, 3) := by decide +kernel
theorem dX3_bitAt_41 : decode cX3_bitAt 41 = .ok (.iconst 0, 1) := by decide +kernel
theorem dX3_bitAt_42 : decode cX3_bitAt 42 = .ok (.ireturn, 1) := by decide +kernel
theorem dX3_bitAt_43 : decode cX3_bitAt 43 = .ok (.aload_n 0, 1) := by decide +kernel
theorem dX3_bitAt_44 : decode cX3_bitAt 44 = .ok (.getfield 33, 3) := by decide +kernel
theorem dX3_bitAt_47 : decode cX3_bitAt 47 = .ok (.iload_n 1, 1) := by decide +kernel
theorem dX3_bitAt_48 : decode cX3_bitAt 48 = .ok (.iaload, 1) := by decide +kernel
theorem dX3_bitAt_49 : decode cX3_bitAt 49 = .ok (.aload_n 0, 1) := by decide +kernel
theorem dX3_bitAt_50 : decode cX3_bitAt 50 = .ok (.getfield 30, 3) := by decide +kernel
theorem dX3_bitAt_53 : decode cX3_bitAt 53 = .ok (.iload_n 1, 1) := by decide +kernel
theorem dX3_bitAt_54 : decode cX3_bitAt 54 = .ok (.iaload, 1) := by decide +kernel
theorem dX3_bitAt_55 : decode cX3_bitAt 55 = .ok (.ixor, 1) := by decide +kernel
theorem dX3_bitAt_56 : decode cX3_bitAt 56 = .ok (.ireturn, 1) := by decide +kernel
theorem dX3_counterOf_0 : decode cX3_counterOf 0 = .ok (.iload_n 1, 1) := by decide +kernel
theorem dX3_counterOf_1 : decode cX3_counterOf 1 = .ok (.iload_n 1, 1) := by decide +kernel
theorem dX3_counterOf_2 : decode cX3_counterOf 2 = .ok (.aload_n 0, 1) := by decide +kernel
theorem dX3_counterOf_3 : decode cX3_counterOf 3 = .ok (.getfield 9, 3) := by decide +kernel
theorem dX3_counterOf_6 : decode cX3_counterOf 6 = .ok (.iconst 2, 1) := by decide +kernel
theorem dX3_counterOf_7 : decode cX3_counterOf 7 = .ok (.iaload, 1) := by decide +kernel
theorem dX3_counterOf_8 : decode cX3_counterOf 8 = .ok (.imul, 1) := by decide +kernel
theorem dX3_counterOf_9 : decode cX3_counterOf 9 = .ok (.bipush 100, 2) := by decide +kernel
theorem dX3_counterOf_11 : decode cX3_counterOf 11 = .ok (.idiv, 1) := by decide +kernel
theorem dX3_counterOf_12 : decode cX3_counterOf 12 = .ok (.isub, 1) := by decide +kernel
theorem dX3_counterOf_13 : decode cX3_counterOf 13 = .ok (.sipush 1000, 3) := by decide +kernel
theorem dX3_counterOf_16 : decode cX3_counterOf 16 = .ok (.irem, 1) := by decide +kernel
theorem dX3_counterOf_17 : decode cX3_counterOf 17 = .ok (.ireturn, 1) := by decide +kernel
set_option maxRecDepth 20000 in
theorem ggX3_distanceOf_X3_counterOf : GoodIn wsX3_distanceOf wsX3_counterOf := goodIn_r _ [13, 14, 15, 16, 17, 18, 19, 20, 21, 22, 23] (by decide +kernel) (by decide +kernel)
set_option maxRecDepth 20000 in
theorem gX3_distanceOf_X3_counterOf : GoodIn wsX3_distanceOf (wsV RX3 80 RX3 yX3_counterOf wsX3_counterOf) := goodIn_app (goodIn_of _ (by decide +kernel)) ggX3_distanceOf_X3_counterOf
theorem dX3_distanceOf_0 : decode cX3_distanceOf 0 = .ok (.aload_n 0, 1) := by decide +kernel
theorem dX3_distanceOf_1 : decode cX3_distanceOf 1 = .ok (.aload_n 0, 1) := by decide +kernel
theorem dX3_distanceOf_2 : decode cX3_distanceOf 2 = .ok (.getfield 24, 3) := by decide +kernel
theorem dX3_distanceOf_5 : decode cX3_distanceOf 5 = .ok (.iload_n 1, 1) := by decide +kernel
theorem dX3_distanceOf_6 : decode cX3_distanceOf 6 = .ok (.iaload, 1) := by decide +kernel
theorem dX3_distanceOf_7 : decode cX3_distanceOf 7 = .ok (.invokevirtual 80, 3) := by decide +kernel
theorem dX3_distanceOf_10 : decode cX3_distanceOf 10 = .ok (.iload_n 2, 1) := by decide +kernel
theorem dX3_distanceOf_11 : decode cX3_distanceOf 11 = .ok (.isub, 1) := by decide +kernel
theorem dX3_distanceOf_12 : decode cX3_distanceOf 12 = .ok (.invokestatic 83, 3) := by decide +kernel
theorem dX3_distanceOf_15 : decode cX3_distanceOf 15 = .ok (.istore_n 3, 1) := by decide +kernel
theorem dX3_distanceOf_16 : decode cX3_distanceOf 16 = .ok (.iload_n 3, 1) := by decide +kernel
theorem dX3_distanceOf_17 : decode cX3_distanceOf 17 = .ok (.sipush 1000, 3) := by decide +kernel
theorem dX3_distanceOf_20 : decode cX3_distanceOf 20 = .ok (.iload_n 3, 1) := by decide +kernel
theorem dX3_distanceOf_21 : decode cX3_distanceOf 21 = .ok (.isub, 1) := by decide +kernel
theorem dX3_distanceOf_22 : decode cX3_distanceOf 22 = .ok (.invokestatic 88, 3) := by decide +kernel
theorem dX3_distanceOf_25 : decode cX3_distanceOf 25 = .ok (.ireturn, 1) := by decide +kernel
set_option maxRecDepth 20000 in
theorem ggX3_nearerBlocks_X3_distanceOf : GoodIn wsX3_nearerBlocks wsX3_distanceOf := goodIn_r _ [6, 7, 8, 9, 10, 11, 12, 13, 14, 15, 16, 17, 5, 18, 19, 20, 21, 22, 23, 24, 25, 26, 27, 28] (by decide +kernel) (by decide +kernel)
set_option maxRecDepth 20000 in
theorem gX3_nearerBlocks_X3_distanceOf : GoodIn wsX3_nearerBlocks (wsV RX3 92 RX3 yX3_distanceOf wsX3_distanceOf) := goodIn_app (goodIn_of _ (by decide +kernel)) ggX3_nearerBlocks_X3_distanceOf
theorem dX3_nearerBlocks_0 : decode cX3_nearerBlocks 0 = .ok (.aload_n 0, 1) := by decide +kernel
theorem dX3_nearerBlocks_1 : decode cX3_nearerBlocks 1 = .ok (.iload_n 1, 1) := by decide +kernel
theorem dX3_nearerBlocks_2 : decode cX3_nearerBlocks 2 = .ok (.iload_n 2, 1) := by decide +kernel
theorem dX3_nearerBlocks_3 : decode cX3_nearerBlocks 3 = .ok (.invokevirtual 92, 3) := by decide +kernel
theorem dX3_nearerBlocks_6 : decode cX3_nearerBlocks 6 = .ok (.istore_n 3, 1) := by decide +kernel
theorem dX3_nearerBlocks_7 : decode cX3_nearerBlocks 7 = .ok (.iconst 0, 1) := by decide +kernel
theorem dX3_nearerBlocks_8 : decode cX3_nearerBlocks 8 = .ok (.istore 4, 2) := by decide +kernel
theorem dX3_nearerBlocks_10 : decode cX3_nearerBlocks 10 = .ok (.iconst 0, 1) := by decide +kernel
theorem dX3_nearerBlocks_11 : decode cX3_nearerBlocks 11 = .ok (.istore 5, 2) := by decide +kernel
theorem dX3_nearerBlocks_13 : decode cX3_nearerBlocks 13 = .ok (.iload 5, 2) := by decide +kernel
theorem dX3_nearerBlocks_15 : decode cX3_nearerBlocks 15 = .ok (.aload_n 0, 1) := by decide +kernel
theorem dX3_nearerBlocks_16 : decode cX3_nearerBlocks 16 = .ok (.getfield 36, 3) := by decide +kernel
theorem dX3_nearerBlocks_19 : decode cX3_nearerBlocks 19 = .ok (.if_icmp .ge 39, 3) := by decide +kernel
theorem dX3_nearerBlocks_22 : decode cX3_nearerBlocks 22 = .ok (.aload_n 0, 1) := by decide +kernel
theorem dX3_nearerBlocks_23 : decode cX3_nearerBlocks 23 = .ok (.iload 5, 2) := by decide +kernel
theorem dX3_nearerBlocks_25 : decode cX3_nearerBlocks 25 = .ok (.iload_n 2, 1) := by decide +kernel
theorem dX3_nearerBlocks_26 : decode cX3_nearerBlocks 26 = .ok (.invokevirtual 92, 3) := by decide +kernel
theorem dX3_nearerBlocks_29 : decode cX3_nearerBlocks 29 = .ok (.istore 6, 2) := by decide +kernel
theorem dX3_nearerBlocks_31 : decode cX3_nearerBlocks 31 = .ok (.iload 6, 2) := by decide +kernel
theorem dX3_nearerBlocks_33 : decode cX3_nearerBlocks 33 = .ok (.iload_n 3, 1) := by decide +kernel
theorem dX3_nearerBlocks_34 : decode cX3_nearerBlocks 34 = .ok (.if_icmp .lt 15, 3) := by decide +kernel
theorem dX3_nearerBlocks_37 : decode cX3_nearerBlocks 37 = .ok (.iload 6, 2) := by decide +kernel
theorem dX3_nearerBlocks_39 : decode cX3_nearerBlocks 39 = .ok (.iload_n 3, 1) := by decide +kernel
theorem dX3_nearerBlocks_40 : decode cX3_nearerBlocks 40 = .ok (.if_icmp .ne 12, 3) := by decide +kernel
theorem dX3_nearerBlocks_43 : decode cX3_nearerBlocks 43 = .ok (.iload 5, 2) := by decide +kernel
theorem dX3_nearerBlocks_45 : decode cX3_nearerBlocks 45 = .ok (.iload_n 1, 1) := by decide +kernel
theorem dX3_nearerBlocks_46 : decode cX3_nearerBlocks 46 = .ok (.if_icmp .ge 6, 3) := by decide +kernel
theorem dX3_nearerBlocks_49 : decode cX3_nearerBlocks 49 = .ok (.iinc 4 1, 3) := by decide +kernel
theorem dX3_nearerBlocks_52 : decode cX3_nearerBlocks 52 = .ok (.iinc 5 1, 3) := by decide +kernel
theorem dX3_nearerBlocks_55 : decode cX3_nearerBlocks 55 = .ok (.goto (-42), 3) := by decide +kernel
theorem dX3_nearerBlocks_58 : decode cX3_nearerBlocks 58 = .ok (.iload 4, 2) := by decide +kernel
theorem dX3_nearerBlocks_60 : decode cX3_nearerBlocks 60 = .ok (.ireturn, 1) := by decide +kernel
theorem dX3_depthOf_0 : decode cX3_depthOf 0 = .ok (.iconst 0, 1) := by decide +kernel
theorem dX3_depthOf_1 : decode cX3_depthOf 1 = .ok (.istore_n 2, 1) := by decide +kernel
theorem dX3_depthOf_2 : decode cX3_depthOf 2 = .ok (.aload_n 0, 1) := by decide +kernel
theorem dX3_depthOf_3 : decode cX3_depthOf 3 = .ok (.getfield 18, 3) := by decide +kernel
theorem dX3_depthOf_6 : decode cX3_depthOf 6 = .ok (.iload_n 1, 1) := by decide +kernel
theorem dX3_depthOf_7 : decode cX3_depthOf 7 = .ok (.iaload, 1) := by decide +kernel
theorem dX3_depthOf_8 : decode cX3_depthOf 8 = .ok (.istore_n 3, 1) := by decide +kernel
theorem dX3_depthOf_9 : decode cX3_depthOf 9 = .ok (.iload_n 3, 1) := by decide +kernel
theorem dX3_depthOf_10 : decode cX3_depthOf 10 = .ok (.ifCond .lt 22, 3) := by decide +kernel
theorem dX3_depthOf_13 : decode cX3_depthOf 13 = .ok (.iload_n 2, 1) := by decide +kernel
theorem dX3_depthOf_14 : decode cX3_depthOf 14 = .ok (.bipush 16, 2) := by decide +kernel
theorem dX3_depthOf_16 : decode cX3_depthOf 16 = .ok (.if_icmp .ge 16, 3) := by decide +kernel
theorem dX3_depthOf_19 : decode cX3_depthOf 19 = .ok (.iinc 2 1, 3) := by decide +kernel
theorem dX3_depthOf_22 : decode cX3_depthOf 22 = .ok (.aload_n 0, 1) := by decide +kernel
theorem dX3_depthOf_23 : decode cX3_depthOf 23 = .ok (.getfield 18, 3) := by decide +kernel
theorem dX3_depthOf_26 : decode cX3_depthOf 26 = .ok (.iload_n 3, 1) := by decide +kernel
theorem dX3_depthOf_27 : decode cX3_depthOf 27 = .ok (.iaload, 1) := by decide +kernel
theorem dX3_depthOf_28 : decode cX3_depthOf 28 = .ok (.istore_n 3, 1) := by decide +kernel
theorem dX3_depthOf_29 : decode cX3_depthOf 29 = .ok (.goto (-20), 3) := by decide +kernel
theorem dX3_depthOf_32 : decode cX3_depthOf 32 = .ok (.iload_n 2, 1) := by decide +kernel
theorem dX3_depthOf_33 : decode cX3_depthOf 33 = .ok (.ireturn, 1) := by decide +kernel
theorem dX4_init_0 : decode cX4_init 0 = .ok (.aload_n 0, 1) := by decide +kernel
theorem dX4_init_1 : decode cX4_init 1 = .ok (.invokespecial 3, 3) := by decide +kernel
theorem dX4_init_4 : decode cX4_init 4 = .ok (.aload_n 0, 1) := by decide +kernel
theorem dX4_init_5 : decode cX4_init 5 = .ok (.bipush 8, 2) := by decide +kernel
theorem dX4_init_7 : decode cX4_init 7 = .ok (.newarray .int, 2) := by decide +kernel
theorem dX4_init_9 : decode cX4_init 9 = .ok (.putfield 9, 3) := by decide +kernel
theorem dX4_init_12 : decode cX4_init 12 = .ok (.aload_n 0, 1) := by decide +kernel
theorem dX4_init_13 : decode cX4_init 13 = .ok (.bipush 8, 2) := by decide +kernel
theorem dX4_init_15 : decode cX4_init 15 = .ok (.newarray .int, 2) := by decide +kernel
theorem dX4_init_17 : decode cX4_init 17 = .ok (.putfield 15, 3) := by decide +kernel
theorem dX4_init_20 : decode cX4_init 20 = .ok (.return_, 1) := by decide +kernel
set_option maxRecDepth 20000 in
theorem ggX4_readCells_X4_readLeader : GoodIn wsX4_readCells wsX4_readLeader := goodIn_r _ [6, 7, 8, 9, 10, 11, 12, 13, 14, 25, 26, 27, 28, 29, 30, 31, 32, 33, 21, 22, 23, 24] (by decide +kernel) (by decide +kernel)
set_option maxRecDepth 20000 in
theorem gX4_readCells_X4_readLeader : GoodIn wsX4_readCells (wsV RX4 22 RX4 yX4_readLeader wsX4_readLeader) := goodIn_app (goodIn_of _ (by decide +kernel)) ggX4_readCells_X4_readLeader
set_option maxRecDepth 20000 in
theorem ggX4_readCells_X4_readByte : GoodIn wsX4_readCells wsX4_readByte := goodIn_r _ [18, 7, 8, 9, 10, 19, 20, 25, 26, 27, 28, 29, 30, 31, 32, 33, 21, 22, 23, 24] (by decide +kernel) (by decide +kernel)
set_option maxRecDepth 20000 in
theorem gX4_readCells_X4_readByte : GoodIn wsX4_readCells (wsV RX4 26 RX4 yX4_readByte wsX4_readByte) := goodIn_app (goodIn_of _ (by decide +kernel)) ggX4_readCells_X4_readByte
theorem dX4_readCells_0 : decode cX4_readCells 0 = .ok (.aload_n 0, 1) := by decide +kernel
theorem dX4_readCells_1 : decode cX4_readCells 1 = .ok (.iload_n 3, 1) := by decide +kernel
theorem dX4_readCells_2 : decode cX4_readCells 2 = .ok (.putfield 18, 3) := by decide +kernel
theorem dX4_readCells_5 : decode cX4_readCells 5 = .ok (.aload_n 0, 1) := by decide +kernel
theorem dX4_readCells_6 : decode cX4_readCells 6 = .ok (.aload_n 1, 1) := by decide +kernel
theorem dX4_readCells_7 : decode cX4_readCells 7 = .ok (.iload_n 2, 1) := by decide +kernel
theorem dX4_readCells_8 : decode cX4_readCells 8 = .ok (.invokevirtual 22, 3) := by decide +kernel
theorem dX4_readCells_11 : decode cX4_readCells 11 = .ok (.iconst 0, 1) := by decide +kernel
theorem dX4_readCells_12 : decode cX4_readCells 12 = .ok (.istore 4, 2) := by decide +kernel
theorem dX4_readCells_14 : decode cX4_readCells 14 = .ok (.iload 4, 2) := by decide +kernel
theorem dX4_readCells_16 : decode cX4_readCells 16 = .ok (.aload_n 0, 1) := by decide +kernel
theorem dX4_readCells_17 : decode cX4_readCells 17 = .ok (.getfield 18, 3) := by decide +kernel
theorem dX4_readCells_20 : decode cX4_readCells 20 = .ok (.if_icmp .gt 25, 3) := by decide +kernel
theorem dX4_readCells_23 : decode cX4_readCells 23 = .ok (.aload_n 0, 1) := by decide +kernel
theorem dX4_readCells_24 : decode cX4_readCells 24 = .ok (.aload_n 1, 1) := by decide +kernel
theorem dX4_readCells_25 : decode cX4_readCells 25 = .ok (.iload_n 2, 1) := by decide +kernel
theorem dX4_readCells_26 : decode cX4_readCells 26 = .ok (.iconst 4, 1) := by decide +kernel
theorem dX4_readCells_27 : decode cX4_readCells 27 = .ok (.iadd, 1) := by decide +kernel
theorem dX4_readCells_28 : decode cX4_readCells 28 = .ok (.iload 4, 2) := by decide +kernel
theorem dX4_readCells_30 : decode cX4_readCells 30 = .ok (.bipush 9, 2) := by decide +kernel
theorem dX4_readCells_32 : decode cX4_readCells 32 = .ok (.imul, 1) := by decide +kernel
theorem dX4_readCells_33 : decode cX4_readCells 33 = .ok (.iadd, 1) := by decide +kernel
theorem dX4_readCells_34 : decode cX4_readCells 34 = .ok (.iload 4, 2) := by decide +kernel
theorem dX4_readCells_36 : decode cX4_readCells 36 = .ok (.invokevirtual 26, 3) := by decide +kernel
theorem dX4_readCells_39 : decode cX4_readCells 39 = .ok (.iinc 4 1, 3) := by decide +kernel
theorem dX4_readCells_42 : decode cX4_readCells 42 = .ok (.goto (-28), 3) := by decide +kernel
theorem dX4_readCells_45 : decode cX4_readCells 45 = .ok (.return_, 1) := by decide +kernel
theorem dX4_readLeader_0 : decode cX4_readLeader 0 = .ok (.iconst (-1), 1) := by decide +kernel
theorem dX4_readLeader_1 : decode cX4_readLeader 1 = .ok (.istore_n 3, 1) := by decide +kernel
theorem dX4_readLeader_2 : decode cX4_readLeader 2 = .ok (.iconst (-1), 1) := by decide +kernel
theorem dX4_readLeader_3 : decode cX4_readLeader 3 = .ok (.istore 4, 2) := by decide +kernel
theorem dX4_readLeader_5 : decode cX4_readLeader 5 = .ok (.iload_n 2, 1) := by decide +kernel
theorem dX4_readLeader_6 : decode cX4_readLeader 6 = .ok (.istore 5, 2) := by decide +kernel
theorem dX4_readLeader_8 : decode cX4_readLeader 8 = .ok (.iload 5, 2) := by decide +kernel
theorem dX4_readLeader_10 : decode cX4_readLeader 10 = .ok (.iload_n 2, 1) := by decide +kernel
theorem dX4_readLeader_11 : decode cX4_readLeader 11 = .ok (.iconst 4, 1) := by decide +kernel
theorem dX4_readLeader_12 : decode cX4_readLeader 12 = .ok (.iadd, 1) := by decide +kernel
theorem dX4_readLeader_13 : decode cX4_readLeader 13 = .ok (.if_icmp .ge 38, 3) := by decide +kernel
theorem dX4_readLeader_16 : decode cX4_readLeader 16 = .ok (.aload_n 1, 1) := by decide +kernel
theorem dX4_readLeader_17 : decode cX4_readLeader 17 = .ok (.getfield 30, 3) := by decide +kernel
theorem dX4_readLeader_20 : decode cX4_readLeader 20 = .ok (.iload 5, 2) := by decide +kernel
theorem dX4_readLeader_22 : decode cX4_readLeader 22 = .ok (.iaload, 1) := by decide +kernel
theorem dX4_readLeader_23 : decode cX4_readLeader 23 = .ok (.istore 6, 2) := by decide +kernel
theorem dX4_readLeader_25 : decode cX4_readLeader 25 = .ok (.iload 4, 2) := by decide +kernel
theorem dX4_readLeader_27 : decode cX4_readLeader 27 = .ok (.iload 6, 2) := by decide +kernel
theorem dX4_readLeader_29 : decode cX4_readLeader 29 = .ok (.iload_n 3, 1) := by decide +kernel
theorem dX4_readLeader_30 : decode cX4_readLeader 30 = .ok (.invokestatic 35, 3) := by decide +kernel
theorem dX4_readLeader_33 : decode cX4_readLeader 33 = .ok (.invokestatic 41, 3) := by decide +kernel
theorem dX4_readLeader_36 : decode cX4_readLeader 36 = .ok (.istore 4, 2) := by decide +kernel
theorem dX4_readLeader_38 : decode cX4_readLeader 38 = .ok (.iload_n 3, 1) := by decide +kernel
theorem dX4_readLeader_39 : decode cX4_readLeader 39 = .ok (.iload 6, 2) := by decide +kernel
theorem dX4_readLeader_41 : decode cX4_readLeader 41 = .ok (.invokestatic 41, 3) := by decide +kernel
theorem dX4_readLeader_44 : decode cX4_readLeader 44 = .ok (.istore_n 3, 1) := by decide +kernel
theorem dX4_readLeader_45 : decode cX4_readLeader 45 = .ok (.iinc 5 1, 3) := by decide +kernel
theorem dX4_readLeader_48 : decode cX4_readLeader 48 = .ok (.goto (-40), 3) := by decide +kernel
theorem dX4_readLeader_51 : decode cX4_readLeader 51 = .ok (.aload_n 0, 1) := by decide +kernel
theorem dX4_readLeader_52 : decode cX4_readLeader 52 = .ok (.iload 4, 2) := by decide +kernel
theorem dX4_readLeader_54 : decode cX4_readLeader 54 = .ok (.putfield 44, 3) := by decide +kernel
theorem dX4_readLeader_57 : decode cX4_readLeader 57 = .ok (.return_, 1) := by decide +kernel
theorem dX4_readByte_0 : decode cX4_readByte 0 = .ok (.bipush 99, 2) := by decide +kernel
theorem dX4_readByte_2 : decode cX4_readByte 2 = .ok (.istore 4, 2) := by decide +kernel
theorem dX4_readByte_4 : decode cX4_readByte 4 = .ok (.iconst 0, 1) := by decide +kernel
theorem dX4_readByte_5 : decode cX4_readByte 5 = .ok (.istore 5, 2) := by decide +kernel
theorem dX4_readByte_7 : decode cX4_readByte 7 = .ok (.iconst 0, 1) := by decide +kernel
theorem dX4_readByte_8 : decode cX4_readByte 8 = .ok (.istore 6, 2) := by decide +kernel
theorem dX4_readByte_10 : decode cX4_readByte 10 = .ok (.iconst 0, 1) := by decide +kernel
theorem dX4_readByte_11 : decode cX4_readByte 11 = .ok (.istore 7, 2) := by decide +kernel
theorem dX4_readByte_13 : decode cX4_readByte 13 = .ok (.iload 7, 2) := by decide +kernel
theorem dX4_readByte_15 : decode cX4_readByte 15 = .ok (.bipush 9, 2) := by decide +kernel
theorem dX4_readByte_17 : decode cX4_readByte 17 = .ok (.if_icmp .ge 63, 3) := by decide +kernel
theorem dX4_readByte_20 : decode cX4_readByte 20 = .ok (.aload_n 1, 1) := by decide +kernel
theorem dX4_readByte_21 : decode cX4_readByte 21 = .ok (.getfield 47, 3) := by decide +kernel
theorem dX4_readByte_24 : decode cX4_readByte 24 = .ok (.iload_n 2, 1) := by decide +kernel
theorem dX4_readByte_25 : decode cX4_readByte 25 = .ok (.iload 7, 2) := by decide +kernel
theorem dX4_readByte_27 : decode cX4_readByte 27 = .ok (.iadd, 1) := by decide +kernel
theorem dX4_readByte_28 : decode cX4_readByte 28 = .ok (.iaload, 1) := by decide +kernel
theorem dX4_readByte_29 : decode cX4_readByte 29 = .ok (.aload_n 1, 1) := by decide +kernel
theorem dX4_readByte_30 : decode cX4_readByte 30 = .ok (.getfield 50, 3) := by decide +kernel
theorem dX4_readByte_33 : decode cX4_readByte 33 = .ok (.iload_n 2, 1) := by decide +kernel
theorem dX4_readByte_34 : decode cX4_readByte 34 = .ok (.iload 7, 2) := by decide +kernel
theorem dX4_readByte_36 : decode cX4_readByte 36 = .ok (.iadd, 1) := by decide +kernel
theorem dX4_readByte_37 : decode cX4_readByte 37 = .ok (.iaload, 1) := by decide +kernel
theorem dX4_readByte_38 : decode cX4_readByte 38 = .ok (.ixor, 1) := by decide +kernel
theorem dX4_readByte_39 : decode cX4_readByte 39 = .ok (.istore 8, 2) := by decide +kernel
theorem dX4_readByte_41 : decode cX4_readByte 41 = .ok (.iload 4, 2) := by decide +kernel
theorem dX4_readByte_43 : decode cX4_readByte 43 = .ok (.aload_n 1, 1) := by decide +kernel
theorem dX4_readByte_44 : decode cX4_readByte 44 = .ok (.getfield 30, 3) := by decide +kernel
theorem dX4_readByte_47 : decode cX4_readByte 47 = .ok (.iload_n 2, 1) := by decide +kernel
theorem dX4_readByte_48 : decode cX4_readByte 48 = .ok (.iload 7, 2) := by decide +kernel
theorem dX4_readByte_50 : decode cX4_readByte 50 = .ok (.iadd, 1) := by decide +kernel
theorem dX4_readByte_51 : decode cX4_readByte 51 = .ok (.iaload, 1) := by decide +kernel
theorem dX4_readByte_52 : decode cX4_readByte 52 = .ok (.invokestatic 35, 3) := by decide +kernel
theorem dX4_readByte_55 : decode cX4_readByte 55 = .ok (.istore 4, 2) := by decide +kernel
theorem dX4_readByte_57 : decode cX4_readByte 57 = .ok (.iload 5, 2) := by decide +kernel
theorem dX4_readByte_59 : decode cX4_readByte 59 = .ok (.iload 8, 2) := by decide +kernel
theorem dX4_readByte_61 : decode cX4_readByte 61 = .ok (.iload 7, 2) := by decide +kernel
theorem dX4_readByte_63 : decode cX4_readByte 63 = .ok (.ishl, 1) := by decide +kernel
theorem dX4_readByte_64 : decode cX4_readByte 64 = .ok (.ior, 1) := by decide +kernel
theorem dX4_readByte_65 : decode cX4_readByte 65 = .ok (.istore 5, 2) := by decide +kernel
theorem dX4_readByte_67 : decode cX4_readByte 67 = .ok (.iload 6, 2) := by decide +kernel
theorem dX4_readByte_69 : decode cX4_readByte 69 = .ok (.iload 8, 2) := by decide +kernel
theorem dX4_readByte_71 : decode cX4_readByte 71 = .ok (.iadd, 1) := by decide +kernel
theorem dX4_readByte_72 : decode cX4_readByte 72 = .ok (.istore 6, 2) := by decide +kernel
theorem dX4_readByte_74 : decode cX4_readByte 74 = .ok (.iinc 7 1, 3) := by decide +kernel
theorem dX4_readByte_77 : decode cX4_readByte 77 = .ok (.goto (-64), 3) := by decide +kernel
theorem dX4_readByte_80 : decode cX4_readByte 80 = .ok (.aload_n 0, 1) := by decide +kernel
theorem dX4_readByte_81 : decode cX4_readByte 81 = .ok (.getfield 9, 3) := by decide +kernel
theorem dX4_readByte_84 : decode cX4_readByte 84 = .ok (.iload_n 3, 1) := by decide +kernel
theorem dX4_readByte_85 : decode cX4_readByte 85 = .ok (.iload 5, 2) := by decide +kernel
theorem dX4_readByte_87 : decode cX4_readByte 87 = .ok (.sipush 255, 3) := by decide +kernel
theorem dX4_readByte_90 : decode cX4_readByte 90 = .ok (.iand, 1) := by decide +kernel
theorem dX4_readByte_91 : decode cX4_readByte 91 = .ok (.iastore, 1) := by decide +kernel
theorem dX4_readByte_92 : decode cX4_readByte 92 = .ok (.iload 6, 2) := by decide +kernel
theorem dX4_readByte_94 : decode cX4_readByte 94 = .ok (.iconst 1, 1) := by decide +kernel
theorem dX4_readByte_95 : decode cX4_readByte 95 = .ok (.iand, 1) := by decide +kernel
theorem dX4_readByte_96 : decode cX4_readByte 96 = .ok (.ifCond .ne 7, 3) := by decide +kernel
theorem dX4_readByte_99 : decode cX4_readByte 99 = .ok (.iconst 1, 1) := by decide +kernel
theorem dX4_readByte_100 : decode cX4_readByte 100 = .ok (.goto 4, 3) := by decide +kernel
theorem dX4_readByte_103 : decode cX4_readByte 103 = .ok (.iconst 0, 1) := by decide +kernel
theorem dX4_readByte_104 : decode cX4_readByte 104 = .ok (.istore 7, 2) := by decide +kernel
theorem dX4_readByte_106 : decode cX4_readByte 106 = .ok (.aload_n 0, 1) := by decide +kernel
theorem dX4_readByte_107 : decode cX4_readByte 107 = .ok (.getfield 15, 3) := by decide +kernel
theorem dX4_readByte_110 : decode cX4_readByte 110 = .ok (.iload_n 3, 1) := by decide +kernel
theorem dX4_readByte_111 : decode cX4_readByte 111 = .ok (.iload 7, 2) := by decide +kernel
theorem dX4_readByte_113 : decode cX4_readByte 113 = .ok (.ifCond .eq 8, 3) := by decide +kernel
theorem dX4_readByte_116 : decode cX4_readByte 116 = .ok (.iload 4, 2) := by decide +kernel
theorem dX4_readByte_118 : decode cX4_readByte 118 = .ok (.goto 4, 3) := by decide +kernel
theorem dX4_readByte_121 : decode cX4_readByte 121 = .ok (.iconst (-1), 1) := by decide +kernel
theorem dX4_readByte_122 : decode cX4_readByte 122 = .ok (.iastore, 1) := by decide +kernel
theorem dX4_readByte_123 : decode cX4_readByte 123 = .ok (.return_, 1) := by decide +kernel
theorem dX4_isLost_0 : decode cX4_isLost 0 = .ok (.aload_n 0, 1) := by decide +kernel
theorem dX4_isLost_1 : decode cX4_isLost 1 = .ok (.getfield 44, 3) := by decide +kernel
theorem dX4_isLost_4 : decode cX4_isLost 4 = .ok (.iload_n 1, 1) := by decide +kernel
theorem dX4_isLost_5 : decode cX4_isLost 5 = .ok (.if_icmp .ge 7, 3) := by decide +kernel
theorem dX4_isLost_8 : decode cX4_isLost 8 = .ok (.iconst 1, 1) := by decide +kernel
theorem dX4_isLost_9 : decode cX4_isLost 9 = .ok (.goto 4, 3) := by decide +kernel
theorem dX4_isLost_12 : decode cX4_isLost 12 = .ok (.iconst 0, 1) := by decide +kernel
theorem dX4_isLost_13 : decode cX4_isLost 13 = .ok (.ireturn, 1) := by decide +kernel
theorem dX4_isByteWhole_0 : decode cX4_isByteWhole 0 = .ok (.aload_n 0, 1) := by decide +kernel
theorem dX4_isByteWhole_1 : decode cX4_isByteWhole 1 = .ok (.getfield 15, 3) := by decide +kernel
theorem dX4_isByteWhole_4 : decode cX4_isByteWhole 4 = .ok (.iload_n 1, 1) := by decide +kernel
theorem dX4_isByteWhole_5 : decode cX4_isByteWhole 5 = .ok (.iaload, 1) := by decide +kernel
theorem dX4_isByteWhole_6 : decode cX4_isByteWhole 6 = .ok (.iload_n 2, 1) := by decide +kernel
theorem dX4_isByteWhole_7 : decode cX4_isByteWhole 7 = .ok (.if_icmp .lt 7, 3) := by decide +kernel
theorem dX4_isByteWhole_10 : decode cX4_isByteWhole 10 = .ok (.iconst 1, 1) := by decide +kernel
theorem dX4_isByteWhole_11 : decode cX4_isByteWhole 11 = .ok (.goto 4, 3) := by decide +kernel
theorem dX4_isByteWhole_14 : decode cX4_isByteWhole 14 = .ok (.iconst 0, 1) := by decide +kernel
theorem dX4_isByteWhole_15 : decode cX4_isByteWhole 15 = .ok (.ireturn, 1) := by decide +kernel
set_option maxRecDepth 20000 in
theorem ggX4_tellsSum_X4_isByteWhole : GoodIn wsX4_tellsSum wsX4_isByteWhole := goodIn_r _ [7, 8, 9, 10, 11, 12] (by decide +kernel) (by decide +kernel)
set_option maxRecDepth 20000 in
theorem gX4_tellsSum_X4_isByteWhole : GoodIn wsX4_tellsSum (wsV RX4 53 RX4 yX4_isByteWhole wsX4_isByteWhole) := goodIn_app (goodIn_of _ (by decide +kernel)) ggX4_tellsSum_X4_isByteWhole
theorem dX4_tellsSum_0 : decode cX4_tellsSum 0 = .ok (.aload_n 0, 1) := by decide +kernel
theorem dX4_tellsSum_1 : decode cX4_tellsSum 1 = .ok (.aload_n 0, 1) := by decide +kernel
theorem dX4_tellsSum_2 : decode cX4_tellsSum 2 = .ok (.getfield 18, 3) := by decide +kernel
theorem dX4_tellsSum_5 : decode cX4_tellsSum 5 = .ok (.iload_n 2, 1) := by decide +kernel
theorem dX4_tellsSum_6 : decode cX4_tellsSum 6 = .ok (.invokevirtual 53, 3) := by decide +kernel
theorem dX4_tellsSum_9 : decode cX4_tellsSum 9 = .ok (.ifCond .eq 24, 3) := by decide +kernel
theorem dX4_tellsSum_12 : decode cX4_tellsSum 12 = .ok (.aload_n 0, 1) := by decide +kernel
theorem dX4_tellsSum_13 : decode cX4_tellsSum 13 = .ok (.getfield 9, 3) := by decide +kernel
theorem dX4_tellsSum_16 : decode cX4_tellsSum 16 = .ok (.aload_n 0, 1) := by decide +kernel
theorem dX4_tellsSum_17 : decode cX4_tellsSum 17 = .ok (.getfield 18, 3) := by decide +kernel
theorem dX4_tellsSum_20 : decode cX4_tellsSum 20 = .ok (.iaload, 1) := by decide +kernel
theorem dX4_tellsSum_21 : decode cX4_tellsSum 21 = .ok (.iload_n 1, 1) := by decide +kernel
theorem dX4_tellsSum_22 : decode cX4_tellsSum 22 = .ok (.sipush 255, 3) := by decide +kernel
theorem dX4_tellsSum_25 : decode cX4_tellsSum 25 = .ok (.iand, 1) := by decide +kernel
theorem dX4_tellsSum_26 : decode cX4_tellsSum 26 = .ok (.if_icmp .ne 7, 3) := by decide +kernel
theorem dX4_tellsSum_29 : decode cX4_tellsSum 29 = .ok (.iconst 1, 1) := by decide +kernel
theorem dX4_tellsSum_30 : decode cX4_tellsSum 30 = .ok (.goto 4, 3) := by decide +kernel
theorem dX4_tellsSum_33 : decode cX4_tellsSum 33 = .ok (.iconst 0, 1) := by decide +kernel
theorem dX4_tellsSum_34 : decode cX4_tellsSum 34 = .ok (.ireturn, 1) := by decide +kernel
set_option maxRecDepth 20000 in
theorem ggX4_stateBy_X4_isLost : GoodIn wsX4_stateBy wsX4_isLost := goodIn_r _ [7, 8, 18, 19, 20, 21] (by decide +kernel) (by decide +kernel)
set_option maxRecDepth 20000 in
theorem gX4_stateBy_X4_isLost : GoodIn wsX4_stateBy (wsV RX4 57 RX4 yX4_isLost wsX4_isLost) := goodIn_app (goodIn_of _ (by decide +kernel)) ggX4_stateBy_X4_isLost
set_option maxRecDepth 20000 in
theorem ggX4_stateBy_X4_isByteWhole : GoodIn wsX4_stateBy wsX4_isByteWhole := goodIn_r _ [12, 13, 18, 19, 20, 21] (by decide +kernel) (by decide +kernel)
set_option maxRecDepth 20000 in
theorem gX4_stateBy_X4_isByteWhole : GoodIn wsX4_stateBy (wsV RX4 53 RX4 yX4_isByteWhole wsX4_isByteWhole) := goodIn_app (goodIn_of _ (by decide +kernel)) ggX4_stateBy_X4_isByteWhole
set_option maxRecDepth 20000 in
theorem ggX4_stateBy_X4_tellsSum : GoodIn wsX4_stateBy wsX4_tellsSum := goodIn_r _ [17, 1, 2, 9, 10, 11, 6, 12, 13, 18, 19, 20, 21] (by decide +kernel) (by decide +kernel)
set_option maxRecDepth 20000 in
theorem gX4_stateBy_X4_tellsSum : GoodIn wsX4_stateBy (wsV RX4 61 RX4 yX4_tellsSum wsX4_tellsSum) := goodIn_app (goodIn_of _ (by decide +kernel)) ggX4_stateBy_X4_tellsSum
theorem dX4_stateBy_0 : decode cX4_stateBy 0 = .ok (.aload_n 0, 1) := by decide +kernel
theorem dX4_stateBy_1 : decode cX4_stateBy 1 = .ok (.iload_n 1, 1) := by decide +kernel
theorem dX4_stateBy_2 : decode cX4_stateBy 2 = .ok (.invokevirtual 57, 3) := by decide +kernel
theorem dX4_stateBy_5 : decode cX4_stateBy 5 = .ok (.ifCond .eq 5, 3) := by decide +kernel
theorem dX4_stateBy_8 : decode cX4_stateBy 8 = .ok (.iconst 1, 1) := by decide +kernel
theorem dX4_stateBy_9 : decode cX4_stateBy 9 = .ok (.ireturn, 1) := by decide +kernel
theorem dX4_stateBy_10 : decode cX4_stateBy 10 = .ok (.iconst 0, 1) := by decide +kernel
theorem dX4_stateBy_11 : decode cX4_stateBy 11 = .ok (.istore_n 2, 1) := by decide +kernel
theorem dX4_stateBy_12 : decode cX4_stateBy 12 = .ok (.iconst 0, 1) := by decide +kernel
theorem dX4_stateBy_13 : decode cX4_stateBy 13 = .ok (.istore_n 3, 1) := by decide +kernel
theorem dX4_stateBy_14 : decode cX4_stateBy 14 = .ok (.iload_n 3, 1) := by decide +kernel
theorem dX4_stateBy_15 : decode cX4_stateBy 15 = .ok (.aload_n 0, 1) := by decide +kernel
theorem dX4_stateBy_16 : decode cX4_stateBy 16 = .ok (.getfield 18, 3) := by decide +kernel
theorem dX4_stateBy_19 : decode cX4_stateBy 19 = .ok (.if_icmp .ge 29, 3) := by decide +kernel
theorem dX4_stateBy_22 : decode cX4_stateBy 22 = .ok (.aload_n 0, 1) := by decide +kernel
theorem dX4_stateBy_23 : decode cX4_stateBy 23 = .ok (.iload_n 3, 1) := by decide +kernel
theorem dX4_stateBy_24 : decode cX4_stateBy 24 = .ok (.iload_n 1, 1) := by decide +kernel
theorem dX4_stateBy_25 : decode cX4_stateBy 25 = .ok (.invokevirtual 53, 3) := by decide +kernel
theorem dX4_stateBy_28 : decode cX4_stateBy 28 = .ok (.ifCond .ne 5, 3) := by decide +kernel
theorem dX4_stateBy_31 : decode cX4_stateBy 31 = .ok (.iconst 2, 1) := by decide +kernel
theorem dX4_stateBy_32 : decode cX4_stateBy 32 = .ok (.ireturn, 1) := by decide +kernel
theorem dX4_stateBy_33 : decode cX4_stateBy 33 = .ok (.iload_n 2, 1) := by decide +kernel
theorem dX4_stateBy_34 : decode cX4_stateBy 34 = .ok (.aload_n 0, 1) := by decide +kernel
theorem dX4_stateBy_35 : decode cX4_stateBy 35 = .ok (.getfield 9, 3) := by decide +kernel
theorem dX4_stateBy_38 : decode cX4_stateBy 38 = .ok (.iload_n 3, 1) := by decide +kernel
theorem dX4_stateBy_39 : decode cX4_stateBy 39 = .ok (.iaload, 1) := by decide +kernel
theorem dX4_stateBy_40 : decode cX4_stateBy 40 = .ok (.iadd, 1) := by decide +kernel
theorem dX4_stateBy_41 : decode cX4_stateBy 41 = .ok (.istore_n 2, 1) := by decide +kernel
theorem dX4_stateBy_42 : decode cX4_stateBy 42 = .ok (.iinc 3 1, 3) := by decide +kernel
theorem dX4_stateBy_45 : decode cX4_stateBy 45 = .ok (.goto (-31), 3) := by decide +kernel
theorem dX4_stateBy_48 : decode cX4_stateBy 48 = .ok (.aload_n 0, 1) := by decide +kernel
theorem dX4_stateBy_49 : decode cX4_stateBy 49 = .ok (.iload_n 2, 1) := by decide +kernel
theorem dX4_stateBy_50 : decode cX4_stateBy 50 = .ok (.iload_n 1, 1) := by decide +kernel
theorem dX4_stateBy_51 : decode cX4_stateBy 51 = .ok (.invokevirtual 61, 3) := by decide +kernel
theorem dX4_stateBy_54 : decode cX4_stateBy 54 = .ok (.ifCond .eq 7, 3) := by decide +kernel
theorem dX4_stateBy_57 : decode cX4_stateBy 57 = .ok (.iconst 0, 1) := by decide +kernel
theorem dX4_stateBy_58 : decode cX4_stateBy 58 = .ok (.goto 4, 3) := by decide +kernel
theorem dX4_stateBy_61 : decode cX4_stateBy 61 = .ok (.iconst 3, 1) := by decide +kernel
theorem dX4_stateBy_62 : decode cX4_stateBy 62 = .ok (.ireturn, 1) := by decide +kernel
set_option maxRecDepth 20000 in
theorem ggX5_init_X3_init : GoodIn wsX5_init wsX3_init := goodIn_r _ [26, 27, 2, 3, 23, 28, 29, 30, 31, 32, 33, 34, 35, 60, 61, 62, 63, 64, 65, 66, 67, 68] (by decide +kernel) (by decide +kernel)
set_option maxRecDepth 20000 in
theorem gX5_init_X3_init_n11 : GoodIn wsX5_init (wsX3_init) := ggX5_init_X3_init
set_option maxRecDepth 20000 in
theorem ggX5_init_X0_init : GoodIn wsX5_init wsX0_init := goodIn_r _ [37, 38, 2, 3, 39, 40, 41, 42, 43, 44, 45, 46, 47, 23, 48, 49, 93, 94, 95, 96, 76, 77, 78] (by decide +kernel) (by decide +kernel)
set_option maxRecDepth 20000 in
theorem gX5_init_X0_init_n18 : GoodIn wsX5_init (wsX0_init) := ggX5_init_X0_init
set_option maxRecDepth 20000 in
theorem ggX5_init_X2_init : GoodIn wsX5_init wsX2_init := goodIn_r _ [51, 52, 2, 3, 53, 54, 79, 80, 81, 82, 83, 84, 85, 86, 87, 88, 89] (by decide +kernel) (by decide +kernel)
set_option maxRecDepth 20000 in
theorem gX5_init_X2_init_n25 : GoodIn wsX5_init (wsX2_init) := ggX5_init_X2_init
set_option maxRecDepth 20000 in
theorem ggX5_init_X1_init : GoodIn wsX5_init wsX1_init := goodIn_r _ [56, 57, 2, 3, 58, 59, 5, 6, 25, 26, 27, 23, 28, 29, 30, 31, 32, 33, 34, 35, 90, 91, 92, 60, 61, 62, 63, 64, 65, 66, 67, 68] (by decide +kernel) (by decide +kernel)
set_option maxRecDepth 20000 in
theorem gX5_init_X1_init_n32 : GoodIn wsX5_init (wsX1_init) := ggX5_init_X1_init
theorem dX5_init_0 : decode cX5_init 0 = .ok (.aload_n 0, 1) := by decide +kernel
theorem dX5_init_1 : decode cX5_init 1 = .ok (.invokespecial 3, 3) := by decide +kernel
theorem dX5_init_4 : decode cX5_init 4 = .ok (.aload_n 0, 1) := by decide +kernel
theorem dX5_init_5 : decode cX5_init 5 = .ok (.new 9, 3) := by decide +kernel
theorem dX5_init_8 : decode cX5_init 8 = .ok (.dup, 1) := by decide +kernel
theorem dX5_init_9 : decode cX5_init 9 = .ok (.invokespecial 11, 3) := by decide +kernel
theorem dX5_init_12 : decode cX5_init 12 = .ok (.putfield 12, 3) := by decide +kernel
theorem dX5_init_15 : decode cX5_init 15 = .ok (.aload_n 0, 1) := by decide +kernel
theorem dX5_init_16 : decode cX5_init 16 = .ok (.new 16, 3) := by decide +kernel
theorem dX5_init_19 : decode cX5_init 19 = .ok (.dup, 1) := by decide +kernel
theorem dX5_init_20 : decode cX5_init 20 = .ok (.invokespecial 18, 3) := by decide +kernel
theorem dX5_init_23 : decode cX5_init 23 = .ok (.putfield 19, 3) := by decide +kernel
theorem dX5_init_26 : decode cX5_init 26 = .ok (.aload_n 0, 1) := by decide +kernel
theorem dX5_init_27 : decode cX5_init 27 = .ok (.new 23, 3) := by decide +kernel
theorem dX5_init_30 : decode cX5_init 30 = .ok (.dup, 1) := by decide +kernel
theorem dX5_init_31 : decode cX5_init 31 = .ok (.invokespecial 25, 3) := by decide +kernel
theorem dX5_init_34 : decode cX5_init 34 = .ok (.putfield 26, 3) := by decide +kernel
theorem dX5_init_37 : decode cX5_init 37 = .ok (.aload_n 0, 1) := by decide +kernel
theorem dX5_init_38 : decode cX5_init 38 = .ok (.new 30, 3) := by decide +kernel
theorem dX5_init_41 : decode cX5_init 41 = .ok (.dup, 1) := by decide +kernel
theorem dX5_init_42 : decode cX5_init 42 = .ok (.invokespecial 32, 3) := by decide +kernel
theorem dX5_init_45 : decode cX5_init 45 = .ok (.putfield 33, 3) := by decide +kernel
theorem dX5_init_48 : decode cX5_init 48 = .ok (.aload_n 0, 1) := by decide +kernel
theorem dX5_init_49 : decode cX5_init 49 = .ok (.iconst 2, 1) := by decide +kernel
theorem dX5_init_50 : decode cX5_init 50 = .ok (.anewarray 9, 3) := by decide +kernel
theorem dX5_init_53 : decode cX5_init 53 = .ok (.putfield 37, 3) := by decide +kernel
theorem dX5_init_56 : decode cX5_init 56 = .ok (.iconst 0, 1) := by decide +kernel
theorem dX5_init_57 : decode cX5_init 57 = .ok (.istore_n 1, 1) := by decide +kernel
theorem dX5_init_58 : decode cX5_init 58 = .ok (.iload_n 1, 1) := by decide +kernel
theorem dX5_init_59 : decode cX5_init 59 = .ok (.iconst 2, 1) := by decide +kernel
theorem dX5_init_60 : decode cX5_init 60 = .ok (.if_icmp .ge 22, 3) := by decide +kernel
theorem dX5_init_63 : decode cX5_init 63 = .ok (.aload_n 0, 1) := by decide +kernel
theorem dX5_init_64 : decode cX5_init 64 = .ok (.getfield 37, 3) := by decide +kernel
theorem dX5_init_67 : decode cX5_init 67 = .ok (.iload_n 1, 1) := by decide +kernel
theorem dX5_init_68 : decode cX5_init 68 = .ok (.new 9, 3) := by decide +kernel
theorem dX5_init_71 : decode cX5_init 71 = .ok (.dup, 1) := by decide +kernel
theorem dX5_init_72 : decode cX5_init 72 = .ok (.invokespecial 11, 3) := by decide +kernel
theorem dX5_init_75 : decode cX5_init 75 = .ok (.aastore, 1) := by decide +kernel
theorem dX5_init_76 : decode cX5_init 76 = .ok (.iinc 1 1, 3) := by decide +kernel
theorem dX5_init_79 : decode cX5_init 79 = .ok (.goto (-21), 3) := by decide +kernel
theorem dX5_init_82 : decode cX5_init 82 = .ok (.aload_n 0, 1) := by decide +kernel
theorem dX5_init_83 : decode cX5_init 83 = .ok (.iconst 2, 1) := by decide +kernel
theorem dX5_init_84 : decode cX5_init 84 = .ok (.newarray .boolean, 2) := by decide +kernel
theorem dX5_init_86 : decode cX5_init 86 = .ok (.putfield 41, 3) := by decide +kernel
theorem dX5_init_89 : decode cX5_init 89 = .ok (.aload_n 0, 1) := by decide +kernel
theorem dX5_init_90 : decode cX5_init 90 = .ok (.bipush 16, 2) := by decide +kernel
theorem dX5_init_92 : decode cX5_init 92 = .ok (.newarray .int, 2) := by decide +kernel
theorem dX5_init_94 : decode cX5_init 94 = .ok (.putfield 45, 3) := by decide +kernel
theorem dX5_init_97 : decode cX5_init 97 = .ok (.return_, 1) := by decide +kernel
set_option maxRecDepth 20000 in
theorem ggX5_set_X5_mostOf : GoodIn wsX5_set wsX5_mostOf := goodIn_r _ [6] (by decide +kernel) (by decide +kernel)
set_option maxRecDepth 20000 in
theorem gX5_set_X5_mostOf : GoodIn wsX5_set (va_wsS RX5 49 yX5_mostOf wsX5_mostOf) := goodIn_app (goodIn_of _ (by decide +kernel)) ggX5_set_X5_mostOf
set_option maxRecDepth 20000 in
theorem ggX5_set_X1_record : GoodIn wsX5_set wsX1_record := goodIn_r _ [10, 11, 12, 13, 14, 15, 16, 17, 18, 19, 20, 21, 22, 23, 24, 25, 26, 27, 28, 29, 30, 31, 32, 33, 34, 51, 52, 53, 42, 43, 44, 45, 46, 47, 48, 49, 50] (by decide +kernel) (by decide +kernel)
set_option maxRecDepth 20000 in
theorem gX5_set_X1_record_n53 : GoodIn wsX5_set (wsX1_record) := ggX5_set_X1_record
theorem dX5_set_0 : decode cX5_set 0 = .ok (.iload_n 1, 1) := by decide +kernel
theorem dX5_set_1 : decode cX5_set 1 = .ok (.ifCond .lt 20, 3) := by decide +kernel
theorem dX5_set_4 : decode cX5_set 4 = .ok (.iload_n 1, 1) := by decide +kernel
theorem dX5_set_5 : decode cX5_set 5 = .ok (.iconst 3, 1) := by decide +kernel
theorem dX5_set_6 : decode cX5_set 6 = .ok (.if_icmp .ge 15, 3) := by decide +kernel
theorem dX5_set_9 : decode cX5_set 9 = .ok (.iload_n 2, 1) := by decide +kernel
theorem dX5_set_10 : decode cX5_set 10 = .ok (.ifCond .lt 11, 3) := by decide +kernel
theorem dX5_set_13 : decode cX5_set 13 = .ok (.iload_n 2, 1) := by decide +kernel
theorem dX5_set_14 : decode cX5_set 14 = .ok (.iload_n 1, 1) := by decide +kernel
theorem dX5_set_15 : decode cX5_set 15 = .ok (.invokestatic 49, 3) := by decide +kernel
theorem dX5_set_18 : decode cX5_set 18 = .ok (.if_icmp .le 6, 3) := by decide +kernel
theorem dX5_set_21 : decode cX5_set 21 = .ok (.bipush (-2), 2) := by decide +kernel
theorem dX5_set_23 : decode cX5_set 23 = .ok (.ireturn, 1) := by decide +kernel
theorem dX5_set_24 : decode cX5_set 24 = .ok (.aload_n 0, 1) := by decide +kernel
theorem dX5_set_25 : decode cX5_set 25 = .ok (.getfield 33, 3) := by decide +kernel
theorem dX5_set_28 : decode cX5_set 28 = .ok (.aload_n 0, 1) := by decide +kernel
theorem dX5_set_29 : decode cX5_set 29 = .ok (.getfield 12, 3) := by decide +kernel
theorem dX5_set_32 : decode cX5_set 32 = .ok (.invokevirtual 53, 3) := by decide +kernel
theorem dX5_set_35 : decode cX5_set 35 = .ok (.aload_n 0, 1) := by decide +kernel
theorem dX5_set_36 : decode cX5_set 36 = .ok (.getfield 12, 3) := by decide +kernel
theorem dX5_set_39 : decode cX5_set 39 = .ok (.getfield 57, 3) := by decide +kernel
theorem dX5_set_42 : decode cX5_set 42 = .ok (.iload_n 1, 1) := by decide +kernel
theorem dX5_set_43 : decode cX5_set 43 = .ok (.iaload, 1) := by decide +kernel
theorem dX5_set_44 : decode cX5_set 44 = .ok (.istore_n 3, 1) := by decide +kernel
theorem dX5_set_45 : decode cX5_set 45 = .ok (.aload_n 0, 1) := by decide +kernel
theorem dX5_set_46 : decode cX5_set 46 = .ok (.getfield 12, 3) := by decide +kernel
theorem dX5_set_49 : decode cX5_set 49 = .ok (.getfield 57, 3) := by decide +kernel
theorem dX5_set_52 : decode cX5_set 52 = .ok (.iload_n 1, 1) := by decide +kernel
theorem dX5_set_53 : decode cX5_set 53 = .ok (.iload_n 2, 1) := by decide +kernel
theorem dX5_set_54 : decode cX5_set 54 = .ok (.iastore, 1) := by decide +kernel
theorem dX5_set_55 : decode cX5_set 55 = .ok (.iload_n 3, 1) := by decide +kernel
theorem dX5_set_56 : decode cX5_set 56 = .ok (.ireturn, 1) := by decide +kernel
set_option maxRecDepth 20000 in
theorem ggX5_write_X3_errorOfBlock : GoodIn wsX5_write wsX3_errorOfBlock := goodIn_r _ [6, 7, 8, 9, 10, 4, 11, 67, 68, 69, 70, 71, 72, 73, 74, 75] (by decide +kernel) (by decide +kernel)
set_option maxRecDepth 20000 in
theorem gX5_write_X3_errorOfBlock_n60 : GoodIn wsX5_write (wsX3_errorOfBlock) := ggX5_write_X3_errorOfBlock
set_option maxRecDepth 20000 in
theorem ggX5_write_X1_record : GoodIn wsX5_write wsX1_record := goodIn_r _ [15, 16, 17, 18, 19, 4, 20, 21, 7, 22, 23, 24, 25, 26, 27, 28, 29, 30, 31, 32, 33, 34, 35, 36, 37, 76, 77, 78, 67, 68, 69, 70, 71, 72, 73, 74, 75] (by decide +kernel) (by decide +kernel)
set_option maxRecDepth 20000 in
theorem gX5_write_X1_record_n53 : GoodIn wsX5_write (wsX1_record) := ggX5_write_X1_record
set_option maxRecDepth 20000 in
theorem ggX5_write_X3_appendBlock : GoodIn wsX5_write wsX3_appendBlock := goodIn_r _ [40, 7, 27, 28, 29, 30, 31, 22, 32, 41, 42, 43, 4, 44, 45, 46, 47, 48, 49, 50, 51, 52, 33, 53, 54, 55, 56, 57, 58, 59, 67, 68, 69, 70, 71, 72, 73, 74, 75] (by decide +kernel) (by decide +kernel)
set_option maxRecDepth 20000 in
theorem gX5_write_X3_appendBlock_n64 : GoodIn wsX5_write (wsX3_appendBlock) := ggX5_write_X3_appendBlock
theorem dX5_write_0 : decode cX5_write 0 = .ok (.aload_n 0, 1) := by decide +kernel
theorem dX5_write_1 : decode cX5_write 1 = .ok (.getfield 12, 3) := by decide +kernel
theorem dX5_write_4 : decode cX5_write 4 = .ok (.iload_n 1, 1) := by decide +kernel
theorem dX5_write_5 : decode cX5_write 5 = .ok (.iload_n 2, 1) := by decide +kernel
theorem dX5_write_6 : decode cX5_write 6 = .ok (.iload_n 3, 1) := by decide +kernel
theorem dX5_write_7 : decode cX5_write 7 = .ok (.invokevirtual 60, 3) := by decide +kernel
theorem dX5_write_10 : decode cX5_write 10 = .ok (.istore 6, 2) := by decide +kernel
theorem dX5_write_12 : decode cX5_write 12 = .ok (.iload 6, 2) := by decide +kernel
theorem dX5_write_14 : decode cX5_write 14 = .ok (.ifCond .eq 6, 3) := by decide +kernel
theorem dX5_write_17 : decode cX5_write 17 = .ok (.iload 6, 2) := by decide +kernel
theorem dX5_write_19 : decode cX5_write 19 = .ok (.ireturn, 1) := by decide +kernel
theorem dX5_write_20 : decode cX5_write 20 = .ok (.aload_n 0, 1) := by decide +kernel
theorem dX5_write_21 : decode cX5_write 21 = .ok (.getfield 33, 3) := by decide +kernel
theorem dX5_write_24 : decode cX5_write 24 = .ok (.aload_n 0, 1) := by decide +kernel
theorem dX5_write_25 : decode cX5_write 25 = .ok (.getfield 12, 3) := by decide +kernel
theorem dX5_write_28 : decode cX5_write 28 = .ok (.invokevirtual 53, 3) := by decide +kernel
theorem dX5_write_31 : decode cX5_write 31 = .ok (.aload_n 0, 1) := by decide +kernel
theorem dX5_write_32 : decode cX5_write 32 = .ok (.getfield 12, 3) := by decide +kernel
theorem dX5_write_35 : decode cX5_write 35 = .ok (.iload_n 1, 1) := by decide +kernel
theorem dX5_write_36 : decode cX5_write 36 = .ok (.iload_n 2, 1) := by decide +kernel
theorem dX5_write_37 : decode cX5_write 37 = .ok (.iload_n 3, 1) := by decide +kernel
theorem dX5_write_38 : decode cX5_write 38 = .ok (.lload 4, 2) := by decide +kernel
theorem dX5_write_40 : decode cX5_write 40 = .ok (.invokevirtual 64, 3) := by decide +kernel
theorem dX5_write_43 : decode cX5_write 43 = .ok (.ireturn, 1) := by decide +kernel
set_option maxRecDepth 20000 in
theorem ggX5_wipeLast_X1_record : GoodIn wsX5_wipeLast wsX1_record := goodIn_r _ [6, 7, 8, 9, 10, 11, 12, 13, 14, 15, 16, 17, 18, 19, 20, 21, 22, 23, 24, 25, 26, 27, 28, 29, 30, 47, 48, 49, 38, 39, 40, 41, 42, 43, 44, 45, 46] (by decide +kernel) (by decide +kernel)
set_option maxRecDepth 20000 in
theorem gX5_wipeLast_X1_record_n53 : GoodIn wsX5_wipeLast (wsX1_record) := ggX5_wipeLast_X1_record
theorem dX5_wipeLast_0 : decode cX5_wipeLast 0 = .ok (.aload_n 0, 1) := by decide +kernel
theorem dX5_wipeLast_1 : decode cX5_wipeLast 1 = .ok (.getfield 12, 3) := by decide +kernel
theorem dX5_wipeLast_4 : decode cX5_wipeLast 4 = .ok (.getfield 68, 3) := by decide +kernel
theorem dX5_wipeLast_7 : decode cX5_wipeLast 7 = .ok (.ifCond .gt 6, 3) := by decide +kernel
theorem dX5_wipeLast_10 : decode cX5_wipeLast 10 = .ok (.bipush (-5), 2) := by decide +kernel
theorem dX5_wipeLast_12 : decode cX5_wipeLast 12 = .ok (.ireturn, 1) := by decide +kernel
theorem dX5_wipeLast_13 : decode cX5_wipeLast 13 = .ok (.aload_n 0, 1) := by decide +kernel
theorem dX5_wipeLast_14 : decode cX5_wipeLast 14 = .ok (.getfield 33, 3) := by decide +kernel
theorem dX5_wipeLast_17 : decode cX5_wipeLast 17 = .ok (.aload_n 0, 1) := by decide +kernel
theorem dX5_wipeLast_18 : decode cX5_wipeLast 18 = .ok (.getfield 12, 3) := by decide +kernel
theorem dX5_wipeLast_21 : decode cX5_wipeLast 21 = .ok (.invokevirtual 53, 3) := by decide +kernel
theorem dX5_wipeLast_24 : decode cX5_wipeLast 24 = .ok (.aload_n 0, 1) := by decide +kernel
theorem dX5_wipeLast_25 : decode cX5_wipeLast 25 = .ok (.getfield 12, 3) := by decide +kernel
theorem dX5_wipeLast_28 : decode cX5_wipeLast 28 = .ok (.dup, 1) := by decide +kernel
theorem dX5_wipeLast_29 : decode cX5_wipeLast 29 = .ok (.getfield 68, 3) := by decide +kernel
theorem dX5_wipeLast_32 : decode cX5_wipeLast 32 = .ok (.iconst 1, 1) := by decide +kernel
theorem dX5_wipeLast_33 : decode cX5_wipeLast 33 = .ok (.isub, 1) := by decide +kernel
theorem dX5_wipeLast_34 : decode cX5_wipeLast 34 = .ok (.putfield 68, 3) := by decide +kernel
theorem dX5_wipeLast_37 : decode cX5_wipeLast 37 = .ok (.aload_n 0, 1) := by decide +kernel
theorem dX5_wipeLast_38 : decode cX5_wipeLast 38 = .ok (.getfield 12, 3) := by decide +kernel
theorem dX5_wipeLast_41 : decode cX5_wipeLast 41 = .ok (.getfield 68, 3) := by decide +kernel
theorem dX5_wipeLast_44 : decode cX5_wipeLast 44 = .ok (.ireturn, 1) := by decide +kernel
set_option maxRecDepth 20000 in
theorem ggX5_fade_X3_errorOfFading : GoodIn wsX5_fade wsX3_errorOfFading := goodIn_r _ [6, 7, 8, 9, 4, 10, 11, 12, 13, 14, 15, 16, 48, 49, 50, 51, 52, 53, 54, 55, 56] (by decide +kernel) (by decide +kernel)
set_option maxRecDepth 20000 in
theorem gX5_fade_X3_errorOfFading_n72 : GoodIn wsX5_fade (wsX3_errorOfFading) := ggX5_fade_X3_errorOfFading
set_option maxRecDepth 20000 in
theorem ggX5_fade_X1_record : GoodIn wsX5_fade wsX1_record := goodIn_r _ [20, 21, 22, 23, 24, 4, 25, 26, 16, 27, 28, 29, 30, 31, 32, 33, 34, 15, 35, 36, 37, 11, 12, 13, 14, 57, 58, 59, 48, 49, 50, 51, 52, 53, 54, 55, 56] (by decide +kernel) (by decide +kernel)
set_option maxRecDepth 20000 in
theorem gX5_fade_X1_record_n53 : GoodIn wsX5_fade (wsX1_record) := ggX5_fade_X1_record
set_option maxRecDepth 20000 in
theorem ggX5_fade_X3_fadeCells : GoodIn wsX5_fade wsX3_fadeCells := goodIn_r _ [40, 35, 48, 49, 50, 51, 52, 53, 54, 55, 56] (by decide +kernel) (by decide +kernel)
set_option maxRecDepth 20000 in
theorem gX5_fade_X3_fadeCells_n75 : GoodIn wsX5_fade (wsX3_fadeCells) := ggX5_fade_X3_fadeCells
theorem dX5_fade_0 : decode cX5_fade 0 = .ok (.aload_n 0, 1) := by decide +kernel
theorem dX5_fade_1 : decode cX5_fade 1 = .ok (.getfield 12, 3) := by decide +kernel
theorem dX5_fade_4 : decode cX5_fade 4 = .ok (.iload_n 1, 1) := by decide +kernel
theorem dX5_fade_5 : decode cX5_fade 5 = .ok (.iload_n 2, 1) := by decide +kernel
theorem dX5_fade_6 : decode cX5_fade 6 = .ok (.iload_n 3, 1) := by decide +kernel
theorem dX5_fade_7 : decode cX5_fade 7 = .ok (.invokevirtual 72, 3) := by decide +kernel
theorem dX5_fade_10 : decode cX5_fade 10 = .ok (.istore 4, 2) := by decide +kernel
theorem dX5_fade_12 : decode cX5_fade 12 = .ok (.iload 4, 2) := by decide +kernel
theorem dX5_fade_14 : decode cX5_fade 14 = .ok (.ifCond .eq 6, 3) := by decide +kernel
theorem dX5_fade_17 : decode cX5_fade 17 = .ok (.iload 4, 2) := by decide +kernel
theorem dX5_fade_19 : decode cX5_fade 19 = .ok (.ireturn, 1) := by decide +kernel
theorem dX5_fade_20 : decode cX5_fade 20 = .ok (.aload_n 0, 1) := by decide +kernel
theorem dX5_fade_21 : decode cX5_fade 21 = .ok (.getfield 33, 3) := by decide +kernel
theorem dX5_fade_24 : decode cX5_fade 24 = .ok (.aload_n 0, 1) := by decide +kernel
theorem dX5_fade_25 : decode cX5_fade 25 = .ok (.getfield 12, 3) := by decide +kernel
theorem dX5_fade_28 : decode cX5_fade 28 = .ok (.invokevirtual 53, 3) := by decide +kernel
theorem dX5_fade_31 : decode cX5_fade 31 = .ok (.aload_n 0, 1) := by decide +kernel
theorem dX5_fade_32 : decode cX5_fade 32 = .ok (.getfield 12, 3) := by decide +kernel
theorem dX5_fade_35 : decode cX5_fade 35 = .ok (.iload_n 1, 1) := by decide +kernel
theorem dX5_fade_36 : decode cX5_fade 36 = .ok (.iload_n 2, 1) := by decide +kernel
theorem dX5_fade_37 : decode cX5_fade 37 = .ok (.iload_n 3, 1) := by decide +kernel
theorem dX5_fade_38 : decode cX5_fade 38 = .ok (.invokevirtual 75, 3) := by decide +kernel
theorem dX5_fade_41 : decode cX5_fade 41 = .ok (.ireturn, 1) := by decide +kernel
set_option maxRecDepth 20000 in
theorem ggX5_spoil_X3_hasCell : GoodIn wsX5_spoil wsX3_hasCell := goodIn_r _ [6, 7, 8, 9, 4, 10, 11, 12, 44, 45, 46, 47, 48, 49, 50, 51, 52] (by decide +kernel) (by decide +kernel)
set_option maxRecDepth 20000 in
theorem gX5_spoil_X3_hasCell_n78 : GoodIn wsX5_spoil (wsX3_hasCell) := ggX5_spoil_X3_hasCell
set_option maxRecDepth 20000 in
theorem ggX5_spoil_X1_record : GoodIn wsX5_spoil wsX1_record := goodIn_r _ [16, 17, 18, 19, 20, 4, 21, 22, 12, 23, 24, 25, 26, 27, 28, 29, 30, 11, 31, 32, 33, 7, 8, 9, 10, 53, 54, 55, 44, 45, 46, 47, 48, 49, 50, 51, 52] (by decide +kernel) (by decide +kernel)
set_option maxRecDepth 20000 in
theorem gX5_spoil_X1_record_n53 : GoodIn wsX5_spoil (wsX1_record) := ggX5_spoil_X1_record
set_option maxRecDepth 20000 in
theorem ggX5_spoil_X3_spoilCell : GoodIn wsX5_spoil wsX3_spoilCell := goodIn_r _ [36, 32, 44, 45, 46, 47, 48, 49, 50, 51, 52] (by decide +kernel) (by decide +kernel)
set_option maxRecDepth 20000 in
theorem gX5_spoil_X3_spoilCell_n82 : GoodIn wsX5_spoil (wsX3_spoilCell) := ggX5_spoil_X3_spoilCell
theorem dX5_spoil_0 : decode cX5_spoil 0 = .ok (.aload_n 0, 1) := by decide +kernel
theorem dX5_spoil_1 : decode cX5_spoil 1 = .ok (.getfield 12, 3) := by decide +kernel
theorem dX5_spoil_4 : decode cX5_spoil 4 = .ok (.iload_n 1, 1) := by decide +kernel
theorem dX5_spoil_5 : decode cX5_spoil 5 = .ok (.invokevirtual 78, 3) := by decide +kernel
theorem dX5_spoil_8 : decode cX5_spoil 8 = .ok (.ifCond .ne 5, 3) := by decide +kernel
theorem dX5_spoil_11 : decode cX5_spoil 11 = .ok (.iconst (-1), 1) := by decide +kernel
theorem dX5_spoil_12 : decode cX5_spoil 12 = .ok (.ireturn, 1) := by decide +kernel
theorem dX5_spoil_13 : decode cX5_spoil 13 = .ok (.aload_n 0, 1) := by decide +kernel
theorem dX5_spoil_14 : decode cX5_spoil 14 = .ok (.getfield 33, 3) := by decide +kernel
theorem dX5_spoil_17 : decode cX5_spoil 17 = .ok (.aload_n 0, 1) := by decide +kernel
theorem dX5_spoil_18 : decode cX5_spoil 18 = .ok (.getfield 12, 3) := by decide +kernel
theorem dX5_spoil_21 : decode cX5_spoil 21 = .ok (.invokevirtual 53, 3) := by decide +kernel
theorem dX5_spoil_24 : decode cX5_spoil 24 = .ok (.aload_n 0, 1) := by decide +kernel
theorem dX5_spoil_25 : decode cX5_spoil 25 = .ok (.getfield 12, 3) := by decide +kernel
theorem dX5_spoil_28 : decode cX5_spoil 28 = .ok (.iload_n 1, 1) := by decide +kernel
theorem dX5_spoil_29 : decode cX5_spoil 29 = .ok (.invokevirtual 82, 3) := by decide +kernel
theorem dX5_spoil_32 : decode cX5_spoil 32 = .ok (.ireturn, 1) := by decide +kernel
set_option maxRecDepth 20000 in
theorem ggX5_of_X3_hasBlock : GoodIn wsX5_of wsX3_hasBlock := goodIn_r _ [5, 6, 91, 92, 93, 94, 95, 96, 97, 98, 99] (by decide +kernel) (by decide +kernel)
set_option maxRecDepth 20000 in
theorem gX5_of_X3_hasBlock_n85 : GoodIn wsX5_of (wsX3_hasBlock) := ggX5_of_X3_hasBlock
set_option maxRecDepth 20000 in
theorem ggX5_of_X5_stateOfTelling : GoodIn wsX5_of wsX5_stateOfTelling := goodIn_r _ [11, 12, 1, 13, 14, 15, 16, 17, 18, 19, 20, 21, 22, 23, 24, 25, 26, 27, 28, 29, 30, 31, 32, 33, 34, 35, 36, 37, 38, 39, 40, 41, 42, 3, 43, 44, 45, 46, 47, 48, 49, 50, 51, 52, 53, 54, 55, 56, 57, 58, 59, 60, 84, 85, 86, 87, 88, 89, 90, 100, 101, 102, 91, 92, 93, 94, 95, 96, 97, 98, 99, 103, 104, 105, 106] (by decide +kernel) (by decide +kernel)
set_option maxRecDepth 20000 in
theorem gX5_of_X5_stateOfTelling : GoodIn wsX5_of (wsV RX5 100 RX5 yX5_stateOfTelling wsX5_stateOfTelling) := goodIn_app (goodIn_of _ (by decide +kernel)) ggX5_of_X5_stateOfTelling
set_option maxRecDepth 20000 in
theorem ggX5_of_X5_wayOfLoading : GoodIn wsX5_of wsX5_wayOfLoading := goodIn_r _ [64, 12, 1, 13, 14, 15, 16, 17, 18, 19, 20, 21, 22, 23, 24, 25, 26, 27, 28, 29, 30, 31, 32, 33, 34, 35, 36, 37, 38, 39, 40, 41, 42, 3, 43, 44, 45, 65, 66, 67, 46, 47, 48, 49, 50, 51, 52, 53, 54, 55, 56, 57, 58, 59, 60, 68, 69, 70, 71, 72, 73, 74, 75, 84, 85, 86, 87, 88, 89, 90, 91, 92, 93, 94, 95, 96, 97, 98, 99, 100, 101, 102, 103, 104, 105, 106] (by decide +kernel) (by decide +kernel)
set_option maxRecDepth 20000 in
theorem gX5_of_X5_wayOfLoading : GoodIn wsX5_of (wsV RX5 104 RX5 yX5_wayOfLoading wsX5_wayOfLoading) := goodIn_app (goodIn_of _ (by decide +kernel)) ggX5_of_X5_wayOfLoading
set_option maxRecDepth 20000 in
theorem ggX5_of_X3_depthOf : GoodIn wsX5_of wsX3_depthOf := goodIn_r _ [78, 79, 91, 92, 93, 94, 95, 96, 97, 98, 99] (by decide +kernel) (by decide +kernel)
set_option maxRecDepth 20000 in
theorem gX5_of_X3_depthOf_n107 : GoodIn wsX5_of (wsX3_depthOf) := ggX5_of_X3_depthOf
set_option maxRecDepth 20000 in
theorem ggX5_of_X3_counterOf : GoodIn wsX5_of wsX3_counterOf := goodIn_r _ [82, 83, 91, 92, 93, 94, 95, 96, 97, 98, 99] (by decide +kernel) (by decide +kernel)
set_option maxRecDepth 20000 in
theorem gX5_of_X3_counterOf_n110 : GoodIn wsX5_of (wsX3_counterOf) := ggX5_of_X3_counterOf
theorem dX5_of_0 : decode cX5_of 0 = .ok (.aload_n 0, 1) := by decide +kernel
theorem dX5_of_1 : decode cX5_of 1 = .ok (.getfield 12, 3) := by decide +kernel
theorem dX5_of_4 : decode cX5_of 4 = .ok (.iload_n 1, 1) := by decide +kernel
theorem dX5_of_5 : decode cX5_of 5 = .ok (.invokevirtual 85, 3) := by decide +kernel
theorem dX5_of_8 : decode cX5_of 8 = .ok (.ifCond .ne 5, 3) := by decide +kernel
theorem dX5_of_11 : decode cX5_of 11 = .ok (.iconst (-1), 1) := by decide +kernel
theorem dX5_of_12 : decode cX5_of 12 = .ok (.ireturn, 1) := by decide +kernel
theorem dX5_of_13 : decode cX5_of 13 = .ok (.iload_n 2, 1) := by decide +kernel
theorem dX5_of_14 : decode cX5_of 14 = .ok (.tableswitch 162 0 9 #[54, 64, 74, 84, 94, 116, 123, 130, 136, 145], 54) := by decide +kernel
theorem dX5_of_68 : decode cX5_of 68 = .ok (.aload_n 0, 1) := by decide +kernel
theorem dX5_of_69 : decode cX5_of 69 = .ok (.getfield 12, 3) := by decide +kernel
theorem dX5_of_72 : decode cX5_of 72 = .ok (.getfield 88, 3) := by decide +kernel
theorem dX5_of_75 : decode cX5_of 75 = .ok (.iload_n 1, 1) := by decide +kernel
theorem dX5_of_76 : decode cX5_of 76 = .ok (.iaload, 1) := by decide +kernel
theorem dX5_of_77 : decode cX5_of 77 = .ok (.ireturn, 1) := by decide +kernel
theorem dX5_of_78 : decode cX5_of 78 = .ok (.aload_n 0, 1) := by decide +kernel
theorem dX5_of_79 : decode cX5_of 79 = .ok (.getfield 12, 3) := by decide +kernel
theorem dX5_of_82 : decode cX5_of 82 = .ok (.getfield 91, 3) := by decide +kernel
theorem dX5_of_85 : decode cX5_of 85 = .ok (.iload_n 1, 1) := by decide +kernel
theorem dX5_of_86 : decode cX5_of 86 = .ok (.iaload, 1) := by decide +kernel
theorem dX5_of_87 : decode cX5_of 87 = .ok (.ireturn, 1) := by decide +kernel
theorem dX5_of_88 : decode cX5_of 88 = .ok (.aload_n 0, 1) := by decide +kernel
theorem dX5_of_89 : decode cX5_of 89 = .ok (.getfield 12, 3) := by decide +kernel
theorem dX5_of_92 : decode cX5_of 92 = .ok (.getfield 94, 3) := by decide +kernel
theorem dX5_of_95 : decode cX5_of 95 = .ok (.iload_n 1, 1) := by decide +kernel
theorem dX5_of_96 : decode cX5_of 96 = .ok (.iaload, 1) := by decide +kernel
theorem dX5_of_97 : decode cX5_of 97 = .ok (.ireturn, 1) := by decide +kernel
theorem dX5_of_98 : decode cX5_of 98 = .ok (.aload_n 0, 1) := by decide +kernel
theorem dX5_of_99 : decode cX5_of 99 = .ok (.getfield 12, 3) := by decide +kernel
theorem dX5_of_102 : decode cX5_of 102 = .ok (.getfield 97, 3) := by decide +kernel
theorem dX5_of_105 : decode cX5_of 105 = .ok (.iload_n 1, 1) := by decide +kernel
theorem dX5_of_106 : decode cX5_of 106 = .ok (.iaload, 1) := by decide +kernel
theorem dX5_of_107 : decode cX5_of 107 = .ok (.ireturn, 1) := by decide +kernel
theorem dX5_of_108 : decode cX5_of 108 = .ok (.aload_n 0, 1) := by decide +kernel
theorem dX5_of_109 : decode cX5_of 109 = .ok (.getfield 12, 3) := by decide +kernel
theorem dX5_of_112 : decode cX5_of 112 = .ok (.getfield 97, 3) := by decide +kernel
theorem dX5_of_115 : decode cX5_of 115 = .ok (.iload_n 1, 1) := by decide +kernel
theorem dX5_of_116 : decode cX5_of 116 = .ok (.iconst 1, 1) := by decide +kernel
theorem dX5_of_117 : decode cX5_of 117 = .ok (.iadd, 1) := by decide +kernel
theorem dX5_of_118 : decode cX5_of 118 = .ok (.iaload, 1) := by decide +kernel
theorem dX5_of_119 : decode cX5_of 119 = .ok (.aload_n 0, 1) := by decide +kernel
theorem dX5_of_120 : decode cX5_of 120 = .ok (.getfield 12, 3) := by decide +kernel
theorem dX5_of_123 : decode cX5_of 123 = .ok (.getfield 97, 3) := by decide +kernel
theorem dX5_of_126 : decode cX5_of 126 = .ok (.iload_n 1, 1) := by decide +kernel
theorem dX5_of_127 : decode cX5_of 127 = .ok (.iaload, 1) := by decide +kernel
theorem dX5_of_128 : decode cX5_of 128 = .ok (.isub, 1) := by decide +kernel
theorem dX5_of_129 : decode cX5_of 129 = .ok (.ireturn, 1) := by decide +kernel
theorem dX5_of_130 : decode cX5_of 130 = .ok (.aload_n 0, 1) := by decide +kernel
theorem dX5_of_131 : decode cX5_of 131 = .ok (.iload_n 1, 1) := by decide +kernel
theorem dX5_of_132 : decode cX5_of 132 = .ok (.iconst 0, 1) := by decide +kernel
theorem dX5_of_133 : decode cX5_of 133 = .ok (.invokevirtual 100, 3) := by decide +kernel
theorem dX5_of_136 : decode cX5_of 136 = .ok (.ireturn, 1) := by decide +kernel
theorem dX5_of_137 : decode cX5_of 137 = .ok (.aload_n 0, 1) := by decide +kernel
theorem dX5_of_138 : decode cX5_of 138 = .ok (.iload_n 1, 1) := by decide +kernel
theorem dX5_of_139 : decode cX5_of 139 = .ok (.iconst 1, 1) := by decide +kernel
theorem dX5_of_140 : decode cX5_of 140 = .ok (.invokevirtual 100, 3) := by decide +kernel
theorem dX5_of_143 : decode cX5_of 143 = .ok (.ireturn, 1) := by decide +kernel
theorem dX5_of_144 : decode cX5_of 144 = .ok (.aload_n 0, 1) := by decide +kernel
theorem dX5_of_145 : decode cX5_of 145 = .ok (.iload_n 1, 1) := by decide +kernel
theorem dX5_of_146 : decode cX5_of 146 = .ok (.invokevirtual 104, 3) := by decide +kernel
theorem dX5_of_149 : decode cX5_of 149 = .ok (.ireturn, 1) := by decide +kernel
theorem dX5_of_150 : decode cX5_of 150 = .ok (.aload_n 0, 1) := by decide +kernel
theorem dX5_of_151 : decode cX5_of 151 = .ok (.getfield 12, 3) := by decide +kernel
theorem dX5_of_154 : decode cX5_of 154 = .ok (.iload_n 1, 1) := by decide +kernel
theorem dX5_of_155 : decode cX5_of 155 = .ok (.invokevirtual 107, 3) := by decide +kernel
theorem dX5_of_158 : decode cX5_of 158 = .ok (.ireturn, 1) := by decide +kernel
theorem dX5_of_159 : decode cX5_of 159 = .ok (.aload_n 0, 1) := by decide +kernel
theorem dX5_of_160 : decode cX5_of 160 = .ok (.getfield 12, 3) := by decide +kernel
theorem dX5_of_163 : decode cX5_of 163 = .ok (.aload_n 0, 1) := by decide +kernel
theorem dX5_of_164 : decode cX5_of 164 = .ok (.getfield 12, 3) := by decide +kernel
theorem dX5_of_167 : decode cX5_of 167 = .ok (.getfield 97, 3) := by decide +kernel
theorem dX5_of_170 : decode cX5_of 170 = .ok (.iload_n 1, 1) := by decide +kernel
theorem dX5_of_171 : decode cX5_of 171 = .ok (.iaload, 1) := by decide +kernel
theorem dX5_of_172 : decode cX5_of 172 = .ok (.invokevirtual 110, 3) := by decide +kernel
theorem dX5_of_175 : decode cX5_of 175 = .ok (.ireturn, 1) := by decide +kernel
theorem dX5_of_176 : decode cX5_of 176 = .ok (.bipush (-2), 2) := by decide +kernel
theorem dX5_of_178 : decode cX5_of 178 = .ok (.ireturn, 1) := by decide +kernel
set_option maxRecDepth 20000 in
theorem ggX5_load_X3_hasBlock : GoodIn wsX5_load wsX3_hasBlock := goodIn_r _ [8, 9, 88, 89, 90, 91, 92, 93, 94, 95, 96] (by decide +kernel) (by decide +kernel)
set_option maxRecDepth 20000 in
theorem gX5_load_X3_hasBlock_n85 : GoodIn wsX5_load (wsX3_hasBlock) := ggX5_load_X3_hasBlock
set_option maxRecDepth 20000 in
theorem ggX5_load_X5_wayOfLoading : GoodIn wsX5_load wsX5_wayOfLoading := goodIn_r _ [14, 4, 1, 15, 16, 17, 18, 19, 20, 21, 22, 23, 24, 25, 26, 27, 28, 29, 30, 31, 32, 33, 34, 35, 36, 37, 38, 39, 40, 41, 42, 43, 44, 6, 45, 46, 47, 48, 49, 50, 51, 52, 53, 54, 55, 56, 57, 58, 59, 60, 61, 62, 63, 64, 65, 66, 67, 68, 69, 70, 71, 72, 73, 81, 82, 83, 84, 85, 86, 87, 88, 89, 90, 91, 92, 93, 94, 95, 96, 97, 98, 99, 100, 101, 102, 103] (by decide +kernel) (by decide +kernel)
set_option maxRecDepth 20000 in
theorem gX5_load_X5_wayOfLoading : GoodIn wsX5_load (wsV RX5 104 RX5 yX5_wayOfLoading wsX5_wayOfLoading) := goodIn_app (goodIn_of _ (by decide +kernel)) ggX5_load_X5_wayOfLoading
set_option maxRecDepth 20000 in
theorem ggX5_load_X0_bytesBy : GoodIn wsX5_load wsX0_bytesBy := goodIn_r _ [76, 19, 77, 78, 79, 16, 80, 20, 70, 71, 72, 73, 59, 22, 60, 61, 43, 97, 98, 99, 100, 101, 102, 103] (by decide +kernel) (by decide +kernel)
set_option maxRecDepth 20000 in
theorem gX5_load_X0_bytesBy_n117 : GoodIn wsX5_load (wsX0_bytesBy) := ggX5_load_X0_bytesBy
theorem dX5_load_0 : decode cX5_load 0 = .ok (.aload_n 0, 1) := by decide +kernel
theorem dX5_load_1 : decode cX5_load 1 = .ok (.getfield 12, 3) := by decide +kernel
theorem dX5_load_4 : decode cX5_load 4 = .ok (.iload_n 1, 1) := by decide +kernel
theorem dX5_load_5 : decode cX5_load 5 = .ok (.invokevirtual 85, 3) := by decide +kernel
theorem dX5_load_8 : decode cX5_load 8 = .ok (.ifCond .ne 7, 3) := by decide +kernel
theorem dX5_load_11 : decode cX5_load 11 = .ok (.ldc2_w 113, 3) := by decide +kernel
theorem dX5_load_14 : decode cX5_load 14 = .ok (.lreturn, 1) := by decide +kernel
theorem dX5_load_15 : decode cX5_load 15 = .ok (.aload_n 0, 1) := by decide +kernel
theorem dX5_load_16 : decode cX5_load 16 = .ok (.iload_n 1, 1) := by decide +kernel
theorem dX5_load_17 : decode cX5_load 17 = .ok (.invokevirtual 104, 3) := by decide +kernel
theorem dX5_load_20 : decode cX5_load 20 = .ok (.istore_n 2, 1) := by decide +kernel
theorem dX5_load_21 : decode cX5_load 21 = .ok (.iload_n 2, 1) := by decide +kernel
theorem dX5_load_22 : decode cX5_load 22 = .ok (.bipush (-6), 2) := by decide +kernel
theorem dX5_load_24 : decode cX5_load 24 = .ok (.if_icmp .ne 7, 3) := by decide +kernel
theorem dX5_load_27 : decode cX5_load 27 = .ok (.ldc2_w 115, 3) := by decide +kernel
theorem dX5_load_30 : decode cX5_load 30 = .ok (.lreturn, 1) := by decide +kernel
theorem dX5_load_31 : decode cX5_load 31 = .ok (.aload_n 0, 1) := by decide +kernel
theorem dX5_load_32 : decode cX5_load 32 = .ok (.getfield 19, 3) := by decide +kernel
theorem dX5_load_35 : decode cX5_load 35 = .ok (.iload_n 2, 1) := by decide +kernel
theorem dX5_load_36 : decode cX5_load 36 = .ok (.aload_n 0, 1) := by decide +kernel
theorem dX5_load_37 : decode cX5_load 37 = .ok (.getfield 12, 3) := by decide +kernel
theorem dX5_load_40 : decode cX5_load 40 = .ok (.getfield 57, 3) := by decide +kernel
theorem dX5_load_43 : decode cX5_load 43 = .ok (.iconst 1, 1) := by decide +kernel
theorem dX5_load_44 : decode cX5_load 44 = .ok (.iaload, 1) := by decide +kernel
theorem dX5_load_45 : decode cX5_load 45 = .ok (.invokevirtual 117, 3) := by decide +kernel
theorem dX5_load_48 : decode cX5_load 48 = .ok (.lreturn, 1) := by decide +kernel
set_option maxRecDepth 20000 in
theorem ggX5_read_X3_hasBlock : GoodIn wsX5_read wsX3_hasBlock := goodIn_r _ [6, 7, 54, 55, 56, 57, 58, 59, 60, 61, 62] (by decide +kernel) (by decide +kernel)
set_option maxRecDepth 20000 in
theorem gX5_read_X3_hasBlock_n85 : GoodIn wsX5_read (wsX3_hasBlock) := ggX5_read_X3_hasBlock
set_option maxRecDepth 20000 in
theorem ggX5_read_X0_readBlock : GoodIn wsX5_read wsX0_readBlock := goodIn_r _ [11, 12, 13, 14, 15, 16, 17, 18, 19, 20, 21, 22, 23, 24, 25, 26, 27, 28, 29, 30, 31, 32, 33, 34, 35, 36, 37, 4, 38, 39, 40, 54, 55, 56, 57, 58, 59, 60, 61, 62, 63, 64, 65, 66, 67, 68, 69] (by decide +kernel) (by decide +kernel)
set_option maxRecDepth 20000 in
theorem gX5_read_X0_readBlock_n121 : GoodIn wsX5_read (wsX0_readBlock) := ggX5_read_X0_readBlock
set_option maxRecDepth 20000 in
theorem ggX5_read_X4_isLost : GoodIn wsX5_read wsX4_isLost := goodIn_r _ [43, 30, 66, 67, 68, 69] (by decide +kernel) (by decide +kernel)
set_option maxRecDepth 20000 in
theorem gX5_read_X4_isLost_n129 : GoodIn wsX5_read (wsX4_isLost) := ggX5_read_X4_isLost
set_option maxRecDepth 20000 in
theorem ggX5_read_X4_isByteWhole : GoodIn wsX5_read wsX4_isByteWhole := goodIn_r _ [46, 36, 66, 67, 68, 69] (by decide +kernel) (by decide +kernel)
set_option maxRecDepth 20000 in
theorem gX5_read_X4_isByteWhole_n134 : GoodIn wsX5_read (wsX4_isByteWhole) := ggX5_read_X4_isByteWhole
theorem dX5_read_0 : decode cX5_read 0 = .ok (.aload_n 0, 1) := by decide +kernel
theorem dX5_read_1 : decode cX5_read 1 = .ok (.getfield 12, 3) := by decide +kernel
theorem dX5_read_4 : decode cX5_read 4 = .ok (.iload_n 1, 1) := by decide +kernel
theorem dX5_read_5 : decode cX5_read 5 = .ok (.invokevirtual 85, 3) := by decide +kernel
theorem dX5_read_8 : decode cX5_read 8 = .ok (.ifCond .eq 20, 3) := by decide +kernel
theorem dX5_read_11 : decode cX5_read 11 = .ok (.iload_n 3, 1) := by decide +kernel
theorem dX5_read_12 : decode cX5_read 12 = .ok (.ifCond .lt 16, 3) := by decide +kernel
theorem dX5_read_15 : decode cX5_read 15 = .ok (.iload_n 3, 1) := by decide +kernel
theorem dX5_read_16 : decode cX5_read 16 = .ok (.aload_n 0, 1) := by decide +kernel
theorem dX5_read_17 : decode cX5_read 17 = .ok (.getfield 12, 3) := by decide +kernel
theorem dX5_read_20 : decode cX5_read 20 = .ok (.getfield 94, 3) := by decide +kernel
theorem dX5_read_23 : decode cX5_read 23 = .ok (.iload_n 1, 1) := by decide +kernel
theorem dX5_read_24 : decode cX5_read 24 = .ok (.iaload, 1) := by decide +kernel
theorem dX5_read_25 : decode cX5_read 25 = .ok (.if_icmp .le 5, 3) := by decide +kernel
theorem dX5_read_28 : decode cX5_read 28 = .ok (.iconst (-1), 1) := by decide +kernel
theorem dX5_read_29 : decode cX5_read 29 = .ok (.ireturn, 1) := by decide +kernel
theorem dX5_read_30 : decode cX5_read 30 = .ok (.iload_n 2, 1) := by decide +kernel
theorem dX5_read_31 : decode cX5_read 31 = .ok (.ifCond .lt 8, 3) := by decide +kernel
theorem dX5_read_34 : decode cX5_read 34 = .ok (.iload_n 2, 1) := by decide +kernel
theorem dX5_read_35 : decode cX5_read 35 = .ok (.iconst 2, 1) := by decide +kernel
theorem dX5_read_36 : decode cX5_read 36 = .ok (.if_icmp .lt 6, 3) := by decide +kernel
theorem dX5_read_39 : decode cX5_read 39 = .ok (.bipush (-2), 2) := by decide +kernel
theorem dX5_read_41 : decode cX5_read 41 = .ok (.ireturn, 1) := by decide +kernel
theorem dX5_read_42 : decode cX5_read 42 = .ok (.aload_n 0, 1) := by decide +kernel
theorem dX5_read_43 : decode cX5_read 43 = .ok (.getfield 19, 3) := by decide +kernel
theorem dX5_read_46 : decode cX5_read 46 = .ok (.aload_n 0, 1) := by decide +kernel
theorem dX5_read_47 : decode cX5_read 47 = .ok (.getfield 12, 3) := by decide +kernel
theorem dX5_read_50 : decode cX5_read 50 = .ok (.iload_n 1, 1) := by decide +kernel
theorem dX5_read_51 : decode cX5_read 51 = .ok (.invokevirtual 121, 3) := by decide +kernel
theorem dX5_read_54 : decode cX5_read 54 = .ok (.aload_n 0, 1) := by decide +kernel
theorem dX5_read_55 : decode cX5_read 55 = .ok (.getfield 19, 3) := by decide +kernel
theorem dX5_read_58 : decode cX5_read 58 = .ok (.getfield 125, 3) := by decide +kernel
theorem dX5_read_61 : decode cX5_read 61 = .ok (.iload_n 2, 1) := by decide +kernel
theorem dX5_read_62 : decode cX5_read 62 = .ok (.aaload, 1) := by decide +kernel
theorem dX5_read_63 : decode cX5_read 63 = .ok (.astore 4, 2) := by decide +kernel
theorem dX5_read_65 : decode cX5_read 65 = .ok (.aload_n 0, 1) := by decide +kernel
theorem dX5_read_66 : decode cX5_read 66 = .ok (.getfield 12, 3) := by decide +kernel
theorem dX5_read_69 : decode cX5_read 69 = .ok (.getfield 57, 3) := by decide +kernel
theorem dX5_read_72 : decode cX5_read 72 = .ok (.iconst 1, 1) := by decide +kernel
theorem dX5_read_73 : decode cX5_read 73 = .ok (.iaload, 1) := by decide +kernel
theorem dX5_read_74 : decode cX5_read 74 = .ok (.istore 5, 2) := by decide +kernel
theorem dX5_read_76 : decode cX5_read 76 = .ok (.aload 4, 2) := by decide +kernel
theorem dX5_read_78 : decode cX5_read 78 = .ok (.iload 5, 2) := by decide +kernel
theorem dX5_read_80 : decode cX5_read 80 = .ok (.invokevirtual 129, 3) := by decide +kernel
theorem dX5_read_83 : decode cX5_read 83 = .ok (.ifCond .ne 14, 3) := by decide +kernel
theorem dX5_read_86 : decode cX5_read 86 = .ok (.aload 4, 2) := by decide +kernel
theorem dX5_read_88 : decode cX5_read 88 = .ok (.iload_n 3, 1) := by decide +kernel
theorem dX5_read_89 : decode cX5_read 89 = .ok (.iload 5, 2) := by decide +kernel
theorem dX5_read_91 : decode cX5_read 91 = .ok (.invokevirtual 134, 3) := by decide +kernel
theorem dX5_read_94 : decode cX5_read 94 = .ok (.ifCond .ne 6, 3) := by decide +kernel
theorem dX5_read_97 : decode cX5_read 97 = .ok (.bipush (-6), 2) := by decide +kernel
theorem dX5_read_99 : decode cX5_read 99 = .ok (.ireturn, 1) := by decide +kernel
theorem dX5_read_100 : decode cX5_read 100 = .ok (.aload 4, 2) := by decide +kernel
theorem dX5_read_102 : decode cX5_read 102 = .ok (.getfield 138, 3) := by decide +kernel
theorem dX5_read_105 : decode cX5_read 105 = .ok (.iload_n 3, 1) := by decide +kernel
theorem dX5_read_106 : decode cX5_read 106 = .ok (.iaload, 1) := by decide +kernel
theorem dX5_read_107 : decode cX5_read 107 = .ok (.ireturn, 1) := by decide +kernel
set_option maxRecDepth 20000 in
theorem ggX5_cell_X3_hasCell : GoodIn wsX5_cell wsX3_hasCell := goodIn_r _ [5, 6, 7, 8, 3, 9, 10, 11, 41, 42, 43, 44, 45, 46, 47, 48, 49] (by decide +kernel) (by decide +kernel)
set_option maxRecDepth 20000 in
theorem gX5_cell_X3_hasCell_n78 : GoodIn wsX5_cell (wsX3_hasCell) := ggX5_cell_X3_hasCell
set_option maxRecDepth 20000 in
theorem ggX5_cell_X3_bitAt : GoodIn wsX5_cell wsX3_bitAt := goodIn_r _ [14, 10, 15, 16, 17, 18, 19, 3, 20, 11, 21, 22, 23, 24, 25, 26, 27, 28, 29, 41, 42, 43, 44, 45, 46, 47, 48, 49] (by decide +kernel) (by decide +kernel)
set_option maxRecDepth 20000 in
theorem gX5_cell_X3_bitAt_n147 : GoodIn wsX5_cell (wsX3_bitAt) := ggX5_cell_X3_bitAt
set_option maxRecDepth 20000 in
theorem ggX5_cell_X3_blockAt : GoodIn wsX5_cell wsX3_blockAt := goodIn_r _ [20, 11, 10, 41, 42, 43, 44, 45, 46, 47, 48, 49] (by decide +kernel) (by decide +kernel)
set_option maxRecDepth 20000 in
theorem gX5_cell_X3_blockAt_n150 : GoodIn wsX5_cell (wsX3_blockAt) := ggX5_cell_X3_blockAt
set_option maxRecDepth 20000 in
theorem ggX5_cell_X3_partAt : GoodIn wsX5_cell wsX3_partAt := goodIn_r _ [24, 10, 17, 18, 19, 3, 20, 11, 25, 26, 27, 28, 29, 41, 42, 43, 44, 45, 46, 47, 48, 49] (by decide +kernel) (by decide +kernel)
set_option maxRecDepth 20000 in
theorem gX5_cell_X3_partAt_n153 : GoodIn wsX5_cell (wsX3_partAt) := ggX5_cell_X3_partAt
set_option maxRecDepth 20000 in
theorem ggX5_cell_X3_counterOf : GoodIn wsX5_cell wsX3_counterOf := goodIn_r _ [32, 33, 41, 42, 43, 44, 45, 46, 47, 48, 49] (by decide +kernel) (by decide +kernel)
set_option maxRecDepth 20000 in
theorem gX5_cell_X3_counterOf_n110 : GoodIn wsX5_cell (wsX3_counterOf) := ggX5_cell_X3_counterOf
theorem dX5_cell_0 : decode cX5_cell 0 = .ok (.aload_n 0, 1) := by decide +kernel
theorem dX5_cell_1 : decode cX5_cell 1 = .ok (.getfield 12, 3) := by decide +kernel
theorem dX5_cell_4 : decode cX5_cell 4 = .ok (.iload_n 1, 1) := by decide +kernel
theorem dX5_cell_5 : decode cX5_cell 5 = .ok (.invokevirtual 78, 3) := by decide +kernel
theorem dX5_cell_8 : decode cX5_cell 8 = .ok (.ifCond .ne 5, 3) := by decide +kernel
theorem dX5_cell_11 : decode cX5_cell 11 = .ok (.iconst (-1), 1) := by decide +kernel
theorem dX5_cell_12 : decode cX5_cell 12 = .ok (.ireturn, 1) := by decide +kernel
theorem dX5_cell_13 : decode cX5_cell 13 = .ok (.iload_n 2, 1) := by decide +kernel
theorem dX5_cell_14 : decode cX5_cell 14 = .ok (.tableswitch 94 0 5 #[38, 48, 58, 67, 76, 85], 38) := by decide +kernel
theorem dX5_cell_52 : decode cX5_cell 52 = .ok (.aload_n 0, 1) := by decide +kernel
theorem dX5_cell_53 : decode cX5_cell 53 = .ok (.getfield 12, 3) := by decide +kernel
theorem dX5_cell_56 : decode cX5_cell 56 = .ok (.getfield 141, 3) := by decide +kernel
theorem dX5_cell_59 : decode cX5_cell 59 = .ok (.iload_n 1, 1) := by decide +kernel
theorem dX5_cell_60 : decode cX5_cell 60 = .ok (.iaload, 1) := by decide +kernel
theorem dX5_cell_61 : decode cX5_cell 61 = .ok (.ireturn, 1) := by decide +kernel
theorem dX5_cell_62 : decode cX5_cell 62 = .ok (.aload_n 0, 1) := by decide +kernel
theorem dX5_cell_63 : decode cX5_cell 63 = .ok (.getfield 12, 3) := by decide +kernel
theorem dX5_cell_66 : decode cX5_cell 66 = .ok (.getfield 144, 3) := by decide +kernel
theorem dX5_cell_69 : decode cX5_cell 69 = .ok (.iload_n 1, 1) := by decide +kernel
theorem dX5_cell_70 : decode cX5_cell 70 = .ok (.iaload, 1) := by decide +kernel
theorem dX5_cell_71 : decode cX5_cell 71 = .ok (.ireturn, 1) := by decide +kernel
theorem dX5_cell_72 : decode cX5_cell 72 = .ok (.aload_n 0, 1) := by decide +kernel
theorem dX5_cell_73 : decode cX5_cell 73 = .ok (.getfield 12, 3) := by decide +kernel
theorem dX5_cell_76 : decode cX5_cell 76 = .ok (.iload_n 1, 1) := by decide +kernel
theorem dX5_cell_77 : decode cX5_cell 77 = .ok (.invokevirtual 147, 3) := by decide +kernel
theorem dX5_cell_80 : decode cX5_cell 80 = .ok (.ireturn, 1) := by decide +kernel
theorem dX5_cell_81 : decode cX5_cell 81 = .ok (.aload_n 0, 1) := by decide +kernel
theorem dX5_cell_82 : decode cX5_cell 82 = .ok (.getfield 12, 3) := by decide +kernel
theorem dX5_cell_85 : decode cX5_cell 85 = .ok (.iload_n 1, 1) := by decide +kernel
theorem dX5_cell_86 : decode cX5_cell 86 = .ok (.invokevirtual 150, 3) := by decide +kernel
theorem dX5_cell_89 : decode cX5_cell 89 = .ok (.ireturn, 1) := by decide +kernel
theorem dX5_cell_90 : decode cX5_cell 90 = .ok (.aload_n 0, 1) := by decide +kernel
theorem dX5_cell_91 : decode cX5_cell 91 = .ok (.getfield 12, 3) := by decide +kernel
theorem dX5_cell_94 : decode cX5_cell 94 = .ok (.iload_n 1, 1) := by decide +kernel
theorem dX5_cell_95 : decode cX5_cell 95 = .ok (.invokevirtual 153, 3) := by decide +kernel
theorem dX5_cell_98 : decode cX5_cell 98 = .ok (.ireturn, 1) := by decide +kernel
theorem dX5_cell_99 : decode cX5_cell 99 = .ok (.aload_n 0, 1) := by decide +kernel
theorem dX5_cell_100 : decode cX5_cell 100 = .ok (.getfield 12, 3) := by decide +kernel
theorem dX5_cell_103 : decode cX5_cell 103 = .ok (.iload_n 1, 1) := by decide +kernel
theorem dX5_cell_104 : decode cX5_cell 104 = .ok (.invokevirtual 110, 3) := by decide +kernel
theorem dX5_cell_107 : decode cX5_cell 107 = .ok (.ireturn, 1) := by decide +kernel
theorem dX5_cell_108 : decode cX5_cell 108 = .ok (.bipush (-2), 2) := by decide +kernel
theorem dX5_cell_110 : decode cX5_cell 110 = .ok (.ireturn, 1) := by decide +kernel
set_option maxRecDepth 20000 in
theorem ggX5_count_X3_cells : GoodIn wsX5_count wsX3_cells := goodIn_r _ [7, 8, 9, 96, 97, 98, 99, 100, 101, 102, 103, 104] (by decide +kernel) (by decide +kernel)
set_option maxRecDepth 20000 in
theorem gX5_count_X3_cells_n156 : GoodIn wsX5_count (wsX3_cells) := ggX5_count_X3_cells
set_option maxRecDepth 20000 in
theorem ggX5_count_X5_loadedBlocks : GoodIn wsX5_count wsX5_loadedBlocks := goodIn_r _ [14, 1, 15, 16, 17, 13, 18, 19, 20, 21, 22, 23, 24, 25, 26, 27, 28, 29, 30, 31, 32, 33, 34, 35, 36, 37, 38, 39, 40, 41, 42, 43, 44, 45, 46, 47, 48, 49, 5, 50, 51, 52, 53, 54, 55, 56, 57, 58, 59, 60, 61, 62, 63, 64, 65, 66, 67, 68, 69, 70, 71, 72, 73, 74, 75, 76, 77, 78, 89, 90, 91, 92, 93, 94, 95, 96, 97, 98, 99, 100, 101, 102, 103, 104, 119, 120, 121, 122, 123, 124, 125] (by decide +kernel) (by decide +kernel)
set_option maxRecDepth 20000 in
theorem gX5_count_X5_loadedBlocks : GoodIn wsX5_count (wsV RX5 160 RX5 yX5_loadedBlocks wsX5_loadedBlocks) := goodIn_app (goodIn_of _ (by decide +kernel)) ggX5_count_X5_loadedBlocks
set_option maxRecDepth 20000 in
theorem ggX5_count_X3_silentCells : GoodIn wsX5_count wsX3_silentCells := goodIn_r _ [81, 82, 83, 84, 4, 6, 5, 7, 8, 9, 96, 97, 98, 99, 100, 101, 102, 103, 104] (by decide +kernel) (by decide +kernel)
set_option maxRecDepth 20000 in
theorem gX5_count_X3_silentCells_n164 : GoodIn wsX5_count (wsX3_silentCells) := ggX5_count_X3_silentCells
set_option maxRecDepth 20000 in
theorem ggX5_count_X3_badCells : GoodIn wsX5_count wsX3_badCells := goodIn_r _ [87, 88, 84, 4, 6, 5, 7, 8, 9, 96, 97, 98, 99, 100, 101, 102, 103, 104] (by decide +kernel) (by decide +kernel)
set_option maxRecDepth 20000 in
theorem gX5_count_X3_badCells_n167 : GoodIn wsX5_count (wsX3_badCells) := ggX5_count_X3_badCells
theorem dX5_count_0 : decode cX5_count 0 = .ok (.iload_n 1, 1) := by decide +kernel
theorem dX5_count_1 : decode cX5_count 1 = .ok (.tableswitch 149 0 10 #[59, 67, 75, 81, 87, 95, 103, 113, 123, 133, 141], 59) := by decide +kernel
theorem dX5_count_60 : decode cX5_count 60 = .ok (.aload_n 0, 1) := by decide +kernel
theorem dX5_count_61 : decode cX5_count 61 = .ok (.getfield 12, 3) := by decide +kernel
theorem dX5_count_64 : decode cX5_count 64 = .ok (.getfield 68, 3) := by decide +kernel
theorem dX5_count_67 : decode cX5_count 67 = .ok (.ireturn, 1) := by decide +kernel
theorem dX5_count_68 : decode cX5_count 68 = .ok (.aload_n 0, 1) := by decide +kernel
theorem dX5_count_69 : decode cX5_count 69 = .ok (.getfield 12, 3) := by decide +kernel
theorem dX5_count_72 : decode cX5_count 72 = .ok (.invokevirtual 156, 3) := by decide +kernel
theorem dX5_count_75 : decode cX5_count 75 = .ok (.ireturn, 1) := by decide +kernel
theorem dX5_count_76 : decode cX5_count 76 = .ok (.aload_n 0, 1) := by decide +kernel
theorem dX5_count_77 : decode cX5_count 77 = .ok (.iconst 0, 1) := by decide +kernel
theorem dX5_count_78 : decode cX5_count 78 = .ok (.invokevirtual 160, 3) := by decide +kernel
theorem dX5_count_81 : decode cX5_count 81 = .ok (.ireturn, 1) := by decide +kernel
theorem dX5_count_82 : decode cX5_count 82 = .ok (.aload_n 0, 1) := by decide +kernel
theorem dX5_count_83 : decode cX5_count 83 = .ok (.iconst 1, 1) := by decide +kernel
theorem dX5_count_84 : decode cX5_count 84 = .ok (.invokevirtual 160, 3) := by decide +kernel
theorem dX5_count_87 : decode cX5_count 87 = .ok (.ireturn, 1) := by decide +kernel
theorem dX5_count_88 : decode cX5_count 88 = .ok (.aload_n 0, 1) := by decide +kernel
theorem dX5_count_89 : decode cX5_count 89 = .ok (.getfield 12, 3) := by decide +kernel
theorem dX5_count_92 : decode cX5_count 92 = .ok (.invokevirtual 164, 3) := by decide +kernel
theorem dX5_count_95 : decode cX5_count 95 = .ok (.ireturn, 1) := by decide +kernel
theorem dX5_count_96 : decode cX5_count 96 = .ok (.aload_n 0, 1) := by decide +kernel
theorem dX5_count_97 : decode cX5_count 97 = .ok (.getfield 12, 3) := by decide +kernel
theorem dX5_count_100 : decode cX5_count 100 = .ok (.invokevirtual 167, 3) := by decide +kernel
theorem dX5_count_103 : decode cX5_count 103 = .ok (.ireturn, 1) := by decide +kernel
theorem dX5_count_104 : decode cX5_count 104 = .ok (.aload_n 0, 1) := by decide +kernel
theorem dX5_count_105 : decode cX5_count 105 = .ok (.getfield 12, 3) := by decide +kernel
theorem dX5_count_108 : decode cX5_count 108 = .ok (.getfield 57, 3) := by decide +kernel
theorem dX5_count_111 : decode cX5_count 111 = .ok (.iconst 0, 1) := by decide +kernel
theorem dX5_count_112 : decode cX5_count 112 = .ok (.iaload, 1) := by decide +kernel
theorem dX5_count_113 : decode cX5_count 113 = .ok (.ireturn, 1) := by decide +kernel
theorem dX5_count_114 : decode cX5_count 114 = .ok (.aload_n 0, 1) := by decide +kernel
theorem dX5_count_115 : decode cX5_count 115 = .ok (.getfield 12, 3) := by decide +kernel
theorem dX5_count_118 : decode cX5_count 118 = .ok (.getfield 57, 3) := by decide +kernel
theorem dX5_count_121 : decode cX5_count 121 = .ok (.iconst 1, 1) := by decide +kernel
theorem dX5_count_122 : decode cX5_count 122 = .ok (.iaload, 1) := by decide +kernel
theorem dX5_count_123 : decode cX5_count 123 = .ok (.ireturn, 1) := by decide +kernel
theorem dX5_count_124 : decode cX5_count 124 = .ok (.aload_n 0, 1) := by decide +kernel
theorem dX5_count_125 : decode cX5_count 125 = .ok (.getfield 12, 3) := by decide +kernel
theorem dX5_count_128 : decode cX5_count 128 = .ok (.getfield 57, 3) := by decide +kernel
theorem dX5_count_131 : decode cX5_count 131 = .ok (.iconst 2, 1) := by decide +kernel
theorem dX5_count_132 : decode cX5_count 132 = .ok (.iaload, 1) := by decide +kernel
theorem dX5_count_133 : decode cX5_count 133 = .ok (.ireturn, 1) := by decide +kernel
theorem dX5_count_134 : decode cX5_count 134 = .ok (.aload_n 0, 1) := by decide +kernel
theorem dX5_count_135 : decode cX5_count 135 = .ok (.getfield 26, 3) := by decide +kernel
theorem dX5_count_138 : decode cX5_count 138 = .ok (.getfield 170, 3) := by decide +kernel
theorem dX5_count_141 : decode cX5_count 141 = .ok (.ireturn, 1) := by decide +kernel
theorem dX5_count_142 : decode cX5_count 142 = .ok (.aload_n 0, 1) := by decide +kernel
theorem dX5_count_143 : decode cX5_count 143 = .ok (.getfield 33, 3) := by decide +kernel
theorem dX5_count_146 : decode cX5_count 146 = .ok (.getfield 173, 3) := by decide +kernel
theorem dX5_count_149 : decode cX5_count 149 = .ok (.ireturn, 1) := by decide +kernel
theorem dX5_count_150 : decode cX5_count 150 = .ok (.bipush (-2), 2) := by decide +kernel
theorem dX5_count_152 : decode cX5_count 152 = .ok (.ireturn, 1) := by decide +kernel
set_option maxRecDepth 20000 in
theorem ggX5_reached_X5_holds : GoodIn wsX5_reached wsX5_holds := goodIn_r _ [5] (by decide +kernel) (by decide +kernel)
set_option maxRecDepth 20000 in
theorem gX5_reached_X5_holds : GoodIn wsX5_reached (va_wsS RX5 176 yX5_holds wsX5_holds) := goodIn_app (goodIn_of _ (by decide +kernel)) ggX5_reached_X5_holds
set_option maxRecDepth 20000 in
theorem ggX5_reached_X5_wayOfLoading : GoodIn wsX5_reached wsX5_wayOfLoading := goodIn_r _ [9, 10, 1, 11, 12, 13, 14, 15, 16, 17, 18, 19, 20, 21, 22, 23, 24, 25, 26, 27, 28, 29, 30, 31, 32, 33, 34, 35, 36, 37, 38, 39, 40, 41, 42, 43, 44, 45, 46, 47, 48, 49, 50, 51, 52, 53, 54, 55, 56, 57, 58, 59, 60, 61, 62, 63, 64, 65, 66, 67, 68, 69, 70, 71, 72, 73, 74, 75, 76, 77, 78, 79, 80, 81, 82, 83, 84, 85, 86, 87, 88, 89, 90, 91, 92, 93] (by decide +kernel) (by decide +kernel)
set_option maxRecDepth 20000 in
theorem gX5_reached_X5_wayOfLoading : GoodIn wsX5_reached (wsV RX5 104 RX5 yX5_wayOfLoading wsX5_wayOfLoading) := goodIn_app (goodIn_of _ (by decide +kernel)) ggX5_reached_X5_wayOfLoading
theorem dX5_reached_0 : decode cX5_reached 0 = .ok (.iconst 0, 1) := by decide +kernel
theorem dX5_reached_1 : decode cX5_reached 1 = .ok (.istore_n 1, 1) := by decide +kernel
theorem dX5_reached_2 : decode cX5_reached 2 = .ok (.iconst 0, 1) := by decide +kernel
theorem dX5_reached_3 : decode cX5_reached 3 = .ok (.istore_n 2, 1) := by decide +kernel
theorem dX5_reached_4 : decode cX5_reached 4 = .ok (.iload_n 2, 1) := by decide +kernel
theorem dX5_reached_5 : decode cX5_reached 5 = .ok (.aload_n 0, 1) := by decide +kernel
theorem dX5_reached_6 : decode cX5_reached 6 = .ok (.getfield 12, 3) := by decide +kernel
theorem dX5_reached_9 : decode cX5_reached 9 = .ok (.getfield 68, 3) := by decide +kernel
theorem dX5_reached_12 : decode cX5_reached 12 = .ok (.if_icmp .ge 49, 3) := by decide +kernel
theorem dX5_reached_15 : decode cX5_reached 15 = .ok (.aload_n 0, 1) := by decide +kernel
theorem dX5_reached_16 : decode cX5_reached 16 = .ok (.getfield 12, 3) := by decide +kernel
theorem dX5_reached_19 : decode cX5_reached 19 = .ok (.getfield 91, 3) := by decide +kernel
theorem dX5_reached_22 : decode cX5_reached 22 = .ok (.iload_n 2, 1) := by decide +kernel
theorem dX5_reached_23 : decode cX5_reached 23 = .ok (.iaload, 1) := by decide +kernel
theorem dX5_reached_24 : decode cX5_reached 24 = .ok (.istore_n 3, 1) := by decide +kernel
theorem dX5_reached_25 : decode cX5_reached 25 = .ok (.iload_n 3, 1) := by decide +kernel
theorem dX5_reached_26 : decode cX5_reached 26 = .ok (.bipush (-6), 2) := by decide +kernel
theorem dX5_reached_28 : decode cX5_reached 28 = .ok (.if_icmp .eq 11, 3) := by decide +kernel
theorem dX5_reached_31 : decode cX5_reached 31 = .ok (.iload_n 1, 1) := by decide +kernel
theorem dX5_reached_32 : decode cX5_reached 32 = .ok (.iload_n 3, 1) := by decide +kernel
theorem dX5_reached_33 : decode cX5_reached 33 = .ok (.invokestatic 176, 3) := by decide +kernel
theorem dX5_reached_36 : decode cX5_reached 36 = .ok (.ifCond .eq 19, 3) := by decide +kernel
theorem dX5_reached_39 : decode cX5_reached 39 = .ok (.aload_n 0, 1) := by decide +kernel
theorem dX5_reached_40 : decode cX5_reached 40 = .ok (.iload_n 2, 1) := by decide +kernel
theorem dX5_reached_41 : decode cX5_reached 41 = .ok (.invokevirtual 104, 3) := by decide +kernel
theorem dX5_reached_44 : decode cX5_reached 44 = .ok (.bipush (-6), 2) := by decide +kernel
theorem dX5_reached_46 : decode cX5_reached 46 = .ok (.if_icmp .eq 9, 3) := by decide +kernel
theorem dX5_reached_49 : decode cX5_reached 49 = .ok (.iload_n 1, 1) := by decide +kernel
theorem dX5_reached_50 : decode cX5_reached 50 = .ok (.iconst 1, 1) := by decide +kernel
theorem dX5_reached_51 : decode cX5_reached 51 = .ok (.iload_n 2, 1) := by decide +kernel
theorem dX5_reached_52 : decode cX5_reached 52 = .ok (.ishl, 1) := by decide +kernel
theorem dX5_reached_53 : decode cX5_reached 53 = .ok (.ior, 1) := by decide +kernel
theorem dX5_reached_54 : decode cX5_reached 54 = .ok (.istore_n 1, 1) := by decide +kernel
theorem dX5_reached_55 : decode cX5_reached 55 = .ok (.iinc 2 1, 3) := by decide +kernel
theorem dX5_reached_58 : decode cX5_reached 58 = .ok (.goto (-54), 3) := by decide +kernel
theorem dX5_reached_61 : decode cX5_reached 61 = .ok (.iload_n 1, 1) := by decide +kernel
theorem dX5_reached_62 : decode cX5_reached 62 = .ok (.ireturn, 1) := by decide +kernel
set_option maxRecDepth 20000 in
theorem ggX5_near_X3_nearerBlocks : GoodIn wsX5_near wsX3_nearerBlocks := goodIn_r _ [5, 6, 7, 8, 9, 3, 10, 11, 12, 13, 14, 15, 16, 17, 18, 19, 20, 21, 22, 23, 31, 32, 33, 34, 35, 36, 37, 38, 39] (by decide +kernel) (by decide +kernel)
set_option maxRecDepth 20000 in
theorem gX5_near_X3_nearerBlocks_n179 : GoodIn wsX5_near (wsX3_nearerBlocks) := ggX5_near_X3_nearerBlocks
theorem dX5_near_0 : decode cX5_near 0 = .ok (.iload_n 2, 1) := by decide +kernel
theorem dX5_near_1 : decode cX5_near 1 = .ok (.ifCond .lt 14, 3) := by decide +kernel
theorem dX5_near_4 : decode cX5_near 4 = .ok (.iload_n 2, 1) := by decide +kernel
theorem dX5_near_5 : decode cX5_near 5 = .ok (.aload_n 0, 1) := by decide +kernel
theorem dX5_near_6 : decode cX5_near 6 = .ok (.getfield 12, 3) := by decide +kernel
theorem dX5_near_9 : decode cX5_near 9 = .ok (.getfield 68, 3) := by decide +kernel
theorem dX5_near_12 : decode cX5_near 12 = .ok (.if_icmp .lt 5, 3) := by decide +kernel
theorem dX5_near_15 : decode cX5_near 15 = .ok (.iconst (-1), 1) := by decide +kernel
theorem dX5_near_16 : decode cX5_near 16 = .ok (.ireturn, 1) := by decide +kernel
theorem dX5_near_17 : decode cX5_near 17 = .ok (.iload_n 1, 1) := by decide +kernel
theorem dX5_near_18 : decode cX5_near 18 = .ok (.ifCond .lt 10, 3) := by decide +kernel
theorem dX5_near_21 : decode cX5_near 21 = .ok (.iload_n 1, 1) := by decide +kernel
theorem dX5_near_22 : decode cX5_near 22 = .ok (.sipush 1000, 3) := by decide +kernel
theorem dX5_near_25 : decode cX5_near 25 = .ok (.if_icmp .lt 6, 3) := by decide +kernel
theorem dX5_near_28 : decode cX5_near 28 = .ok (.bipush (-2), 2) := by decide +kernel
theorem dX5_near_30 : decode cX5_near 30 = .ok (.ireturn, 1) := by decide +kernel
theorem dX5_near_31 : decode cX5_near 31 = .ok (.iconst 0, 1) := by decide +kernel
theorem dX5_near_32 : decode cX5_near 32 = .ok (.istore_n 3, 1) := by decide +kernel
theorem dX5_near_33 : decode cX5_near 33 = .ok (.iload_n 3, 1) := by decide +kernel
theorem dX5_near_34 : decode cX5_near 34 = .ok (.aload_n 0, 1) := by decide +kernel
theorem dX5_near_35 : decode cX5_near 35 = .ok (.getfield 12, 3) := by decide +kernel
theorem dX5_near_38 : decode cX5_near 38 = .ok (.getfield 68, 3) := by decide +kernel
theorem dX5_near_41 : decode cX5_near 41 = .ok (.if_icmp .ge 24, 3) := by decide +kernel
theorem dX5_near_44 : decode cX5_near 44 = .ok (.aload_n 0, 1) := by decide +kernel
theorem dX5_near_45 : decode cX5_near 45 = .ok (.getfield 12, 3) := by decide +kernel
theorem dX5_near_48 : decode cX5_near 48 = .ok (.iload_n 3, 1) := by decide +kernel
theorem dX5_near_49 : decode cX5_near 49 = .ok (.iload_n 1, 1) := by decide +kernel
theorem dX5_near_50 : decode cX5_near 50 = .ok (.invokevirtual 179, 3) := by decide +kernel
theorem dX5_near_53 : decode cX5_near 53 = .ok (.iload_n 2, 1) := by decide +kernel
theorem dX5_near_54 : decode cX5_near 54 = .ok (.if_icmp .ne 5, 3) := by decide +kernel
theorem dX5_near_57 : decode cX5_near 57 = .ok (.iload_n 3, 1) := by decide +kernel
theorem dX5_near_58 : decode cX5_near 58 = .ok (.ireturn, 1) := by decide +kernel
theorem dX5_near_59 : decode cX5_near 59 = .ok (.iinc 3 1, 3) := by decide +kernel
theorem dX5_near_62 : decode cX5_near 62 = .ok (.goto (-29), 3) := by decide +kernel
theorem dX5_near_65 : decode cX5_near 65 = .ok (.iconst (-1), 1) := by decide +kernel
theorem dX5_near_66 : decode cX5_near 66 = .ok (.ireturn, 1) := by decide +kernel
set_option maxRecDepth 20000 in
theorem ggX5_mostLeast_X3_hasBlock : GoodIn wsX5_mostLeast wsX3_hasBlock := goodIn_r _ [6, 7, 74, 75, 76, 77, 78, 79, 80, 81, 82] (by decide +kernel) (by decide +kernel)
set_option maxRecDepth 20000 in
theorem gX5_mostLeast_X3_hasBlock_n85 : GoodIn wsX5_mostLeast (wsX3_hasBlock) := ggX5_mostLeast_X3_hasBlock
set_option maxRecDepth 20000 in
theorem ggX5_mostLeast_X0_readBlock : GoodIn wsX5_mostLeast wsX0_readBlock := goodIn_r _ [11, 12, 13, 14, 15, 16, 17, 18, 19, 20, 21, 22, 23, 24, 25, 26, 27, 28, 29, 30, 31, 32, 33, 34, 35, 36, 37, 4, 38, 39, 40, 74, 75, 76, 77, 78, 79, 80, 81, 82, 83, 84, 85, 86, 87, 88, 89] (by decide +kernel) (by decide +kernel)
set_option maxRecDepth 20000 in
theorem gX5_mostLeast_X0_readBlock_n121 : GoodIn wsX5_mostLeast (wsX0_readBlock) := ggX5_mostLeast_X0_readBlock
set_option maxRecDepth 20000 in
theorem ggX5_mostLeast_X0_wayBy : GoodIn wsX5_mostLeast wsX0_wayBy := goodIn_r _ [43, 12, 13, 44, 15, 45, 46, 18, 35, 47, 48, 49, 50, 30, 51, 52, 53, 54, 36, 55, 56, 57, 58, 59, 60, 61, 9, 62, 63, 64, 65, 66, 83, 84, 85, 86, 87, 88, 89] (by decide +kernel) (by decide +kernel)
set_option maxRecDepth 20000 in
theorem gX5_mostLeast_X0_wayBy_n182 : GoodIn wsX5_mostLeast (wsX0_wayBy) := ggX5_mostLeast_X0_wayBy
theorem dX5_mostLeast_0 : decode cX5_mostLeast 0 = .ok (.aload_n 0, 1) := by decide +kernel
theorem dX5_mostLeast_1 : decode cX5_mostLeast 1 = .ok (.getfield 12, 3) := by decide +kernel
theorem dX5_mostLeast_4 : decode cX5_mostLeast 4 = .ok (.iload_n 1, 1) := by decide +kernel
theorem dX5_mostLeast_5 : decode cX5_mostLeast 5 = .ok (.invokevirtual 85, 3) := by decide +kernel
theorem dX5_mostLeast_8 : decode cX5_mostLeast 8 = .ok (.ifCond .ne 5, 3) := by decide +kernel
theorem dX5_mostLeast_11 : decode cX5_mostLeast 11 = .ok (.iconst (-1), 1) := by decide +kernel
theorem dX5_mostLeast_12 : decode cX5_mostLeast 12 = .ok (.ireturn, 1) := by decide +kernel
theorem dX5_mostLeast_13 : decode cX5_mostLeast 13 = .ok (.aload_n 0, 1) := by decide +kernel
theorem dX5_mostLeast_14 : decode cX5_mostLeast 14 = .ok (.getfield 19, 3) := by decide +kernel
theorem dX5_mostLeast_17 : decode cX5_mostLeast 17 = .ok (.aload_n 0, 1) := by decide +kernel
theorem dX5_mostLeast_18 : decode cX5_mostLeast 18 = .ok (.getfield 12, 3) := by decide +kernel
theorem dX5_mostLeast_21 : decode cX5_mostLeast 21 = .ok (.iload_n 1, 1) := by decide +kernel
theorem dX5_mostLeast_22 : decode cX5_mostLeast 22 = .ok (.invokevirtual 121, 3) := by decide +kernel
theorem dX5_mostLeast_25 : decode cX5_mostLeast 25 = .ok (.bipush 99, 2) := by decide +kernel
theorem dX5_mostLeast_27 : decode cX5_mostLeast 27 = .ok (.istore_n 2, 1) := by decide +kernel
theorem dX5_mostLeast_28 : decode cX5_mostLeast 28 = .ok (.iload_n 2, 1) := by decide +kernel
theorem dX5_mostLeast_29 : decode cX5_mostLeast 29 = .ok (.ifCond .lt 24, 3) := by decide +kernel
theorem dX5_mostLeast_32 : decode cX5_mostLeast 32 = .ok (.aload_n 0, 1) := by decide +kernel
theorem dX5_mostLeast_33 : decode cX5_mostLeast 33 = .ok (.getfield 19, 3) := by decide +kernel
theorem dX5_mostLeast_36 : decode cX5_mostLeast 36 = .ok (.iload_n 2, 1) := by decide +kernel
theorem dX5_mostLeast_37 : decode cX5_mostLeast 37 = .ok (.invokevirtual 182, 3) := by decide +kernel
theorem dX5_mostLeast_40 : decode cX5_mostLeast 40 = .ok (.bipush (-6), 2) := by decide +kernel
theorem dX5_mostLeast_42 : decode cX5_mostLeast 42 = .ok (.if_icmp .eq 5, 3) := by decide +kernel
theorem dX5_mostLeast_45 : decode cX5_mostLeast 45 = .ok (.iload_n 2, 1) := by decide +kernel
theorem dX5_mostLeast_46 : decode cX5_mostLeast 46 = .ok (.ireturn, 1) := by decide +kernel
theorem dX5_mostLeast_47 : decode cX5_mostLeast 47 = .ok (.iinc 2 (-1), 3) := by decide +kernel
theorem dX5_mostLeast_50 : decode cX5_mostLeast 50 = .ok (.goto (-22), 3) := by decide +kernel
theorem dX5_mostLeast_53 : decode cX5_mostLeast 53 = .ok (.bipush (-6), 2) := by decide +kernel
theorem dX5_mostLeast_55 : decode cX5_mostLeast 55 = .ok (.ireturn, 1) := by decide +kernel
set_option maxRecDepth 20000 in
theorem ggX5_weak_X3_hasBlock : GoodIn wsX5_weak wsX3_hasBlock := goodIn_r _ [5, 6, 68, 69, 70, 71, 72, 73, 74, 75, 76] (by decide +kernel) (by decide +kernel)
set_option maxRecDepth 20000 in
theorem gX5_weak_X3_hasBlock_n85 : GoodIn wsX5_weak (wsX3_hasBlock) := ggX5_weak_X3_hasBlock
set_option maxRecDepth 20000 in
theorem ggX5_weak_X5_stateOfTelling : GoodIn wsX5_weak wsX5_stateOfTelling := goodIn_r _ [11, 12, 1, 13, 14, 15, 16, 17, 18, 19, 20, 21, 22, 23, 24, 25, 26, 27, 28, 29, 30, 31, 32, 33, 34, 35, 36, 37, 38, 39, 40, 41, 42, 3, 43, 44, 45, 46, 47, 48, 49, 50, 51, 52, 53, 54, 55, 56, 57, 58, 59, 60, 61, 62, 63, 64, 65, 66, 67, 77, 78, 79, 68, 69, 70, 71, 72, 73, 74, 75, 76, 80, 81, 82, 83] (by decide +kernel) (by decide +kernel)
set_option maxRecDepth 20000 in
theorem gX5_weak_X5_stateOfTelling : GoodIn wsX5_weak (wsV RX5 100 RX5 yX5_stateOfTelling wsX5_stateOfTelling) := goodIn_app (goodIn_of _ (by decide +kernel)) ggX5_weak_X5_stateOfTelling
set_option maxRecDepth 20000 in
theorem ggX5_weak_X3_tellingCells : GoodIn wsX5_weak wsX3_tellingCells := goodIn_r _ [44, 45, 68, 69, 70, 71, 72, 73, 74, 75, 76] (by decide +kernel) (by decide +kernel)
set_option maxRecDepth 20000 in
theorem gX5_weak_X3_tellingCells_n185 : GoodIn wsX5_weak (wsX3_tellingCells) := ggX5_weak_X3_tellingCells
theorem dX5_weak_0 : decode cX5_weak 0 = .ok (.aload_n 0, 1) := by decide +kernel
theorem dX5_weak_1 : decode cX5_weak 1 = .ok (.getfield 12, 3) := by decide +kernel
theorem dX5_weak_4 : decode cX5_weak 4 = .ok (.iload_n 1, 1) := by decide +kernel
theorem dX5_weak_5 : decode cX5_weak 5 = .ok (.invokevirtual 85, 3) := by decide +kernel
theorem dX5_weak_8 : decode cX5_weak 8 = .ok (.ifCond .ne 5, 3) := by decide +kernel
theorem dX5_weak_11 : decode cX5_weak 11 = .ok (.iconst (-1), 1) := by decide +kernel
theorem dX5_weak_12 : decode cX5_weak 12 = .ok (.ireturn, 1) := by decide +kernel
theorem dX5_weak_13 : decode cX5_weak 13 = .ok (.iload_n 2, 1) := by decide +kernel
theorem dX5_weak_14 : decode cX5_weak 14 = .ok (.ifCond .lt 8, 3) := by decide +kernel
theorem dX5_weak_17 : decode cX5_weak 17 = .ok (.iload_n 2, 1) := by decide +kernel
theorem dX5_weak_18 : decode cX5_weak 18 = .ok (.iconst 2, 1) := by decide +kernel
theorem dX5_weak_19 : decode cX5_weak 19 = .ok (.if_icmp .lt 6, 3) := by decide +kernel
theorem dX5_weak_22 : decode cX5_weak 22 = .ok (.bipush (-2), 2) := by decide +kernel
theorem dX5_weak_24 : decode cX5_weak 24 = .ok (.ireturn, 1) := by decide +kernel
theorem dX5_weak_25 : decode cX5_weak 25 = .ok (.aload_n 0, 1) := by decide +kernel
theorem dX5_weak_26 : decode cX5_weak 26 = .ok (.iload_n 1, 1) := by decide +kernel
theorem dX5_weak_27 : decode cX5_weak 27 = .ok (.iload_n 2, 1) := by decide +kernel
theorem dX5_weak_28 : decode cX5_weak 28 = .ok (.invokevirtual 100, 3) := by decide +kernel
theorem dX5_weak_31 : decode cX5_weak 31 = .ok (.ifCond .eq 6, 3) := by decide +kernel
theorem dX5_weak_34 : decode cX5_weak 34 = .ok (.bipush (-5), 2) := by decide +kernel
theorem dX5_weak_36 : decode cX5_weak 36 = .ok (.ireturn, 1) := by decide +kernel
theorem dX5_weak_37 : decode cX5_weak 37 = .ok (.aload_n 0, 1) := by decide +kernel
theorem dX5_weak_38 : decode cX5_weak 38 = .ok (.getfield 12, 3) := by decide +kernel
theorem dX5_weak_41 : decode cX5_weak 41 = .ok (.iload_n 1, 1) := by decide +kernel
theorem dX5_weak_42 : decode cX5_weak 42 = .ok (.invokevirtual 185, 3) := by decide +kernel
theorem dX5_weak_45 : decode cX5_weak 45 = .ok (.iconst 4, 1) := by decide +kernel
theorem dX5_weak_46 : decode cX5_weak 46 = .ok (.isub, 1) := by decide +kernel
theorem dX5_weak_47 : decode cX5_weak 47 = .ok (.ireturn, 1) := by decide +kernel
set_option maxRecDepth 20000 in
theorem ggX5_widest_X5_reached : GoodIn wsX5_widest wsX5_reached := goodIn_r _ [7, 1, 8, 9, 6, 10, 11, 12, 13, 14, 15, 16, 17, 18, 19, 20, 21, 22, 23, 24, 25, 26, 27, 28, 29, 30, 31, 32, 33, 34, 35, 36, 37, 38, 39, 40, 41, 42, 43, 44, 45, 46, 47, 48, 49, 50, 51, 52, 53, 54, 55, 56, 57, 58, 59, 60, 61, 62, 63, 64, 65, 66, 67, 68, 69, 70, 71, 72, 73, 74, 75, 80, 81, 82, 83, 84, 85, 86, 87, 88, 89, 90, 91, 92, 93, 94, 95, 96, 97, 98, 99, 100, 101, 102] (by decide +kernel) (by decide +kernel)
set_option maxRecDepth 20000 in
theorem gX5_widest_X5_reached : GoodIn wsX5_widest (wsV RX5 188 RX5 yX5_reached wsX5_reached) := goodIn_app (goodIn_of _ (by decide +kernel)) ggX5_widest_X5_reached
set_option maxRecDepth 20000 in
theorem ggX5_widest_X5_countBelow : GoodIn wsX5_widest wsX5_countBelow := goodIn_r _ [79, 2, 1, 8, 9, 6, 10, 80, 81, 82, 83, 84, 85, 86, 87, 88, 89, 90, 91, 92, 93, 94, 95] (by decide +kernel) (by decide +kernel)
set_option maxRecDepth 20000 in
theorem gX5_widest_X5_countBelow : GoodIn wsX5_widest (wsV RX5 191 RX5 yX5_countBelow wsX5_countBelow) := goodIn_app (goodIn_of _ (by decide +kernel)) ggX5_widest_X5_countBelow
set_option maxRecDepth 20000 in
theorem ggX5_widest_X5_holds : GoodIn wsX5_widest wsX5_holds := goodIn_r _ [10] (by decide +kernel) (by decide +kernel)
set_option maxRecDepth 20000 in
theorem gX5_widest_X5_holds : GoodIn wsX5_widest (va_wsS RX5 176 yX5_holds wsX5_holds) := goodIn_app (goodIn_of _ (by decide +kernel)) ggX5_widest_X5_holds
theorem dX5_widest_0 : decode cX5_widest 0 = .ok (.iload_n 1, 1) := by decide +kernel
theorem dX5_widest_1 : decode cX5_widest 1 = .ok (.ifCond .eq 11, 3) := by decide +kernel
theorem dX5_widest_4 : decode cX5_widest 4 = .ok (.iload_n 1, 1) := by decide +kernel
theorem dX5_widest_5 : decode cX5_widest 5 = .ok (.iconst 1, 1) := by decide +kernel
theorem dX5_widest_6 : decode cX5_widest 6 = .ok (.if_icmp .eq 6, 3) := by decide +kernel
theorem dX5_widest_9 : decode cX5_widest 9 = .ok (.bipush (-2), 2) := by decide +kernel
theorem dX5_widest_11 : decode cX5_widest 11 = .ok (.ireturn, 1) := by decide +kernel
theorem dX5_widest_12 : decode cX5_widest 12 = .ok (.aload_n 0, 1) := by decide +kernel
theorem dX5_widest_13 : decode cX5_widest 13 = .ok (.invokevirtual 188, 3) := by decide +kernel
theorem dX5_widest_16 : decode cX5_widest 16 = .ok (.istore_n 2, 1) := by decide +kernel
theorem dX5_widest_17 : decode cX5_widest 17 = .ok (.iload_n 2, 1) := by decide +kernel
theorem dX5_widest_18 : decode cX5_widest 18 = .ok (.ifCond .ne 6, 3) := by decide +kernel
theorem dX5_widest_21 : decode cX5_widest 21 = .ok (.bipush (-6), 2) := by decide +kernel
theorem dX5_widest_23 : decode cX5_widest 23 = .ok (.ireturn, 1) := by decide +kernel
theorem dX5_widest_24 : decode cX5_widest 24 = .ok (.aload_n 0, 1) := by decide +kernel
theorem dX5_widest_25 : decode cX5_widest 25 = .ok (.iload_n 2, 1) := by decide +kernel
theorem dX5_widest_26 : decode cX5_widest 26 = .ok (.invokevirtual 191, 3) := by decide +kernel
theorem dX5_widest_29 : decode cX5_widest 29 = .ok (.bipush (-6), 2) := by decide +kernel
theorem dX5_widest_31 : decode cX5_widest 31 = .ok (.istore_n 3, 1) := by decide +kernel
theorem dX5_widest_32 : decode cX5_widest 32 = .ok (.iconst 0, 1) := by decide +kernel
theorem dX5_widest_33 : decode cX5_widest 33 = .ok (.istore 4, 2) := by decide +kernel
theorem dX5_widest_35 : decode cX5_widest 35 = .ok (.iload 4, 2) := by decide +kernel
theorem dX5_widest_37 : decode cX5_widest 37 = .ok (.aload_n 0, 1) := by decide +kernel
theorem dX5_widest_38 : decode cX5_widest 38 = .ok (.getfield 12, 3) := by decide +kernel
theorem dX5_widest_41 : decode cX5_widest 41 = .ok (.getfield 68, 3) := by decide +kernel
theorem dX5_widest_44 : decode cX5_widest 44 = .ok (.if_icmp .ge 41, 3) := by decide +kernel
theorem dX5_widest_47 : decode cX5_widest 47 = .ok (.iload_n 2, 1) := by decide +kernel
theorem dX5_widest_48 : decode cX5_widest 48 = .ok (.iload 4, 2) := by decide +kernel
theorem dX5_widest_50 : decode cX5_widest 50 = .ok (.invokestatic 176, 3) := by decide +kernel
theorem dX5_widest_53 : decode cX5_widest 53 = .ok (.ifCond .eq 26, 3) := by decide +kernel
theorem dX5_widest_56 : decode cX5_widest 56 = .ok (.iload_n 3, 1) := by decide +kernel
theorem dX5_widest_57 : decode cX5_widest 57 = .ok (.ifCond .lt 19, 3) := by decide +kernel
theorem dX5_widest_60 : decode cX5_widest 60 = .ok (.aload_n 0, 1) := by decide +kernel
theorem dX5_widest_61 : decode cX5_widest 61 = .ok (.getfield 45, 3) := by decide +kernel
theorem dX5_widest_64 : decode cX5_widest 64 = .ok (.iload 4, 2) := by decide +kernel
theorem dX5_widest_66 : decode cX5_widest 66 = .ok (.iaload, 1) := by decide +kernel
theorem dX5_widest_67 : decode cX5_widest 67 = .ok (.aload_n 0, 1) := by decide +kernel
theorem dX5_widest_68 : decode cX5_widest 68 = .ok (.getfield 45, 3) := by decide +kernel
theorem dX5_widest_71 : decode cX5_widest 71 = .ok (.iload_n 3, 1) := by decide +kernel
theorem dX5_widest_72 : decode cX5_widest 72 = .ok (.iaload, 1) := by decide +kernel
theorem dX5_widest_73 : decode cX5_widest 73 = .ok (.if_icmp .le 6, 3) := by decide +kernel
theorem dX5_widest_76 : decode cX5_widest 76 = .ok (.iload 4, 2) := by decide +kernel
theorem dX5_widest_78 : decode cX5_widest 78 = .ok (.istore_n 3, 1) := by decide +kernel
theorem dX5_widest_79 : decode cX5_widest 79 = .ok (.iinc 4 1, 3) := by decide +kernel
theorem dX5_widest_82 : decode cX5_widest 82 = .ok (.goto (-47), 3) := by decide +kernel
theorem dX5_widest_85 : decode cX5_widest 85 = .ok (.iload_n 3, 1) := by decide +kernel
theorem dX5_widest_86 : decode cX5_widest 86 = .ok (.ifCond .ge 6, 3) := by decide +kernel
theorem dX5_widest_89 : decode cX5_widest 89 = .ok (.bipush (-6), 2) := by decide +kernel
theorem dX5_widest_91 : decode cX5_widest 91 = .ok (.ireturn, 1) := by decide +kernel
theorem dX5_widest_92 : decode cX5_widest 92 = .ok (.iload_n 1, 1) := by decide +kernel
theorem dX5_widest_93 : decode cX5_widest 93 = .ok (.ifCond .ne 7, 3) := by decide +kernel
theorem dX5_widest_96 : decode cX5_widest 96 = .ok (.iload_n 3, 1) := by decide +kernel
theorem dX5_widest_97 : decode cX5_widest 97 = .ok (.goto 9, 3) := by decide +kernel
theorem dX5_widest_100 : decode cX5_widest 100 = .ok (.aload_n 0, 1) := by decide +kernel
theorem dX5_widest_101 : decode cX5_widest 101 = .ok (.getfield 45, 3) := by decide +kernel
theorem dX5_widest_104 : decode cX5_widest 104 = .ok (.iload_n 3, 1) := by decide +kernel
theorem dX5_widest_105 : decode cX5_widest 105 = .ok (.iaload, 1) := by decide +kernel
theorem dX5_widest_106 : decode cX5_widest 106 = .ok (.ireturn, 1) := by decide +kernel
set_option maxRecDepth 20000 in
theorem ggX5_put_X2_charactersIn : GoodIn wsX5_put wsX2_charactersIn := goodIn_r _ [5] (by decide +kernel) (by decide +kernel)
set_option maxRecDepth 20000 in
theorem gX5_put_X2_charactersIn_n195 : GoodIn wsX5_put (wsX2_charactersIn) := ggX5_put_X2_charactersIn
set_option maxRecDepth 20000 in
theorem ggX5_put_X2_append : GoodIn wsX5_put wsX2_append := goodIn_r _ [8, 9, 10, 18, 19, 20, 21, 22, 23, 24, 25, 26, 27, 28] (by decide +kernel) (by decide +kernel)
set_option maxRecDepth 20000 in
theorem gX5_put_X2_append_n199 : GoodIn wsX5_put (wsX2_append) := ggX5_put_X2_append
theorem dX5_put_0 : decode cX5_put 0 = .ok (.aload_n 0, 1) := by decide +kernel
theorem dX5_put_1 : decode cX5_put 1 = .ok (.getfield 26, 3) := by decide +kernel
theorem dX5_put_4 : decode cX5_put 4 = .ok (.lload_n 1, 1) := by decide +kernel
theorem dX5_put_5 : decode cX5_put 5 = .ok (.invokevirtual 195, 3) := by decide +kernel
theorem dX5_put_8 : decode cX5_put 8 = .ok (.istore_n 3, 1) := by decide +kernel
theorem dX5_put_9 : decode cX5_put 9 = .ok (.iload_n 3, 1) := by decide +kernel
theorem dX5_put_10 : decode cX5_put 10 = .ok (.ifCond .gt 6, 3) := by decide +kernel
theorem dX5_put_13 : decode cX5_put 13 = .ok (.bipush (-2), 2) := by decide +kernel
theorem dX5_put_15 : decode cX5_put 15 = .ok (.ireturn, 1) := by decide +kernel
theorem dX5_put_16 : decode cX5_put 16 = .ok (.aload_n 0, 1) := by decide +kernel
theorem dX5_put_17 : decode cX5_put 17 = .ok (.getfield 26, 3) := by decide +kernel
theorem dX5_put_20 : decode cX5_put 20 = .ok (.getfield 170, 3) := by decide +kernel
theorem dX5_put_23 : decode cX5_put 23 = .ok (.iload_n 3, 1) := by decide +kernel
theorem dX5_put_24 : decode cX5_put 24 = .ok (.iadd, 1) := by decide +kernel
theorem dX5_put_25 : decode cX5_put 25 = .ok (.bipush 80, 2) := by decide +kernel
theorem dX5_put_27 : decode cX5_put 27 = .ok (.if_icmp .le 6, 3) := by decide +kernel
theorem dX5_put_30 : decode cX5_put 30 = .ok (.bipush (-4), 2) := by decide +kernel
theorem dX5_put_32 : decode cX5_put 32 = .ok (.ireturn, 1) := by decide +kernel
theorem dX5_put_33 : decode cX5_put 33 = .ok (.aload_n 0, 1) := by decide +kernel
theorem dX5_put_34 : decode cX5_put 34 = .ok (.getfield 26, 3) := by decide +kernel
theorem dX5_put_37 : decode cX5_put 37 = .ok (.lload_n 1, 1) := by decide +kernel
theorem dX5_put_38 : decode cX5_put 38 = .ok (.iload_n 3, 1) := by decide +kernel
theorem dX5_put_39 : decode cX5_put 39 = .ok (.invokevirtual 199, 3) := by decide +kernel
theorem dX5_put_42 : decode cX5_put 42 = .ok (.aload_n 0, 1) := by decide +kernel
theorem dX5_put_43 : decode cX5_put 43 = .ok (.getfield 26, 3) := by decide +kernel
theorem dX5_put_46 : decode cX5_put 46 = .ok (.getfield 170, 3) := by decide +kernel
theorem dX5_put_49 : decode cX5_put 49 = .ok (.ireturn, 1) := by decide +kernel
theorem dX5_wipe_0 : decode cX5_wipe 0 = .ok (.aload_n 0, 1) := by decide +kernel
theorem dX5_wipe_1 : decode cX5_wipe 1 = .ok (.getfield 26, 3) := by decide +kernel
theorem dX5_wipe_4 : decode cX5_wipe 4 = .ok (.getfield 170, 3) := by decide +kernel
theorem dX5_wipe_7 : decode cX5_wipe 7 = .ok (.istore_n 1, 1) := by decide +kernel
theorem dX5_wipe_8 : decode cX5_wipe 8 = .ok (.aload_n 0, 1) := by decide +kernel
theorem dX5_wipe_9 : decode cX5_wipe 9 = .ok (.getfield 26, 3) := by decide +kernel
theorem dX5_wipe_12 : decode cX5_wipe 12 = .ok (.iconst 0, 1) := by decide +kernel
theorem dX5_wipe_13 : decode cX5_wipe 13 = .ok (.putfield 170, 3) := by decide +kernel
theorem dX5_wipe_16 : decode cX5_wipe 16 = .ok (.iload_n 1, 1) := by decide +kernel
theorem dX5_wipe_17 : decode cX5_wipe 17 = .ok (.ireturn, 1) := by decide +kernel
set_option maxRecDepth 20000 in
theorem ggX5_fault_X2_findFault : GoodIn wsX5_fault wsX2_findFault := goodIn_r _ [5, 6, 7, 8, 9, 10, 3, 11, 12, 13, 14, 15, 16, 17, 18, 19, 20, 21, 22, 23, 24, 25, 26, 27, 28, 29, 30, 31, 32, 33, 34, 35, 36, 37, 38, 39, 40, 41, 42, 43, 44, 45, 46, 47, 48, 49, 50, 51, 52, 60, 61, 62, 63, 64, 65, 66, 67, 68, 69, 70] (by decide +kernel) (by decide +kernel)
set_option maxRecDepth 20000 in
theorem gX5_fault_X2_findFault_n203 : GoodIn wsX5_fault (wsX2_findFault) := ggX5_fault_X2_findFault
theorem dX5_fault_0 : decode cX5_fault 0 = .ok (.aload_n 0, 1) := by decide +kernel
theorem dX5_fault_1 : decode cX5_fault 1 = .ok (.getfield 26, 3) := by decide +kernel
theorem dX5_fault_4 : decode cX5_fault 4 = .ok (.invokevirtual 203, 3) := by decide +kernel
theorem dX5_fault_7 : decode cX5_fault 7 = .ok (.ireturn, 1) := by decide +kernel
set_option maxRecDepth 20000 in
theorem ggX5_carryOut_X2_findFault : GoodIn wsX5_carryOut wsX2_findFault := goodIn_r _ [7, 8, 9, 10, 11, 12, 5, 13, 14, 15, 16, 17, 18, 19, 20, 21, 22, 23, 24, 25, 26, 27, 28, 29, 30, 31, 32, 33, 34, 35, 36, 37, 38, 39, 40, 41, 42, 43, 44, 45, 46, 47, 48, 49, 50, 51, 52, 53, 54, 145, 146, 147, 148, 149, 150, 151, 152, 153, 154, 155] (by decide +kernel) (by decide +kernel)
set_option maxRecDepth 20000 in
theorem gX5_carryOut_X2_findFault_n203 : GoodIn wsX5_carryOut (wsX2_findFault) := ggX5_carryOut_X2_findFault
set_option maxRecDepth 20000 in
theorem ggX5_carryOut_X1_record : GoodIn wsX5_carryOut wsX1_record := goodIn_r _ [58, 59, 60, 61, 62, 63, 64, 65, 66, 67, 68, 69, 70, 71, 72, 73, 74, 75, 76, 77, 78, 79, 80, 81, 82, 156, 157, 158, 159, 160, 161, 162, 163, 164, 165, 166, 167] (by decide +kernel) (by decide +kernel)
set_option maxRecDepth 20000 in
theorem gX5_carryOut_X1_record_n53 : GoodIn wsX5_carryOut (wsX1_record) := ggX5_carryOut_X1_record
set_option maxRecDepth 20000 in
theorem ggX5_carryOut_X2_takeOrder : GoodIn wsX5_carryOut wsX2_takeOrder := goodIn_r _ [13, 14, 8, 15, 16, 17, 18, 5, 19, 9, 20, 21, 22, 23, 24, 25, 26, 27, 28, 29, 30, 31, 32, 33, 34, 35, 36, 37, 38, 39, 40, 41, 42, 43, 44, 45, 46, 47, 48, 49, 50, 51, 52, 53, 54, 145, 146, 147, 148, 149, 150, 151, 152, 153, 154, 155] (by decide +kernel) (by decide +kernel)
set_option maxRecDepth 20000 in
theorem gX5_carryOut_X2_takeOrder_n209 : GoodIn wsX5_carryOut (wsX2_takeOrder) := ggX5_carryOut_X2_takeOrder
set_option maxRecDepth 20000 in
theorem ggX5_carryOut_X5_carryOrderOut : GoodIn wsX5_carryOut wsX5_carryOrderOut := goodIn_r _ [87, 1, 3, 88, 89, 90, 86, 91, 92, 63, 93, 94, 66, 95, 96, 97, 98, 99, 100, 101, 72, 73, 74, 75, 76, 67, 77, 102, 103, 104, 105, 106, 107, 108, 109, 110, 111, 112, 113, 78, 114, 115, 116, 117, 118, 119, 120, 121, 122, 123, 124, 125, 126, 127, 128, 129, 130, 131, 79, 80, 81, 82, 132, 133, 134, 135, 136, 137, 138, 139, 140, 141, 142, 143, 144, 145, 146, 147, 148, 149, 150, 151, 152, 153, 154, 155, 159, 160, 161, 162, 163, 164, 165, 166, 167] (by decide +kernel) (by decide +kernel)
set_option maxRecDepth 20000 in
theorem gX5_carryOut_X5_carryOrderOut : GoodIn wsX5_carryOut (wsV RX5 213 RX5 yX5_carryOrderOut wsX5_carryOrderOut) := goodIn_app (goodIn_of _ (by decide +kernel)) ggX5_carryOut_X5_carryOrderOut
set_option maxRecDepth 20000 in
theorem ggX5_carryOut_X2_takeSign : GoodIn wsX5_carryOut wsX2_takeSign := goodIn_r _ [37, 8, 16, 17, 18, 5, 19, 9, 20, 145, 146, 147, 148, 149, 150, 151, 152, 153, 154, 155] (by decide +kernel) (by decide +kernel)
set_option maxRecDepth 20000 in
theorem gX5_carryOut_X2_takeSign_n216 : GoodIn wsX5_carryOut (wsX2_takeSign) := ggX5_carryOut_X2_takeSign
theorem dX5_carryOut_0 : decode cX5_carryOut 0 = .ok (.aload_n 0, 1) := by decide +kernel
theorem dX5_carryOut_1 : decode cX5_carryOut 1 = .ok (.getfield 26, 3) := by decide +kernel
theorem dX5_carryOut_4 : decode cX5_carryOut 4 = .ok (.invokevirtual 203, 3) := by decide +kernel
theorem dX5_carryOut_7 : decode cX5_carryOut 7 = .ok (.bipush (-6), 2) := by decide +kernel
theorem dX5_carryOut_9 : decode cX5_carryOut 9 = .ok (.if_icmp .eq 6, 3) := by decide +kernel
theorem dX5_carryOut_12 : decode cX5_carryOut 12 = .ok (.bipush (-3), 2) := by decide +kernel
theorem dX5_carryOut_14 : decode cX5_carryOut 14 = .ok (.ireturn, 1) := by decide +kernel
theorem dX5_carryOut_15 : decode cX5_carryOut 15 = .ok (.aload_n 0, 1) := by decide +kernel
theorem dX5_carryOut_16 : decode cX5_carryOut 16 = .ok (.getfield 33, 3) := by decide +kernel
theorem dX5_carryOut_19 : decode cX5_carryOut 19 = .ok (.aload_n 0, 1) := by decide +kernel
theorem dX5_carryOut_20 : decode cX5_carryOut 20 = .ok (.getfield 12, 3) := by decide +kernel
theorem dX5_carryOut_23 : decode cX5_carryOut 23 = .ok (.invokevirtual 53, 3) := by decide +kernel
theorem dX5_carryOut_26 : decode cX5_carryOut 26 = .ok (.iconst 0, 1) := by decide +kernel
theorem dX5_carryOut_27 : decode cX5_carryOut 27 = .ok (.istore_n 1, 1) := by decide +kernel
theorem dX5_carryOut_28 : decode cX5_carryOut 28 = .ok (.aload_n 0, 1) := by decide +kernel
theorem dX5_carryOut_29 : decode cX5_carryOut 29 = .ok (.getfield 26, 3) := by decide +kernel
theorem dX5_carryOut_32 : decode cX5_carryOut 32 = .ok (.iconst 0, 1) := by decide +kernel
theorem dX5_carryOut_33 : decode cX5_carryOut 33 = .ok (.putfield 206, 3) := by decide +kernel
theorem dX5_carryOut_36 : decode cX5_carryOut 36 = .ok (.iconst 0, 1) := by decide +kernel
theorem dX5_carryOut_37 : decode cX5_carryOut 37 = .ok (.istore_n 2, 1) := by decide +kernel
theorem dX5_carryOut_38 : decode cX5_carryOut 38 = .ok (.iload_n 2, 1) := by decide +kernel
theorem dX5_carryOut_39 : decode cX5_carryOut 39 = .ok (.bipush 80, 2) := by decide +kernel
theorem dX5_carryOut_41 : decode cX5_carryOut 41 = .ok (.if_icmp .ge 47, 3) := by decide +kernel
theorem dX5_carryOut_44 : decode cX5_carryOut 44 = .ok (.aload_n 0, 1) := by decide +kernel
theorem dX5_carryOut_45 : decode cX5_carryOut 45 = .ok (.getfield 26, 3) := by decide +kernel
theorem dX5_carryOut_48 : decode cX5_carryOut 48 = .ok (.invokevirtual 209, 3) := by decide +kernel
theorem dX5_carryOut_51 : decode cX5_carryOut 51 = .ok (.ifCond .eq 37, 3) := by decide +kernel
theorem dX5_carryOut_54 : decode cX5_carryOut 54 = .ok (.aload_n 0, 1) := by decide +kernel
theorem dX5_carryOut_55 : decode cX5_carryOut 55 = .ok (.invokevirtual 213, 3) := by decide +kernel
theorem dX5_carryOut_58 : decode cX5_carryOut 58 = .ok (.ifCond .ge 6, 3) := by decide +kernel
theorem dX5_carryOut_61 : decode cX5_carryOut 61 = .ok (.goto 27, 3) := by decide +kernel
theorem dX5_carryOut_64 : decode cX5_carryOut 64 = .ok (.iinc 1 1, 3) := by decide +kernel
theorem dX5_carryOut_67 : decode cX5_carryOut 67 = .ok (.aload_n 0, 1) := by decide +kernel
theorem dX5_carryOut_68 : decode cX5_carryOut 68 = .ok (.getfield 26, 3) := by decide +kernel
theorem dX5_carryOut_71 : decode cX5_carryOut 71 = .ok (.bipush 59, 2) := by decide +kernel
theorem dX5_carryOut_73 : decode cX5_carryOut 73 = .ok (.invokevirtual 216, 3) := by decide +kernel
theorem dX5_carryOut_76 : decode cX5_carryOut 76 = .ok (.ifCond .ne 6, 3) := by decide +kernel
theorem dX5_carryOut_79 : decode cX5_carryOut 79 = .ok (.goto 9, 3) := by decide +kernel
theorem dX5_carryOut_82 : decode cX5_carryOut 82 = .ok (.iinc 2 1, 3) := by decide +kernel
theorem dX5_carryOut_85 : decode cX5_carryOut 85 = .ok (.goto (-47), 3) := by decide +kernel
theorem dX5_carryOut_88 : decode cX5_carryOut 88 = .ok (.aload_n 0, 1) := by decide +kernel
theorem dX5_carryOut_89 : decode cX5_carryOut 89 = .ok (.getfield 26, 3) := by decide +kernel
theorem dX5_carryOut_92 : decode cX5_carryOut 92 = .ok (.iconst 0, 1) := by decide +kernel
theorem dX5_carryOut_93 : decode cX5_carryOut 93 = .ok (.putfield 170, 3) := by decide +kernel
theorem dX5_carryOut_96 : decode cX5_carryOut 96 = .ok (.iload_n 1, 1) := by decide +kernel
theorem dX5_carryOut_97 : decode cX5_carryOut 97 = .ok (.ireturn, 1) := by decide +kernel
set_option maxRecDepth 20000 in
theorem ggX5_undo_X1_takeBack : GoodIn wsX5_undo wsX1_takeBack := goodIn_r _ [6, 7, 8, 9, 10, 11, 12, 13, 14, 15, 16, 17, 18, 19, 20, 21, 22, 23, 24, 25, 26, 27, 28, 29, 30, 38, 39, 40, 41, 42, 43, 44, 45, 46, 47, 48, 49] (by decide +kernel) (by decide +kernel)
set_option maxRecDepth 20000 in
theorem gX5_undo_X1_takeBack_n220 : GoodIn wsX5_undo (wsX1_takeBack) := ggX5_undo_X1_takeBack
theorem dX5_undo_0 : decode cX5_undo 0 = .ok (.aload_n 0, 1) := by decide +kernel
theorem dX5_undo_1 : decode cX5_undo 1 = .ok (.getfield 33, 3) := by decide +kernel
theorem dX5_undo_4 : decode cX5_undo 4 = .ok (.getfield 173, 3) := by decide +kernel
theorem dX5_undo_7 : decode cX5_undo 7 = .ok (.ifCond .gt 6, 3) := by decide +kernel
theorem dX5_undo_10 : decode cX5_undo 10 = .ok (.bipush (-5), 2) := by decide +kernel
theorem dX5_undo_12 : decode cX5_undo 12 = .ok (.ireturn, 1) := by decide +kernel
theorem dX5_undo_13 : decode cX5_undo 13 = .ok (.aload_n 0, 1) := by decide +kernel
theorem dX5_undo_14 : decode cX5_undo 14 = .ok (.getfield 33, 3) := by decide +kernel
theorem dX5_undo_17 : decode cX5_undo 17 = .ok (.aload_n 0, 1) := by decide +kernel
theorem dX5_undo_18 : decode cX5_undo 18 = .ok (.getfield 12, 3) := by decide +kernel
theorem dX5_undo_21 : decode cX5_undo 21 = .ok (.invokevirtual 220, 3) := by decide +kernel
theorem dX5_undo_24 : decode cX5_undo 24 = .ok (.aload_n 0, 1) := by decide +kernel
theorem dX5_undo_25 : decode cX5_undo 25 = .ok (.getfield 33, 3) := by decide +kernel
theorem dX5_undo_28 : decode cX5_undo 28 = .ok (.getfield 173, 3) := by decide +kernel
theorem dX5_undo_31 : decode cX5_undo 31 = .ok (.ireturn, 1) := by decide +kernel
set_option maxRecDepth 20000 in
theorem ggX5_save_X3_copyFrom : GoodIn wsX5_save wsX3_copyFrom := goodIn_r _ [7, 8, 9, 10, 11, 12, 13, 14, 15, 16, 17, 18, 19, 20, 21, 22, 23, 5, 24, 32, 33, 34, 35, 36, 37, 38, 39, 40] (by decide +kernel) (by decide +kernel)
set_option maxRecDepth 20000 in
theorem gX5_save_X3_copyFrom_n223 : GoodIn wsX5_save (wsX3_copyFrom) := ggX5_save_X3_copyFrom
theorem dX5_save_0 : decode cX5_save 0 = .ok (.iload_n 1, 1) := by decide +kernel
theorem dX5_save_1 : decode cX5_save 1 = .ok (.ifCond .lt 8, 3) := by decide +kernel
theorem dX5_save_4 : decode cX5_save 4 = .ok (.iload_n 1, 1) := by decide +kernel
theorem dX5_save_5 : decode cX5_save 5 = .ok (.iconst 2, 1) := by decide +kernel
theorem dX5_save_6 : decode cX5_save 6 = .ok (.if_icmp .lt 6, 3) := by decide +kernel
theorem dX5_save_9 : decode cX5_save 9 = .ok (.bipush (-2), 2) := by decide +kernel
theorem dX5_save_11 : decode cX5_save 11 = .ok (.ireturn, 1) := by decide +kernel
theorem dX5_save_12 : decode cX5_save 12 = .ok (.aload_n 0, 1) := by decide +kernel
theorem dX5_save_13 : decode cX5_save 13 = .ok (.getfield 37, 3) := by decide +kernel
theorem dX5_save_16 : decode cX5_save 16 = .ok (.iload_n 1, 1) := by decide +kernel
theorem dX5_save_17 : decode cX5_save 17 = .ok (.aaload, 1) := by decide +kernel
theorem dX5_save_18 : decode cX5_save 18 = .ok (.aload_n 0, 1) := by decide +kernel
theorem dX5_save_19 : decode cX5_save 19 = .ok (.getfield 12, 3) := by decide +kernel
theorem dX5_save_22 : decode cX5_save 22 = .ok (.invokevirtual 223, 3) := by decide +kernel
theorem dX5_save_25 : decode cX5_save 25 = .ok (.aload_n 0, 1) := by decide +kernel
theorem dX5_save_26 : decode cX5_save 26 = .ok (.getfield 41, 3) := by decide +kernel
theorem dX5_save_29 : decode cX5_save 29 = .ok (.iload_n 1, 1) := by decide +kernel
theorem dX5_save_30 : decode cX5_save 30 = .ok (.iconst 1, 1) := by decide +kernel
theorem dX5_save_31 : decode cX5_save 31 = .ok (.bastore, 1) := by decide +kernel
theorem dX5_save_32 : decode cX5_save 32 = .ok (.aload_n 0, 1) := by decide +kernel
theorem dX5_save_33 : decode cX5_save 33 = .ok (.getfield 12, 3) := by decide +kernel
theorem dX5_save_36 : decode cX5_save 36 = .ok (.getfield 68, 3) := by decide +kernel
theorem dX5_save_39 : decode cX5_save 39 = .ok (.ireturn, 1) := by decide +kernel
set_option maxRecDepth 20000 in
theorem ggX5_restore_X1_record : GoodIn wsX5_restore wsX1_record := goodIn_r _ [8, 9, 10, 11, 12, 13, 14, 15, 16, 17, 18, 19, 20, 21, 22, 23, 24, 25, 26, 27, 28, 29, 30, 31, 32, 49, 50, 51, 40, 41, 42, 43, 44, 45, 46, 47, 48] (by decide +kernel) (by decide +kernel)
set_option maxRecDepth 20000 in
theorem gX5_restore_X1_record_n53 : GoodIn wsX5_restore (wsX1_record) := ggX5_restore_X1_record
set_option maxRecDepth 20000 in
theorem ggX5_restore_X3_copyFrom : GoodIn wsX5_restore wsX3_copyFrom := goodIn_r _ [15, 16, 17, 18, 19, 20, 21, 22, 23, 24, 25, 26, 27, 28, 29, 30, 31, 13, 32, 40, 41, 42, 43, 44, 45, 46, 47, 48] (by decide +kernel) (by decide +kernel)
set_option maxRecDepth 20000 in
theorem gX5_restore_X3_copyFrom_n223 : GoodIn wsX5_restore (wsX3_copyFrom) := ggX5_restore_X3_copyFrom
theorem dX5_restore_0 : decode cX5_restore 0 = .ok (.iload_n 1, 1) := by decide +kernel
theorem dX5_restore_1 : decode cX5_restore 1 = .ok (.ifCond .lt 8, 3) := by decide +kernel
theorem dX5_restore_4 : decode cX5_restore 4 = .ok (.iload_n 1, 1) := by decide +kernel
theorem dX5_restore_5 : decode cX5_restore 5 = .ok (.iconst 2, 1) := by decide +kernel
theorem dX5_restore_6 : decode cX5_restore 6 = .ok (.if_icmp .lt 6, 3) := by decide +kernel
theorem dX5_restore_9 : decode cX5_restore 9 = .ok (.bipush (-2), 2) := by decide +kernel
theorem dX5_restore_11 : decode cX5_restore 11 = .ok (.ireturn, 1) := by decide +kernel
theorem dX5_restore_12 : decode cX5_restore 12 = .ok (.aload_n 0, 1) := by decide +kernel
theorem dX5_restore_13 : decode cX5_restore 13 = .ok (.getfield 41, 3) := by decide +kernel
theorem dX5_restore_16 : decode cX5_restore 16 = .ok (.iload_n 1, 1) := by decide +kernel
theorem dX5_restore_17 : decode cX5_restore 17 = .ok (.baload, 1) := by decide +kernel
theorem dX5_restore_18 : decode cX5_restore 18 = .ok (.ifCond .ne 6, 3) := by decide +kernel
theorem dX5_restore_21 : decode cX5_restore 21 = .ok (.bipush (-5), 2) := by decide +kernel
theorem dX5_restore_23 : decode cX5_restore 23 = .ok (.ireturn, 1) := by decide +kernel
theorem dX5_restore_24 : decode cX5_restore 24 = .ok (.aload_n 0, 1) := by decide +kernel
theorem dX5_restore_25 : decode cX5_restore 25 = .ok (.getfield 33, 3) := by decide +kernel
theorem dX5_restore_28 : decode cX5_restore 28 = .ok (.aload_n 0, 1) := by decide +kernel
theorem dX5_restore_29 : decode cX5_restore 29 = .ok (.getfield 12, 3) := by decide +kernel
theorem dX5_restore_32 : decode cX5_restore 32 = .ok (.invokevirtual 53, 3) := by decide +kernel
theorem dX5_restore_35 : decode cX5_restore 35 = .ok (.aload_n 0, 1) := by decide +kernel
theorem dX5_restore_36 : decode cX5_restore 36 = .ok (.getfield 12, 3) := by decide +kernel
theorem dX5_restore_39 : decode cX5_restore 39 = .ok (.aload_n 0, 1) := by decide +kernel
theorem dX5_restore_40 : decode cX5_restore 40 = .ok (.getfield 37, 3) := by decide +kernel
theorem dX5_restore_43 : decode cX5_restore 43 = .ok (.iload_n 1, 1) := by decide +kernel
theorem dX5_restore_44 : decode cX5_restore 44 = .ok (.aaload, 1) := by decide +kernel
theorem dX5_restore_45 : decode cX5_restore 45 = .ok (.invokevirtual 223, 3) := by decide +kernel
theorem dX5_restore_48 : decode cX5_restore 48 = .ok (.aload_n 0, 1) := by decide +kernel
theorem dX5_restore_49 : decode cX5_restore 49 = .ok (.getfield 12, 3) := by decide +kernel
theorem dX5_restore_52 : decode cX5_restore 52 = .ok (.getfield 68, 3) := by decide +kernel
theorem dX5_restore_55 : decode cX5_restore 55 = .ok (.ireturn, 1) := by decide +kernel
theorem dX5_mostOf_0 : decode cX5_mostOf 0 = .ok (.iload_n 0, 1) := by decide +kernel
theorem dX5_mostOf_1 : decode cX5_mostOf 1 = .ok (.iconst 2, 1) := by decide +kernel
theorem dX5_mostOf_2 : decode cX5_mostOf 2 = .ok (.if_icmp .ne 8, 3) := by decide +kernel
theorem dX5_mostOf_5 : decode cX5_mostOf 5 = .ok (.bipush 20, 2) := by decide +kernel
theorem dX5_mostOf_7 : decode cX5_mostOf 7 = .ok (.goto 5, 3) := by decide +kernel
theorem dX5_mostOf_10 : decode cX5_mostOf 10 = .ok (.bipush 99, 2) := by decide +kernel
theorem dX5_mostOf_12 : decode cX5_mostOf 12 = .ok (.ireturn, 1) := by decide +kernel
theorem dX5_holds_0 : decode cX5_holds 0 = .ok (.iload_n 0, 1) := by decide +kernel
theorem dX5_holds_1 : decode cX5_holds 1 = .ok (.iload_n 1, 1) := by decide +kernel
theorem dX5_holds_2 : decode cX5_holds 2 = .ok (.iushr, 1) := by decide +kernel
theorem dX5_holds_3 : decode cX5_holds 3 = .ok (.iconst 1, 1) := by decide +kernel
theorem dX5_holds_4 : decode cX5_holds 4 = .ok (.iand, 1) := by decide +kernel
theorem dX5_holds_5 : decode cX5_holds 5 = .ok (.iconst 1, 1) := by decide +kernel
theorem dX5_holds_6 : decode cX5_holds 6 = .ok (.if_icmp .ne 7, 3) := by decide +kernel
theorem dX5_holds_9 : decode cX5_holds 9 = .ok (.iconst 1, 1) := by decide +kernel
theorem dX5_holds_10 : decode cX5_holds 10 = .ok (.goto 4, 3) := by decide +kernel
theorem dX5_holds_13 : decode cX5_holds 13 = .ok (.iconst 0, 1) := by decide +kernel
theorem dX5_holds_14 : decode cX5_holds 14 = .ok (.ireturn, 1) := by decide +kernel
set_option maxRecDepth 20000 in
theorem ggX5_stateOfTelling_X0_readBlock : GoodIn wsX5_stateOfTelling wsX0_readBlock := goodIn_r _ [6, 7, 8, 9, 10, 11, 12, 13, 14, 15, 16, 17, 18, 19, 20, 21, 22, 23, 24, 25, 26, 27, 28, 29, 30, 31, 32, 33, 34, 35, 36, 62, 63, 64, 65, 66, 67, 68, 69, 70, 59, 60, 61, 71, 72, 73, 74] (by decide +kernel) (by decide +kernel)
set_option maxRecDepth 20000 in
theorem gX5_stateOfTelling_X0_readBlock_n121 : GoodIn wsX5_stateOfTelling (wsX0_readBlock) := ggX5_stateOfTelling_X0_readBlock
set_option maxRecDepth 20000 in
theorem ggX5_stateOfTelling_X4_stateBy : GoodIn wsX5_stateOfTelling wsX4_stateBy := goodIn_r _ [39, 13, 30, 40, 41, 42, 10, 43, 25, 44, 45, 46, 47, 31, 48, 49, 50, 51, 71, 72, 73, 74] (by decide +kernel) (by decide +kernel)
set_option maxRecDepth 20000 in
theorem gX5_stateOfTelling_X4_stateBy_n226 : GoodIn wsX5_stateOfTelling (wsX4_stateBy) := ggX5_stateOfTelling_X4_stateBy
theorem dX5_stateOfTelling_0 : decode cX5_stateOfTelling 0 = .ok (.aload_n 0, 1) := by decide +kernel
theorem dX5_stateOfTelling_1 : decode cX5_stateOfTelling 1 = .ok (.getfield 19, 3) := by decide +kernel
theorem dX5_stateOfTelling_4 : decode cX5_stateOfTelling 4 = .ok (.aload_n 0, 1) := by decide +kernel
theorem dX5_stateOfTelling_5 : decode cX5_stateOfTelling 5 = .ok (.getfield 12, 3) := by decide +kernel
theorem dX5_stateOfTelling_8 : decode cX5_stateOfTelling 8 = .ok (.iload_n 1, 1) := by decide +kernel
theorem dX5_stateOfTelling_9 : decode cX5_stateOfTelling 9 = .ok (.invokevirtual 121, 3) := by decide +kernel
theorem dX5_stateOfTelling_12 : decode cX5_stateOfTelling 12 = .ok (.aload_n 0, 1) := by decide +kernel
theorem dX5_stateOfTelling_13 : decode cX5_stateOfTelling 13 = .ok (.getfield 19, 3) := by decide +kernel
theorem dX5_stateOfTelling_16 : decode cX5_stateOfTelling 16 = .ok (.getfield 125, 3) := by decide +kernel
theorem dX5_stateOfTelling_19 : decode cX5_stateOfTelling 19 = .ok (.iload_n 2, 1) := by decide +kernel
theorem dX5_stateOfTelling_20 : decode cX5_stateOfTelling 20 = .ok (.aaload, 1) := by decide +kernel
theorem dX5_stateOfTelling_21 : decode cX5_stateOfTelling 21 = .ok (.aload_n 0, 1) := by decide +kernel
theorem dX5_stateOfTelling_22 : decode cX5_stateOfTelling 22 = .ok (.getfield 12, 3) := by decide +kernel
theorem dX5_stateOfTelling_25 : decode cX5_stateOfTelling 25 = .ok (.getfield 57, 3) := by decide +kernel
theorem dX5_stateOfTelling_28 : decode cX5_stateOfTelling 28 = .ok (.iconst 1, 1) := by decide +kernel
theorem dX5_stateOfTelling_29 : decode cX5_stateOfTelling 29 = .ok (.iaload, 1) := by decide +kernel
theorem dX5_stateOfTelling_30 : decode cX5_stateOfTelling 30 = .ok (.invokevirtual 226, 3) := by decide +kernel
theorem dX5_stateOfTelling_33 : decode cX5_stateOfTelling 33 = .ok (.ireturn, 1) := by decide +kernel
set_option maxRecDepth 20000 in
theorem ggX5_wayOfLoading_X0_readBlock : GoodIn wsX5_wayOfLoading wsX0_readBlock := goodIn_r _ [6, 7, 8, 9, 10, 11, 12, 13, 14, 15, 16, 17, 18, 19, 20, 21, 22, 23, 24, 25, 26, 27, 28, 29, 30, 31, 32, 33, 34, 35, 36, 70, 71, 72, 73, 74, 75, 76, 77, 78, 79, 80, 81, 82, 83, 84, 85] (by decide +kernel) (by decide +kernel)
set_option maxRecDepth 20000 in
theorem gX5_wayOfLoading_X0_readBlock_n121 : GoodIn wsX5_wayOfLoading (wsX0_readBlock) := ggX5_wayOfLoading_X0_readBlock
set_option maxRecDepth 20000 in
theorem ggX5_wayOfLoading_X0_wayBy : GoodIn wsX5_wayOfLoading wsX0_wayBy := goodIn_r _ [39, 7, 8, 40, 10, 41, 42, 13, 30, 43, 44, 45, 46, 25, 47, 48, 49, 50, 31, 51, 52, 53, 54, 55, 56, 57, 4, 58, 59, 60, 61, 62, 79, 80, 81, 82, 83, 84, 85] (by decide +kernel) (by decide +kernel)
set_option maxRecDepth 20000 in
theorem gX5_wayOfLoading_X0_wayBy_n182 : GoodIn wsX5_wayOfLoading (wsX0_wayBy) := ggX5_wayOfLoading_X0_wayBy
theorem dX5_wayOfLoading_0 : decode cX5_wayOfLoading 0 = .ok (.aload_n 0, 1) := by decide +kernel
theorem dX5_wayOfLoading_1 : decode cX5_wayOfLoading 1 = .ok (.getfield 19, 3) := by decide +kernel
theorem dX5_wayOfLoading_4 : decode cX5_wayOfLoading 4 = .ok (.aload_n 0, 1) := by decide +kernel
theorem dX5_wayOfLoading_5 : decode cX5_wayOfLoading 5 = .ok (.getfield 12, 3) := by decide +kernel
theorem dX5_wayOfLoading_8 : decode cX5_wayOfLoading 8 = .ok (.iload_n 1, 1) := by decide +kernel
theorem dX5_wayOfLoading_9 : decode cX5_wayOfLoading 9 = .ok (.invokevirtual 121, 3) := by decide +kernel
theorem dX5_wayOfLoading_12 : decode cX5_wayOfLoading 12 = .ok (.aload_n 0, 1) := by decide +kernel
theorem dX5_wayOfLoading_13 : decode cX5_wayOfLoading 13 = .ok (.getfield 19, 3) := by decide +kernel
theorem dX5_wayOfLoading_16 : decode cX5_wayOfLoading 16 = .ok (.aload_n 0, 1) := by decide +kernel
theorem dX5_wayOfLoading_17 : decode cX5_wayOfLoading 17 = .ok (.getfield 12, 3) := by decide +kernel
theorem dX5_wayOfLoading_20 : decode cX5_wayOfLoading 20 = .ok (.getfield 57, 3) := by decide +kernel
theorem dX5_wayOfLoading_23 : decode cX5_wayOfLoading 23 = .ok (.iconst 1, 1) := by decide +kernel
theorem dX5_wayOfLoading_24 : decode cX5_wayOfLoading 24 = .ok (.iaload, 1) := by decide +kernel
theorem dX5_wayOfLoading_25 : decode cX5_wayOfLoading 25 = .ok (.invokevirtual 182, 3) := by decide +kernel
theorem dX5_wayOfLoading_28 : decode cX5_wayOfLoading 28 = .ok (.ireturn, 1) := by decide +kernel
