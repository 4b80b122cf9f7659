set_option maxRecDepth 20000 in
theorem ggX5_loadedBlocks_X5_wayOfLoading : GoodIn wsX5_loadedBlocks wsX5_wayOfLoading := goodIn_r _ [6, 7, 1, 8, 9, 10, 11, 12, 13, 14, 15, 16, 17, 18, 19, 20, 21, 22, 23, 24, 25, 26, 27, 28, 29, 30, 31, 32, 33, 34, 35, 36, 37, 38, 39, 40, 41, 42, 43, 44, 45, 46, 47, 48, 49, 50, 51, 52, 53, 54, 55, 56, 57, 58, 59, 60, 61, 62, 63, 64, 65, 66, 67, 68, 69, 70, 71, 72, 73, 74, 75, 76, 77, 78, 79, 80, 81, 82, 83, 84, 85, 86, 87, 88, 89, 90] (by decide +kernel) (by decide +kernel)
set_option maxRecDepth 20000 in
theorem gX5_loadedBlocks_X5_wayOfLoading : GoodIn wsX5_loadedBlocks (wsV RX5 104 RX5 yX5_wayOfLoading wsX5_wayOfLoading) := goodIn_app (goodIn_of _ (by decide +kernel)) ggX5_loadedBlocks_X5_wayOfLoading
theorem dX5_loadedBlocks_0 : decode cX5_loadedBlocks 0 = .ok (.iconst 0, 1) := by decide +kernel
theorem dX5_loadedBlocks_1 : decode cX5_loadedBlocks 1 = .ok (.istore_n 2, 1) := by decide +kernel
theorem dX5_loadedBlocks_2 : decode cX5_loadedBlocks 2 = .ok (.iconst 0, 1) := by decide +kernel
theorem dX5_loadedBlocks_3 : decode cX5_loadedBlocks 3 = .ok (.istore_n 3, 1) := by decide +kernel
theorem dX5_loadedBlocks_4 : decode cX5_loadedBlocks 4 = .ok (.iload_n 3, 1) := by decide +kernel
theorem dX5_loadedBlocks_5 : decode cX5_loadedBlocks 5 = .ok (.aload_n 0, 1) := by decide +kernel
theorem dX5_loadedBlocks_6 : decode cX5_loadedBlocks 6 = .ok (.getfield 12, 3) := by decide +kernel
theorem dX5_loadedBlocks_9 : decode cX5_loadedBlocks 9 = .ok (.getfield 68, 3) := by decide +kernel
theorem dX5_loadedBlocks_12 : decode cX5_loadedBlocks 12 = .ok (.if_icmp .ge 39, 3) := by decide +kernel
theorem dX5_loadedBlocks_15 : decode cX5_loadedBlocks 15 = .ok (.aload_n 0, 1) := by decide +kernel
theorem dX5_loadedBlocks_16 : decode cX5_loadedBlocks 16 = .ok (.iload_n 3, 1) := by decide +kernel
theorem dX5_loadedBlocks_17 : decode cX5_loadedBlocks 17 = .ok (.invokevirtual 104, 3) := by decide +kernel
theorem dX5_loadedBlocks_20 : decode cX5_loadedBlocks 20 = .ok (.istore 4, 2) := by decide +kernel
theorem dX5_loadedBlocks_22 : decode cX5_loadedBlocks 22 = .ok (.iload 4, 2) := by decide +kernel
theorem dX5_loadedBlocks_24 : decode cX5_loadedBlocks 24 = .ok (.iconst 2, 1) := by decide +kernel
theorem dX5_loadedBlocks_25 : decode cX5_loadedBlocks 25 = .ok (.if_icmp .eq 14, 3) := by decide +kernel
theorem dX5_loadedBlocks_28 : decode cX5_loadedBlocks 28 = .ok (.iload 4, 2) := by decide +kernel
theorem dX5_loadedBlocks_30 : decode cX5_loadedBlocks 30 = .ok (.bipush (-6), 2) := by decide +kernel
theorem dX5_loadedBlocks_32 : decode cX5_loadedBlocks 32 = .ok (.if_icmp .eq 13, 3) := by decide +kernel
theorem dX5_loadedBlocks_35 : decode cX5_loadedBlocks 35 = .ok (.iload_n 1, 1) := by decide +kernel
theorem dX5_loadedBlocks_36 : decode cX5_loadedBlocks 36 = .ok (.ifCond .ne 9, 3) := by decide +kernel
theorem dX5_loadedBlocks_39 : decode cX5_loadedBlocks 39 = .ok (.iload_n 2, 1) := by decide +kernel
theorem dX5_loadedBlocks_40 : decode cX5_loadedBlocks 40 = .ok (.iconst 1, 1) := by decide +kernel
theorem dX5_loadedBlocks_41 : decode cX5_loadedBlocks 41 = .ok (.iload_n 3, 1) := by decide +kernel
theorem dX5_loadedBlocks_42 : decode cX5_loadedBlocks 42 = .ok (.ishl, 1) := by decide +kernel
theorem dX5_loadedBlocks_43 : decode cX5_loadedBlocks 43 = .ok (.ior, 1) := by decide +kernel
theorem dX5_loadedBlocks_44 : decode cX5_loadedBlocks 44 = .ok (.istore_n 2, 1) := by decide +kernel
theorem dX5_loadedBlocks_45 : decode cX5_loadedBlocks 45 = .ok (.iinc 3 1, 3) := by decide +kernel
theorem dX5_loadedBlocks_48 : decode cX5_loadedBlocks 48 = .ok (.goto (-44), 3) := by decide +kernel
theorem dX5_loadedBlocks_51 : decode cX5_loadedBlocks 51 = .ok (.iload_n 2, 1) := by decide +kernel
theorem dX5_loadedBlocks_52 : decode cX5_loadedBlocks 52 = .ok (.ireturn, 1) := by decide +kernel
set_option maxRecDepth 20000 in
theorem ggX5_countBelow_X5_holds : GoodIn wsX5_countBelow wsX5_holds := goodIn_r _ [6] (by decide +kernel) (by decide +kernel)
set_option maxRecDepth 20000 in
theorem gX5_countBelow_X5_holds : GoodIn wsX5_countBelow (va_wsS RX5 176 yX5_holds wsX5_holds) := goodIn_app (goodIn_of _ (by decide +kernel)) ggX5_countBelow_X5_holds
theorem dX5_countBelow_0 : decode cX5_countBelow 0 = .ok (.iconst 0, 1) := by decide +kernel
theorem dX5_countBelow_1 : decode cX5_countBelow 1 = .ok (.istore_n 2, 1) := by decide +kernel
theorem dX5_countBelow_2 : decode cX5_countBelow 2 = .ok (.iload_n 2, 1) := by decide +kernel
theorem dX5_countBelow_3 : decode cX5_countBelow 3 = .ok (.bipush 16, 2) := by decide +kernel
theorem dX5_countBelow_5 : decode cX5_countBelow 5 = .ok (.if_icmp .ge 16, 3) := by decide +kernel
theorem dX5_countBelow_8 : decode cX5_countBelow 8 = .ok (.aload_n 0, 1) := by decide +kernel
theorem dX5_countBelow_9 : decode cX5_countBelow 9 = .ok (.getfield 45, 3) := by decide +kernel
theorem dX5_countBelow_12 : decode cX5_countBelow 12 = .ok (.iload_n 2, 1) := by decide +kernel
theorem dX5_countBelow_13 : decode cX5_countBelow 13 = .ok (.iconst 0, 1) := by decide +kernel
theorem dX5_countBelow_14 : decode cX5_countBelow 14 = .ok (.iastore, 1) := by decide +kernel
theorem dX5_countBelow_15 : decode cX5_countBelow 15 = .ok (.iinc 2 1, 3) := by decide +kernel
theorem dX5_countBelow_18 : decode cX5_countBelow 18 = .ok (.goto (-16), 3) := by decide +kernel
theorem dX5_countBelow_21 : decode cX5_countBelow 21 = .ok (.aload_n 0, 1) := by decide +kernel
theorem dX5_countBelow_22 : decode cX5_countBelow 22 = .ok (.getfield 12, 3) := by decide +kernel
theorem dX5_countBelow_25 : decode cX5_countBelow 25 = .ok (.getfield 68, 3) := by decide +kernel
theorem dX5_countBelow_28 : decode cX5_countBelow 28 = .ok (.iconst 1, 1) := by decide +kernel
theorem dX5_countBelow_29 : decode cX5_countBelow 29 = .ok (.isub, 1) := by decide +kernel
theorem dX5_countBelow_30 : decode cX5_countBelow 30 = .ok (.istore_n 2, 1) := by decide +kernel
theorem dX5_countBelow_31 : decode cX5_countBelow 31 = .ok (.iload_n 2, 1) := by decide +kernel
theorem dX5_countBelow_32 : decode cX5_countBelow 32 = .ok (.ifCond .lt 48, 3) := by decide +kernel
theorem dX5_countBelow_35 : decode cX5_countBelow 35 = .ok (.aload_n 0, 1) := by decide +kernel
theorem dX5_countBelow_36 : decode cX5_countBelow 36 = .ok (.getfield 12, 3) := by decide +kernel
theorem dX5_countBelow_39 : decode cX5_countBelow 39 = .ok (.getfield 91, 3) := by decide +kernel
theorem dX5_countBelow_42 : decode cX5_countBelow 42 = .ok (.iload_n 2, 1) := by decide +kernel
theorem dX5_countBelow_43 : decode cX5_countBelow 43 = .ok (.iaload, 1) := by decide +kernel
theorem dX5_countBelow_44 : decode cX5_countBelow 44 = .ok (.istore_n 3, 1) := by decide +kernel
theorem dX5_countBelow_45 : decode cX5_countBelow 45 = .ok (.iload_n 1, 1) := by decide +kernel
theorem dX5_countBelow_46 : decode cX5_countBelow 46 = .ok (.iload_n 2, 1) := by decide +kernel
theorem dX5_countBelow_47 : decode cX5_countBelow 47 = .ok (.invokestatic 176, 3) := by decide +kernel
theorem dX5_countBelow_50 : decode cX5_countBelow 50 = .ok (.ifCond .eq 24, 3) := by decide +kernel
theorem dX5_countBelow_53 : decode cX5_countBelow 53 = .ok (.iload_n 3, 1) := by decide +kernel
theorem dX5_countBelow_54 : decode cX5_countBelow 54 = .ok (.ifCond .lt 20, 3) := by decide +kernel
theorem dX5_countBelow_57 : decode cX5_countBelow 57 = .ok (.aload_n 0, 1) := by decide +kernel
theorem dX5_countBelow_58 : decode cX5_countBelow 58 = .ok (.getfield 45, 3) := by decide +kernel
theorem dX5_countBelow_61 : decode cX5_countBelow 61 = .ok (.iload_n 3, 1) := by decide +kernel
theorem dX5_countBelow_62 : decode cX5_countBelow 62 = .ok (.dup2, 1) := by decide +kernel
theorem dX5_countBelow_63 : decode cX5_countBelow 63 = .ok (.iaload, 1) := by decide +kernel
theorem dX5_countBelow_64 : decode cX5_countBelow 64 = .ok (.aload_n 0, 1) := by decide +kernel
theorem dX5_countBelow_65 : decode cX5_countBelow 65 = .ok (.getfield 45, 3) := by decide +kernel
theorem dX5_countBelow_68 : decode cX5_countBelow 68 = .ok (.iload_n 2, 1) := by decide +kernel
theorem dX5_countBelow_69 : decode cX5_countBelow 69 = .ok (.iaload, 1) := by decide +kernel
theorem dX5_countBelow_70 : decode cX5_countBelow 70 = .ok (.iconst 1, 1) := by decide +kernel
theorem dX5_countBelow_71 : decode cX5_countBelow 71 = .ok (.iadd, 1) := by decide +kernel
theorem dX5_countBelow_72 : decode cX5_countBelow 72 = .ok (.iadd, 1) := by decide +kernel
theorem dX5_countBelow_73 : decode cX5_countBelow 73 = .ok (.iastore, 1) := by decide +kernel
theorem dX5_countBelow_74 : decode cX5_countBelow 74 = .ok (.iinc 2 (-1), 3) := by decide +kernel
theorem dX5_countBelow_77 : decode cX5_countBelow 77 = .ok (.goto (-46), 3) := by decide +kernel
theorem dX5_countBelow_80 : decode cX5_countBelow 80 = .ok (.return_, 1) := by decide +kernel
set_option maxRecDepth 20000 in
theorem ggX5_carryOrderOut_X5_carryBlockOut : GoodIn wsX5_carryOrderOut wsX5_carryBlockOut := goodIn_r _ [7, 2, 1, 8, 9, 10, 11, 12, 13, 14, 15, 16, 17, 18, 19, 20, 21, 22, 23, 24, 25, 26, 27, 28, 29, 30, 31, 32, 33, 34, 35, 36, 37, 38, 39, 40, 41, 42, 43, 44, 45, 46, 68, 69, 70, 71, 72, 73, 74, 75, 76, 77, 78, 79, 80, 81, 82, 83, 84, 85, 86, 87, 88, 89, 90, 91, 92, 93, 94] (by decide +kernel) (by decide +kernel)
set_option maxRecDepth 20000 in
theorem gX5_carryOrderOut_X5_carryBlockOut : GoodIn wsX5_carryOrderOut (wsV RX5 233 RX5 yX5_carryBlockOut wsX5_carryBlockOut) := goodIn_app (goodIn_of _ (by decide +kernel)) ggX5_carryOrderOut_X5_carryBlockOut
set_option maxRecDepth 20000 in
theorem ggX5_carryOrderOut_X5_carryFadingOut : GoodIn wsX5_carryOrderOut wsX5_carryFadingOut := goodIn_r _ [50, 2, 1, 51, 9, 52, 53, 54, 55, 56, 57, 58, 59, 60, 61, 23, 12, 62, 63, 64, 24, 68, 69, 70, 71, 72, 73, 74, 75, 76, 77, 78, 79, 80, 81, 82, 83, 84, 85, 86, 87, 88, 89, 90, 91, 92, 93, 94] (by decide +kernel) (by decide +kernel)
set_option maxRecDepth 20000 in
theorem gX5_carryOrderOut_X5_carryFadingOut : GoodIn wsX5_carryOrderOut (wsV RX5 236 RX5 yX5_carryFadingOut wsX5_carryFadingOut) := goodIn_app (goodIn_of _ (by decide +kernel)) ggX5_carryOrderOut_X5_carryFadingOut
set_option maxRecDepth 20000 in
theorem ggX5_carryOrderOut_X3_hasCell : GoodIn wsX5_carryOrderOut wsX3_hasCell := goodIn_r _ [57, 58, 59, 60, 9, 61, 23, 12, 86, 87, 88, 89, 90, 91, 92, 93, 94] (by decide +kernel) (by decide +kernel)
set_option maxRecDepth 20000 in
theorem gX5_carryOrderOut_X3_hasCell_n78 : GoodIn wsX5_carryOrderOut (wsX3_hasCell) := ggX5_carryOrderOut_X3_hasCell
set_option maxRecDepth 20000 in
theorem ggX5_carryOrderOut_X3_spoilCell : GoodIn wsX5_carryOrderOut wsX3_spoilCell := goodIn_r _ [67, 26, 86, 87, 88, 89, 90, 91, 92, 93, 94] (by decide +kernel) (by decide +kernel)
set_option maxRecDepth 20000 in
theorem gX5_carryOrderOut_X3_spoilCell_n82 : GoodIn wsX5_carryOrderOut (wsX3_spoilCell) := ggX5_carryOrderOut_X3_spoilCell
theorem dX5_carryOrderOut_0 : decode cX5_carryOrderOut 0 = .ok (.aload_n 0, 1) := by decide +kernel
theorem dX5_carryOrderOut_1 : decode cX5_carryOrderOut 1 = .ok (.getfield 26, 3) := by decide +kernel
theorem dX5_carryOrderOut_4 : decode cX5_carryOrderOut 4 = .ok (.getfield 229, 3) := by decide +kernel
theorem dX5_carryOrderOut_7 : decode cX5_carryOrderOut 7 = .ok (.bipush 43, 2) := by decide +kernel
theorem dX5_carryOrderOut_9 : decode cX5_carryOrderOut 9 = .ok (.if_icmp .ne 8, 3) := by decide +kernel
theorem dX5_carryOrderOut_12 : decode cX5_carryOrderOut 12 = .ok (.aload_n 0, 1) := by decide +kernel
theorem dX5_carryOrderOut_13 : decode cX5_carryOrderOut 13 = .ok (.invokevirtual 233, 3) := by decide +kernel
theorem dX5_carryOrderOut_16 : decode cX5_carryOrderOut 16 = .ok (.ireturn, 1) := by decide +kernel
theorem dX5_carryOrderOut_17 : decode cX5_carryOrderOut 17 = .ok (.aload_n 0, 1) := by decide +kernel
theorem dX5_carryOrderOut_18 : decode cX5_carryOrderOut 18 = .ok (.getfield 26, 3) := by decide +kernel
theorem dX5_carryOrderOut_21 : decode cX5_carryOrderOut 21 = .ok (.getfield 229, 3) := by decide +kernel
theorem dX5_carryOrderOut_24 : decode cX5_carryOrderOut 24 = .ok (.bipush 102, 2) := by decide +kernel
theorem dX5_carryOrderOut_26 : decode cX5_carryOrderOut 26 = .ok (.if_icmp .ne 8, 3) := by decide +kernel
theorem dX5_carryOrderOut_29 : decode cX5_carryOrderOut 29 = .ok (.aload_n 0, 1) := by decide +kernel
theorem dX5_carryOrderOut_30 : decode cX5_carryOrderOut 30 = .ok (.invokevirtual 236, 3) := by decide +kernel
theorem dX5_carryOrderOut_33 : decode cX5_carryOrderOut 33 = .ok (.ireturn, 1) := by decide +kernel
theorem dX5_carryOrderOut_34 : decode cX5_carryOrderOut 34 = .ok (.aload_n 0, 1) := by decide +kernel
theorem dX5_carryOrderOut_35 : decode cX5_carryOrderOut 35 = .ok (.getfield 12, 3) := by decide +kernel
theorem dX5_carryOrderOut_38 : decode cX5_carryOrderOut 38 = .ok (.aload_n 0, 1) := by decide +kernel
theorem dX5_carryOrderOut_39 : decode cX5_carryOrderOut 39 = .ok (.getfield 26, 3) := by decide +kernel
theorem dX5_carryOrderOut_42 : decode cX5_carryOrderOut 42 = .ok (.getfield 239, 3) := by decide +kernel
theorem dX5_carryOrderOut_45 : decode cX5_carryOrderOut 45 = .ok (.invokevirtual 78, 3) := by decide +kernel
theorem dX5_carryOrderOut_48 : decode cX5_carryOrderOut 48 = .ok (.ifCond .eq 20, 3) := by decide +kernel
theorem dX5_carryOrderOut_51 : decode cX5_carryOrderOut 51 = .ok (.aload_n 0, 1) := by decide +kernel
theorem dX5_carryOrderOut_52 : decode cX5_carryOrderOut 52 = .ok (.getfield 12, 3) := by decide +kernel
theorem dX5_carryOrderOut_55 : decode cX5_carryOrderOut 55 = .ok (.aload_n 0, 1) := by decide +kernel
theorem dX5_carryOrderOut_56 : decode cX5_carryOrderOut 56 = .ok (.getfield 26, 3) := by decide +kernel
theorem dX5_carryOrderOut_59 : decode cX5_carryOrderOut 59 = .ok (.getfield 239, 3) := by decide +kernel
theorem dX5_carryOrderOut_62 : decode cX5_carryOrderOut 62 = .ok (.invokevirtual 82, 3) := by decide +kernel
theorem dX5_carryOrderOut_65 : decode cX5_carryOrderOut 65 = .ok (.goto 4, 3) := by decide +kernel
theorem dX5_carryOrderOut_68 : decode cX5_carryOrderOut 68 = .ok (.iconst (-1), 1) := by decide +kernel
theorem dX5_carryOrderOut_69 : decode cX5_carryOrderOut 69 = .ok (.ireturn, 1) := by decide +kernel
set_option maxRecDepth 20000 in
theorem ggX5_carryFadingOut_X3_errorOfFading : GoodIn wsX5_carryFadingOut wsX3_errorOfFading := goodIn_r _ [6, 7, 8, 9, 4, 10, 11, 12, 13, 14, 15, 16, 39, 40, 41, 42, 43, 44, 45, 46, 47] (by decide +kernel) (by decide +kernel)
set_option maxRecDepth 20000 in
theorem gX5_carryFadingOut_X3_errorOfFading_n72 : GoodIn wsX5_carryFadingOut (wsX3_errorOfFading) := ggX5_carryFadingOut_X3_errorOfFading
set_option maxRecDepth 20000 in
theorem ggX5_carryFadingOut_X3_fadeCells : GoodIn wsX5_carryFadingOut wsX3_fadeCells := goodIn_r _ [19, 20, 39, 40, 41, 42, 43, 44, 45, 46, 47] (by decide +kernel) (by decide +kernel)
set_option maxRecDepth 20000 in
theorem gX5_carryFadingOut_X3_fadeCells_n75 : GoodIn wsX5_carryFadingOut (wsX3_fadeCells) := ggX5_carryFadingOut_X3_fadeCells
theorem dX5_carryFadingOut_0 : decode cX5_carryFadingOut 0 = .ok (.aload_n 0, 1) := by decide +kernel
theorem dX5_carryFadingOut_1 : decode cX5_carryFadingOut 1 = .ok (.getfield 12, 3) := by decide +kernel
theorem dX5_carryFadingOut_4 : decode cX5_carryFadingOut 4 = .ok (.aload_n 0, 1) := by decide +kernel
theorem dX5_carryFadingOut_5 : decode cX5_carryFadingOut 5 = .ok (.getfield 26, 3) := by decide +kernel
theorem dX5_carryFadingOut_8 : decode cX5_carryFadingOut 8 = .ok (.getfield 239, 3) := by decide +kernel
theorem dX5_carryFadingOut_11 : decode cX5_carryFadingOut 11 = .ok (.aload_n 0, 1) := by decide +kernel
theorem dX5_carryFadingOut_12 : decode cX5_carryFadingOut 12 = .ok (.getfield 26, 3) := by decide +kernel
theorem dX5_carryFadingOut_15 : decode cX5_carryFadingOut 15 = .ok (.getfield 242, 3) := by decide +kernel
theorem dX5_carryFadingOut_18 : decode cX5_carryFadingOut 18 = .ok (.aload_n 0, 1) := by decide +kernel
theorem dX5_carryFadingOut_19 : decode cX5_carryFadingOut 19 = .ok (.getfield 26, 3) := by decide +kernel
theorem dX5_carryFadingOut_22 : decode cX5_carryFadingOut 22 = .ok (.getfield 245, 3) := by decide +kernel
theorem dX5_carryFadingOut_25 : decode cX5_carryFadingOut 25 = .ok (.invokevirtual 72, 3) := by decide +kernel
theorem dX5_carryFadingOut_28 : decode cX5_carryFadingOut 28 = .ok (.istore_n 1, 1) := by decide +kernel
theorem dX5_carryFadingOut_29 : decode cX5_carryFadingOut 29 = .ok (.iload_n 1, 1) := by decide +kernel
theorem dX5_carryFadingOut_30 : decode cX5_carryFadingOut 30 = .ok (.ifCond .eq 5, 3) := by decide +kernel
theorem dX5_carryFadingOut_33 : decode cX5_carryFadingOut 33 = .ok (.iload_n 1, 1) := by decide +kernel
theorem dX5_carryFadingOut_34 : decode cX5_carryFadingOut 34 = .ok (.ireturn, 1) := by decide +kernel
theorem dX5_carryFadingOut_35 : decode cX5_carryFadingOut 35 = .ok (.aload_n 0, 1) := by decide +kernel
theorem dX5_carryFadingOut_36 : decode cX5_carryFadingOut 36 = .ok (.getfield 12, 3) := by decide +kernel
theorem dX5_carryFadingOut_39 : decode cX5_carryFadingOut 39 = .ok (.aload_n 0, 1) := by decide +kernel
theorem dX5_carryFadingOut_40 : decode cX5_carryFadingOut 40 = .ok (.getfield 26, 3) := by decide +kernel
theorem dX5_carryFadingOut_43 : decode cX5_carryFadingOut 43 = .ok (.getfield 239, 3) := by decide +kernel
theorem dX5_carryFadingOut_46 : decode cX5_carryFadingOut 46 = .ok (.aload_n 0, 1) := by decide +kernel
theorem dX5_carryFadingOut_47 : decode cX5_carryFadingOut 47 = .ok (.getfield 26, 3) := by decide +kernel
theorem dX5_carryFadingOut_50 : decode cX5_carryFadingOut 50 = .ok (.getfield 242, 3) := by decide +kernel
theorem dX5_carryFadingOut_53 : decode cX5_carryFadingOut 53 = .ok (.aload_n 0, 1) := by decide +kernel
theorem dX5_carryFadingOut_54 : decode cX5_carryFadingOut 54 = .ok (.getfield 26, 3) := by decide +kernel
theorem dX5_carryFadingOut_57 : decode cX5_carryFadingOut 57 = .ok (.getfield 245, 3) := by decide +kernel
theorem dX5_carryFadingOut_60 : decode cX5_carryFadingOut 60 = .ok (.invokevirtual 75, 3) := by decide +kernel
theorem dX5_carryFadingOut_63 : decode cX5_carryFadingOut 63 = .ok (.ireturn, 1) := by decide +kernel
set_option maxRecDepth 20000 in
theorem ggX5_carryBlockOut_X3_errorOfBlock : GoodIn wsX5_carryBlockOut wsX3_errorOfBlock := goodIn_r _ [6, 7, 8, 9, 10, 4, 11, 60, 61, 62, 63, 64, 65, 66, 67, 68] (by decide +kernel) (by decide +kernel)
set_option maxRecDepth 20000 in
theorem gX5_carryBlockOut_X3_errorOfBlock_n60 : GoodIn wsX5_carryBlockOut (wsX3_errorOfBlock) := ggX5_carryBlockOut_X3_errorOfBlock
set_option maxRecDepth 20000 in
theorem ggX5_carryBlockOut_X3_appendBlock : GoodIn wsX5_carryBlockOut wsX3_appendBlock := goodIn_r _ [14, 7, 15, 16, 17, 18, 19, 20, 21, 22, 23, 24, 4, 25, 26, 27, 28, 29, 30, 31, 32, 33, 34, 35, 36, 37, 38, 39, 40, 41, 60, 61, 62, 63, 64, 65, 66, 67, 68] (by decide +kernel) (by decide +kernel)
set_option maxRecDepth 20000 in
theorem gX5_carryBlockOut_X3_appendBlock_n64 : GoodIn wsX5_carryBlockOut (wsX3_appendBlock) := ggX5_carryBlockOut_X3_appendBlock
theorem dX5_carryBlockOut_0 : decode cX5_carryBlockOut 0 = .ok (.aload_n 0, 1) := by decide +kernel
theorem dX5_carryBlockOut_1 : decode cX5_carryBlockOut 1 = .ok (.getfield 12, 3) := by decide +kernel
theorem dX5_carryBlockOut_4 : decode cX5_carryBlockOut 4 = .ok (.aload_n 0, 1) := by decide +kernel
theorem dX5_carryBlockOut_5 : decode cX5_carryBlockOut 5 = .ok (.getfield 26, 3) := by decide +kernel
theorem dX5_carryBlockOut_8 : decode cX5_carryBlockOut 8 = .ok (.getfield 239, 3) := by decide +kernel
theorem dX5_carryBlockOut_11 : decode cX5_carryBlockOut 11 = .ok (.aload_n 0, 1) := by decide +kernel
theorem dX5_carryBlockOut_12 : decode cX5_carryBlockOut 12 = .ok (.getfield 26, 3) := by decide +kernel
theorem dX5_carryBlockOut_15 : decode cX5_carryBlockOut 15 = .ok (.getfield 248, 3) := by decide +kernel
theorem dX5_carryBlockOut_18 : decode cX5_carryBlockOut 18 = .ok (.aload_n 0, 1) := by decide +kernel
theorem dX5_carryBlockOut_19 : decode cX5_carryBlockOut 19 = .ok (.getfield 26, 3) := by decide +kernel
theorem dX5_carryBlockOut_22 : decode cX5_carryBlockOut 22 = .ok (.getfield 251, 3) := by decide +kernel
theorem dX5_carryBlockOut_25 : decode cX5_carryBlockOut 25 = .ok (.invokevirtual 60, 3) := by decide +kernel
theorem dX5_carryBlockOut_28 : decode cX5_carryBlockOut 28 = .ok (.istore_n 1, 1) := by decide +kernel
theorem dX5_carryBlockOut_29 : decode cX5_carryBlockOut 29 = .ok (.iload_n 1, 1) := by decide +kernel
theorem dX5_carryBlockOut_30 : decode cX5_carryBlockOut 30 = .ok (.ifCond .eq 5, 3) := by decide +kernel
theorem dX5_carryBlockOut_33 : decode cX5_carryBlockOut 33 = .ok (.iload_n 1, 1) := by decide +kernel
theorem dX5_carryBlockOut_34 : decode cX5_carryBlockOut 34 = .ok (.ireturn, 1) := by decide +kernel
theorem dX5_carryBlockOut_35 : decode cX5_carryBlockOut 35 = .ok (.aload_n 0, 1) := by decide +kernel
theorem dX5_carryBlockOut_36 : decode cX5_carryBlockOut 36 = .ok (.getfield 26, 3) := by decide +kernel
theorem dX5_carryBlockOut_39 : decode cX5_carryBlockOut 39 = .ok (.getfield 254, 3) := by decide +kernel
theorem dX5_carryBlockOut_42 : decode cX5_carryBlockOut 42 = .ok (.ifCond .eq 6, 3) := by decide +kernel
theorem dX5_carryBlockOut_45 : decode cX5_carryBlockOut 45 = .ok (.bipush (-2), 2) := by decide +kernel
theorem dX5_carryBlockOut_47 : decode cX5_carryBlockOut 47 = .ok (.ireturn, 1) := by decide +kernel
theorem dX5_carryBlockOut_48 : decode cX5_carryBlockOut 48 = .ok (.aload_n 0, 1) := by decide +kernel
theorem dX5_carryBlockOut_49 : decode cX5_carryBlockOut 49 = .ok (.getfield 12, 3) := by decide +kernel
theorem dX5_carryBlockOut_52 : decode cX5_carryBlockOut 52 = .ok (.aload_n 0, 1) := by decide +kernel
theorem dX5_carryBlockOut_53 : decode cX5_carryBlockOut 53 = .ok (.getfield 26, 3) := by decide +kernel
theorem dX5_carryBlockOut_56 : decode cX5_carryBlockOut 56 = .ok (.getfield 239, 3) := by decide +kernel
theorem dX5_carryBlockOut_59 : decode cX5_carryBlockOut 59 = .ok (.aload_n 0, 1) := by decide +kernel
theorem dX5_carryBlockOut_60 : decode cX5_carryBlockOut 60 = .ok (.getfield 26, 3) := by decide +kernel
theorem dX5_carryBlockOut_63 : decode cX5_carryBlockOut 63 = .ok (.getfield 248, 3) := by decide +kernel
theorem dX5_carryBlockOut_66 : decode cX5_carryBlockOut 66 = .ok (.aload_n 0, 1) := by decide +kernel
theorem dX5_carryBlockOut_67 : decode cX5_carryBlockOut 67 = .ok (.getfield 26, 3) := by decide +kernel
theorem dX5_carryBlockOut_70 : decode cX5_carryBlockOut 70 = .ok (.getfield 251, 3) := by decide +kernel
theorem dX5_carryBlockOut_73 : decode cX5_carryBlockOut 73 = .ok (.aload_n 0, 1) := by decide +kernel
theorem dX5_carryBlockOut_74 : decode cX5_carryBlockOut 74 = .ok (.getfield 26, 3) := by decide +kernel
theorem dX5_carryBlockOut_77 : decode cX5_carryBlockOut 77 = .ok (.getfield 258, 3) := by decide +kernel
theorem dX5_carryBlockOut_80 : decode cX5_carryBlockOut 80 = .ok (.invokevirtual 64, 3) := by decide +kernel
theorem dX5_carryBlockOut_83 : decode cX5_carryBlockOut 83 = .ok (.ireturn, 1) := by decide +kernel
theorem dX6_init_0 : decode cX6_init 0 = .ok (.aload_n 0, 1) := by decide +kernel
theorem dX6_init_1 : decode cX6_init 1 = .ok (.invokespecial 1, 3) := by decide +kernel
theorem dX6_init_4 : decode cX6_init 4 = .ok (.aload_n 0, 1) := by decide +kernel
theorem dX6_init_5 : decode cX6_init 5 = .ok (.sipush 2628, 3) := by decide +kernel
theorem dX6_init_8 : decode cX6_init 8 = .ok (.newarray .int, 2) := by decide +kernel
theorem dX6_init_10 : decode cX6_init 10 = .ok (.putfield 7, 3) := by decide +kernel
theorem dX6_init_13 : decode cX6_init 13 = .ok (.aload_n 0, 1) := by decide +kernel
theorem dX6_init_14 : decode cX6_init 14 = .ok (.sipush 15768, 3) := by decide +kernel
theorem dX6_init_17 : decode cX6_init 17 = .ok (.newarray .int, 2) := by decide +kernel
theorem dX6_init_19 : decode cX6_init 19 = .ok (.putfield 13, 3) := by decide +kernel
theorem dX6_init_22 : decode cX6_init 22 = .ok (.aload_n 0, 1) := by decide +kernel
theorem dX6_init_23 : decode cX6_init 23 = .ok (.sipush 5256, 3) := by decide +kernel
theorem dX6_init_26 : decode cX6_init 26 = .ok (.newarray .int, 2) := by decide +kernel
theorem dX6_init_28 : decode cX6_init 28 = .ok (.putfield 16, 3) := by decide +kernel
theorem dX6_init_31 : decode cX6_init 31 = .ok (.aload_n 0, 1) := by decide +kernel
theorem dX6_init_32 : decode cX6_init 32 = .ok (.iconst 2, 1) := by decide +kernel
theorem dX6_init_33 : decode cX6_init 33 = .ok (.newarray .int, 2) := by decide +kernel
theorem dX6_init_35 : decode cX6_init 35 = .ok (.putfield 19, 3) := by decide +kernel
theorem dX6_init_38 : decode cX6_init 38 = .ok (.aload_n 0, 1) := by decide +kernel
theorem dX6_init_39 : decode cX6_init 39 = .ok (.bipush 80, 2) := by decide +kernel
theorem dX6_init_41 : decode cX6_init 41 = .ok (.newarray .int, 2) := by decide +kernel
theorem dX6_init_43 : decode cX6_init 43 = .ok (.putfield 22, 3) := by decide +kernel
theorem dX6_init_46 : decode cX6_init 46 = .ok (.aload_n 0, 1) := by decide +kernel
theorem dX6_init_47 : decode cX6_init 47 = .ok (.bipush 7, 2) := by decide +kernel
theorem dX6_init_49 : decode cX6_init 49 = .ok (.newarray .int, 2) := by decide +kernel
theorem dX6_init_51 : decode cX6_init 51 = .ok (.putfield 25, 3) := by decide +kernel
theorem dX6_init_54 : decode cX6_init 54 = .ok (.aload_n 0, 1) := by decide +kernel
theorem dX6_init_55 : decode cX6_init 55 = .ok (.bipush 44, 2) := by decide +kernel
theorem dX6_init_57 : decode cX6_init 57 = .ok (.newarray .int, 2) := by decide +kernel
theorem dX6_init_59 : decode cX6_init 59 = .ok (.putfield 28, 3) := by decide +kernel
theorem dX6_init_62 : decode cX6_init 62 = .ok (.aload_n 0, 1) := by decide +kernel
theorem dX6_init_63 : decode cX6_init 63 = .ok (.getfield 7, 3) := by decide +kernel
theorem dX6_init_66 : decode cX6_init 66 = .ok (.iconst 0, 1) := by decide +kernel
theorem dX6_init_67 : decode cX6_init 67 = .ok (.bipush 60, 2) := by decide +kernel
theorem dX6_init_69 : decode cX6_init 69 = .ok (.iastore, 1) := by decide +kernel
theorem dX6_init_70 : decode cX6_init 70 = .ok (.aload_n 0, 1) := by decide +kernel
theorem dX6_init_71 : decode cX6_init 71 = .ok (.getfield 7, 3) := by decide +kernel
theorem dX6_init_74 : decode cX6_init 74 = .ok (.iconst 1, 1) := by decide +kernel
theorem dX6_init_75 : decode cX6_init 75 = .ok (.bipush 30, 2) := by decide +kernel
theorem dX6_init_77 : decode cX6_init 77 = .ok (.iastore, 1) := by decide +kernel
theorem dX6_init_78 : decode cX6_init 78 = .ok (.aload_n 0, 1) := by decide +kernel
theorem dX6_init_79 : decode cX6_init 79 = .ok (.getfield 7, 3) := by decide +kernel
theorem dX6_init_82 : decode cX6_init 82 = .ok (.iconst 2, 1) := by decide +kernel
theorem dX6_init_83 : decode cX6_init 83 = .ok (.iconst 3, 1) := by decide +kernel
theorem dX6_init_84 : decode cX6_init 84 = .ok (.iastore, 1) := by decide +kernel
theorem dX6_init_85 : decode cX6_init 85 = .ok (.return_, 1) := by decide +kernel
theorem dX6_moves_0 : decode cX6_moves 0 = .ok (.iconst 0, 1) := by decide +kernel
theorem dX6_moves_1 : decode cX6_moves 1 = .ok (.istore 4, 2) := by decide +kernel
theorem dX6_moves_3 : decode cX6_moves 3 = .ok (.iload 4, 2) := by decide +kernel
theorem dX6_moves_5 : decode cX6_moves 5 = .ok (.sipush 2628, 3) := by decide +kernel
theorem dX6_moves_8 : decode cX6_moves 8 = .ok (.if_icmp .ge 21, 3) := by decide +kernel
theorem dX6_moves_11 : decode cX6_moves 11 = .ok (.aload_n 2, 1) := by decide +kernel
theorem dX6_moves_12 : decode cX6_moves 12 = .ok (.iload_n 3, 1) := by decide +kernel
theorem dX6_moves_13 : decode cX6_moves 13 = .ok (.iload 4, 2) := by decide +kernel
theorem dX6_moves_15 : decode cX6_moves 15 = .ok (.iadd, 1) := by decide +kernel
theorem dX6_moves_16 : decode cX6_moves 16 = .ok (.aload_n 0, 1) := by decide +kernel
theorem dX6_moves_17 : decode cX6_moves 17 = .ok (.iload_n 1, 1) := by decide +kernel
theorem dX6_moves_18 : decode cX6_moves 18 = .ok (.iload 4, 2) := by decide +kernel
theorem dX6_moves_20 : decode cX6_moves 20 = .ok (.iadd, 1) := by decide +kernel
theorem dX6_moves_21 : decode cX6_moves 21 = .ok (.iaload, 1) := by decide +kernel
theorem dX6_moves_22 : decode cX6_moves 22 = .ok (.iastore, 1) := by decide +kernel
theorem dX6_moves_23 : decode cX6_moves 23 = .ok (.iinc 4 1, 3) := by decide +kernel
theorem dX6_moves_26 : decode cX6_moves 26 = .ok (.goto (-23), 3) := by decide +kernel
theorem dX6_moves_29 : decode cX6_moves 29 = .ok (.return_, 1) := by decide +kernel
theorem dX6_within_0 : decode cX6_within 0 = .ok (.iload_n 0, 1) := by decide +kernel
theorem dX6_within_1 : decode cX6_within 1 = .ok (.iload_n 1, 1) := by decide +kernel
theorem dX6_within_2 : decode cX6_within 2 = .ok (.if_icmp .lt 12, 3) := by decide +kernel
theorem dX6_within_5 : decode cX6_within 5 = .ok (.iload_n 0, 1) := by decide +kernel
theorem dX6_within_6 : decode cX6_within 6 = .ok (.iload_n 2, 1) := by decide +kernel
theorem dX6_within_7 : decode cX6_within 7 = .ok (.if_icmp .gt 7, 3) := by decide +kernel
theorem dX6_within_10 : decode cX6_within 10 = .ok (.iconst 1, 1) := by decide +kernel
theorem dX6_within_11 : decode cX6_within 11 = .ok (.goto 4, 3) := by decide +kernel
theorem dX6_within_14 : decode cX6_within 14 = .ok (.iconst 0, 1) := by decide +kernel
theorem dX6_within_15 : decode cX6_within 15 = .ok (.ireturn, 1) := by decide +kernel
theorem dX6_size_0 : decode cX6_size 0 = .ok (.iload_n 0, 1) := by decide +kernel
theorem dX6_size_1 : decode cX6_size 1 = .ok (.ifCond .ge 8, 3) := by decide +kernel
theorem dX6_size_4 : decode cX6_size 4 = .ok (.iload_n 0, 1) := by decide +kernel
theorem dX6_size_5 : decode cX6_size 5 = .ok (.ineg, 1) := by decide +kernel
theorem dX6_size_6 : decode cX6_size 6 = .ok (.goto 4, 3) := by decide +kernel
theorem dX6_size_9 : decode cX6_size 9 = .ok (.iload_n 0, 1) := by decide +kernel
theorem dX6_size_10 : decode cX6_size 10 = .ok (.ireturn, 1) := by decide +kernel
set_option maxRecDepth 20000 in
theorem ggX6_record_X6_moves : GoodIn wsX6_record wsX6_moves := goodIn_r _ [7] (by decide +kernel) (by decide +kernel)
set_option maxRecDepth 20000 in
theorem gX6_record_X6_moves : GoodIn wsX6_record (va_wsS RX6 35 yX6_moves wsX6_moves) := goodIn_app (goodIn_of _ (by decide +kernel)) ggX6_record_X6_moves
theorem dX6_record_0 : decode cX6_record 0 = .ok (.aload_n 0, 1) := by decide +kernel
theorem dX6_record_1 : decode cX6_record 1 = .ok (.getfield 31, 3) := by decide +kernel
theorem dX6_record_4 : decode cX6_record 4 = .ok (.bipush 6, 2) := by decide +kernel
theorem dX6_record_6 : decode cX6_record 6 = .ok (.if_icmp .ne 44, 3) := by decide +kernel
theorem dX6_record_9 : decode cX6_record 9 = .ok (.iconst 0, 1) := by decide +kernel
theorem dX6_record_10 : decode cX6_record 10 = .ok (.istore_n 1, 1) := by decide +kernel
theorem dX6_record_11 : decode cX6_record 11 = .ok (.iload_n 1, 1) := by decide +kernel
theorem dX6_record_12 : decode cX6_record 12 = .ok (.sipush 13140, 3) := by decide +kernel
theorem dX6_record_15 : decode cX6_record 15 = .ok (.if_icmp .ge 25, 3) := by decide +kernel
theorem dX6_record_18 : decode cX6_record 18 = .ok (.aload_n 0, 1) := by decide +kernel
theorem dX6_record_19 : decode cX6_record 19 = .ok (.getfield 13, 3) := by decide +kernel
theorem dX6_record_22 : decode cX6_record 22 = .ok (.iload_n 1, 1) := by decide +kernel
theorem dX6_record_23 : decode cX6_record 23 = .ok (.aload_n 0, 1) := by decide +kernel
theorem dX6_record_24 : decode cX6_record 24 = .ok (.getfield 13, 3) := by decide +kernel
theorem dX6_record_27 : decode cX6_record 27 = .ok (.iload_n 1, 1) := by decide +kernel
theorem dX6_record_28 : decode cX6_record 28 = .ok (.sipush 2628, 3) := by decide +kernel
theorem dX6_record_31 : decode cX6_record 31 = .ok (.iadd, 1) := by decide +kernel
theorem dX6_record_32 : decode cX6_record 32 = .ok (.iaload, 1) := by decide +kernel
theorem dX6_record_33 : decode cX6_record 33 = .ok (.iastore, 1) := by decide +kernel
theorem dX6_record_34 : decode cX6_record 34 = .ok (.iinc 1 1, 3) := by decide +kernel
theorem dX6_record_37 : decode cX6_record 37 = .ok (.goto (-26), 3) := by decide +kernel
theorem dX6_record_40 : decode cX6_record 40 = .ok (.aload_n 0, 1) := by decide +kernel
theorem dX6_record_41 : decode cX6_record 41 = .ok (.dup, 1) := by decide +kernel
theorem dX6_record_42 : decode cX6_record 42 = .ok (.getfield 31, 3) := by decide +kernel
theorem dX6_record_45 : decode cX6_record 45 = .ok (.iconst 1, 1) := by decide +kernel
theorem dX6_record_46 : decode cX6_record 46 = .ok (.isub, 1) := by decide +kernel
theorem dX6_record_47 : decode cX6_record 47 = .ok (.putfield 31, 3) := by decide +kernel
theorem dX6_record_50 : decode cX6_record 50 = .ok (.aload_n 0, 1) := by decide +kernel
theorem dX6_record_51 : decode cX6_record 51 = .ok (.getfield 7, 3) := by decide +kernel
theorem dX6_record_54 : decode cX6_record 54 = .ok (.iconst 0, 1) := by decide +kernel
theorem dX6_record_55 : decode cX6_record 55 = .ok (.aload_n 0, 1) := by decide +kernel
theorem dX6_record_56 : decode cX6_record 56 = .ok (.getfield 13, 3) := by decide +kernel
theorem dX6_record_59 : decode cX6_record 59 = .ok (.aload_n 0, 1) := by decide +kernel
theorem dX6_record_60 : decode cX6_record 60 = .ok (.getfield 31, 3) := by decide +kernel
theorem dX6_record_63 : decode cX6_record 63 = .ok (.sipush 2628, 3) := by decide +kernel
theorem dX6_record_66 : decode cX6_record 66 = .ok (.imul, 1) := by decide +kernel
theorem dX6_record_67 : decode cX6_record 67 = .ok (.invokestatic 35, 3) := by decide +kernel
theorem dX6_record_70 : decode cX6_record 70 = .ok (.aload_n 0, 1) := by decide +kernel
theorem dX6_record_71 : decode cX6_record 71 = .ok (.dup, 1) := by decide +kernel
theorem dX6_record_72 : decode cX6_record 72 = .ok (.getfield 31, 3) := by decide +kernel
theorem dX6_record_75 : decode cX6_record 75 = .ok (.iconst 1, 1) := by decide +kernel
theorem dX6_record_76 : decode cX6_record 76 = .ok (.iadd, 1) := by decide +kernel
theorem dX6_record_77 : decode cX6_record 77 = .ok (.putfield 31, 3) := by decide +kernel
theorem dX6_record_80 : decode cX6_record 80 = .ok (.return_, 1) := by decide +kernel
set_option maxRecDepth 20000 in
theorem ggX6_isBlock_X6_within : GoodIn wsX6_isBlock wsX6_within := goodIn_r _ [5] (by decide +kernel) (by decide +kernel)
set_option maxRecDepth 20000 in
theorem gX6_isBlock_X6_within : GoodIn wsX6_isBlock (va_wsS RX6 39 yX6_within wsX6_within) := goodIn_app (goodIn_of _ (by decide +kernel)) ggX6_isBlock_X6_within
theorem dX6_isBlock_0 : decode cX6_isBlock 0 = .ok (.iload_n 1, 1) := by decide +kernel
theorem dX6_isBlock_1 : decode cX6_isBlock 1 = .ok (.iconst 0, 1) := by decide +kernel
theorem dX6_isBlock_2 : decode cX6_isBlock 2 = .ok (.aload_n 0, 1) := by decide +kernel
theorem dX6_isBlock_3 : decode cX6_isBlock 3 = .ok (.getfield 7, 3) := by decide +kernel
theorem dX6_isBlock_6 : decode cX6_isBlock 6 = .ok (.iconst 3, 1) := by decide +kernel
theorem dX6_isBlock_7 : decode cX6_isBlock 7 = .ok (.iaload, 1) := by decide +kernel
theorem dX6_isBlock_8 : decode cX6_isBlock 8 = .ok (.iconst 1, 1) := by decide +kernel
theorem dX6_isBlock_9 : decode cX6_isBlock 9 = .ok (.isub, 1) := by decide +kernel
theorem dX6_isBlock_10 : decode cX6_isBlock 10 = .ok (.invokestatic 39, 3) := by decide +kernel
theorem dX6_isBlock_13 : decode cX6_isBlock 13 = .ok (.ireturn, 1) := by decide +kernel
theorem dX6_part_0 : decode cX6_part 0 = .ok (.aload_n 0, 1) := by decide +kernel
theorem dX6_part_1 : decode cX6_part 1 = .ok (.getfield 7, 3) := by decide +kernel
theorem dX6_part_4 : decode cX6_part 4 = .ok (.iconst 4, 1) := by decide +kernel
theorem dX6_part_5 : decode cX6_part 5 = .ok (.bipush 10, 2) := by decide +kernel
theorem dX6_part_7 : decode cX6_part 7 = .ok (.iload_n 1, 1) := by decide +kernel
theorem dX6_part_8 : decode cX6_part 8 = .ok (.imul, 1) := by decide +kernel
theorem dX6_part_9 : decode cX6_part 9 = .ok (.iadd, 1) := by decide +kernel
theorem dX6_part_10 : decode cX6_part 10 = .ok (.iload_n 2, 1) := by decide +kernel
theorem dX6_part_11 : decode cX6_part 11 = .ok (.iadd, 1) := by decide +kernel
theorem dX6_part_12 : decode cX6_part 12 = .ok (.iaload, 1) := by decide +kernel
theorem dX6_part_13 : decode cX6_part 13 = .ok (.ireturn, 1) := by decide +kernel
set_option maxRecDepth 20000 in
theorem ggX6_tellingSize_X6_part : GoodIn wsX6_tellingSize wsX6_part := goodIn_r _ [5, 6, 7, 8, 9, 10, 11, 12, 13, 14, 15, 16, 17, 18, 19] (by decide +kernel) (by decide +kernel)
set_option maxRecDepth 20000 in
theorem gX6_tellingSize_X6_part : GoodIn wsX6_tellingSize (wsV RX6 43 RX6 yX6_part wsX6_part) := goodIn_app (goodIn_of _ (by decide +kernel)) ggX6_tellingSize_X6_part
theorem dX6_tellingSize_0 : decode cX6_tellingSize 0 = .ok (.iconst 4, 1) := by decide +kernel
theorem dX6_tellingSize_1 : decode cX6_tellingSize 1 = .ok (.bipush 9, 2) := by decide +kernel
theorem dX6_tellingSize_3 : decode cX6_tellingSize 3 = .ok (.aload_n 0, 1) := by decide +kernel
theorem dX6_tellingSize_4 : decode cX6_tellingSize 4 = .ok (.iload_n 1, 1) := by decide +kernel
theorem dX6_tellingSize_5 : decode cX6_tellingSize 5 = .ok (.iconst 2, 1) := by decide +kernel
theorem dX6_tellingSize_6 : decode cX6_tellingSize 6 = .ok (.invokevirtual 43, 3) := by decide +kernel
theorem dX6_tellingSize_9 : decode cX6_tellingSize 9 = .ok (.iconst 1, 1) := by decide +kernel
theorem dX6_tellingSize_10 : decode cX6_tellingSize 10 = .ok (.iadd, 1) := by decide +kernel
theorem dX6_tellingSize_11 : decode cX6_tellingSize 11 = .ok (.imul, 1) := by decide +kernel
theorem dX6_tellingSize_12 : decode cX6_tellingSize 12 = .ok (.iadd, 1) := by decide +kernel
theorem dX6_tellingSize_13 : decode cX6_tellingSize 13 = .ok (.ireturn, 1) := by decide +kernel
set_option maxRecDepth 20000 in
theorem ggX6_cellsOf_X6_tellingSize : GoodIn wsX6_cellsOf wsX6_tellingSize := goodIn_r _ [5, 6, 7, 8, 4, 9, 10, 11, 12, 13, 14, 15, 16, 17, 18, 19, 20, 21, 22, 23] (by decide +kernel) (by decide +kernel)
set_option maxRecDepth 20000 in
theorem gX6_cellsOf_X6_tellingSize : GoodIn wsX6_cellsOf (wsV RX6 47 RX6 yX6_tellingSize wsX6_tellingSize) := goodIn_app (goodIn_of _ (by decide +kernel)) ggX6_cellsOf_X6_tellingSize
theorem dX6_cellsOf_0 : decode cX6_cellsOf 0 = .ok (.iconst 2, 1) := by decide +kernel
theorem dX6_cellsOf_1 : decode cX6_cellsOf 1 = .ok (.aload_n 0, 1) := by decide +kernel
theorem dX6_cellsOf_2 : decode cX6_cellsOf 2 = .ok (.iload_n 1, 1) := by decide +kernel
theorem dX6_cellsOf_3 : decode cX6_cellsOf 3 = .ok (.invokevirtual 47, 3) := by decide +kernel
theorem dX6_cellsOf_6 : decode cX6_cellsOf 6 = .ok (.imul, 1) := by decide +kernel
theorem dX6_cellsOf_7 : decode cX6_cellsOf 7 = .ok (.iconst 2, 1) := by decide +kernel
theorem dX6_cellsOf_8 : decode cX6_cellsOf 8 = .ok (.iadd, 1) := by decide +kernel
theorem dX6_cellsOf_9 : decode cX6_cellsOf 9 = .ok (.ireturn, 1) := by decide +kernel
set_option maxRecDepth 20000 in
theorem ggX6_firstOf_X6_cellsOf : GoodIn wsX6_firstOf wsX6_cellsOf := goodIn_r _ [5, 6, 7, 8, 4, 9, 10, 11, 12, 13, 14, 15, 16, 17, 18, 19, 20, 21, 22, 23, 24, 25, 26, 27] (by decide +kernel) (by decide +kernel)
set_option maxRecDepth 20000 in
theorem gX6_firstOf_X6_cellsOf : GoodIn wsX6_firstOf (wsV RX6 51 RX6 yX6_cellsOf wsX6_cellsOf) := goodIn_app (goodIn_of _ (by decide +kernel)) ggX6_firstOf_X6_cellsOf
theorem dX6_firstOf_0 : decode cX6_firstOf 0 = .ok (.iconst 0, 1) := by decide +kernel
theorem dX6_firstOf_1 : decode cX6_firstOf 1 = .ok (.istore_n 2, 1) := by decide +kernel
theorem dX6_firstOf_2 : decode cX6_firstOf 2 = .ok (.iconst 0, 1) := by decide +kernel
theorem dX6_firstOf_3 : decode cX6_firstOf 3 = .ok (.istore_n 3, 1) := by decide +kernel
theorem dX6_firstOf_4 : decode cX6_firstOf 4 = .ok (.iload_n 3, 1) := by decide +kernel
theorem dX6_firstOf_5 : decode cX6_firstOf 5 = .ok (.iload_n 1, 1) := by decide +kernel
theorem dX6_firstOf_6 : decode cX6_firstOf 6 = .ok (.if_icmp .ge 17, 3) := by decide +kernel
theorem dX6_firstOf_9 : decode cX6_firstOf 9 = .ok (.iload_n 2, 1) := by decide +kernel
theorem dX6_firstOf_10 : decode cX6_firstOf 10 = .ok (.aload_n 0, 1) := by decide +kernel
theorem dX6_firstOf_11 : decode cX6_firstOf 11 = .ok (.iload_n 3, 1) := by decide +kernel
theorem dX6_firstOf_12 : decode cX6_firstOf 12 = .ok (.invokevirtual 51, 3) := by decide +kernel
theorem dX6_firstOf_15 : decode cX6_firstOf 15 = .ok (.iadd, 1) := by decide +kernel
theorem dX6_firstOf_16 : decode cX6_firstOf 16 = .ok (.istore_n 2, 1) := by decide +kernel
theorem dX6_firstOf_17 : decode cX6_firstOf 17 = .ok (.iinc 3 1, 3) := by decide +kernel
theorem dX6_firstOf_20 : decode cX6_firstOf 20 = .ok (.goto (-16), 3) := by decide +kernel
theorem dX6_firstOf_23 : decode cX6_firstOf 23 = .ok (.iload_n 2, 1) := by decide +kernel
theorem dX6_firstOf_24 : decode cX6_firstOf 24 = .ok (.ireturn, 1) := by decide +kernel
set_option maxRecDepth 20000 in
theorem ggX6_allCells_X6_firstOf : GoodIn wsX6_allCells wsX6_firstOf := goodIn_r _ [6, 7, 8, 9, 5, 10, 11, 12, 13, 14, 15, 16, 17, 18, 1, 19, 20, 21, 22, 23, 24, 25, 26, 27, 28, 29, 30, 31] (by decide +kernel) (by decide +kernel)
set_option maxRecDepth 20000 in
theorem gX6_allCells_X6_firstOf : GoodIn wsX6_allCells (wsV RX6 54 RX6 yX6_firstOf wsX6_firstOf) := goodIn_app (goodIn_of _ (by decide +kernel)) ggX6_allCells_X6_firstOf
theorem dX6_allCells_0 : decode cX6_allCells 0 = .ok (.aload_n 0, 1) := by decide +kernel
theorem dX6_allCells_1 : decode cX6_allCells 1 = .ok (.aload_n 0, 1) := by decide +kernel
theorem dX6_allCells_2 : decode cX6_allCells 2 = .ok (.getfield 7, 3) := by decide +kernel
theorem dX6_allCells_5 : decode cX6_allCells 5 = .ok (.iconst 3, 1) := by decide +kernel
theorem dX6_allCells_6 : decode cX6_allCells 6 = .ok (.iaload, 1) := by decide +kernel
theorem dX6_allCells_7 : decode cX6_allCells 7 = .ok (.invokevirtual 54, 3) := by decide +kernel
theorem dX6_allCells_10 : decode cX6_allCells 10 = .ok (.ireturn, 1) := by decide +kernel
set_option maxRecDepth 20000 in
theorem ggX6_isCell_X6_allCells : GoodIn wsX6_isCell wsX6_allCells := goodIn_r _ [5, 6, 7, 8, 9, 4, 10, 11, 12, 13, 14, 15, 16, 17, 18, 19, 20, 21, 22, 26, 27, 28, 29, 30, 31, 32, 33, 34, 35, 36, 37, 38] (by decide +kernel) (by decide +kernel)
set_option maxRecDepth 20000 in
theorem gX6_isCell_X6_allCells : GoodIn wsX6_isCell (wsV RX6 57 RX6 yX6_allCells wsX6_allCells) := goodIn_app (goodIn_of _ (by decide +kernel)) ggX6_isCell_X6_allCells
set_option maxRecDepth 20000 in
theorem ggX6_isCell_X6_within : GoodIn wsX6_isCell wsX6_within := goodIn_r _ [25] (by decide +kernel) (by decide +kernel)
set_option maxRecDepth 20000 in
theorem gX6_isCell_X6_within : GoodIn wsX6_isCell (va_wsS RX6 39 yX6_within wsX6_within) := goodIn_app (goodIn_of _ (by decide +kernel)) ggX6_isCell_X6_within
theorem dX6_isCell_0 : decode cX6_isCell 0 = .ok (.iload_n 1, 1) := by decide +kernel
theorem dX6_isCell_1 : decode cX6_isCell 1 = .ok (.iconst 0, 1) := by decide +kernel
theorem dX6_isCell_2 : decode cX6_isCell 2 = .ok (.aload_n 0, 1) := by decide +kernel
theorem dX6_isCell_3 : decode cX6_isCell 3 = .ok (.invokevirtual 57, 3) := by decide +kernel
theorem dX6_isCell_6 : decode cX6_isCell 6 = .ok (.iconst 1, 1) := by decide +kernel
theorem dX6_isCell_7 : decode cX6_isCell 7 = .ok (.isub, 1) := by decide +kernel
theorem dX6_isCell_8 : decode cX6_isCell 8 = .ok (.invokestatic 39, 3) := by decide +kernel
theorem dX6_isCell_11 : decode cX6_isCell 11 = .ok (.ireturn, 1) := by decide +kernel
set_option maxRecDepth 20000 in
theorem ggX6_blockOf_X6_firstOf : GoodIn wsX6_blockOf wsX6_firstOf := goodIn_r _ [5, 6, 7, 8, 4, 9, 10, 11, 12, 13, 14, 15, 16, 17, 18, 19, 20, 21, 22, 23, 24, 25, 26, 27, 28, 29, 30, 31] (by decide +kernel) (by decide +kernel)
set_option maxRecDepth 20000 in
theorem gX6_blockOf_X6_firstOf : GoodIn wsX6_blockOf (wsV RX6 54 RX6 yX6_firstOf wsX6_firstOf) := goodIn_app (goodIn_of _ (by decide +kernel)) ggX6_blockOf_X6_firstOf
theorem dX6_blockOf_0 : decode cX6_blockOf 0 = .ok (.iconst 0, 1) := by decide +kernel
theorem dX6_blockOf_1 : decode cX6_blockOf 1 = .ok (.istore_n 2, 1) := by decide +kernel
theorem dX6_blockOf_2 : decode cX6_blockOf 2 = .ok (.aload_n 0, 1) := by decide +kernel
theorem dX6_blockOf_3 : decode cX6_blockOf 3 = .ok (.iload_n 2, 1) := by decide +kernel
theorem dX6_blockOf_4 : decode cX6_blockOf 4 = .ok (.iconst 1, 1) := by decide +kernel
theorem dX6_blockOf_5 : decode cX6_blockOf 5 = .ok (.iadd, 1) := by decide +kernel
theorem dX6_blockOf_6 : decode cX6_blockOf 6 = .ok (.invokevirtual 54, 3) := by decide +kernel
theorem dX6_blockOf_9 : decode cX6_blockOf 9 = .ok (.iload_n 1, 1) := by decide +kernel
theorem dX6_blockOf_10 : decode cX6_blockOf 10 = .ok (.if_icmp .gt 9, 3) := by decide +kernel
theorem dX6_blockOf_13 : decode cX6_blockOf 13 = .ok (.iinc 2 1, 3) := by decide +kernel
theorem dX6_blockOf_16 : decode cX6_blockOf 16 = .ok (.goto (-14), 3) := by decide +kernel
theorem dX6_blockOf_19 : decode cX6_blockOf 19 = .ok (.iload_n 2, 1) := by decide +kernel
theorem dX6_blockOf_20 : decode cX6_blockOf 20 = .ok (.ireturn, 1) := by decide +kernel
theorem dX6_volumeOf_0 : decode cX6_volumeOf 0 = .ok (.aload_n 0, 1) := by decide +kernel
theorem dX6_volumeOf_1 : decode cX6_volumeOf 1 = .ok (.getfield 7, 3) := by decide +kernel
theorem dX6_volumeOf_4 : decode cX6_volumeOf 4 = .ok (.sipush 164, 3) := by decide +kernel
theorem dX6_volumeOf_7 : decode cX6_volumeOf 7 = .ok (.iload_n 1, 1) := by decide +kernel
theorem dX6_volumeOf_8 : decode cX6_volumeOf 8 = .ok (.iadd, 1) := by decide +kernel
theorem dX6_volumeOf_9 : decode cX6_volumeOf 9 = .ok (.iaload, 1) := by decide +kernel
theorem dX6_volumeOf_10 : decode cX6_volumeOf 10 = .ok (.sipush 128, 3) := by decide +kernel
theorem dX6_volumeOf_13 : decode cX6_volumeOf 13 = .ok (.irem, 1) := by decide +kernel
theorem dX6_volumeOf_14 : decode cX6_volumeOf 14 = .ok (.ireturn, 1) := by decide +kernel
theorem dX6_badness_0 : decode cX6_badness 0 = .ok (.aload_n 0, 1) := by decide +kernel
theorem dX6_badness_1 : decode cX6_badness 1 = .ok (.getfield 7, 3) := by decide +kernel
theorem dX6_badness_4 : decode cX6_badness 4 = .ok (.sipush 164, 3) := by decide +kernel
theorem dX6_badness_7 : decode cX6_badness 7 = .ok (.iload_n 1, 1) := by decide +kernel
theorem dX6_badness_8 : decode cX6_badness 8 = .ok (.iadd, 1) := by decide +kernel
theorem dX6_badness_9 : decode cX6_badness 9 = .ok (.iaload, 1) := by decide +kernel
theorem dX6_badness_10 : decode cX6_badness 10 = .ok (.sipush 128, 3) := by decide +kernel
theorem dX6_badness_13 : decode cX6_badness 13 = .ok (.idiv, 1) := by decide +kernel
theorem dX6_badness_14 : decode cX6_badness 14 = .ok (.ireturn, 1) := by decide +kernel
theorem dX6_isOdd_0 : decode cX6_isOdd 0 = .ok (.iconst 0, 1) := by decide +kernel
theorem dX6_isOdd_1 : decode cX6_isOdd 1 = .ok (.istore_n 1, 1) := by decide +kernel
theorem dX6_isOdd_2 : decode cX6_isOdd 2 = .ok (.iconst 0, 1) := by decide +kernel
theorem dX6_isOdd_3 : decode cX6_isOdd 3 = .ok (.istore_n 2, 1) := by decide +kernel
theorem dX6_isOdd_4 : decode cX6_isOdd 4 = .ok (.iload_n 2, 1) := by decide +kernel
theorem dX6_isOdd_5 : decode cX6_isOdd 5 = .ok (.bipush 8, 2) := by decide +kernel
theorem dX6_isOdd_7 : decode cX6_isOdd 7 = .ok (.if_icmp .ge 17, 3) := by decide +kernel
theorem dX6_isOdd_10 : decode cX6_isOdd 10 = .ok (.iload_n 1, 1) := by decide +kernel
theorem dX6_isOdd_11 : decode cX6_isOdd 11 = .ok (.iload_n 0, 1) := by decide +kernel
theorem dX6_isOdd_12 : decode cX6_isOdd 12 = .ok (.iload_n 2, 1) := by decide +kernel
theorem dX6_isOdd_13 : decode cX6_isOdd 13 = .ok (.ishr, 1) := by decide +kernel
theorem dX6_isOdd_14 : decode cX6_isOdd 14 = .ok (.iconst 1, 1) := by decide +kernel
theorem dX6_isOdd_15 : decode cX6_isOdd 15 = .ok (.iand, 1) := by decide +kernel
theorem dX6_isOdd_16 : decode cX6_isOdd 16 = .ok (.iadd, 1) := by decide +kernel
theorem dX6_isOdd_17 : decode cX6_isOdd 17 = .ok (.istore_n 1, 1) := by decide +kernel
theorem dX6_isOdd_18 : decode cX6_isOdd 18 = .ok (.iinc 2 1, 3) := by decide +kernel
theorem dX6_isOdd_21 : decode cX6_isOdd 21 = .ok (.goto (-17), 3) := by decide +kernel
theorem dX6_isOdd_24 : decode cX6_isOdd 24 = .ok (.iload_n 1, 1) := by decide +kernel
theorem dX6_isOdd_25 : decode cX6_isOdd 25 = .ok (.iconst 2, 1) := by decide +kernel
theorem dX6_isOdd_26 : decode cX6_isOdd 26 = .ok (.irem, 1) := by decide +kernel
theorem dX6_isOdd_27 : decode cX6_isOdd 27 = .ok (.ireturn, 1) := by decide +kernel
set_option maxRecDepth 20000 in
theorem ggX6_sumOf_X6_part : GoodIn wsX6_sumOf wsX6_part := goodIn_r _ [5, 6, 7, 8, 9, 10, 11, 12, 13, 14, 15, 16, 17, 18, 19] (by decide +kernel) (by decide +kernel)
set_option maxRecDepth 20000 in
theorem gX6_sumOf_X6_part : GoodIn wsX6_sumOf (wsV RX6 43 RX6 yX6_part wsX6_part) := goodIn_app (goodIn_of _ (by decide +kernel)) ggX6_sumOf_X6_part
theorem dX6_sumOf_0 : decode cX6_sumOf 0 = .ok (.iconst 0, 1) := by decide +kernel
theorem dX6_sumOf_1 : decode cX6_sumOf 1 = .ok (.istore_n 2, 1) := by decide +kernel
theorem dX6_sumOf_2 : decode cX6_sumOf 2 = .ok (.iconst 0, 1) := by decide +kernel
theorem dX6_sumOf_3 : decode cX6_sumOf 3 = .ok (.istore_n 3, 1) := by decide +kernel
theorem dX6_sumOf_4 : decode cX6_sumOf 4 = .ok (.iload_n 3, 1) := by decide +kernel
theorem dX6_sumOf_5 : decode cX6_sumOf 5 = .ok (.aload_n 0, 1) := by decide +kernel
theorem dX6_sumOf_6 : decode cX6_sumOf 6 = .ok (.iload_n 1, 1) := by decide +kernel
theorem dX6_sumOf_7 : decode cX6_sumOf 7 = .ok (.iconst 2, 1) := by decide +kernel
theorem dX6_sumOf_8 : decode cX6_sumOf 8 = .ok (.invokevirtual 43, 3) := by decide +kernel
theorem dX6_sumOf_11 : decode cX6_sumOf 11 = .ok (.if_icmp .ge 20, 3) := by decide +kernel
theorem dX6_sumOf_14 : decode cX6_sumOf 14 = .ok (.iload_n 2, 1) := by decide +kernel
theorem dX6_sumOf_15 : decode cX6_sumOf 15 = .ok (.aload_n 0, 1) := by decide +kernel
theorem dX6_sumOf_16 : decode cX6_sumOf 16 = .ok (.iload_n 1, 1) := by decide +kernel
theorem dX6_sumOf_17 : decode cX6_sumOf 17 = .ok (.iconst 3, 1) := by decide +kernel
theorem dX6_sumOf_18 : decode cX6_sumOf 18 = .ok (.iload_n 3, 1) := by decide +kernel
theorem dX6_sumOf_19 : decode cX6_sumOf 19 = .ok (.iadd, 1) := by decide +kernel
theorem dX6_sumOf_20 : decode cX6_sumOf 20 = .ok (.invokevirtual 43, 3) := by decide +kernel
theorem dX6_sumOf_23 : decode cX6_sumOf 23 = .ok (.iadd, 1) := by decide +kernel
theorem dX6_sumOf_24 : decode cX6_sumOf 24 = .ok (.istore_n 2, 1) := by decide +kernel
theorem dX6_sumOf_25 : decode cX6_sumOf 25 = .ok (.iinc 3 1, 3) := by decide +kernel
theorem dX6_sumOf_28 : decode cX6_sumOf 28 = .ok (.goto (-24), 3) := by decide +kernel
theorem dX6_sumOf_31 : decode cX6_sumOf 31 = .ok (.iload_n 2, 1) := by decide +kernel
theorem dX6_sumOf_32 : decode cX6_sumOf 32 = .ok (.sipush 256, 3) := by decide +kernel
theorem dX6_sumOf_35 : decode cX6_sumOf 35 = .ok (.irem, 1) := by decide +kernel
theorem dX6_sumOf_36 : decode cX6_sumOf 36 = .ok (.ireturn, 1) := by decide +kernel
set_option maxRecDepth 20000 in
theorem ggX6_byteAt_X6_part : GoodIn wsX6_byteAt wsX6_part := goodIn_r _ [5, 6, 11, 12, 13, 14, 15, 16, 17, 18, 19, 20, 21, 22, 23] (by decide +kernel) (by decide +kernel)
set_option maxRecDepth 20000 in
theorem gX6_byteAt_X6_part : GoodIn wsX6_byteAt (wsV RX6 43 RX6 yX6_part wsX6_part) := goodIn_app (goodIn_of _ (by decide +kernel)) ggX6_byteAt_X6_part
set_option maxRecDepth 20000 in
theorem ggX6_byteAt_X6_sumOf : GoodIn wsX6_byteAt wsX6_sumOf := goodIn_r _ [10, 1, 2, 3, 4, 5, 6, 11, 12, 13, 14, 15, 16, 17, 18, 19, 20, 21, 22, 23] (by decide +kernel) (by decide +kernel)
set_option maxRecDepth 20000 in
theorem gX6_byteAt_X6_sumOf : GoodIn wsX6_byteAt (wsV RX6 61 RX6 yX6_sumOf wsX6_sumOf) := goodIn_app (goodIn_of _ (by decide +kernel)) ggX6_byteAt_X6_sumOf
theorem dX6_byteAt_0 : decode cX6_byteAt 0 = .ok (.iload_n 2, 1) := by decide +kernel
theorem dX6_byteAt_1 : decode cX6_byteAt 1 = .ok (.aload_n 0, 1) := by decide +kernel
theorem dX6_byteAt_2 : decode cX6_byteAt 2 = .ok (.iload_n 1, 1) := by decide +kernel
theorem dX6_byteAt_3 : decode cX6_byteAt 3 = .ok (.iconst 2, 1) := by decide +kernel
theorem dX6_byteAt_4 : decode cX6_byteAt 4 = .ok (.invokevirtual 43, 3) := by decide +kernel
theorem dX6_byteAt_7 : decode cX6_byteAt 7 = .ok (.if_icmp .ne 11, 3) := by decide +kernel
theorem dX6_byteAt_10 : decode cX6_byteAt 10 = .ok (.aload_n 0, 1) := by decide +kernel
theorem dX6_byteAt_11 : decode cX6_byteAt 11 = .ok (.iload_n 1, 1) := by decide +kernel
theorem dX6_byteAt_12 : decode cX6_byteAt 12 = .ok (.invokevirtual 61, 3) := by decide +kernel
theorem dX6_byteAt_15 : decode cX6_byteAt 15 = .ok (.goto 11, 3) := by decide +kernel
theorem dX6_byteAt_18 : decode cX6_byteAt 18 = .ok (.aload_n 0, 1) := by decide +kernel
theorem dX6_byteAt_19 : decode cX6_byteAt 19 = .ok (.iload_n 1, 1) := by decide +kernel
theorem dX6_byteAt_20 : decode cX6_byteAt 20 = .ok (.iconst 3, 1) := by decide +kernel
theorem dX6_byteAt_21 : decode cX6_byteAt 21 = .ok (.iload_n 2, 1) := by decide +kernel
theorem dX6_byteAt_22 : decode cX6_byteAt 22 = .ok (.iadd, 1) := by decide +kernel
theorem dX6_byteAt_23 : decode cX6_byteAt 23 = .ok (.invokevirtual 43, 3) := by decide +kernel
theorem dX6_byteAt_26 : decode cX6_byteAt 26 = .ok (.ireturn, 1) := by decide +kernel
set_option maxRecDepth 20000 in
theorem ggX6_bitAt_X6_byteAt : GoodIn wsX6_bitAt wsX6_byteAt := goodIn_r _ [5, 6, 7, 8, 4, 9, 10, 11, 12, 13, 14, 34, 35, 36, 37, 38, 39, 40, 41, 42, 43, 44, 45, 46] (by decide +kernel) (by decide +kernel)
set_option maxRecDepth 20000 in
theorem gX6_bitAt_X6_byteAt : GoodIn wsX6_bitAt (wsV RX6 64 RX6 yX6_byteAt wsX6_byteAt) := goodIn_app (goodIn_of _ (by decide +kernel)) ggX6_bitAt_X6_byteAt
set_option maxRecDepth 20000 in
theorem ggX6_bitAt_X6_isOdd : GoodIn wsX6_bitAt wsX6_isOdd := goodIn_r _ [17] (by decide +kernel) (by decide +kernel)
set_option maxRecDepth 20000 in
theorem gX6_bitAt_X6_isOdd : GoodIn wsX6_bitAt (va_wsS RX6 67 yX6_isOdd wsX6_isOdd) := goodIn_app (goodIn_of _ (by decide +kernel)) ggX6_bitAt_X6_isOdd
set_option maxRecDepth 20000 in
theorem ggX6_bitAt_X6_firstOf : GoodIn wsX6_bitAt wsX6_firstOf := goodIn_r _ [21, 22, 23, 24, 4, 25, 26, 27, 28, 29, 6, 7, 8, 9, 10, 34, 35, 36, 37, 38, 39, 40, 41, 42, 43, 44, 45, 46] (by decide +kernel) (by decide +kernel)
set_option maxRecDepth 20000 in
theorem gX6_bitAt_X6_firstOf : GoodIn wsX6_bitAt (wsV RX6 54 RX6 yX6_firstOf wsX6_firstOf) := goodIn_app (goodIn_of _ (by decide +kernel)) ggX6_bitAt_X6_firstOf
set_option maxRecDepth 20000 in
theorem ggX6_bitAt_X6_tellingSize : GoodIn wsX6_bitAt wsX6_tellingSize := goodIn_r _ [29, 6, 7, 8, 4, 9, 10, 34, 35, 36, 37, 38, 39, 40, 41, 42, 43, 44, 45, 46] (by decide +kernel) (by decide +kernel)
set_option maxRecDepth 20000 in
theorem gX6_bitAt_X6_tellingSize : GoodIn wsX6_bitAt (wsV RX6 47 RX6 yX6_tellingSize wsX6_tellingSize) := goodIn_app (goodIn_of _ (by decide +kernel)) ggX6_bitAt_X6_tellingSize
set_option maxRecDepth 20000 in
theorem ggX6_bitAt_X6_badness : GoodIn wsX6_bitAt wsX6_badness := goodIn_r _ [33, 10, 34, 35, 36, 37, 38, 39, 40, 41, 42, 43, 44, 45, 46] (by decide +kernel) (by decide +kernel)
set_option maxRecDepth 20000 in
theorem gX6_bitAt_X6_badness : GoodIn wsX6_bitAt (wsV RX6 70 RX6 yX6_badness wsX6_badness) := goodIn_app (goodIn_of _ (by decide +kernel)) ggX6_bitAt_X6_badness
theorem dX6_bitAt_0 : decode cX6_bitAt 0 = .ok (.iload_n 3, 1) := by decide +kernel
theorem dX6_bitAt_1 : decode cX6_bitAt 1 = .ok (.iconst 4, 1) := by decide +kernel
theorem dX6_bitAt_2 : decode cX6_bitAt 2 = .ok (.if_icmp .ge 5, 3) := by decide +kernel
theorem dX6_bitAt_5 : decode cX6_bitAt 5 = .ok (.iconst 0, 1) := by decide +kernel
theorem dX6_bitAt_6 : decode cX6_bitAt 6 = .ok (.ireturn, 1) := by decide +kernel
theorem dX6_bitAt_7 : decode cX6_bitAt 7 = .ok (.aload_n 0, 1) := by decide +kernel
theorem dX6_bitAt_8 : decode cX6_bitAt 8 = .ok (.iload_n 1, 1) := by decide +kernel
theorem dX6_bitAt_9 : decode cX6_bitAt 9 = .ok (.iload_n 3, 1) := by decide +kernel
theorem dX6_bitAt_10 : decode cX6_bitAt 10 = .ok (.iconst 4, 1) := by decide +kernel
theorem dX6_bitAt_11 : decode cX6_bitAt 11 = .ok (.isub, 1) := by decide +kernel
theorem dX6_bitAt_12 : decode cX6_bitAt 12 = .ok (.bipush 9, 2) := by decide +kernel
theorem dX6_bitAt_14 : decode cX6_bitAt 14 = .ok (.idiv, 1) := by decide +kernel
theorem dX6_bitAt_15 : decode cX6_bitAt 15 = .ok (.invokevirtual 64, 3) := by decide +kernel
theorem dX6_bitAt_18 : decode cX6_bitAt 18 = .ok (.istore 4, 2) := by decide +kernel
theorem dX6_bitAt_20 : decode cX6_bitAt 20 = .ok (.iload_n 3, 1) := by decide +kernel
theorem dX6_bitAt_21 : decode cX6_bitAt 21 = .ok (.iconst 4, 1) := by decide +kernel
theorem dX6_bitAt_22 : decode cX6_bitAt 22 = .ok (.isub, 1) := by decide +kernel
theorem dX6_bitAt_23 : decode cX6_bitAt 23 = .ok (.bipush 9, 2) := by decide +kernel
theorem dX6_bitAt_25 : decode cX6_bitAt 25 = .ok (.irem, 1) := by decide +kernel
theorem dX6_bitAt_26 : decode cX6_bitAt 26 = .ok (.istore 5, 2) := by decide +kernel
theorem dX6_bitAt_28 : decode cX6_bitAt 28 = .ok (.iload 5, 2) := by decide +kernel
theorem dX6_bitAt_30 : decode cX6_bitAt 30 = .ok (.bipush 8, 2) := by decide +kernel
theorem dX6_bitAt_32 : decode cX6_bitAt 32 = .ok (.if_icmp .ge 13, 3) := by decide +kernel
theorem dX6_bitAt_35 : decode cX6_bitAt 35 = .ok (.iload 4, 2) := by decide +kernel
theorem dX6_bitAt_37 : decode cX6_bitAt 37 = .ok (.iload 5, 2) := by decide +kernel
theorem dX6_bitAt_39 : decode cX6_bitAt 39 = .ok (.ishr, 1) := by decide +kernel
theorem dX6_bitAt_40 : decode cX6_bitAt 40 = .ok (.iconst 1, 1) := by decide +kernel
theorem dX6_bitAt_41 : decode cX6_bitAt 41 = .ok (.iand, 1) := by decide +kernel
theorem dX6_bitAt_42 : decode cX6_bitAt 42 = .ok (.goto 8, 3) := by decide +kernel
theorem dX6_bitAt_45 : decode cX6_bitAt 45 = .ok (.iload 4, 2) := by decide +kernel
theorem dX6_bitAt_47 : decode cX6_bitAt 47 = .ok (.invokestatic 67, 3) := by decide +kernel
theorem dX6_bitAt_50 : decode cX6_bitAt 50 = .ok (.istore 6, 2) := by decide +kernel
theorem dX6_bitAt_52 : decode cX6_bitAt 52 = .ok (.iload 6, 2) := by decide +kernel
theorem dX6_bitAt_54 : decode cX6_bitAt 54 = .ok (.aload_n 0, 1) := by decide +kernel
theorem dX6_bitAt_55 : decode cX6_bitAt 55 = .ok (.aload_n 0, 1) := by decide +kernel
theorem dX6_bitAt_56 : decode cX6_bitAt 56 = .ok (.iload_n 1, 1) := by decide +kernel
theorem dX6_bitAt_57 : decode cX6_bitAt 57 = .ok (.invokevirtual 54, 3) := by decide +kernel
theorem dX6_bitAt_60 : decode cX6_bitAt 60 = .ok (.iload_n 2, 1) := by decide +kernel
theorem dX6_bitAt_61 : decode cX6_bitAt 61 = .ok (.aload_n 0, 1) := by decide +kernel
theorem dX6_bitAt_62 : decode cX6_bitAt 62 = .ok (.iload_n 1, 1) := by decide +kernel
theorem dX6_bitAt_63 : decode cX6_bitAt 63 = .ok (.invokevirtual 47, 3) := by decide +kernel
theorem dX6_bitAt_66 : decode cX6_bitAt 66 = .ok (.imul, 1) := by decide +kernel
theorem dX6_bitAt_67 : decode cX6_bitAt 67 = .ok (.iadd, 1) := by decide +kernel
theorem dX6_bitAt_68 : decode cX6_bitAt 68 = .ok (.iload_n 3, 1) := by decide +kernel
theorem dX6_bitAt_69 : decode cX6_bitAt 69 = .ok (.iadd, 1) := by decide +kernel
theorem dX6_bitAt_70 : decode cX6_bitAt 70 = .ok (.invokevirtual 70, 3) := by decide +kernel
theorem dX6_bitAt_73 : decode cX6_bitAt 73 = .ok (.ixor, 1) := by decide +kernel
theorem dX6_bitAt_74 : decode cX6_bitAt 74 = .ok (.ireturn, 1) := by decide +kernel
theorem dX6_counterOf_0 : decode cX6_counterOf 0 = .ok (.iload_n 1, 1) := by decide +kernel
theorem dX6_counterOf_1 : decode cX6_counterOf 1 = .ok (.iload_n 1, 1) := by decide +kernel
theorem dX6_counterOf_2 : decode cX6_counterOf 2 = .ok (.aload_n 0, 1) := by decide +kernel
theorem dX6_counterOf_3 : decode cX6_counterOf 3 = .ok (.getfield 7, 3) := by decide +kernel
theorem dX6_counterOf_6 : decode cX6_counterOf 6 = .ok (.iconst 2, 1) := by decide +kernel
theorem dX6_counterOf_7 : decode cX6_counterOf 7 = .ok (.iaload, 1) := by decide +kernel
theorem dX6_counterOf_8 : decode cX6_counterOf 8 = .ok (.imul, 1) := by decide +kernel
theorem dX6_counterOf_9 : decode cX6_counterOf 9 = .ok (.bipush 100, 2) := by decide +kernel
theorem dX6_counterOf_11 : decode cX6_counterOf 11 = .ok (.idiv, 1) := by decide +kernel
theorem dX6_counterOf_12 : decode cX6_counterOf 12 = .ok (.isub, 1) := by decide +kernel
theorem dX6_counterOf_13 : decode cX6_counterOf 13 = .ok (.sipush 1000, 3) := by decide +kernel
theorem dX6_counterOf_16 : decode cX6_counterOf 16 = .ok (.irem, 1) := by decide +kernel
theorem dX6_counterOf_17 : decode cX6_counterOf 17 = .ok (.ireturn, 1) := by decide +kernel
set_option maxRecDepth 20000 in
theorem ggX6_isHeard_X6_volumeOf : GoodIn wsX6_isHeard wsX6_volumeOf := goodIn_r _ [6, 1, 7, 8, 9, 10, 11, 12, 13, 14, 15, 16, 17, 18, 19] (by decide +kernel) (by decide +kernel)
set_option maxRecDepth 20000 in
theorem gX6_isHeard_X6_volumeOf : GoodIn wsX6_isHeard (wsV RX6 73 RX6 yX6_volumeOf wsX6_volumeOf) := goodIn_app (goodIn_of _ (by decide +kernel)) ggX6_isHeard_X6_volumeOf
theorem dX6_isHeard_0 : decode cX6_isHeard 0 = .ok (.aload_n 0, 1) := by decide +kernel
theorem dX6_isHeard_1 : decode cX6_isHeard 1 = .ok (.iload_n 1, 1) := by decide +kernel
theorem dX6_isHeard_2 : decode cX6_isHeard 2 = .ok (.invokevirtual 73, 3) := by decide +kernel
theorem dX6_isHeard_5 : decode cX6_isHeard 5 = .ok (.aload_n 0, 1) := by decide +kernel
theorem dX6_isHeard_6 : decode cX6_isHeard 6 = .ok (.getfield 7, 3) := by decide +kernel
theorem dX6_isHeard_9 : decode cX6_isHeard 9 = .ok (.iconst 1, 1) := by decide +kernel
theorem dX6_isHeard_10 : decode cX6_isHeard 10 = .ok (.iaload, 1) := by decide +kernel
theorem dX6_isHeard_11 : decode cX6_isHeard 11 = .ok (.if_icmp .lt 7, 3) := by decide +kernel
theorem dX6_isHeard_14 : decode cX6_isHeard 14 = .ok (.iconst 1, 1) := by decide +kernel
theorem dX6_isHeard_15 : decode cX6_isHeard 15 = .ok (.goto 4, 3) := by decide +kernel
theorem dX6_isHeard_18 : decode cX6_isHeard 18 = .ok (.iconst 0, 1) := by decide +kernel
theorem dX6_isHeard_19 : decode cX6_isHeard 19 = .ok (.ireturn, 1) := by decide +kernel
set_option maxRecDepth 20000 in
theorem ggX6_isLeaderLost_X6_firstOf : GoodIn wsX6_isLeaderLost wsX6_firstOf := goodIn_r _ [5, 6, 7, 8, 4, 9, 10, 11, 12, 13, 14, 15, 16, 17, 18, 27, 28, 29, 30, 31, 32, 33, 34, 35, 36, 37, 38, 39] (by decide +kernel) (by decide +kernel)
set_option maxRecDepth 20000 in
theorem gX6_isLeaderLost_X6_firstOf : GoodIn wsX6_isLeaderLost (wsV RX6 54 RX6 yX6_firstOf wsX6_firstOf) := goodIn_app (goodIn_of _ (by decide +kernel)) ggX6_isLeaderLost_X6_firstOf
set_option maxRecDepth 20000 in
theorem ggX6_isLeaderLost_X6_tellingSize : GoodIn wsX6_isLeaderLost wsX6_tellingSize := goodIn_r _ [13, 14, 15, 16, 4, 17, 18, 27, 28, 29, 30, 31, 32, 33, 34, 35, 36, 37, 38, 39] (by decide +kernel) (by decide +kernel)
set_option maxRecDepth 20000 in
theorem gX6_isLeaderLost_X6_tellingSize : GoodIn wsX6_isLeaderLost (wsV RX6 47 RX6 yX6_tellingSize wsX6_tellingSize) := goodIn_app (goodIn_of _ (by decide +kernel)) ggX6_isLeaderLost_X6_tellingSize
set_option maxRecDepth 20000 in
theorem ggX6_isLeaderLost_X6_isHeard : GoodIn wsX6_isLeaderLost wsX6_isHeard := goodIn_r _ [22, 18, 23, 24, 25, 4, 26, 27, 28, 29, 30, 31, 32, 33, 34, 35, 36, 37, 38, 39] (by decide +kernel) (by decide +kernel)
set_option maxRecDepth 20000 in
theorem gX6_isLeaderLost_X6_isHeard : GoodIn wsX6_isLeaderLost (wsV RX6 76 RX6 yX6_isHeard wsX6_isHeard) := goodIn_app (goodIn_of _ (by decide +kernel)) ggX6_isLeaderLost_X6_isHeard
theorem dX6_isLeaderLost_0 : decode cX6_isLeaderLost 0 = .ok (.aload_n 0, 1) := by decide +kernel
theorem dX6_isLeaderLost_1 : decode cX6_isLeaderLost 1 = .ok (.iload_n 1, 1) := by decide +kernel
theorem dX6_isLeaderLost_2 : decode cX6_isLeaderLost 2 = .ok (.invokevirtual 54, 3) := by decide +kernel
theorem dX6_isLeaderLost_5 : decode cX6_isLeaderLost 5 = .ok (.iload_n 2, 1) := by decide +kernel
theorem dX6_isLeaderLost_6 : decode cX6_isLeaderLost 6 = .ok (.aload_n 0, 1) := by decide +kernel
theorem dX6_isLeaderLost_7 : decode cX6_isLeaderLost 7 = .ok (.iload_n 1, 1) := by decide +kernel
theorem dX6_isLeaderLost_8 : decode cX6_isLeaderLost 8 = .ok (.invokevirtual 47, 3) := by decide +kernel
theorem dX6_isLeaderLost_11 : decode cX6_isLeaderLost 11 = .ok (.imul, 1) := by decide +kernel
theorem dX6_isLeaderLost_12 : decode cX6_isLeaderLost 12 = .ok (.iadd, 1) := by decide +kernel
theorem dX6_isLeaderLost_13 : decode cX6_isLeaderLost 13 = .ok (.istore_n 3, 1) := by decide +kernel
theorem dX6_isLeaderLost_14 : decode cX6_isLeaderLost 14 = .ok (.iconst 0, 1) := by decide +kernel
theorem dX6_isLeaderLost_15 : decode cX6_isLeaderLost 15 = .ok (.istore 4, 2) := by decide +kernel
theorem dX6_isLeaderLost_17 : decode cX6_isLeaderLost 17 = .ok (.iconst 0, 1) := by decide +kernel
theorem dX6_isLeaderLost_18 : decode cX6_isLeaderLost 18 = .ok (.istore 5, 2) := by decide +kernel
theorem dX6_isLeaderLost_20 : decode cX6_isLeaderLost 20 = .ok (.iload 5, 2) := by decide +kernel
theorem dX6_isLeaderLost_22 : decode cX6_isLeaderLost 22 = .ok (.iconst 4, 1) := by decide +kernel
theorem dX6_isLeaderLost_23 : decode cX6_isLeaderLost 23 = .ok (.if_icmp .ge 30, 3) := by decide +kernel
theorem dX6_isLeaderLost_26 : decode cX6_isLeaderLost 26 = .ok (.iload 4, 2) := by decide +kernel
theorem dX6_isLeaderLost_28 : decode cX6_isLeaderLost 28 = .ok (.aload_n 0, 1) := by decide +kernel
theorem dX6_isLeaderLost_29 : decode cX6_isLeaderLost 29 = .ok (.iload_n 3, 1) := by decide +kernel
theorem dX6_isLeaderLost_30 : decode cX6_isLeaderLost 30 = .ok (.iload 5, 2) := by decide +kernel
theorem dX6_isLeaderLost_32 : decode cX6_isLeaderLost 32 = .ok (.iadd, 1) := by decide +kernel
theorem dX6_isLeaderLost_33 : decode cX6_isLeaderLost 33 = .ok (.invokevirtual 76, 3) := by decide +kernel
theorem dX6_isLeaderLost_36 : decode cX6_isLeaderLost 36 = .ok (.ifCond .eq 7, 3) := by decide +kernel
theorem dX6_isLeaderLost_39 : decode cX6_isLeaderLost 39 = .ok (.iconst 1, 1) := by decide +kernel
theorem dX6_isLeaderLost_40 : decode cX6_isLeaderLost 40 = .ok (.goto 4, 3) := by decide +kernel
theorem dX6_isLeaderLost_43 : decode cX6_isLeaderLost 43 = .ok (.iconst 0, 1) := by decide +kernel
theorem dX6_isLeaderLost_44 : decode cX6_isLeaderLost 44 = .ok (.iadd, 1) := by decide +kernel
theorem dX6_isLeaderLost_45 : decode cX6_isLeaderLost 45 = .ok (.istore 4, 2) := by decide +kernel
theorem dX6_isLeaderLost_47 : decode cX6_isLeaderLost 47 = .ok (.iinc 5 1, 3) := by decide +kernel
theorem dX6_isLeaderLost_50 : decode cX6_isLeaderLost 50 = .ok (.goto (-30), 3) := by decide +kernel
theorem dX6_isLeaderLost_53 : decode cX6_isLeaderLost 53 = .ok (.iload 4, 2) := by decide +kernel
theorem dX6_isLeaderLost_55 : decode cX6_isLeaderLost 55 = .ok (.iconst 2, 1) := by decide +kernel
theorem dX6_isLeaderLost_56 : decode cX6_isLeaderLost 56 = .ok (.if_icmp .ge 7, 3) := by decide +kernel
theorem dX6_isLeaderLost_59 : decode cX6_isLeaderLost 59 = .ok (.iconst 1, 1) := by decide +kernel
theorem dX6_isLeaderLost_60 : decode cX6_isLeaderLost 60 = .ok (.goto 4, 3) := by decide +kernel
theorem dX6_isLeaderLost_63 : decode cX6_isLeaderLost 63 = .ok (.iconst 0, 1) := by decide +kernel
theorem dX6_isLeaderLost_64 : decode cX6_isLeaderLost 64 = .ok (.ireturn, 1) := by decide +kernel
set_option maxRecDepth 20000 in
theorem ggX6_readAt_X6_firstOf : GoodIn wsX6_readAt wsX6_firstOf := goodIn_r _ [5, 6, 7, 8, 4, 9, 10, 11, 12, 13, 14, 15, 16, 17, 18, 46, 47, 48, 49, 50, 51, 52, 53, 54, 55, 56, 57, 58] (by decide +kernel) (by decide +kernel)
set_option maxRecDepth 20000 in
theorem gX6_readAt_X6_firstOf : GoodIn wsX6_readAt (wsV RX6 54 RX6 yX6_firstOf wsX6_firstOf) := goodIn_app (goodIn_of _ (by decide +kernel)) ggX6_readAt_X6_firstOf
set_option maxRecDepth 20000 in
theorem ggX6_readAt_X6_tellingSize : GoodIn wsX6_readAt wsX6_tellingSize := goodIn_r _ [13, 14, 15, 16, 4, 17, 18, 46, 47, 48, 49, 50, 51, 52, 53, 54, 55, 56, 57, 58] (by decide +kernel) (by decide +kernel)
set_option maxRecDepth 20000 in
theorem gX6_readAt_X6_tellingSize : GoodIn wsX6_readAt (wsV RX6 47 RX6 yX6_tellingSize wsX6_tellingSize) := goodIn_app (goodIn_of _ (by decide +kernel)) ggX6_readAt_X6_tellingSize
set_option maxRecDepth 20000 in
theorem ggX6_readAt_X6_isHeard : GoodIn wsX6_readAt wsX6_isHeard := goodIn_r _ [22, 18, 23, 24, 25, 4, 26, 46, 47, 48, 49, 50, 51, 52, 53, 54, 55, 56, 57, 58] (by decide +kernel) (by decide +kernel)
set_option maxRecDepth 20000 in
theorem gX6_readAt_X6_isHeard : GoodIn wsX6_readAt (wsV RX6 76 RX6 yX6_isHeard wsX6_isHeard) := goodIn_app (goodIn_of _ (by decide +kernel)) ggX6_readAt_X6_isHeard
set_option maxRecDepth 20000 in
theorem ggX6_readAt_X6_bitAt : GoodIn wsX6_readAt wsX6_bitAt := goodIn_r _ [30, 31, 32, 33, 4, 34, 14, 15, 16, 17, 18, 35, 36, 37, 38, 39, 40, 41, 1, 2, 3, 5, 6, 7, 8, 9, 10, 11, 12, 13, 42, 43, 44, 45, 46, 47, 48, 49, 50, 51, 52, 53, 54, 55, 56, 57, 58] (by decide +kernel) (by decide +kernel)
set_option maxRecDepth 20000 in
theorem gX6_readAt_X6_bitAt : GoodIn wsX6_readAt (wsV RX6 80 RX6 yX6_bitAt wsX6_bitAt) := goodIn_app (goodIn_of _ (by decide +kernel)) ggX6_readAt_X6_bitAt
set_option maxRecDepth 20000 in
theorem ggX6_readAt_X6_isOdd : GoodIn wsX6_readAt wsX6_isOdd := goodIn_r _ [41] (by decide +kernel) (by decide +kernel)
set_option maxRecDepth 20000 in
theorem gX6_readAt_X6_isOdd : GoodIn wsX6_readAt (va_wsS RX6 67 yX6_isOdd wsX6_isOdd) := goodIn_app (goodIn_of _ (by decide +kernel)) ggX6_readAt_X6_isOdd
theorem dX6_readAt_0 : decode cX6_readAt 0 = .ok (.iconst 4, 1) := by decide +kernel
theorem dX6_readAt_1 : decode cX6_readAt 1 = .ok (.bipush 9, 2) := by decide +kernel
theorem dX6_readAt_3 : decode cX6_readAt 3 = .ok (.iload_n 3, 1) := by decide +kernel
theorem dX6_readAt_4 : decode cX6_readAt 4 = .ok (.imul, 1) := by decide +kernel
theorem dX6_readAt_5 : decode cX6_readAt 5 = .ok (.iadd, 1) := by decide +kernel
theorem dX6_readAt_6 : decode cX6_readAt 6 = .ok (.istore 4, 2) := by decide +kernel
theorem dX6_readAt_8 : decode cX6_readAt 8 = .ok (.aload_n 0, 1) := by decide +kernel
theorem dX6_readAt_9 : decode cX6_readAt 9 = .ok (.iload_n 1, 1) := by decide +kernel
theorem dX6_readAt_10 : decode cX6_readAt 10 = .ok (.invokevirtual 54, 3) := by decide +kernel
theorem dX6_readAt_13 : decode cX6_readAt 13 = .ok (.iload_n 2, 1) := by decide +kernel
theorem dX6_readAt_14 : decode cX6_readAt 14 = .ok (.aload_n 0, 1) := by decide +kernel
theorem dX6_readAt_15 : decode cX6_readAt 15 = .ok (.iload_n 1, 1) := by decide +kernel
theorem dX6_readAt_16 : decode cX6_readAt 16 = .ok (.invokevirtual 47, 3) := by decide +kernel
theorem dX6_readAt_19 : decode cX6_readAt 19 = .ok (.imul, 1) := by decide +kernel
theorem dX6_readAt_20 : decode cX6_readAt 20 = .ok (.iadd, 1) := by decide +kernel
theorem dX6_readAt_21 : decode cX6_readAt 21 = .ok (.iload 4, 2) := by decide +kernel
theorem dX6_readAt_23 : decode cX6_readAt 23 = .ok (.iadd, 1) := by decide +kernel
theorem dX6_readAt_24 : decode cX6_readAt 24 = .ok (.istore 5, 2) := by decide +kernel
theorem dX6_readAt_26 : decode cX6_readAt 26 = .ok (.iconst 1, 1) := by decide +kernel
theorem dX6_readAt_27 : decode cX6_readAt 27 = .ok (.istore 6, 2) := by decide +kernel
theorem dX6_readAt_29 : decode cX6_readAt 29 = .ok (.iconst 0, 1) := by decide +kernel
theorem dX6_readAt_30 : decode cX6_readAt 30 = .ok (.istore 7, 2) := by decide +kernel
theorem dX6_readAt_32 : decode cX6_readAt 32 = .ok (.iconst 0, 1) := by decide +kernel
theorem dX6_readAt_33 : decode cX6_readAt 33 = .ok (.istore 8, 2) := by decide +kernel
theorem dX6_readAt_35 : decode cX6_readAt 35 = .ok (.iload 8, 2) := by decide +kernel
theorem dX6_readAt_37 : decode cX6_readAt 37 = .ok (.bipush 9, 2) := by decide +kernel
theorem dX6_readAt_39 : decode cX6_readAt 39 = .ok (.if_icmp .ge 63, 3) := by decide +kernel
theorem dX6_readAt_42 : decode cX6_readAt 42 = .ok (.iload 6, 2) := by decide +kernel
theorem dX6_readAt_44 : decode cX6_readAt 44 = .ok (.ifCond .eq 19, 3) := by decide +kernel
theorem dX6_readAt_47 : decode cX6_readAt 47 = .ok (.aload_n 0, 1) := by decide +kernel
theorem dX6_readAt_48 : decode cX6_readAt 48 = .ok (.iload 5, 2) := by decide +kernel
theorem dX6_readAt_50 : decode cX6_readAt 50 = .ok (.iload 8, 2) := by decide +kernel
theorem dX6_readAt_52 : decode cX6_readAt 52 = .ok (.iadd, 1) := by decide +kernel
theorem dX6_readAt_53 : decode cX6_readAt 53 = .ok (.invokevirtual 76, 3) := by decide +kernel
theorem dX6_readAt_56 : decode cX6_readAt 56 = .ok (.ifCond .eq 7, 3) := by decide +kernel
theorem dX6_readAt_59 : decode cX6_readAt 59 = .ok (.iconst 1, 1) := by decide +kernel
theorem dX6_readAt_60 : decode cX6_readAt 60 = .ok (.goto 4, 3) := by decide +kernel
theorem dX6_readAt_63 : decode cX6_readAt 63 = .ok (.iconst 0, 1) := by decide +kernel
theorem dX6_readAt_64 : decode cX6_readAt 64 = .ok (.istore 6, 2) := by decide +kernel
theorem dX6_readAt_66 : decode cX6_readAt 66 = .ok (.iload 7, 2) := by decide +kernel
theorem dX6_readAt_68 : decode cX6_readAt 68 = .ok (.iload 8, 2) := by decide +kernel
theorem dX6_readAt_70 : decode cX6_readAt 70 = .ok (.bipush 8, 2) := by decide +kernel
theorem dX6_readAt_72 : decode cX6_readAt 72 = .ok (.if_icmp .ge 20, 3) := by decide +kernel
theorem dX6_readAt_75 : decode cX6_readAt 75 = .ok (.aload_n 0, 1) := by decide +kernel
theorem dX6_readAt_76 : decode cX6_readAt 76 = .ok (.iload_n 1, 1) := by decide +kernel
theorem dX6_readAt_77 : decode cX6_readAt 77 = .ok (.iload_n 2, 1) := by decide +kernel
theorem dX6_readAt_78 : decode cX6_readAt 78 = .ok (.iload 4, 2) := by decide +kernel
theorem dX6_readAt_80 : decode cX6_readAt 80 = .ok (.iload 8, 2) := by decide +kernel
theorem dX6_readAt_82 : decode cX6_readAt 82 = .ok (.iadd, 1) := by decide +kernel
theorem dX6_readAt_83 : decode cX6_readAt 83 = .ok (.invokevirtual 80, 3) := by decide +kernel
theorem dX6_readAt_86 : decode cX6_readAt 86 = .ok (.iload 8, 2) := by decide +kernel
theorem dX6_readAt_88 : decode cX6_readAt 88 = .ok (.ishl, 1) := by decide +kernel
theorem dX6_readAt_89 : decode cX6_readAt 89 = .ok (.goto 4, 3) := by decide +kernel
theorem dX6_readAt_92 : decode cX6_readAt 92 = .ok (.iconst 0, 1) := by decide +kernel
theorem dX6_readAt_93 : decode cX6_readAt 93 = .ok (.ior, 1) := by decide +kernel
theorem dX6_readAt_94 : decode cX6_readAt 94 = .ok (.istore 7, 2) := by decide +kernel
theorem dX6_readAt_96 : decode cX6_readAt 96 = .ok (.iinc 8 1, 3) := by decide +kernel
theorem dX6_readAt_99 : decode cX6_readAt 99 = .ok (.goto (-64), 3) := by decide +kernel
theorem dX6_readAt_102 : decode cX6_readAt 102 = .ok (.iload 6, 2) := by decide +kernel
theorem dX6_readAt_104 : decode cX6_readAt 104 = .ok (.ifCond .eq 27, 3) := by decide +kernel
theorem dX6_readAt_107 : decode cX6_readAt 107 = .ok (.aload_n 0, 1) := by decide +kernel
theorem dX6_readAt_108 : decode cX6_readAt 108 = .ok (.iload_n 1, 1) := by decide +kernel
theorem dX6_readAt_109 : decode cX6_readAt 109 = .ok (.iload_n 2, 1) := by decide +kernel
theorem dX6_readAt_110 : decode cX6_readAt 110 = .ok (.iload 4, 2) := by decide +kernel
theorem dX6_readAt_112 : decode cX6_readAt 112 = .ok (.bipush 8, 2) := by decide +kernel
theorem dX6_readAt_114 : decode cX6_readAt 114 = .ok (.iadd, 1) := by decide +kernel
theorem dX6_readAt_115 : decode cX6_readAt 115 = .ok (.invokevirtual 80, 3) := by decide +kernel
theorem dX6_readAt_118 : decode cX6_readAt 118 = .ok (.iload 7, 2) := by decide +kernel
theorem dX6_readAt_120 : decode cX6_readAt 120 = .ok (.invokestatic 67, 3) := by decide +kernel
theorem dX6_readAt_123 : decode cX6_readAt 123 = .ok (.if_icmp .ne 8, 3) := by decide +kernel
theorem dX6_readAt_126 : decode cX6_readAt 126 = .ok (.iload 7, 2) := by decide +kernel
theorem dX6_readAt_128 : decode cX6_readAt 128 = .ok (.goto 5, 3) := by decide +kernel
theorem dX6_readAt_131 : decode cX6_readAt 131 = .ok (.bipush (-6), 2) := by decide +kernel
theorem dX6_readAt_133 : decode cX6_readAt 133 = .ok (.ireturn, 1) := by decide +kernel
set_option maxRecDepth 20000 in
theorem ggX6_howIs_X6_isLeaderLost : GoodIn wsX6_howIs wsX6_isLeaderLost := goodIn_r _ [5, 6, 7, 8, 4, 9, 10, 11, 12, 13, 14, 15, 16, 17, 18, 19, 20, 21, 22, 23, 24, 25, 26, 27, 28, 29, 30, 54, 55, 56, 57, 58, 59, 60, 61, 62, 63, 64, 65, 66] (by decide +kernel) (by decide +kernel)
set_option maxRecDepth 20000 in
theorem gX6_howIs_X6_isLeaderLost : GoodIn wsX6_howIs (wsV RX6 84 RX6 yX6_isLeaderLost wsX6_isLeaderLost) := goodIn_app (goodIn_of _ (by decide +kernel)) ggX6_howIs_X6_isLeaderLost
set_option maxRecDepth 20000 in
theorem ggX6_howIs_X6_part : GoodIn wsX6_howIs wsX6_part := goodIn_r _ [21, 22, 54, 55, 56, 57, 58, 59, 60, 61, 62, 63, 64, 65, 66] (by decide +kernel) (by decide +kernel)
set_option maxRecDepth 20000 in
theorem gX6_howIs_X6_part : GoodIn wsX6_howIs (wsV RX6 43 RX6 yX6_part wsX6_part) := goodIn_app (goodIn_of _ (by decide +kernel)) ggX6_howIs_X6_part
set_option maxRecDepth 20000 in
theorem ggX6_howIs_X6_readAt : GoodIn wsX6_howIs wsX6_readAt := goodIn_r _ [34, 6, 7, 8, 4, 9, 10, 11, 12, 13, 14, 15, 16, 17, 18, 19, 20, 21, 22, 23, 24, 25, 26, 27, 28, 29, 30, 35, 36, 37, 38, 39, 40, 41, 42, 43, 44, 45, 46, 47, 48, 49, 50, 51, 52, 53, 54, 55, 56, 57, 58, 59, 60, 61, 62, 63, 64, 65, 66] (by decide +kernel) (by decide +kernel)
set_option maxRecDepth 20000 in
theorem gX6_howIs_X6_readAt : GoodIn wsX6_howIs (wsV RX6 88 RX6 yX6_readAt wsX6_readAt) := goodIn_app (goodIn_of _ (by decide +kernel)) ggX6_howIs_X6_readAt
theorem dX6_howIs_0 : decode cX6_howIs 0 = .ok (.aload_n 0, 1) := by decide +kernel
theorem dX6_howIs_1 : decode cX6_howIs 1 = .ok (.iload_n 1, 1) := by decide +kernel
theorem dX6_howIs_2 : decode cX6_howIs 2 = .ok (.iload_n 2, 1) := by decide +kernel
theorem dX6_howIs_3 : decode cX6_howIs 3 = .ok (.invokevirtual 84, 3) := by decide +kernel
theorem dX6_howIs_6 : decode cX6_howIs 6 = .ok (.ifCond .eq 5, 3) := by decide +kernel
theorem dX6_howIs_9 : decode cX6_howIs 9 = .ok (.iconst 1, 1) := by decide +kernel
theorem dX6_howIs_10 : decode cX6_howIs 10 = .ok (.ireturn, 1) := by decide +kernel
theorem dX6_howIs_11 : decode cX6_howIs 11 = .ok (.iconst 0, 1) := by decide +kernel
theorem dX6_howIs_12 : decode cX6_howIs 12 = .ok (.istore_n 3, 1) := by decide +kernel
theorem dX6_howIs_13 : decode cX6_howIs 13 = .ok (.iconst 1, 1) := by decide +kernel
theorem dX6_howIs_14 : decode cX6_howIs 14 = .ok (.istore 4, 2) := by decide +kernel
theorem dX6_howIs_16 : decode cX6_howIs 16 = .ok (.iconst 0, 1) := by decide +kernel
theorem dX6_howIs_17 : decode cX6_howIs 17 = .ok (.istore 5, 2) := by decide +kernel
theorem dX6_howIs_19 : decode cX6_howIs 19 = .ok (.iload 5, 2) := by decide +kernel
theorem dX6_howIs_21 : decode cX6_howIs 21 = .ok (.aload_n 0, 1) := by decide +kernel
theorem dX6_howIs_22 : decode cX6_howIs 22 = .ok (.iload_n 1, 1) := by decide +kernel
theorem dX6_howIs_23 : decode cX6_howIs 23 = .ok (.iconst 2, 1) := by decide +kernel
theorem dX6_howIs_24 : decode cX6_howIs 24 = .ok (.invokevirtual 43, 3) := by decide +kernel
theorem dX6_howIs_27 : decode cX6_howIs 27 = .ok (.if_icmp .ge 43, 3) := by decide +kernel
theorem dX6_howIs_30 : decode cX6_howIs 30 = .ok (.aload_n 0, 1) := by decide +kernel
theorem dX6_howIs_31 : decode cX6_howIs 31 = .ok (.iload_n 1, 1) := by decide +kernel
theorem dX6_howIs_32 : decode cX6_howIs 32 = .ok (.iload_n 2, 1) := by decide +kernel
theorem dX6_howIs_33 : decode cX6_howIs 33 = .ok (.iload 5, 2) := by decide +kernel
theorem dX6_howIs_35 : decode cX6_howIs 35 = .ok (.invokevirtual 88, 3) := by decide +kernel
theorem dX6_howIs_38 : decode cX6_howIs 38 = .ok (.istore 6, 2) := by decide +kernel
theorem dX6_howIs_40 : decode cX6_howIs 40 = .ok (.iload 4, 2) := by decide +kernel
theorem dX6_howIs_42 : decode cX6_howIs 42 = .ok (.ifCond .eq 14, 3) := by decide +kernel
theorem dX6_howIs_45 : decode cX6_howIs 45 = .ok (.iload 6, 2) := by decide +kernel
theorem dX6_howIs_47 : decode cX6_howIs 47 = .ok (.bipush (-6), 2) := by decide +kernel
theorem dX6_howIs_49 : decode cX6_howIs 49 = .ok (.if_icmp .eq 7, 3) := by decide +kernel
theorem dX6_howIs_52 : decode cX6_howIs 52 = .ok (.iconst 1, 1) := by decide +kernel
theorem dX6_howIs_53 : decode cX6_howIs 53 = .ok (.goto 4, 3) := by decide +kernel
theorem dX6_howIs_56 : decode cX6_howIs 56 = .ok (.iconst 0, 1) := by decide +kernel
theorem dX6_howIs_57 : decode cX6_howIs 57 = .ok (.istore 4, 2) := by decide +kernel
theorem dX6_howIs_59 : decode cX6_howIs 59 = .ok (.iload_n 3, 1) := by decide +kernel
theorem dX6_howIs_60 : decode cX6_howIs 60 = .ok (.iload 6, 2) := by decide +kernel
theorem dX6_howIs_62 : decode cX6_howIs 62 = .ok (.iadd, 1) := by decide +kernel
theorem dX6_howIs_63 : decode cX6_howIs 63 = .ok (.istore_n 3, 1) := by decide +kernel
theorem dX6_howIs_64 : decode cX6_howIs 64 = .ok (.iinc 5 1, 3) := by decide +kernel
theorem dX6_howIs_67 : decode cX6_howIs 67 = .ok (.goto (-48), 3) := by decide +kernel
theorem dX6_howIs_70 : decode cX6_howIs 70 = .ok (.iload 4, 2) := by decide +kernel
theorem dX6_howIs_72 : decode cX6_howIs 72 = .ok (.ifCond .ne 7, 3) := by decide +kernel
theorem dX6_howIs_75 : decode cX6_howIs 75 = .ok (.iconst 2, 1) := by decide +kernel
theorem dX6_howIs_76 : decode cX6_howIs 76 = .ok (.goto 28, 3) := by decide +kernel
theorem dX6_howIs_79 : decode cX6_howIs 79 = .ok (.aload_n 0, 1) := by decide +kernel
theorem dX6_howIs_80 : decode cX6_howIs 80 = .ok (.iload_n 1, 1) := by decide +kernel
theorem dX6_howIs_81 : decode cX6_howIs 81 = .ok (.iload_n 2, 1) := by decide +kernel
theorem dX6_howIs_82 : decode cX6_howIs 82 = .ok (.aload_n 0, 1) := by decide +kernel
theorem dX6_howIs_83 : decode cX6_howIs 83 = .ok (.iload_n 1, 1) := by decide +kernel
theorem dX6_howIs_84 : decode cX6_howIs 84 = .ok (.iconst 2, 1) := by decide +kernel
theorem dX6_howIs_85 : decode cX6_howIs 85 = .ok (.invokevirtual 43, 3) := by decide +kernel
theorem dX6_howIs_88 : decode cX6_howIs 88 = .ok (.invokevirtual 88, 3) := by decide +kernel
theorem dX6_howIs_91 : decode cX6_howIs 91 = .ok (.iload_n 3, 1) := by decide +kernel
theorem dX6_howIs_92 : decode cX6_howIs 92 = .ok (.sipush 256, 3) := by decide +kernel
theorem dX6_howIs_95 : decode cX6_howIs 95 = .ok (.irem, 1) := by decide +kernel
theorem dX6_howIs_96 : decode cX6_howIs 96 = .ok (.if_icmp .ne 7, 3) := by decide +kernel
theorem dX6_howIs_99 : decode cX6_howIs 99 = .ok (.iconst 0, 1) := by decide +kernel
theorem dX6_howIs_100 : decode cX6_howIs 100 = .ok (.goto 4, 3) := by decide +kernel
theorem dX6_howIs_103 : decode cX6_howIs 103 = .ok (.iconst 3, 1) := by decide +kernel
theorem dX6_howIs_104 : decode cX6_howIs 104 = .ok (.ireturn, 1) := by decide +kernel
set_option maxRecDepth 20000 in
theorem ggX6_findBy_X6_part : GoodIn wsX6_findBy wsX6_part := goodIn_r _ [6, 7, 51, 52, 53, 54, 55, 56, 57, 58, 59, 60, 61, 62, 63] (by decide +kernel) (by decide +kernel)
set_option maxRecDepth 20000 in
theorem gX6_findBy_X6_part : GoodIn wsX6_findBy (wsV RX6 43 RX6 yX6_part wsX6_part) := goodIn_app (goodIn_of _ (by decide +kernel)) ggX6_findBy_X6_part
set_option maxRecDepth 20000 in
theorem ggX6_findBy_X6_readAt : GoodIn wsX6_findBy wsX6_readAt := goodIn_r _ [11, 12, 13, 14, 5, 15, 16, 17, 18, 19, 20, 21, 22, 23, 2, 3, 4, 6, 7, 24, 25, 26, 27, 28, 29, 30, 31, 32, 33, 34, 35, 36, 37, 38, 39, 40, 41, 42, 43, 44, 45, 46, 47, 48, 49, 50, 51, 52, 53, 54, 55, 56, 57, 58, 59, 60, 61, 62, 63] (by decide +kernel) (by decide +kernel)
set_option maxRecDepth 20000 in
theorem gX6_findBy_X6_readAt : GoodIn wsX6_findBy (wsV RX6 88 RX6 yX6_readAt wsX6_readAt) := goodIn_app (goodIn_of _ (by decide +kernel)) ggX6_findBy_X6_readAt
theorem dX6_findBy_0 : decode cX6_findBy 0 = .ok (.iconst 0, 1) := by decide +kernel
theorem dX6_findBy_1 : decode cX6_findBy 1 = .ok (.istore_n 3, 1) := by decide +kernel
theorem dX6_findBy_2 : decode cX6_findBy 2 = .ok (.iload_n 3, 1) := by decide +kernel
theorem dX6_findBy_3 : decode cX6_findBy 3 = .ok (.aload_n 0, 1) := by decide +kernel
theorem dX6_findBy_4 : decode cX6_findBy 4 = .ok (.iload_n 1, 1) := by decide +kernel
theorem dX6_findBy_5 : decode cX6_findBy 5 = .ok (.iconst 2, 1) := by decide +kernel
theorem dX6_findBy_6 : decode cX6_findBy 6 = .ok (.invokevirtual 43, 3) := by decide +kernel
theorem dX6_findBy_9 : decode cX6_findBy 9 = .ok (.if_icmp .ge 22, 3) := by decide +kernel
theorem dX6_findBy_12 : decode cX6_findBy 12 = .ok (.aload_n 0, 1) := by decide +kernel
theorem dX6_findBy_13 : decode cX6_findBy 13 = .ok (.getfield 25, 3) := by decide +kernel
theorem dX6_findBy_16 : decode cX6_findBy 16 = .ok (.iload_n 3, 1) := by decide +kernel
theorem dX6_findBy_17 : decode cX6_findBy 17 = .ok (.aload_n 0, 1) := by decide +kernel
theorem dX6_findBy_18 : decode cX6_findBy 18 = .ok (.iload_n 1, 1) := by decide +kernel
theorem dX6_findBy_19 : decode cX6_findBy 19 = .ok (.iload_n 2, 1) := by decide +kernel
theorem dX6_findBy_20 : decode cX6_findBy 20 = .ok (.iload_n 3, 1) := by decide +kernel
theorem dX6_findBy_21 : decode cX6_findBy 21 = .ok (.invokevirtual 88, 3) := by decide +kernel
theorem dX6_findBy_24 : decode cX6_findBy 24 = .ok (.iastore, 1) := by decide +kernel
theorem dX6_findBy_25 : decode cX6_findBy 25 = .ok (.iinc 3 1, 3) := by decide +kernel
theorem dX6_findBy_28 : decode cX6_findBy 28 = .ok (.goto (-26), 3) := by decide +kernel
theorem dX6_findBy_31 : decode cX6_findBy 31 = .ok (.return_, 1) := by decide +kernel
set_option maxRecDepth 20000 in
theorem ggX6_findByBoth_X6_isLeaderLost : GoodIn wsX6_findByBoth wsX6_isLeaderLost := goodIn_r _ [6, 7, 8, 9, 5, 10, 11, 12, 13, 14, 15, 16, 17, 18, 19, 20, 21, 22, 23, 24, 25, 26, 27, 28, 29, 30, 31, 55, 56, 57, 58, 59, 60, 61, 62, 63, 64, 65, 66, 67] (by decide +kernel) (by decide +kernel)
set_option maxRecDepth 20000 in
theorem gX6_findByBoth_X6_isLeaderLost : GoodIn wsX6_findByBoth (wsV RX6 84 RX6 yX6_isLeaderLost wsX6_isLeaderLost) := goodIn_app (goodIn_of _ (by decide +kernel)) ggX6_findByBoth_X6_isLeaderLost
set_option maxRecDepth 20000 in
theorem ggX6_findByBoth_X6_part : GoodIn wsX6_findByBoth wsX6_part := goodIn_r _ [22, 23, 55, 56, 57, 58, 59, 60, 61, 62, 63, 64, 65, 66, 67] (by decide +kernel) (by decide +kernel)
set_option maxRecDepth 20000 in
theorem gX6_findByBoth_X6_part : GoodIn wsX6_findByBoth (wsV RX6 43 RX6 yX6_part wsX6_part) := goodIn_app (goodIn_of _ (by decide +kernel)) ggX6_findByBoth_X6_part
set_option maxRecDepth 20000 in
theorem ggX6_findByBoth_X6_readAt : GoodIn wsX6_findByBoth wsX6_readAt := goodIn_r _ [35, 7, 8, 9, 5, 10, 11, 12, 13, 14, 15, 16, 17, 18, 19, 20, 21, 22, 23, 24, 25, 26, 27, 28, 29, 30, 31, 36, 37, 38, 39, 40, 41, 42, 43, 44, 45, 46, 47, 48, 49, 50, 51, 52, 53, 54, 55, 56, 57, 58, 59, 60, 61, 62, 63, 64, 65, 66, 67] (by decide +kernel) (by decide +kernel)
set_option maxRecDepth 20000 in
theorem gX6_findByBoth_X6_readAt : GoodIn wsX6_findByBoth (wsV RX6 88 RX6 yX6_readAt wsX6_readAt) := goodIn_app (goodIn_of _ (by decide +kernel)) ggX6_findByBoth_X6_readAt
theorem dX6_findByBoth_0 : decode cX6_findByBoth 0 = .ok (.iconst 0, 1) := by decide +kernel
theorem dX6_findByBoth_1 : decode cX6_findByBoth 1 = .ok (.istore_n 2, 1) := by decide +kernel
theorem dX6_findByBoth_2 : decode cX6_findByBoth 2 = .ok (.aload_n 0, 1) := by decide +kernel
theorem dX6_findByBoth_3 : decode cX6_findByBoth 3 = .ok (.iload_n 1, 1) := by decide +kernel
theorem dX6_findByBoth_4 : decode cX6_findByBoth 4 = .ok (.iconst 0, 1) := by decide +kernel
theorem dX6_findByBoth_5 : decode cX6_findByBoth 5 = .ok (.invokevirtual 84, 3) := by decide +kernel
theorem dX6_findByBoth_8 : decode cX6_findByBoth 8 = .ok (.ifCond .ne 16, 3) := by decide +kernel
theorem dX6_findByBoth_11 : decode cX6_findByBoth 11 = .ok (.aload_n 0, 1) := by decide +kernel
theorem dX6_findByBoth_12 : decode cX6_findByBoth 12 = .ok (.iload_n 1, 1) := by decide +kernel
theorem dX6_findByBoth_13 : decode cX6_findByBoth 13 = .ok (.iconst 1, 1) := by decide +kernel
theorem dX6_findByBoth_14 : decode cX6_findByBoth 14 = .ok (.invokevirtual 84, 3) := by decide +kernel
theorem dX6_findByBoth_17 : decode cX6_findByBoth 17 = .ok (.ifCond .ne 7, 3) := by decide +kernel
theorem dX6_findByBoth_20 : decode cX6_findByBoth 20 = .ok (.iconst 1, 1) := by decide +kernel
theorem dX6_findByBoth_21 : decode cX6_findByBoth 21 = .ok (.goto 4, 3) := by decide +kernel
theorem dX6_findByBoth_24 : decode cX6_findByBoth 24 = .ok (.iconst 0, 1) := by decide +kernel
theorem dX6_findByBoth_25 : decode cX6_findByBoth 25 = .ok (.istore_n 3, 1) := by decide +kernel
theorem dX6_findByBoth_26 : decode cX6_findByBoth 26 = .ok (.iconst 0, 1) := by decide +kernel
theorem dX6_findByBoth_27 : decode cX6_findByBoth 27 = .ok (.istore 4, 2) := by decide +kernel
theorem dX6_findByBoth_29 : decode cX6_findByBoth 29 = .ok (.iload 4, 2) := by decide +kernel
theorem dX6_findByBoth_31 : decode cX6_findByBoth 31 = .ok (.aload_n 0, 1) := by decide +kernel
theorem dX6_findByBoth_32 : decode cX6_findByBoth 32 = .ok (.iload_n 1, 1) := by decide +kernel
theorem dX6_findByBoth_33 : decode cX6_findByBoth 33 = .ok (.iconst 2, 1) := by decide +kernel
theorem dX6_findByBoth_34 : decode cX6_findByBoth 34 = .ok (.invokevirtual 43, 3) := by decide +kernel
theorem dX6_findByBoth_37 : decode cX6_findByBoth 37 = .ok (.if_icmp .ge 78, 3) := by decide +kernel
theorem dX6_findByBoth_40 : decode cX6_findByBoth 40 = .ok (.aload_n 0, 1) := by decide +kernel
theorem dX6_findByBoth_41 : decode cX6_findByBoth 41 = .ok (.iload_n 1, 1) := by decide +kernel
theorem dX6_findByBoth_42 : decode cX6_findByBoth 42 = .ok (.iconst 0, 1) := by decide +kernel
theorem dX6_findByBoth_43 : decode cX6_findByBoth 43 = .ok (.iload 4, 2) := by decide +kernel
theorem dX6_findByBoth_45 : decode cX6_findByBoth 45 = .ok (.invokevirtual 88, 3) := by decide +kernel
theorem dX6_findByBoth_48 : decode cX6_findByBoth 48 = .ok (.istore 5, 2) := by decide +kernel
theorem dX6_findByBoth_50 : decode cX6_findByBoth 50 = .ok (.aload_n 0, 1) := by decide +kernel
theorem dX6_findByBoth_51 : decode cX6_findByBoth 51 = .ok (.getfield 25, 3) := by decide +kernel
theorem dX6_findByBoth_54 : decode cX6_findByBoth 54 = .ok (.iload 4, 2) := by decide +kernel
theorem dX6_findByBoth_56 : decode cX6_findByBoth 56 = .ok (.iload 5, 2) := by decide +kernel
theorem dX6_findByBoth_58 : decode cX6_findByBoth 58 = .ok (.bipush (-6), 2) := by decide +kernel
theorem dX6_findByBoth_60 : decode cX6_findByBoth 60 = .ok (.if_icmp .ne 14, 3) := by decide +kernel
theorem dX6_findByBoth_63 : decode cX6_findByBoth 63 = .ok (.aload_n 0, 1) := by decide +kernel
theorem dX6_findByBoth_64 : decode cX6_findByBoth 64 = .ok (.iload_n 1, 1) := by decide +kernel
theorem dX6_findByBoth_65 : decode cX6_findByBoth 65 = .ok (.iconst 1, 1) := by decide +kernel
theorem dX6_findByBoth_66 : decode cX6_findByBoth 66 = .ok (.iload 4, 2) := by decide +kernel
theorem dX6_findByBoth_68 : decode cX6_findByBoth 68 = .ok (.invokevirtual 88, 3) := by decide +kernel
theorem dX6_findByBoth_71 : decode cX6_findByBoth 71 = .ok (.goto 5, 3) := by decide +kernel
theorem dX6_findByBoth_74 : decode cX6_findByBoth 74 = .ok (.iload 5, 2) := by decide +kernel
theorem dX6_findByBoth_76 : decode cX6_findByBoth 76 = .ok (.iastore, 1) := by decide +kernel
theorem dX6_findByBoth_77 : decode cX6_findByBoth 77 = .ok (.iload_n 3, 1) := by decide +kernel
theorem dX6_findByBoth_78 : decode cX6_findByBoth 78 = .ok (.ifCond .eq 19, 3) := by decide +kernel
theorem dX6_findByBoth_81 : decode cX6_findByBoth 81 = .ok (.aload_n 0, 1) := by decide +kernel
theorem dX6_findByBoth_82 : decode cX6_findByBoth 82 = .ok (.getfield 25, 3) := by decide +kernel
theorem dX6_findByBoth_85 : decode cX6_findByBoth 85 = .ok (.iload 4, 2) := by decide +kernel
theorem dX6_findByBoth_87 : decode cX6_findByBoth 87 = .ok (.iaload, 1) := by decide +kernel
theorem dX6_findByBoth_88 : decode cX6_findByBoth 88 = .ok (.bipush (-6), 2) := by decide +kernel
theorem dX6_findByBoth_90 : decode cX6_findByBoth 90 = .ok (.if_icmp .eq 7, 3) := by decide +kernel
theorem dX6_findByBoth_93 : decode cX6_findByBoth 93 = .ok (.iconst 1, 1) := by decide +kernel
theorem dX6_findByBoth_94 : decode cX6_findByBoth 94 = .ok (.goto 4, 3) := by decide +kernel
theorem dX6_findByBoth_97 : decode cX6_findByBoth 97 = .ok (.iconst 0, 1) := by decide +kernel
theorem dX6_findByBoth_98 : decode cX6_findByBoth 98 = .ok (.istore_n 3, 1) := by decide +kernel
theorem dX6_findByBoth_99 : decode cX6_findByBoth 99 = .ok (.iload_n 2, 1) := by decide +kernel
theorem dX6_findByBoth_100 : decode cX6_findByBoth 100 = .ok (.aload_n 0, 1) := by decide +kernel
theorem dX6_findByBoth_101 : decode cX6_findByBoth 101 = .ok (.getfield 25, 3) := by decide +kernel
theorem dX6_findByBoth_104 : decode cX6_findByBoth 104 = .ok (.iload 4, 2) := by decide +kernel
theorem dX6_findByBoth_106 : decode cX6_findByBoth 106 = .ok (.iaload, 1) := by decide +kernel
theorem dX6_findByBoth_107 : decode cX6_findByBoth 107 = .ok (.iadd, 1) := by decide +kernel
theorem dX6_findByBoth_108 : decode cX6_findByBoth 108 = .ok (.istore_n 2, 1) := by decide +kernel
theorem dX6_findByBoth_109 : decode cX6_findByBoth 109 = .ok (.iinc 4 1, 3) := by decide +kernel
theorem dX6_findByBoth_112 : decode cX6_findByBoth 112 = .ok (.goto (-83), 3) := by decide +kernel
theorem dX6_findByBoth_115 : decode cX6_findByBoth 115 = .ok (.aload_n 0, 1) := by decide +kernel
theorem dX6_findByBoth_116 : decode cX6_findByBoth 116 = .ok (.iload_n 1, 1) := by decide +kernel
theorem dX6_findByBoth_117 : decode cX6_findByBoth 117 = .ok (.iconst 2, 1) := by decide +kernel
theorem dX6_findByBoth_118 : decode cX6_findByBoth 118 = .ok (.invokevirtual 43, 3) := by decide +kernel
theorem dX6_findByBoth_121 : decode cX6_findByBoth 121 = .ok (.istore 4, 2) := by decide +kernel
theorem dX6_findByBoth_123 : decode cX6_findByBoth 123 = .ok (.iload_n 3, 1) := by decide +kernel
theorem dX6_findByBoth_124 : decode cX6_findByBoth 124 = .ok (.ifCond .eq 39, 3) := by decide +kernel
theorem dX6_findByBoth_127 : decode cX6_findByBoth 127 = .ok (.aload_n 0, 1) := by decide +kernel
theorem dX6_findByBoth_128 : decode cX6_findByBoth 128 = .ok (.iload_n 1, 1) := by decide +kernel
theorem dX6_findByBoth_129 : decode cX6_findByBoth 129 = .ok (.iconst 0, 1) := by decide +kernel
theorem dX6_findByBoth_130 : decode cX6_findByBoth 130 = .ok (.iload 4, 2) := by decide +kernel
theorem dX6_findByBoth_132 : decode cX6_findByBoth 132 = .ok (.invokevirtual 88, 3) := by decide +kernel
theorem dX6_findByBoth_135 : decode cX6_findByBoth 135 = .ok (.iload_n 2, 1) := by decide +kernel
theorem dX6_findByBoth_136 : decode cX6_findByBoth 136 = .ok (.sipush 256, 3) := by decide +kernel
theorem dX6_findByBoth_139 : decode cX6_findByBoth 139 = .ok (.irem, 1) := by decide +kernel
theorem dX6_findByBoth_140 : decode cX6_findByBoth 140 = .ok (.if_icmp .eq 19, 3) := by decide +kernel
theorem dX6_findByBoth_143 : decode cX6_findByBoth 143 = .ok (.aload_n 0, 1) := by decide +kernel
theorem dX6_findByBoth_144 : decode cX6_findByBoth 144 = .ok (.iload_n 1, 1) := by decide +kernel
theorem dX6_findByBoth_145 : decode cX6_findByBoth 145 = .ok (.iconst 1, 1) := by decide +kernel
theorem dX6_findByBoth_146 : decode cX6_findByBoth 146 = .ok (.iload 4, 2) := by decide +kernel
theorem dX6_findByBoth_148 : decode cX6_findByBoth 148 = .ok (.invokevirtual 88, 3) := by decide +kernel
theorem dX6_findByBoth_151 : decode cX6_findByBoth 151 = .ok (.iload_n 2, 1) := by decide +kernel
theorem dX6_findByBoth_152 : decode cX6_findByBoth 152 = .ok (.sipush 256, 3) := by decide +kernel
theorem dX6_findByBoth_155 : decode cX6_findByBoth 155 = .ok (.irem, 1) := by decide +kernel
theorem dX6_findByBoth_156 : decode cX6_findByBoth 156 = .ok (.if_icmp .ne 7, 3) := by decide +kernel
theorem dX6_findByBoth_159 : decode cX6_findByBoth 159 = .ok (.iconst 1, 1) := by decide +kernel
theorem dX6_findByBoth_160 : decode cX6_findByBoth 160 = .ok (.goto 4, 3) := by decide +kernel
theorem dX6_findByBoth_163 : decode cX6_findByBoth 163 = .ok (.iconst 0, 1) := by decide +kernel
theorem dX6_findByBoth_164 : decode cX6_findByBoth 164 = .ok (.ireturn, 1) := by decide +kernel
set_option maxRecDepth 20000 in
theorem ggX6_loadedBy_X6_howIs : GoodIn wsX6_loadedBy wsX6_howIs := goodIn_r _ [5, 6, 7, 8, 4, 9, 10, 11, 12, 13, 14, 15, 16, 17, 18, 19, 20, 21, 22, 23, 24, 25, 26, 27, 28, 29, 30, 31, 32, 33, 34, 35, 36, 37, 38, 39, 40, 41, 42, 43, 44, 45, 46, 47, 48, 49, 50, 51, 52, 53, 54, 55, 56, 57, 67, 68, 69, 70, 71, 72, 73, 74, 75, 76, 77, 78, 79] (by decide +kernel) (by decide +kernel)
set_option maxRecDepth 20000 in
theorem gX6_loadedBy_X6_howIs : GoodIn wsX6_loadedBy (wsV RX6 91 RX6 yX6_howIs wsX6_howIs) := goodIn_app (goodIn_of _ (by decide +kernel)) ggX6_loadedBy_X6_howIs
set_option maxRecDepth 20000 in
theorem ggX6_loadedBy_X6_findBy : GoodIn wsX6_loadedBy wsX6_findBy := goodIn_r _ [61, 62, 22, 23, 24, 4, 25, 26, 35, 36, 37, 38, 10, 11, 12, 13, 14, 15, 16, 17, 18, 19, 20, 21, 27, 28, 29, 30, 31, 32, 33, 34, 39, 40, 41, 42, 43, 44, 45, 46, 47, 48, 49, 50, 51, 52, 53, 54, 55, 56, 57, 67, 68, 69, 70, 71, 72, 73, 74, 75, 76, 77, 78, 79] (by decide +kernel) (by decide +kernel)
set_option maxRecDepth 20000 in
theorem gX6_loadedBy_X6_findBy : GoodIn wsX6_loadedBy (wsV RX6 94 RX6 yX6_findBy wsX6_findBy) := goodIn_app (goodIn_of _ (by decide +kernel)) ggX6_loadedBy_X6_findBy
set_option maxRecDepth 20000 in
theorem ggX6_loadedBy_X6_findByBoth : GoodIn wsX6_loadedBy wsX6_findByBoth := goodIn_r _ [66, 62, 6, 7, 8, 4, 9, 10, 11, 12, 13, 14, 15, 16, 17, 18, 19, 20, 21, 22, 23, 24, 25, 26, 27, 28, 29, 30, 31, 32, 33, 34, 35, 36, 37, 38, 39, 40, 41, 42, 43, 44, 45, 46, 47, 48, 49, 50, 51, 52, 53, 54, 55, 56, 57, 67, 68, 69, 70, 71, 72, 73, 74, 75, 76, 77, 78, 79] (by decide +kernel) (by decide +kernel)
set_option maxRecDepth 20000 in
theorem gX6_loadedBy_X6_findByBoth : GoodIn wsX6_loadedBy (wsV RX6 98 RX6 yX6_findByBoth wsX6_findByBoth) := goodIn_app (goodIn_of _ (by decide +kernel)) ggX6_loadedBy_X6_findByBoth
theorem dX6_loadedBy_0 : decode cX6_loadedBy 0 = .ok (.iconst 0, 1) := by decide +kernel
theorem dX6_loadedBy_1 : decode cX6_loadedBy 1 = .ok (.istore_n 2, 1) := by decide +kernel
theorem dX6_loadedBy_2 : decode cX6_loadedBy 2 = .ok (.iload_n 2, 1) := by decide +kernel
theorem dX6_loadedBy_3 : decode cX6_loadedBy 3 = .ok (.iconst 2, 1) := by decide +kernel
theorem dX6_loadedBy_4 : decode cX6_loadedBy 4 = .ok (.if_icmp .ge 26, 3) := by decide +kernel
theorem dX6_loadedBy_7 : decode cX6_loadedBy 7 = .ok (.aload_n 0, 1) := by decide +kernel
theorem dX6_loadedBy_8 : decode cX6_loadedBy 8 = .ok (.iload_n 1, 1) := by decide +kernel
theorem dX6_loadedBy_9 : decode cX6_loadedBy 9 = .ok (.iload_n 2, 1) := by decide +kernel
theorem dX6_loadedBy_10 : decode cX6_loadedBy 10 = .ok (.invokevirtual 91, 3) := by decide +kernel
theorem dX6_loadedBy_13 : decode cX6_loadedBy 13 = .ok (.ifCond .ne 11, 3) := by decide +kernel
theorem dX6_loadedBy_16 : decode cX6_loadedBy 16 = .ok (.aload_n 0, 1) := by decide +kernel
theorem dX6_loadedBy_17 : decode cX6_loadedBy 17 = .ok (.iload_n 1, 1) := by decide +kernel
theorem dX6_loadedBy_18 : decode cX6_loadedBy 18 = .ok (.iload_n 2, 1) := by decide +kernel
theorem dX6_loadedBy_19 : decode cX6_loadedBy 19 = .ok (.invokevirtual 94, 3) := by decide +kernel
theorem dX6_loadedBy_22 : decode cX6_loadedBy 22 = .ok (.iload_n 2, 1) := by decide +kernel
theorem dX6_loadedBy_23 : decode cX6_loadedBy 23 = .ok (.ireturn, 1) := by decide +kernel
theorem dX6_loadedBy_24 : decode cX6_loadedBy 24 = .ok (.iinc 2 1, 3) := by decide +kernel
theorem dX6_loadedBy_27 : decode cX6_loadedBy 27 = .ok (.goto (-25), 3) := by decide +kernel
theorem dX6_loadedBy_30 : decode cX6_loadedBy 30 = .ok (.aload_n 0, 1) := by decide +kernel
theorem dX6_loadedBy_31 : decode cX6_loadedBy 31 = .ok (.iload_n 1, 1) := by decide +kernel
theorem dX6_loadedBy_32 : decode cX6_loadedBy 32 = .ok (.invokevirtual 98, 3) := by decide +kernel
theorem dX6_loadedBy_35 : decode cX6_loadedBy 35 = .ok (.ifCond .eq 7, 3) := by decide +kernel
theorem dX6_loadedBy_38 : decode cX6_loadedBy 38 = .ok (.iconst 2, 1) := by decide +kernel
theorem dX6_loadedBy_39 : decode cX6_loadedBy 39 = .ok (.goto 5, 3) := by decide +kernel
theorem dX6_loadedBy_42 : decode cX6_loadedBy 42 = .ok (.bipush (-6), 2) := by decide +kernel
theorem dX6_loadedBy_44 : decode cX6_loadedBy 44 = .ok (.ireturn, 1) := by decide +kernel
set_option maxRecDepth 20000 in
theorem ggX6_isValue_X6_within : GoodIn wsX6_isValue wsX6_within := goodIn_r _ [4] (by decide +kernel) (by decide +kernel)
set_option maxRecDepth 20000 in
theorem gX6_isValue_X6_within : GoodIn wsX6_isValue (va_wsS RX6 39 yX6_within wsX6_within) := goodIn_app (goodIn_of _ (by decide +kernel)) ggX6_isValue_X6_within
theorem dX6_isValue_0 : decode cX6_isValue 0 = .ok (.iload_n 0, 1) := by decide +kernel
theorem dX6_isValue_1 : decode cX6_isValue 1 = .ok (.ifCond .eq 8, 3) := by decide +kernel
theorem dX6_isValue_4 : decode cX6_isValue 4 = .ok (.iload_n 0, 1) := by decide +kernel
theorem dX6_isValue_5 : decode cX6_isValue 5 = .ok (.iconst 1, 1) := by decide +kernel
theorem dX6_isValue_6 : decode cX6_isValue 6 = .ok (.if_icmp .ne 13, 3) := by decide +kernel
theorem dX6_isValue_9 : decode cX6_isValue 9 = .ok (.iload_n 1, 1) := by decide +kernel
theorem dX6_isValue_10 : decode cX6_isValue 10 = .ok (.iconst 0, 1) := by decide +kernel
theorem dX6_isValue_11 : decode cX6_isValue 11 = .ok (.bipush 99, 2) := by decide +kernel
theorem dX6_isValue_13 : decode cX6_isValue 13 = .ok (.invokestatic 39, 3) := by decide +kernel
theorem dX6_isValue_16 : decode cX6_isValue 16 = .ok (.goto 23, 3) := by decide +kernel
theorem dX6_isValue_19 : decode cX6_isValue 19 = .ok (.iload_n 0, 1) := by decide +kernel
theorem dX6_isValue_20 : decode cX6_isValue 20 = .ok (.iconst 2, 1) := by decide +kernel
theorem dX6_isValue_21 : decode cX6_isValue 21 = .ok (.if_icmp .ne 17, 3) := by decide +kernel
theorem dX6_isValue_24 : decode cX6_isValue 24 = .ok (.iload_n 1, 1) := by decide +kernel
theorem dX6_isValue_25 : decode cX6_isValue 25 = .ok (.iconst 0, 1) := by decide +kernel
theorem dX6_isValue_26 : decode cX6_isValue 26 = .ok (.bipush 20, 2) := by decide +kernel
theorem dX6_isValue_28 : decode cX6_isValue 28 = .ok (.invokestatic 39, 3) := by decide +kernel
theorem dX6_isValue_31 : decode cX6_isValue 31 = .ok (.ifCond .eq 7, 3) := by decide +kernel
theorem dX6_isValue_34 : decode cX6_isValue 34 = .ok (.iconst 1, 1) := by decide +kernel
theorem dX6_isValue_35 : decode cX6_isValue 35 = .ok (.goto 4, 3) := by decide +kernel
theorem dX6_isValue_38 : decode cX6_isValue 38 = .ok (.iconst 0, 1) := by decide +kernel
theorem dX6_isValue_39 : decode cX6_isValue 39 = .ok (.ireturn, 1) := by decide +kernel
set_option maxRecDepth 20000 in
theorem ggX6_set_X6_isValue : GoodIn wsX6_set wsX6_isValue := goodIn_r _ [5, 6, 7, 4, 8] (by decide +kernel) (by decide +kernel)
set_option maxRecDepth 20000 in
theorem gX6_set_X6_isValue : GoodIn wsX6_set (va_wsS RX6 101 yX6_isValue wsX6_isValue) := goodIn_app (goodIn_of _ (by decide +kernel)) ggX6_set_X6_isValue
set_option maxRecDepth 20000 in
theorem ggX6_set_X6_record : GoodIn wsX6_set wsX6_record := goodIn_r _ [12, 13, 14, 1, 15, 16, 4, 17, 18, 19, 20, 21, 22, 23, 24, 25, 26, 27, 28, 29, 30] (by decide +kernel) (by decide +kernel)
set_option maxRecDepth 20000 in
theorem gX6_set_X6_record : GoodIn wsX6_set (wsV RX6 104 RX6 yX6_record wsX6_record) := goodIn_app (goodIn_of _ (by decide +kernel)) ggX6_set_X6_record
theorem dX6_set_0 : decode cX6_set 0 = .ok (.iload_n 1, 1) := by decide +kernel
theorem dX6_set_1 : decode cX6_set 1 = .ok (.iload_n 2, 1) := by decide +kernel
theorem dX6_set_2 : decode cX6_set 2 = .ok (.invokestatic 101, 3) := by decide +kernel
theorem dX6_set_5 : decode cX6_set 5 = .ok (.ifCond .ne 6, 3) := by decide +kernel
theorem dX6_set_8 : decode cX6_set 8 = .ok (.bipush (-2), 2) := by decide +kernel
theorem dX6_set_10 : decode cX6_set 10 = .ok (.ireturn, 1) := by decide +kernel
theorem dX6_set_11 : decode cX6_set 11 = .ok (.aload_n 0, 1) := by decide +kernel
theorem dX6_set_12 : decode cX6_set 12 = .ok (.invokevirtual 104, 3) := by decide +kernel
theorem dX6_set_15 : decode cX6_set 15 = .ok (.aload_n 0, 1) := by decide +kernel
theorem dX6_set_16 : decode cX6_set 16 = .ok (.getfield 7, 3) := by decide +kernel
theorem dX6_set_19 : decode cX6_set 19 = .ok (.iload_n 1, 1) := by decide +kernel
theorem dX6_set_20 : decode cX6_set 20 = .ok (.iaload, 1) := by decide +kernel
theorem dX6_set_21 : decode cX6_set 21 = .ok (.istore_n 3, 1) := by decide +kernel
theorem dX6_set_22 : decode cX6_set 22 = .ok (.aload_n 0, 1) := by decide +kernel
theorem dX6_set_23 : decode cX6_set 23 = .ok (.getfield 7, 3) := by decide +kernel
theorem dX6_set_26 : decode cX6_set 26 = .ok (.iload_n 1, 1) := by decide +kernel
theorem dX6_set_27 : decode cX6_set 27 = .ok (.iload_n 2, 1) := by decide +kernel
theorem dX6_set_28 : decode cX6_set 28 = .ok (.iastore, 1) := by decide +kernel
theorem dX6_set_29 : decode cX6_set 29 = .ok (.iload_n 3, 1) := by decide +kernel
theorem dX6_set_30 : decode cX6_set 30 = .ok (.ireturn, 1) := by decide +kernel
set_option maxRecDepth 20000 in
theorem ggX6_whyNotWritten_X6_isBlock : GoodIn wsX6_whyNotWritten wsX6_isBlock := goodIn_r _ [6, 1, 7, 8, 5, 9, 10, 11, 12, 13, 14, 15, 16, 17, 18, 19, 20, 21, 22] (by decide +kernel) (by decide +kernel)
set_option maxRecDepth 20000 in
theorem gX6_whyNotWritten_X6_isBlock : GoodIn wsX6_whyNotWritten (wsV RX6 107 RX6 yX6_isBlock wsX6_isBlock) := goodIn_app (goodIn_of _ (by decide +kernel)) ggX6_whyNotWritten_X6_isBlock
set_option maxRecDepth 20000 in
theorem ggX6_whyNotWritten_X6_within : GoodIn wsX6_whyNotWritten wsX6_within := goodIn_r _ [9] (by decide +kernel) (by decide +kernel)
set_option maxRecDepth 20000 in
theorem gX6_whyNotWritten_X6_within : GoodIn wsX6_whyNotWritten (va_wsS RX6 39 yX6_within wsX6_within) := goodIn_app (goodIn_of _ (by decide +kernel)) ggX6_whyNotWritten_X6_within
theorem dX6_whyNotWritten_0 : decode cX6_whyNotWritten 0 = .ok (.aload_n 0, 1) := by decide +kernel
theorem dX6_whyNotWritten_1 : decode cX6_whyNotWritten 1 = .ok (.iload_n 2, 1) := by decide +kernel
theorem dX6_whyNotWritten_2 : decode cX6_whyNotWritten 2 = .ok (.invokevirtual 107, 3) := by decide +kernel
theorem dX6_whyNotWritten_5 : decode cX6_whyNotWritten 5 = .ok (.ifCond .ne 11, 3) := by decide +kernel
theorem dX6_whyNotWritten_8 : decode cX6_whyNotWritten 8 = .ok (.iload_n 2, 1) := by decide +kernel
theorem dX6_whyNotWritten_9 : decode cX6_whyNotWritten 9 = .ok (.bipush (-6), 2) := by decide +kernel
theorem dX6_whyNotWritten_11 : decode cX6_whyNotWritten 11 = .ok (.if_icmp .eq 5, 3) := by decide +kernel
theorem dX6_whyNotWritten_14 : decode cX6_whyNotWritten 14 = .ok (.iconst (-1), 1) := by decide +kernel
theorem dX6_whyNotWritten_15 : decode cX6_whyNotWritten 15 = .ok (.ireturn, 1) := by decide +kernel
theorem dX6_whyNotWritten_16 : decode cX6_whyNotWritten 16 = .ok (.iload_n 1, 1) := by decide +kernel
theorem dX6_whyNotWritten_17 : decode cX6_whyNotWritten 17 = .ok (.iconst 0, 1) := by decide +kernel
theorem dX6_whyNotWritten_18 : decode cX6_whyNotWritten 18 = .ok (.bipush 99, 2) := by decide +kernel
theorem dX6_whyNotWritten_20 : decode cX6_whyNotWritten 20 = .ok (.invokestatic 39, 3) := by decide +kernel
theorem dX6_whyNotWritten_23 : decode cX6_whyNotWritten 23 = .ok (.ifCond .eq 13, 3) := by decide +kernel
theorem dX6_whyNotWritten_26 : decode cX6_whyNotWritten 26 = .ok (.iload_n 3, 1) := by decide +kernel
theorem dX6_whyNotWritten_27 : decode cX6_whyNotWritten 27 = .ok (.iconst 1, 1) := by decide +kernel
theorem dX6_whyNotWritten_28 : decode cX6_whyNotWritten 28 = .ok (.bipush 7, 2) := by decide +kernel
theorem dX6_whyNotWritten_30 : decode cX6_whyNotWritten 30 = .ok (.invokestatic 39, 3) := by decide +kernel
theorem dX6_whyNotWritten_33 : decode cX6_whyNotWritten 33 = .ok (.ifCond .ne 6, 3) := by decide +kernel
theorem dX6_whyNotWritten_36 : decode cX6_whyNotWritten 36 = .ok (.bipush (-2), 2) := by decide +kernel
theorem dX6_whyNotWritten_38 : decode cX6_whyNotWritten 38 = .ok (.ireturn, 1) := by decide +kernel
theorem dX6_whyNotWritten_39 : decode cX6_whyNotWritten 39 = .ok (.aload_n 0, 1) := by decide +kernel
theorem dX6_whyNotWritten_40 : decode cX6_whyNotWritten 40 = .ok (.getfield 7, 3) := by decide +kernel
theorem dX6_whyNotWritten_43 : decode cX6_whyNotWritten 43 = .ok (.iconst 3, 1) := by decide +kernel
theorem dX6_whyNotWritten_44 : decode cX6_whyNotWritten 44 = .ok (.iaload, 1) := by decide +kernel
theorem dX6_whyNotWritten_45 : decode cX6_whyNotWritten 45 = .ok (.bipush 16, 2) := by decide +kernel
theorem dX6_whyNotWritten_47 : decode cX6_whyNotWritten 47 = .ok (.if_icmp .ne 8, 3) := by decide +kernel
theorem dX6_whyNotWritten_50 : decode cX6_whyNotWritten 50 = .ok (.bipush (-4), 2) := by decide +kernel
theorem dX6_whyNotWritten_52 : decode cX6_whyNotWritten 52 = .ok (.goto 4, 3) := by decide +kernel
theorem dX6_whyNotWritten_55 : decode cX6_whyNotWritten 55 = .ok (.iconst 0, 1) := by decide +kernel
theorem dX6_whyNotWritten_56 : decode cX6_whyNotWritten 56 = .ok (.ireturn, 1) := by decide +kernel
set_option maxRecDepth 20000 in
theorem ggX6_writes_X6_firstOf : GoodIn wsX6_writes wsX6_firstOf := goodIn_r _ [7, 8, 9, 10, 6, 11, 12, 13, 14, 15, 16, 17, 18, 19, 1, 20, 21, 22, 23, 24, 25, 26, 27, 28, 29, 30, 31, 32] (by decide +kernel) (by decide +kernel)
set_option maxRecDepth 20000 in
theorem gX6_writes_X6_firstOf : GoodIn wsX6_writes (wsV RX6 54 RX6 yX6_firstOf wsX6_firstOf) := goodIn_app (goodIn_of _ (by decide +kernel)) ggX6_writes_X6_firstOf
set_option maxRecDepth 20000 in
theorem ggX6_writes_X6_cellsOf : GoodIn wsX6_writes wsX6_cellsOf := goodIn_r _ [11, 12, 13, 14, 6, 15, 16, 17, 18, 19, 1, 20, 21, 22, 23, 24, 25, 26, 27, 28, 29, 30, 31, 32] (by decide +kernel) (by decide +kernel)
set_option maxRecDepth 20000 in
theorem gX6_writes_X6_cellsOf : GoodIn wsX6_writes (wsV RX6 51 RX6 yX6_cellsOf wsX6_cellsOf) := goodIn_app (goodIn_of _ (by decide +kernel)) ggX6_writes_X6_cellsOf
theorem dX6_writes_0 : decode cX6_writes 0 = .ok (.aload_n 0, 1) := by decide +kernel
theorem dX6_writes_1 : decode cX6_writes 1 = .ok (.getfield 7, 3) := by decide +kernel
theorem dX6_writes_4 : decode cX6_writes 4 = .ok (.iconst 3, 1) := by decide +kernel
theorem dX6_writes_5 : decode cX6_writes 5 = .ok (.iaload, 1) := by decide +kernel
theorem dX6_writes_6 : decode cX6_writes 6 = .ok (.istore 4, 2) := by decide +kernel
theorem dX6_writes_8 : decode cX6_writes 8 = .ok (.iconst 4, 1) := by decide +kernel
theorem dX6_writes_9 : decode cX6_writes 9 = .ok (.bipush 10, 2) := by decide +kernel
theorem dX6_writes_11 : decode cX6_writes 11 = .ok (.iload 4, 2) := by decide +kernel
theorem dX6_writes_13 : decode cX6_writes 13 = .ok (.imul, 1) := by decide +kernel
theorem dX6_writes_14 : decode cX6_writes 14 = .ok (.iadd, 1) := by decide +kernel
theorem dX6_writes_15 : decode cX6_writes 15 = .ok (.istore 5, 2) := by decide +kernel
theorem dX6_writes_17 : decode cX6_writes 17 = .ok (.aload_n 0, 1) := by decide +kernel
theorem dX6_writes_18 : decode cX6_writes 18 = .ok (.getfield 7, 3) := by decide +kernel
theorem dX6_writes_21 : decode cX6_writes 21 = .ok (.iload 5, 2) := by decide +kernel
theorem dX6_writes_23 : decode cX6_writes 23 = .ok (.iconst 0, 1) := by decide +kernel
theorem dX6_writes_24 : decode cX6_writes 24 = .ok (.iadd, 1) := by decide +kernel
theorem dX6_writes_25 : decode cX6_writes 25 = .ok (.iload_n 1, 1) := by decide +kernel
theorem dX6_writes_26 : decode cX6_writes 26 = .ok (.iastore, 1) := by decide +kernel
theorem dX6_writes_27 : decode cX6_writes 27 = .ok (.aload_n 0, 1) := by decide +kernel
theorem dX6_writes_28 : decode cX6_writes 28 = .ok (.getfield 7, 3) := by decide +kernel
theorem dX6_writes_31 : decode cX6_writes 31 = .ok (.iload 5, 2) := by decide +kernel
theorem dX6_writes_33 : decode cX6_writes 33 = .ok (.iconst 1, 1) := by decide +kernel
theorem dX6_writes_34 : decode cX6_writes 34 = .ok (.iadd, 1) := by decide +kernel
theorem dX6_writes_35 : decode cX6_writes 35 = .ok (.iload_n 2, 1) := by decide +kernel
theorem dX6_writes_36 : decode cX6_writes 36 = .ok (.iastore, 1) := by decide +kernel
theorem dX6_writes_37 : decode cX6_writes 37 = .ok (.aload_n 0, 1) := by decide +kernel
theorem dX6_writes_38 : decode cX6_writes 38 = .ok (.getfield 7, 3) := by decide +kernel
theorem dX6_writes_41 : decode cX6_writes 41 = .ok (.iload 5, 2) := by decide +kernel
theorem dX6_writes_43 : decode cX6_writes 43 = .ok (.iconst 2, 1) := by decide +kernel
theorem dX6_writes_44 : decode cX6_writes 44 = .ok (.iadd, 1) := by decide +kernel
theorem dX6_writes_45 : decode cX6_writes 45 = .ok (.iload_n 3, 1) := by decide +kernel
theorem dX6_writes_46 : decode cX6_writes 46 = .ok (.iastore, 1) := by decide +kernel
theorem dX6_writes_47 : decode cX6_writes 47 = .ok (.iconst 0, 1) := by decide +kernel
theorem dX6_writes_48 : decode cX6_writes 48 = .ok (.istore 6, 2) := by decide +kernel
theorem dX6_writes_50 : decode cX6_writes 50 = .ok (.iload 6, 2) := by decide +kernel
theorem dX6_writes_52 : decode cX6_writes 52 = .ok (.bipush 7, 2) := by decide +kernel
theorem dX6_writes_54 : decode cX6_writes 54 = .ok (.if_icmp .ge 38, 3) := by decide +kernel
theorem dX6_writes_57 : decode cX6_writes 57 = .ok (.aload_n 0, 1) := by decide +kernel
theorem dX6_writes_58 : decode cX6_writes 58 = .ok (.getfield 7, 3) := by decide +kernel
theorem dX6_writes_61 : decode cX6_writes 61 = .ok (.iload 5, 2) := by decide +kernel
theorem dX6_writes_63 : decode cX6_writes 63 = .ok (.iconst 3, 1) := by decide +kernel
theorem dX6_writes_64 : decode cX6_writes 64 = .ok (.iadd, 1) := by decide +kernel
theorem dX6_writes_65 : decode cX6_writes 65 = .ok (.iload 6, 2) := by decide +kernel
theorem dX6_writes_67 : decode cX6_writes 67 = .ok (.iadd, 1) := by decide +kernel
theorem dX6_writes_68 : decode cX6_writes 68 = .ok (.iload 6, 2) := by decide +kernel
theorem dX6_writes_70 : decode cX6_writes 70 = .ok (.iload_n 3, 1) := by decide +kernel
theorem dX6_writes_71 : decode cX6_writes 71 = .ok (.if_icmp .ge 13, 3) := by decide +kernel
theorem dX6_writes_74 : decode cX6_writes 74 = .ok (.aload_n 0, 1) := by decide +kernel
theorem dX6_writes_75 : decode cX6_writes 75 = .ok (.getfield 25, 3) := by decide +kernel
theorem dX6_writes_78 : decode cX6_writes 78 = .ok (.iload 6, 2) := by decide +kernel
theorem dX6_writes_80 : decode cX6_writes 80 = .ok (.iaload, 1) := by decide +kernel
theorem dX6_writes_81 : decode cX6_writes 81 = .ok (.goto 4, 3) := by decide +kernel
theorem dX6_writes_84 : decode cX6_writes 84 = .ok (.iconst 0, 1) := by decide +kernel
theorem dX6_writes_85 : decode cX6_writes 85 = .ok (.iastore, 1) := by decide +kernel
theorem dX6_writes_86 : decode cX6_writes 86 = .ok (.iinc 6 1, 3) := by decide +kernel
theorem dX6_writes_89 : decode cX6_writes 89 = .ok (.goto (-39), 3) := by decide +kernel
theorem dX6_writes_92 : decode cX6_writes 92 = .ok (.aload_n 0, 1) := by decide +kernel
theorem dX6_writes_93 : decode cX6_writes 93 = .ok (.iload 4, 2) := by decide +kernel
theorem dX6_writes_95 : decode cX6_writes 95 = .ok (.invokevirtual 54, 3) := by decide +kernel
theorem dX6_writes_98 : decode cX6_writes 98 = .ok (.istore 6, 2) := by decide +kernel
theorem dX6_writes_100 : decode cX6_writes 100 = .ok (.iconst 0, 1) := by decide +kernel
theorem dX6_writes_101 : decode cX6_writes 101 = .ok (.istore 7, 2) := by decide +kernel
theorem dX6_writes_103 : decode cX6_writes 103 = .ok (.iload 7, 2) := by decide +kernel
theorem dX6_writes_105 : decode cX6_writes 105 = .ok (.aload_n 0, 1) := by decide +kernel
theorem dX6_writes_106 : decode cX6_writes 106 = .ok (.iload 4, 2) := by decide +kernel
theorem dX6_writes_108 : decode cX6_writes 108 = .ok (.invokevirtual 51, 3) := by decide +kernel
theorem dX6_writes_111 : decode cX6_writes 111 = .ok (.if_icmp .ge 29, 3) := by decide +kernel
theorem dX6_writes_114 : decode cX6_writes 114 = .ok (.aload_n 0, 1) := by decide +kernel
theorem dX6_writes_115 : decode cX6_writes 115 = .ok (.getfield 7, 3) := by decide +kernel
theorem dX6_writes_118 : decode cX6_writes 118 = .ok (.sipush 164, 3) := by decide +kernel
theorem dX6_writes_121 : decode cX6_writes 121 = .ok (.iload 6, 2) := by decide +kernel
theorem dX6_writes_123 : decode cX6_writes 123 = .ok (.iadd, 1) := by decide +kernel
theorem dX6_writes_124 : decode cX6_writes 124 = .ok (.iload 7, 2) := by decide +kernel
theorem dX6_writes_126 : decode cX6_writes 126 = .ok (.iadd, 1) := by decide +kernel
theorem dX6_writes_127 : decode cX6_writes 127 = .ok (.aload_n 0, 1) := by decide +kernel
theorem dX6_writes_128 : decode cX6_writes 128 = .ok (.getfield 7, 3) := by decide +kernel
theorem dX6_writes_131 : decode cX6_writes 131 = .ok (.iconst 0, 1) := by decide +kernel
theorem dX6_writes_132 : decode cX6_writes 132 = .ok (.iaload, 1) := by decide +kernel
theorem dX6_writes_133 : decode cX6_writes 133 = .ok (.iastore, 1) := by decide +kernel
theorem dX6_writes_134 : decode cX6_writes 134 = .ok (.iinc 7 1, 3) := by decide +kernel
theorem dX6_writes_137 : decode cX6_writes 137 = .ok (.goto (-34), 3) := by decide +kernel
theorem dX6_writes_140 : decode cX6_writes 140 = .ok (.aload_n 0, 1) := by decide +kernel
theorem dX6_writes_141 : decode cX6_writes 141 = .ok (.getfield 7, 3) := by decide +kernel
theorem dX6_writes_144 : decode cX6_writes 144 = .ok (.iconst 3, 1) := by decide +kernel
theorem dX6_writes_145 : decode cX6_writes 145 = .ok (.dup2, 1) := by decide +kernel
theorem dX6_writes_146 : decode cX6_writes 146 = .ok (.iaload, 1) := by decide +kernel
theorem dX6_writes_147 : decode cX6_writes 147 = .ok (.iconst 1, 1) := by decide +kernel
theorem dX6_writes_148 : decode cX6_writes 148 = .ok (.iadd, 1) := by decide +kernel
theorem dX6_writes_149 : decode cX6_writes 149 = .ok (.iastore, 1) := by decide +kernel
theorem dX6_writes_150 : decode cX6_writes 150 = .ok (.iload 4, 2) := by decide +kernel
theorem dX6_writes_152 : decode cX6_writes 152 = .ok (.ireturn, 1) := by decide +kernel
set_option maxRecDepth 20000 in
theorem ggX6_write_X6_whyNotWritten : GoodIn wsX6_write wsX6_whyNotWritten := goodIn_r _ [7, 8, 9, 10, 11, 6, 12, 13, 14, 15, 45, 46, 47, 48, 49, 50, 51, 52, 53, 54, 55, 56, 57] (by decide +kernel) (by decide +kernel)
set_option maxRecDepth 20000 in
theorem gX6_write_X6_whyNotWritten : GoodIn wsX6_write (wsV RX6 110 RX6 yX6_whyNotWritten wsX6_whyNotWritten) := goodIn_app (goodIn_of _ (by decide +kernel)) ggX6_write_X6_whyNotWritten
set_option maxRecDepth 20000 in
theorem ggX6_write_X6_record : GoodIn wsX6_write wsX6_record := goodIn_r _ [19, 20, 21, 8, 22, 23, 6, 24, 45, 46, 47, 48, 49, 50, 51, 52, 53, 54, 55, 56, 57] (by decide +kernel) (by decide +kernel)
set_option maxRecDepth 20000 in
theorem gX6_write_X6_record : GoodIn wsX6_write (wsV RX6 104 RX6 yX6_record wsX6_record) := goodIn_app (goodIn_of _ (by decide +kernel)) ggX6_write_X6_record
set_option maxRecDepth 20000 in
theorem ggX6_write_X6_writes : GoodIn wsX6_write wsX6_writes := goodIn_r _ [28, 8, 1, 29, 30, 31, 6, 32, 33, 34, 35, 36, 37, 38, 39, 40, 41, 42, 43, 44, 45, 46, 47, 48, 49, 50, 51, 52, 53, 54, 55, 56, 57] (by decide +kernel) (by decide +kernel)
set_option maxRecDepth 20000 in
theorem gX6_write_X6_writes : GoodIn wsX6_write (wsV RX6 115 RX6 yX6_writes wsX6_writes) := goodIn_app (goodIn_of _ (by decide +kernel)) ggX6_write_X6_writes
theorem dX6_write_0 : decode cX6_write 0 = .ok (.aload_n 0, 1) := by decide +kernel
theorem dX6_write_1 : decode cX6_write 1 = .ok (.iload_n 1, 1) := by decide +kernel
theorem dX6_write_2 : decode cX6_write 2 = .ok (.iload_n 2, 1) := by decide +kernel
theorem dX6_write_3 : decode cX6_write 3 = .ok (.iload_n 3, 1) := by decide +kernel
theorem dX6_write_4 : decode cX6_write 4 = .ok (.invokevirtual 110, 3) := by decide +kernel
theorem dX6_write_7 : decode cX6_write 7 = .ok (.istore 6, 2) := by decide +kernel
theorem dX6_write_9 : decode cX6_write 9 = .ok (.iload 6, 2) := by decide +kernel
theorem dX6_write_11 : decode cX6_write 11 = .ok (.ifCond .ge 6, 3) := by decide +kernel
theorem dX6_write_14 : decode cX6_write 14 = .ok (.iload 6, 2) := by decide +kernel
theorem dX6_write_16 : decode cX6_write 16 = .ok (.ireturn, 1) := by decide +kernel
theorem dX6_write_17 : decode cX6_write 17 = .ok (.aload_n 0, 1) := by decide +kernel
theorem dX6_write_18 : decode cX6_write 18 = .ok (.invokevirtual 104, 3) := by decide +kernel
theorem dX6_write_21 : decode cX6_write 21 = .ok (.iconst 0, 1) := by decide +kernel
theorem dX6_write_22 : decode cX6_write 22 = .ok (.istore 7, 2) := by decide +kernel
theorem dX6_write_24 : decode cX6_write 24 = .ok (.iload 7, 2) := by decide +kernel
theorem dX6_write_26 : decode cX6_write 26 = .ok (.iload_n 3, 1) := by decide +kernel
theorem dX6_write_27 : decode cX6_write 27 = .ok (.if_icmp .ge 29, 3) := by decide +kernel
theorem dX6_write_30 : decode cX6_write 30 = .ok (.aload_n 0, 1) := by decide +kernel
theorem dX6_write_31 : decode cX6_write 31 = .ok (.getfield 25, 3) := by decide +kernel
theorem dX6_write_34 : decode cX6_write 34 = .ok (.iload 7, 2) := by decide +kernel
theorem dX6_write_36 : decode cX6_write 36 = .ok (.lload 4, 2) := by decide +kernel
theorem dX6_write_38 : decode cX6_write 38 = .ok (.bipush 8, 2) := by decide +kernel
theorem dX6_write_40 : decode cX6_write 40 = .ok (.iload 7, 2) := by decide +kernel
theorem dX6_write_42 : decode cX6_write 42 = .ok (.imul, 1) := by decide +kernel
theorem dX6_write_43 : decode cX6_write 43 = .ok (.lshr, 1) := by decide +kernel
theorem dX6_write_44 : decode cX6_write 44 = .ok (.ldc2_w 113, 3) := by decide +kernel
theorem dX6_write_47 : decode cX6_write 47 = .ok (.land, 1) := by decide +kernel
theorem dX6_write_48 : decode cX6_write 48 = .ok (.l2i, 1) := by decide +kernel
theorem dX6_write_49 : decode cX6_write 49 = .ok (.iastore, 1) := by decide +kernel
theorem dX6_write_50 : decode cX6_write 50 = .ok (.iinc 7 1, 3) := by decide +kernel
theorem dX6_write_53 : decode cX6_write 53 = .ok (.goto (-29), 3) := by decide +kernel
theorem dX6_write_56 : decode cX6_write 56 = .ok (.aload_n 0, 1) := by decide +kernel
theorem dX6_write_57 : decode cX6_write 57 = .ok (.iload_n 1, 1) := by decide +kernel
theorem dX6_write_58 : decode cX6_write 58 = .ok (.iload_n 2, 1) := by decide +kernel
theorem dX6_write_59 : decode cX6_write 59 = .ok (.iload_n 3, 1) := by decide +kernel
theorem dX6_write_60 : decode cX6_write 60 = .ok (.invokevirtual 115, 3) := by decide +kernel
theorem dX6_write_63 : decode cX6_write 63 = .ok (.ireturn, 1) := by decide +kernel
set_option maxRecDepth 20000 in
theorem ggX6_wipeLast_X6_record : GoodIn wsX6_wipeLast wsX6_record := goodIn_r _ [6, 7, 8, 1, 9, 10, 5, 11, 12, 13, 14, 15, 16, 17, 18, 19, 20, 21, 22, 23, 24] (by decide +kernel) (by decide +kernel)
set_option maxRecDepth 20000 in
theorem gX6_wipeLast_X6_record : GoodIn wsX6_wipeLast (wsV RX6 104 RX6 yX6_record wsX6_record) := goodIn_app (goodIn_of _ (by decide +kernel)) ggX6_wipeLast_X6_record
theorem dX6_wipeLast_0 : decode cX6_wipeLast 0 = .ok (.aload_n 0, 1) := by decide +kernel
theorem dX6_wipeLast_1 : decode cX6_wipeLast 1 = .ok (.getfield 7, 3) := by decide +kernel
theorem dX6_wipeLast_4 : decode cX6_wipeLast 4 = .ok (.iconst 3, 1) := by decide +kernel
theorem dX6_wipeLast_5 : decode cX6_wipeLast 5 = .ok (.iaload, 1) := by decide +kernel
theorem dX6_wipeLast_6 : decode cX6_wipeLast 6 = .ok (.ifCond .ne 6, 3) := by decide +kernel
theorem dX6_wipeLast_9 : decode cX6_wipeLast 9 = .ok (.bipush (-5), 2) := by decide +kernel
theorem dX6_wipeLast_11 : decode cX6_wipeLast 11 = .ok (.ireturn, 1) := by decide +kernel
theorem dX6_wipeLast_12 : decode cX6_wipeLast 12 = .ok (.aload_n 0, 1) := by decide +kernel
theorem dX6_wipeLast_13 : decode cX6_wipeLast 13 = .ok (.invokevirtual 104, 3) := by decide +kernel
theorem dX6_wipeLast_16 : decode cX6_wipeLast 16 = .ok (.aload_n 0, 1) := by decide +kernel
theorem dX6_wipeLast_17 : decode cX6_wipeLast 17 = .ok (.getfield 7, 3) := by decide +kernel
theorem dX6_wipeLast_20 : decode cX6_wipeLast 20 = .ok (.iconst 3, 1) := by decide +kernel
theorem dX6_wipeLast_21 : decode cX6_wipeLast 21 = .ok (.dup2, 1) := by decide +kernel
theorem dX6_wipeLast_22 : decode cX6_wipeLast 22 = .ok (.iaload, 1) := by decide +kernel
theorem dX6_wipeLast_23 : decode cX6_wipeLast 23 = .ok (.iconst 1, 1) := by decide +kernel
theorem dX6_wipeLast_24 : decode cX6_wipeLast 24 = .ok (.isub, 1) := by decide +kernel
theorem dX6_wipeLast_25 : decode cX6_wipeLast 25 = .ok (.iastore, 1) := by decide +kernel
theorem dX6_wipeLast_26 : decode cX6_wipeLast 26 = .ok (.aload_n 0, 1) := by decide +kernel
theorem dX6_wipeLast_27 : decode cX6_wipeLast 27 = .ok (.getfield 7, 3) := by decide +kernel
theorem dX6_wipeLast_30 : decode cX6_wipeLast 30 = .ok (.iconst 3, 1) := by decide +kernel
theorem dX6_wipeLast_31 : decode cX6_wipeLast 31 = .ok (.iaload, 1) := by decide +kernel
theorem dX6_wipeLast_32 : decode cX6_wipeLast 32 = .ok (.ireturn, 1) := by decide +kernel
set_option maxRecDepth 20000 in
theorem ggX6_whyNotFaded_X6_isCell : GoodIn wsX6_whyNotFaded wsX6_isCell := goodIn_r _ [5, 6, 7, 8, 4, 9, 10, 11, 12, 13, 14, 15, 16, 17, 18, 19, 20, 21, 22, 23, 24, 25, 26, 27, 28, 29, 30, 31, 32, 33, 34, 35, 36, 37, 38, 39, 40, 41, 42] (by decide +kernel) (by decide +kernel)
set_option maxRecDepth 20000 in
theorem gX6_whyNotFaded_X6_isCell : GoodIn wsX6_whyNotFaded (wsV RX6 118 RX6 yX6_isCell wsX6_isCell) := goodIn_app (goodIn_of _ (by decide +kernel)) ggX6_whyNotFaded_X6_isCell
set_option maxRecDepth 20000 in
theorem ggX6_whyNotFaded_X6_within : GoodIn wsX6_whyNotFaded wsX6_within := goodIn_r _ [29] (by decide +kernel) (by decide +kernel)
set_option maxRecDepth 20000 in
theorem gX6_whyNotFaded_X6_within : GoodIn wsX6_whyNotFaded (va_wsS RX6 39 yX6_within wsX6_within) := goodIn_app (goodIn_of _ (by decide +kernel)) ggX6_whyNotFaded_X6_within
theorem dX6_whyNotFaded_0 : decode cX6_whyNotFaded 0 = .ok (.aload_n 0, 1) := by decide +kernel
theorem dX6_whyNotFaded_1 : decode cX6_whyNotFaded 1 = .ok (.iload_n 1, 1) := by decide +kernel
theorem dX6_whyNotFaded_2 : decode cX6_whyNotFaded 2 = .ok (.invokevirtual 118, 3) := by decide +kernel
theorem dX6_whyNotFaded_5 : decode cX6_whyNotFaded 5 = .ok (.ifCond .eq 11, 3) := by decide +kernel
theorem dX6_whyNotFaded_8 : decode cX6_whyNotFaded 8 = .ok (.aload_n 0, 1) := by decide +kernel
theorem dX6_whyNotFaded_9 : decode cX6_whyNotFaded 9 = .ok (.iload_n 2, 1) := by decide +kernel
theorem dX6_whyNotFaded_10 : decode cX6_whyNotFaded 10 = .ok (.invokevirtual 118, 3) := by decide +kernel
theorem dX6_whyNotFaded_13 : decode cX6_whyNotFaded 13 = .ok (.ifCond .ne 5, 3) := by decide +kernel
theorem dX6_whyNotFaded_16 : decode cX6_whyNotFaded 16 = .ok (.iconst (-1), 1) := by decide +kernel
theorem dX6_whyNotFaded_17 : decode cX6_whyNotFaded 17 = .ok (.ireturn, 1) := by decide +kernel
theorem dX6_whyNotFaded_18 : decode cX6_whyNotFaded 18 = .ok (.iload_n 2, 1) := by decide +kernel
theorem dX6_whyNotFaded_19 : decode cX6_whyNotFaded 19 = .ok (.iload_n 1, 1) := by decide +kernel
theorem dX6_whyNotFaded_20 : decode cX6_whyNotFaded 20 = .ok (.if_icmp .lt 13, 3) := by decide +kernel
theorem dX6_whyNotFaded_23 : decode cX6_whyNotFaded 23 = .ok (.iload_n 3, 1) := by decide +kernel
theorem dX6_whyNotFaded_24 : decode cX6_whyNotFaded 24 = .ok (.iconst 0, 1) := by decide +kernel
theorem dX6_whyNotFaded_25 : decode cX6_whyNotFaded 25 = .ok (.bipush 99, 2) := by decide +kernel
theorem dX6_whyNotFaded_27 : decode cX6_whyNotFaded 27 = .ok (.invokestatic 39, 3) := by decide +kernel
theorem dX6_whyNotFaded_30 : decode cX6_whyNotFaded 30 = .ok (.ifCond .ne 8, 3) := by decide +kernel
theorem dX6_whyNotFaded_33 : decode cX6_whyNotFaded 33 = .ok (.bipush (-2), 2) := by decide +kernel
theorem dX6_whyNotFaded_35 : decode cX6_whyNotFaded 35 = .ok (.goto 4, 3) := by decide +kernel
theorem dX6_whyNotFaded_38 : decode cX6_whyNotFaded 38 = .ok (.iconst 0, 1) := by decide +kernel
theorem dX6_whyNotFaded_39 : decode cX6_whyNotFaded 39 = .ok (.ireturn, 1) := by decide +kernel
set_option maxRecDepth 20000 in
theorem ggX6_fades_X6_volumeOf : GoodIn wsX6_fades wsX6_volumeOf := goodIn_r _ [6, 1, 11, 12, 13, 14, 15, 16, 17, 18, 19, 20, 21, 22, 23] (by decide +kernel) (by decide +kernel)
set_option maxRecDepth 20000 in
theorem gX6_fades_X6_volumeOf : GoodIn wsX6_fades (wsV RX6 73 RX6 yX6_volumeOf wsX6_volumeOf) := goodIn_app (goodIn_of _ (by decide +kernel)) ggX6_fades_X6_volumeOf
set_option maxRecDepth 20000 in
theorem ggX6_fades_X6_badness : GoodIn wsX6_fades wsX6_badness := goodIn_r _ [10, 1, 11, 12, 13, 14, 15, 16, 17, 18, 19, 20, 21, 22, 23] (by decide +kernel) (by decide +kernel)
set_option maxRecDepth 20000 in
theorem gX6_fades_X6_badness : GoodIn wsX6_fades (wsV RX6 70 RX6 yX6_badness wsX6_badness) := goodIn_app (goodIn_of _ (by decide +kernel)) ggX6_fades_X6_badness
theorem dX6_fades_0 : decode cX6_fades 0 = .ok (.iconst 0, 1) := by decide +kernel
theorem dX6_fades_1 : decode cX6_fades 1 = .ok (.istore 4, 2) := by decide +kernel
theorem dX6_fades_3 : decode cX6_fades 3 = .ok (.iload_n 1, 1) := by decide +kernel
theorem dX6_fades_4 : decode cX6_fades 4 = .ok (.istore 5, 2) := by decide +kernel
theorem dX6_fades_6 : decode cX6_fades 6 = .ok (.iload 5, 2) := by decide +kernel
theorem dX6_fades_8 : decode cX6_fades 8 = .ok (.iload_n 2, 1) := by decide +kernel
theorem dX6_fades_9 : decode cX6_fades 9 = .ok (.if_icmp .gt 83, 3) := by decide +kernel
theorem dX6_fades_12 : decode cX6_fades 12 = .ok (.aload_n 0, 1) := by decide +kernel
theorem dX6_fades_13 : decode cX6_fades 13 = .ok (.iload 5, 2) := by decide +kernel
theorem dX6_fades_15 : decode cX6_fades 15 = .ok (.invokevirtual 73, 3) := by decide +kernel
theorem dX6_fades_18 : decode cX6_fades 18 = .ok (.iload_n 3, 1) := by decide +kernel
theorem dX6_fades_19 : decode cX6_fades 19 = .ok (.if_icmp .le 7, 3) := by decide +kernel
theorem dX6_fades_22 : decode cX6_fades 22 = .ok (.iconst 1, 1) := by decide +kernel
theorem dX6_fades_23 : decode cX6_fades 23 = .ok (.goto 4, 3) := by decide +kernel
theorem dX6_fades_26 : decode cX6_fades 26 = .ok (.iconst 0, 1) := by decide +kernel
theorem dX6_fades_27 : decode cX6_fades 27 = .ok (.istore 6, 2) := by decide +kernel
theorem dX6_fades_29 : decode cX6_fades 29 = .ok (.iload 4, 2) := by decide +kernel
theorem dX6_fades_31 : decode cX6_fades 31 = .ok (.iload 6, 2) := by decide +kernel
theorem dX6_fades_33 : decode cX6_fades 33 = .ok (.ifCond .eq 7, 3) := by decide +kernel
theorem dX6_fades_36 : decode cX6_fades 36 = .ok (.iconst 1, 1) := by decide +kernel
theorem dX6_fades_37 : decode cX6_fades 37 = .ok (.goto 4, 3) := by decide +kernel
theorem dX6_fades_40 : decode cX6_fades 40 = .ok (.iconst 0, 1) := by decide +kernel
theorem dX6_fades_41 : decode cX6_fades 41 = .ok (.iadd, 1) := by decide +kernel
theorem dX6_fades_42 : decode cX6_fades 42 = .ok (.istore 4, 2) := by decide +kernel
theorem dX6_fades_44 : decode cX6_fades 44 = .ok (.aload_n 0, 1) := by decide +kernel
theorem dX6_fades_45 : decode cX6_fades 45 = .ok (.getfield 7, 3) := by decide +kernel
theorem dX6_fades_48 : decode cX6_fades 48 = .ok (.sipush 164, 3) := by decide +kernel
theorem dX6_fades_51 : decode cX6_fades 51 = .ok (.iload 5, 2) := by decide +kernel
theorem dX6_fades_53 : decode cX6_fades 53 = .ok (.iadd, 1) := by decide +kernel
theorem dX6_fades_54 : decode cX6_fades 54 = .ok (.iload 6, 2) := by decide +kernel
theorem dX6_fades_56 : decode cX6_fades 56 = .ok (.ifCond .eq 18, 3) := by decide +kernel
theorem dX6_fades_59 : decode cX6_fades 59 = .ok (.iload_n 3, 1) := by decide +kernel
theorem dX6_fades_60 : decode cX6_fades 60 = .ok (.sipush 128, 3) := by decide +kernel
theorem dX6_fades_63 : decode cX6_fades 63 = .ok (.aload_n 0, 1) := by decide +kernel
theorem dX6_fades_64 : decode cX6_fades 64 = .ok (.iload 5, 2) := by decide +kernel
theorem dX6_fades_66 : decode cX6_fades 66 = .ok (.invokevirtual 70, 3) := by decide +kernel
theorem dX6_fades_69 : decode cX6_fades 69 = .ok (.imul, 1) := by decide +kernel
theorem dX6_fades_70 : decode cX6_fades 70 = .ok (.iadd, 1) := by decide +kernel
theorem dX6_fades_71 : decode cX6_fades 71 = .ok (.goto 14, 3) := by decide +kernel
theorem dX6_fades_74 : decode cX6_fades 74 = .ok (.aload_n 0, 1) := by decide +kernel
theorem dX6_fades_75 : decode cX6_fades 75 = .ok (.getfield 7, 3) := by decide +kernel
theorem dX6_fades_78 : decode cX6_fades 78 = .ok (.sipush 164, 3) := by decide +kernel
theorem dX6_fades_81 : decode cX6_fades 81 = .ok (.iload 5, 2) := by decide +kernel
theorem dX6_fades_83 : decode cX6_fades 83 = .ok (.iadd, 1) := by decide +kernel
theorem dX6_fades_84 : decode cX6_fades 84 = .ok (.iaload, 1) := by decide +kernel
theorem dX6_fades_85 : decode cX6_fades 85 = .ok (.iastore, 1) := by decide +kernel
theorem dX6_fades_86 : decode cX6_fades 86 = .ok (.iinc 5 1, 3) := by decide +kernel
theorem dX6_fades_89 : decode cX6_fades 89 = .ok (.goto (-83), 3) := by decide +kernel
theorem dX6_fades_92 : decode cX6_fades 92 = .ok (.iload 4, 2) := by decide +kernel
theorem dX6_fades_94 : decode cX6_fades 94 = .ok (.ireturn, 1) := by decide +kernel
set_option maxRecDepth 20000 in
theorem ggX6_fade_X6_whyNotFaded : GoodIn wsX6_fade wsX6_whyNotFaded := goodIn_r _ [5, 6, 7, 8, 4, 9, 10, 11, 12, 13, 14, 15, 16, 17, 18, 19, 20, 21, 22, 23, 24, 25, 26, 27, 28, 29, 30, 31, 32, 33, 55, 56, 57, 58, 59, 60, 61, 62, 63, 64, 65, 66, 67] (by decide +kernel) (by decide +kernel)
set_option maxRecDepth 20000 in
theorem gX6_fade_X6_whyNotFaded : GoodIn wsX6_fade (wsV RX6 121 RX6 yX6_whyNotFaded wsX6_whyNotFaded) := goodIn_app (goodIn_of _ (by decide +kernel)) ggX6_fade_X6_whyNotFaded
set_option maxRecDepth 20000 in
theorem ggX6_fade_X6_record : GoodIn wsX6_fade wsX6_record := goodIn_r _ [37, 38, 39, 14, 40, 41, 4, 42, 55, 56, 57, 58, 59, 60, 61, 62, 63, 64, 65, 66, 67] (by decide +kernel) (by decide +kernel)
set_option maxRecDepth 20000 in
theorem gX6_fade_X6_record : GoodIn wsX6_fade (wsV RX6 104 RX6 yX6_record wsX6_record) := goodIn_app (goodIn_of _ (by decide +kernel)) ggX6_fade_X6_record
set_option maxRecDepth 20000 in
theorem ggX6_fade_X6_fades : GoodIn wsX6_fade wsX6_fades := goodIn_r _ [46, 14, 47, 48, 49, 4, 50, 51, 52, 53, 54, 55, 56, 57, 58, 59, 60, 61, 62, 63, 64, 65, 66, 67] (by decide +kernel) (by decide +kernel)
set_option maxRecDepth 20000 in
theorem gX6_fade_X6_fades : GoodIn wsX6_fade (wsV RX6 124 RX6 yX6_fades wsX6_fades) := goodIn_app (goodIn_of _ (by decide +kernel)) ggX6_fade_X6_fades
theorem dX6_fade_0 : decode cX6_fade 0 = .ok (.aload_n 0, 1) := by decide +kernel
theorem dX6_fade_1 : decode cX6_fade 1 = .ok (.iload_n 1, 1) := by decide +kernel
theorem dX6_fade_2 : decode cX6_fade 2 = .ok (.iload_n 2, 1) := by decide +kernel
theorem dX6_fade_3 : decode cX6_fade 3 = .ok (.iload_n 3, 1) := by decide +kernel
theorem dX6_fade_4 : decode cX6_fade 4 = .ok (.invokevirtual 121, 3) := by decide +kernel
theorem dX6_fade_7 : decode cX6_fade 7 = .ok (.istore 4, 2) := by decide +kernel
theorem dX6_fade_9 : decode cX6_fade 9 = .ok (.iload 4, 2) := by decide +kernel
theorem dX6_fade_11 : decode cX6_fade 11 = .ok (.ifCond .ge 6, 3) := by decide +kernel
theorem dX6_fade_14 : decode cX6_fade 14 = .ok (.iload 4, 2) := by decide +kernel
theorem dX6_fade_16 : decode cX6_fade 16 = .ok (.ireturn, 1) := by decide +kernel
theorem dX6_fade_17 : decode cX6_fade 17 = .ok (.aload_n 0, 1) := by decide +kernel
theorem dX6_fade_18 : decode cX6_fade 18 = .ok (.invokevirtual 104, 3) := by decide +kernel
theorem dX6_fade_21 : decode cX6_fade 21 = .ok (.aload_n 0, 1) := by decide +kernel
theorem dX6_fade_22 : decode cX6_fade 22 = .ok (.iload_n 1, 1) := by decide +kernel
theorem dX6_fade_23 : decode cX6_fade 23 = .ok (.iload_n 2, 1) := by decide +kernel
theorem dX6_fade_24 : decode cX6_fade 24 = .ok (.iload_n 3, 1) := by decide +kernel
theorem dX6_fade_25 : decode cX6_fade 25 = .ok (.invokevirtual 124, 3) := by decide +kernel
theorem dX6_fade_28 : decode cX6_fade 28 = .ok (.ireturn, 1) := by decide +kernel
set_option maxRecDepth 20000 in
theorem ggX6_turns_X6_badness : GoodIn wsX6_turns wsX6_badness := goodIn_r _ [6, 1, 7, 8, 9, 10, 11, 12, 13, 14, 15, 16, 17, 18, 19] (by decide +kernel) (by decide +kernel)
set_option maxRecDepth 20000 in
theorem gX6_turns_X6_badness : GoodIn wsX6_turns (wsV RX6 70 RX6 yX6_badness wsX6_badness) := goodIn_app (goodIn_of _ (by decide +kernel)) ggX6_turns_X6_badness
theorem dX6_turns_0 : decode cX6_turns 0 = .ok (.aload_n 0, 1) := by decide +kernel
theorem dX6_turns_1 : decode cX6_turns 1 = .ok (.getfield 7, 3) := by decide +kernel
theorem dX6_turns_4 : decode cX6_turns 4 = .ok (.sipush 164, 3) := by decide +kernel
theorem dX6_turns_7 : decode cX6_turns 7 = .ok (.iload_n 1, 1) := by decide +kernel
theorem dX6_turns_8 : decode cX6_turns 8 = .ok (.iadd, 1) := by decide +kernel
theorem dX6_turns_9 : decode cX6_turns 9 = .ok (.dup2, 1) := by decide +kernel
theorem dX6_turns_10 : decode cX6_turns 10 = .ok (.iaload, 1) := by decide +kernel
theorem dX6_turns_11 : decode cX6_turns 11 = .ok (.aload_n 0, 1) := by decide +kernel
theorem dX6_turns_12 : decode cX6_turns 12 = .ok (.iload_n 1, 1) := by decide +kernel
theorem dX6_turns_13 : decode cX6_turns 13 = .ok (.invokevirtual 70, 3) := by decide +kernel
theorem dX6_turns_16 : decode cX6_turns 16 = .ok (.iconst 1, 1) := by decide +kernel
theorem dX6_turns_17 : decode cX6_turns 17 = .ok (.if_icmp .ne 8, 3) := by decide +kernel
theorem dX6_turns_20 : decode cX6_turns 20 = .ok (.bipush (-128), 2) := by decide +kernel
theorem dX6_turns_22 : decode cX6_turns 22 = .ok (.goto 6, 3) := by decide +kernel
theorem dX6_turns_25 : decode cX6_turns 25 = .ok (.sipush 128, 3) := by decide +kernel
theorem dX6_turns_28 : decode cX6_turns 28 = .ok (.iadd, 1) := by decide +kernel
theorem dX6_turns_29 : decode cX6_turns 29 = .ok (.iastore, 1) := by decide +kernel
theorem dX6_turns_30 : decode cX6_turns 30 = .ok (.aload_n 0, 1) := by decide +kernel
theorem dX6_turns_31 : decode cX6_turns 31 = .ok (.iload_n 1, 1) := by decide +kernel
theorem dX6_turns_32 : decode cX6_turns 32 = .ok (.invokevirtual 70, 3) := by decide +kernel
theorem dX6_turns_35 : decode cX6_turns 35 = .ok (.ireturn, 1) := by decide +kernel
set_option maxRecDepth 20000 in
theorem ggX6_spoil_X6_isCell : GoodIn wsX6_spoil wsX6_isCell := goodIn_r _ [5, 6, 7, 8, 4, 9, 10, 11, 12, 13, 14, 15, 16, 17, 18, 19, 20, 21, 22, 23, 24, 25, 26, 27, 28, 29, 47, 48, 49, 50, 51, 52, 53, 54, 55, 56, 57, 58, 59] (by decide +kernel) (by decide +kernel)
set_option maxRecDepth 20000 in
theorem gX6_spoil_X6_isCell : GoodIn wsX6_spoil (wsV RX6 118 RX6 yX6_isCell wsX6_isCell) := goodIn_app (goodIn_of _ (by decide +kernel)) ggX6_spoil_X6_isCell
set_option maxRecDepth 20000 in
theorem ggX6_spoil_X6_record : GoodIn wsX6_spoil wsX6_record := goodIn_r _ [33, 34, 35, 10, 36, 37, 4, 38, 47, 48, 49, 50, 51, 52, 53, 54, 55, 56, 57, 58, 59] (by decide +kernel) (by decide +kernel)
set_option maxRecDepth 20000 in
theorem gX6_spoil_X6_record : GoodIn wsX6_spoil (wsV RX6 104 RX6 yX6_record wsX6_record) := goodIn_app (goodIn_of _ (by decide +kernel)) ggX6_spoil_X6_record
set_option maxRecDepth 20000 in
theorem ggX6_spoil_X6_turns : GoodIn wsX6_spoil wsX6_turns := goodIn_r _ [42, 10, 43, 44, 45, 4, 46, 47, 48, 49, 50, 51, 52, 53, 54, 55, 56, 57, 58, 59] (by decide +kernel) (by decide +kernel)
set_option maxRecDepth 20000 in
theorem gX6_spoil_X6_turns : GoodIn wsX6_spoil (wsV RX6 127 RX6 yX6_turns wsX6_turns) := goodIn_app (goodIn_of _ (by decide +kernel)) ggX6_spoil_X6_turns
theorem dX6_spoil_0 : decode cX6_spoil 0 = .ok (.aload_n 0, 1) := by decide +kernel
theorem dX6_spoil_1 : decode cX6_spoil 1 = .ok (.iload_n 1, 1) := by decide +kernel
theorem dX6_spoil_2 : decode cX6_spoil 2 = .ok (.invokevirtual 118, 3) := by decide +kernel
theorem dX6_spoil_5 : decode cX6_spoil 5 = .ok (.ifCond .ne 5, 3) := by decide +kernel
theorem dX6_spoil_8 : decode cX6_spoil 8 = .ok (.iconst (-1), 1) := by decide +kernel
theorem dX6_spoil_9 : decode cX6_spoil 9 = .ok (.ireturn, 1) := by decide +kernel
theorem dX6_spoil_10 : decode cX6_spoil 10 = .ok (.aload_n 0, 1) := by decide +kernel
theorem dX6_spoil_11 : decode cX6_spoil 11 = .ok (.invokevirtual 104, 3) := by decide +kernel
theorem dX6_spoil_14 : decode cX6_spoil 14 = .ok (.aload_n 0, 1) := by decide +kernel
theorem dX6_spoil_15 : decode cX6_spoil 15 = .ok (.iload_n 1, 1) := by decide +kernel
theorem dX6_spoil_16 : decode cX6_spoil 16 = .ok (.invokevirtual 127, 3) := by decide +kernel
theorem dX6_spoil_19 : decode cX6_spoil 19 = .ok (.ireturn, 1) := by decide +kernel
set_option maxRecDepth 20000 in
theorem ggX6_depthOf_X6_part : GoodIn wsX6_depthOf wsX6_part := goodIn_r _ [5, 6, 7, 8, 9, 10, 11, 12, 13, 14, 15, 16, 17, 18, 19] (by decide +kernel) (by decide +kernel)
set_option maxRecDepth 20000 in
theorem gX6_depthOf_X6_part : GoodIn wsX6_depthOf (wsV RX6 43 RX6 yX6_part wsX6_part) := goodIn_app (goodIn_of _ (by decide +kernel)) ggX6_depthOf_X6_part
theorem dX6_depthOf_0 : decode cX6_depthOf 0 = .ok (.iconst 0, 1) := by decide +kernel
theorem dX6_depthOf_1 : decode cX6_depthOf 1 = .ok (.istore_n 2, 1) := by decide +kernel
theorem dX6_depthOf_2 : decode cX6_depthOf 2 = .ok (.aload_n 0, 1) := by decide +kernel
theorem dX6_depthOf_3 : decode cX6_depthOf 3 = .ok (.iload_n 1, 1) := by decide +kernel
theorem dX6_depthOf_4 : decode cX6_depthOf 4 = .ok (.iconst 1, 1) := by decide +kernel
theorem dX6_depthOf_5 : decode cX6_depthOf 5 = .ok (.invokevirtual 43, 3) := by decide +kernel
theorem dX6_depthOf_8 : decode cX6_depthOf 8 = .ok (.istore_n 3, 1) := by decide +kernel
theorem dX6_depthOf_9 : decode cX6_depthOf 9 = .ok (.iload_n 3, 1) := by decide +kernel
theorem dX6_depthOf_10 : decode cX6_depthOf 10 = .ok (.bipush (-6), 2) := by decide +kernel
theorem dX6_depthOf_12 : decode cX6_depthOf 12 = .ok (.if_icmp .eq 16, 3) := by decide +kernel
theorem dX6_depthOf_15 : decode cX6_depthOf 15 = .ok (.iinc 2 1, 3) := by decide +kernel
theorem dX6_depthOf_18 : decode cX6_depthOf 18 = .ok (.aload_n 0, 1) := by decide +kernel
theorem dX6_depthOf_19 : decode cX6_depthOf 19 = .ok (.iload_n 3, 1) := by decide +kernel
theorem dX6_depthOf_20 : decode cX6_depthOf 20 = .ok (.iconst 1, 1) := by decide +kernel
theorem dX6_depthOf_21 : decode cX6_depthOf 21 = .ok (.invokevirtual 43, 3) := by decide +kernel
theorem dX6_depthOf_24 : decode cX6_depthOf 24 = .ok (.istore_n 3, 1) := by decide +kernel
theorem dX6_depthOf_25 : decode cX6_depthOf 25 = .ok (.goto (-16), 3) := by decide +kernel
theorem dX6_depthOf_28 : decode cX6_depthOf 28 = .ok (.iload_n 2, 1) := by decide +kernel
theorem dX6_depthOf_29 : decode cX6_depthOf 29 = .ok (.ireturn, 1) := by decide +kernel
set_option maxRecDepth 20000 in
theorem ggX6_of_X6_isBlock : GoodIn wsX6_of wsX6_isBlock := goodIn_r _ [5, 6, 7, 8, 4, 9, 86, 87, 88, 89, 90, 91, 92, 93, 94, 95, 96, 97, 98] (by decide +kernel) (by decide +kernel)
set_option maxRecDepth 20000 in
theorem gX6_of_X6_isBlock : GoodIn wsX6_of (wsV RX6 107 RX6 yX6_isBlock wsX6_isBlock) := goodIn_app (goodIn_of _ (by decide +kernel)) ggX6_of_X6_isBlock
set_option maxRecDepth 20000 in
theorem ggX6_of_X6_part : GoodIn wsX6_of wsX6_part := goodIn_r _ [13, 6, 86, 87, 88, 89, 90, 91, 92, 93, 94, 95, 96, 97, 98] (by decide +kernel) (by decide +kernel)
set_option maxRecDepth 20000 in
theorem gX6_of_X6_part : GoodIn wsX6_of (wsV RX6 43 RX6 yX6_part wsX6_part) := goodIn_app (goodIn_of _ (by decide +kernel)) ggX6_of_X6_part
set_option maxRecDepth 20000 in
theorem ggX6_of_X6_firstOf : GoodIn wsX6_of wsX6_firstOf := goodIn_r _ [17, 18, 19, 20, 4, 21, 22, 23, 24, 25, 10, 11, 12, 13, 6, 86, 87, 88, 89, 90, 91, 92, 93, 94, 95, 96, 97, 98] (by decide +kernel) (by decide +kernel)
set_option maxRecDepth 20000 in
theorem gX6_of_X6_firstOf : GoodIn wsX6_of (wsV RX6 54 RX6 yX6_firstOf wsX6_firstOf) := goodIn_app (goodIn_of _ (by decide +kernel)) ggX6_of_X6_firstOf
set_option maxRecDepth 20000 in
theorem ggX6_of_X6_cellsOf : GoodIn wsX6_of wsX6_cellsOf := goodIn_r _ [21, 22, 23, 24, 4, 25, 10, 11, 12, 13, 6, 86, 87, 88, 89, 90, 91, 92, 93, 94, 95, 96, 97, 98] (by decide +kernel) (by decide +kernel)
set_option maxRecDepth 20000 in
theorem gX6_of_X6_cellsOf : GoodIn wsX6_of (wsV RX6 51 RX6 yX6_cellsOf wsX6_cellsOf) := goodIn_app (goodIn_of _ (by decide +kernel)) ggX6_of_X6_cellsOf
set_option maxRecDepth 20000 in
theorem ggX6_of_X6_howIs : GoodIn wsX6_of wsX6_howIs := goodIn_r _ [29, 30, 31, 32, 4, 33, 14, 15, 16, 17, 18, 19, 20, 21, 22, 23, 24, 25, 10, 11, 12, 13, 6, 34, 35, 36, 37, 38, 39, 40, 41, 42, 43, 44, 45, 46, 47, 48, 49, 50, 51, 52, 53, 54, 55, 56, 57, 58, 59, 60, 61, 62, 63, 64, 86, 87, 88, 89, 90, 91, 92, 93, 94, 95, 96, 97, 98] (by decide +kernel) (by decide +kernel)
set_option maxRecDepth 20000 in
theorem gX6_of_X6_howIs : GoodIn wsX6_of (wsV RX6 91 RX6 yX6_howIs wsX6_howIs) := goodIn_app (goodIn_of _ (by decide +kernel)) ggX6_of_X6_howIs
set_option maxRecDepth 20000 in
theorem ggX6_of_X6_loadedBy : GoodIn wsX6_of wsX6_loadedBy := goodIn_r _ [68, 26, 27, 28, 4, 29, 30, 31, 32, 33, 14, 15, 16, 17, 18, 19, 20, 21, 22, 23, 24, 25, 10, 11, 12, 13, 6, 34, 35, 36, 37, 38, 39, 40, 41, 42, 43, 44, 45, 46, 47, 48, 49, 50, 51, 52, 53, 54, 55, 56, 57, 58, 59, 60, 61, 62, 63, 64, 69, 70, 71, 72, 73, 74, 75, 76, 77, 86, 87, 88, 89, 90, 91, 92, 93, 94, 95, 96, 97, 98] (by decide +kernel) (by decide +kernel)
set_option maxRecDepth 20000 in
theorem gX6_of_X6_loadedBy : GoodIn wsX6_of (wsV RX6 130 RX6 yX6_loadedBy wsX6_loadedBy) := goodIn_app (goodIn_of _ (by decide +kernel)) ggX6_of_X6_loadedBy
set_option maxRecDepth 20000 in
theorem ggX6_of_X6_depthOf : GoodIn wsX6_of wsX6_depthOf := goodIn_r _ [81, 10, 11, 12, 4, 13, 6, 86, 87, 88, 89, 90, 91, 92, 93, 94, 95, 96, 97, 98] (by decide +kernel) (by decide +kernel)
set_option maxRecDepth 20000 in
theorem gX6_of_X6_depthOf : GoodIn wsX6_of (wsV RX6 133 RX6 yX6_depthOf wsX6_depthOf) := goodIn_app (goodIn_of _ (by decide +kernel)) ggX6_of_X6_depthOf
set_option maxRecDepth 20000 in
theorem ggX6_of_X6_counterOf : GoodIn wsX6_of wsX6_counterOf := goodIn_r _ [85, 6, 86, 87, 88, 89, 90, 91, 92, 93, 94, 95, 96, 97, 98] (by decide +kernel) (by decide +kernel)
set_option maxRecDepth 20000 in
theorem gX6_of_X6_counterOf : GoodIn wsX6_of (wsV RX6 136 RX6 yX6_counterOf wsX6_counterOf) := goodIn_app (goodIn_of _ (by decide +kernel)) ggX6_of_X6_counterOf
theorem dX6_of_0 : decode cX6_of 0 = .ok (.aload_n 0, 1) := by decide +kernel
theorem dX6_of_1 : decode cX6_of 1 = .ok (.iload_n 1, 1) := by decide +kernel
theorem dX6_of_2 : decode cX6_of 2 = .ok (.invokevirtual 107, 3) := by decide +kernel
theorem dX6_of_5 : decode cX6_of 5 = .ok (.ifCond .ne 5, 3) := by decide +kernel
theorem dX6_of_8 : decode cX6_of 8 = .ok (.iconst (-1), 1) := by decide +kernel
theorem dX6_of_9 : decode cX6_of 9 = .ok (.ireturn, 1) := by decide +kernel
theorem dX6_of_10 : decode cX6_of 10 = .ok (.iload_n 2, 1) := by decide +kernel
theorem dX6_of_11 : decode cX6_of 11 = .ok (.tableswitch 103 0 9 #[53, 53, 53, 60, 66, 72, 72, 81, 87, 93], 53) := by decide +kernel
theorem dX6_of_64 : decode cX6_of 64 = .ok (.aload_n 0, 1) := by decide +kernel
theorem dX6_of_65 : decode cX6_of 65 = .ok (.iload_n 1, 1) := by decide +kernel
theorem dX6_of_66 : decode cX6_of 66 = .ok (.iload_n 2, 1) := by decide +kernel
theorem dX6_of_67 : decode cX6_of 67 = .ok (.invokevirtual 43, 3) := by decide +kernel
theorem dX6_of_70 : decode cX6_of 70 = .ok (.ireturn, 1) := by decide +kernel
theorem dX6_of_71 : decode cX6_of 71 = .ok (.aload_n 0, 1) := by decide +kernel
theorem dX6_of_72 : decode cX6_of 72 = .ok (.iload_n 1, 1) := by decide +kernel
theorem dX6_of_73 : decode cX6_of 73 = .ok (.invokevirtual 54, 3) := by decide +kernel
theorem dX6_of_76 : decode cX6_of 76 = .ok (.ireturn, 1) := by decide +kernel
theorem dX6_of_77 : decode cX6_of 77 = .ok (.aload_n 0, 1) := by decide +kernel
theorem dX6_of_78 : decode cX6_of 78 = .ok (.iload_n 1, 1) := by decide +kernel
theorem dX6_of_79 : decode cX6_of 79 = .ok (.invokevirtual 51, 3) := by decide +kernel
theorem dX6_of_82 : decode cX6_of 82 = .ok (.ireturn, 1) := by decide +kernel
theorem dX6_of_83 : decode cX6_of 83 = .ok (.aload_n 0, 1) := by decide +kernel
theorem dX6_of_84 : decode cX6_of 84 = .ok (.iload_n 1, 1) := by decide +kernel
theorem dX6_of_85 : decode cX6_of 85 = .ok (.iload_n 2, 1) := by decide +kernel
theorem dX6_of_86 : decode cX6_of 86 = .ok (.iconst 5, 1) := by decide +kernel
theorem dX6_of_87 : decode cX6_of 87 = .ok (.isub, 1) := by decide +kernel
theorem dX6_of_88 : decode cX6_of 88 = .ok (.invokevirtual 91, 3) := by decide +kernel
theorem dX6_of_91 : decode cX6_of 91 = .ok (.ireturn, 1) := by decide +kernel
theorem dX6_of_92 : decode cX6_of 92 = .ok (.aload_n 0, 1) := by decide +kernel
theorem dX6_of_93 : decode cX6_of 93 = .ok (.iload_n 1, 1) := by decide +kernel
theorem dX6_of_94 : decode cX6_of 94 = .ok (.invokevirtual 130, 3) := by decide +kernel
theorem dX6_of_97 : decode cX6_of 97 = .ok (.ireturn, 1) := by decide +kernel
theorem dX6_of_98 : decode cX6_of 98 = .ok (.aload_n 0, 1) := by decide +kernel
theorem dX6_of_99 : decode cX6_of 99 = .ok (.iload_n 1, 1) := by decide +kernel
theorem dX6_of_100 : decode cX6_of 100 = .ok (.invokevirtual 133, 3) := by decide +kernel
theorem dX6_of_103 : decode cX6_of 103 = .ok (.ireturn, 1) := by decide +kernel
theorem dX6_of_104 : decode cX6_of 104 = .ok (.aload_n 0, 1) := by decide +kernel
theorem dX6_of_105 : decode cX6_of 105 = .ok (.aload_n 0, 1) := by decide +kernel
theorem dX6_of_106 : decode cX6_of 106 = .ok (.iload_n 1, 1) := by decide +kernel
theorem dX6_of_107 : decode cX6_of 107 = .ok (.invokevirtual 54, 3) := by decide +kernel
theorem dX6_of_110 : decode cX6_of 110 = .ok (.invokevirtual 136, 3) := by decide +kernel
theorem dX6_of_113 : decode cX6_of 113 = .ok (.ireturn, 1) := by decide +kernel
theorem dX6_of_114 : decode cX6_of 114 = .ok (.bipush (-2), 2) := by decide +kernel
theorem dX6_of_116 : decode cX6_of 116 = .ok (.ireturn, 1) := by decide +kernel
set_option maxRecDepth 20000 in
theorem ggX6_load_X6_isBlock : GoodIn wsX6_load wsX6_isBlock := goodIn_r _ [8, 9, 10, 11, 7, 12, 80, 81, 82, 83, 84, 85, 86, 87, 88, 89, 90, 91, 92] (by decide +kernel) (by decide +kernel)
set_option maxRecDepth 20000 in
theorem gX6_load_X6_isBlock : GoodIn wsX6_load (wsV RX6 107 RX6 yX6_isBlock wsX6_isBlock) := goodIn_app (goodIn_of _ (by decide +kernel)) ggX6_load_X6_isBlock
set_option maxRecDepth 20000 in
theorem ggX6_load_X6_loadedBy : GoodIn wsX6_load wsX6_loadedBy := goodIn_r _ [16, 17, 18, 19, 7, 20, 21, 22, 23, 24, 25, 26, 27, 28, 29, 30, 31, 32, 33, 34, 35, 36, 37, 38, 39, 40, 9, 41, 42, 43, 44, 45, 46, 47, 48, 49, 50, 51, 52, 53, 54, 55, 56, 57, 58, 59, 60, 61, 62, 63, 64, 65, 66, 67, 68, 69, 70, 71, 72, 73, 74, 75, 3, 76, 77, 78, 79, 80, 81, 82, 83, 84, 85, 86, 87, 88, 89, 90, 91, 92] (by decide +kernel) (by decide +kernel)
set_option maxRecDepth 20000 in
theorem gX6_load_X6_loadedBy : GoodIn wsX6_load (wsV RX6 130 RX6 yX6_loadedBy wsX6_loadedBy) := goodIn_app (goodIn_of _ (by decide +kernel)) ggX6_load_X6_loadedBy
set_option maxRecDepth 20000 in
theorem ggX6_load_X6_part : GoodIn wsX6_load wsX6_part := goodIn_r _ [40, 9, 80, 81, 82, 83, 84, 85, 86, 87, 88, 89, 90, 91, 92] (by decide +kernel) (by decide +kernel)
set_option maxRecDepth 20000 in
theorem gX6_load_X6_part : GoodIn wsX6_load (wsV RX6 43 RX6 yX6_part wsX6_part) := goodIn_app (goodIn_of _ (by decide +kernel)) ggX6_load_X6_part
theorem dX6_load_0 : decode cX6_load 0 = .ok (.aload_n 0, 1) := by decide +kernel
theorem dX6_load_1 : decode cX6_load 1 = .ok (.iload_n 1, 1) := by decide +kernel
theorem dX6_load_2 : decode cX6_load 2 = .ok (.invokevirtual 107, 3) := by decide +kernel
theorem dX6_load_5 : decode cX6_load 5 = .ok (.ifCond .ne 7, 3) := by decide +kernel
theorem dX6_load_8 : decode cX6_load 8 = .ok (.ldc2_w 139, 3) := by decide +kernel
theorem dX6_load_11 : decode cX6_load 11 = .ok (.lreturn, 1) := by decide +kernel
theorem dX6_load_12 : decode cX6_load 12 = .ok (.aload_n 0, 1) := by decide +kernel
theorem dX6_load_13 : decode cX6_load 13 = .ok (.iload_n 1, 1) := by decide +kernel
theorem dX6_load_14 : decode cX6_load 14 = .ok (.invokevirtual 130, 3) := by decide +kernel
theorem dX6_load_17 : decode cX6_load 17 = .ok (.bipush (-6), 2) := by decide +kernel
theorem dX6_load_19 : decode cX6_load 19 = .ok (.if_icmp .ne 7, 3) := by decide +kernel
theorem dX6_load_22 : decode cX6_load 22 = .ok (.ldc2_w 141, 3) := by decide +kernel
theorem dX6_load_25 : decode cX6_load 25 = .ok (.lreturn, 1) := by decide +kernel
theorem dX6_load_26 : decode cX6_load 26 = .ok (.lconst 0, 1) := by decide +kernel
theorem dX6_load_27 : decode cX6_load 27 = .ok (.lstore_n 2, 1) := by decide +kernel
theorem dX6_load_28 : decode cX6_load 28 = .ok (.iconst 0, 1) := by decide +kernel
theorem dX6_load_29 : decode cX6_load 29 = .ok (.istore 4, 2) := by decide +kernel
theorem dX6_load_31 : decode cX6_load 31 = .ok (.iload 4, 2) := by decide +kernel
theorem dX6_load_33 : decode cX6_load 33 = .ok (.aload_n 0, 1) := by decide +kernel
theorem dX6_load_34 : decode cX6_load 34 = .ok (.iload_n 1, 1) := by decide +kernel
theorem dX6_load_35 : decode cX6_load 35 = .ok (.iconst 2, 1) := by decide +kernel
theorem dX6_load_36 : decode cX6_load 36 = .ok (.invokevirtual 43, 3) := by decide +kernel
theorem dX6_load_39 : decode cX6_load 39 = .ok (.if_icmp .ge 26, 3) := by decide +kernel
theorem dX6_load_42 : decode cX6_load 42 = .ok (.lload_n 2, 1) := by decide +kernel
theorem dX6_load_43 : decode cX6_load 43 = .ok (.aload_n 0, 1) := by decide +kernel
theorem dX6_load_44 : decode cX6_load 44 = .ok (.getfield 25, 3) := by decide +kernel
theorem dX6_load_47 : decode cX6_load 47 = .ok (.iload 4, 2) := by decide +kernel
theorem dX6_load_49 : decode cX6_load 49 = .ok (.iaload, 1) := by decide +kernel
theorem dX6_load_50 : decode cX6_load 50 = .ok (.i2l, 1) := by decide +kernel
theorem dX6_load_51 : decode cX6_load 51 = .ok (.bipush 8, 2) := by decide +kernel
theorem dX6_load_53 : decode cX6_load 53 = .ok (.iload 4, 2) := by decide +kernel
theorem dX6_load_55 : decode cX6_load 55 = .ok (.imul, 1) := by decide +kernel
theorem dX6_load_56 : decode cX6_load 56 = .ok (.lshl, 1) := by decide +kernel
theorem dX6_load_57 : decode cX6_load 57 = .ok (.lor, 1) := by decide +kernel
theorem dX6_load_58 : decode cX6_load 58 = .ok (.lstore_n 2, 1) := by decide +kernel
theorem dX6_load_59 : decode cX6_load 59 = .ok (.iinc 4 1, 3) := by decide +kernel
theorem dX6_load_62 : decode cX6_load 62 = .ok (.goto (-31), 3) := by decide +kernel
theorem dX6_load_65 : decode cX6_load 65 = .ok (.lload_n 2, 1) := by decide +kernel
theorem dX6_load_66 : decode cX6_load 66 = .ok (.lreturn, 1) := by decide +kernel
set_option maxRecDepth 20000 in
theorem ggX6_read_X6_isBlock : GoodIn wsX6_read wsX6_isBlock := goodIn_r _ [5, 6, 7, 8, 4, 9, 61, 62, 63, 64, 65, 66, 67, 68, 69, 70, 71, 72, 73] (by decide +kernel) (by decide +kernel)
set_option maxRecDepth 20000 in
theorem gX6_read_X6_isBlock : GoodIn wsX6_read (wsV RX6 107 RX6 yX6_isBlock wsX6_isBlock) := goodIn_app (goodIn_of _ (by decide +kernel)) ggX6_read_X6_isBlock
set_option maxRecDepth 20000 in
theorem ggX6_read_X6_part : GoodIn wsX6_read wsX6_part := goodIn_r _ [13, 6, 61, 62, 63, 64, 65, 66, 67, 68, 69, 70, 71, 72, 73] (by decide +kernel) (by decide +kernel)
set_option maxRecDepth 20000 in
theorem gX6_read_X6_part : GoodIn wsX6_read (wsV RX6 43 RX6 yX6_part wsX6_part) := goodIn_app (goodIn_of _ (by decide +kernel)) ggX6_read_X6_part
set_option maxRecDepth 20000 in
theorem ggX6_read_X6_within : GoodIn wsX6_read wsX6_within := goodIn_r _ [9] (by decide +kernel) (by decide +kernel)
set_option maxRecDepth 20000 in
theorem gX6_read_X6_within : GoodIn wsX6_read (va_wsS RX6 39 yX6_within wsX6_within) := goodIn_app (goodIn_of _ (by decide +kernel)) ggX6_read_X6_within
set_option maxRecDepth 20000 in
theorem ggX6_read_X6_isLeaderLost : GoodIn wsX6_read wsX6_isLeaderLost := goodIn_r _ [17, 18, 19, 20, 4, 21, 22, 23, 24, 25, 26, 27, 28, 29, 10, 11, 12, 13, 6, 30, 31, 32, 33, 34, 35, 36, 37, 61, 62, 63, 64, 65, 66, 67, 68, 69, 70, 71, 72, 73] (by decide +kernel) (by decide +kernel)
set_option maxRecDepth 20000 in
theorem gX6_read_X6_isLeaderLost : GoodIn wsX6_read (wsV RX6 84 RX6 yX6_isLeaderLost wsX6_isLeaderLost) := goodIn_app (goodIn_of _ (by decide +kernel)) ggX6_read_X6_isLeaderLost
set_option maxRecDepth 20000 in
theorem ggX6_read_X6_readAt : GoodIn wsX6_read wsX6_readAt := goodIn_r _ [41, 18, 19, 20, 4, 21, 22, 23, 24, 25, 26, 27, 28, 29, 10, 11, 12, 13, 6, 30, 31, 32, 33, 34, 35, 36, 37, 42, 43, 44, 45, 46, 47, 48, 49, 50, 51, 52, 53, 54, 55, 56, 57, 58, 59, 60, 61, 62, 63, 64, 65, 66, 67, 68, 69, 70, 71, 72, 73] (by decide +kernel) (by decide +kernel)
set_option maxRecDepth 20000 in
theorem gX6_read_X6_readAt : GoodIn wsX6_read (wsV RX6 88 RX6 yX6_readAt wsX6_readAt) := goodIn_app (goodIn_of _ (by decide +kernel)) ggX6_read_X6_readAt
theorem dX6_read_0 : decode cX6_read 0 = .ok (.aload_n 0, 1) := by decide +kernel
theorem dX6_read_1 : decode cX6_read 1 = .ok (.iload_n 1, 1) := by decide +kernel
theorem dX6_read_2 : decode cX6_read 2 = .ok (.invokevirtual 107, 3) := by decide +kernel
theorem dX6_read_5 : decode cX6_read 5 = .ok (.ifCond .eq 17, 3) := by decide +kernel
theorem dX6_read_8 : decode cX6_read 8 = .ok (.iload_n 3, 1) := by decide +kernel
theorem dX6_read_9 : decode cX6_read 9 = .ok (.iconst 0, 1) := by decide +kernel
theorem dX6_read_10 : decode cX6_read 10 = .ok (.aload_n 0, 1) := by decide +kernel
theorem dX6_read_11 : decode cX6_read 11 = .ok (.iload_n 1, 1) := by decide +kernel
theorem dX6_read_12 : decode cX6_read 12 = .ok (.iconst 2, 1) := by decide +kernel
theorem dX6_read_13 : decode cX6_read 13 = .ok (.invokevirtual 43, 3) := by decide +kernel
theorem dX6_read_16 : decode cX6_read 16 = .ok (.invokestatic 39, 3) := by decide +kernel
theorem dX6_read_19 : decode cX6_read 19 = .ok (.ifCond .ne 5, 3) := by decide +kernel
theorem dX6_read_22 : decode cX6_read 22 = .ok (.iconst (-1), 1) := by decide +kernel
theorem dX6_read_23 : decode cX6_read 23 = .ok (.ireturn, 1) := by decide +kernel
theorem dX6_read_24 : decode cX6_read 24 = .ok (.iload_n 2, 1) := by decide +kernel
theorem dX6_read_25 : decode cX6_read 25 = .ok (.iconst 0, 1) := by decide +kernel
theorem dX6_read_26 : decode cX6_read 26 = .ok (.iconst 1, 1) := by decide +kernel
theorem dX6_read_27 : decode cX6_read 27 = .ok (.invokestatic 39, 3) := by decide +kernel
theorem dX6_read_30 : decode cX6_read 30 = .ok (.ifCond .ne 6, 3) := by decide +kernel
theorem dX6_read_33 : decode cX6_read 33 = .ok (.bipush (-2), 2) := by decide +kernel
theorem dX6_read_35 : decode cX6_read 35 = .ok (.ireturn, 1) := by decide +kernel
theorem dX6_read_36 : decode cX6_read 36 = .ok (.aload_n 0, 1) := by decide +kernel
theorem dX6_read_37 : decode cX6_read 37 = .ok (.iload_n 1, 1) := by decide +kernel
theorem dX6_read_38 : decode cX6_read 38 = .ok (.iload_n 2, 1) := by decide +kernel
theorem dX6_read_39 : decode cX6_read 39 = .ok (.invokevirtual 84, 3) := by decide +kernel
theorem dX6_read_42 : decode cX6_read 42 = .ok (.ifCond .eq 8, 3) := by decide +kernel
theorem dX6_read_45 : decode cX6_read 45 = .ok (.bipush (-6), 2) := by decide +kernel
theorem dX6_read_47 : decode cX6_read 47 = .ok (.goto 10, 3) := by decide +kernel
theorem dX6_read_50 : decode cX6_read 50 = .ok (.aload_n 0, 1) := by decide +kernel
theorem dX6_read_51 : decode cX6_read 51 = .ok (.iload_n 1, 1) := by decide +kernel
theorem dX6_read_52 : decode cX6_read 52 = .ok (.iload_n 2, 1) := by decide +kernel
theorem dX6_read_53 : decode cX6_read 53 = .ok (.iload_n 3, 1) := by decide +kernel
theorem dX6_read_54 : decode cX6_read 54 = .ok (.invokevirtual 88, 3) := by decide +kernel
theorem dX6_read_57 : decode cX6_read 57 = .ok (.ireturn, 1) := by decide +kernel
set_option maxRecDepth 20000 in
theorem ggX6_whereIn_X6_blockOf : GoodIn wsX6_whereIn wsX6_blockOf := goodIn_r _ [5, 6, 7, 8, 4, 9, 10, 11, 12, 13, 14, 15, 16, 17, 18, 19, 20, 21, 22, 23, 24, 25, 26, 27, 28, 29, 30, 31, 32, 33, 34, 35] (by decide +kernel) (by decide +kernel)
set_option maxRecDepth 20000 in
theorem gX6_whereIn_X6_blockOf : GoodIn wsX6_whereIn (wsV RX6 143 RX6 yX6_blockOf wsX6_blockOf) := goodIn_app (goodIn_of _ (by decide +kernel)) ggX6_whereIn_X6_blockOf
set_option maxRecDepth 20000 in
theorem ggX6_whereIn_X6_firstOf : GoodIn wsX6_whereIn wsX6_firstOf := goodIn_r _ [9, 10, 11, 12, 4, 13, 14, 15, 16, 17, 18, 19, 20, 21, 22, 23, 24, 25, 26, 27, 28, 29, 30, 31, 32, 33, 34, 35] (by decide +kernel) (by decide +kernel)
set_option maxRecDepth 20000 in
theorem gX6_whereIn_X6_firstOf : GoodIn wsX6_whereIn (wsV RX6 54 RX6 yX6_firstOf wsX6_firstOf) := goodIn_app (goodIn_of _ (by decide +kernel)) ggX6_whereIn_X6_firstOf
set_option maxRecDepth 20000 in
theorem ggX6_whereIn_X6_tellingSize : GoodIn wsX6_whereIn wsX6_tellingSize := goodIn_r _ [17, 18, 19, 20, 4, 21, 22, 23, 24, 25, 26, 27, 28, 29, 30, 31, 32, 33, 34, 35] (by decide +kernel) (by decide +kernel)
set_option maxRecDepth 20000 in
theorem gX6_whereIn_X6_tellingSize : GoodIn wsX6_whereIn (wsV RX6 47 RX6 yX6_tellingSize wsX6_tellingSize) := goodIn_app (goodIn_of _ (by decide +kernel)) ggX6_whereIn_X6_tellingSize
theorem dX6_whereIn_0 : decode cX6_whereIn 0 = .ok (.aload_n 0, 1) := by decide +kernel
theorem dX6_whereIn_1 : decode cX6_whereIn 1 = .ok (.iload_n 1, 1) := by decide +kernel
theorem dX6_whereIn_2 : decode cX6_whereIn 2 = .ok (.invokevirtual 143, 3) := by decide +kernel
theorem dX6_whereIn_5 : decode cX6_whereIn 5 = .ok (.istore_n 2, 1) := by decide +kernel
theorem dX6_whereIn_6 : decode cX6_whereIn 6 = .ok (.iload_n 1, 1) := by decide +kernel
theorem dX6_whereIn_7 : decode cX6_whereIn 7 = .ok (.aload_n 0, 1) := by decide +kernel
theorem dX6_whereIn_8 : decode cX6_whereIn 8 = .ok (.iload_n 2, 1) := by decide +kernel
theorem dX6_whereIn_9 : decode cX6_whereIn 9 = .ok (.invokevirtual 54, 3) := by decide +kernel
theorem dX6_whereIn_12 : decode cX6_whereIn 12 = .ok (.isub, 1) := by decide +kernel
theorem dX6_whereIn_13 : decode cX6_whereIn 13 = .ok (.aload_n 0, 1) := by decide +kernel
theorem dX6_whereIn_14 : decode cX6_whereIn 14 = .ok (.iload_n 2, 1) := by decide +kernel
theorem dX6_whereIn_15 : decode cX6_whereIn 15 = .ok (.invokevirtual 47, 3) := by decide +kernel
theorem dX6_whereIn_18 : decode cX6_whereIn 18 = .ok (.idiv, 1) := by decide +kernel
theorem dX6_whereIn_19 : decode cX6_whereIn 19 = .ok (.ireturn, 1) := by decide +kernel
set_option maxRecDepth 20000 in
theorem ggX6_bitOf_X6_blockOf : GoodIn wsX6_bitOf wsX6_blockOf := goodIn_r _ [5, 6, 7, 8, 4, 9, 10, 11, 12, 13, 14, 15, 16, 17, 18, 19, 20, 21, 22, 46, 47, 48, 49, 50, 51, 52, 53, 54, 55, 56, 57, 58] (by decide +kernel) (by decide +kernel)
set_option maxRecDepth 20000 in
theorem gX6_bitOf_X6_blockOf : GoodIn wsX6_bitOf (wsV RX6 143 RX6 yX6_blockOf wsX6_blockOf) := goodIn_app (goodIn_of _ (by decide +kernel)) ggX6_bitOf_X6_blockOf
set_option maxRecDepth 20000 in
theorem ggX6_bitOf_X6_whereIn : GoodIn wsX6_bitOf wsX6_whereIn := goodIn_r _ [26, 1, 2, 3, 4, 5, 6, 7, 8, 9, 10, 11, 12, 13, 14, 15, 16, 17, 18, 19, 20, 21, 22, 46, 47, 48, 49, 50, 51, 52, 53, 54, 55, 56, 57, 58] (by decide +kernel) (by decide +kernel)
set_option maxRecDepth 20000 in
theorem gX6_bitOf_X6_whereIn : GoodIn wsX6_bitOf (wsV RX6 146 RX6 yX6_whereIn wsX6_whereIn) := goodIn_app (goodIn_of _ (by decide +kernel)) ggX6_bitOf_X6_whereIn
set_option maxRecDepth 20000 in
theorem ggX6_bitOf_X6_firstOf : GoodIn wsX6_bitOf wsX6_firstOf := goodIn_r _ [9, 10, 11, 12, 4, 13, 14, 15, 16, 17, 18, 19, 20, 21, 22, 46, 47, 48, 49, 50, 51, 52, 53, 54, 55, 56, 57, 58] (by decide +kernel) (by decide +kernel)
set_option maxRecDepth 20000 in
theorem gX6_bitOf_X6_firstOf : GoodIn wsX6_bitOf (wsV RX6 54 RX6 yX6_firstOf wsX6_firstOf) := goodIn_app (goodIn_of _ (by decide +kernel)) ggX6_bitOf_X6_firstOf
set_option maxRecDepth 20000 in
theorem ggX6_bitOf_X6_tellingSize : GoodIn wsX6_bitOf wsX6_tellingSize := goodIn_r _ [17, 18, 19, 20, 4, 21, 22, 46, 47, 48, 49, 50, 51, 52, 53, 54, 55, 56, 57, 58] (by decide +kernel) (by decide +kernel)
set_option maxRecDepth 20000 in
theorem gX6_bitOf_X6_tellingSize : GoodIn wsX6_bitOf (wsV RX6 47 RX6 yX6_tellingSize wsX6_tellingSize) := goodIn_app (goodIn_of _ (by decide +kernel)) ggX6_bitOf_X6_tellingSize
set_option maxRecDepth 20000 in
theorem ggX6_bitOf_X6_bitAt : GoodIn wsX6_bitOf wsX6_bitAt := goodIn_r _ [30, 31, 32, 33, 4, 34, 18, 19, 20, 21, 22, 35, 36, 37, 38, 39, 40, 41, 6, 7, 8, 9, 10, 11, 12, 13, 14, 15, 16, 17, 42, 43, 44, 45, 46, 47, 48, 49, 50, 51, 52, 53, 54, 55, 56, 57, 58] (by decide +kernel) (by decide +kernel)
set_option maxRecDepth 20000 in
theorem gX6_bitOf_X6_bitAt : GoodIn wsX6_bitOf (wsV RX6 80 RX6 yX6_bitAt wsX6_bitAt) := goodIn_app (goodIn_of _ (by decide +kernel)) ggX6_bitOf_X6_bitAt
theorem dX6_bitOf_0 : decode cX6_bitOf 0 = .ok (.aload_n 0, 1) := by decide +kernel
theorem dX6_bitOf_1 : decode cX6_bitOf 1 = .ok (.iload_n 1, 1) := by decide +kernel
theorem dX6_bitOf_2 : decode cX6_bitOf 2 = .ok (.invokevirtual 143, 3) := by decide +kernel
theorem dX6_bitOf_5 : decode cX6_bitOf 5 = .ok (.istore_n 2, 1) := by decide +kernel
theorem dX6_bitOf_6 : decode cX6_bitOf 6 = .ok (.aload_n 0, 1) := by decide +kernel
theorem dX6_bitOf_7 : decode cX6_bitOf 7 = .ok (.iload_n 1, 1) := by decide +kernel
theorem dX6_bitOf_8 : decode cX6_bitOf 8 = .ok (.invokevirtual 146, 3) := by decide +kernel
theorem dX6_bitOf_11 : decode cX6_bitOf 11 = .ok (.istore_n 3, 1) := by decide +kernel
theorem dX6_bitOf_12 : decode cX6_bitOf 12 = .ok (.iload_n 3, 1) := by decide +kernel
theorem dX6_bitOf_13 : decode cX6_bitOf 13 = .ok (.iconst 2, 1) := by decide +kernel
theorem dX6_bitOf_14 : decode cX6_bitOf 14 = .ok (.if_icmp .ne 7, 3) := by decide +kernel
theorem dX6_bitOf_17 : decode cX6_bitOf 17 = .ok (.iconst 0, 1) := by decide +kernel
theorem dX6_bitOf_18 : decode cX6_bitOf 18 = .ok (.goto 22, 3) := by decide +kernel
theorem dX6_bitOf_21 : decode cX6_bitOf 21 = .ok (.aload_n 0, 1) := by decide +kernel
theorem dX6_bitOf_22 : decode cX6_bitOf 22 = .ok (.iload_n 2, 1) := by decide +kernel
theorem dX6_bitOf_23 : decode cX6_bitOf 23 = .ok (.iload_n 3, 1) := by decide +kernel
theorem dX6_bitOf_24 : decode cX6_bitOf 24 = .ok (.iload_n 1, 1) := by decide +kernel
theorem dX6_bitOf_25 : decode cX6_bitOf 25 = .ok (.aload_n 0, 1) := by decide +kernel
theorem dX6_bitOf_26 : decode cX6_bitOf 26 = .ok (.iload_n 2, 1) := by decide +kernel
theorem dX6_bitOf_27 : decode cX6_bitOf 27 = .ok (.invokevirtual 54, 3) := by decide +kernel
theorem dX6_bitOf_30 : decode cX6_bitOf 30 = .ok (.isub, 1) := by decide +kernel
theorem dX6_bitOf_31 : decode cX6_bitOf 31 = .ok (.aload_n 0, 1) := by decide +kernel
theorem dX6_bitOf_32 : decode cX6_bitOf 32 = .ok (.iload_n 2, 1) := by decide +kernel
theorem dX6_bitOf_33 : decode cX6_bitOf 33 = .ok (.invokevirtual 47, 3) := by decide +kernel
theorem dX6_bitOf_36 : decode cX6_bitOf 36 = .ok (.irem, 1) := by decide +kernel
theorem dX6_bitOf_37 : decode cX6_bitOf 37 = .ok (.invokevirtual 80, 3) := by decide +kernel
theorem dX6_bitOf_40 : decode cX6_bitOf 40 = .ok (.ireturn, 1) := by decide +kernel
set_option maxRecDepth 20000 in
theorem ggX6_cell_X6_isCell : GoodIn wsX6_cell wsX6_isCell := goodIn_r _ [5, 6, 7, 8, 4, 9, 10, 11, 12, 13, 14, 15, 16, 17, 18, 19, 20, 21, 22, 23, 24, 25, 26, 27, 28, 29, 69, 70, 71, 72, 73, 74, 75, 76, 77, 78, 79, 80, 81] (by decide +kernel) (by decide +kernel)
set_option maxRecDepth 20000 in
theorem gX6_cell_X6_isCell : GoodIn wsX6_cell (wsV RX6 118 RX6 yX6_isCell wsX6_isCell) := goodIn_app (goodIn_of _ (by decide +kernel)) ggX6_cell_X6_isCell
set_option maxRecDepth 20000 in
theorem ggX6_cell_X6_volumeOf : GoodIn wsX6_cell wsX6_volumeOf := goodIn_r _ [33, 10, 69, 70, 71, 72, 73, 74, 75, 76, 77, 78, 79, 80, 81] (by decide +kernel) (by decide +kernel)
set_option maxRecDepth 20000 in
theorem gX6_cell_X6_volumeOf : GoodIn wsX6_cell (wsV RX6 73 RX6 yX6_volumeOf wsX6_volumeOf) := goodIn_app (goodIn_of _ (by decide +kernel)) ggX6_cell_X6_volumeOf
set_option maxRecDepth 20000 in
theorem ggX6_cell_X6_badness : GoodIn wsX6_cell wsX6_badness := goodIn_r _ [37, 10, 69, 70, 71, 72, 73, 74, 75, 76, 77, 78, 79, 80, 81] (by decide +kernel) (by decide +kernel)
set_option maxRecDepth 20000 in
theorem gX6_cell_X6_badness : GoodIn wsX6_cell (wsV RX6 70 RX6 yX6_badness wsX6_badness) := goodIn_app (goodIn_of _ (by decide +kernel)) ggX6_cell_X6_badness
set_option maxRecDepth 20000 in
theorem ggX6_cell_X6_bitOf : GoodIn wsX6_cell wsX6_bitOf := goodIn_r _ [41, 42, 43, 44, 4, 45, 11, 12, 13, 14, 15, 16, 17, 18, 19, 20, 21, 22, 23, 24, 25, 26, 10, 46, 47, 48, 49, 50, 51, 52, 53, 54, 55, 56, 57, 58, 59, 60, 61, 62, 63, 64, 34, 35, 36, 37, 69, 70, 71, 72, 73, 74, 75, 76, 77, 78, 79, 80, 81] (by decide +kernel) (by decide +kernel)
set_option maxRecDepth 20000 in
theorem gX6_cell_X6_bitOf : GoodIn wsX6_cell (wsV RX6 149 RX6 yX6_bitOf wsX6_bitOf) := goodIn_app (goodIn_of _ (by decide +kernel)) ggX6_cell_X6_bitOf
set_option maxRecDepth 20000 in
theorem ggX6_cell_X6_blockOf : GoodIn wsX6_cell wsX6_blockOf := goodIn_r _ [45, 11, 12, 13, 4, 14, 15, 16, 17, 18, 19, 20, 21, 22, 23, 24, 25, 26, 10, 69, 70, 71, 72, 73, 74, 75, 76, 77, 78, 79, 80, 81] (by decide +kernel) (by decide +kernel)
set_option maxRecDepth 20000 in
theorem gX6_cell_X6_blockOf : GoodIn wsX6_cell (wsV RX6 143 RX6 yX6_blockOf wsX6_blockOf) := goodIn_app (goodIn_of _ (by decide +kernel)) ggX6_cell_X6_blockOf
set_option maxRecDepth 20000 in
theorem ggX6_cell_X6_whereIn : GoodIn wsX6_cell wsX6_whereIn := goodIn_r _ [49, 42, 43, 44, 4, 45, 11, 12, 13, 14, 15, 16, 17, 18, 19, 20, 21, 22, 23, 24, 25, 26, 10, 69, 70, 71, 72, 73, 74, 75, 76, 77, 78, 79, 80, 81] (by decide +kernel) (by decide +kernel)
set_option maxRecDepth 20000 in
theorem gX6_cell_X6_whereIn : GoodIn wsX6_cell (wsV RX6 146 RX6 yX6_whereIn wsX6_whereIn) := goodIn_app (goodIn_of _ (by decide +kernel)) ggX6_cell_X6_whereIn
set_option maxRecDepth 20000 in
theorem ggX6_cell_X6_counterOf : GoodIn wsX6_cell wsX6_counterOf := goodIn_r _ [68, 10, 69, 70, 71, 72, 73, 74, 75, 76, 77, 78, 79, 80, 81] (by decide +kernel) (by decide +kernel)
set_option maxRecDepth 20000 in
theorem gX6_cell_X6_counterOf : GoodIn wsX6_cell (wsV RX6 136 RX6 yX6_counterOf wsX6_counterOf) := goodIn_app (goodIn_of _ (by decide +kernel)) ggX6_cell_X6_counterOf
theorem dX6_cell_0 : decode cX6_cell 0 = .ok (.aload_n 0, 1) := by decide +kernel
theorem dX6_cell_1 : decode cX6_cell 1 = .ok (.iload_n 1, 1) := by decide +kernel
theorem dX6_cell_2 : decode cX6_cell 2 = .ok (.invokevirtual 118, 3) := by decide +kernel
theorem dX6_cell_5 : decode cX6_cell 5 = .ok (.ifCond .ne 5, 3) := by decide +kernel
theorem dX6_cell_8 : decode cX6_cell 8 = .ok (.iconst (-1), 1) := by decide +kernel
theorem dX6_cell_9 : decode cX6_cell 9 = .ok (.ireturn, 1) := by decide +kernel
theorem dX6_cell_10 : decode cX6_cell 10 = .ok (.iload_n 2, 1) := by decide +kernel
theorem dX6_cell_11 : decode cX6_cell 11 = .ok (.tableswitch 73 0 5 #[37, 43, 49, 55, 61, 67], 37) := by decide +kernel
theorem dX6_cell_48 : decode cX6_cell 48 = .ok (.aload_n 0, 1) := by decide +kernel
theorem dX6_cell_49 : decode cX6_cell 49 = .ok (.iload_n 1, 1) := by decide +kernel
theorem dX6_cell_50 : decode cX6_cell 50 = .ok (.invokevirtual 73, 3) := by decide +kernel
theorem dX6_cell_53 : decode cX6_cell 53 = .ok (.ireturn, 1) := by decide +kernel
theorem dX6_cell_54 : decode cX6_cell 54 = .ok (.aload_n 0, 1) := by decide +kernel
theorem dX6_cell_55 : decode cX6_cell 55 = .ok (.iload_n 1, 1) := by decide +kernel
theorem dX6_cell_56 : decode cX6_cell 56 = .ok (.invokevirtual 70, 3) := by decide +kernel
theorem dX6_cell_59 : decode cX6_cell 59 = .ok (.ireturn, 1) := by decide +kernel
theorem dX6_cell_60 : decode cX6_cell 60 = .ok (.aload_n 0, 1) := by decide +kernel
theorem dX6_cell_61 : decode cX6_cell 61 = .ok (.iload_n 1, 1) := by decide +kernel
theorem dX6_cell_62 : decode cX6_cell 62 = .ok (.invokevirtual 149, 3) := by decide +kernel
theorem dX6_cell_65 : decode cX6_cell 65 = .ok (.ireturn, 1) := by decide +kernel
theorem dX6_cell_66 : decode cX6_cell 66 = .ok (.aload_n 0, 1) := by decide +kernel
theorem dX6_cell_67 : decode cX6_cell 67 = .ok (.iload_n 1, 1) := by decide +kernel
theorem dX6_cell_68 : decode cX6_cell 68 = .ok (.invokevirtual 143, 3) := by decide +kernel
theorem dX6_cell_71 : decode cX6_cell 71 = .ok (.ireturn, 1) := by decide +kernel
theorem dX6_cell_72 : decode cX6_cell 72 = .ok (.aload_n 0, 1) := by decide +kernel
theorem dX6_cell_73 : decode cX6_cell 73 = .ok (.iload_n 1, 1) := by decide +kernel
theorem dX6_cell_74 : decode cX6_cell 74 = .ok (.invokevirtual 146, 3) := by decide +kernel
theorem dX6_cell_77 : decode cX6_cell 77 = .ok (.ireturn, 1) := by decide +kernel
theorem dX6_cell_78 : decode cX6_cell 78 = .ok (.aload_n 0, 1) := by decide +kernel
theorem dX6_cell_79 : decode cX6_cell 79 = .ok (.iload_n 1, 1) := by decide +kernel
theorem dX6_cell_80 : decode cX6_cell 80 = .ok (.invokevirtual 136, 3) := by decide +kernel
theorem dX6_cell_83 : decode cX6_cell 83 = .ok (.ireturn, 1) := by decide +kernel
theorem dX6_cell_84 : decode cX6_cell 84 = .ok (.bipush (-2), 2) := by decide +kernel
theorem dX6_cell_86 : decode cX6_cell 86 = .ok (.ireturn, 1) := by decide +kernel
