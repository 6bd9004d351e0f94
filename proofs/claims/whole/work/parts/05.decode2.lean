theorem dX5_weigh_0 : decode cX5_weigh 0 = .ok (.aload_n 0, 1) := by decide +kernel
theorem dX5_weigh_1 : decode cX5_weigh 1 = .ok (.getfield 10, 3) := by decide +kernel
theorem dX5_weigh_4 : decode cX5_weigh 4 = .ok (.iload_n 1, 1) := by decide +kernel
theorem dX5_weigh_5 : decode cX5_weigh 5 = .ok (.invokevirtual 81, 3) := by decide +kernel
theorem dX5_weigh_8 : decode cX5_weigh 8 = .ok (.ifCond .ne 13, 3) := by decide +kernel
theorem dX5_weigh_11 : decode cX5_weigh 11 = .ok (.new 71, 3) := by decide +kernel
theorem dX5_weigh_14 : decode cX5_weigh 14 = .ok (.dup, 1) := by decide +kernel
theorem dX5_weigh_15 : decode cX5_weigh 15 = .ok (.ldc 84, 2) := by decide +kernel
theorem dX5_weigh_17 : decode cX5_weigh 17 = .ok (.invokespecial 75, 3) := by decide +kernel
theorem dX5_weigh_20 : decode cX5_weigh 20 = .ok (.athrow, 1) := by decide +kernel
theorem dX5_weigh_21 : decode cX5_weigh 21 = .ok (.iload_n 2, 1) := by decide +kernel
theorem dX5_weigh_22 : decode cX5_weigh 22 = .ok (.invokestatic 60, 3) := by decide +kernel
theorem dX5_weigh_25 : decode cX5_weigh 25 = .ok (.ifCond .ne 13, 3) := by decide +kernel
theorem dX5_weigh_28 : decode cX5_weigh 28 = .ok (.new 42, 3) := by decide +kernel
theorem dX5_weigh_31 : decode cX5_weigh 31 = .ok (.dup, 1) := by decide +kernel
theorem dX5_weigh_32 : decode cX5_weigh 32 = .ok (.ldc 86, 2) := by decide +kernel
theorem dX5_weigh_34 : decode cX5_weigh 34 = .ok (.invokespecial 46, 3) := by decide +kernel
theorem dX5_weigh_37 : decode cX5_weigh 37 = .ok (.athrow, 1) := by decide +kernel
theorem dX5_weigh_38 : decode cX5_weigh 38 = .ok (.aload_n 0, 1) := by decide +kernel
theorem dX5_weigh_39 : decode cX5_weigh 39 = .ok (.getfield 10, 3) := by decide +kernel
theorem dX5_weigh_42 : decode cX5_weigh 42 = .ok (.iload_n 1, 1) := by decide +kernel
theorem dX5_weigh_43 : decode cX5_weigh 43 = .ok (.iload_n 2, 1) := by decide +kernel
theorem dX5_weigh_44 : decode cX5_weigh 44 = .ok (.invokevirtual 88, 3) := by decide +kernel
theorem dX5_weigh_47 : decode cX5_weigh 47 = .ok (.return_, 1) := by decide +kernel
set_option maxRecDepth 20000 in
theorem ggX5_count_X4_refresh : GoodIn wsX5_count wsX4_refresh := goodIn_r _ [12, 13, 14, 15, 16, 17, 18, 11, 19, 20, 21, 22, 23, 24, 25, 26, 27, 28, 29, 30, 31, 32, 33, 34, 35, 36, 37, 38, 39, 40, 41, 42, 43, 44, 45, 46, 47, 48, 49, 50, 51, 52, 53, 54, 55, 56, 57, 58, 59, 60, 61, 62, 63, 64, 65, 66, 67, 68, 69, 70, 71, 72, 73, 74, 75, 76, 77, 78, 79, 80, 81, 82, 83, 84, 85, 86, 87, 88, 89, 90, 91, 92, 93, 94, 95, 96, 97, 98, 99, 100, 101, 102, 103, 104, 105, 119, 120, 121, 122, 123, 124, 125, 126, 127, 128, 129, 110, 111, 112, 113, 114, 115, 116, 117, 118] (by decide +kernel) (by decide +kernel)
set_option maxRecDepth 20000 in
theorem gX5_count_X4_refresh : GoodIn wsX5_count (wsV RX5 97 RX4 yX4_refresh wsX4_refresh) := goodIn_app (goodIn_of _ (by decide +kernel)) ggX5_count_X4_refresh
theorem dX5_count_0 : decode cX5_count 0 = .ok (.iload_n 1, 1) := by decide +kernel
theorem dX5_count_1 : decode cX5_count 1 = .ok (.tableswitch 89 0 4 #[35, 43, 51, 59, 74], 35) := by decide +kernel
theorem dX5_count_36 : decode cX5_count 36 = .ok (.aload_n 0, 1) := by decide +kernel
theorem dX5_count_37 : decode cX5_count 37 = .ok (.getfield 10, 3) := by decide +kernel
theorem dX5_count_40 : decode cX5_count 40 = .ok (.getfield 91, 3) := by decide +kernel
theorem dX5_count_43 : decode cX5_count 43 = .ok (.ireturn, 1) := by decide +kernel
theorem dX5_count_44 : decode cX5_count 44 = .ok (.aload_n 0, 1) := by decide +kernel
theorem dX5_count_45 : decode cX5_count 45 = .ok (.getfield 10, 3) := by decide +kernel
theorem dX5_count_48 : decode cX5_count 48 = .ok (.getfield 94, 3) := by decide +kernel
theorem dX5_count_51 : decode cX5_count 51 = .ok (.ireturn, 1) := by decide +kernel
theorem dX5_count_52 : decode cX5_count 52 = .ok (.aload_n 0, 1) := by decide +kernel
theorem dX5_count_53 : decode cX5_count 53 = .ok (.getfield 10, 3) := by decide +kernel
theorem dX5_count_56 : decode cX5_count 56 = .ok (.getfield 63, 3) := by decide +kernel
theorem dX5_count_59 : decode cX5_count 59 = .ok (.ireturn, 1) := by decide +kernel
theorem dX5_count_60 : decode cX5_count 60 = .ok (.aload_n 0, 1) := by decide +kernel
theorem dX5_count_61 : decode cX5_count 61 = .ok (.getfield 34, 3) := by decide +kernel
theorem dX5_count_64 : decode cX5_count 64 = .ok (.invokevirtual 97, 3) := by decide +kernel
theorem dX5_count_67 : decode cX5_count 67 = .ok (.aload_n 0, 1) := by decide +kernel
theorem dX5_count_68 : decode cX5_count 68 = .ok (.getfield 34, 3) := by decide +kernel
theorem dX5_count_71 : decode cX5_count 71 = .ok (.getfield 100, 3) := by decide +kernel
theorem dX5_count_74 : decode cX5_count 74 = .ok (.ireturn, 1) := by decide +kernel
theorem dX5_count_75 : decode cX5_count 75 = .ok (.aload_n 0, 1) := by decide +kernel
theorem dX5_count_76 : decode cX5_count 76 = .ok (.getfield 34, 3) := by decide +kernel
theorem dX5_count_79 : decode cX5_count 79 = .ok (.invokevirtual 97, 3) := by decide +kernel
theorem dX5_count_82 : decode cX5_count 82 = .ok (.aload_n 0, 1) := by decide +kernel
theorem dX5_count_83 : decode cX5_count 83 = .ok (.getfield 34, 3) := by decide +kernel
theorem dX5_count_86 : decode cX5_count 86 = .ok (.getfield 103, 3) := by decide +kernel
theorem dX5_count_89 : decode cX5_count 89 = .ok (.ireturn, 1) := by decide +kernel
theorem dX5_count_90 : decode cX5_count 90 = .ok (.iconst (-1), 1) := by decide +kernel
theorem dX5_count_91 : decode cX5_count 91 = .ok (.ireturn, 1) := by decide +kernel
set_option maxRecDepth 20000 in
theorem ggX5_rank_X5_judgeOf : GoodIn wsX5_rank wsX5_judgeOf := goodIn_r _ [6, 7, 8, 71, 72, 73, 74] (by decide +kernel) (by decide +kernel)
set_option maxRecDepth 20000 in
theorem gX5_rank_X5_judgeOf : GoodIn wsX5_rank (wsV RX5 106 RX5 yX5_judgeOf wsX5_judgeOf) := goodIn_app (goodIn_of _ (by decide +kernel)) ggX5_rank_X5_judgeOf
set_option maxRecDepth 20000 in
theorem ggX5_rank_X0_hasSet : GoodIn wsX5_rank wsX0_hasSet := goodIn_r _ [13, 14, 15, 16, 12, 17, 18, 75, 76, 77, 78, 79, 80, 81, 82, 83] (by decide +kernel) (by decide +kernel)
set_option maxRecDepth 20000 in
theorem gX5_rank_X0_hasSet : GoodIn wsX5_rank (wsV RX5 110 RX0 yX0_hasSet wsX0_hasSet) := goodIn_app (goodIn_of _ (by decide +kernel)) ggX5_rank_X0_hasSet
set_option maxRecDepth 20000 in
theorem ggX5_rank_X2_rankOf : GoodIn wsX5_rank wsX2_rankOf := goodIn_r _ [24, 25, 26, 27, 28, 29, 30, 12, 31, 32, 33, 34, 5, 35, 36, 37, 38, 39, 40, 41, 42, 43, 44, 45, 46, 47, 48, 84, 85, 75, 76, 77, 78, 79, 80, 81, 82, 83] (by decide +kernel) (by decide +kernel)
set_option maxRecDepth 20000 in
theorem gX5_rank_X2_rankOf_u113X2 : GoodIn wsX5_rank (va_wsU RX5 113 RX2 "ColourForests$Kind" ⟨"ColourForests$Kind", "rankOf", "(I)I"⟩ yX2_rankOf wsX2_rankOf) := goodIn_app (goodIn_of _ (by decide +kernel)) ggX5_rank_X2_rankOf
set_option maxRecDepth 20000 in
theorem ggX5_rank_X3_rankOf : GoodIn wsX5_rank wsX3_rankOf := goodIn_r _ [52, 53, 54, 55, 56, 57, 58, 12, 59, 60, 34, 5, 35, 36, 37, 61, 62, 63, 64, 65, 66, 43, 44, 67, 68, 69, 70, 84, 85, 75, 76, 77, 78, 79, 80, 81, 82, 83] (by decide +kernel) (by decide +kernel)
set_option maxRecDepth 20000 in
theorem gX5_rank_X3_rankOf_u113X3 : GoodIn wsX5_rank (va_wsU RX5 113 RX3 "ColourForests$Kind" ⟨"ColourForests$Kind", "rankOf", "(I)I"⟩ yX3_rankOf wsX3_rankOf) := goodIn_app (goodIn_of _ (by decide +kernel)) ggX5_rank_X3_rankOf
theorem dX5_rank_0 : decode cX5_rank 0 = .ok (.aload_n 0, 1) := by decide +kernel
theorem dX5_rank_1 : decode cX5_rank 1 = .ok (.iload_n 1, 1) := by decide +kernel
theorem dX5_rank_2 : decode cX5_rank 2 = .ok (.invokevirtual 106, 3) := by decide +kernel
theorem dX5_rank_5 : decode cX5_rank 5 = .ok (.astore_n 3, 1) := by decide +kernel
theorem dX5_rank_6 : decode cX5_rank 6 = .ok (.aload_n 3, 1) := by decide +kernel
theorem dX5_rank_7 : decode cX5_rank 7 = .ok (.ifnull 14, 3) := by decide +kernel
theorem dX5_rank_10 : decode cX5_rank 10 = .ok (.aload_n 0, 1) := by decide +kernel
theorem dX5_rank_11 : decode cX5_rank 11 = .ok (.getfield 10, 3) := by decide +kernel
theorem dX5_rank_14 : decode cX5_rank 14 = .ok (.iload_n 2, 1) := by decide +kernel
theorem dX5_rank_15 : decode cX5_rank 15 = .ok (.invokevirtual 110, 3) := by decide +kernel
theorem dX5_rank_18 : decode cX5_rank 18 = .ok (.ifCond .ne 5, 3) := by decide +kernel
theorem dX5_rank_21 : decode cX5_rank 21 = .ok (.iconst (-1), 1) := by decide +kernel
theorem dX5_rank_22 : decode cX5_rank 22 = .ok (.ireturn, 1) := by decide +kernel
theorem dX5_rank_23 : decode cX5_rank 23 = .ok (.aload_n 3, 1) := by decide +kernel
theorem dX5_rank_24 : decode cX5_rank 24 = .ok (.iload_n 2, 1) := by decide +kernel
theorem dX5_rank_25 : decode cX5_rank 25 = .ok (.invokevirtual 113, 3) := by decide +kernel
theorem dX5_rank_28 : decode cX5_rank 28 = .ok (.ireturn, 1) := by decide +kernel
set_option maxRecDepth 20000 in
theorem ggX5_free_X0_hasSet : GoodIn wsX5_free wsX0_hasSet := goodIn_r _ [6, 7, 8, 9, 5, 10, 11, 96, 97, 98, 99, 100, 101, 102, 103, 104] (by decide +kernel) (by decide +kernel)
set_option maxRecDepth 20000 in
theorem gX5_free_X0_hasSet : GoodIn wsX5_free (wsV RX5 110 RX0 yX0_hasSet wsX0_hasSet) := goodIn_app (goodIn_of _ (by decide +kernel)) ggX5_free_X0_hasSet
set_option maxRecDepth 20000 in
theorem ggX5_free_X5_isCommon : GoodIn wsX5_free wsX5_isCommon := goodIn_r _ [16, 17, 18, 19, 20, 21, 22, 23, 24, 25, 26, 27, 28, 29, 30, 31, 32, 33, 34, 35, 36, 5, 37, 38, 39, 40, 15, 41, 42, 43, 44, 45, 46, 47, 48, 49, 50, 51, 52, 53, 54, 55, 56, 57, 58, 59, 60, 61, 62, 63, 64, 65, 66, 67, 68, 69, 70, 71, 72, 73, 74, 75, 76, 77, 78, 79, 80, 81, 82, 83, 84, 92, 93, 94, 95, 105, 106, 96, 97, 98, 99, 100, 101, 102, 103, 104] (by decide +kernel) (by decide +kernel)
set_option maxRecDepth 20000 in
theorem gX5_free_X5_isCommon : GoodIn wsX5_free (wsV RX5 119 RX5 yX5_isCommon wsX5_isCommon) := goodIn_app (goodIn_of _ (by decide +kernel)) ggX5_free_X5_isCommon
set_option maxRecDepth 20000 in
theorem ggX5_free_X5_told : GoodIn wsX5_free wsX5_told := goodIn_r _ [87] (by decide +kernel) (by decide +kernel)
set_option maxRecDepth 20000 in
theorem gX5_free_X5_told : GoodIn wsX5_free (va_wsS RX5 122 yX5_told wsX5_told) := goodIn_app (goodIn_of _ (by decide +kernel)) ggX5_free_X5_told
set_option maxRecDepth 20000 in
theorem ggX5_free_X5_judgeOf : GoodIn wsX5_free wsX5_judgeOf := goodIn_r _ [91, 17, 18, 92, 93, 94, 95] (by decide +kernel) (by decide +kernel)
set_option maxRecDepth 20000 in
theorem gX5_free_X5_judgeOf : GoodIn wsX5_free (wsV RX5 106 RX5 yX5_judgeOf wsX5_judgeOf) := goodIn_app (goodIn_of _ (by decide +kernel)) ggX5_free_X5_judgeOf
set_option maxRecDepth 20000 in
theorem ggX5_free_X1_allows : GoodIn wsX5_free wsX1_allows := goodIn_r _ [24, 25, 26, 27, 28, 29, 30, 31, 32, 33, 34, 35, 36, 5, 37, 38, 39, 40, 15, 41, 42, 43, 44, 45, 46, 47, 48, 49, 50, 51, 52, 53, 54, 55, 56, 57, 58, 59, 60, 61, 62, 63, 64, 65, 66, 67, 68, 69, 70, 71, 72, 73, 74, 75, 76, 77, 78, 79, 80, 81, 82, 83, 105, 106, 96, 97, 98, 99, 100, 101, 102, 103, 104] (by decide +kernel) (by decide +kernel)
set_option maxRecDepth 20000 in
theorem gX5_free_X1_allows_u126X2 : GoodIn wsX5_free (va_wsU RX5 126 RX2 "ColourForests$Kind" ⟨"ColourForests$Kind", "allows", "(I)Z"⟩ yX1_allows wsX1_allows) := goodIn_app (goodIn_of _ (by decide +kernel)) ggX5_free_X1_allows
set_option maxRecDepth 20000 in
theorem gX5_free_X1_allows_u126X3 : GoodIn wsX5_free (va_wsU RX5 126 RX3 "ColourForests$Kind" ⟨"ColourForests$Kind", "allows", "(I)Z"⟩ yX1_allows wsX1_allows) := goodIn_app (goodIn_of _ (by decide +kernel)) ggX5_free_X1_allows
theorem dX5_free_0 : decode cX5_free 0 = .ok (.aload_n 0, 1) := by decide +kernel
theorem dX5_free_1 : decode cX5_free 1 = .ok (.getfield 10, 3) := by decide +kernel
theorem dX5_free_4 : decode cX5_free 4 = .ok (.iload_n 2, 1) := by decide +kernel
theorem dX5_free_5 : decode cX5_free 5 = .ok (.invokevirtual 110, 3) := by decide +kernel
theorem dX5_free_8 : decode cX5_free 8 = .ok (.ifCond .ne 5, 3) := by decide +kernel
theorem dX5_free_11 : decode cX5_free 11 = .ok (.iconst (-1), 1) := by decide +kernel
theorem dX5_free_12 : decode cX5_free 12 = .ok (.ireturn, 1) := by decide +kernel
theorem dX5_free_13 : decode cX5_free 13 = .ok (.iload_n 1, 1) := by decide +kernel
theorem dX5_free_14 : decode cX5_free 14 = .ok (.iconst 2, 1) := by decide +kernel
theorem dX5_free_15 : decode cX5_free 15 = .ok (.if_icmp .ne 12, 3) := by decide +kernel
theorem dX5_free_18 : decode cX5_free 18 = .ok (.aload_n 0, 1) := by decide +kernel
theorem dX5_free_19 : decode cX5_free 19 = .ok (.iload_n 2, 1) := by decide +kernel
theorem dX5_free_20 : decode cX5_free 20 = .ok (.invokevirtual 119, 3) := by decide +kernel
theorem dX5_free_23 : decode cX5_free 23 = .ok (.invokestatic 122, 3) := by decide +kernel
theorem dX5_free_26 : decode cX5_free 26 = .ok (.ireturn, 1) := by decide +kernel
theorem dX5_free_27 : decode cX5_free 27 = .ok (.aload_n 0, 1) := by decide +kernel
theorem dX5_free_28 : decode cX5_free 28 = .ok (.iload_n 1, 1) := by decide +kernel
theorem dX5_free_29 : decode cX5_free 29 = .ok (.invokevirtual 106, 3) := by decide +kernel
theorem dX5_free_32 : decode cX5_free 32 = .ok (.astore_n 3, 1) := by decide +kernel
theorem dX5_free_33 : decode cX5_free 33 = .ok (.aload_n 3, 1) := by decide +kernel
theorem dX5_free_34 : decode cX5_free 34 = .ok (.ifnonnull 5, 3) := by decide +kernel
theorem dX5_free_37 : decode cX5_free 37 = .ok (.iconst (-1), 1) := by decide +kernel
theorem dX5_free_38 : decode cX5_free 38 = .ok (.ireturn, 1) := by decide +kernel
theorem dX5_free_39 : decode cX5_free 39 = .ok (.aload_n 3, 1) := by decide +kernel
theorem dX5_free_40 : decode cX5_free 40 = .ok (.iload_n 2, 1) := by decide +kernel
theorem dX5_free_41 : decode cX5_free 41 = .ok (.invokevirtual 126, 3) := by decide +kernel
theorem dX5_free_44 : decode cX5_free 44 = .ok (.invokestatic 122, 3) := by decide +kernel
theorem dX5_free_47 : decode cX5_free 47 = .ok (.ireturn, 1) := by decide +kernel
set_option maxRecDepth 20000 in
theorem ggX5_circuit_X5_judgeOf : GoodIn wsX5_circuit wsX5_judgeOf := goodIn_r _ [6, 7, 8, 100, 101, 102, 103] (by decide +kernel) (by decide +kernel)
set_option maxRecDepth 20000 in
theorem gX5_circuit_X5_judgeOf : GoodIn wsX5_circuit (wsV RX5 106 RX5 yX5_judgeOf wsX5_judgeOf) := goodIn_app (goodIn_of _ (by decide +kernel)) ggX5_circuit_X5_judgeOf
set_option maxRecDepth 20000 in
theorem ggX5_circuit_X0_hasEdge : GoodIn wsX5_circuit wsX0_hasEdge := goodIn_r _ [13, 14, 15, 5, 16, 104, 105, 106, 107, 108, 109, 110, 111, 112] (by decide +kernel) (by decide +kernel)
set_option maxRecDepth 20000 in
theorem gX5_circuit_X0_hasEdge : GoodIn wsX5_circuit (wsV RX5 81 RX0 yX0_hasEdge wsX0_hasEdge) := goodIn_app (goodIn_of _ (by decide +kernel)) ggX5_circuit_X0_hasEdge
set_option maxRecDepth 20000 in
theorem ggX5_circuit_X0_hasSet : GoodIn wsX5_circuit wsX0_hasSet := goodIn_r _ [20, 21, 22, 23, 12, 24, 14, 104, 105, 106, 107, 108, 109, 110, 111, 112] (by decide +kernel) (by decide +kernel)
set_option maxRecDepth 20000 in
theorem gX5_circuit_X0_hasSet : GoodIn wsX5_circuit (wsV RX5 110 RX0 yX0_hasSet wsX0_hasSet) := goodIn_app (goodIn_of _ (by decide +kernel)) ggX5_circuit_X0_hasSet
set_option maxRecDepth 20000 in
theorem ggX5_circuit_X1_allows : GoodIn wsX5_circuit wsX1_allows := goodIn_r _ [30, 31, 32, 33, 34, 35, 36, 37, 38, 39, 40, 41, 42, 12, 43, 44, 45, 46, 5, 47, 48, 49, 50, 51, 52, 53, 54, 55, 56, 57, 58, 59, 60, 61, 62, 63, 64, 65, 66, 67, 68, 69, 70, 71, 72, 73, 74, 75, 76, 77, 78, 79, 80, 81, 82, 83, 84, 85, 86, 87, 88, 89, 113, 114, 104, 105, 106, 107, 108, 109, 110, 111, 112] (by decide +kernel) (by decide +kernel)
set_option maxRecDepth 20000 in
theorem gX5_circuit_X1_allows_u126X2 : GoodIn wsX5_circuit (va_wsU RX5 126 RX2 "ColourForests$Kind" ⟨"ColourForests$Kind", "allows", "(I)Z"⟩ yX1_allows wsX1_allows) := goodIn_app (goodIn_of _ (by decide +kernel)) ggX5_circuit_X1_allows
set_option maxRecDepth 20000 in
theorem gX5_circuit_X1_allows_u126X3 : GoodIn wsX5_circuit (va_wsU RX5 126 RX3 "ColourForests$Kind" ⟨"ColourForests$Kind", "allows", "(I)Z"⟩ yX1_allows wsX1_allows) := goodIn_app (goodIn_of _ (by decide +kernel)) ggX5_circuit_X1_allows
set_option maxRecDepth 20000 in
theorem ggX5_circuit_X5_hasBit : GoodIn wsX5_circuit wsX5_hasBit := goodIn_r _ [49] (by decide +kernel) (by decide +kernel)
set_option maxRecDepth 20000 in
theorem gX5_circuit_X5_hasBit : GoodIn wsX5_circuit (va_wsS RX5 129 yX5_hasBit wsX5_hasBit) := goodIn_app (goodIn_of _ (by decide +kernel)) ggX5_circuit_X5_hasBit
set_option maxRecDepth 20000 in
theorem ggX5_circuit_X1_circuitWithin : GoodIn wsX5_circuit wsX1_circuitWithin := goodIn_r _ [96, 97, 98, 31, 32, 33, 34, 35, 36, 37, 38, 39, 40, 41, 42, 12, 43, 44, 45, 46, 5, 47, 48, 49, 50, 51, 52, 53, 54, 55, 56, 57, 58, 59, 60, 61, 62, 63, 64, 65, 66, 67, 68, 69, 70, 71, 72, 73, 74, 75, 76, 77, 78, 79, 80, 81, 82, 113, 114, 104, 105, 106, 107, 108, 109, 110, 111, 112] (by decide +kernel) (by decide +kernel)
set_option maxRecDepth 20000 in
theorem gX5_circuit_X1_circuitWithin_u133X2 : GoodIn wsX5_circuit (va_wsU RX5 133 RX2 "ColourForests$Kind" ⟨"ColourForests$Kind", "circuitWithin", "(I)I"⟩ yX1_circuitWithin wsX1_circuitWithin) := goodIn_app (goodIn_of _ (by decide +kernel)) ggX5_circuit_X1_circuitWithin
set_option maxRecDepth 20000 in
theorem gX5_circuit_X1_circuitWithin_u133X3 : GoodIn wsX5_circuit (va_wsU RX5 133 RX3 "ColourForests$Kind" ⟨"ColourForests$Kind", "circuitWithin", "(I)I"⟩ yX1_circuitWithin wsX1_circuitWithin) := goodIn_app (goodIn_of _ (by decide +kernel)) ggX5_circuit_X1_circuitWithin
theorem dX5_circuit_0 : decode cX5_circuit 0 = .ok (.aload_n 0, 1) := by decide +kernel
theorem dX5_circuit_1 : decode cX5_circuit 1 = .ok (.iload_n 1, 1) := by decide +kernel
theorem dX5_circuit_2 : decode cX5_circuit 2 = .ok (.invokevirtual 106, 3) := by decide +kernel
theorem dX5_circuit_5 : decode cX5_circuit 5 = .ok (.astore 4, 2) := by decide +kernel
theorem dX5_circuit_7 : decode cX5_circuit 7 = .ok (.aload 4, 2) := by decide +kernel
theorem dX5_circuit_9 : decode cX5_circuit 9 = .ok (.ifnull 25, 3) := by decide +kernel
theorem dX5_circuit_12 : decode cX5_circuit 12 = .ok (.aload_n 0, 1) := by decide +kernel
theorem dX5_circuit_13 : decode cX5_circuit 13 = .ok (.getfield 10, 3) := by decide +kernel
theorem dX5_circuit_16 : decode cX5_circuit 16 = .ok (.iload_n 3, 1) := by decide +kernel
theorem dX5_circuit_17 : decode cX5_circuit 17 = .ok (.invokevirtual 81, 3) := by decide +kernel
theorem dX5_circuit_20 : decode cX5_circuit 20 = .ok (.ifCond .eq 14, 3) := by decide +kernel
theorem dX5_circuit_23 : decode cX5_circuit 23 = .ok (.aload_n 0, 1) := by decide +kernel
theorem dX5_circuit_24 : decode cX5_circuit 24 = .ok (.getfield 10, 3) := by decide +kernel
theorem dX5_circuit_27 : decode cX5_circuit 27 = .ok (.iload_n 2, 1) := by decide +kernel
theorem dX5_circuit_28 : decode cX5_circuit 28 = .ok (.invokevirtual 110, 3) := by decide +kernel
theorem dX5_circuit_31 : decode cX5_circuit 31 = .ok (.ifCond .ne 5, 3) := by decide +kernel
theorem dX5_circuit_34 : decode cX5_circuit 34 = .ok (.iconst (-1), 1) := by decide +kernel
theorem dX5_circuit_35 : decode cX5_circuit 35 = .ok (.ireturn, 1) := by decide +kernel
theorem dX5_circuit_36 : decode cX5_circuit 36 = .ok (.aload 4, 2) := by decide +kernel
theorem dX5_circuit_38 : decode cX5_circuit 38 = .ok (.iload_n 2, 1) := by decide +kernel
theorem dX5_circuit_39 : decode cX5_circuit 39 = .ok (.invokevirtual 126, 3) := by decide +kernel
theorem dX5_circuit_42 : decode cX5_circuit 42 = .ok (.ifCond .eq 11, 3) := by decide +kernel
theorem dX5_circuit_45 : decode cX5_circuit 45 = .ok (.iload_n 2, 1) := by decide +kernel
theorem dX5_circuit_46 : decode cX5_circuit 46 = .ok (.iload_n 3, 1) := by decide +kernel
theorem dX5_circuit_47 : decode cX5_circuit 47 = .ok (.invokestatic 129, 3) := by decide +kernel
theorem dX5_circuit_50 : decode cX5_circuit 50 = .ok (.ifCond .eq 5, 3) := by decide +kernel
theorem dX5_circuit_53 : decode cX5_circuit 53 = .ok (.iconst (-1), 1) := by decide +kernel
theorem dX5_circuit_54 : decode cX5_circuit 54 = .ok (.ireturn, 1) := by decide +kernel
theorem dX5_circuit_55 : decode cX5_circuit 55 = .ok (.aload 4, 2) := by decide +kernel
theorem dX5_circuit_57 : decode cX5_circuit 57 = .ok (.iload_n 2, 1) := by decide +kernel
theorem dX5_circuit_58 : decode cX5_circuit 58 = .ok (.iconst 1, 1) := by decide +kernel
theorem dX5_circuit_59 : decode cX5_circuit 59 = .ok (.iload_n 3, 1) := by decide +kernel
theorem dX5_circuit_60 : decode cX5_circuit 60 = .ok (.ishl, 1) := by decide +kernel
theorem dX5_circuit_61 : decode cX5_circuit 61 = .ok (.ior, 1) := by decide +kernel
theorem dX5_circuit_62 : decode cX5_circuit 62 = .ok (.invokevirtual 133, 3) := by decide +kernel
theorem dX5_circuit_65 : decode cX5_circuit 65 = .ok (.ireturn, 1) := by decide +kernel
set_option maxRecDepth 20000 in
theorem ggX5_closure_X5_judgeOf : GoodIn wsX5_closure wsX5_judgeOf := goodIn_r _ [6, 7, 8, 80, 81, 82, 83] (by decide +kernel) (by decide +kernel)
set_option maxRecDepth 20000 in
theorem gX5_closure_X5_judgeOf : GoodIn wsX5_closure (wsV RX5 106 RX5 yX5_judgeOf wsX5_judgeOf) := goodIn_app (goodIn_of _ (by decide +kernel)) ggX5_closure_X5_judgeOf
set_option maxRecDepth 20000 in
theorem ggX5_closure_X0_hasSet : GoodIn wsX5_closure wsX0_hasSet := goodIn_r _ [13, 14, 15, 16, 12, 17, 18, 84, 85, 86, 87, 88, 89, 90, 91, 92] (by decide +kernel) (by decide +kernel)
set_option maxRecDepth 20000 in
theorem gX5_closure_X0_hasSet : GoodIn wsX5_closure (wsV RX5 110 RX0 yX0_hasSet wsX0_hasSet) := goodIn_app (goodIn_of _ (by decide +kernel)) ggX5_closure_X0_hasSet
set_option maxRecDepth 20000 in
theorem ggX5_closure_X1_closureOf : GoodIn wsX5_closure wsX1_closureOf := goodIn_r _ [24, 25, 26, 27, 28, 29, 30, 31, 32, 33, 34, 35, 36, 37, 38, 12, 39, 40, 41, 42, 5, 43, 44, 45, 46, 47, 48, 49, 50, 51, 52, 53, 54, 55, 56, 57, 58, 59, 60, 61, 62, 63, 64, 65, 66, 67, 68, 69, 70, 71, 72, 73, 74, 75, 76, 77, 78, 93, 94, 84, 85, 86, 87, 88, 89, 90, 91, 92] (by decide +kernel) (by decide +kernel)
set_option maxRecDepth 20000 in
theorem gX5_closure_X1_closureOf_u136X2 : GoodIn wsX5_closure (va_wsU RX5 136 RX2 "ColourForests$Kind" ⟨"ColourForests$Kind", "closureOf", "(I)I"⟩ yX1_closureOf wsX1_closureOf) := goodIn_app (goodIn_of _ (by decide +kernel)) ggX5_closure_X1_closureOf
set_option maxRecDepth 20000 in
theorem gX5_closure_X1_closureOf_u136X3 : GoodIn wsX5_closure (va_wsU RX5 136 RX3 "ColourForests$Kind" ⟨"ColourForests$Kind", "closureOf", "(I)I"⟩ yX1_closureOf wsX1_closureOf) := goodIn_app (goodIn_of _ (by decide +kernel)) ggX5_closure_X1_closureOf
theorem dX5_closure_0 : decode cX5_closure 0 = .ok (.aload_n 0, 1) := by decide +kernel
theorem dX5_closure_1 : decode cX5_closure 1 = .ok (.iload_n 1, 1) := by decide +kernel
theorem dX5_closure_2 : decode cX5_closure 2 = .ok (.invokevirtual 106, 3) := by decide +kernel
theorem dX5_closure_5 : decode cX5_closure 5 = .ok (.astore_n 3, 1) := by decide +kernel
theorem dX5_closure_6 : decode cX5_closure 6 = .ok (.aload_n 3, 1) := by decide +kernel
theorem dX5_closure_7 : decode cX5_closure 7 = .ok (.ifnull 14, 3) := by decide +kernel
theorem dX5_closure_10 : decode cX5_closure 10 = .ok (.aload_n 0, 1) := by decide +kernel
theorem dX5_closure_11 : decode cX5_closure 11 = .ok (.getfield 10, 3) := by decide +kernel
theorem dX5_closure_14 : decode cX5_closure 14 = .ok (.iload_n 2, 1) := by decide +kernel
theorem dX5_closure_15 : decode cX5_closure 15 = .ok (.invokevirtual 110, 3) := by decide +kernel
theorem dX5_closure_18 : decode cX5_closure 18 = .ok (.ifCond .ne 5, 3) := by decide +kernel
theorem dX5_closure_21 : decode cX5_closure 21 = .ok (.iconst (-1), 1) := by decide +kernel
theorem dX5_closure_22 : decode cX5_closure 22 = .ok (.ireturn, 1) := by decide +kernel
theorem dX5_closure_23 : decode cX5_closure 23 = .ok (.aload_n 3, 1) := by decide +kernel
theorem dX5_closure_24 : decode cX5_closure 24 = .ok (.iload_n 2, 1) := by decide +kernel
theorem dX5_closure_25 : decode cX5_closure 25 = .ok (.invokevirtual 136, 3) := by decide +kernel
theorem dX5_closure_28 : decode cX5_closure 28 = .ok (.ireturn, 1) := by decide +kernel
set_option maxRecDepth 20000 in
theorem ggX5_most_X4_refresh : GoodIn wsX5_most wsX4_refresh := goodIn_r _ [7, 8, 9, 10, 11, 12, 13, 6, 14, 15, 16, 17, 18, 19, 20, 21, 22, 23, 24, 25, 26, 27, 28, 29, 30, 31, 32, 33, 34, 35, 36, 37, 38, 39, 40, 41, 42, 43, 44, 45, 46, 47, 48, 49, 50, 51, 52, 53, 54, 55, 56, 57, 58, 59, 60, 61, 62, 63, 64, 65, 66, 67, 68, 69, 70, 71, 72, 73, 74, 75, 76, 77, 78, 79, 80, 81, 82, 83, 84, 85, 86, 87, 88, 89, 90, 91, 92, 93, 94, 95, 96, 97, 98, 99, 100, 105, 106, 107, 108, 109, 110, 111, 112, 113, 114, 115, 116, 117, 118, 119, 120, 121, 122, 123, 124] (by decide +kernel) (by decide +kernel)
set_option maxRecDepth 20000 in
theorem gX5_most_X4_refresh : GoodIn wsX5_most (wsV RX5 97 RX4 yX4_refresh wsX4_refresh) := goodIn_app (goodIn_of _ (by decide +kernel)) ggX5_most_X4_refresh
theorem dX5_most_0 : decode cX5_most 0 = .ok (.aload_n 0, 1) := by decide +kernel
theorem dX5_most_1 : decode cX5_most 1 = .ok (.getfield 34, 3) := by decide +kernel
theorem dX5_most_4 : decode cX5_most 4 = .ok (.invokevirtual 97, 3) := by decide +kernel
theorem dX5_most_7 : decode cX5_most 7 = .ok (.aload_n 0, 1) := by decide +kernel
theorem dX5_most_8 : decode cX5_most 8 = .ok (.getfield 34, 3) := by decide +kernel
theorem dX5_most_11 : decode cX5_most 11 = .ok (.getfield 139, 3) := by decide +kernel
theorem dX5_most_14 : decode cX5_most 14 = .ok (.ireturn, 1) := by decide +kernel
set_option maxRecDepth 20000 in
theorem ggX5_dearest_X4_refresh : GoodIn wsX5_dearest wsX4_refresh := goodIn_r _ [7, 8, 9, 10, 11, 12, 13, 6, 14, 15, 16, 17, 18, 19, 20, 21, 22, 23, 24, 25, 26, 27, 28, 29, 30, 31, 32, 33, 34, 35, 36, 37, 38, 39, 40, 41, 42, 43, 44, 45, 46, 47, 48, 49, 50, 51, 52, 53, 54, 55, 56, 57, 58, 59, 60, 61, 62, 63, 64, 65, 66, 67, 68, 69, 70, 71, 72, 73, 74, 75, 76, 77, 78, 79, 80, 81, 82, 83, 84, 85, 86, 87, 88, 89, 90, 91, 92, 93, 94, 95, 96, 97, 98, 99, 100, 111, 112, 113, 114, 115, 116, 117, 118, 119, 120, 121, 122, 123, 124, 125, 126, 127, 128, 129, 130] (by decide +kernel) (by decide +kernel)
set_option maxRecDepth 20000 in
theorem gX5_dearest_X4_refresh : GoodIn wsX5_dearest (wsV RX5 97 RX4 yX4_refresh wsX4_refresh) := goodIn_app (goodIn_of _ (by decide +kernel)) ggX5_dearest_X4_refresh
set_option maxRecDepth 20000 in
theorem ggX5_dearest_X4_hasSize : GoodIn wsX5_dearest wsX4_hasSize := goodIn_r _ [104, 26, 105, 36, 106, 111, 112, 113, 114, 115, 116, 117, 118, 119, 120, 121] (by decide +kernel) (by decide +kernel)
set_option maxRecDepth 20000 in
theorem gX5_dearest_X4_hasSize : GoodIn wsX5_dearest (wsV RX5 142 RX4 yX4_hasSize wsX4_hasSize) := goodIn_app (goodIn_of _ (by decide +kernel)) ggX5_dearest_X4_hasSize
theorem dX5_dearest_0 : decode cX5_dearest 0 = .ok (.aload_n 0, 1) := by decide +kernel
theorem dX5_dearest_1 : decode cX5_dearest 1 = .ok (.getfield 34, 3) := by decide +kernel
theorem dX5_dearest_4 : decode cX5_dearest 4 = .ok (.invokevirtual 97, 3) := by decide +kernel
theorem dX5_dearest_7 : decode cX5_dearest 7 = .ok (.aload_n 0, 1) := by decide +kernel
theorem dX5_dearest_8 : decode cX5_dearest 8 = .ok (.getfield 34, 3) := by decide +kernel
theorem dX5_dearest_11 : decode cX5_dearest 11 = .ok (.iload_n 1, 1) := by decide +kernel
theorem dX5_dearest_12 : decode cX5_dearest 12 = .ok (.invokevirtual 142, 3) := by decide +kernel
theorem dX5_dearest_15 : decode cX5_dearest 15 = .ok (.ifCond .eq 15, 3) := by decide +kernel
theorem dX5_dearest_18 : decode cX5_dearest 18 = .ok (.aload_n 0, 1) := by decide +kernel
theorem dX5_dearest_19 : decode cX5_dearest 19 = .ok (.getfield 34, 3) := by decide +kernel
theorem dX5_dearest_22 : decode cX5_dearest 22 = .ok (.getfield 145, 3) := by decide +kernel
theorem dX5_dearest_25 : decode cX5_dearest 25 = .ok (.iload_n 1, 1) := by decide +kernel
theorem dX5_dearest_26 : decode cX5_dearest 26 = .ok (.iaload, 1) := by decide +kernel
theorem dX5_dearest_27 : decode cX5_dearest 27 = .ok (.goto 4, 3) := by decide +kernel
theorem dX5_dearest_30 : decode cX5_dearest 30 = .ok (.iconst (-1), 1) := by decide +kernel
theorem dX5_dearest_31 : decode cX5_dearest 31 = .ok (.ireturn, 1) := by decide +kernel
set_option maxRecDepth 20000 in
theorem ggX5_weight_X4_refresh : GoodIn wsX5_weight wsX4_refresh := goodIn_r _ [9, 10, 11, 12, 13, 14, 15, 8, 16, 17, 18, 19, 20, 21, 22, 23, 24, 25, 26, 27, 28, 29, 30, 31, 32, 33, 34, 35, 36, 37, 38, 39, 40, 41, 42, 43, 44, 45, 46, 47, 48, 49, 50, 51, 52, 53, 54, 55, 56, 57, 58, 59, 60, 61, 62, 63, 64, 65, 66, 67, 68, 69, 70, 71, 72, 73, 74, 75, 76, 77, 78, 79, 80, 81, 82, 83, 84, 85, 86, 87, 88, 89, 90, 91, 92, 93, 94, 95, 96, 97, 98, 99, 100, 101, 102, 113, 114, 115, 116, 117, 118, 119, 120, 121, 122, 123, 124, 125, 126, 127, 128, 129, 130, 131, 132] (by decide +kernel) (by decide +kernel)
set_option maxRecDepth 20000 in
theorem gX5_weight_X4_refresh : GoodIn wsX5_weight (wsV RX5 97 RX4 yX4_refresh wsX4_refresh) := goodIn_app (goodIn_of _ (by decide +kernel)) ggX5_weight_X4_refresh
set_option maxRecDepth 20000 in
theorem ggX5_weight_X4_hasSize : GoodIn wsX5_weight wsX4_hasSize := goodIn_r _ [106, 28, 107, 38, 108, 113, 114, 115, 116, 117, 118, 119, 120, 121, 122, 123] (by decide +kernel) (by decide +kernel)
set_option maxRecDepth 20000 in
theorem gX5_weight_X4_hasSize : GoodIn wsX5_weight (wsV RX5 142 RX4 yX4_hasSize wsX4_hasSize) := goodIn_app (goodIn_of _ (by decide +kernel)) ggX5_weight_X4_hasSize
theorem dX5_weight_0 : decode cX5_weight 0 = .ok (.aload_n 0, 1) := by decide +kernel
theorem dX5_weight_1 : decode cX5_weight 1 = .ok (.getfield 34, 3) := by decide +kernel
theorem dX5_weight_4 : decode cX5_weight 4 = .ok (.invokevirtual 97, 3) := by decide +kernel
theorem dX5_weight_7 : decode cX5_weight 7 = .ok (.aload_n 0, 1) := by decide +kernel
theorem dX5_weight_8 : decode cX5_weight 8 = .ok (.getfield 34, 3) := by decide +kernel
theorem dX5_weight_11 : decode cX5_weight 11 = .ok (.iload_n 1, 1) := by decide +kernel
theorem dX5_weight_12 : decode cX5_weight 12 = .ok (.invokevirtual 142, 3) := by decide +kernel
theorem dX5_weight_15 : decode cX5_weight 15 = .ok (.ifCond .ne 13, 3) := by decide +kernel
theorem dX5_weight_18 : decode cX5_weight 18 = .ok (.new 42, 3) := by decide +kernel
theorem dX5_weight_21 : decode cX5_weight 21 = .ok (.dup, 1) := by decide +kernel
theorem dX5_weight_22 : decode cX5_weight 22 = .ok (.ldc 149, 2) := by decide +kernel
theorem dX5_weight_24 : decode cX5_weight 24 = .ok (.invokespecial 46, 3) := by decide +kernel
theorem dX5_weight_27 : decode cX5_weight 27 = .ok (.athrow, 1) := by decide +kernel
theorem dX5_weight_28 : decode cX5_weight 28 = .ok (.aload_n 0, 1) := by decide +kernel
theorem dX5_weight_29 : decode cX5_weight 29 = .ok (.getfield 34, 3) := by decide +kernel
theorem dX5_weight_32 : decode cX5_weight 32 = .ok (.getfield 151, 3) := by decide +kernel
theorem dX5_weight_35 : decode cX5_weight 35 = .ok (.iload_n 1, 1) := by decide +kernel
theorem dX5_weight_36 : decode cX5_weight 36 = .ok (.iaload, 1) := by decide +kernel
theorem dX5_weight_37 : decode cX5_weight 37 = .ok (.ireturn, 1) := by decide +kernel
set_option maxRecDepth 20000 in
theorem ggX5_heaviest_X4_refresh : GoodIn wsX5_heaviest wsX4_refresh := goodIn_r _ [8, 9, 10, 11, 12, 13, 14, 7, 15, 16, 17, 18, 19, 20, 21, 22, 23, 24, 25, 26, 27, 28, 29, 30, 31, 32, 33, 34, 35, 36, 37, 38, 39, 40, 41, 42, 43, 44, 45, 46, 47, 48, 49, 50, 51, 52, 53, 54, 55, 56, 57, 58, 59, 60, 61, 62, 63, 64, 65, 66, 67, 68, 69, 70, 71, 72, 73, 74, 75, 76, 77, 78, 79, 80, 81, 82, 83, 84, 85, 86, 87, 88, 89, 90, 91, 92, 93, 94, 95, 96, 97, 98, 99, 100, 101, 106, 107, 108, 109, 110, 111, 112, 113, 114, 115, 116, 117, 118, 119, 120, 121, 122, 123, 124, 125] (by decide +kernel) (by decide +kernel)
set_option maxRecDepth 20000 in
theorem gX5_heaviest_X4_refresh : GoodIn wsX5_heaviest (wsV RX5 97 RX4 yX4_refresh wsX4_refresh) := goodIn_app (goodIn_of _ (by decide +kernel)) ggX5_heaviest_X4_refresh
theorem dX5_heaviest_0 : decode cX5_heaviest 0 = .ok (.aload_n 0, 1) := by decide +kernel
theorem dX5_heaviest_1 : decode cX5_heaviest 1 = .ok (.getfield 34, 3) := by decide +kernel
theorem dX5_heaviest_4 : decode cX5_heaviest 4 = .ok (.invokevirtual 97, 3) := by decide +kernel
theorem dX5_heaviest_7 : decode cX5_heaviest 7 = .ok (.iconst 0, 1) := by decide +kernel
theorem dX5_heaviest_8 : decode cX5_heaviest 8 = .ok (.istore_n 1, 1) := by decide +kernel
theorem dX5_heaviest_9 : decode cX5_heaviest 9 = .ok (.iconst 1, 1) := by decide +kernel
theorem dX5_heaviest_10 : decode cX5_heaviest 10 = .ok (.istore_n 2, 1) := by decide +kernel
theorem dX5_heaviest_11 : decode cX5_heaviest 11 = .ok (.iload_n 2, 1) := by decide +kernel
theorem dX5_heaviest_12 : decode cX5_heaviest 12 = .ok (.aload_n 0, 1) := by decide +kernel
theorem dX5_heaviest_13 : decode cX5_heaviest 13 = .ok (.getfield 34, 3) := by decide +kernel
theorem dX5_heaviest_16 : decode cX5_heaviest 16 = .ok (.getfield 139, 3) := by decide +kernel
theorem dX5_heaviest_19 : decode cX5_heaviest 19 = .ok (.if_icmp .gt 32, 3) := by decide +kernel
theorem dX5_heaviest_22 : decode cX5_heaviest 22 = .ok (.aload_n 0, 1) := by decide +kernel
theorem dX5_heaviest_23 : decode cX5_heaviest 23 = .ok (.getfield 34, 3) := by decide +kernel
theorem dX5_heaviest_26 : decode cX5_heaviest 26 = .ok (.getfield 151, 3) := by decide +kernel
theorem dX5_heaviest_29 : decode cX5_heaviest 29 = .ok (.iload_n 2, 1) := by decide +kernel
theorem dX5_heaviest_30 : decode cX5_heaviest 30 = .ok (.iaload, 1) := by decide +kernel
theorem dX5_heaviest_31 : decode cX5_heaviest 31 = .ok (.aload_n 0, 1) := by decide +kernel
theorem dX5_heaviest_32 : decode cX5_heaviest 32 = .ok (.getfield 34, 3) := by decide +kernel
theorem dX5_heaviest_35 : decode cX5_heaviest 35 = .ok (.getfield 151, 3) := by decide +kernel
theorem dX5_heaviest_38 : decode cX5_heaviest 38 = .ok (.iload_n 1, 1) := by decide +kernel
theorem dX5_heaviest_39 : decode cX5_heaviest 39 = .ok (.iaload, 1) := by decide +kernel
theorem dX5_heaviest_40 : decode cX5_heaviest 40 = .ok (.if_icmp .le 5, 3) := by decide +kernel
theorem dX5_heaviest_43 : decode cX5_heaviest 43 = .ok (.iload_n 2, 1) := by decide +kernel
theorem dX5_heaviest_44 : decode cX5_heaviest 44 = .ok (.istore_n 1, 1) := by decide +kernel
theorem dX5_heaviest_45 : decode cX5_heaviest 45 = .ok (.iinc 2 1, 3) := by decide +kernel
theorem dX5_heaviest_48 : decode cX5_heaviest 48 = .ok (.goto (-37), 3) := by decide +kernel
theorem dX5_heaviest_51 : decode cX5_heaviest 51 = .ok (.iload_n 1, 1) := by decide +kernel
theorem dX5_heaviest_52 : decode cX5_heaviest 52 = .ok (.ireturn, 1) := by decide +kernel
set_option maxRecDepth 20000 in
theorem ggX5_witness_X4_refresh : GoodIn wsX5_witness wsX4_refresh := goodIn_r _ [6, 7, 8, 9, 10, 11, 12, 5, 13, 14, 15, 16, 17, 18, 19, 20, 21, 22, 23, 24, 25, 26, 27, 28, 29, 30, 31, 32, 33, 34, 35, 36, 37, 38, 39, 40, 41, 42, 43, 44, 45, 46, 47, 48, 49, 50, 51, 52, 53, 54, 55, 56, 57, 58, 59, 60, 61, 62, 63, 64, 65, 66, 67, 68, 69, 70, 71, 72, 73, 74, 75, 76, 77, 78, 79, 80, 81, 82, 83, 84, 85, 86, 87, 88, 89, 90, 91, 92, 93, 94, 95, 96, 97, 98, 99, 169, 170, 171, 172, 173, 174, 175, 176, 177, 178, 179, 180, 181, 182, 183, 184, 185, 186, 187, 188] (by decide +kernel) (by decide +kernel)
set_option maxRecDepth 20000 in
theorem gX5_witness_X4_refresh : GoodIn wsX5_witness (wsV RX5 97 RX4 yX4_refresh wsX4_refresh) := goodIn_app (goodIn_of _ (by decide +kernel)) ggX5_witness_X4_refresh
set_option maxRecDepth 20000 in
theorem ggX5_witness_X5_leastWitness : GoodIn wsX5_witness wsX5_leastWitness := goodIn_r _ [103, 104, 105, 106, 107, 108, 35, 109, 1, 110, 111, 112, 113, 114, 115, 116, 31, 117, 118, 119, 120, 121, 122, 123, 124, 125, 126, 127, 128, 129, 130, 131, 132, 133, 134, 135, 136, 38, 39, 40, 41, 42, 34, 36, 137, 138, 139, 70, 71, 72, 73, 63, 64, 140, 75, 76, 77, 141, 142, 143, 144, 145, 146, 147, 148, 29, 30, 32, 33, 149, 58, 59, 60, 61, 62, 150, 66, 67, 68, 151, 152, 153, 45, 154, 155, 156, 157, 158, 159, 160, 165, 166, 167, 168, 169, 170, 171, 172, 173, 174, 175, 176, 177, 178, 179, 180, 181, 182, 183, 184, 185, 186, 187, 188, 189, 190] (by decide +kernel) (by decide +kernel)
set_option maxRecDepth 20000 in
theorem gX5_witness_X5_leastWitness : GoodIn wsX5_witness (wsV RX5 154 RX5 yX5_leastWitness wsX5_leastWitness) := goodIn_app (goodIn_of _ (by decide +kernel)) ggX5_witness_X5_leastWitness
set_option maxRecDepth 20000 in
theorem ggX5_witness_X5_greatestWitness : GoodIn wsX5_witness wsX5_greatestWitness := goodIn_r _ [164, 112, 105, 104, 114, 115, 116, 31, 117, 118, 106, 107, 108, 35, 109, 1, 110, 111, 113, 119, 120, 121, 122, 123, 124, 125, 126, 127, 128, 129, 130, 131, 132, 133, 134, 135, 136, 38, 39, 40, 41, 42, 34, 36, 137, 138, 139, 70, 71, 72, 73, 63, 64, 140, 75, 76, 77, 141, 142, 143, 144, 145, 146, 147, 148, 29, 30, 32, 33, 149, 58, 59, 60, 61, 62, 150, 66, 67, 68, 151, 152, 153, 45, 154, 155, 156, 157, 158, 159, 160, 165, 166, 167, 168, 180, 181, 182, 183, 184, 185, 186, 187, 188, 169, 170, 171, 172, 173, 174, 175, 176, 177, 178, 179, 189, 190] (by decide +kernel) (by decide +kernel)
set_option maxRecDepth 20000 in
theorem gX5_witness_X5_greatestWitness : GoodIn wsX5_witness (wsV RX5 158 RX5 yX5_greatestWitness wsX5_greatestWitness) := goodIn_app (goodIn_of _ (by decide +kernel)) ggX5_witness_X5_greatestWitness
theorem dX5_witness_0 : decode cX5_witness 0 = .ok (.aload_n 0, 1) := by decide +kernel
theorem dX5_witness_1 : decode cX5_witness 1 = .ok (.getfield 34, 3) := by decide +kernel
theorem dX5_witness_4 : decode cX5_witness 4 = .ok (.invokevirtual 97, 3) := by decide +kernel
theorem dX5_witness_7 : decode cX5_witness 7 = .ok (.iload_n 1, 1) := by decide +kernel
theorem dX5_witness_8 : decode cX5_witness 8 = .ok (.lookupswitch 38 #[(0, 28), (1, 33)], 28) := by decide +kernel
theorem dX5_witness_36 : decode cX5_witness 36 = .ok (.aload_n 0, 1) := by decide +kernel
theorem dX5_witness_37 : decode cX5_witness 37 = .ok (.invokevirtual 154, 3) := by decide +kernel
theorem dX5_witness_40 : decode cX5_witness 40 = .ok (.ireturn, 1) := by decide +kernel
theorem dX5_witness_41 : decode cX5_witness 41 = .ok (.aload_n 0, 1) := by decide +kernel
theorem dX5_witness_42 : decode cX5_witness 42 = .ok (.invokevirtual 158, 3) := by decide +kernel
theorem dX5_witness_45 : decode cX5_witness 45 = .ok (.ireturn, 1) := by decide +kernel
theorem dX5_witness_46 : decode cX5_witness 46 = .ok (.iconst (-1), 1) := by decide +kernel
theorem dX5_witness_47 : decode cX5_witness 47 = .ok (.ireturn, 1) := by decide +kernel
set_option maxRecDepth 20000 in
theorem ggX5_check_X4_refresh : GoodIn wsX5_check wsX4_refresh := goodIn_r _ [6, 7, 8, 9, 10, 11, 12, 5, 13, 14, 15, 16, 17, 18, 19, 20, 21, 22, 23, 24, 25, 26, 27, 28, 29, 30, 31, 32, 33, 34, 35, 36, 37, 38, 39, 40, 41, 42, 43, 44, 45, 46, 47, 48, 49, 50, 51, 52, 53, 54, 55, 56, 57, 58, 59, 60, 61, 62, 63, 64, 65, 66, 67, 68, 69, 70, 71, 72, 73, 74, 75, 76, 77, 78, 79, 80, 81, 82, 83, 84, 85, 86, 87, 88, 89, 90, 91, 92, 93, 94, 95, 96, 97, 98, 99, 198, 199, 200, 201, 202, 203, 204, 205, 206, 207, 208, 209, 210, 211, 212, 213, 214, 215, 216, 217] (by decide +kernel) (by decide +kernel)
set_option maxRecDepth 20000 in
theorem gX5_check_X4_refresh : GoodIn wsX5_check (wsV RX5 97 RX4 yX4_refresh wsX4_refresh) := goodIn_app (goodIn_of _ (by decide +kernel)) ggX5_check_X4_refresh
set_option maxRecDepth 20000 in
theorem ggX5_check_X5_dearestAreSuch : GoodIn wsX5_check wsX5_dearestAreSuch := goodIn_r _ [103, 1, 104, 105, 106, 107, 108, 35, 109, 110, 111, 112, 113, 114, 115, 116, 117, 118, 119, 120, 121, 122, 123, 124, 125, 126, 127, 38, 39, 31, 40, 41, 42, 34, 36, 128, 129, 130, 70, 71, 72, 73, 63, 64, 131, 75, 76, 77, 132, 133, 134, 135, 136, 137, 138, 139, 29, 30, 32, 33, 140, 58, 59, 60, 61, 62, 141, 66, 67, 68, 142, 83, 45, 84, 85, 86, 87, 143, 144, 194, 195, 196, 197, 198, 199, 200, 201, 202, 203, 204, 205, 206, 207, 208, 218, 219, 209, 210, 211, 212, 213, 214, 215, 216, 217] (by decide +kernel) (by decide +kernel)
set_option maxRecDepth 20000 in
theorem gX5_check_X5_dearestAreSuch : GoodIn wsX5_check (wsV RX5 161 RX5 yX5_dearestAreSuch wsX5_dearestAreSuch) := goodIn_app (goodIn_of _ (by decide +kernel)) ggX5_check_X5_dearestAreSuch
set_option maxRecDepth 20000 in
theorem ggX5_check_X5_gainsNeverRise : GoodIn wsX5_check wsX5_gainsNeverRise := goodIn_r _ [148, 1, 104, 149, 194, 195, 196, 197, 198, 199, 200, 201, 202, 203, 204, 205, 206, 207, 208] (by decide +kernel) (by decide +kernel)
set_option maxRecDepth 20000 in
theorem gX5_check_X5_gainsNeverRise : GoodIn wsX5_check (wsV RX5 165 RX5 yX5_gainsNeverRise wsX5_gainsNeverRise) := goodIn_app (goodIn_of _ (by decide +kernel)) ggX5_check_X5_gainsNeverRise
set_option maxRecDepth 20000 in
theorem ggX5_check_X5_leastWitness : GoodIn wsX5_check wsX5_leastWitness := goodIn_r _ [153, 110, 111, 154, 155, 156, 35, 157, 1, 105, 104, 158, 159, 160, 161, 162, 31, 163, 164, 165, 166, 167, 168, 116, 169, 170, 171, 118, 119, 120, 121, 122, 123, 124, 125, 126, 127, 38, 39, 40, 41, 42, 34, 36, 128, 129, 130, 70, 71, 72, 73, 63, 64, 131, 75, 76, 77, 132, 133, 134, 135, 136, 137, 138, 139, 29, 30, 32, 33, 140, 58, 59, 60, 61, 62, 141, 66, 67, 68, 172, 173, 174, 45, 175, 176, 177, 178, 179, 180, 181, 194, 195, 196, 197, 198, 199, 200, 201, 202, 203, 204, 205, 206, 207, 208, 209, 210, 211, 212, 213, 214, 215, 216, 217, 218, 219] (by decide +kernel) (by decide +kernel)
set_option maxRecDepth 20000 in
theorem gX5_check_X5_leastWitness : GoodIn wsX5_check (wsV RX5 154 RX5 yX5_leastWitness wsX5_leastWitness) := goodIn_app (goodIn_of _ (by decide +kernel)) ggX5_check_X5_leastWitness
set_option maxRecDepth 20000 in
theorem ggX5_check_X5_isWitness : GoodIn wsX5_check wsX5_isWitness := goodIn_r _ [185, 158, 110, 111, 1, 104, 160, 161, 162, 31, 163, 164, 186, 119, 120, 121, 122, 123, 124, 125, 126, 127, 38, 39, 40, 41, 42, 34, 35, 36, 128, 129, 130, 70, 71, 72, 73, 63, 64, 131, 75, 76, 77, 132, 133, 134, 135, 136, 137, 138, 139, 29, 30, 32, 33, 140, 58, 59, 60, 61, 62, 141, 66, 67, 68, 194, 195, 196, 197, 198, 199, 200, 201, 202, 203, 204, 205, 206, 207, 208, 209, 210, 211, 212, 213, 214, 215, 216, 217, 218, 219] (by decide +kernel) (by decide +kernel)
set_option maxRecDepth 20000 in
theorem gX5_check_X5_isWitness : GoodIn wsX5_check (wsV RX5 168 RX5 yX5_isWitness wsX5_isWitness) := goodIn_app (goodIn_of _ (by decide +kernel)) ggX5_check_X5_isWitness
set_option maxRecDepth 20000 in
theorem ggX5_check_X5_greatestWitness : GoodIn wsX5_check wsX5_greatestWitness := goodIn_r _ [190, 158, 111, 110, 160, 161, 162, 31, 163, 164, 154, 155, 156, 35, 157, 1, 105, 104, 159, 165, 166, 167, 168, 116, 169, 170, 171, 118, 119, 120, 121, 122, 123, 124, 125, 126, 127, 38, 39, 40, 41, 42, 34, 36, 128, 129, 130, 70, 71, 72, 73, 63, 64, 131, 75, 76, 77, 132, 133, 134, 135, 136, 137, 138, 139, 29, 30, 32, 33, 140, 58, 59, 60, 61, 62, 141, 66, 67, 68, 172, 173, 174, 45, 175, 176, 177, 178, 179, 180, 181, 194, 195, 196, 197, 209, 210, 211, 212, 213, 214, 215, 216, 217, 198, 199, 200, 201, 202, 203, 204, 205, 206, 207, 208, 218, 219] (by decide +kernel) (by decide +kernel)
set_option maxRecDepth 20000 in
theorem gX5_check_X5_greatestWitness : GoodIn wsX5_check (wsV RX5 158 RX5 yX5_greatestWitness wsX5_greatestWitness) := goodIn_app (goodIn_of _ (by decide +kernel)) ggX5_check_X5_greatestWitness
set_option maxRecDepth 20000 in
theorem ggX5_check_X5_told : GoodIn wsX5_check wsX5_told := goodIn_r _ [193] (by decide +kernel) (by decide +kernel)
set_option maxRecDepth 20000 in
theorem gX5_check_X5_told : GoodIn wsX5_check (va_wsS RX5 122 yX5_told wsX5_told) := goodIn_app (goodIn_of _ (by decide +kernel)) ggX5_check_X5_told
theorem dX5_check_0 : decode cX5_check 0 = .ok (.aload_n 0, 1) := by decide +kernel
theorem dX5_check_1 : decode cX5_check 1 = .ok (.getfield 34, 3) := by decide +kernel
theorem dX5_check_4 : decode cX5_check 4 = .ok (.invokevirtual 97, 3) := by decide +kernel
theorem dX5_check_7 : decode cX5_check 7 = .ok (.aload_n 0, 1) := by decide +kernel
theorem dX5_check_8 : decode cX5_check 8 = .ok (.invokevirtual 161, 3) := by decide +kernel
theorem dX5_check_11 : decode cX5_check 11 = .ok (.ifCond .eq 36, 3) := by decide +kernel
theorem dX5_check_14 : decode cX5_check 14 = .ok (.aload_n 0, 1) := by decide +kernel
theorem dX5_check_15 : decode cX5_check 15 = .ok (.invokevirtual 165, 3) := by decide +kernel
theorem dX5_check_18 : decode cX5_check 18 = .ok (.ifCond .eq 29, 3) := by decide +kernel
theorem dX5_check_21 : decode cX5_check 21 = .ok (.aload_n 0, 1) := by decide +kernel
theorem dX5_check_22 : decode cX5_check 22 = .ok (.aload_n 0, 1) := by decide +kernel
theorem dX5_check_23 : decode cX5_check 23 = .ok (.invokevirtual 154, 3) := by decide +kernel
theorem dX5_check_26 : decode cX5_check 26 = .ok (.invokevirtual 168, 3) := by decide +kernel
theorem dX5_check_29 : decode cX5_check 29 = .ok (.ifCond .eq 18, 3) := by decide +kernel
theorem dX5_check_32 : decode cX5_check 32 = .ok (.aload_n 0, 1) := by decide +kernel
theorem dX5_check_33 : decode cX5_check 33 = .ok (.aload_n 0, 1) := by decide +kernel
theorem dX5_check_34 : decode cX5_check 34 = .ok (.invokevirtual 158, 3) := by decide +kernel
theorem dX5_check_37 : decode cX5_check 37 = .ok (.invokevirtual 168, 3) := by decide +kernel
theorem dX5_check_40 : decode cX5_check 40 = .ok (.ifCond .eq 7, 3) := by decide +kernel
theorem dX5_check_43 : decode cX5_check 43 = .ok (.iconst 1, 1) := by decide +kernel
theorem dX5_check_44 : decode cX5_check 44 = .ok (.goto 4, 3) := by decide +kernel
theorem dX5_check_47 : decode cX5_check 47 = .ok (.iconst 0, 1) := by decide +kernel
theorem dX5_check_48 : decode cX5_check 48 = .ok (.istore_n 1, 1) := by decide +kernel
theorem dX5_check_49 : decode cX5_check 49 = .ok (.iload_n 1, 1) := by decide +kernel
theorem dX5_check_50 : decode cX5_check 50 = .ok (.invokestatic 122, 3) := by decide +kernel
theorem dX5_check_53 : decode cX5_check 53 = .ok (.ireturn, 1) := by decide +kernel
theorem dX5_told_0 : decode cX5_told 0 = .ok (.iload_n 0, 1) := by decide +kernel
theorem dX5_told_1 : decode cX5_told 1 = .ok (.ifCond .eq 7, 3) := by decide +kernel
theorem dX5_told_4 : decode cX5_told 4 = .ok (.iconst 1, 1) := by decide +kernel
theorem dX5_told_5 : decode cX5_told 5 = .ok (.goto 4, 3) := by decide +kernel
theorem dX5_told_8 : decode cX5_told 8 = .ok (.iconst 0, 1) := by decide +kernel
theorem dX5_told_9 : decode cX5_told 9 = .ok (.ireturn, 1) := by decide +kernel
theorem dX5_within_0 : decode cX5_within 0 = .ok (.iload_n 1, 1) := by decide +kernel
theorem dX5_within_1 : decode cX5_within 1 = .ok (.iload_n 0, 1) := by decide +kernel
theorem dX5_within_2 : decode cX5_within 2 = .ok (.if_icmp .gt 12, 3) := by decide +kernel
theorem dX5_within_5 : decode cX5_within 5 = .ok (.iload_n 0, 1) := by decide +kernel
theorem dX5_within_6 : decode cX5_within 6 = .ok (.iload_n 2, 1) := by decide +kernel
theorem dX5_within_7 : decode cX5_within 7 = .ok (.if_icmp .gt 7, 3) := by decide +kernel
theorem dX5_within_10 : decode cX5_within 10 = .ok (.iconst 1, 1) := by decide +kernel
theorem dX5_within_11 : decode cX5_within 11 = .ok (.goto 4, 3) := by decide +kernel
theorem dX5_within_14 : decode cX5_within 14 = .ok (.iconst 0, 1) := by decide +kernel
theorem dX5_within_15 : decode cX5_within 15 = .ok (.ireturn, 1) := by decide +kernel
set_option maxRecDepth 20000 in
theorem ggX5_isWeight_X5_within : GoodIn wsX5_isWeight wsX5_within := goodIn_r _ [4] (by decide +kernel) (by decide +kernel)
set_option maxRecDepth 20000 in
theorem gX5_isWeight_X5_within : GoodIn wsX5_isWeight (va_wsS RX5 38 yX5_within wsX5_within) := goodIn_app (goodIn_of _ (by decide +kernel)) ggX5_isWeight_X5_within
theorem dX5_isWeight_0 : decode cX5_isWeight 0 = .ok (.iload_n 0, 1) := by decide +kernel
theorem dX5_isWeight_1 : decode cX5_isWeight 1 = .ok (.sipush (-9999), 3) := by decide +kernel
theorem dX5_isWeight_4 : decode cX5_isWeight 4 = .ok (.sipush 9999, 3) := by decide +kernel
theorem dX5_isWeight_7 : decode cX5_isWeight 7 = .ok (.invokestatic 38, 3) := by decide +kernel
theorem dX5_isWeight_10 : decode cX5_isWeight 10 = .ok (.ireturn, 1) := by decide +kernel
theorem dX5_hasBit_0 : decode cX5_hasBit 0 = .ok (.iload_n 0, 1) := by decide +kernel
theorem dX5_hasBit_1 : decode cX5_hasBit 1 = .ok (.iload_n 1, 1) := by decide +kernel
theorem dX5_hasBit_2 : decode cX5_hasBit 2 = .ok (.iushr, 1) := by decide +kernel
theorem dX5_hasBit_3 : decode cX5_hasBit 3 = .ok (.iconst 1, 1) := by decide +kernel
theorem dX5_hasBit_4 : decode cX5_hasBit 4 = .ok (.iand, 1) := by decide +kernel
theorem dX5_hasBit_5 : decode cX5_hasBit 5 = .ok (.iconst 1, 1) := by decide +kernel
theorem dX5_hasBit_6 : decode cX5_hasBit 6 = .ok (.if_icmp .ne 7, 3) := by decide +kernel
theorem dX5_hasBit_9 : decode cX5_hasBit 9 = .ok (.iconst 1, 1) := by decide +kernel
theorem dX5_hasBit_10 : decode cX5_hasBit 10 = .ok (.goto 4, 3) := by decide +kernel
theorem dX5_hasBit_13 : decode cX5_hasBit 13 = .ok (.iconst 0, 1) := by decide +kernel
theorem dX5_hasBit_14 : decode cX5_hasBit 14 = .ok (.ireturn, 1) := by decide +kernel
theorem dX5_cell_0 : decode cX5_cell 0 = .ok (.iload_n 0, 1) := by decide +kernel
theorem dX5_cell_1 : decode cX5_cell 1 = .ok (.iconst 4, 1) := by decide +kernel
theorem dX5_cell_2 : decode cX5_cell 2 = .ok (.iload_n 1, 1) := by decide +kernel
theorem dX5_cell_3 : decode cX5_cell 3 = .ok (.imul, 1) := by decide +kernel
theorem dX5_cell_4 : decode cX5_cell 4 = .ok (.iushr, 1) := by decide +kernel
theorem dX5_cell_5 : decode cX5_cell 5 = .ok (.bipush 15, 2) := by decide +kernel
theorem dX5_cell_7 : decode cX5_cell 7 = .ok (.iand, 1) := by decide +kernel
theorem dX5_cell_8 : decode cX5_cell 8 = .ok (.ireturn, 1) := by decide +kernel
theorem dX5_withCell_0 : decode cX5_withCell 0 = .ok (.iconst 4, 1) := by decide +kernel
theorem dX5_withCell_1 : decode cX5_withCell 1 = .ok (.iload_n 1, 1) := by decide +kernel
theorem dX5_withCell_2 : decode cX5_withCell 2 = .ok (.imul, 1) := by decide +kernel
theorem dX5_withCell_3 : decode cX5_withCell 3 = .ok (.istore_n 3, 1) := by decide +kernel
theorem dX5_withCell_4 : decode cX5_withCell 4 = .ok (.iload_n 0, 1) := by decide +kernel
theorem dX5_withCell_5 : decode cX5_withCell 5 = .ok (.bipush 15, 2) := by decide +kernel
theorem dX5_withCell_7 : decode cX5_withCell 7 = .ok (.iload_n 3, 1) := by decide +kernel
theorem dX5_withCell_8 : decode cX5_withCell 8 = .ok (.ishl, 1) := by decide +kernel
theorem dX5_withCell_9 : decode cX5_withCell 9 = .ok (.iconst (-1), 1) := by decide +kernel
theorem dX5_withCell_10 : decode cX5_withCell 10 = .ok (.ixor, 1) := by decide +kernel
theorem dX5_withCell_11 : decode cX5_withCell 11 = .ok (.iand, 1) := by decide +kernel
theorem dX5_withCell_12 : decode cX5_withCell 12 = .ok (.iload_n 2, 1) := by decide +kernel
theorem dX5_withCell_13 : decode cX5_withCell 13 = .ok (.iload_n 3, 1) := by decide +kernel
theorem dX5_withCell_14 : decode cX5_withCell 14 = .ok (.ishl, 1) := by decide +kernel
theorem dX5_withCell_15 : decode cX5_withCell 15 = .ok (.ior, 1) := by decide +kernel
theorem dX5_withCell_16 : decode cX5_withCell 16 = .ok (.ireturn, 1) := by decide +kernel
theorem dX5_judgeOf_0 : decode cX5_judgeOf 0 = .ok (.iload_n 1, 1) := by decide +kernel
theorem dX5_judgeOf_1 : decode cX5_judgeOf 1 = .ok (.lookupswitch 37 #[(0, 27), (1, 32)], 27) := by decide +kernel
theorem dX5_judgeOf_28 : decode cX5_judgeOf 28 = .ok (.aload_n 0, 1) := by decide +kernel
theorem dX5_judgeOf_29 : decode cX5_judgeOf 29 = .ok (.getfield 21, 3) := by decide +kernel
theorem dX5_judgeOf_32 : decode cX5_judgeOf 32 = .ok (.areturn, 1) := by decide +kernel
theorem dX5_judgeOf_33 : decode cX5_judgeOf 33 = .ok (.aload_n 0, 1) := by decide +kernel
theorem dX5_judgeOf_34 : decode cX5_judgeOf 34 = .ok (.getfield 28, 3) := by decide +kernel
theorem dX5_judgeOf_37 : decode cX5_judgeOf 37 = .ok (.areturn, 1) := by decide +kernel
theorem dX5_judgeOf_38 : decode cX5_judgeOf 38 = .ok (.aconst_null, 1) := by decide +kernel
theorem dX5_judgeOf_39 : decode cX5_judgeOf 39 = .ok (.areturn, 1) := by decide +kernel
set_option maxRecDepth 20000 in
theorem ggX5_isCommon_X1_allows : GoodIn wsX5_isCommon wsX1_allows := goodIn_r _ [8, 9, 10, 11, 12, 13, 14, 15, 16, 17, 18, 19, 20, 21, 22, 23, 24, 25, 26, 27, 28, 29, 30, 31, 32, 33, 34, 35, 36, 37, 38, 39, 40, 41, 42, 43, 44, 45, 46, 47, 48, 49, 50, 51, 52, 53, 54, 55, 56, 57, 58, 59, 60, 61, 62, 63, 64, 65, 66, 67, 68, 69, 75, 76, 77, 78, 79, 80, 81, 82, 83, 84, 85] (by decide +kernel) (by decide +kernel)
set_option maxRecDepth 20000 in
theorem gX5_isCommon_X1_allows_u126X2 : GoodIn wsX5_isCommon (va_wsU RX5 126 RX2 "ColourForests$Kind" ⟨"ColourForests$Kind", "allows", "(I)Z"⟩ yX1_allows wsX1_allows) := goodIn_app (goodIn_of _ (by decide +kernel)) ggX5_isCommon_X1_allows
set_option maxRecDepth 20000 in
theorem gX5_isCommon_X1_allows_u126X3 : GoodIn wsX5_isCommon (va_wsU RX5 126 RX3 "ColourForests$Kind" ⟨"ColourForests$Kind", "allows", "(I)Z"⟩ yX1_allows wsX1_allows) := goodIn_app (goodIn_of _ (by decide +kernel)) ggX5_isCommon_X1_allows
theorem dX5_isCommon_0 : decode cX5_isCommon 0 = .ok (.aload_n 0, 1) := by decide +kernel
theorem dX5_isCommon_1 : decode cX5_isCommon 1 = .ok (.getfield 21, 3) := by decide +kernel
theorem dX5_isCommon_4 : decode cX5_isCommon 4 = .ok (.iload_n 1, 1) := by decide +kernel
theorem dX5_isCommon_5 : decode cX5_isCommon 5 = .ok (.invokevirtual 126, 3) := by decide +kernel
theorem dX5_isCommon_8 : decode cX5_isCommon 8 = .ok (.ifCond .eq 18, 3) := by decide +kernel
theorem dX5_isCommon_11 : decode cX5_isCommon 11 = .ok (.aload_n 0, 1) := by decide +kernel
theorem dX5_isCommon_12 : decode cX5_isCommon 12 = .ok (.getfield 28, 3) := by decide +kernel
theorem dX5_isCommon_15 : decode cX5_isCommon 15 = .ok (.iload_n 1, 1) := by decide +kernel
theorem dX5_isCommon_16 : decode cX5_isCommon 16 = .ok (.invokevirtual 126, 3) := by decide +kernel
theorem dX5_isCommon_19 : decode cX5_isCommon 19 = .ok (.ifCond .eq 7, 3) := by decide +kernel
theorem dX5_isCommon_22 : decode cX5_isCommon 22 = .ok (.iconst 1, 1) := by decide +kernel
theorem dX5_isCommon_23 : decode cX5_isCommon 23 = .ok (.goto 4, 3) := by decide +kernel
theorem dX5_isCommon_26 : decode cX5_isCommon 26 = .ok (.iconst 0, 1) := by decide +kernel
theorem dX5_isCommon_27 : decode cX5_isCommon 27 = .ok (.ireturn, 1) := by decide +kernel
set_option maxRecDepth 20000 in
theorem ggX5_isWitness_X0_allEdges : GoodIn wsX5_isWitness wsX0_allEdges := goodIn_r _ [10, 11, 80, 81, 82, 83, 84, 85, 86, 87, 88] (by decide +kernel) (by decide +kernel)
set_option maxRecDepth 20000 in
theorem gX5_isWitness_X0_allEdges : GoodIn wsX5_isWitness (wsV RX5 171 RX0 yX0_allEdges wsX0_allEdges) := goodIn_app (goodIn_of _ (by decide +kernel)) ggX5_isWitness_X0_allEdges
set_option maxRecDepth 20000 in
theorem ggX5_isWitness_X2_rankOf : GoodIn wsX5_isWitness wsX2_rankOf := goodIn_r _ [17, 18, 19, 20, 21, 22, 23, 9, 24, 25, 26, 27, 28, 29, 30, 31, 32, 33, 34, 35, 36, 37, 38, 39, 40, 41, 42, 89, 90, 80, 81, 82, 83, 84, 85, 86, 87, 88] (by decide +kernel) (by decide +kernel)
set_option maxRecDepth 20000 in
theorem gX5_isWitness_X2_rankOf_u113X2 : GoodIn wsX5_isWitness (va_wsU RX5 113 RX2 "ColourForests$Kind" ⟨"ColourForests$Kind", "rankOf", "(I)I"⟩ yX2_rankOf wsX2_rankOf) := goodIn_app (goodIn_of _ (by decide +kernel)) ggX5_isWitness_X2_rankOf
set_option maxRecDepth 20000 in
theorem ggX5_isWitness_X3_rankOf : GoodIn wsX5_isWitness wsX3_rankOf := goodIn_r _ [46, 47, 48, 49, 50, 51, 52, 9, 53, 54, 27, 28, 29, 30, 31, 55, 56, 57, 58, 59, 60, 37, 38, 61, 62, 63, 64, 89, 90, 80, 81, 82, 83, 84, 85, 86, 87, 88] (by decide +kernel) (by decide +kernel)
set_option maxRecDepth 20000 in
theorem gX5_isWitness_X3_rankOf_u113X3 : GoodIn wsX5_isWitness (va_wsU RX5 113 RX3 "ColourForests$Kind" ⟨"ColourForests$Kind", "rankOf", "(I)I"⟩ yX3_rankOf wsX3_rankOf) := goodIn_app (goodIn_of _ (by decide +kernel)) ggX5_isWitness_X3_rankOf
theorem dX5_isWitness_0 : decode cX5_isWitness 0 = .ok (.aload_n 0, 1) := by decide +kernel
theorem dX5_isWitness_1 : decode cX5_isWitness 1 = .ok (.getfield 10, 3) := by decide +kernel
theorem dX5_isWitness_4 : decode cX5_isWitness 4 = .ok (.invokevirtual 171, 3) := by decide +kernel
theorem dX5_isWitness_7 : decode cX5_isWitness 7 = .ok (.iload_n 1, 1) := by decide +kernel
theorem dX5_isWitness_8 : decode cX5_isWitness 8 = .ok (.iconst (-1), 1) := by decide +kernel
theorem dX5_isWitness_9 : decode cX5_isWitness 9 = .ok (.ixor, 1) := by decide +kernel
theorem dX5_isWitness_10 : decode cX5_isWitness 10 = .ok (.iand, 1) := by decide +kernel
theorem dX5_isWitness_11 : decode cX5_isWitness 11 = .ok (.istore_n 2, 1) := by decide +kernel
theorem dX5_isWitness_12 : decode cX5_isWitness 12 = .ok (.aload_n 0, 1) := by decide +kernel
theorem dX5_isWitness_13 : decode cX5_isWitness 13 = .ok (.getfield 21, 3) := by decide +kernel
theorem dX5_isWitness_16 : decode cX5_isWitness 16 = .ok (.iload_n 1, 1) := by decide +kernel
theorem dX5_isWitness_17 : decode cX5_isWitness 17 = .ok (.invokevirtual 113, 3) := by decide +kernel
theorem dX5_isWitness_20 : decode cX5_isWitness 20 = .ok (.aload_n 0, 1) := by decide +kernel
theorem dX5_isWitness_21 : decode cX5_isWitness 21 = .ok (.getfield 28, 3) := by decide +kernel
theorem dX5_isWitness_24 : decode cX5_isWitness 24 = .ok (.iload_n 2, 1) := by decide +kernel
theorem dX5_isWitness_25 : decode cX5_isWitness 25 = .ok (.invokevirtual 113, 3) := by decide +kernel
theorem dX5_isWitness_28 : decode cX5_isWitness 28 = .ok (.iadd, 1) := by decide +kernel
theorem dX5_isWitness_29 : decode cX5_isWitness 29 = .ok (.aload_n 0, 1) := by decide +kernel
theorem dX5_isWitness_30 : decode cX5_isWitness 30 = .ok (.getfield 34, 3) := by decide +kernel
theorem dX5_isWitness_33 : decode cX5_isWitness 33 = .ok (.getfield 139, 3) := by decide +kernel
theorem dX5_isWitness_36 : decode cX5_isWitness 36 = .ok (.if_icmp .ne 7, 3) := by decide +kernel
theorem dX5_isWitness_39 : decode cX5_isWitness 39 = .ok (.iconst 1, 1) := by decide +kernel
theorem dX5_isWitness_40 : decode cX5_isWitness 40 = .ok (.goto 4, 3) := by decide +kernel
theorem dX5_isWitness_43 : decode cX5_isWitness 43 = .ok (.iconst 0, 1) := by decide +kernel
theorem dX5_isWitness_44 : decode cX5_isWitness 44 = .ok (.ireturn, 1) := by decide +kernel
set_option maxRecDepth 20000 in
theorem ggX5_leastWitness_X5_leastSplit : GoodIn wsX5_leastWitness wsX5_leastSplit := goodIn_r _ [7, 8, 9, 10, 11, 12, 13, 14, 15, 16, 17, 18, 19, 20, 21, 22, 23, 24, 25, 26, 27, 28, 29, 30, 31, 32, 33, 34, 35, 36, 37, 38, 39, 40, 41, 42, 6, 43, 44, 45, 46, 47, 48, 49, 50, 51, 52, 53, 54, 55, 56, 57, 58, 59, 60, 61, 62, 63, 64, 65, 66, 67, 68, 69, 70, 71, 72, 73, 74, 75, 76, 77, 78, 79, 80, 81, 82, 83, 84, 85, 86, 87, 88, 89, 90, 91, 92, 93, 94, 95, 96, 97, 98, 99, 100, 101, 102, 103, 104, 105, 106, 107, 108, 109, 110, 111, 112, 113, 114, 115] (by decide +kernel) (by decide +kernel)
set_option maxRecDepth 20000 in
theorem gX5_leastWitness_X5_leastSplit : GoodIn wsX5_leastWitness (wsV RX5 174 RX5 yX5_leastSplit wsX5_leastSplit) := goodIn_app (goodIn_of _ (by decide +kernel)) ggX5_leastWitness_X5_leastSplit
theorem dX5_leastWitness_0 : decode cX5_leastWitness 0 = .ok (.aload_n 0, 1) := by decide +kernel
theorem dX5_leastWitness_1 : decode cX5_leastWitness 1 = .ok (.aload_n 0, 1) := by decide +kernel
theorem dX5_leastWitness_2 : decode cX5_leastWitness 2 = .ok (.getfield 21, 3) := by decide +kernel
theorem dX5_leastWitness_5 : decode cX5_leastWitness 5 = .ok (.aload_n 0, 1) := by decide +kernel
theorem dX5_leastWitness_6 : decode cX5_leastWitness 6 = .ok (.getfield 28, 3) := by decide +kernel
theorem dX5_leastWitness_9 : decode cX5_leastWitness 9 = .ok (.invokevirtual 174, 3) := by decide +kernel
theorem dX5_leastWitness_12 : decode cX5_leastWitness 12 = .ok (.ireturn, 1) := by decide +kernel
set_option maxRecDepth 20000 in
theorem ggX5_greatestWitness_X0_allEdges : GoodIn wsX5_greatestWitness wsX0_allEdges := goodIn_r _ [8, 9, 94, 95, 96, 97, 98, 99, 100, 101, 102] (by decide +kernel) (by decide +kernel)
set_option maxRecDepth 20000 in
theorem gX5_greatestWitness_X0_allEdges : GoodIn wsX5_greatestWitness (wsV RX5 171 RX0 yX0_allEdges wsX0_allEdges) := goodIn_app (goodIn_of _ (by decide +kernel)) ggX5_greatestWitness_X0_allEdges
set_option maxRecDepth 20000 in
theorem ggX5_greatestWitness_X5_leastSplit : GoodIn wsX5_greatestWitness wsX5_leastSplit := goodIn_r _ [14, 15, 16, 17, 1, 18, 4, 5, 6, 7, 8, 9, 19, 20, 21, 22, 23, 24, 25, 26, 27, 28, 29, 30, 31, 32, 33, 34, 35, 36, 37, 38, 39, 40, 41, 42, 13, 43, 44, 45, 46, 47, 48, 49, 50, 51, 52, 53, 54, 55, 56, 57, 58, 59, 60, 61, 62, 63, 64, 65, 66, 67, 68, 69, 70, 71, 72, 73, 74, 75, 76, 77, 78, 79, 80, 81, 82, 83, 84, 85, 86, 87, 88, 89, 90, 91, 92, 93, 103, 104, 105, 106, 107, 108, 109, 110, 111, 112, 113, 94, 95, 96, 97, 98, 99, 100, 101, 102, 114, 115] (by decide +kernel) (by decide +kernel)
set_option maxRecDepth 20000 in
theorem gX5_greatestWitness_X5_leastSplit : GoodIn wsX5_greatestWitness (wsV RX5 174 RX5 yX5_leastSplit wsX5_leastSplit) := goodIn_app (goodIn_of _ (by decide +kernel)) ggX5_greatestWitness_X5_leastSplit
theorem dX5_greatestWitness_0 : decode cX5_greatestWitness 0 = .ok (.aload_n 0, 1) := by decide +kernel
theorem dX5_greatestWitness_1 : decode cX5_greatestWitness 1 = .ok (.getfield 10, 3) := by decide +kernel
theorem dX5_greatestWitness_4 : decode cX5_greatestWitness 4 = .ok (.invokevirtual 171, 3) := by decide +kernel
theorem dX5_greatestWitness_7 : decode cX5_greatestWitness 7 = .ok (.aload_n 0, 1) := by decide +kernel
theorem dX5_greatestWitness_8 : decode cX5_greatestWitness 8 = .ok (.aload_n 0, 1) := by decide +kernel
theorem dX5_greatestWitness_9 : decode cX5_greatestWitness 9 = .ok (.getfield 28, 3) := by decide +kernel
theorem dX5_greatestWitness_12 : decode cX5_greatestWitness 12 = .ok (.aload_n 0, 1) := by decide +kernel
theorem dX5_greatestWitness_13 : decode cX5_greatestWitness 13 = .ok (.getfield 21, 3) := by decide +kernel
theorem dX5_greatestWitness_16 : decode cX5_greatestWitness 16 = .ok (.invokevirtual 174, 3) := by decide +kernel
theorem dX5_greatestWitness_19 : decode cX5_greatestWitness 19 = .ok (.iconst (-1), 1) := by decide +kernel
theorem dX5_greatestWitness_20 : decode cX5_greatestWitness 20 = .ok (.ixor, 1) := by decide +kernel
theorem dX5_greatestWitness_21 : decode cX5_greatestWitness 21 = .ok (.iand, 1) := by decide +kernel
theorem dX5_greatestWitness_22 : decode cX5_greatestWitness 22 = .ok (.ireturn, 1) := by decide +kernel
set_option maxRecDepth 20000 in
theorem ggX5_leastSplit_X0_allEdges : GoodIn wsX5_leastSplit wsX0_allEdges := goodIn_r _ [10, 11, 99, 100, 101, 102, 103, 104, 105, 106, 107] (by decide +kernel) (by decide +kernel)
set_option maxRecDepth 20000 in
theorem gX5_leastSplit_X0_allEdges : GoodIn wsX5_leastSplit (wsV RX5 171 RX0 yX0_allEdges wsX0_allEdges) := goodIn_app (goodIn_of _ (by decide +kernel)) ggX5_leastSplit_X0_allEdges
set_option maxRecDepth 20000 in
theorem ggX5_leastSplit_X1_closureOf : GoodIn wsX5_leastSplit wsX1_closureOf := goodIn_r _ [17, 18, 19, 20, 21, 22, 23, 24, 25, 26, 27, 28, 29, 30, 31, 9, 32, 33, 34, 35, 36, 37, 38, 39, 40, 41, 42, 43, 44, 45, 46, 47, 48, 49, 50, 51, 52, 53, 54, 55, 56, 57, 58, 59, 60, 61, 62, 63, 64, 65, 66, 67, 68, 69, 70, 71, 72, 108, 109, 99, 100, 101, 102, 103, 104, 105, 106, 107] (by decide +kernel) (by decide +kernel)
set_option maxRecDepth 20000 in
theorem gX5_leastSplit_X1_closureOf_u136X2 : GoodIn wsX5_leastSplit (va_wsU RX5 136 RX2 "ColourForests$Kind" ⟨"ColourForests$Kind", "closureOf", "(I)I"⟩ yX1_closureOf wsX1_closureOf) := goodIn_app (goodIn_of _ (by decide +kernel)) ggX5_leastSplit_X1_closureOf
set_option maxRecDepth 20000 in
theorem gX5_leastSplit_X1_closureOf_u136X3 : GoodIn wsX5_leastSplit (va_wsU RX5 136 RX3 "ColourForests$Kind" ⟨"ColourForests$Kind", "closureOf", "(I)I"⟩ yX1_closureOf wsX1_closureOf) := goodIn_app (goodIn_of _ (by decide +kernel)) ggX5_leastSplit_X1_closureOf
set_option maxRecDepth 20000 in
theorem ggX5_leastSplit_J6_lowestOneBit_0f7a4 : GoodIn wsX5_leastSplit wsJ6_lowestOneBit_0f7a4 := goodIn_r _ [77] (by decide +kernel) (by decide +kernel)
set_option maxRecDepth 20000 in
theorem gX5_leastSplit_J6_lowestOneBit_0f7a4 : GoodIn wsX5_leastSplit (va_wsS RX5 178 yJ6_lowestOneBit_0f7a4 wsJ6_lowestOneBit_0f7a4) := goodIn_app (goodIn_of _ (by decide +kernel)) ggX5_leastSplit_J6_lowestOneBit_0f7a4
set_option maxRecDepth 20000 in
theorem ggX5_leastSplit_X1_circuitWithin : GoodIn wsX5_leastSplit wsX1_circuitWithin := goodIn_r _ [82, 18, 19, 20, 21, 22, 23, 24, 25, 26, 27, 28, 29, 30, 31, 9, 32, 33, 34, 35, 36, 37, 38, 39, 40, 41, 42, 43, 44, 45, 46, 47, 48, 49, 50, 51, 52, 53, 54, 55, 56, 57, 58, 59, 60, 61, 62, 63, 64, 65, 66, 67, 68, 69, 70, 71, 72, 108, 109, 99, 100, 101, 102, 103, 104, 105, 106, 107] (by decide +kernel) (by decide +kernel)
set_option maxRecDepth 20000 in
theorem gX5_leastSplit_X1_circuitWithin_u133X2 : GoodIn wsX5_leastSplit (va_wsU RX5 133 RX2 "ColourForests$Kind" ⟨"ColourForests$Kind", "circuitWithin", "(I)I"⟩ yX1_circuitWithin wsX1_circuitWithin) := goodIn_app (goodIn_of _ (by decide +kernel)) ggX5_leastSplit_X1_circuitWithin
set_option maxRecDepth 20000 in
theorem gX5_leastSplit_X1_circuitWithin_u133X3 : GoodIn wsX5_leastSplit (va_wsU RX5 133 RX3 "ColourForests$Kind" ⟨"ColourForests$Kind", "circuitWithin", "(I)I"⟩ yX1_circuitWithin wsX1_circuitWithin) := goodIn_app (goodIn_of _ (by decide +kernel)) ggX5_leastSplit_X1_circuitWithin
theorem dX5_leastSplit_0 : decode cX5_leastSplit 0 = .ok (.aload_n 0, 1) := by decide +kernel
theorem dX5_leastSplit_1 : decode cX5_leastSplit 1 = .ok (.getfield 34, 3) := by decide +kernel
theorem dX5_leastSplit_4 : decode cX5_leastSplit 4 = .ok (.getfield 145, 3) := by decide +kernel
theorem dX5_leastSplit_7 : decode cX5_leastSplit 7 = .ok (.aload_n 0, 1) := by decide +kernel
theorem dX5_leastSplit_8 : decode cX5_leastSplit 8 = .ok (.getfield 34, 3) := by decide +kernel
theorem dX5_leastSplit_11 : decode cX5_leastSplit 11 = .ok (.getfield 139, 3) := by decide +kernel
theorem dX5_leastSplit_14 : decode cX5_leastSplit 14 = .ok (.iaload, 1) := by decide +kernel
theorem dX5_leastSplit_15 : decode cX5_leastSplit 15 = .ok (.istore_n 3, 1) := by decide +kernel
theorem dX5_leastSplit_16 : decode cX5_leastSplit 16 = .ok (.iconst 0, 1) := by decide +kernel
theorem dX5_leastSplit_17 : decode cX5_leastSplit 17 = .ok (.istore 4, 2) := by decide +kernel
theorem dX5_leastSplit_19 : decode cX5_leastSplit 19 = .ok (.iconst 0, 1) := by decide +kernel
theorem dX5_leastSplit_20 : decode cX5_leastSplit 20 = .ok (.istore 5, 2) := by decide +kernel
theorem dX5_leastSplit_22 : decode cX5_leastSplit 22 = .ok (.iload 5, 2) := by decide +kernel
theorem dX5_leastSplit_24 : decode cX5_leastSplit 24 = .ok (.aload_n 0, 1) := by decide +kernel
theorem dX5_leastSplit_25 : decode cX5_leastSplit 25 = .ok (.getfield 10, 3) := by decide +kernel
theorem dX5_leastSplit_28 : decode cX5_leastSplit 28 = .ok (.getfield 63, 3) := by decide +kernel
theorem dX5_leastSplit_31 : decode cX5_leastSplit 31 = .ok (.if_icmp .ge 67, 3) := by decide +kernel
theorem dX5_leastSplit_34 : decode cX5_leastSplit 34 = .ok (.aload_n 0, 1) := by decide +kernel
theorem dX5_leastSplit_35 : decode cX5_leastSplit 35 = .ok (.getfield 10, 3) := by decide +kernel
theorem dX5_leastSplit_38 : decode cX5_leastSplit 38 = .ok (.invokevirtual 171, 3) := by decide +kernel
theorem dX5_leastSplit_41 : decode cX5_leastSplit 41 = .ok (.aload_n 2, 1) := by decide +kernel
theorem dX5_leastSplit_42 : decode cX5_leastSplit 42 = .ok (.iload_n 3, 1) := by decide +kernel
theorem dX5_leastSplit_43 : decode cX5_leastSplit 43 = .ok (.iload 4, 2) := by decide +kernel
theorem dX5_leastSplit_45 : decode cX5_leastSplit 45 = .ok (.iconst (-1), 1) := by decide +kernel
theorem dX5_leastSplit_46 : decode cX5_leastSplit 46 = .ok (.ixor, 1) := by decide +kernel
theorem dX5_leastSplit_47 : decode cX5_leastSplit 47 = .ok (.iand, 1) := by decide +kernel
theorem dX5_leastSplit_48 : decode cX5_leastSplit 48 = .ok (.invokevirtual 136, 3) := by decide +kernel
theorem dX5_leastSplit_51 : decode cX5_leastSplit 51 = .ok (.iconst (-1), 1) := by decide +kernel
theorem dX5_leastSplit_52 : decode cX5_leastSplit 52 = .ok (.ixor, 1) := by decide +kernel
theorem dX5_leastSplit_53 : decode cX5_leastSplit 53 = .ok (.iand, 1) := by decide +kernel
theorem dX5_leastSplit_54 : decode cX5_leastSplit 54 = .ok (.iload 4, 2) := by decide +kernel
theorem dX5_leastSplit_56 : decode cX5_leastSplit 56 = .ok (.iconst (-1), 1) := by decide +kernel
theorem dX5_leastSplit_57 : decode cX5_leastSplit 57 = .ok (.ixor, 1) := by decide +kernel
theorem dX5_leastSplit_58 : decode cX5_leastSplit 58 = .ok (.iand, 1) := by decide +kernel
theorem dX5_leastSplit_59 : decode cX5_leastSplit 59 = .ok (.istore 6, 2) := by decide +kernel
theorem dX5_leastSplit_61 : decode cX5_leastSplit 61 = .ok (.iload 6, 2) := by decide +kernel
theorem dX5_leastSplit_63 : decode cX5_leastSplit 63 = .ok (.invokestatic 178, 3) := by decide +kernel
theorem dX5_leastSplit_66 : decode cX5_leastSplit 66 = .ok (.istore 7, 2) := by decide +kernel
theorem dX5_leastSplit_68 : decode cX5_leastSplit 68 = .ok (.iload 7, 2) := by decide +kernel
theorem dX5_leastSplit_70 : decode cX5_leastSplit 70 = .ok (.ifCond .ne 6, 3) := by decide +kernel
theorem dX5_leastSplit_73 : decode cX5_leastSplit 73 = .ok (.goto 25, 3) := by decide +kernel
theorem dX5_leastSplit_76 : decode cX5_leastSplit 76 = .ok (.iload 4, 2) := by decide +kernel
theorem dX5_leastSplit_78 : decode cX5_leastSplit 78 = .ok (.iload 7, 2) := by decide +kernel
theorem dX5_leastSplit_80 : decode cX5_leastSplit 80 = .ok (.aload_n 1, 1) := by decide +kernel
theorem dX5_leastSplit_81 : decode cX5_leastSplit 81 = .ok (.iload_n 3, 1) := by decide +kernel
theorem dX5_leastSplit_82 : decode cX5_leastSplit 82 = .ok (.iload 7, 2) := by decide +kernel
theorem dX5_leastSplit_84 : decode cX5_leastSplit 84 = .ok (.ior, 1) := by decide +kernel
theorem dX5_leastSplit_85 : decode cX5_leastSplit 85 = .ok (.invokevirtual 133, 3) := by decide +kernel
theorem dX5_leastSplit_88 : decode cX5_leastSplit 88 = .ok (.ior, 1) := by decide +kernel
theorem dX5_leastSplit_89 : decode cX5_leastSplit 89 = .ok (.ior, 1) := by decide +kernel
theorem dX5_leastSplit_90 : decode cX5_leastSplit 90 = .ok (.istore 4, 2) := by decide +kernel
theorem dX5_leastSplit_92 : decode cX5_leastSplit 92 = .ok (.iinc 5 1, 3) := by decide +kernel
theorem dX5_leastSplit_95 : decode cX5_leastSplit 95 = .ok (.goto (-73), 3) := by decide +kernel
theorem dX5_leastSplit_98 : decode cX5_leastSplit 98 = .ok (.iload 4, 2) := by decide +kernel
theorem dX5_leastSplit_100 : decode cX5_leastSplit 100 = .ok (.ireturn, 1) := by decide +kernel
set_option maxRecDepth 20000 in
theorem ggX5_dearestAreSuch_X5_isCommon : GoodIn wsX5_dearestAreSuch wsX5_isCommon := goodIn_r _ [8, 9, 10, 11, 12, 13, 14, 15, 16, 17, 18, 19, 20, 21, 22, 23, 24, 25, 26, 27, 28, 29, 30, 31, 32, 33, 7, 34, 35, 36, 37, 38, 39, 40, 41, 42, 43, 44, 45, 46, 47, 48, 49, 50, 51, 52, 53, 54, 55, 56, 57, 58, 59, 60, 61, 62, 63, 64, 65, 66, 67, 68, 69, 70, 71, 72, 73, 74, 75, 76, 77, 79, 80, 81, 82, 94, 95, 96, 97, 98, 99, 100, 101, 102, 103, 104] (by decide +kernel) (by decide +kernel)
set_option maxRecDepth 20000 in
theorem gX5_dearestAreSuch_X5_isCommon : GoodIn wsX5_dearestAreSuch (wsV RX5 119 RX5 yX5_isCommon wsX5_isCommon) := goodIn_app (goodIn_of _ (by decide +kernel)) ggX5_dearestAreSuch_X5_isCommon
set_option maxRecDepth 20000 in
theorem ggX5_dearestAreSuch_J6_bitCount_0f7a4 : GoodIn wsX5_dearestAreSuch wsJ6_bitCount_0f7a4 := goodIn_r _ [73, 74, 75, 76] (by decide +kernel) (by decide +kernel)
set_option maxRecDepth 20000 in
theorem gX5_dearestAreSuch_J6_bitCount_0f7a4 : GoodIn wsX5_dearestAreSuch (va_wsS RX5 183 yJ6_bitCount_0f7a4 wsJ6_bitCount_0f7a4) := goodIn_app (goodIn_of _ (by decide +kernel)) ggX5_dearestAreSuch_J6_bitCount_0f7a4
theorem dX5_dearestAreSuch_0 : decode cX5_dearestAreSuch 0 = .ok (.iconst 0, 1) := by decide +kernel
theorem dX5_dearestAreSuch_1 : decode cX5_dearestAreSuch 1 = .ok (.istore_n 1, 1) := by decide +kernel
theorem dX5_dearestAreSuch_2 : decode cX5_dearestAreSuch 2 = .ok (.iload_n 1, 1) := by decide +kernel
theorem dX5_dearestAreSuch_3 : decode cX5_dearestAreSuch 3 = .ok (.aload_n 0, 1) := by decide +kernel
theorem dX5_dearestAreSuch_4 : decode cX5_dearestAreSuch 4 = .ok (.getfield 34, 3) := by decide +kernel
theorem dX5_dearestAreSuch_7 : decode cX5_dearestAreSuch 7 = .ok (.getfield 139, 3) := by decide +kernel
theorem dX5_dearestAreSuch_10 : decode cX5_dearestAreSuch 10 = .ok (.if_icmp .gt 37, 3) := by decide +kernel
theorem dX5_dearestAreSuch_13 : decode cX5_dearestAreSuch 13 = .ok (.aload_n 0, 1) := by decide +kernel
theorem dX5_dearestAreSuch_14 : decode cX5_dearestAreSuch 14 = .ok (.getfield 34, 3) := by decide +kernel
theorem dX5_dearestAreSuch_17 : decode cX5_dearestAreSuch 17 = .ok (.getfield 145, 3) := by decide +kernel
theorem dX5_dearestAreSuch_20 : decode cX5_dearestAreSuch 20 = .ok (.iload_n 1, 1) := by decide +kernel
theorem dX5_dearestAreSuch_21 : decode cX5_dearestAreSuch 21 = .ok (.iaload, 1) := by decide +kernel
theorem dX5_dearestAreSuch_22 : decode cX5_dearestAreSuch 22 = .ok (.istore_n 2, 1) := by decide +kernel
theorem dX5_dearestAreSuch_23 : decode cX5_dearestAreSuch 23 = .ok (.aload_n 0, 1) := by decide +kernel
theorem dX5_dearestAreSuch_24 : decode cX5_dearestAreSuch 24 = .ok (.iload_n 2, 1) := by decide +kernel
theorem dX5_dearestAreSuch_25 : decode cX5_dearestAreSuch 25 = .ok (.invokevirtual 119, 3) := by decide +kernel
theorem dX5_dearestAreSuch_28 : decode cX5_dearestAreSuch 28 = .ok (.ifCond .eq 11, 3) := by decide +kernel
theorem dX5_dearestAreSuch_31 : decode cX5_dearestAreSuch 31 = .ok (.iload_n 2, 1) := by decide +kernel
theorem dX5_dearestAreSuch_32 : decode cX5_dearestAreSuch 32 = .ok (.invokestatic 183, 3) := by decide +kernel
theorem dX5_dearestAreSuch_35 : decode cX5_dearestAreSuch 35 = .ok (.iload_n 1, 1) := by decide +kernel
theorem dX5_dearestAreSuch_36 : decode cX5_dearestAreSuch 36 = .ok (.if_icmp .eq 5, 3) := by decide +kernel
theorem dX5_dearestAreSuch_39 : decode cX5_dearestAreSuch 39 = .ok (.iconst 0, 1) := by decide +kernel
theorem dX5_dearestAreSuch_40 : decode cX5_dearestAreSuch 40 = .ok (.ireturn, 1) := by decide +kernel
theorem dX5_dearestAreSuch_41 : decode cX5_dearestAreSuch 41 = .ok (.iinc 1 1, 3) := by decide +kernel
theorem dX5_dearestAreSuch_44 : decode cX5_dearestAreSuch 44 = .ok (.goto (-42), 3) := by decide +kernel
theorem dX5_dearestAreSuch_47 : decode cX5_dearestAreSuch 47 = .ok (.iconst 1, 1) := by decide +kernel
theorem dX5_dearestAreSuch_48 : decode cX5_dearestAreSuch 48 = .ok (.ireturn, 1) := by decide +kernel
theorem dX5_gainsNeverRise_0 : decode cX5_gainsNeverRise 0 = .ok (.iconst 1, 1) := by decide +kernel
theorem dX5_gainsNeverRise_1 : decode cX5_gainsNeverRise 1 = .ok (.istore_n 1, 1) := by decide +kernel
theorem dX5_gainsNeverRise_2 : decode cX5_gainsNeverRise 2 = .ok (.iload_n 1, 1) := by decide +kernel
theorem dX5_gainsNeverRise_3 : decode cX5_gainsNeverRise 3 = .ok (.aload_n 0, 1) := by decide +kernel
theorem dX5_gainsNeverRise_4 : decode cX5_gainsNeverRise 4 = .ok (.getfield 34, 3) := by decide +kernel
theorem dX5_gainsNeverRise_7 : decode cX5_gainsNeverRise 7 = .ok (.getfield 139, 3) := by decide +kernel
theorem dX5_gainsNeverRise_10 : decode cX5_gainsNeverRise 10 = .ok (.if_icmp .ge 60, 3) := by decide +kernel
theorem dX5_gainsNeverRise_13 : decode cX5_gainsNeverRise 13 = .ok (.aload_n 0, 1) := by decide +kernel
theorem dX5_gainsNeverRise_14 : decode cX5_gainsNeverRise 14 = .ok (.getfield 34, 3) := by decide +kernel
theorem dX5_gainsNeverRise_17 : decode cX5_gainsNeverRise 17 = .ok (.getfield 151, 3) := by decide +kernel
theorem dX5_gainsNeverRise_20 : decode cX5_gainsNeverRise 20 = .ok (.iload_n 1, 1) := by decide +kernel
theorem dX5_gainsNeverRise_21 : decode cX5_gainsNeverRise 21 = .ok (.iaload, 1) := by decide +kernel
theorem dX5_gainsNeverRise_22 : decode cX5_gainsNeverRise 22 = .ok (.aload_n 0, 1) := by decide +kernel
theorem dX5_gainsNeverRise_23 : decode cX5_gainsNeverRise 23 = .ok (.getfield 34, 3) := by decide +kernel
theorem dX5_gainsNeverRise_26 : decode cX5_gainsNeverRise 26 = .ok (.getfield 151, 3) := by decide +kernel
theorem dX5_gainsNeverRise_29 : decode cX5_gainsNeverRise 29 = .ok (.iload_n 1, 1) := by decide +kernel
theorem dX5_gainsNeverRise_30 : decode cX5_gainsNeverRise 30 = .ok (.iconst 1, 1) := by decide +kernel
theorem dX5_gainsNeverRise_31 : decode cX5_gainsNeverRise 31 = .ok (.isub, 1) := by decide +kernel
theorem dX5_gainsNeverRise_32 : decode cX5_gainsNeverRise 32 = .ok (.iaload, 1) := by decide +kernel
theorem dX5_gainsNeverRise_33 : decode cX5_gainsNeverRise 33 = .ok (.isub, 1) := by decide +kernel
theorem dX5_gainsNeverRise_34 : decode cX5_gainsNeverRise 34 = .ok (.istore_n 2, 1) := by decide +kernel
theorem dX5_gainsNeverRise_35 : decode cX5_gainsNeverRise 35 = .ok (.aload_n 0, 1) := by decide +kernel
theorem dX5_gainsNeverRise_36 : decode cX5_gainsNeverRise 36 = .ok (.getfield 34, 3) := by decide +kernel
theorem dX5_gainsNeverRise_39 : decode cX5_gainsNeverRise 39 = .ok (.getfield 151, 3) := by decide +kernel
theorem dX5_gainsNeverRise_42 : decode cX5_gainsNeverRise 42 = .ok (.iload_n 1, 1) := by decide +kernel
theorem dX5_gainsNeverRise_43 : decode cX5_gainsNeverRise 43 = .ok (.iconst 1, 1) := by decide +kernel
theorem dX5_gainsNeverRise_44 : decode cX5_gainsNeverRise 44 = .ok (.iadd, 1) := by decide +kernel
theorem dX5_gainsNeverRise_45 : decode cX5_gainsNeverRise 45 = .ok (.iaload, 1) := by decide +kernel
theorem dX5_gainsNeverRise_46 : decode cX5_gainsNeverRise 46 = .ok (.aload_n 0, 1) := by decide +kernel
theorem dX5_gainsNeverRise_47 : decode cX5_gainsNeverRise 47 = .ok (.getfield 34, 3) := by decide +kernel
theorem dX5_gainsNeverRise_50 : decode cX5_gainsNeverRise 50 = .ok (.getfield 151, 3) := by decide +kernel
theorem dX5_gainsNeverRise_53 : decode cX5_gainsNeverRise 53 = .ok (.iload_n 1, 1) := by decide +kernel
theorem dX5_gainsNeverRise_54 : decode cX5_gainsNeverRise 54 = .ok (.iaload, 1) := by decide +kernel
theorem dX5_gainsNeverRise_55 : decode cX5_gainsNeverRise 55 = .ok (.isub, 1) := by decide +kernel
theorem dX5_gainsNeverRise_56 : decode cX5_gainsNeverRise 56 = .ok (.istore_n 3, 1) := by decide +kernel
theorem dX5_gainsNeverRise_57 : decode cX5_gainsNeverRise 57 = .ok (.iload_n 3, 1) := by decide +kernel
theorem dX5_gainsNeverRise_58 : decode cX5_gainsNeverRise 58 = .ok (.iload_n 2, 1) := by decide +kernel
theorem dX5_gainsNeverRise_59 : decode cX5_gainsNeverRise 59 = .ok (.if_icmp .le 5, 3) := by decide +kernel
theorem dX5_gainsNeverRise_62 : decode cX5_gainsNeverRise 62 = .ok (.iconst 0, 1) := by decide +kernel
theorem dX5_gainsNeverRise_63 : decode cX5_gainsNeverRise 63 = .ok (.ireturn, 1) := by decide +kernel
theorem dX5_gainsNeverRise_64 : decode cX5_gainsNeverRise 64 = .ok (.iinc 1 1, 3) := by decide +kernel
theorem dX5_gainsNeverRise_67 : decode cX5_gainsNeverRise 67 = .ok (.goto (-65), 3) := by decide +kernel
theorem dX5_gainsNeverRise_70 : decode cX5_gainsNeverRise 70 = .ok (.iconst 1, 1) := by decide +kernel
theorem dX5_gainsNeverRise_71 : decode cX5_gainsNeverRise 71 = .ok (.ireturn, 1) := by decide +kernel
theorem dX6_init_0 : decode cX6_init 0 = .ok (.aload_n 0, 1) := by decide +kernel
theorem dX6_init_1 : decode cX6_init 1 = .ok (.invokespecial 1, 3) := by decide +kernel
theorem dX6_init_4 : decode cX6_init 4 = .ok (.aload_n 0, 1) := by decide +kernel
theorem dX6_init_5 : decode cX6_init 5 = .ok (.iconst 1, 1) := by decide +kernel
theorem dX6_init_6 : decode cX6_init 6 = .ok (.putfield 7, 3) := by decide +kernel
theorem dX6_init_9 : decode cX6_init 9 = .ok (.aload_n 0, 1) := by decide +kernel
theorem dX6_init_10 : decode cX6_init 10 = .ok (.iconst 1, 1) := by decide +kernel
theorem dX6_init_11 : decode cX6_init 11 = .ok (.putfield 13, 3) := by decide +kernel
theorem dX6_init_14 : decode cX6_init 14 = .ok (.aload_n 0, 1) := by decide +kernel
theorem dX6_init_15 : decode cX6_init 15 = .ok (.bipush 6, 2) := by decide +kernel
theorem dX6_init_17 : decode cX6_init 17 = .ok (.newarray .int, 2) := by decide +kernel
theorem dX6_init_19 : decode cX6_init 19 = .ok (.putfield 16, 3) := by decide +kernel
theorem dX6_init_22 : decode cX6_init 22 = .ok (.aload_n 0, 1) := by decide +kernel
theorem dX6_init_23 : decode cX6_init 23 = .ok (.bipush 14, 2) := by decide +kernel
theorem dX6_init_25 : decode cX6_init 25 = .ok (.newarray .int, 2) := by decide +kernel
theorem dX6_init_27 : decode cX6_init 27 = .ok (.putfield 20, 3) := by decide +kernel
theorem dX6_init_30 : decode cX6_init 30 = .ok (.aload_n 0, 1) := by decide +kernel
theorem dX6_init_31 : decode cX6_init 31 = .ok (.bipush 14, 2) := by decide +kernel
theorem dX6_init_33 : decode cX6_init 33 = .ok (.newarray .int, 2) := by decide +kernel
theorem dX6_init_35 : decode cX6_init 35 = .ok (.putfield 23, 3) := by decide +kernel
theorem dX6_init_38 : decode cX6_init 38 = .ok (.aload_n 0, 1) := by decide +kernel
theorem dX6_init_39 : decode cX6_init 39 = .ok (.bipush 14, 2) := by decide +kernel
theorem dX6_init_41 : decode cX6_init 41 = .ok (.newarray .int, 2) := by decide +kernel
theorem dX6_init_43 : decode cX6_init 43 = .ok (.putfield 26, 3) := by decide +kernel
theorem dX6_init_46 : decode cX6_init 46 = .ok (.aload_n 0, 1) := by decide +kernel
theorem dX6_init_47 : decode cX6_init 47 = .ok (.bipush 14, 2) := by decide +kernel
theorem dX6_init_49 : decode cX6_init 49 = .ok (.newarray .int, 2) := by decide +kernel
theorem dX6_init_51 : decode cX6_init 51 = .ok (.putfield 29, 3) := by decide +kernel
theorem dX6_init_54 : decode cX6_init 54 = .ok (.aload_n 0, 1) := by decide +kernel
theorem dX6_init_55 : decode cX6_init 55 = .ok (.ldc 32, 2) := by decide +kernel
theorem dX6_init_57 : decode cX6_init 57 = .ok (.newarray .boolean, 2) := by decide +kernel
theorem dX6_init_59 : decode cX6_init 59 = .ok (.putfield 33, 3) := by decide +kernel
theorem dX6_init_62 : decode cX6_init 62 = .ok (.aload_n 0, 1) := by decide +kernel
theorem dX6_init_63 : decode cX6_init 63 = .ok (.ldc 32, 2) := by decide +kernel
theorem dX6_init_65 : decode cX6_init 65 = .ok (.newarray .int, 2) := by decide +kernel
theorem dX6_init_67 : decode cX6_init 67 = .ok (.putfield 37, 3) := by decide +kernel
theorem dX6_init_70 : decode cX6_init 70 = .ok (.aload_n 0, 1) := by decide +kernel
theorem dX6_init_71 : decode cX6_init 71 = .ok (.bipush 15, 2) := by decide +kernel
theorem dX6_init_73 : decode cX6_init 73 = .ok (.newarray .int, 2) := by decide +kernel
theorem dX6_init_75 : decode cX6_init 75 = .ok (.putfield 40, 3) := by decide +kernel
theorem dX6_init_78 : decode cX6_init 78 = .ok (.aload_n 0, 1) := by decide +kernel
theorem dX6_init_79 : decode cX6_init 79 = .ok (.bipush 8, 2) := by decide +kernel
theorem dX6_init_81 : decode cX6_init 81 = .ok (.newarray .int, 2) := by decide +kernel
theorem dX6_init_83 : decode cX6_init 83 = .ok (.putfield 43, 3) := by decide +kernel
theorem dX6_init_86 : decode cX6_init 86 = .ok (.aload_n 0, 1) := by decide +kernel
theorem dX6_init_87 : decode cX6_init 87 = .ok (.bipush 6, 2) := by decide +kernel
theorem dX6_init_89 : decode cX6_init 89 = .ok (.newarray .int, 2) := by decide +kernel
theorem dX6_init_91 : decode cX6_init 91 = .ok (.putfield 46, 3) := by decide +kernel
theorem dX6_init_94 : decode cX6_init 94 = .ok (.aload_n 0, 1) := by decide +kernel
theorem dX6_init_95 : decode cX6_init 95 = .ok (.getfield 16, 3) := by decide +kernel
theorem dX6_init_98 : decode cX6_init 98 = .ok (.iconst 0, 1) := by decide +kernel
theorem dX6_init_99 : decode cX6_init 99 = .ok (.iconst 1, 1) := by decide +kernel
theorem dX6_init_100 : decode cX6_init 100 = .ok (.iastore, 1) := by decide +kernel
theorem dX6_init_101 : decode cX6_init 101 = .ok (.return_, 1) := by decide +kernel
theorem dX6_thrown_0 : decode cX6_thrown 0 = .ok (.aload_n 0, 1) := by decide +kernel
theorem dX6_thrown_1 : decode cX6_thrown 1 = .ok (.getfield 49, 3) := by decide +kernel
theorem dX6_thrown_4 : decode cX6_thrown 4 = .ok (.ireturn, 1) := by decide +kernel
theorem dX6_refuses_0 : decode cX6_refuses 0 = .ok (.aload_n 0, 1) := by decide +kernel
theorem dX6_refuses_1 : decode cX6_refuses 1 = .ok (.iload_n 1, 1) := by decide +kernel
theorem dX6_refuses_2 : decode cX6_refuses 2 = .ok (.putfield 49, 3) := by decide +kernel
theorem dX6_refuses_5 : decode cX6_refuses 5 = .ok (.iload_n 1, 1) := by decide +kernel
theorem dX6_refuses_6 : decode cX6_refuses 6 = .ok (.ifCond .le 7, 3) := by decide +kernel
theorem dX6_refuses_9 : decode cX6_refuses 9 = .ok (.iconst 1, 1) := by decide +kernel
theorem dX6_refuses_10 : decode cX6_refuses 10 = .ok (.goto 4, 3) := by decide +kernel
theorem dX6_refuses_13 : decode cX6_refuses 13 = .ok (.iconst 0, 1) := by decide +kernel
theorem dX6_refuses_14 : decode cX6_refuses 14 = .ok (.ireturn, 1) := by decide +kernel
set_option maxRecDepth 20000 in
theorem ggX6_make_X6_refuses : GoodIn wsX6_make wsX6_refuses := goodIn_r _ [10, 11, 12, 13, 14, 15, 16, 17, 18, 19, 20, 21, 22, 23, 24, 25, 26, 27] (by decide +kernel) (by decide +kernel)
set_option maxRecDepth 20000 in
theorem gX6_make_X6_refuses : GoodIn wsX6_make (wsV RX6 52 RX6 yX6_refuses wsX6_refuses) := goodIn_app (goodIn_of _ (by decide +kernel)) ggX6_make_X6_refuses
theorem dX6_make_0 : decode cX6_make 0 = .ok (.aload_n 0, 1) := by decide +kernel
theorem dX6_make_1 : decode cX6_make 1 = .ok (.iload_n 1, 1) := by decide +kernel
theorem dX6_make_2 : decode cX6_make 2 = .ok (.iconst 1, 1) := by decide +kernel
theorem dX6_make_3 : decode cX6_make 3 = .ok (.if_icmp .lt 20, 3) := by decide +kernel
theorem dX6_make_6 : decode cX6_make 6 = .ok (.iload_n 1, 1) := by decide +kernel
theorem dX6_make_7 : decode cX6_make 7 = .ok (.bipush 8, 2) := by decide +kernel
theorem dX6_make_9 : decode cX6_make 9 = .ok (.if_icmp .gt 14, 3) := by decide +kernel
theorem dX6_make_12 : decode cX6_make 12 = .ok (.iload_n 2, 1) := by decide +kernel
theorem dX6_make_13 : decode cX6_make 13 = .ok (.iconst 1, 1) := by decide +kernel
theorem dX6_make_14 : decode cX6_make 14 = .ok (.if_icmp .lt 9, 3) := by decide +kernel
theorem dX6_make_17 : decode cX6_make 17 = .ok (.iload_n 2, 1) := by decide +kernel
theorem dX6_make_18 : decode cX6_make 18 = .ok (.bipush 6, 2) := by decide +kernel
theorem dX6_make_20 : decode cX6_make 20 = .ok (.if_icmp .le 7, 3) := by decide +kernel
theorem dX6_make_23 : decode cX6_make 23 = .ok (.iconst 1, 1) := by decide +kernel
theorem dX6_make_24 : decode cX6_make 24 = .ok (.goto 4, 3) := by decide +kernel
theorem dX6_make_27 : decode cX6_make 27 = .ok (.iconst 0, 1) := by decide +kernel
theorem dX6_make_28 : decode cX6_make 28 = .ok (.invokevirtual 52, 3) := by decide +kernel
theorem dX6_make_31 : decode cX6_make 31 = .ok (.ifCond .eq 4, 3) := by decide +kernel
theorem dX6_make_34 : decode cX6_make 34 = .ok (.return_, 1) := by decide +kernel
theorem dX6_make_35 : decode cX6_make 35 = .ok (.aload_n 0, 1) := by decide +kernel
theorem dX6_make_36 : decode cX6_make 36 = .ok (.iload_n 1, 1) := by decide +kernel
theorem dX6_make_37 : decode cX6_make 37 = .ok (.putfield 7, 3) := by decide +kernel
theorem dX6_make_40 : decode cX6_make 40 = .ok (.aload_n 0, 1) := by decide +kernel
theorem dX6_make_41 : decode cX6_make 41 = .ok (.iload_n 2, 1) := by decide +kernel
theorem dX6_make_42 : decode cX6_make 42 = .ok (.putfield 13, 3) := by decide +kernel
theorem dX6_make_45 : decode cX6_make 45 = .ok (.aload_n 0, 1) := by decide +kernel
theorem dX6_make_46 : decode cX6_make 46 = .ok (.iconst 0, 1) := by decide +kernel
theorem dX6_make_47 : decode cX6_make 47 = .ok (.putfield 56, 3) := by decide +kernel
theorem dX6_make_50 : decode cX6_make 50 = .ok (.iconst 0, 1) := by decide +kernel
theorem dX6_make_51 : decode cX6_make 51 = .ok (.istore_n 3, 1) := by decide +kernel
theorem dX6_make_52 : decode cX6_make 52 = .ok (.iload_n 3, 1) := by decide +kernel
theorem dX6_make_53 : decode cX6_make 53 = .ok (.bipush 6, 2) := by decide +kernel
theorem dX6_make_55 : decode cX6_make 55 = .ok (.if_icmp .ge 16, 3) := by decide +kernel
theorem dX6_make_58 : decode cX6_make 58 = .ok (.aload_n 0, 1) := by decide +kernel
theorem dX6_make_59 : decode cX6_make 59 = .ok (.getfield 16, 3) := by decide +kernel
theorem dX6_make_62 : decode cX6_make 62 = .ok (.iload_n 3, 1) := by decide +kernel
theorem dX6_make_63 : decode cX6_make 63 = .ok (.iconst 1, 1) := by decide +kernel
theorem dX6_make_64 : decode cX6_make 64 = .ok (.iastore, 1) := by decide +kernel
theorem dX6_make_65 : decode cX6_make 65 = .ok (.iinc 3 1, 3) := by decide +kernel
theorem dX6_make_68 : decode cX6_make 68 = .ok (.goto (-16), 3) := by decide +kernel
theorem dX6_make_71 : decode cX6_make 71 = .ok (.aload_n 0, 1) := by decide +kernel
theorem dX6_make_72 : decode cX6_make 72 = .ok (.iconst 0, 1) := by decide +kernel
theorem dX6_make_73 : decode cX6_make 73 = .ok (.putfield 59, 3) := by decide +kernel
theorem dX6_make_76 : decode cX6_make 76 = .ok (.return_, 1) := by decide +kernel
theorem dX6_isHeavy_0 : decode cX6_isHeavy 0 = .ok (.iload_n 0, 1) := by decide +kernel
theorem dX6_isHeavy_1 : decode cX6_isHeavy 1 = .ok (.sipush (-9999), 3) := by decide +kernel
theorem dX6_isHeavy_4 : decode cX6_isHeavy 4 = .ok (.if_icmp .lt 10, 3) := by decide +kernel
theorem dX6_isHeavy_7 : decode cX6_isHeavy 7 = .ok (.iload_n 0, 1) := by decide +kernel
theorem dX6_isHeavy_8 : decode cX6_isHeavy 8 = .ok (.sipush 9999, 3) := by decide +kernel
theorem dX6_isHeavy_11 : decode cX6_isHeavy 11 = .ok (.if_icmp .le 7, 3) := by decide +kernel
theorem dX6_isHeavy_14 : decode cX6_isHeavy 14 = .ok (.iconst 1, 1) := by decide +kernel
theorem dX6_isHeavy_15 : decode cX6_isHeavy 15 = .ok (.goto 4, 3) := by decide +kernel
theorem dX6_isHeavy_18 : decode cX6_isHeavy 18 = .ok (.iconst 0, 1) := by decide +kernel
theorem dX6_isHeavy_19 : decode cX6_isHeavy 19 = .ok (.ireturn, 1) := by decide +kernel
set_option maxRecDepth 20000 in
theorem ggX6_edge_X6_isHeavy : GoodIn wsX6_edge wsX6_isHeavy := goodIn_r _ [13] (by decide +kernel) (by decide +kernel)
set_option maxRecDepth 20000 in
theorem gX6_edge_X6_isHeavy : GoodIn wsX6_edge (va_wsS RX6 63 yX6_isHeavy wsX6_isHeavy) := goodIn_app (goodIn_of _ (by decide +kernel)) ggX6_edge_X6_isHeavy
theorem dX6_edge_0 : decode cX6_edge 0 = .ok (.aload_n 0, 1) := by decide +kernel
theorem dX6_edge_1 : decode cX6_edge 1 = .ok (.iconst 0, 1) := by decide +kernel
theorem dX6_edge_2 : decode cX6_edge 2 = .ok (.putfield 49, 3) := by decide +kernel
theorem dX6_edge_5 : decode cX6_edge 5 = .ok (.iload_n 1, 1) := by decide +kernel
theorem dX6_edge_6 : decode cX6_edge 6 = .ok (.ifCond .lt 39, 3) := by decide +kernel
theorem dX6_edge_9 : decode cX6_edge 9 = .ok (.iload_n 1, 1) := by decide +kernel
theorem dX6_edge_10 : decode cX6_edge 10 = .ok (.aload_n 0, 1) := by decide +kernel
theorem dX6_edge_11 : decode cX6_edge 11 = .ok (.getfield 7, 3) := by decide +kernel
theorem dX6_edge_14 : decode cX6_edge 14 = .ok (.if_icmp .ge 31, 3) := by decide +kernel
theorem dX6_edge_17 : decode cX6_edge 17 = .ok (.iload_n 2, 1) := by decide +kernel
theorem dX6_edge_18 : decode cX6_edge 18 = .ok (.ifCond .lt 27, 3) := by decide +kernel
theorem dX6_edge_21 : decode cX6_edge 21 = .ok (.iload_n 2, 1) := by decide +kernel
theorem dX6_edge_22 : decode cX6_edge 22 = .ok (.aload_n 0, 1) := by decide +kernel
theorem dX6_edge_23 : decode cX6_edge 23 = .ok (.getfield 7, 3) := by decide +kernel
theorem dX6_edge_26 : decode cX6_edge 26 = .ok (.if_icmp .ge 19, 3) := by decide +kernel
theorem dX6_edge_29 : decode cX6_edge 29 = .ok (.iload_n 3, 1) := by decide +kernel
theorem dX6_edge_30 : decode cX6_edge 30 = .ok (.ifCond .lt 15, 3) := by decide +kernel
theorem dX6_edge_33 : decode cX6_edge 33 = .ok (.iload_n 3, 1) := by decide +kernel
theorem dX6_edge_34 : decode cX6_edge 34 = .ok (.aload_n 0, 1) := by decide +kernel
theorem dX6_edge_35 : decode cX6_edge 35 = .ok (.getfield 13, 3) := by decide +kernel
theorem dX6_edge_38 : decode cX6_edge 38 = .ok (.if_icmp .ge 7, 3) := by decide +kernel
theorem dX6_edge_41 : decode cX6_edge 41 = .ok (.iconst 1, 1) := by decide +kernel
theorem dX6_edge_42 : decode cX6_edge 42 = .ok (.goto 4, 3) := by decide +kernel
theorem dX6_edge_45 : decode cX6_edge 45 = .ok (.iconst 0, 1) := by decide +kernel
theorem dX6_edge_46 : decode cX6_edge 46 = .ok (.istore 5, 2) := by decide +kernel
theorem dX6_edge_48 : decode cX6_edge 48 = .ok (.iload 5, 2) := by decide +kernel
theorem dX6_edge_50 : decode cX6_edge 50 = .ok (.ifCond .eq 20, 3) := by decide +kernel
theorem dX6_edge_53 : decode cX6_edge 53 = .ok (.iload 4, 2) := by decide +kernel
theorem dX6_edge_55 : decode cX6_edge 55 = .ok (.invokestatic 63, 3) := by decide +kernel
theorem dX6_edge_58 : decode cX6_edge 58 = .ok (.ifCond .ne 12, 3) := by decide +kernel
theorem dX6_edge_61 : decode cX6_edge 61 = .ok (.aload_n 0, 1) := by decide +kernel
theorem dX6_edge_62 : decode cX6_edge 62 = .ok (.getfield 56, 3) := by decide +kernel
theorem dX6_edge_65 : decode cX6_edge 65 = .ok (.bipush 14, 2) := by decide +kernel
theorem dX6_edge_67 : decode cX6_edge 67 = .ok (.if_icmp .ne 5, 3) := by decide +kernel
theorem dX6_edge_70 : decode cX6_edge 70 = .ok (.iconst (-1), 1) := by decide +kernel
theorem dX6_edge_71 : decode cX6_edge 71 = .ok (.ireturn, 1) := by decide +kernel
theorem dX6_edge_72 : decode cX6_edge 72 = .ok (.aload_n 0, 1) := by decide +kernel
theorem dX6_edge_73 : decode cX6_edge 73 = .ok (.getfield 20, 3) := by decide +kernel
theorem dX6_edge_76 : decode cX6_edge 76 = .ok (.aload_n 0, 1) := by decide +kernel
theorem dX6_edge_77 : decode cX6_edge 77 = .ok (.getfield 56, 3) := by decide +kernel
theorem dX6_edge_80 : decode cX6_edge 80 = .ok (.iload_n 1, 1) := by decide +kernel
theorem dX6_edge_81 : decode cX6_edge 81 = .ok (.iastore, 1) := by decide +kernel
theorem dX6_edge_82 : decode cX6_edge 82 = .ok (.aload_n 0, 1) := by decide +kernel
theorem dX6_edge_83 : decode cX6_edge 83 = .ok (.getfield 23, 3) := by decide +kernel
theorem dX6_edge_86 : decode cX6_edge 86 = .ok (.aload_n 0, 1) := by decide +kernel
theorem dX6_edge_87 : decode cX6_edge 87 = .ok (.getfield 56, 3) := by decide +kernel
theorem dX6_edge_90 : decode cX6_edge 90 = .ok (.iload_n 2, 1) := by decide +kernel
theorem dX6_edge_91 : decode cX6_edge 91 = .ok (.iastore, 1) := by decide +kernel
theorem dX6_edge_92 : decode cX6_edge 92 = .ok (.aload_n 0, 1) := by decide +kernel
theorem dX6_edge_93 : decode cX6_edge 93 = .ok (.getfield 26, 3) := by decide +kernel
theorem dX6_edge_96 : decode cX6_edge 96 = .ok (.aload_n 0, 1) := by decide +kernel
theorem dX6_edge_97 : decode cX6_edge 97 = .ok (.getfield 56, 3) := by decide +kernel
theorem dX6_edge_100 : decode cX6_edge 100 = .ok (.iload_n 3, 1) := by decide +kernel
theorem dX6_edge_101 : decode cX6_edge 101 = .ok (.iastore, 1) := by decide +kernel
theorem dX6_edge_102 : decode cX6_edge 102 = .ok (.aload_n 0, 1) := by decide +kernel
theorem dX6_edge_103 : decode cX6_edge 103 = .ok (.getfield 29, 3) := by decide +kernel
theorem dX6_edge_106 : decode cX6_edge 106 = .ok (.aload_n 0, 1) := by decide +kernel
theorem dX6_edge_107 : decode cX6_edge 107 = .ok (.getfield 56, 3) := by decide +kernel
theorem dX6_edge_110 : decode cX6_edge 110 = .ok (.iload 4, 2) := by decide +kernel
theorem dX6_edge_112 : decode cX6_edge 112 = .ok (.iastore, 1) := by decide +kernel
theorem dX6_edge_113 : decode cX6_edge 113 = .ok (.aload_n 0, 1) := by decide +kernel
theorem dX6_edge_114 : decode cX6_edge 114 = .ok (.dup, 1) := by decide +kernel
theorem dX6_edge_115 : decode cX6_edge 115 = .ok (.getfield 56, 3) := by decide +kernel
theorem dX6_edge_118 : decode cX6_edge 118 = .ok (.iconst 1, 1) := by decide +kernel
theorem dX6_edge_119 : decode cX6_edge 119 = .ok (.iadd, 1) := by decide +kernel
theorem dX6_edge_120 : decode cX6_edge 120 = .ok (.putfield 56, 3) := by decide +kernel
theorem dX6_edge_123 : decode cX6_edge 123 = .ok (.aload_n 0, 1) := by decide +kernel
theorem dX6_edge_124 : decode cX6_edge 124 = .ok (.iconst 0, 1) := by decide +kernel
theorem dX6_edge_125 : decode cX6_edge 125 = .ok (.putfield 59, 3) := by decide +kernel
theorem dX6_edge_128 : decode cX6_edge 128 = .ok (.aload_n 0, 1) := by decide +kernel
theorem dX6_edge_129 : decode cX6_edge 129 = .ok (.getfield 56, 3) := by decide +kernel
theorem dX6_edge_132 : decode cX6_edge 132 = .ok (.iconst 1, 1) := by decide +kernel
theorem dX6_edge_133 : decode cX6_edge 133 = .ok (.isub, 1) := by decide +kernel
theorem dX6_edge_134 : decode cX6_edge 134 = .ok (.ireturn, 1) := by decide +kernel
set_option maxRecDepth 20000 in
theorem ggX6_limit_X6_refuses : GoodIn wsX6_limit wsX6_refuses := goodIn_r _ [8, 9, 10, 11, 12, 13, 14, 15, 16, 17, 18, 19, 20, 21, 22, 23, 24, 25] (by decide +kernel) (by decide +kernel)
set_option maxRecDepth 20000 in
theorem gX6_limit_X6_refuses : GoodIn wsX6_limit (wsV RX6 52 RX6 yX6_refuses wsX6_refuses) := goodIn_app (goodIn_of _ (by decide +kernel)) ggX6_limit_X6_refuses
theorem dX6_limit_0 : decode cX6_limit 0 = .ok (.aload_n 0, 1) := by decide +kernel
theorem dX6_limit_1 : decode cX6_limit 1 = .ok (.iload_n 1, 1) := by decide +kernel
theorem dX6_limit_2 : decode cX6_limit 2 = .ok (.ifCond .lt 11, 3) := by decide +kernel
theorem dX6_limit_5 : decode cX6_limit 5 = .ok (.iload_n 1, 1) := by decide +kernel
theorem dX6_limit_6 : decode cX6_limit 6 = .ok (.aload_n 0, 1) := by decide +kernel
theorem dX6_limit_7 : decode cX6_limit 7 = .ok (.getfield 13, 3) := by decide +kernel
theorem dX6_limit_10 : decode cX6_limit 10 = .ok (.if_icmp .lt 7, 3) := by decide +kernel
theorem dX6_limit_13 : decode cX6_limit 13 = .ok (.iconst 1, 1) := by decide +kernel
theorem dX6_limit_14 : decode cX6_limit 14 = .ok (.goto 18, 3) := by decide +kernel
theorem dX6_limit_17 : decode cX6_limit 17 = .ok (.iload_n 2, 1) := by decide +kernel
theorem dX6_limit_18 : decode cX6_limit 18 = .ok (.ifCond .lt 9, 3) := by decide +kernel
theorem dX6_limit_21 : decode cX6_limit 21 = .ok (.iload_n 2, 1) := by decide +kernel
theorem dX6_limit_22 : decode cX6_limit 22 = .ok (.bipush 14, 2) := by decide +kernel
theorem dX6_limit_24 : decode cX6_limit 24 = .ok (.if_icmp .le 7, 3) := by decide +kernel
theorem dX6_limit_27 : decode cX6_limit 27 = .ok (.iconst 2, 1) := by decide +kernel
theorem dX6_limit_28 : decode cX6_limit 28 = .ok (.goto 4, 3) := by decide +kernel
theorem dX6_limit_31 : decode cX6_limit 31 = .ok (.iconst 0, 1) := by decide +kernel
theorem dX6_limit_32 : decode cX6_limit 32 = .ok (.invokevirtual 52, 3) := by decide +kernel
theorem dX6_limit_35 : decode cX6_limit 35 = .ok (.ifCond .ne 15, 3) := by decide +kernel
theorem dX6_limit_38 : decode cX6_limit 38 = .ok (.aload_n 0, 1) := by decide +kernel
theorem dX6_limit_39 : decode cX6_limit 39 = .ok (.getfield 16, 3) := by decide +kernel
theorem dX6_limit_42 : decode cX6_limit 42 = .ok (.iload_n 1, 1) := by decide +kernel
theorem dX6_limit_43 : decode cX6_limit 43 = .ok (.iload_n 2, 1) := by decide +kernel
theorem dX6_limit_44 : decode cX6_limit 44 = .ok (.iastore, 1) := by decide +kernel
theorem dX6_limit_45 : decode cX6_limit 45 = .ok (.aload_n 0, 1) := by decide +kernel
theorem dX6_limit_46 : decode cX6_limit 46 = .ok (.iconst 0, 1) := by decide +kernel
theorem dX6_limit_47 : decode cX6_limit 47 = .ok (.putfield 59, 3) := by decide +kernel
theorem dX6_limit_50 : decode cX6_limit 50 = .ok (.return_, 1) := by decide +kernel
set_option maxRecDepth 20000 in
theorem ggX6_weigh_X6_isHeavy : GoodIn wsX6_weigh wsX6_isHeavy := goodIn_r _ [7] (by decide +kernel) (by decide +kernel)
set_option maxRecDepth 20000 in
theorem gX6_weigh_X6_isHeavy : GoodIn wsX6_weigh (va_wsS RX6 63 yX6_isHeavy wsX6_isHeavy) := goodIn_app (goodIn_of _ (by decide +kernel)) ggX6_weigh_X6_isHeavy
set_option maxRecDepth 20000 in
theorem ggX6_weigh_X6_refuses : GoodIn wsX6_weigh wsX6_refuses := goodIn_r _ [11, 12, 13, 14, 15, 16, 17, 18, 19, 20, 21, 22, 23, 24, 25, 26, 27, 28] (by decide +kernel) (by decide +kernel)
set_option maxRecDepth 20000 in
theorem gX6_weigh_X6_refuses : GoodIn wsX6_weigh (wsV RX6 52 RX6 yX6_refuses wsX6_refuses) := goodIn_app (goodIn_of _ (by decide +kernel)) ggX6_weigh_X6_refuses
