theorem dX0_init_0 : decode cX0_init 0 = .ok (.aload_n 0, 1) := by decide +kernel
theorem dX0_init_1 : decode cX0_init 1 = .ok (.invokespecial 3, 3) := by decide +kernel
theorem dX0_init_4 : decode cX0_init 4 = .ok (.aload_n 0, 1) := by decide +kernel
theorem dX0_init_5 : decode cX0_init 5 = .ok (.bipush 6, 2) := by decide +kernel
theorem dX0_init_7 : decode cX0_init 7 = .ok (.newarray .int, 2) := by decide +kernel
theorem dX0_init_9 : decode cX0_init 9 = .ok (.putfield 9, 3) := by decide +kernel
theorem dX0_init_12 : decode cX0_init 12 = .ok (.aload_n 0, 1) := by decide +kernel
theorem dX0_init_13 : decode cX0_init 13 = .ok (.bipush 14, 2) := by decide +kernel
theorem dX0_init_15 : decode cX0_init 15 = .ok (.newarray .int, 2) := by decide +kernel
theorem dX0_init_17 : decode cX0_init 17 = .ok (.putfield 15, 3) := by decide +kernel
theorem dX0_init_20 : decode cX0_init 20 = .ok (.aload_n 0, 1) := by decide +kernel
theorem dX0_init_21 : decode cX0_init 21 = .ok (.bipush 14, 2) := by decide +kernel
theorem dX0_init_23 : decode cX0_init 23 = .ok (.newarray .int, 2) := by decide +kernel
theorem dX0_init_25 : decode cX0_init 25 = .ok (.putfield 18, 3) := by decide +kernel
theorem dX0_init_28 : decode cX0_init 28 = .ok (.aload_n 0, 1) := by decide +kernel
theorem dX0_init_29 : decode cX0_init 29 = .ok (.bipush 14, 2) := by decide +kernel
theorem dX0_init_31 : decode cX0_init 31 = .ok (.newarray .int, 2) := by decide +kernel
theorem dX0_init_33 : decode cX0_init 33 = .ok (.putfield 21, 3) := by decide +kernel
theorem dX0_init_36 : decode cX0_init 36 = .ok (.aload_n 0, 1) := by decide +kernel
theorem dX0_init_37 : decode cX0_init 37 = .ok (.bipush 14, 2) := by decide +kernel
theorem dX0_init_39 : decode cX0_init 39 = .ok (.newarray .int, 2) := by decide +kernel
theorem dX0_init_41 : decode cX0_init 41 = .ok (.putfield 24, 3) := by decide +kernel
theorem dX0_init_44 : decode cX0_init 44 = .ok (.aload_n 0, 1) := by decide +kernel
theorem dX0_init_45 : decode cX0_init 45 = .ok (.iconst 1, 1) := by decide +kernel
theorem dX0_init_46 : decode cX0_init 46 = .ok (.putfield 27, 3) := by decide +kernel
theorem dX0_init_49 : decode cX0_init 49 = .ok (.aload_n 0, 1) := by decide +kernel
theorem dX0_init_50 : decode cX0_init 50 = .ok (.iconst 1, 1) := by decide +kernel
theorem dX0_init_51 : decode cX0_init 51 = .ok (.putfield 31, 3) := by decide +kernel
theorem dX0_init_54 : decode cX0_init 54 = .ok (.aload_n 0, 1) := by decide +kernel
theorem dX0_init_55 : decode cX0_init 55 = .ok (.getfield 9, 3) := by decide +kernel
theorem dX0_init_58 : decode cX0_init 58 = .ok (.iconst 0, 1) := by decide +kernel
theorem dX0_init_59 : decode cX0_init 59 = .ok (.iconst 1, 1) := by decide +kernel
theorem dX0_init_60 : decode cX0_init 60 = .ok (.iastore, 1) := by decide +kernel
theorem dX0_init_61 : decode cX0_init 61 = .ok (.return_, 1) := by decide +kernel
set_option maxRecDepth 20000 in
theorem ggX0_restart_J7_fill_53178 : GoodIn wsX0_restart wsJ7_fill_53178 := goodIn_r _ [9] (by decide +kernel) (by decide +kernel)
set_option maxRecDepth 20000 in
theorem gX0_restart_J7_fill_53178 : GoodIn wsX0_restart (va_wsS RX0 37 yJ7_fill_53178 wsJ7_fill_53178) := goodIn_app (goodIn_of _ (by decide +kernel)) ggX0_restart_J7_fill_53178
theorem dX0_restart_0 : decode cX0_restart 0 = .ok (.aload_n 0, 1) := by decide +kernel
theorem dX0_restart_1 : decode cX0_restart 1 = .ok (.iload_n 1, 1) := by decide +kernel
theorem dX0_restart_2 : decode cX0_restart 2 = .ok (.putfield 27, 3) := by decide +kernel
theorem dX0_restart_5 : decode cX0_restart 5 = .ok (.aload_n 0, 1) := by decide +kernel
theorem dX0_restart_6 : decode cX0_restart 6 = .ok (.iload_n 2, 1) := by decide +kernel
theorem dX0_restart_7 : decode cX0_restart 7 = .ok (.putfield 31, 3) := by decide +kernel
theorem dX0_restart_10 : decode cX0_restart 10 = .ok (.aload_n 0, 1) := by decide +kernel
theorem dX0_restart_11 : decode cX0_restart 11 = .ok (.iconst 0, 1) := by decide +kernel
theorem dX0_restart_12 : decode cX0_restart 12 = .ok (.putfield 34, 3) := by decide +kernel
theorem dX0_restart_15 : decode cX0_restart 15 = .ok (.aload_n 0, 1) := by decide +kernel
theorem dX0_restart_16 : decode cX0_restart 16 = .ok (.getfield 9, 3) := by decide +kernel
theorem dX0_restart_19 : decode cX0_restart 19 = .ok (.iconst 1, 1) := by decide +kernel
theorem dX0_restart_20 : decode cX0_restart 20 = .ok (.invokestatic 37, 3) := by decide +kernel
theorem dX0_restart_23 : decode cX0_restart 23 = .ok (.aload_n 0, 1) := by decide +kernel
theorem dX0_restart_24 : decode cX0_restart 24 = .ok (.dup, 1) := by decide +kernel
theorem dX0_restart_25 : decode cX0_restart 25 = .ok (.getfield 43, 3) := by decide +kernel
theorem dX0_restart_28 : decode cX0_restart 28 = .ok (.iconst 1, 1) := by decide +kernel
theorem dX0_restart_29 : decode cX0_restart 29 = .ok (.iadd, 1) := by decide +kernel
theorem dX0_restart_30 : decode cX0_restart 30 = .ok (.putfield 43, 3) := by decide +kernel
theorem dX0_restart_33 : decode cX0_restart 33 = .ok (.return_, 1) := by decide +kernel
theorem dX0_addEdge_0 : decode cX0_addEdge 0 = .ok (.aload_n 0, 1) := by decide +kernel
theorem dX0_addEdge_1 : decode cX0_addEdge 1 = .ok (.getfield 34, 3) := by decide +kernel
theorem dX0_addEdge_4 : decode cX0_addEdge 4 = .ok (.istore 5, 2) := by decide +kernel
theorem dX0_addEdge_6 : decode cX0_addEdge 6 = .ok (.aload_n 0, 1) := by decide +kernel
theorem dX0_addEdge_7 : decode cX0_addEdge 7 = .ok (.getfield 15, 3) := by decide +kernel
theorem dX0_addEdge_10 : decode cX0_addEdge 10 = .ok (.iload 5, 2) := by decide +kernel
theorem dX0_addEdge_12 : decode cX0_addEdge 12 = .ok (.iload_n 1, 1) := by decide +kernel
theorem dX0_addEdge_13 : decode cX0_addEdge 13 = .ok (.iastore, 1) := by decide +kernel
theorem dX0_addEdge_14 : decode cX0_addEdge 14 = .ok (.aload_n 0, 1) := by decide +kernel
theorem dX0_addEdge_15 : decode cX0_addEdge 15 = .ok (.getfield 18, 3) := by decide +kernel
theorem dX0_addEdge_18 : decode cX0_addEdge 18 = .ok (.iload 5, 2) := by decide +kernel
theorem dX0_addEdge_20 : decode cX0_addEdge 20 = .ok (.iload_n 2, 1) := by decide +kernel
theorem dX0_addEdge_21 : decode cX0_addEdge 21 = .ok (.iastore, 1) := by decide +kernel
theorem dX0_addEdge_22 : decode cX0_addEdge 22 = .ok (.aload_n 0, 1) := by decide +kernel
theorem dX0_addEdge_23 : decode cX0_addEdge 23 = .ok (.getfield 21, 3) := by decide +kernel
theorem dX0_addEdge_26 : decode cX0_addEdge 26 = .ok (.iload 5, 2) := by decide +kernel
theorem dX0_addEdge_28 : decode cX0_addEdge 28 = .ok (.iload_n 3, 1) := by decide +kernel
theorem dX0_addEdge_29 : decode cX0_addEdge 29 = .ok (.iastore, 1) := by decide +kernel
theorem dX0_addEdge_30 : decode cX0_addEdge 30 = .ok (.aload_n 0, 1) := by decide +kernel
theorem dX0_addEdge_31 : decode cX0_addEdge 31 = .ok (.getfield 24, 3) := by decide +kernel
theorem dX0_addEdge_34 : decode cX0_addEdge 34 = .ok (.iload 5, 2) := by decide +kernel
theorem dX0_addEdge_36 : decode cX0_addEdge 36 = .ok (.iload 4, 2) := by decide +kernel
theorem dX0_addEdge_38 : decode cX0_addEdge 38 = .ok (.iastore, 1) := by decide +kernel
theorem dX0_addEdge_39 : decode cX0_addEdge 39 = .ok (.aload_n 0, 1) := by decide +kernel
theorem dX0_addEdge_40 : decode cX0_addEdge 40 = .ok (.dup, 1) := by decide +kernel
theorem dX0_addEdge_41 : decode cX0_addEdge 41 = .ok (.getfield 34, 3) := by decide +kernel
theorem dX0_addEdge_44 : decode cX0_addEdge 44 = .ok (.iconst 1, 1) := by decide +kernel
theorem dX0_addEdge_45 : decode cX0_addEdge 45 = .ok (.iadd, 1) := by decide +kernel
theorem dX0_addEdge_46 : decode cX0_addEdge 46 = .ok (.putfield 34, 3) := by decide +kernel
theorem dX0_addEdge_49 : decode cX0_addEdge 49 = .ok (.aload_n 0, 1) := by decide +kernel
theorem dX0_addEdge_50 : decode cX0_addEdge 50 = .ok (.dup, 1) := by decide +kernel
theorem dX0_addEdge_51 : decode cX0_addEdge 51 = .ok (.getfield 43, 3) := by decide +kernel
theorem dX0_addEdge_54 : decode cX0_addEdge 54 = .ok (.iconst 1, 1) := by decide +kernel
theorem dX0_addEdge_55 : decode cX0_addEdge 55 = .ok (.iadd, 1) := by decide +kernel
theorem dX0_addEdge_56 : decode cX0_addEdge 56 = .ok (.putfield 43, 3) := by decide +kernel
theorem dX0_addEdge_59 : decode cX0_addEdge 59 = .ok (.iload 5, 2) := by decide +kernel
theorem dX0_addEdge_61 : decode cX0_addEdge 61 = .ok (.ireturn, 1) := by decide +kernel
theorem dX0_setLimit_0 : decode cX0_setLimit 0 = .ok (.aload_n 0, 1) := by decide +kernel
theorem dX0_setLimit_1 : decode cX0_setLimit 1 = .ok (.getfield 9, 3) := by decide +kernel
theorem dX0_setLimit_4 : decode cX0_setLimit 4 = .ok (.iload_n 1, 1) := by decide +kernel
theorem dX0_setLimit_5 : decode cX0_setLimit 5 = .ok (.iload_n 2, 1) := by decide +kernel
theorem dX0_setLimit_6 : decode cX0_setLimit 6 = .ok (.iastore, 1) := by decide +kernel
theorem dX0_setLimit_7 : decode cX0_setLimit 7 = .ok (.aload_n 0, 1) := by decide +kernel
theorem dX0_setLimit_8 : decode cX0_setLimit 8 = .ok (.dup, 1) := by decide +kernel
theorem dX0_setLimit_9 : decode cX0_setLimit 9 = .ok (.getfield 43, 3) := by decide +kernel
theorem dX0_setLimit_12 : decode cX0_setLimit 12 = .ok (.iconst 1, 1) := by decide +kernel
theorem dX0_setLimit_13 : decode cX0_setLimit 13 = .ok (.iadd, 1) := by decide +kernel
theorem dX0_setLimit_14 : decode cX0_setLimit 14 = .ok (.putfield 43, 3) := by decide +kernel
theorem dX0_setLimit_17 : decode cX0_setLimit 17 = .ok (.return_, 1) := by decide +kernel
theorem dX0_setWeight_0 : decode cX0_setWeight 0 = .ok (.aload_n 0, 1) := by decide +kernel
theorem dX0_setWeight_1 : decode cX0_setWeight 1 = .ok (.getfield 24, 3) := by decide +kernel
theorem dX0_setWeight_4 : decode cX0_setWeight 4 = .ok (.iload_n 1, 1) := by decide +kernel
theorem dX0_setWeight_5 : decode cX0_setWeight 5 = .ok (.iload_n 2, 1) := by decide +kernel
theorem dX0_setWeight_6 : decode cX0_setWeight 6 = .ok (.iastore, 1) := by decide +kernel
theorem dX0_setWeight_7 : decode cX0_setWeight 7 = .ok (.aload_n 0, 1) := by decide +kernel
theorem dX0_setWeight_8 : decode cX0_setWeight 8 = .ok (.dup, 1) := by decide +kernel
theorem dX0_setWeight_9 : decode cX0_setWeight 9 = .ok (.getfield 43, 3) := by decide +kernel
theorem dX0_setWeight_12 : decode cX0_setWeight 12 = .ok (.iconst 1, 1) := by decide +kernel
theorem dX0_setWeight_13 : decode cX0_setWeight 13 = .ok (.iadd, 1) := by decide +kernel
theorem dX0_setWeight_14 : decode cX0_setWeight 14 = .ok (.putfield 43, 3) := by decide +kernel
theorem dX0_setWeight_17 : decode cX0_setWeight 17 = .ok (.return_, 1) := by decide +kernel
set_option maxRecDepth 20000 in
theorem ggX0_hasVertex_X5_within : GoodIn wsX0_hasVertex wsX5_within := goodIn_r _ [4] (by decide +kernel) (by decide +kernel)
set_option maxRecDepth 20000 in
theorem gX0_hasVertex_X5_within_n46 : GoodIn wsX0_hasVertex (wsX5_within) := ggX0_hasVertex_X5_within
theorem dX0_hasVertex_0 : decode cX0_hasVertex 0 = .ok (.iload_n 1, 1) := by decide +kernel
theorem dX0_hasVertex_1 : decode cX0_hasVertex 1 = .ok (.iconst 0, 1) := by decide +kernel
theorem dX0_hasVertex_2 : decode cX0_hasVertex 2 = .ok (.aload_n 0, 1) := by decide +kernel
theorem dX0_hasVertex_3 : decode cX0_hasVertex 3 = .ok (.getfield 27, 3) := by decide +kernel
theorem dX0_hasVertex_6 : decode cX0_hasVertex 6 = .ok (.iconst 1, 1) := by decide +kernel
theorem dX0_hasVertex_7 : decode cX0_hasVertex 7 = .ok (.isub, 1) := by decide +kernel
theorem dX0_hasVertex_8 : decode cX0_hasVertex 8 = .ok (.invokestatic 46, 3) := by decide +kernel
theorem dX0_hasVertex_11 : decode cX0_hasVertex 11 = .ok (.ireturn, 1) := by decide +kernel
set_option maxRecDepth 20000 in
theorem ggX0_hasColour_X5_within : GoodIn wsX0_hasColour wsX5_within := goodIn_r _ [4] (by decide +kernel) (by decide +kernel)
set_option maxRecDepth 20000 in
theorem gX0_hasColour_X5_within_n46 : GoodIn wsX0_hasColour (wsX5_within) := ggX0_hasColour_X5_within
theorem dX0_hasColour_0 : decode cX0_hasColour 0 = .ok (.iload_n 1, 1) := by decide +kernel
theorem dX0_hasColour_1 : decode cX0_hasColour 1 = .ok (.iconst 0, 1) := by decide +kernel
theorem dX0_hasColour_2 : decode cX0_hasColour 2 = .ok (.aload_n 0, 1) := by decide +kernel
theorem dX0_hasColour_3 : decode cX0_hasColour 3 = .ok (.getfield 31, 3) := by decide +kernel
theorem dX0_hasColour_6 : decode cX0_hasColour 6 = .ok (.iconst 1, 1) := by decide +kernel
theorem dX0_hasColour_7 : decode cX0_hasColour 7 = .ok (.isub, 1) := by decide +kernel
theorem dX0_hasColour_8 : decode cX0_hasColour 8 = .ok (.invokestatic 46, 3) := by decide +kernel
theorem dX0_hasColour_11 : decode cX0_hasColour 11 = .ok (.ireturn, 1) := by decide +kernel
set_option maxRecDepth 20000 in
theorem ggX0_hasEdge_X5_within : GoodIn wsX0_hasEdge wsX5_within := goodIn_r _ [4] (by decide +kernel) (by decide +kernel)
set_option maxRecDepth 20000 in
theorem gX0_hasEdge_X5_within_n46 : GoodIn wsX0_hasEdge (wsX5_within) := ggX0_hasEdge_X5_within
theorem dX0_hasEdge_0 : decode cX0_hasEdge 0 = .ok (.iload_n 1, 1) := by decide +kernel
theorem dX0_hasEdge_1 : decode cX0_hasEdge 1 = .ok (.iconst 0, 1) := by decide +kernel
theorem dX0_hasEdge_2 : decode cX0_hasEdge 2 = .ok (.aload_n 0, 1) := by decide +kernel
theorem dX0_hasEdge_3 : decode cX0_hasEdge 3 = .ok (.getfield 34, 3) := by decide +kernel
theorem dX0_hasEdge_6 : decode cX0_hasEdge 6 = .ok (.iconst 1, 1) := by decide +kernel
theorem dX0_hasEdge_7 : decode cX0_hasEdge 7 = .ok (.isub, 1) := by decide +kernel
theorem dX0_hasEdge_8 : decode cX0_hasEdge 8 = .ok (.invokestatic 46, 3) := by decide +kernel
theorem dX0_hasEdge_11 : decode cX0_hasEdge 11 = .ok (.ireturn, 1) := by decide +kernel
set_option maxRecDepth 20000 in
theorem ggX0_hasSet_X0_allEdges : GoodIn wsX0_hasSet wsX0_allEdges := goodIn_r _ [5, 6, 7, 8, 9, 10, 11, 12, 13, 14, 15] (by decide +kernel) (by decide +kernel)
set_option maxRecDepth 20000 in
theorem gX0_hasSet_X0_allEdges : GoodIn wsX0_hasSet (wsV RX0 50 RX0 yX0_allEdges wsX0_allEdges) := goodIn_app (goodIn_of _ (by decide +kernel)) ggX0_hasSet_X0_allEdges
theorem dX0_hasSet_0 : decode cX0_hasSet 0 = .ok (.iload_n 1, 1) := by decide +kernel
theorem dX0_hasSet_1 : decode cX0_hasSet 1 = .ok (.aload_n 0, 1) := by decide +kernel
theorem dX0_hasSet_2 : decode cX0_hasSet 2 = .ok (.invokevirtual 50, 3) := by decide +kernel
theorem dX0_hasSet_5 : decode cX0_hasSet 5 = .ok (.iconst (-1), 1) := by decide +kernel
theorem dX0_hasSet_6 : decode cX0_hasSet 6 = .ok (.ixor, 1) := by decide +kernel
theorem dX0_hasSet_7 : decode cX0_hasSet 7 = .ok (.iand, 1) := by decide +kernel
theorem dX0_hasSet_8 : decode cX0_hasSet 8 = .ok (.ifCond .ne 7, 3) := by decide +kernel
theorem dX0_hasSet_11 : decode cX0_hasSet 11 = .ok (.iconst 1, 1) := by decide +kernel
theorem dX0_hasSet_12 : decode cX0_hasSet 12 = .ok (.goto 4, 3) := by decide +kernel
theorem dX0_hasSet_15 : decode cX0_hasSet 15 = .ok (.iconst 0, 1) := by decide +kernel
theorem dX0_hasSet_16 : decode cX0_hasSet 16 = .ok (.ireturn, 1) := by decide +kernel
theorem dX0_allEdges_0 : decode cX0_allEdges 0 = .ok (.iconst 1, 1) := by decide +kernel
theorem dX0_allEdges_1 : decode cX0_allEdges 1 = .ok (.aload_n 0, 1) := by decide +kernel
theorem dX0_allEdges_2 : decode cX0_allEdges 2 = .ok (.getfield 34, 3) := by decide +kernel
theorem dX0_allEdges_5 : decode cX0_allEdges 5 = .ok (.ishl, 1) := by decide +kernel
theorem dX0_allEdges_6 : decode cX0_allEdges 6 = .ok (.iconst 1, 1) := by decide +kernel
theorem dX0_allEdges_7 : decode cX0_allEdges 7 = .ok (.isub, 1) := by decide +kernel
theorem dX0_allEdges_8 : decode cX0_allEdges 8 = .ok (.ireturn, 1) := by decide +kernel
set_option maxRecDepth 20000 in
theorem ggX0_loneParts_X5_withCell : GoodIn wsX0_loneParts wsX5_withCell := goodIn_r _ [4] (by decide +kernel) (by decide +kernel)
set_option maxRecDepth 20000 in
theorem gX0_loneParts_X5_withCell_n54 : GoodIn wsX0_loneParts (wsX5_withCell) := ggX0_loneParts_X5_withCell
theorem dX0_loneParts_0 : decode cX0_loneParts 0 = .ok (.iconst 0, 1) := by decide +kernel
theorem dX0_loneParts_1 : decode cX0_loneParts 1 = .ok (.istore_n 1, 1) := by decide +kernel
theorem dX0_loneParts_2 : decode cX0_loneParts 2 = .ok (.iconst 0, 1) := by decide +kernel
theorem dX0_loneParts_3 : decode cX0_loneParts 3 = .ok (.istore_n 2, 1) := by decide +kernel
theorem dX0_loneParts_4 : decode cX0_loneParts 4 = .ok (.iload_n 2, 1) := by decide +kernel
theorem dX0_loneParts_5 : decode cX0_loneParts 5 = .ok (.aload_n 0, 1) := by decide +kernel
theorem dX0_loneParts_6 : decode cX0_loneParts 6 = .ok (.getfield 27, 3) := by decide +kernel
theorem dX0_loneParts_9 : decode cX0_loneParts 9 = .ok (.if_icmp .ge 16, 3) := by decide +kernel
theorem dX0_loneParts_12 : decode cX0_loneParts 12 = .ok (.iload_n 1, 1) := by decide +kernel
theorem dX0_loneParts_13 : decode cX0_loneParts 13 = .ok (.iload_n 2, 1) := by decide +kernel
theorem dX0_loneParts_14 : decode cX0_loneParts 14 = .ok (.iload_n 2, 1) := by decide +kernel
theorem dX0_loneParts_15 : decode cX0_loneParts 15 = .ok (.invokestatic 54, 3) := by decide +kernel
theorem dX0_loneParts_18 : decode cX0_loneParts 18 = .ok (.istore_n 1, 1) := by decide +kernel
theorem dX0_loneParts_19 : decode cX0_loneParts 19 = .ok (.iinc 2 1, 3) := by decide +kernel
theorem dX0_loneParts_22 : decode cX0_loneParts 22 = .ok (.goto (-18), 3) := by decide +kernel
theorem dX0_loneParts_25 : decode cX0_loneParts 25 = .ok (.iload_n 1, 1) := by decide +kernel
theorem dX0_loneParts_26 : decode cX0_loneParts 26 = .ok (.ireturn, 1) := by decide +kernel
set_option maxRecDepth 20000 in
theorem ggX0_joinsTwoParts_X5_cell : GoodIn wsX0_joinsTwoParts wsX5_cell := goodIn_r _ [5] (by decide +kernel) (by decide +kernel)
set_option maxRecDepth 20000 in
theorem gX0_joinsTwoParts_X5_cell_n58 : GoodIn wsX0_joinsTwoParts (wsX5_cell) := ggX0_joinsTwoParts_X5_cell
theorem dX0_joinsTwoParts_0 : decode cX0_joinsTwoParts 0 = .ok (.iload_n 1, 1) := by decide +kernel
theorem dX0_joinsTwoParts_1 : decode cX0_joinsTwoParts 1 = .ok (.aload_n 0, 1) := by decide +kernel
theorem dX0_joinsTwoParts_2 : decode cX0_joinsTwoParts 2 = .ok (.getfield 15, 3) := by decide +kernel
theorem dX0_joinsTwoParts_5 : decode cX0_joinsTwoParts 5 = .ok (.iload_n 2, 1) := by decide +kernel
theorem dX0_joinsTwoParts_6 : decode cX0_joinsTwoParts 6 = .ok (.iaload, 1) := by decide +kernel
theorem dX0_joinsTwoParts_7 : decode cX0_joinsTwoParts 7 = .ok (.invokestatic 58, 3) := by decide +kernel
theorem dX0_joinsTwoParts_10 : decode cX0_joinsTwoParts 10 = .ok (.iload_n 1, 1) := by decide +kernel
theorem dX0_joinsTwoParts_11 : decode cX0_joinsTwoParts 11 = .ok (.aload_n 0, 1) := by decide +kernel
theorem dX0_joinsTwoParts_12 : decode cX0_joinsTwoParts 12 = .ok (.getfield 18, 3) := by decide +kernel
theorem dX0_joinsTwoParts_15 : decode cX0_joinsTwoParts 15 = .ok (.iload_n 2, 1) := by decide +kernel
theorem dX0_joinsTwoParts_16 : decode cX0_joinsTwoParts 16 = .ok (.iaload, 1) := by decide +kernel
theorem dX0_joinsTwoParts_17 : decode cX0_joinsTwoParts 17 = .ok (.invokestatic 58, 3) := by decide +kernel
theorem dX0_joinsTwoParts_20 : decode cX0_joinsTwoParts 20 = .ok (.if_icmp .eq 7, 3) := by decide +kernel
theorem dX0_joinsTwoParts_23 : decode cX0_joinsTwoParts 23 = .ok (.iconst 1, 1) := by decide +kernel
theorem dX0_joinsTwoParts_24 : decode cX0_joinsTwoParts 24 = .ok (.goto 4, 3) := by decide +kernel
theorem dX0_joinsTwoParts_27 : decode cX0_joinsTwoParts 27 = .ok (.iconst 0, 1) := by decide +kernel
theorem dX0_joinsTwoParts_28 : decode cX0_joinsTwoParts 28 = .ok (.ireturn, 1) := by decide +kernel
set_option maxRecDepth 20000 in
theorem ggX0_partsJoinedBy_X5_cell : GoodIn wsX0_partsJoinedBy wsX5_cell := goodIn_r _ [6] (by decide +kernel) (by decide +kernel)
set_option maxRecDepth 20000 in
theorem gX0_partsJoinedBy_X5_cell_n58 : GoodIn wsX0_partsJoinedBy (wsX5_cell) := ggX0_partsJoinedBy_X5_cell
set_option maxRecDepth 20000 in
theorem ggX0_partsJoinedBy_X5_withCell : GoodIn wsX0_partsJoinedBy wsX5_withCell := goodIn_r _ [8] (by decide +kernel) (by decide +kernel)
set_option maxRecDepth 20000 in
theorem gX0_partsJoinedBy_X5_withCell_n54 : GoodIn wsX0_partsJoinedBy (wsX5_withCell) := ggX0_partsJoinedBy_X5_withCell
theorem dX0_partsJoinedBy_0 : decode cX0_partsJoinedBy 0 = .ok (.iload_n 1, 1) := by decide +kernel
theorem dX0_partsJoinedBy_1 : decode cX0_partsJoinedBy 1 = .ok (.aload_n 0, 1) := by decide +kernel
theorem dX0_partsJoinedBy_2 : decode cX0_partsJoinedBy 2 = .ok (.getfield 15, 3) := by decide +kernel
theorem dX0_partsJoinedBy_5 : decode cX0_partsJoinedBy 5 = .ok (.iload_n 2, 1) := by decide +kernel
theorem dX0_partsJoinedBy_6 : decode cX0_partsJoinedBy 6 = .ok (.iaload, 1) := by decide +kernel
theorem dX0_partsJoinedBy_7 : decode cX0_partsJoinedBy 7 = .ok (.invokestatic 58, 3) := by decide +kernel
theorem dX0_partsJoinedBy_10 : decode cX0_partsJoinedBy 10 = .ok (.istore_n 3, 1) := by decide +kernel
theorem dX0_partsJoinedBy_11 : decode cX0_partsJoinedBy 11 = .ok (.iload_n 1, 1) := by decide +kernel
theorem dX0_partsJoinedBy_12 : decode cX0_partsJoinedBy 12 = .ok (.aload_n 0, 1) := by decide +kernel
theorem dX0_partsJoinedBy_13 : decode cX0_partsJoinedBy 13 = .ok (.getfield 18, 3) := by decide +kernel
theorem dX0_partsJoinedBy_16 : decode cX0_partsJoinedBy 16 = .ok (.iload_n 2, 1) := by decide +kernel
theorem dX0_partsJoinedBy_17 : decode cX0_partsJoinedBy 17 = .ok (.iaload, 1) := by decide +kernel
theorem dX0_partsJoinedBy_18 : decode cX0_partsJoinedBy 18 = .ok (.invokestatic 58, 3) := by decide +kernel
theorem dX0_partsJoinedBy_21 : decode cX0_partsJoinedBy 21 = .ok (.istore 4, 2) := by decide +kernel
theorem dX0_partsJoinedBy_23 : decode cX0_partsJoinedBy 23 = .ok (.iload_n 1, 1) := by decide +kernel
theorem dX0_partsJoinedBy_24 : decode cX0_partsJoinedBy 24 = .ok (.istore 5, 2) := by decide +kernel
theorem dX0_partsJoinedBy_26 : decode cX0_partsJoinedBy 26 = .ok (.iconst 0, 1) := by decide +kernel
theorem dX0_partsJoinedBy_27 : decode cX0_partsJoinedBy 27 = .ok (.istore 6, 2) := by decide +kernel
theorem dX0_partsJoinedBy_29 : decode cX0_partsJoinedBy 29 = .ok (.iload 6, 2) := by decide +kernel
theorem dX0_partsJoinedBy_31 : decode cX0_partsJoinedBy 31 = .ok (.aload_n 0, 1) := by decide +kernel
theorem dX0_partsJoinedBy_32 : decode cX0_partsJoinedBy 32 = .ok (.getfield 27, 3) := by decide +kernel
theorem dX0_partsJoinedBy_35 : decode cX0_partsJoinedBy 35 = .ok (.if_icmp .ge 30, 3) := by decide +kernel
theorem dX0_partsJoinedBy_38 : decode cX0_partsJoinedBy 38 = .ok (.iload_n 1, 1) := by decide +kernel
theorem dX0_partsJoinedBy_39 : decode cX0_partsJoinedBy 39 = .ok (.iload 6, 2) := by decide +kernel
theorem dX0_partsJoinedBy_41 : decode cX0_partsJoinedBy 41 = .ok (.invokestatic 58, 3) := by decide +kernel
theorem dX0_partsJoinedBy_44 : decode cX0_partsJoinedBy 44 = .ok (.iload 4, 2) := by decide +kernel
theorem dX0_partsJoinedBy_46 : decode cX0_partsJoinedBy 46 = .ok (.if_icmp .ne 13, 3) := by decide +kernel
theorem dX0_partsJoinedBy_49 : decode cX0_partsJoinedBy 49 = .ok (.iload 5, 2) := by decide +kernel
theorem dX0_partsJoinedBy_51 : decode cX0_partsJoinedBy 51 = .ok (.iload 6, 2) := by decide +kernel
theorem dX0_partsJoinedBy_53 : decode cX0_partsJoinedBy 53 = .ok (.iload_n 3, 1) := by decide +kernel
theorem dX0_partsJoinedBy_54 : decode cX0_partsJoinedBy 54 = .ok (.invokestatic 54, 3) := by decide +kernel
theorem dX0_partsJoinedBy_57 : decode cX0_partsJoinedBy 57 = .ok (.istore 5, 2) := by decide +kernel
theorem dX0_partsJoinedBy_59 : decode cX0_partsJoinedBy 59 = .ok (.iinc 6 1, 3) := by decide +kernel
theorem dX0_partsJoinedBy_62 : decode cX0_partsJoinedBy 62 = .ok (.goto (-33), 3) := by decide +kernel
theorem dX0_partsJoinedBy_65 : decode cX0_partsJoinedBy 65 = .ok (.iload 5, 2) := by decide +kernel
theorem dX0_partsJoinedBy_67 : decode cX0_partsJoinedBy 67 = .ok (.ireturn, 1) := by decide +kernel
set_option maxRecDepth 20000 in
theorem ggX0_fullRoom_X5_withCell : GoodIn wsX0_fullRoom wsX5_withCell := goodIn_r _ [5] (by decide +kernel) (by decide +kernel)
set_option maxRecDepth 20000 in
theorem gX0_fullRoom_X5_withCell_n54 : GoodIn wsX0_fullRoom (wsX5_withCell) := ggX0_fullRoom_X5_withCell
theorem dX0_fullRoom_0 : decode cX0_fullRoom 0 = .ok (.iconst 0, 1) := by decide +kernel
theorem dX0_fullRoom_1 : decode cX0_fullRoom 1 = .ok (.istore_n 1, 1) := by decide +kernel
theorem dX0_fullRoom_2 : decode cX0_fullRoom 2 = .ok (.iconst 0, 1) := by decide +kernel
theorem dX0_fullRoom_3 : decode cX0_fullRoom 3 = .ok (.istore_n 2, 1) := by decide +kernel
theorem dX0_fullRoom_4 : decode cX0_fullRoom 4 = .ok (.iload_n 2, 1) := by decide +kernel
theorem dX0_fullRoom_5 : decode cX0_fullRoom 5 = .ok (.aload_n 0, 1) := by decide +kernel
theorem dX0_fullRoom_6 : decode cX0_fullRoom 6 = .ok (.getfield 31, 3) := by decide +kernel
theorem dX0_fullRoom_9 : decode cX0_fullRoom 9 = .ok (.if_icmp .ge 21, 3) := by decide +kernel
theorem dX0_fullRoom_12 : decode cX0_fullRoom 12 = .ok (.iload_n 1, 1) := by decide +kernel
theorem dX0_fullRoom_13 : decode cX0_fullRoom 13 = .ok (.iload_n 2, 1) := by decide +kernel
theorem dX0_fullRoom_14 : decode cX0_fullRoom 14 = .ok (.aload_n 0, 1) := by decide +kernel
theorem dX0_fullRoom_15 : decode cX0_fullRoom 15 = .ok (.getfield 9, 3) := by decide +kernel
theorem dX0_fullRoom_18 : decode cX0_fullRoom 18 = .ok (.iload_n 2, 1) := by decide +kernel
theorem dX0_fullRoom_19 : decode cX0_fullRoom 19 = .ok (.iaload, 1) := by decide +kernel
theorem dX0_fullRoom_20 : decode cX0_fullRoom 20 = .ok (.invokestatic 54, 3) := by decide +kernel
theorem dX0_fullRoom_23 : decode cX0_fullRoom 23 = .ok (.istore_n 1, 1) := by decide +kernel
theorem dX0_fullRoom_24 : decode cX0_fullRoom 24 = .ok (.iinc 2 1, 3) := by decide +kernel
theorem dX0_fullRoom_27 : decode cX0_fullRoom 27 = .ok (.goto (-23), 3) := by decide +kernel
theorem dX0_fullRoom_30 : decode cX0_fullRoom 30 = .ok (.iload_n 1, 1) := by decide +kernel
theorem dX0_fullRoom_31 : decode cX0_fullRoom 31 = .ok (.ireturn, 1) := by decide +kernel
set_option maxRecDepth 20000 in
theorem ggX0_hasRoom_X5_cell : GoodIn wsX0_hasRoom wsX5_cell := goodIn_r _ [4] (by decide +kernel) (by decide +kernel)
set_option maxRecDepth 20000 in
theorem gX0_hasRoom_X5_cell_n58 : GoodIn wsX0_hasRoom (wsX5_cell) := ggX0_hasRoom_X5_cell
theorem dX0_hasRoom_0 : decode cX0_hasRoom 0 = .ok (.iload_n 1, 1) := by decide +kernel
theorem dX0_hasRoom_1 : decode cX0_hasRoom 1 = .ok (.aload_n 0, 1) := by decide +kernel
theorem dX0_hasRoom_2 : decode cX0_hasRoom 2 = .ok (.getfield 21, 3) := by decide +kernel
theorem dX0_hasRoom_5 : decode cX0_hasRoom 5 = .ok (.iload_n 2, 1) := by decide +kernel
theorem dX0_hasRoom_6 : decode cX0_hasRoom 6 = .ok (.iaload, 1) := by decide +kernel
theorem dX0_hasRoom_7 : decode cX0_hasRoom 7 = .ok (.invokestatic 58, 3) := by decide +kernel
theorem dX0_hasRoom_10 : decode cX0_hasRoom 10 = .ok (.ifCond .le 7, 3) := by decide +kernel
theorem dX0_hasRoom_13 : decode cX0_hasRoom 13 = .ok (.iconst 1, 1) := by decide +kernel
theorem dX0_hasRoom_14 : decode cX0_hasRoom 14 = .ok (.goto 4, 3) := by decide +kernel
theorem dX0_hasRoom_17 : decode cX0_hasRoom 17 = .ok (.iconst 0, 1) := by decide +kernel
theorem dX0_hasRoom_18 : decode cX0_hasRoom 18 = .ok (.ireturn, 1) := by decide +kernel
set_option maxRecDepth 20000 in
theorem ggX0_roomAfter_X5_cell : GoodIn wsX0_roomAfter wsX5_cell := goodIn_r _ [4] (by decide +kernel) (by decide +kernel)
set_option maxRecDepth 20000 in
theorem gX0_roomAfter_X5_cell_n58 : GoodIn wsX0_roomAfter (wsX5_cell) := ggX0_roomAfter_X5_cell
set_option maxRecDepth 20000 in
theorem ggX0_roomAfter_X5_withCell : GoodIn wsX0_roomAfter wsX5_withCell := goodIn_r _ [6] (by decide +kernel) (by decide +kernel)
set_option maxRecDepth 20000 in
theorem gX0_roomAfter_X5_withCell_n54 : GoodIn wsX0_roomAfter (wsX5_withCell) := ggX0_roomAfter_X5_withCell
theorem dX0_roomAfter_0 : decode cX0_roomAfter 0 = .ok (.iload_n 1, 1) := by decide +kernel
theorem dX0_roomAfter_1 : decode cX0_roomAfter 1 = .ok (.aload_n 0, 1) := by decide +kernel
theorem dX0_roomAfter_2 : decode cX0_roomAfter 2 = .ok (.getfield 21, 3) := by decide +kernel
theorem dX0_roomAfter_5 : decode cX0_roomAfter 5 = .ok (.iload_n 2, 1) := by decide +kernel
theorem dX0_roomAfter_6 : decode cX0_roomAfter 6 = .ok (.iaload, 1) := by decide +kernel
theorem dX0_roomAfter_7 : decode cX0_roomAfter 7 = .ok (.iload_n 1, 1) := by decide +kernel
theorem dX0_roomAfter_8 : decode cX0_roomAfter 8 = .ok (.aload_n 0, 1) := by decide +kernel
theorem dX0_roomAfter_9 : decode cX0_roomAfter 9 = .ok (.getfield 21, 3) := by decide +kernel
theorem dX0_roomAfter_12 : decode cX0_roomAfter 12 = .ok (.iload_n 2, 1) := by decide +kernel
theorem dX0_roomAfter_13 : decode cX0_roomAfter 13 = .ok (.iaload, 1) := by decide +kernel
theorem dX0_roomAfter_14 : decode cX0_roomAfter 14 = .ok (.invokestatic 58, 3) := by decide +kernel
theorem dX0_roomAfter_17 : decode cX0_roomAfter 17 = .ok (.iconst 1, 1) := by decide +kernel
theorem dX0_roomAfter_18 : decode cX0_roomAfter 18 = .ok (.isub, 1) := by decide +kernel
theorem dX0_roomAfter_19 : decode cX0_roomAfter 19 = .ok (.invokestatic 54, 3) := by decide +kernel
theorem dX0_roomAfter_22 : decode cX0_roomAfter 22 = .ok (.ireturn, 1) := by decide +kernel
theorem dX1_init_0 : decode cX1_init 0 = .ok (.aload_n 0, 1) := by decide +kernel
theorem dX1_init_1 : decode cX1_init 1 = .ok (.invokespecial 1, 3) := by decide +kernel
theorem dX1_init_4 : decode cX1_init 4 = .ok (.aload_n 0, 1) := by decide +kernel
theorem dX1_init_5 : decode cX1_init 5 = .ok (.aload_n 1, 1) := by decide +kernel
theorem dX1_init_6 : decode cX1_init 6 = .ok (.putfield 7, 3) := by decide +kernel
theorem dX1_init_9 : decode cX1_init 9 = .ok (.return_, 1) := by decide +kernel
set_option maxRecDepth 20000 in
theorem ggX1_allows_X2_rankOf : GoodIn wsX1_allows wsX2_rankOf := goodIn_r _ [6, 7, 8, 9, 10, 11, 12, 13, 14, 15, 16, 17, 18, 19, 20, 21, 22, 23, 24, 25, 26, 27, 28, 29, 30, 31, 32, 62, 63, 64, 65, 66, 67, 68, 69, 70, 71, 72] (by decide +kernel) (by decide +kernel)
set_option maxRecDepth 20000 in
theorem gX1_allows_X2_rankOf_u13X2 : GoodIn wsX1_allows (va_wsU RX1 13 RX2 "ColourForests$Kind" ⟨"ColourForests$Kind", "rankOf", "(I)I"⟩ yX2_rankOf wsX2_rankOf) := goodIn_app (goodIn_of _ (by decide +kernel)) ggX1_allows_X2_rankOf
set_option maxRecDepth 20000 in
theorem ggX1_allows_X3_rankOf : GoodIn wsX1_allows wsX3_rankOf := goodIn_r _ [36, 37, 38, 39, 40, 41, 42, 13, 43, 44, 17, 18, 19, 20, 21, 45, 46, 47, 48, 49, 50, 27, 28, 51, 52, 53, 54, 62, 63, 64, 65, 66, 67, 68, 69, 70, 71, 72] (by decide +kernel) (by decide +kernel)
set_option maxRecDepth 20000 in
theorem gX1_allows_X3_rankOf_u13X3 : GoodIn wsX1_allows (va_wsU RX1 13 RX3 "ColourForests$Kind" ⟨"ColourForests$Kind", "rankOf", "(I)I"⟩ yX3_rankOf wsX3_rankOf) := goodIn_app (goodIn_of _ (by decide +kernel)) ggX1_allows_X3_rankOf
set_option maxRecDepth 20000 in
theorem ggX1_allows_J6_bitCount_0f7a4 : GoodIn wsX1_allows wsJ6_bitCount_0f7a4 := goodIn_r _ [58, 59, 60, 61] (by decide +kernel) (by decide +kernel)
set_option maxRecDepth 20000 in
theorem gX1_allows_J6_bitCount_0f7a4 : GoodIn wsX1_allows (va_wsS RX1 17 yJ6_bitCount_0f7a4 wsJ6_bitCount_0f7a4) := goodIn_app (goodIn_of _ (by decide +kernel)) ggX1_allows_J6_bitCount_0f7a4
theorem dX1_allows_0 : decode cX1_allows 0 = .ok (.aload_n 0, 1) := by decide +kernel
theorem dX1_allows_1 : decode cX1_allows 1 = .ok (.iload_n 1, 1) := by decide +kernel
theorem dX1_allows_2 : decode cX1_allows 2 = .ok (.invokevirtual 13, 3) := by decide +kernel
theorem dX1_allows_5 : decode cX1_allows 5 = .ok (.iload_n 1, 1) := by decide +kernel
theorem dX1_allows_6 : decode cX1_allows 6 = .ok (.invokestatic 17, 3) := by decide +kernel
theorem dX1_allows_9 : decode cX1_allows 9 = .ok (.if_icmp .ne 7, 3) := by decide +kernel
theorem dX1_allows_12 : decode cX1_allows 12 = .ok (.iconst 1, 1) := by decide +kernel
theorem dX1_allows_13 : decode cX1_allows 13 = .ok (.goto 4, 3) := by decide +kernel
theorem dX1_allows_16 : decode cX1_allows 16 = .ok (.iconst 0, 1) := by decide +kernel
theorem dX1_allows_17 : decode cX1_allows 17 = .ok (.ireturn, 1) := by decide +kernel
set_option maxRecDepth 20000 in
theorem ggX1_circuitWithin_X2_rankOf : GoodIn wsX1_circuitWithin wsX2_rankOf := goodIn_r _ [8, 9, 10, 11, 12, 13, 14, 15, 16, 17, 18, 19, 20, 21, 22, 23, 24, 25, 26, 27, 28, 29, 30, 31, 32, 33, 34, 57, 58, 59, 60, 61, 62, 63, 64, 65, 66, 67] (by decide +kernel) (by decide +kernel)
set_option maxRecDepth 20000 in
theorem gX1_circuitWithin_X2_rankOf_u13X2 : GoodIn wsX1_circuitWithin (va_wsU RX1 13 RX2 "ColourForests$Kind" ⟨"ColourForests$Kind", "rankOf", "(I)I"⟩ yX2_rankOf wsX2_rankOf) := goodIn_app (goodIn_of _ (by decide +kernel)) ggX1_circuitWithin_X2_rankOf
set_option maxRecDepth 20000 in
theorem ggX1_circuitWithin_X3_rankOf : GoodIn wsX1_circuitWithin wsX3_rankOf := goodIn_r _ [38, 39, 40, 41, 42, 43, 44, 15, 45, 46, 19, 20, 21, 22, 23, 47, 48, 49, 50, 51, 52, 29, 30, 53, 54, 55, 56, 57, 58, 59, 60, 61, 62, 63, 64, 65, 66, 67] (by decide +kernel) (by decide +kernel)
set_option maxRecDepth 20000 in
theorem gX1_circuitWithin_X3_rankOf_u13X3 : GoodIn wsX1_circuitWithin (va_wsU RX1 13 RX3 "ColourForests$Kind" ⟨"ColourForests$Kind", "rankOf", "(I)I"⟩ yX3_rankOf wsX3_rankOf) := goodIn_app (goodIn_of _ (by decide +kernel)) ggX1_circuitWithin_X3_rankOf
theorem dX1_circuitWithin_0 : decode cX1_circuitWithin 0 = .ok (.aload_n 0, 1) := by decide +kernel
theorem dX1_circuitWithin_1 : decode cX1_circuitWithin 1 = .ok (.iload_n 1, 1) := by decide +kernel
theorem dX1_circuitWithin_2 : decode cX1_circuitWithin 2 = .ok (.invokevirtual 13, 3) := by decide +kernel
theorem dX1_circuitWithin_5 : decode cX1_circuitWithin 5 = .ok (.istore_n 2, 1) := by decide +kernel
theorem dX1_circuitWithin_6 : decode cX1_circuitWithin 6 = .ok (.iconst 0, 1) := by decide +kernel
theorem dX1_circuitWithin_7 : decode cX1_circuitWithin 7 = .ok (.istore_n 3, 1) := by decide +kernel
theorem dX1_circuitWithin_8 : decode cX1_circuitWithin 8 = .ok (.iconst 0, 1) := by decide +kernel
theorem dX1_circuitWithin_9 : decode cX1_circuitWithin 9 = .ok (.istore 4, 2) := by decide +kernel
theorem dX1_circuitWithin_11 : decode cX1_circuitWithin 11 = .ok (.iload 4, 2) := by decide +kernel
theorem dX1_circuitWithin_13 : decode cX1_circuitWithin 13 = .ok (.aload_n 0, 1) := by decide +kernel
theorem dX1_circuitWithin_14 : decode cX1_circuitWithin 14 = .ok (.getfield 7, 3) := by decide +kernel
theorem dX1_circuitWithin_17 : decode cX1_circuitWithin 17 = .ok (.getfield 22, 3) := by decide +kernel
theorem dX1_circuitWithin_20 : decode cX1_circuitWithin 20 = .ok (.if_icmp .ge 41, 3) := by decide +kernel
theorem dX1_circuitWithin_23 : decode cX1_circuitWithin 23 = .ok (.iconst 1, 1) := by decide +kernel
theorem dX1_circuitWithin_24 : decode cX1_circuitWithin 24 = .ok (.iload 4, 2) := by decide +kernel
theorem dX1_circuitWithin_26 : decode cX1_circuitWithin 26 = .ok (.ishl, 1) := by decide +kernel
theorem dX1_circuitWithin_27 : decode cX1_circuitWithin 27 = .ok (.istore 5, 2) := by decide +kernel
theorem dX1_circuitWithin_29 : decode cX1_circuitWithin 29 = .ok (.iload_n 1, 1) := by decide +kernel
theorem dX1_circuitWithin_30 : decode cX1_circuitWithin 30 = .ok (.iload 5, 2) := by decide +kernel
theorem dX1_circuitWithin_32 : decode cX1_circuitWithin 32 = .ok (.iand, 1) := by decide +kernel
theorem dX1_circuitWithin_33 : decode cX1_circuitWithin 33 = .ok (.ifCond .eq 22, 3) := by decide +kernel
theorem dX1_circuitWithin_36 : decode cX1_circuitWithin 36 = .ok (.aload_n 0, 1) := by decide +kernel
theorem dX1_circuitWithin_37 : decode cX1_circuitWithin 37 = .ok (.iload_n 1, 1) := by decide +kernel
theorem dX1_circuitWithin_38 : decode cX1_circuitWithin 38 = .ok (.iload 5, 2) := by decide +kernel
theorem dX1_circuitWithin_40 : decode cX1_circuitWithin 40 = .ok (.iconst (-1), 1) := by decide +kernel
theorem dX1_circuitWithin_41 : decode cX1_circuitWithin 41 = .ok (.ixor, 1) := by decide +kernel
theorem dX1_circuitWithin_42 : decode cX1_circuitWithin 42 = .ok (.iand, 1) := by decide +kernel
theorem dX1_circuitWithin_43 : decode cX1_circuitWithin 43 = .ok (.invokevirtual 13, 3) := by decide +kernel
theorem dX1_circuitWithin_46 : decode cX1_circuitWithin 46 = .ok (.iload_n 2, 1) := by decide +kernel
theorem dX1_circuitWithin_47 : decode cX1_circuitWithin 47 = .ok (.if_icmp .ne 8, 3) := by decide +kernel
theorem dX1_circuitWithin_50 : decode cX1_circuitWithin 50 = .ok (.iload_n 3, 1) := by decide +kernel
theorem dX1_circuitWithin_51 : decode cX1_circuitWithin 51 = .ok (.iload 5, 2) := by decide +kernel
theorem dX1_circuitWithin_53 : decode cX1_circuitWithin 53 = .ok (.ior, 1) := by decide +kernel
theorem dX1_circuitWithin_54 : decode cX1_circuitWithin 54 = .ok (.istore_n 3, 1) := by decide +kernel
theorem dX1_circuitWithin_55 : decode cX1_circuitWithin 55 = .ok (.iinc 4 1, 3) := by decide +kernel
theorem dX1_circuitWithin_58 : decode cX1_circuitWithin 58 = .ok (.goto (-47), 3) := by decide +kernel
theorem dX1_circuitWithin_61 : decode cX1_circuitWithin 61 = .ok (.iload_n 3, 1) := by decide +kernel
theorem dX1_circuitWithin_62 : decode cX1_circuitWithin 62 = .ok (.ireturn, 1) := by decide +kernel
set_option maxRecDepth 20000 in
theorem ggX1_closureOf_X2_rankOf : GoodIn wsX1_closureOf wsX2_rankOf := goodIn_r _ [8, 9, 10, 11, 12, 13, 14, 15, 16, 17, 18, 19, 20, 21, 22, 23, 24, 25, 26, 27, 28, 29, 30, 31, 32, 33, 34, 57, 58, 59, 60, 61, 62, 63, 64, 65, 66, 67] (by decide +kernel) (by decide +kernel)
set_option maxRecDepth 20000 in
theorem gX1_closureOf_X2_rankOf_u13X2 : GoodIn wsX1_closureOf (va_wsU RX1 13 RX2 "ColourForests$Kind" ⟨"ColourForests$Kind", "rankOf", "(I)I"⟩ yX2_rankOf wsX2_rankOf) := goodIn_app (goodIn_of _ (by decide +kernel)) ggX1_closureOf_X2_rankOf
set_option maxRecDepth 20000 in
theorem ggX1_closureOf_X3_rankOf : GoodIn wsX1_closureOf wsX3_rankOf := goodIn_r _ [38, 39, 40, 41, 42, 43, 44, 15, 45, 46, 19, 20, 21, 22, 23, 47, 48, 49, 50, 51, 52, 29, 30, 53, 54, 55, 56, 57, 58, 59, 60, 61, 62, 63, 64, 65, 66, 67] (by decide +kernel) (by decide +kernel)
set_option maxRecDepth 20000 in
theorem gX1_closureOf_X3_rankOf_u13X3 : GoodIn wsX1_closureOf (va_wsU RX1 13 RX3 "ColourForests$Kind" ⟨"ColourForests$Kind", "rankOf", "(I)I"⟩ yX3_rankOf wsX3_rankOf) := goodIn_app (goodIn_of _ (by decide +kernel)) ggX1_closureOf_X3_rankOf
theorem dX1_closureOf_0 : decode cX1_closureOf 0 = .ok (.aload_n 0, 1) := by decide +kernel
theorem dX1_closureOf_1 : decode cX1_closureOf 1 = .ok (.iload_n 1, 1) := by decide +kernel
theorem dX1_closureOf_2 : decode cX1_closureOf 2 = .ok (.invokevirtual 13, 3) := by decide +kernel
theorem dX1_closureOf_5 : decode cX1_closureOf 5 = .ok (.istore_n 2, 1) := by decide +kernel
theorem dX1_closureOf_6 : decode cX1_closureOf 6 = .ok (.iload_n 1, 1) := by decide +kernel
theorem dX1_closureOf_7 : decode cX1_closureOf 7 = .ok (.istore_n 3, 1) := by decide +kernel
theorem dX1_closureOf_8 : decode cX1_closureOf 8 = .ok (.iconst 0, 1) := by decide +kernel
theorem dX1_closureOf_9 : decode cX1_closureOf 9 = .ok (.istore 4, 2) := by decide +kernel
theorem dX1_closureOf_11 : decode cX1_closureOf 11 = .ok (.iload 4, 2) := by decide +kernel
theorem dX1_closureOf_13 : decode cX1_closureOf 13 = .ok (.aload_n 0, 1) := by decide +kernel
theorem dX1_closureOf_14 : decode cX1_closureOf 14 = .ok (.getfield 7, 3) := by decide +kernel
theorem dX1_closureOf_17 : decode cX1_closureOf 17 = .ok (.getfield 22, 3) := by decide +kernel
theorem dX1_closureOf_20 : decode cX1_closureOf 20 = .ok (.if_icmp .ge 32, 3) := by decide +kernel
theorem dX1_closureOf_23 : decode cX1_closureOf 23 = .ok (.iconst 1, 1) := by decide +kernel
theorem dX1_closureOf_24 : decode cX1_closureOf 24 = .ok (.iload 4, 2) := by decide +kernel
theorem dX1_closureOf_26 : decode cX1_closureOf 26 = .ok (.ishl, 1) := by decide +kernel
theorem dX1_closureOf_27 : decode cX1_closureOf 27 = .ok (.istore 5, 2) := by decide +kernel
theorem dX1_closureOf_29 : decode cX1_closureOf 29 = .ok (.aload_n 0, 1) := by decide +kernel
theorem dX1_closureOf_30 : decode cX1_closureOf 30 = .ok (.iload_n 1, 1) := by decide +kernel
theorem dX1_closureOf_31 : decode cX1_closureOf 31 = .ok (.iload 5, 2) := by decide +kernel
theorem dX1_closureOf_33 : decode cX1_closureOf 33 = .ok (.ior, 1) := by decide +kernel
theorem dX1_closureOf_34 : decode cX1_closureOf 34 = .ok (.invokevirtual 13, 3) := by decide +kernel
theorem dX1_closureOf_37 : decode cX1_closureOf 37 = .ok (.iload_n 2, 1) := by decide +kernel
theorem dX1_closureOf_38 : decode cX1_closureOf 38 = .ok (.if_icmp .ne 8, 3) := by decide +kernel
theorem dX1_closureOf_41 : decode cX1_closureOf 41 = .ok (.iload_n 3, 1) := by decide +kernel
theorem dX1_closureOf_42 : decode cX1_closureOf 42 = .ok (.iload 5, 2) := by decide +kernel
theorem dX1_closureOf_44 : decode cX1_closureOf 44 = .ok (.ior, 1) := by decide +kernel
theorem dX1_closureOf_45 : decode cX1_closureOf 45 = .ok (.istore_n 3, 1) := by decide +kernel
theorem dX1_closureOf_46 : decode cX1_closureOf 46 = .ok (.iinc 4 1, 3) := by decide +kernel
theorem dX1_closureOf_49 : decode cX1_closureOf 49 = .ok (.goto (-38), 3) := by decide +kernel
theorem dX1_closureOf_52 : decode cX1_closureOf 52 = .ok (.iload_n 3, 1) := by decide +kernel
theorem dX1_closureOf_53 : decode cX1_closureOf 53 = .ok (.ireturn, 1) := by decide +kernel
set_option maxRecDepth 20000 in
theorem ggX2_init_X1_init : GoodIn wsX2_init wsX1_init := goodIn_r _ [4, 5, 6, 7, 8, 9, 10] (by decide +kernel) (by decide +kernel)
set_option maxRecDepth 20000 in
theorem gX2_init_X1_init : GoodIn wsX2_init (wsX1_init) := ggX2_init_X1_init
theorem dX2_init_0 : decode cX2_init 0 = .ok (.aload_n 0, 1) := by decide +kernel
theorem dX2_init_1 : decode cX2_init 1 = .ok (.aload_n 1, 1) := by decide +kernel
theorem dX2_init_2 : decode cX2_init 2 = .ok (.invokespecial 1, 3) := by decide +kernel
theorem dX2_init_5 : decode cX2_init 5 = .ok (.return_, 1) := by decide +kernel
set_option maxRecDepth 20000 in
theorem ggX2_rankOf_X0_fullRoom : GoodIn wsX2_rankOf wsX0_fullRoom := goodIn_r _ [8, 9, 10, 11, 12, 13, 29, 30, 31, 32, 33, 34, 35, 36, 37] (by decide +kernel) (by decide +kernel)
set_option maxRecDepth 20000 in
theorem gX2_rankOf_X0_fullRoom : GoodIn wsX2_rankOf (wsV RX2 13 RX0 yX0_fullRoom wsX0_fullRoom) := goodIn_app (goodIn_of _ (by decide +kernel)) ggX2_rankOf_X0_fullRoom
set_option maxRecDepth 20000 in
theorem ggX2_rankOf_X5_hasBit : GoodIn wsX2_rankOf wsX5_hasBit := goodIn_r _ [15] (by decide +kernel) (by decide +kernel)
set_option maxRecDepth 20000 in
theorem gX2_rankOf_X5_hasBit_n23 : GoodIn wsX2_rankOf (wsX5_hasBit) := ggX2_rankOf_X5_hasBit
set_option maxRecDepth 20000 in
theorem ggX2_rankOf_X0_hasRoom : GoodIn wsX2_rankOf wsX0_hasRoom := goodIn_r _ [19, 20, 21, 12, 22, 29, 30, 31, 32, 33, 34, 35, 36, 37] (by decide +kernel) (by decide +kernel)
set_option maxRecDepth 20000 in
theorem gX2_rankOf_X0_hasRoom : GoodIn wsX2_rankOf (wsV RX2 29 RX0 yX0_hasRoom wsX0_hasRoom) := goodIn_app (goodIn_of _ (by decide +kernel)) ggX2_rankOf_X0_hasRoom
set_option maxRecDepth 20000 in
theorem ggX2_rankOf_X0_roomAfter : GoodIn wsX2_rankOf wsX0_roomAfter := goodIn_r _ [26, 20, 21, 12, 22, 11, 13, 29, 30, 31, 32, 33, 34, 35, 36, 37] (by decide +kernel) (by decide +kernel)
set_option maxRecDepth 20000 in
theorem gX2_rankOf_X0_roomAfter : GoodIn wsX2_rankOf (wsV RX2 32 RX0 yX0_roomAfter wsX0_roomAfter) := goodIn_app (goodIn_of _ (by decide +kernel)) ggX2_rankOf_X0_roomAfter
theorem dX2_rankOf_0 : decode cX2_rankOf 0 = .ok (.aload_n 0, 1) := by decide +kernel
theorem dX2_rankOf_1 : decode cX2_rankOf 1 = .ok (.getfield 7, 3) := by decide +kernel
theorem dX2_rankOf_4 : decode cX2_rankOf 4 = .ok (.invokevirtual 13, 3) := by decide +kernel
theorem dX2_rankOf_7 : decode cX2_rankOf 7 = .ok (.istore_n 2, 1) := by decide +kernel
theorem dX2_rankOf_8 : decode cX2_rankOf 8 = .ok (.iconst 0, 1) := by decide +kernel
theorem dX2_rankOf_9 : decode cX2_rankOf 9 = .ok (.istore_n 3, 1) := by decide +kernel
theorem dX2_rankOf_10 : decode cX2_rankOf 10 = .ok (.iconst 0, 1) := by decide +kernel
theorem dX2_rankOf_11 : decode cX2_rankOf 11 = .ok (.istore 4, 2) := by decide +kernel
theorem dX2_rankOf_13 : decode cX2_rankOf 13 = .ok (.iload 4, 2) := by decide +kernel
theorem dX2_rankOf_15 : decode cX2_rankOf 15 = .ok (.aload_n 0, 1) := by decide +kernel
theorem dX2_rankOf_16 : decode cX2_rankOf 16 = .ok (.getfield 7, 3) := by decide +kernel
theorem dX2_rankOf_19 : decode cX2_rankOf 19 = .ok (.getfield 19, 3) := by decide +kernel
theorem dX2_rankOf_22 : decode cX2_rankOf 22 = .ok (.if_icmp .ge 45, 3) := by decide +kernel
theorem dX2_rankOf_25 : decode cX2_rankOf 25 = .ok (.iload_n 1, 1) := by decide +kernel
theorem dX2_rankOf_26 : decode cX2_rankOf 26 = .ok (.iload 4, 2) := by decide +kernel
theorem dX2_rankOf_28 : decode cX2_rankOf 28 = .ok (.invokestatic 23, 3) := by decide +kernel
theorem dX2_rankOf_31 : decode cX2_rankOf 31 = .ok (.ifCond .eq 30, 3) := by decide +kernel
theorem dX2_rankOf_34 : decode cX2_rankOf 34 = .ok (.aload_n 0, 1) := by decide +kernel
theorem dX2_rankOf_35 : decode cX2_rankOf 35 = .ok (.getfield 7, 3) := by decide +kernel
theorem dX2_rankOf_38 : decode cX2_rankOf 38 = .ok (.iload_n 2, 1) := by decide +kernel
theorem dX2_rankOf_39 : decode cX2_rankOf 39 = .ok (.iload 4, 2) := by decide +kernel
theorem dX2_rankOf_41 : decode cX2_rankOf 41 = .ok (.invokevirtual 29, 3) := by decide +kernel
theorem dX2_rankOf_44 : decode cX2_rankOf 44 = .ok (.ifCond .eq 17, 3) := by decide +kernel
theorem dX2_rankOf_47 : decode cX2_rankOf 47 = .ok (.aload_n 0, 1) := by decide +kernel
theorem dX2_rankOf_48 : decode cX2_rankOf 48 = .ok (.getfield 7, 3) := by decide +kernel
theorem dX2_rankOf_51 : decode cX2_rankOf 51 = .ok (.iload_n 2, 1) := by decide +kernel
theorem dX2_rankOf_52 : decode cX2_rankOf 52 = .ok (.iload 4, 2) := by decide +kernel
theorem dX2_rankOf_54 : decode cX2_rankOf 54 = .ok (.invokevirtual 32, 3) := by decide +kernel
theorem dX2_rankOf_57 : decode cX2_rankOf 57 = .ok (.istore_n 2, 1) := by decide +kernel
theorem dX2_rankOf_58 : decode cX2_rankOf 58 = .ok (.iinc 3 1, 3) := by decide +kernel
theorem dX2_rankOf_61 : decode cX2_rankOf 61 = .ok (.iinc 4 1, 3) := by decide +kernel
theorem dX2_rankOf_64 : decode cX2_rankOf 64 = .ok (.goto (-51), 3) := by decide +kernel
theorem dX2_rankOf_67 : decode cX2_rankOf 67 = .ok (.iload_n 3, 1) := by decide +kernel
theorem dX2_rankOf_68 : decode cX2_rankOf 68 = .ok (.ireturn, 1) := by decide +kernel
set_option maxRecDepth 20000 in
theorem ggX3_init_X1_init : GoodIn wsX3_init wsX1_init := goodIn_r _ [4, 5, 6, 7, 8, 9, 10] (by decide +kernel) (by decide +kernel)
set_option maxRecDepth 20000 in
theorem gX3_init_X1_init : GoodIn wsX3_init (wsX1_init) := ggX3_init_X1_init
theorem dX3_init_0 : decode cX3_init 0 = .ok (.aload_n 0, 1) := by decide +kernel
theorem dX3_init_1 : decode cX3_init 1 = .ok (.aload_n 1, 1) := by decide +kernel
theorem dX3_init_2 : decode cX3_init 2 = .ok (.invokespecial 1, 3) := by decide +kernel
theorem dX3_init_5 : decode cX3_init 5 = .ok (.return_, 1) := by decide +kernel
set_option maxRecDepth 20000 in
theorem ggX3_rankOf_X0_loneParts : GoodIn wsX3_rankOf wsX0_loneParts := goodIn_r _ [8, 9, 10, 11, 12, 29, 30, 31, 32, 33, 34, 35, 36, 37] (by decide +kernel) (by decide +kernel)
set_option maxRecDepth 20000 in
theorem gX3_rankOf_X0_loneParts : GoodIn wsX3_rankOf (wsV RX3 13 RX0 yX0_loneParts wsX0_loneParts) := goodIn_app (goodIn_of _ (by decide +kernel)) ggX3_rankOf_X0_loneParts
set_option maxRecDepth 20000 in
theorem ggX3_rankOf_X5_hasBit : GoodIn wsX3_rankOf wsX5_hasBit := goodIn_r _ [14] (by decide +kernel) (by decide +kernel)
set_option maxRecDepth 20000 in
theorem gX3_rankOf_X5_hasBit_n23 : GoodIn wsX3_rankOf (wsX5_hasBit) := ggX3_rankOf_X5_hasBit
set_option maxRecDepth 20000 in
theorem ggX3_rankOf_X0_joinsTwoParts : GoodIn wsX3_rankOf wsX0_joinsTwoParts := goodIn_r _ [18, 19, 20, 21, 11, 22, 29, 30, 31, 32, 33, 34, 35, 36, 37] (by decide +kernel) (by decide +kernel)
set_option maxRecDepth 20000 in
theorem gX3_rankOf_X0_joinsTwoParts : GoodIn wsX3_rankOf (wsV RX3 29 RX0 yX0_joinsTwoParts wsX0_joinsTwoParts) := goodIn_app (goodIn_of _ (by decide +kernel)) ggX3_rankOf_X0_joinsTwoParts
set_option maxRecDepth 20000 in
theorem ggX3_rankOf_X0_partsJoinedBy : GoodIn wsX3_rankOf wsX0_partsJoinedBy := goodIn_r _ [26, 19, 20, 9, 21, 11, 22, 10, 12, 29, 30, 31, 32, 33, 34, 35, 36, 37] (by decide +kernel) (by decide +kernel)
set_option maxRecDepth 20000 in
theorem gX3_rankOf_X0_partsJoinedBy : GoodIn wsX3_rankOf (wsV RX3 32 RX0 yX0_partsJoinedBy wsX0_partsJoinedBy) := goodIn_app (goodIn_of _ (by decide +kernel)) ggX3_rankOf_X0_partsJoinedBy
theorem dX3_rankOf_0 : decode cX3_rankOf 0 = .ok (.aload_n 0, 1) := by decide +kernel
theorem dX3_rankOf_1 : decode cX3_rankOf 1 = .ok (.getfield 7, 3) := by decide +kernel
theorem dX3_rankOf_4 : decode cX3_rankOf 4 = .ok (.invokevirtual 13, 3) := by decide +kernel
theorem dX3_rankOf_7 : decode cX3_rankOf 7 = .ok (.istore_n 2, 1) := by decide +kernel
theorem dX3_rankOf_8 : decode cX3_rankOf 8 = .ok (.iconst 0, 1) := by decide +kernel
theorem dX3_rankOf_9 : decode cX3_rankOf 9 = .ok (.istore_n 3, 1) := by decide +kernel
theorem dX3_rankOf_10 : decode cX3_rankOf 10 = .ok (.iconst 0, 1) := by decide +kernel
theorem dX3_rankOf_11 : decode cX3_rankOf 11 = .ok (.istore 4, 2) := by decide +kernel
theorem dX3_rankOf_13 : decode cX3_rankOf 13 = .ok (.iload 4, 2) := by decide +kernel
theorem dX3_rankOf_15 : decode cX3_rankOf 15 = .ok (.aload_n 0, 1) := by decide +kernel
theorem dX3_rankOf_16 : decode cX3_rankOf 16 = .ok (.getfield 7, 3) := by decide +kernel
theorem dX3_rankOf_19 : decode cX3_rankOf 19 = .ok (.getfield 19, 3) := by decide +kernel
theorem dX3_rankOf_22 : decode cX3_rankOf 22 = .ok (.if_icmp .ge 45, 3) := by decide +kernel
theorem dX3_rankOf_25 : decode cX3_rankOf 25 = .ok (.iload_n 1, 1) := by decide +kernel
theorem dX3_rankOf_26 : decode cX3_rankOf 26 = .ok (.iload 4, 2) := by decide +kernel
theorem dX3_rankOf_28 : decode cX3_rankOf 28 = .ok (.invokestatic 23, 3) := by decide +kernel
theorem dX3_rankOf_31 : decode cX3_rankOf 31 = .ok (.ifCond .eq 30, 3) := by decide +kernel
theorem dX3_rankOf_34 : decode cX3_rankOf 34 = .ok (.aload_n 0, 1) := by decide +kernel
theorem dX3_rankOf_35 : decode cX3_rankOf 35 = .ok (.getfield 7, 3) := by decide +kernel
theorem dX3_rankOf_38 : decode cX3_rankOf 38 = .ok (.iload_n 2, 1) := by decide +kernel
theorem dX3_rankOf_39 : decode cX3_rankOf 39 = .ok (.iload 4, 2) := by decide +kernel
theorem dX3_rankOf_41 : decode cX3_rankOf 41 = .ok (.invokevirtual 29, 3) := by decide +kernel
theorem dX3_rankOf_44 : decode cX3_rankOf 44 = .ok (.ifCond .eq 17, 3) := by decide +kernel
theorem dX3_rankOf_47 : decode cX3_rankOf 47 = .ok (.aload_n 0, 1) := by decide +kernel
theorem dX3_rankOf_48 : decode cX3_rankOf 48 = .ok (.getfield 7, 3) := by decide +kernel
theorem dX3_rankOf_51 : decode cX3_rankOf 51 = .ok (.iload_n 2, 1) := by decide +kernel
theorem dX3_rankOf_52 : decode cX3_rankOf 52 = .ok (.iload 4, 2) := by decide +kernel
theorem dX3_rankOf_54 : decode cX3_rankOf 54 = .ok (.invokevirtual 32, 3) := by decide +kernel
theorem dX3_rankOf_57 : decode cX3_rankOf 57 = .ok (.istore_n 2, 1) := by decide +kernel
theorem dX3_rankOf_58 : decode cX3_rankOf 58 = .ok (.iinc 3 1, 3) := by decide +kernel
theorem dX3_rankOf_61 : decode cX3_rankOf 61 = .ok (.iinc 4 1, 3) := by decide +kernel
theorem dX3_rankOf_64 : decode cX3_rankOf 64 = .ok (.goto (-51), 3) := by decide +kernel
theorem dX3_rankOf_67 : decode cX3_rankOf 67 = .ok (.iload_n 3, 1) := by decide +kernel
theorem dX3_rankOf_68 : decode cX3_rankOf 68 = .ok (.ireturn, 1) := by decide +kernel
theorem dX4_init_0 : decode cX4_init 0 = .ok (.aload_n 0, 1) := by decide +kernel
theorem dX4_init_1 : decode cX4_init 1 = .ok (.invokespecial 3, 3) := by decide +kernel
theorem dX4_init_4 : decode cX4_init 4 = .ok (.aload_n 0, 1) := by decide +kernel
theorem dX4_init_5 : decode cX4_init 5 = .ok (.iconst (-1), 1) := by decide +kernel
theorem dX4_init_6 : decode cX4_init 6 = .ok (.putfield 11, 3) := by decide +kernel
theorem dX4_init_9 : decode cX4_init 9 = .ok (.aload_n 0, 1) := by decide +kernel
theorem dX4_init_10 : decode cX4_init 10 = .ok (.bipush 8, 2) := by decide +kernel
theorem dX4_init_12 : decode cX4_init 12 = .ok (.newarray .int, 2) := by decide +kernel
theorem dX4_init_14 : decode cX4_init 14 = .ok (.putfield 15, 3) := by decide +kernel
theorem dX4_init_17 : decode cX4_init 17 = .ok (.aload_n 0, 1) := by decide +kernel
theorem dX4_init_18 : decode cX4_init 18 = .ok (.bipush 8, 2) := by decide +kernel
theorem dX4_init_20 : decode cX4_init 20 = .ok (.newarray .int, 2) := by decide +kernel
theorem dX4_init_22 : decode cX4_init 22 = .ok (.putfield 19, 3) := by decide +kernel
theorem dX4_init_25 : decode cX4_init 25 = .ok (.aload_n 0, 1) := by decide +kernel
theorem dX4_init_26 : decode cX4_init 26 = .ok (.bipush 15, 2) := by decide +kernel
theorem dX4_init_28 : decode cX4_init 28 = .ok (.newarray .int, 2) := by decide +kernel
theorem dX4_init_30 : decode cX4_init 30 = .ok (.putfield 22, 3) := by decide +kernel
theorem dX4_init_33 : decode cX4_init 33 = .ok (.aload_n 0, 1) := by decide +kernel
theorem dX4_init_34 : decode cX4_init 34 = .ok (.bipush 15, 2) := by decide +kernel
theorem dX4_init_36 : decode cX4_init 36 = .ok (.newarray .int, 2) := by decide +kernel
theorem dX4_init_38 : decode cX4_init 38 = .ok (.putfield 25, 3) := by decide +kernel
theorem dX4_init_41 : decode cX4_init 41 = .ok (.aload_n 0, 1) := by decide +kernel
theorem dX4_init_42 : decode cX4_init 42 = .ok (.bipush 15, 2) := by decide +kernel
theorem dX4_init_44 : decode cX4_init 44 = .ok (.newarray .int, 2) := by decide +kernel
theorem dX4_init_46 : decode cX4_init 46 = .ok (.putfield 28, 3) := by decide +kernel
theorem dX4_init_49 : decode cX4_init 49 = .ok (.aload_n 0, 1) := by decide +kernel
theorem dX4_init_50 : decode cX4_init 50 = .ok (.aload_n 1, 1) := by decide +kernel
theorem dX4_init_51 : decode cX4_init 51 = .ok (.putfield 31, 3) := by decide +kernel
theorem dX4_init_54 : decode cX4_init 54 = .ok (.return_, 1) := by decide +kernel
set_option maxRecDepth 20000 in
theorem ggX4_hasSize_X5_within : GoodIn wsX4_hasSize wsX5_within := goodIn_r _ [4] (by decide +kernel) (by decide +kernel)
set_option maxRecDepth 20000 in
theorem gX4_hasSize_X5_within_n38 : GoodIn wsX4_hasSize (wsX5_within) := ggX4_hasSize_X5_within
theorem dX4_hasSize_0 : decode cX4_hasSize 0 = .ok (.iload_n 1, 1) := by decide +kernel
theorem dX4_hasSize_1 : decode cX4_hasSize 1 = .ok (.iconst 0, 1) := by decide +kernel
theorem dX4_hasSize_2 : decode cX4_hasSize 2 = .ok (.aload_n 0, 1) := by decide +kernel
theorem dX4_hasSize_3 : decode cX4_hasSize 3 = .ok (.getfield 35, 3) := by decide +kernel
theorem dX4_hasSize_6 : decode cX4_hasSize 6 = .ok (.invokestatic 38, 3) := by decide +kernel
theorem dX4_hasSize_9 : decode cX4_hasSize 9 = .ok (.ireturn, 1) := by decide +kernel
set_option maxRecDepth 20000 in
theorem ggX4_refresh_X4_walk : GoodIn wsX4_refresh wsX4_walk := goodIn_r _ [8, 2, 9, 10, 11, 12, 7, 13, 14, 15, 16, 17, 18, 19, 20, 21, 22, 23, 24, 25, 26, 27, 28, 29, 30, 31, 32, 33, 34, 35, 36, 37, 38, 39, 40, 41, 42, 43, 44, 45, 46, 47, 48, 49, 50, 51, 52, 53, 54, 55, 56, 57, 58, 59, 60, 61, 62, 63, 64, 65, 66, 67, 68, 69, 70, 71, 72, 73, 74, 75, 76, 77, 78, 79, 80, 81, 82, 83, 84, 85, 86, 87, 88, 89, 90, 91, 92, 93, 94, 95, 96, 97, 98, 99, 100, 101, 102, 103, 104, 105, 106, 107, 108, 109, 110, 111, 112, 113, 114] (by decide +kernel) (by decide +kernel)
set_option maxRecDepth 20000 in
theorem gX4_refresh_X4_walk : GoodIn wsX4_refresh (wsV RX4 47 RX4 yX4_walk wsX4_walk) := goodIn_app (goodIn_of _ (by decide +kernel)) ggX4_refresh_X4_walk
theorem dX4_refresh_0 : decode cX4_refresh 0 = .ok (.aload_n 0, 1) := by decide +kernel
theorem dX4_refresh_1 : decode cX4_refresh 1 = .ok (.getfield 11, 3) := by decide +kernel
theorem dX4_refresh_4 : decode cX4_refresh 4 = .ok (.aload_n 0, 1) := by decide +kernel
theorem dX4_refresh_5 : decode cX4_refresh 5 = .ok (.getfield 31, 3) := by decide +kernel
theorem dX4_refresh_8 : decode cX4_refresh 8 = .ok (.getfield 42, 3) := by decide +kernel
theorem dX4_refresh_11 : decode cX4_refresh 11 = .ok (.if_icmp .eq 18, 3) := by decide +kernel
theorem dX4_refresh_14 : decode cX4_refresh 14 = .ok (.aload_n 0, 1) := by decide +kernel
theorem dX4_refresh_15 : decode cX4_refresh 15 = .ok (.aload_n 0, 1) := by decide +kernel
theorem dX4_refresh_16 : decode cX4_refresh 16 = .ok (.getfield 31, 3) := by decide +kernel
theorem dX4_refresh_19 : decode cX4_refresh 19 = .ok (.getfield 42, 3) := by decide +kernel
theorem dX4_refresh_22 : decode cX4_refresh 22 = .ok (.putfield 11, 3) := by decide +kernel
theorem dX4_refresh_25 : decode cX4_refresh 25 = .ok (.aload_n 0, 1) := by decide +kernel
theorem dX4_refresh_26 : decode cX4_refresh 26 = .ok (.invokevirtual 47, 3) := by decide +kernel
theorem dX4_refresh_29 : decode cX4_refresh 29 = .ok (.return_, 1) := by decide +kernel
set_option maxRecDepth 20000 in
theorem ggX4_walk_X4_begin : GoodIn wsX4_walk wsX4_begin := goodIn_r _ [7, 8, 1, 9, 10, 11, 12, 13, 14, 15, 16, 17, 18, 19, 20, 21, 22, 23, 24, 25, 26, 27, 28, 29, 30, 31, 89, 90, 91, 92, 93, 94, 95, 96, 97, 98, 99, 100, 101, 102, 103, 104, 105, 106, 107, 108] (by decide +kernel) (by decide +kernel)
set_option maxRecDepth 20000 in
theorem gX4_walk_X4_begin : GoodIn wsX4_walk (wsV RX4 50 RX4 yX4_begin wsX4_begin) := goodIn_app (goodIn_of _ (by decide +kernel)) ggX4_walk_X4_begin
set_option maxRecDepth 20000 in
theorem ggX4_walk_J6_numberOfTrailingZeros_0f7a4 : GoodIn wsX4_walk wsJ6_numberOfTrailingZeros_0f7a4 := goodIn_r _ [35, 36] (by decide +kernel) (by decide +kernel)
set_option maxRecDepth 20000 in
theorem gX4_walk_J6_numberOfTrailingZeros_0f7a4 : GoodIn wsX4_walk (va_wsS RX4 56 yJ6_numberOfTrailingZeros_0f7a4 wsJ6_numberOfTrailingZeros_0f7a4) := goodIn_app (goodIn_of _ (by decide +kernel)) ggX4_walk_J6_numberOfTrailingZeros_0f7a4
set_option maxRecDepth 20000 in
theorem ggX4_walk_X4_placeAbove : GoodIn wsX4_walk wsX4_placeAbove := goodIn_r _ [40, 32, 33, 34, 35, 36] (by decide +kernel) (by decide +kernel)
set_option maxRecDepth 20000 in
theorem gX4_walk_X4_placeAbove : GoodIn wsX4_walk (wsV RX4 62 RX4 yX4_placeAbove wsX4_placeAbove) := goodIn_app (goodIn_of _ (by decide +kernel)) ggX4_walk_X4_placeAbove
set_option maxRecDepth 20000 in
theorem ggX4_walk_X4_enter : GoodIn wsX4_walk wsX4_enter := goodIn_r _ [44, 1, 8, 9, 10, 45, 46, 47, 48, 20, 49, 50, 51, 52, 24, 53, 54, 55, 56, 57, 22, 23, 25, 58, 59, 60, 61, 62, 63, 64, 65, 66, 89, 90, 91, 92, 93, 94, 95, 96, 97, 98, 99, 100, 101, 102, 103, 104, 105, 106, 107, 108] (by decide +kernel) (by decide +kernel)
set_option maxRecDepth 20000 in
theorem gX4_walk_X4_enter : GoodIn wsX4_walk (wsV RX4 65 RX4 yX4_enter wsX4_enter) := goodIn_app (goodIn_of _ (by decide +kernel)) ggX4_walk_X4_enter
set_option maxRecDepth 20000 in
theorem ggX4_walk_X4_note : GoodIn wsX4_walk wsX4_note := goodIn_r _ [70, 9, 10, 71, 72, 34, 73, 74, 75, 76, 77, 78, 79, 6, 80, 11, 12, 81, 82, 83, 84, 13, 14, 16, 15, 85, 86, 87, 88, 89, 90, 91, 92, 93, 94, 95, 96, 97, 98, 99] (by decide +kernel) (by decide +kernel)
set_option maxRecDepth 20000 in
theorem gX4_walk_X4_note : GoodIn wsX4_walk (wsV RX4 69 RX4 yX4_note wsX4_note) := goodIn_app (goodIn_of _ (by decide +kernel)) ggX4_walk_X4_note
theorem dX4_walk_0 : decode cX4_walk 0 = .ok (.aload_n 0, 1) := by decide +kernel
theorem dX4_walk_1 : decode cX4_walk 1 = .ok (.invokevirtual 50, 3) := by decide +kernel
theorem dX4_walk_4 : decode cX4_walk 4 = .ok (.iconst 1, 1) := by decide +kernel
theorem dX4_walk_5 : decode cX4_walk 5 = .ok (.aload_n 0, 1) := by decide +kernel
theorem dX4_walk_6 : decode cX4_walk 6 = .ok (.getfield 31, 3) := by decide +kernel
theorem dX4_walk_9 : decode cX4_walk 9 = .ok (.getfield 53, 3) := by decide +kernel
theorem dX4_walk_12 : decode cX4_walk 12 = .ok (.ishl, 1) := by decide +kernel
theorem dX4_walk_13 : decode cX4_walk 13 = .ok (.istore_n 1, 1) := by decide +kernel
theorem dX4_walk_14 : decode cX4_walk 14 = .ok (.iconst 1, 1) := by decide +kernel
theorem dX4_walk_15 : decode cX4_walk 15 = .ok (.istore_n 2, 1) := by decide +kernel
theorem dX4_walk_16 : decode cX4_walk 16 = .ok (.iload_n 2, 1) := by decide +kernel
theorem dX4_walk_17 : decode cX4_walk 17 = .ok (.iload_n 1, 1) := by decide +kernel
theorem dX4_walk_18 : decode cX4_walk 18 = .ok (.if_icmp .ge 49, 3) := by decide +kernel
theorem dX4_walk_21 : decode cX4_walk 21 = .ok (.iload_n 2, 1) := by decide +kernel
theorem dX4_walk_22 : decode cX4_walk 22 = .ok (.invokestatic 56, 3) := by decide +kernel
theorem dX4_walk_25 : decode cX4_walk 25 = .ok (.istore_n 3, 1) := by decide +kernel
theorem dX4_walk_26 : decode cX4_walk 26 = .ok (.aload_n 0, 1) := by decide +kernel
theorem dX4_walk_27 : decode cX4_walk 27 = .ok (.iload_n 3, 1) := by decide +kernel
theorem dX4_walk_28 : decode cX4_walk 28 = .ok (.aload_n 0, 1) := by decide +kernel
theorem dX4_walk_29 : decode cX4_walk 29 = .ok (.iload_n 2, 1) := by decide +kernel
theorem dX4_walk_30 : decode cX4_walk 30 = .ok (.invokevirtual 62, 3) := by decide +kernel
theorem dX4_walk_33 : decode cX4_walk 33 = .ok (.invokevirtual 65, 3) := by decide +kernel
theorem dX4_walk_36 : decode cX4_walk 36 = .ok (.istore 4, 2) := by decide +kernel
theorem dX4_walk_38 : decode cX4_walk 38 = .ok (.iload 4, 2) := by decide +kernel
theorem dX4_walk_40 : decode cX4_walk 40 = .ok (.ifCond .eq 9, 3) := by decide +kernel
theorem dX4_walk_43 : decode cX4_walk 43 = .ok (.aload_n 0, 1) := by decide +kernel
theorem dX4_walk_44 : decode cX4_walk 44 = .ok (.iload_n 2, 1) := by decide +kernel
theorem dX4_walk_45 : decode cX4_walk 45 = .ok (.iload_n 3, 1) := by decide +kernel
theorem dX4_walk_46 : decode cX4_walk 46 = .ok (.invokevirtual 69, 3) := by decide +kernel
theorem dX4_walk_49 : decode cX4_walk 49 = .ok (.iload_n 2, 1) := by decide +kernel
theorem dX4_walk_50 : decode cX4_walk 50 = .ok (.iload 4, 2) := by decide +kernel
theorem dX4_walk_52 : decode cX4_walk 52 = .ok (.ifCond .eq 7, 3) := by decide +kernel
theorem dX4_walk_55 : decode cX4_walk 55 = .ok (.iconst 1, 1) := by decide +kernel
theorem dX4_walk_56 : decode cX4_walk 56 = .ok (.goto 6, 3) := by decide +kernel
theorem dX4_walk_59 : decode cX4_walk 59 = .ok (.iconst 1, 1) := by decide +kernel
theorem dX4_walk_60 : decode cX4_walk 60 = .ok (.iload_n 3, 1) := by decide +kernel
theorem dX4_walk_61 : decode cX4_walk 61 = .ok (.ishl, 1) := by decide +kernel
theorem dX4_walk_62 : decode cX4_walk 62 = .ok (.iadd, 1) := by decide +kernel
theorem dX4_walk_63 : decode cX4_walk 63 = .ok (.istore_n 2, 1) := by decide +kernel
theorem dX4_walk_64 : decode cX4_walk 64 = .ok (.goto (-48), 3) := by decide +kernel
theorem dX4_walk_67 : decode cX4_walk 67 = .ok (.return_, 1) := by decide +kernel
set_option maxRecDepth 20000 in
theorem ggX4_begin_X0_loneParts : GoodIn wsX4_begin wsX0_loneParts := goodIn_r _ [15, 16, 17, 18, 19, 37, 38, 39, 40, 41, 42, 43, 44, 45] (by decide +kernel) (by decide +kernel)
set_option maxRecDepth 20000 in
theorem gX4_begin_X0_loneParts : GoodIn wsX4_begin (wsV RX4 73 RX0 yX0_loneParts wsX0_loneParts) := goodIn_app (goodIn_of _ (by decide +kernel)) ggX4_begin_X0_loneParts
set_option maxRecDepth 20000 in
theorem ggX4_begin_X0_fullRoom : GoodIn wsX4_begin wsX0_fullRoom := goodIn_r _ [23, 24, 25, 17, 18, 19, 37, 38, 39, 40, 41, 42, 43, 44, 45] (by decide +kernel) (by decide +kernel)
set_option maxRecDepth 20000 in
theorem gX4_begin_X0_fullRoom : GoodIn wsX4_begin (wsV RX4 77 RX0 yX0_fullRoom wsX0_fullRoom) := goodIn_app (goodIn_of _ (by decide +kernel)) ggX4_begin_X0_fullRoom
theorem dX4_begin_0 : decode cX4_begin 0 = .ok (.aload_n 0, 1) := by decide +kernel
theorem dX4_begin_1 : decode cX4_begin 1 = .ok (.getfield 22, 3) := by decide +kernel
theorem dX4_begin_4 : decode cX4_begin 4 = .ok (.bipush 14, 2) := by decide +kernel
theorem dX4_begin_6 : decode cX4_begin 6 = .ok (.aload_n 0, 1) := by decide +kernel
theorem dX4_begin_7 : decode cX4_begin 7 = .ok (.getfield 31, 3) := by decide +kernel
theorem dX4_begin_10 : decode cX4_begin 10 = .ok (.invokevirtual 73, 3) := by decide +kernel
theorem dX4_begin_13 : decode cX4_begin 13 = .ok (.iastore, 1) := by decide +kernel
theorem dX4_begin_14 : decode cX4_begin 14 = .ok (.aload_n 0, 1) := by decide +kernel
theorem dX4_begin_15 : decode cX4_begin 15 = .ok (.getfield 25, 3) := by decide +kernel
theorem dX4_begin_18 : decode cX4_begin 18 = .ok (.bipush 14, 2) := by decide +kernel
theorem dX4_begin_20 : decode cX4_begin 20 = .ok (.aload_n 0, 1) := by decide +kernel
theorem dX4_begin_21 : decode cX4_begin 21 = .ok (.getfield 31, 3) := by decide +kernel
theorem dX4_begin_24 : decode cX4_begin 24 = .ok (.invokevirtual 77, 3) := by decide +kernel
theorem dX4_begin_27 : decode cX4_begin 27 = .ok (.iastore, 1) := by decide +kernel
theorem dX4_begin_28 : decode cX4_begin 28 = .ok (.aload_n 0, 1) := by decide +kernel
theorem dX4_begin_29 : decode cX4_begin 29 = .ok (.getfield 28, 3) := by decide +kernel
theorem dX4_begin_32 : decode cX4_begin 32 = .ok (.bipush 14, 2) := by decide +kernel
theorem dX4_begin_34 : decode cX4_begin 34 = .ok (.iconst 0, 1) := by decide +kernel
theorem dX4_begin_35 : decode cX4_begin 35 = .ok (.iastore, 1) := by decide +kernel
theorem dX4_begin_36 : decode cX4_begin 36 = .ok (.aload_n 0, 1) := by decide +kernel
theorem dX4_begin_37 : decode cX4_begin 37 = .ok (.iconst 0, 1) := by decide +kernel
theorem dX4_begin_38 : decode cX4_begin 38 = .ok (.putfield 80, 3) := by decide +kernel
theorem dX4_begin_41 : decode cX4_begin 41 = .ok (.aload_n 0, 1) := by decide +kernel
theorem dX4_begin_42 : decode cX4_begin 42 = .ok (.iconst 1, 1) := by decide +kernel
theorem dX4_begin_43 : decode cX4_begin 43 = .ok (.putfield 83, 3) := by decide +kernel
theorem dX4_begin_46 : decode cX4_begin 46 = .ok (.aload_n 0, 1) := by decide +kernel
theorem dX4_begin_47 : decode cX4_begin 47 = .ok (.iconst 1, 1) := by decide +kernel
theorem dX4_begin_48 : decode cX4_begin 48 = .ok (.putfield 86, 3) := by decide +kernel
theorem dX4_begin_51 : decode cX4_begin 51 = .ok (.aload_n 0, 1) := by decide +kernel
theorem dX4_begin_52 : decode cX4_begin 52 = .ok (.iconst 0, 1) := by decide +kernel
theorem dX4_begin_53 : decode cX4_begin 53 = .ok (.putfield 35, 3) := by decide +kernel
theorem dX4_begin_56 : decode cX4_begin 56 = .ok (.aload_n 0, 1) := by decide +kernel
theorem dX4_begin_57 : decode cX4_begin 57 = .ok (.getfield 15, 3) := by decide +kernel
theorem dX4_begin_60 : decode cX4_begin 60 = .ok (.iconst 0, 1) := by decide +kernel
theorem dX4_begin_61 : decode cX4_begin 61 = .ok (.iconst 0, 1) := by decide +kernel
theorem dX4_begin_62 : decode cX4_begin 62 = .ok (.iastore, 1) := by decide +kernel
theorem dX4_begin_63 : decode cX4_begin 63 = .ok (.aload_n 0, 1) := by decide +kernel
theorem dX4_begin_64 : decode cX4_begin 64 = .ok (.getfield 19, 3) := by decide +kernel
theorem dX4_begin_67 : decode cX4_begin 67 = .ok (.iconst 0, 1) := by decide +kernel
theorem dX4_begin_68 : decode cX4_begin 68 = .ok (.iconst 0, 1) := by decide +kernel
theorem dX4_begin_69 : decode cX4_begin 69 = .ok (.iastore, 1) := by decide +kernel
theorem dX4_begin_70 : decode cX4_begin 70 = .ok (.return_, 1) := by decide +kernel
set_option maxRecDepth 20000 in
theorem ggX4_placeAbove_J6_numberOfTrailingZeros_0f7a4 : GoodIn wsX4_placeAbove wsJ6_numberOfTrailingZeros_0f7a4 := goodIn_r _ [4, 5] (by decide +kernel) (by decide +kernel)
set_option maxRecDepth 20000 in
theorem gX4_placeAbove_J6_numberOfTrailingZeros_0f7a4 : GoodIn wsX4_placeAbove (va_wsS RX4 56 yJ6_numberOfTrailingZeros_0f7a4 wsJ6_numberOfTrailingZeros_0f7a4) := goodIn_app (goodIn_of _ (by decide +kernel)) ggX4_placeAbove_J6_numberOfTrailingZeros_0f7a4
theorem dX4_placeAbove_0 : decode cX4_placeAbove 0 = .ok (.iload_n 1, 1) := by decide +kernel
theorem dX4_placeAbove_1 : decode cX4_placeAbove 1 = .ok (.iload_n 1, 1) := by decide +kernel
theorem dX4_placeAbove_2 : decode cX4_placeAbove 2 = .ok (.iconst 1, 1) := by decide +kernel
theorem dX4_placeAbove_3 : decode cX4_placeAbove 3 = .ok (.isub, 1) := by decide +kernel
theorem dX4_placeAbove_4 : decode cX4_placeAbove 4 = .ok (.iand, 1) := by decide +kernel
theorem dX4_placeAbove_5 : decode cX4_placeAbove 5 = .ok (.istore_n 2, 1) := by decide +kernel
theorem dX4_placeAbove_6 : decode cX4_placeAbove 6 = .ok (.iload_n 2, 1) := by decide +kernel
theorem dX4_placeAbove_7 : decode cX4_placeAbove 7 = .ok (.ifCond .ne 8, 3) := by decide +kernel
theorem dX4_placeAbove_10 : decode cX4_placeAbove 10 = .ok (.bipush 14, 2) := by decide +kernel
theorem dX4_placeAbove_12 : decode cX4_placeAbove 12 = .ok (.goto 7, 3) := by decide +kernel
theorem dX4_placeAbove_15 : decode cX4_placeAbove 15 = .ok (.iload_n 2, 1) := by decide +kernel
theorem dX4_placeAbove_16 : decode cX4_placeAbove 16 = .ok (.invokestatic 56, 3) := by decide +kernel
theorem dX4_placeAbove_19 : decode cX4_placeAbove 19 = .ok (.ireturn, 1) := by decide +kernel
set_option maxRecDepth 20000 in
theorem ggX4_enter_X0_joinsTwoParts : GoodIn wsX4_enter wsX0_joinsTwoParts := goodIn_r _ [10, 11, 12, 13, 14, 15, 43, 44, 45, 46, 47, 48, 49, 50, 51] (by decide +kernel) (by decide +kernel)
set_option maxRecDepth 20000 in
theorem gX4_enter_X0_joinsTwoParts : GoodIn wsX4_enter (wsV RX4 89 RX0 yX0_joinsTwoParts wsX0_joinsTwoParts) := goodIn_app (goodIn_of _ (by decide +kernel)) ggX4_enter_X0_joinsTwoParts
set_option maxRecDepth 20000 in
theorem ggX4_enter_X0_partsJoinedBy : GoodIn wsX4_enter wsX0_partsJoinedBy := goodIn_r _ [19, 11, 12, 20, 13, 14, 15, 21, 22, 43, 44, 45, 46, 47, 48, 49, 50, 51] (by decide +kernel) (by decide +kernel)
set_option maxRecDepth 20000 in
theorem gX4_enter_X0_partsJoinedBy : GoodIn wsX4_enter (wsV RX4 92 RX0 yX0_partsJoinedBy wsX0_partsJoinedBy) := goodIn_app (goodIn_of _ (by decide +kernel)) ggX4_enter_X0_partsJoinedBy
set_option maxRecDepth 20000 in
theorem ggX4_enter_X0_hasRoom : GoodIn wsX4_enter wsX0_hasRoom := goodIn_r _ [26, 27, 13, 14, 15, 43, 44, 45, 46, 47, 48, 49, 50, 51] (by decide +kernel) (by decide +kernel)
set_option maxRecDepth 20000 in
theorem gX4_enter_X0_hasRoom : GoodIn wsX4_enter (wsV RX4 96 RX0 yX0_hasRoom wsX0_hasRoom) := goodIn_app (goodIn_of _ (by decide +kernel)) ggX4_enter_X0_hasRoom
set_option maxRecDepth 20000 in
theorem ggX4_enter_X0_roomAfter : GoodIn wsX4_enter wsX0_roomAfter := goodIn_r _ [31, 27, 13, 14, 15, 21, 22, 43, 44, 45, 46, 47, 48, 49, 50, 51] (by decide +kernel) (by decide +kernel)
set_option maxRecDepth 20000 in
theorem gX4_enter_X0_roomAfter : GoodIn wsX4_enter (wsV RX4 99 RX0 yX0_roomAfter wsX0_roomAfter) := goodIn_app (goodIn_of _ (by decide +kernel)) ggX4_enter_X0_roomAfter
theorem dX4_enter_0 : decode cX4_enter 0 = .ok (.aload_n 0, 1) := by decide +kernel
theorem dX4_enter_1 : decode cX4_enter 1 = .ok (.getfield 31, 3) := by decide +kernel
theorem dX4_enter_4 : decode cX4_enter 4 = .ok (.aload_n 0, 1) := by decide +kernel
theorem dX4_enter_5 : decode cX4_enter 5 = .ok (.getfield 22, 3) := by decide +kernel
theorem dX4_enter_8 : decode cX4_enter 8 = .ok (.iload_n 2, 1) := by decide +kernel
theorem dX4_enter_9 : decode cX4_enter 9 = .ok (.iaload, 1) := by decide +kernel
theorem dX4_enter_10 : decode cX4_enter 10 = .ok (.iload_n 1, 1) := by decide +kernel
theorem dX4_enter_11 : decode cX4_enter 11 = .ok (.invokevirtual 89, 3) := by decide +kernel
theorem dX4_enter_14 : decode cX4_enter 14 = .ok (.ifCond .ne 5, 3) := by decide +kernel
theorem dX4_enter_17 : decode cX4_enter 17 = .ok (.iconst 0, 1) := by decide +kernel
theorem dX4_enter_18 : decode cX4_enter 18 = .ok (.ireturn, 1) := by decide +kernel
theorem dX4_enter_19 : decode cX4_enter 19 = .ok (.aload_n 0, 1) := by decide +kernel
theorem dX4_enter_20 : decode cX4_enter 20 = .ok (.getfield 22, 3) := by decide +kernel
theorem dX4_enter_23 : decode cX4_enter 23 = .ok (.iload_n 1, 1) := by decide +kernel
theorem dX4_enter_24 : decode cX4_enter 24 = .ok (.aload_n 0, 1) := by decide +kernel
theorem dX4_enter_25 : decode cX4_enter 25 = .ok (.getfield 31, 3) := by decide +kernel
theorem dX4_enter_28 : decode cX4_enter 28 = .ok (.aload_n 0, 1) := by decide +kernel
theorem dX4_enter_29 : decode cX4_enter 29 = .ok (.getfield 22, 3) := by decide +kernel
theorem dX4_enter_32 : decode cX4_enter 32 = .ok (.iload_n 2, 1) := by decide +kernel
theorem dX4_enter_33 : decode cX4_enter 33 = .ok (.iaload, 1) := by decide +kernel
theorem dX4_enter_34 : decode cX4_enter 34 = .ok (.iload_n 1, 1) := by decide +kernel
theorem dX4_enter_35 : decode cX4_enter 35 = .ok (.invokevirtual 92, 3) := by decide +kernel
theorem dX4_enter_38 : decode cX4_enter 38 = .ok (.iastore, 1) := by decide +kernel
theorem dX4_enter_39 : decode cX4_enter 39 = .ok (.aload_n 0, 1) := by decide +kernel
theorem dX4_enter_40 : decode cX4_enter 40 = .ok (.getfield 25, 3) := by decide +kernel
theorem dX4_enter_43 : decode cX4_enter 43 = .ok (.iload_n 2, 1) := by decide +kernel
theorem dX4_enter_44 : decode cX4_enter 44 = .ok (.iaload, 1) := by decide +kernel
theorem dX4_enter_45 : decode cX4_enter 45 = .ok (.istore_n 3, 1) := by decide +kernel
theorem dX4_enter_46 : decode cX4_enter 46 = .ok (.iload_n 3, 1) := by decide +kernel
theorem dX4_enter_47 : decode cX4_enter 47 = .ok (.iconst (-1), 1) := by decide +kernel
theorem dX4_enter_48 : decode cX4_enter 48 = .ok (.if_icmp .eq 19, 3) := by decide +kernel
theorem dX4_enter_51 : decode cX4_enter 51 = .ok (.aload_n 0, 1) := by decide +kernel
theorem dX4_enter_52 : decode cX4_enter 52 = .ok (.getfield 31, 3) := by decide +kernel
theorem dX4_enter_55 : decode cX4_enter 55 = .ok (.iload_n 3, 1) := by decide +kernel
theorem dX4_enter_56 : decode cX4_enter 56 = .ok (.iload_n 1, 1) := by decide +kernel
theorem dX4_enter_57 : decode cX4_enter 57 = .ok (.invokevirtual 96, 3) := by decide +kernel
theorem dX4_enter_60 : decode cX4_enter 60 = .ok (.ifCond .eq 7, 3) := by decide +kernel
theorem dX4_enter_63 : decode cX4_enter 63 = .ok (.iconst 1, 1) := by decide +kernel
theorem dX4_enter_64 : decode cX4_enter 64 = .ok (.goto 4, 3) := by decide +kernel
theorem dX4_enter_67 : decode cX4_enter 67 = .ok (.iconst 0, 1) := by decide +kernel
theorem dX4_enter_68 : decode cX4_enter 68 = .ok (.istore 4, 2) := by decide +kernel
theorem dX4_enter_70 : decode cX4_enter 70 = .ok (.aload_n 0, 1) := by decide +kernel
theorem dX4_enter_71 : decode cX4_enter 71 = .ok (.getfield 25, 3) := by decide +kernel
theorem dX4_enter_74 : decode cX4_enter 74 = .ok (.iload_n 1, 1) := by decide +kernel
theorem dX4_enter_75 : decode cX4_enter 75 = .ok (.iload 4, 2) := by decide +kernel
theorem dX4_enter_77 : decode cX4_enter 77 = .ok (.ifCond .eq 15, 3) := by decide +kernel
theorem dX4_enter_80 : decode cX4_enter 80 = .ok (.aload_n 0, 1) := by decide +kernel
theorem dX4_enter_81 : decode cX4_enter 81 = .ok (.getfield 31, 3) := by decide +kernel
theorem dX4_enter_84 : decode cX4_enter 84 = .ok (.iload_n 3, 1) := by decide +kernel
theorem dX4_enter_85 : decode cX4_enter 85 = .ok (.iload_n 1, 1) := by decide +kernel
theorem dX4_enter_86 : decode cX4_enter 86 = .ok (.invokevirtual 99, 3) := by decide +kernel
theorem dX4_enter_89 : decode cX4_enter 89 = .ok (.goto 4, 3) := by decide +kernel
theorem dX4_enter_92 : decode cX4_enter 92 = .ok (.iconst (-1), 1) := by decide +kernel
theorem dX4_enter_93 : decode cX4_enter 93 = .ok (.iastore, 1) := by decide +kernel
theorem dX4_enter_94 : decode cX4_enter 94 = .ok (.aload_n 0, 1) := by decide +kernel
theorem dX4_enter_95 : decode cX4_enter 95 = .ok (.getfield 28, 3) := by decide +kernel
theorem dX4_enter_98 : decode cX4_enter 98 = .ok (.iload_n 1, 1) := by decide +kernel
theorem dX4_enter_99 : decode cX4_enter 99 = .ok (.aload_n 0, 1) := by decide +kernel
theorem dX4_enter_100 : decode cX4_enter 100 = .ok (.getfield 28, 3) := by decide +kernel
theorem dX4_enter_103 : decode cX4_enter 103 = .ok (.iload_n 2, 1) := by decide +kernel
theorem dX4_enter_104 : decode cX4_enter 104 = .ok (.iaload, 1) := by decide +kernel
theorem dX4_enter_105 : decode cX4_enter 105 = .ok (.aload_n 0, 1) := by decide +kernel
theorem dX4_enter_106 : decode cX4_enter 106 = .ok (.getfield 31, 3) := by decide +kernel
theorem dX4_enter_109 : decode cX4_enter 109 = .ok (.getfield 102, 3) := by decide +kernel
theorem dX4_enter_112 : decode cX4_enter 112 = .ok (.iload_n 1, 1) := by decide +kernel
theorem dX4_enter_113 : decode cX4_enter 113 = .ok (.iaload, 1) := by decide +kernel
theorem dX4_enter_114 : decode cX4_enter 114 = .ok (.iadd, 1) := by decide +kernel
theorem dX4_enter_115 : decode cX4_enter 115 = .ok (.iastore, 1) := by decide +kernel
theorem dX4_enter_116 : decode cX4_enter 116 = .ok (.iconst 1, 1) := by decide +kernel
theorem dX4_enter_117 : decode cX4_enter 117 = .ok (.ireturn, 1) := by decide +kernel
set_option maxRecDepth 20000 in
theorem ggX4_note_J6_bitCount_0f7a4 : GoodIn wsX4_note wsJ6_bitCount_0f7a4 := goodIn_r _ [6, 7, 8, 9] (by decide +kernel) (by decide +kernel)
set_option maxRecDepth 20000 in
theorem gX4_note_J6_bitCount_0f7a4 : GoodIn wsX4_note (va_wsS RX4 105 yJ6_bitCount_0f7a4 wsJ6_bitCount_0f7a4) := goodIn_app (goodIn_of _ (by decide +kernel)) ggX4_note_J6_bitCount_0f7a4
set_option maxRecDepth 20000 in
theorem ggX4_note_X4_noteForest : GoodIn wsX4_note wsX4_noteForest := goodIn_r _ [14, 15, 16, 29, 30, 31, 32, 33, 34, 35, 36, 37, 38, 39] (by decide +kernel) (by decide +kernel)
set_option maxRecDepth 20000 in
theorem gX4_note_X4_noteForest : GoodIn wsX4_note (wsV RX4 108 RX4 yX4_noteForest wsX4_noteForest) := goodIn_app (goodIn_of _ (by decide +kernel)) ggX4_note_X4_noteForest
set_option maxRecDepth 20000 in
theorem ggX4_note_X4_noteCommon : GoodIn wsX4_note wsX4_noteCommon := goodIn_r _ [20, 21, 22, 23, 24, 25, 26, 27, 28, 29, 30, 31, 32, 33, 34, 35, 36, 37, 38, 39] (by decide +kernel) (by decide +kernel)
set_option maxRecDepth 20000 in
theorem gX4_note_X4_noteCommon : GoodIn wsX4_note (wsV RX4 112 RX4 yX4_noteCommon wsX4_noteCommon) := goodIn_app (goodIn_of _ (by decide +kernel)) ggX4_note_X4_noteCommon
theorem dX4_note_0 : decode cX4_note 0 = .ok (.iload_n 1, 1) := by decide +kernel
theorem dX4_note_1 : decode cX4_note 1 = .ok (.invokestatic 105, 3) := by decide +kernel
theorem dX4_note_4 : decode cX4_note 4 = .ok (.istore_n 3, 1) := by decide +kernel
theorem dX4_note_5 : decode cX4_note 5 = .ok (.aload_n 0, 1) := by decide +kernel
theorem dX4_note_6 : decode cX4_note 6 = .ok (.iload_n 3, 1) := by decide +kernel
theorem dX4_note_7 : decode cX4_note 7 = .ok (.invokevirtual 108, 3) := by decide +kernel
theorem dX4_note_10 : decode cX4_note 10 = .ok (.aload_n 0, 1) := by decide +kernel
theorem dX4_note_11 : decode cX4_note 11 = .ok (.getfield 25, 3) := by decide +kernel
theorem dX4_note_14 : decode cX4_note 14 = .ok (.iload_n 2, 1) := by decide +kernel
theorem dX4_note_15 : decode cX4_note 15 = .ok (.iaload, 1) := by decide +kernel
theorem dX4_note_16 : decode cX4_note 16 = .ok (.iconst (-1), 1) := by decide +kernel
theorem dX4_note_17 : decode cX4_note 17 = .ok (.if_icmp .eq 15, 3) := by decide +kernel
theorem dX4_note_20 : decode cX4_note 20 = .ok (.aload_n 0, 1) := by decide +kernel
theorem dX4_note_21 : decode cX4_note 21 = .ok (.iload_n 1, 1) := by decide +kernel
theorem dX4_note_22 : decode cX4_note 22 = .ok (.iload_n 3, 1) := by decide +kernel
theorem dX4_note_23 : decode cX4_note 23 = .ok (.aload_n 0, 1) := by decide +kernel
theorem dX4_note_24 : decode cX4_note 24 = .ok (.getfield 28, 3) := by decide +kernel
theorem dX4_note_27 : decode cX4_note 27 = .ok (.iload_n 2, 1) := by decide +kernel
theorem dX4_note_28 : decode cX4_note 28 = .ok (.iaload, 1) := by decide +kernel
theorem dX4_note_29 : decode cX4_note 29 = .ok (.invokevirtual 112, 3) := by decide +kernel
theorem dX4_note_32 : decode cX4_note 32 = .ok (.return_, 1) := by decide +kernel
theorem dX4_noteForest_0 : decode cX4_noteForest 0 = .ok (.iload_n 1, 1) := by decide +kernel
theorem dX4_noteForest_1 : decode cX4_noteForest 1 = .ok (.aload_n 0, 1) := by decide +kernel
theorem dX4_noteForest_2 : decode cX4_noteForest 2 = .ok (.getfield 80, 3) := by decide +kernel
theorem dX4_noteForest_5 : decode cX4_noteForest 5 = .ok (.if_icmp .le 13, 3) := by decide +kernel
theorem dX4_noteForest_8 : decode cX4_noteForest 8 = .ok (.aload_n 0, 1) := by decide +kernel
theorem dX4_noteForest_9 : decode cX4_noteForest 9 = .ok (.iload_n 1, 1) := by decide +kernel
theorem dX4_noteForest_10 : decode cX4_noteForest 10 = .ok (.putfield 80, 3) := by decide +kernel
theorem dX4_noteForest_13 : decode cX4_noteForest 13 = .ok (.aload_n 0, 1) := by decide +kernel
theorem dX4_noteForest_14 : decode cX4_noteForest 14 = .ok (.iconst 0, 1) := by decide +kernel
theorem dX4_noteForest_15 : decode cX4_noteForest 15 = .ok (.putfield 83, 3) := by decide +kernel
theorem dX4_noteForest_18 : decode cX4_noteForest 18 = .ok (.iload_n 1, 1) := by decide +kernel
theorem dX4_noteForest_19 : decode cX4_noteForest 19 = .ok (.aload_n 0, 1) := by decide +kernel
theorem dX4_noteForest_20 : decode cX4_noteForest 20 = .ok (.getfield 80, 3) := by decide +kernel
theorem dX4_noteForest_23 : decode cX4_noteForest 23 = .ok (.if_icmp .ne 13, 3) := by decide +kernel
theorem dX4_noteForest_26 : decode cX4_noteForest 26 = .ok (.aload_n 0, 1) := by decide +kernel
theorem dX4_noteForest_27 : decode cX4_noteForest 27 = .ok (.dup, 1) := by decide +kernel
theorem dX4_noteForest_28 : decode cX4_noteForest 28 = .ok (.getfield 83, 3) := by decide +kernel
theorem dX4_noteForest_31 : decode cX4_noteForest 31 = .ok (.iconst 1, 1) := by decide +kernel
theorem dX4_noteForest_32 : decode cX4_noteForest 32 = .ok (.iadd, 1) := by decide +kernel
theorem dX4_noteForest_33 : decode cX4_noteForest 33 = .ok (.putfield 83, 3) := by decide +kernel
theorem dX4_noteForest_36 : decode cX4_noteForest 36 = .ok (.return_, 1) := by decide +kernel
theorem dX4_noteCommon_0 : decode cX4_noteCommon 0 = .ok (.aload_n 0, 1) := by decide +kernel
theorem dX4_noteCommon_1 : decode cX4_noteCommon 1 = .ok (.dup, 1) := by decide +kernel
theorem dX4_noteCommon_2 : decode cX4_noteCommon 2 = .ok (.getfield 86, 3) := by decide +kernel
theorem dX4_noteCommon_5 : decode cX4_noteCommon 5 = .ok (.iconst 1, 1) := by decide +kernel
theorem dX4_noteCommon_6 : decode cX4_noteCommon 6 = .ok (.iadd, 1) := by decide +kernel
theorem dX4_noteCommon_7 : decode cX4_noteCommon 7 = .ok (.putfield 86, 3) := by decide +kernel
theorem dX4_noteCommon_10 : decode cX4_noteCommon 10 = .ok (.iload_n 2, 1) := by decide +kernel
theorem dX4_noteCommon_11 : decode cX4_noteCommon 11 = .ok (.aload_n 0, 1) := by decide +kernel
theorem dX4_noteCommon_12 : decode cX4_noteCommon 12 = .ok (.getfield 35, 3) := by decide +kernel
theorem dX4_noteCommon_15 : decode cX4_noteCommon 15 = .ok (.if_icmp .gt 13, 3) := by decide +kernel
theorem dX4_noteCommon_18 : decode cX4_noteCommon 18 = .ok (.iload_n 3, 1) := by decide +kernel
theorem dX4_noteCommon_19 : decode cX4_noteCommon 19 = .ok (.aload_n 0, 1) := by decide +kernel
theorem dX4_noteCommon_20 : decode cX4_noteCommon 20 = .ok (.getfield 19, 3) := by decide +kernel
theorem dX4_noteCommon_23 : decode cX4_noteCommon 23 = .ok (.iload_n 2, 1) := by decide +kernel
theorem dX4_noteCommon_24 : decode cX4_noteCommon 24 = .ok (.iaload, 1) := by decide +kernel
theorem dX4_noteCommon_25 : decode cX4_noteCommon 25 = .ok (.if_icmp .le 17, 3) := by decide +kernel
theorem dX4_noteCommon_28 : decode cX4_noteCommon 28 = .ok (.aload_n 0, 1) := by decide +kernel
theorem dX4_noteCommon_29 : decode cX4_noteCommon 29 = .ok (.getfield 15, 3) := by decide +kernel
theorem dX4_noteCommon_32 : decode cX4_noteCommon 32 = .ok (.iload_n 2, 1) := by decide +kernel
theorem dX4_noteCommon_33 : decode cX4_noteCommon 33 = .ok (.iload_n 1, 1) := by decide +kernel
theorem dX4_noteCommon_34 : decode cX4_noteCommon 34 = .ok (.iastore, 1) := by decide +kernel
theorem dX4_noteCommon_35 : decode cX4_noteCommon 35 = .ok (.aload_n 0, 1) := by decide +kernel
theorem dX4_noteCommon_36 : decode cX4_noteCommon 36 = .ok (.getfield 19, 3) := by decide +kernel
theorem dX4_noteCommon_39 : decode cX4_noteCommon 39 = .ok (.iload_n 2, 1) := by decide +kernel
theorem dX4_noteCommon_40 : decode cX4_noteCommon 40 = .ok (.iload_n 3, 1) := by decide +kernel
theorem dX4_noteCommon_41 : decode cX4_noteCommon 41 = .ok (.iastore, 1) := by decide +kernel
theorem dX4_noteCommon_42 : decode cX4_noteCommon 42 = .ok (.aload_n 0, 1) := by decide +kernel
theorem dX4_noteCommon_43 : decode cX4_noteCommon 43 = .ok (.aload_n 0, 1) := by decide +kernel
theorem dX4_noteCommon_44 : decode cX4_noteCommon 44 = .ok (.getfield 35, 3) := by decide +kernel
theorem dX4_noteCommon_47 : decode cX4_noteCommon 47 = .ok (.iload_n 2, 1) := by decide +kernel
theorem dX4_noteCommon_48 : decode cX4_noteCommon 48 = .ok (.invokestatic 116, 3) := by decide +kernel
theorem dX4_noteCommon_51 : decode cX4_noteCommon 51 = .ok (.putfield 35, 3) := by decide +kernel
theorem dX4_noteCommon_54 : decode cX4_noteCommon 54 = .ok (.return_, 1) := by decide +kernel
set_option maxRecDepth 20000 in
theorem ggX5_init_X0_init : GoodIn wsX5_init wsX0_init := goodIn_r _ [22, 23, 2, 3, 24, 25, 26, 27, 28, 29, 30, 31, 56, 57, 58, 59, 60, 61, 62, 63, 64] (by decide +kernel) (by decide +kernel)
set_option maxRecDepth 20000 in
theorem gX5_init_X0_init : GoodIn wsX5_init (wsX0_init) := ggX5_init_X0_init
set_option maxRecDepth 20000 in
theorem ggX5_init_X3_init : GoodIn wsX5_init wsX3_init := goodIn_r _ [34, 35, 36, 37, 38, 39, 2, 3, 40, 70, 69] (by decide +kernel) (by decide +kernel)
set_option maxRecDepth 20000 in
theorem gX5_init_X3_init : GoodIn wsX5_init (wsX3_init) := ggX5_init_X3_init
set_option maxRecDepth 20000 in
theorem ggX5_init_X2_init : GoodIn wsX5_init wsX2_init := goodIn_r _ [43, 44, 36, 37, 38, 39, 2, 3, 40, 70, 69] (by decide +kernel) (by decide +kernel)
set_option maxRecDepth 20000 in
theorem gX5_init_X2_init : GoodIn wsX5_init (wsX2_init) := ggX5_init_X2_init
set_option maxRecDepth 20000 in
theorem ggX5_init_X4_init : GoodIn wsX5_init wsX4_init := goodIn_r _ [47, 48, 2, 3, 49, 24, 50, 51, 52, 53, 54, 55, 71, 72, 73, 74, 75, 76, 77, 78, 79, 80, 81] (by decide +kernel) (by decide +kernel)
set_option maxRecDepth 20000 in
theorem gX5_init_X4_init : GoodIn wsX5_init (wsX4_init) := ggX5_init_X4_init
theorem dX5_init_0 : decode cX5_init 0 = .ok (.aload_n 0, 1) := by decide +kernel
theorem dX5_init_1 : decode cX5_init 1 = .ok (.invokespecial 1, 3) := by decide +kernel
theorem dX5_init_4 : decode cX5_init 4 = .ok (.aload_n 0, 1) := by decide +kernel
theorem dX5_init_5 : decode cX5_init 5 = .ok (.new 7, 3) := by decide +kernel
theorem dX5_init_8 : decode cX5_init 8 = .ok (.dup, 1) := by decide +kernel
theorem dX5_init_9 : decode cX5_init 9 = .ok (.invokespecial 9, 3) := by decide +kernel
theorem dX5_init_12 : decode cX5_init 12 = .ok (.putfield 10, 3) := by decide +kernel
theorem dX5_init_15 : decode cX5_init 15 = .ok (.aload_n 0, 1) := by decide +kernel
theorem dX5_init_16 : decode cX5_init 16 = .ok (.new 16, 3) := by decide +kernel
theorem dX5_init_19 : decode cX5_init 19 = .ok (.dup, 1) := by decide +kernel
theorem dX5_init_20 : decode cX5_init 20 = .ok (.aload_n 0, 1) := by decide +kernel
theorem dX5_init_21 : decode cX5_init 21 = .ok (.getfield 10, 3) := by decide +kernel
theorem dX5_init_24 : decode cX5_init 24 = .ok (.invokespecial 18, 3) := by decide +kernel
theorem dX5_init_27 : decode cX5_init 27 = .ok (.putfield 21, 3) := by decide +kernel
theorem dX5_init_30 : decode cX5_init 30 = .ok (.aload_n 0, 1) := by decide +kernel
theorem dX5_init_31 : decode cX5_init 31 = .ok (.new 25, 3) := by decide +kernel
theorem dX5_init_34 : decode cX5_init 34 = .ok (.dup, 1) := by decide +kernel
theorem dX5_init_35 : decode cX5_init 35 = .ok (.aload_n 0, 1) := by decide +kernel
theorem dX5_init_36 : decode cX5_init 36 = .ok (.getfield 10, 3) := by decide +kernel
theorem dX5_init_39 : decode cX5_init 39 = .ok (.invokespecial 27, 3) := by decide +kernel
theorem dX5_init_42 : decode cX5_init 42 = .ok (.putfield 28, 3) := by decide +kernel
theorem dX5_init_45 : decode cX5_init 45 = .ok (.aload_n 0, 1) := by decide +kernel
theorem dX5_init_46 : decode cX5_init 46 = .ok (.new 31, 3) := by decide +kernel
theorem dX5_init_49 : decode cX5_init 49 = .ok (.dup, 1) := by decide +kernel
theorem dX5_init_50 : decode cX5_init 50 = .ok (.aload_n 0, 1) := by decide +kernel
theorem dX5_init_51 : decode cX5_init 51 = .ok (.getfield 10, 3) := by decide +kernel
theorem dX5_init_54 : decode cX5_init 54 = .ok (.invokespecial 33, 3) := by decide +kernel
theorem dX5_init_57 : decode cX5_init 57 = .ok (.putfield 34, 3) := by decide +kernel
theorem dX5_init_60 : decode cX5_init 60 = .ok (.return_, 1) := by decide +kernel
set_option maxRecDepth 20000 in
theorem ggX5_make_X5_within : GoodIn wsX5_make wsX5_within := goodIn_r _ [7] (by decide +kernel) (by decide +kernel)
set_option maxRecDepth 20000 in
theorem gX5_make_X5_within : GoodIn wsX5_make (va_wsS RX5 38 yX5_within wsX5_within) := goodIn_app (goodIn_of _ (by decide +kernel)) ggX5_make_X5_within
set_option maxRecDepth 20000 in
theorem ggX5_make_X0_restart : GoodIn wsX5_make wsX0_restart := goodIn_r _ [12, 13, 14, 15, 16, 17, 18, 19, 20, 21, 26, 27, 28, 29, 30, 31, 32, 33, 34] (by decide +kernel) (by decide +kernel)
set_option maxRecDepth 20000 in
theorem gX5_make_X0_restart : GoodIn wsX5_make (wsV RX5 49 RX0 yX0_restart wsX0_restart) := goodIn_app (goodIn_of _ (by decide +kernel)) ggX5_make_X0_restart
theorem dX5_make_0 : decode cX5_make 0 = .ok (.iload_n 1, 1) := by decide +kernel
theorem dX5_make_1 : decode cX5_make 1 = .ok (.iconst 1, 1) := by decide +kernel
theorem dX5_make_2 : decode cX5_make 2 = .ok (.bipush 8, 2) := by decide +kernel
theorem dX5_make_4 : decode cX5_make 4 = .ok (.invokestatic 38, 3) := by decide +kernel
theorem dX5_make_7 : decode cX5_make 7 = .ok (.ifCond .eq 13, 3) := by decide +kernel
theorem dX5_make_10 : decode cX5_make 10 = .ok (.iload_n 2, 1) := by decide +kernel
theorem dX5_make_11 : decode cX5_make 11 = .ok (.iconst 1, 1) := by decide +kernel
theorem dX5_make_12 : decode cX5_make 12 = .ok (.bipush 6, 2) := by decide +kernel
theorem dX5_make_14 : decode cX5_make 14 = .ok (.invokestatic 38, 3) := by decide +kernel
theorem dX5_make_17 : decode cX5_make 17 = .ok (.ifCond .ne 13, 3) := by decide +kernel
theorem dX5_make_20 : decode cX5_make 20 = .ok (.new 42, 3) := by decide +kernel
theorem dX5_make_23 : decode cX5_make 23 = .ok (.dup, 1) := by decide +kernel
theorem dX5_make_24 : decode cX5_make 24 = .ok (.ldc 44, 2) := by decide +kernel
theorem dX5_make_26 : decode cX5_make 26 = .ok (.invokespecial 46, 3) := by decide +kernel
theorem dX5_make_29 : decode cX5_make 29 = .ok (.athrow, 1) := by decide +kernel
theorem dX5_make_30 : decode cX5_make 30 = .ok (.aload_n 0, 1) := by decide +kernel
theorem dX5_make_31 : decode cX5_make 31 = .ok (.getfield 10, 3) := by decide +kernel
theorem dX5_make_34 : decode cX5_make 34 = .ok (.iload_n 1, 1) := by decide +kernel
theorem dX5_make_35 : decode cX5_make 35 = .ok (.iload_n 2, 1) := by decide +kernel
theorem dX5_make_36 : decode cX5_make 36 = .ok (.invokevirtual 49, 3) := by decide +kernel
theorem dX5_make_39 : decode cX5_make 39 = .ok (.return_, 1) := by decide +kernel
set_option maxRecDepth 20000 in
theorem ggX5_edge_X0_hasVertex : GoodIn wsX5_edge wsX0_hasVertex := goodIn_r _ [7, 8, 9, 10, 11, 35, 36, 37, 38, 39, 40, 41, 42, 43] (by decide +kernel) (by decide +kernel)
set_option maxRecDepth 20000 in
theorem gX5_edge_X0_hasVertex : GoodIn wsX5_edge (wsV RX5 53 RX0 yX0_hasVertex wsX0_hasVertex) := goodIn_app (goodIn_of _ (by decide +kernel)) ggX5_edge_X0_hasVertex
set_option maxRecDepth 20000 in
theorem ggX5_edge_X0_hasColour : GoodIn wsX5_edge wsX0_hasColour := goodIn_r _ [15, 16, 9, 10, 11, 35, 36, 37, 38, 39, 40, 41, 42, 43] (by decide +kernel) (by decide +kernel)
set_option maxRecDepth 20000 in
theorem gX5_edge_X0_hasColour : GoodIn wsX5_edge (wsV RX5 57 RX0 yX0_hasColour wsX0_hasColour) := goodIn_app (goodIn_of _ (by decide +kernel)) ggX5_edge_X0_hasColour
set_option maxRecDepth 20000 in
theorem ggX5_edge_X5_isWeight : GoodIn wsX5_edge wsX5_isWeight := goodIn_r _ [19, 20, 9, 10, 11] (by decide +kernel) (by decide +kernel)
set_option maxRecDepth 20000 in
theorem gX5_edge_X5_isWeight : GoodIn wsX5_edge (va_wsS RX5 60 yX5_isWeight wsX5_isWeight) := goodIn_app (goodIn_of _ (by decide +kernel)) ggX5_edge_X5_isWeight
set_option maxRecDepth 20000 in
theorem ggX5_edge_X0_addEdge : GoodIn wsX5_edge wsX0_addEdge := goodIn_r _ [24, 25, 26, 27, 28, 29, 30, 35, 36, 37, 38, 39, 40, 41, 42, 43] (by decide +kernel) (by decide +kernel)
set_option maxRecDepth 20000 in
theorem gX5_edge_X0_addEdge : GoodIn wsX5_edge (wsV RX5 67 RX0 yX0_addEdge wsX0_addEdge) := goodIn_app (goodIn_of _ (by decide +kernel)) ggX5_edge_X0_addEdge
theorem dX5_edge_0 : decode cX5_edge 0 = .ok (.aload_n 0, 1) := by decide +kernel
theorem dX5_edge_1 : decode cX5_edge 1 = .ok (.getfield 10, 3) := by decide +kernel
theorem dX5_edge_4 : decode cX5_edge 4 = .ok (.iload_n 1, 1) := by decide +kernel
theorem dX5_edge_5 : decode cX5_edge 5 = .ok (.invokevirtual 53, 3) := by decide +kernel
theorem dX5_edge_8 : decode cX5_edge 8 = .ok (.ifCond .eq 25, 3) := by decide +kernel
theorem dX5_edge_11 : decode cX5_edge 11 = .ok (.aload_n 0, 1) := by decide +kernel
theorem dX5_edge_12 : decode cX5_edge 12 = .ok (.getfield 10, 3) := by decide +kernel
theorem dX5_edge_15 : decode cX5_edge 15 = .ok (.iload_n 2, 1) := by decide +kernel
theorem dX5_edge_16 : decode cX5_edge 16 = .ok (.invokevirtual 53, 3) := by decide +kernel
theorem dX5_edge_19 : decode cX5_edge 19 = .ok (.ifCond .eq 14, 3) := by decide +kernel
theorem dX5_edge_22 : decode cX5_edge 22 = .ok (.aload_n 0, 1) := by decide +kernel
theorem dX5_edge_23 : decode cX5_edge 23 = .ok (.getfield 10, 3) := by decide +kernel
theorem dX5_edge_26 : decode cX5_edge 26 = .ok (.iload_n 3, 1) := by decide +kernel
theorem dX5_edge_27 : decode cX5_edge 27 = .ok (.invokevirtual 57, 3) := by decide +kernel
theorem dX5_edge_30 : decode cX5_edge 30 = .ok (.ifCond .ne 5, 3) := by decide +kernel
theorem dX5_edge_33 : decode cX5_edge 33 = .ok (.iconst (-1), 1) := by decide +kernel
theorem dX5_edge_34 : decode cX5_edge 34 = .ok (.ireturn, 1) := by decide +kernel
theorem dX5_edge_35 : decode cX5_edge 35 = .ok (.iload 4, 2) := by decide +kernel
theorem dX5_edge_37 : decode cX5_edge 37 = .ok (.invokestatic 60, 3) := by decide +kernel
theorem dX5_edge_40 : decode cX5_edge 40 = .ok (.ifCond .eq 15, 3) := by decide +kernel
theorem dX5_edge_43 : decode cX5_edge 43 = .ok (.aload_n 0, 1) := by decide +kernel
theorem dX5_edge_44 : decode cX5_edge 44 = .ok (.getfield 10, 3) := by decide +kernel
theorem dX5_edge_47 : decode cX5_edge 47 = .ok (.getfield 63, 3) := by decide +kernel
theorem dX5_edge_50 : decode cX5_edge 50 = .ok (.bipush 14, 2) := by decide +kernel
theorem dX5_edge_52 : decode cX5_edge 52 = .ok (.if_icmp .ne 5, 3) := by decide +kernel
theorem dX5_edge_55 : decode cX5_edge 55 = .ok (.iconst (-1), 1) := by decide +kernel
theorem dX5_edge_56 : decode cX5_edge 56 = .ok (.ireturn, 1) := by decide +kernel
theorem dX5_edge_57 : decode cX5_edge 57 = .ok (.aload_n 0, 1) := by decide +kernel
theorem dX5_edge_58 : decode cX5_edge 58 = .ok (.getfield 10, 3) := by decide +kernel
theorem dX5_edge_61 : decode cX5_edge 61 = .ok (.iload_n 1, 1) := by decide +kernel
theorem dX5_edge_62 : decode cX5_edge 62 = .ok (.iload_n 2, 1) := by decide +kernel
theorem dX5_edge_63 : decode cX5_edge 63 = .ok (.iload_n 3, 1) := by decide +kernel
theorem dX5_edge_64 : decode cX5_edge 64 = .ok (.iload 4, 2) := by decide +kernel
theorem dX5_edge_66 : decode cX5_edge 66 = .ok (.invokevirtual 67, 3) := by decide +kernel
theorem dX5_edge_69 : decode cX5_edge 69 = .ok (.ireturn, 1) := by decide +kernel
set_option maxRecDepth 20000 in
theorem ggX5_limit_X0_hasColour : GoodIn wsX5_limit wsX0_hasColour := goodIn_r _ [10, 11, 12, 13, 14, 26, 27, 28, 29, 30, 31, 32, 33, 34] (by decide +kernel) (by decide +kernel)
set_option maxRecDepth 20000 in
theorem gX5_limit_X0_hasColour : GoodIn wsX5_limit (wsV RX5 57 RX0 yX0_hasColour wsX0_hasColour) := goodIn_app (goodIn_of _ (by decide +kernel)) ggX5_limit_X0_hasColour
set_option maxRecDepth 20000 in
theorem ggX5_limit_X5_within : GoodIn wsX5_limit wsX5_within := goodIn_r _ [14] (by decide +kernel) (by decide +kernel)
set_option maxRecDepth 20000 in
theorem gX5_limit_X5_within : GoodIn wsX5_limit (va_wsS RX5 38 yX5_within wsX5_within) := goodIn_app (goodIn_of _ (by decide +kernel)) ggX5_limit_X5_within
set_option maxRecDepth 20000 in
theorem ggX5_limit_X0_setLimit : GoodIn wsX5_limit wsX0_setLimit := goodIn_r _ [19, 20, 21, 26, 27, 28, 29, 30, 31, 32, 33, 34] (by decide +kernel) (by decide +kernel)
set_option maxRecDepth 20000 in
theorem gX5_limit_X0_setLimit : GoodIn wsX5_limit (wsV RX5 78 RX0 yX0_setLimit wsX0_setLimit) := goodIn_app (goodIn_of _ (by decide +kernel)) ggX5_limit_X0_setLimit
theorem dX5_limit_0 : decode cX5_limit 0 = .ok (.aload_n 0, 1) := by decide +kernel
theorem dX5_limit_1 : decode cX5_limit 1 = .ok (.getfield 10, 3) := by decide +kernel
theorem dX5_limit_4 : decode cX5_limit 4 = .ok (.iload_n 1, 1) := by decide +kernel
theorem dX5_limit_5 : decode cX5_limit 5 = .ok (.invokevirtual 57, 3) := by decide +kernel
theorem dX5_limit_8 : decode cX5_limit 8 = .ok (.ifCond .ne 13, 3) := by decide +kernel
theorem dX5_limit_11 : decode cX5_limit 11 = .ok (.new 71, 3) := by decide +kernel
theorem dX5_limit_14 : decode cX5_limit 14 = .ok (.dup, 1) := by decide +kernel
theorem dX5_limit_15 : decode cX5_limit 15 = .ok (.ldc 73, 2) := by decide +kernel
theorem dX5_limit_17 : decode cX5_limit 17 = .ok (.invokespecial 75, 3) := by decide +kernel
theorem dX5_limit_20 : decode cX5_limit 20 = .ok (.athrow, 1) := by decide +kernel
theorem dX5_limit_21 : decode cX5_limit 21 = .ok (.iload_n 2, 1) := by decide +kernel
theorem dX5_limit_22 : decode cX5_limit 22 = .ok (.iconst 0, 1) := by decide +kernel
theorem dX5_limit_23 : decode cX5_limit 23 = .ok (.bipush 14, 2) := by decide +kernel
theorem dX5_limit_25 : decode cX5_limit 25 = .ok (.invokestatic 38, 3) := by decide +kernel
theorem dX5_limit_28 : decode cX5_limit 28 = .ok (.ifCond .ne 13, 3) := by decide +kernel
theorem dX5_limit_31 : decode cX5_limit 31 = .ok (.new 42, 3) := by decide +kernel
theorem dX5_limit_34 : decode cX5_limit 34 = .ok (.dup, 1) := by decide +kernel
theorem dX5_limit_35 : decode cX5_limit 35 = .ok (.ldc 76, 2) := by decide +kernel
theorem dX5_limit_37 : decode cX5_limit 37 = .ok (.invokespecial 46, 3) := by decide +kernel
theorem dX5_limit_40 : decode cX5_limit 40 = .ok (.athrow, 1) := by decide +kernel
theorem dX5_limit_41 : decode cX5_limit 41 = .ok (.aload_n 0, 1) := by decide +kernel
theorem dX5_limit_42 : decode cX5_limit 42 = .ok (.getfield 10, 3) := by decide +kernel
theorem dX5_limit_45 : decode cX5_limit 45 = .ok (.iload_n 1, 1) := by decide +kernel
theorem dX5_limit_46 : decode cX5_limit 46 = .ok (.iload_n 2, 1) := by decide +kernel
theorem dX5_limit_47 : decode cX5_limit 47 = .ok (.invokevirtual 78, 3) := by decide +kernel
theorem dX5_limit_50 : decode cX5_limit 50 = .ok (.return_, 1) := by decide +kernel
set_option maxRecDepth 20000 in
theorem ggX5_weigh_X0_hasEdge : GoodIn wsX5_weigh wsX0_hasEdge := goodIn_r _ [10, 11, 12, 13, 14, 29, 30, 31, 32, 33, 34, 35, 36, 37] (by decide +kernel) (by decide +kernel)
set_option maxRecDepth 20000 in
theorem gX5_weigh_X0_hasEdge : GoodIn wsX5_weigh (wsV RX5 81 RX0 yX0_hasEdge wsX0_hasEdge) := goodIn_app (goodIn_of _ (by decide +kernel)) ggX5_weigh_X0_hasEdge
set_option maxRecDepth 20000 in
theorem ggX5_weigh_X5_isWeight : GoodIn wsX5_weigh wsX5_isWeight := goodIn_r _ [17, 18, 12, 13, 14] (by decide +kernel) (by decide +kernel)
set_option maxRecDepth 20000 in
theorem gX5_weigh_X5_isWeight : GoodIn wsX5_weigh (va_wsS RX5 60 yX5_isWeight wsX5_isWeight) := goodIn_app (goodIn_of _ (by decide +kernel)) ggX5_weigh_X5_isWeight
set_option maxRecDepth 20000 in
theorem ggX5_weigh_X0_setWeight : GoodIn wsX5_weigh wsX0_setWeight := goodIn_r _ [22, 23, 24, 29, 30, 31, 32, 33, 34, 35, 36, 37] (by decide +kernel) (by decide +kernel)
set_option maxRecDepth 20000 in
theorem gX5_weigh_X0_setWeight : GoodIn wsX5_weigh (wsV RX5 88 RX0 yX0_setWeight wsX0_setWeight) := goodIn_app (goodIn_of _ (by decide +kernel)) ggX5_weigh_X0_setWeight
