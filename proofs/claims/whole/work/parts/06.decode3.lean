theorem dX6_weigh_0 : decode cX6_weigh 0 = .ok (.aload_n 0, 1) := by decide +kernel
theorem dX6_weigh_1 : decode cX6_weigh 1 = .ok (.iload_n 1, 1) := by decide +kernel
theorem dX6_weigh_2 : decode cX6_weigh 2 = .ok (.ifCond .lt 11, 3) := by decide +kernel
theorem dX6_weigh_5 : decode cX6_weigh 5 = .ok (.iload_n 1, 1) := by decide +kernel
theorem dX6_weigh_6 : decode cX6_weigh 6 = .ok (.aload_n 0, 1) := by decide +kernel
theorem dX6_weigh_7 : decode cX6_weigh 7 = .ok (.getfield 56, 3) := by decide +kernel
theorem dX6_weigh_10 : decode cX6_weigh 10 = .ok (.if_icmp .lt 7, 3) := by decide +kernel
theorem dX6_weigh_13 : decode cX6_weigh 13 = .ok (.iconst 1, 1) := by decide +kernel
theorem dX6_weigh_14 : decode cX6_weigh 14 = .ok (.goto 15, 3) := by decide +kernel
theorem dX6_weigh_17 : decode cX6_weigh 17 = .ok (.iload_n 2, 1) := by decide +kernel
theorem dX6_weigh_18 : decode cX6_weigh 18 = .ok (.invokestatic 63, 3) := by decide +kernel
theorem dX6_weigh_21 : decode cX6_weigh 21 = .ok (.ifCond .eq 7, 3) := by decide +kernel
theorem dX6_weigh_24 : decode cX6_weigh 24 = .ok (.iconst 2, 1) := by decide +kernel
theorem dX6_weigh_25 : decode cX6_weigh 25 = .ok (.goto 4, 3) := by decide +kernel
theorem dX6_weigh_28 : decode cX6_weigh 28 = .ok (.iconst 0, 1) := by decide +kernel
theorem dX6_weigh_29 : decode cX6_weigh 29 = .ok (.invokevirtual 52, 3) := by decide +kernel
theorem dX6_weigh_32 : decode cX6_weigh 32 = .ok (.ifCond .ne 15, 3) := by decide +kernel
theorem dX6_weigh_35 : decode cX6_weigh 35 = .ok (.aload_n 0, 1) := by decide +kernel
theorem dX6_weigh_36 : decode cX6_weigh 36 = .ok (.getfield 29, 3) := by decide +kernel
theorem dX6_weigh_39 : decode cX6_weigh 39 = .ok (.iload_n 1, 1) := by decide +kernel
theorem dX6_weigh_40 : decode cX6_weigh 40 = .ok (.iload_n 2, 1) := by decide +kernel
theorem dX6_weigh_41 : decode cX6_weigh 41 = .ok (.iastore, 1) := by decide +kernel
theorem dX6_weigh_42 : decode cX6_weigh 42 = .ok (.aload_n 0, 1) := by decide +kernel
theorem dX6_weigh_43 : decode cX6_weigh 43 = .ok (.iconst 0, 1) := by decide +kernel
theorem dX6_weigh_44 : decode cX6_weigh 44 = .ok (.putfield 59, 3) := by decide +kernel
theorem dX6_weigh_47 : decode cX6_weigh 47 = .ok (.return_, 1) := by decide +kernel
theorem dX6_has_0 : decode cX6_has 0 = .ok (.iload_n 0, 1) := by decide +kernel
theorem dX6_has_1 : decode cX6_has 1 = .ok (.iload_n 1, 1) := by decide +kernel
theorem dX6_has_2 : decode cX6_has 2 = .ok (.ishr, 1) := by decide +kernel
theorem dX6_has_3 : decode cX6_has 3 = .ok (.iconst 1, 1) := by decide +kernel
theorem dX6_has_4 : decode cX6_has 4 = .ok (.iand, 1) := by decide +kernel
theorem dX6_has_5 : decode cX6_has 5 = .ok (.iconst 1, 1) := by decide +kernel
theorem dX6_has_6 : decode cX6_has 6 = .ok (.if_icmp .ne 7, 3) := by decide +kernel
theorem dX6_has_9 : decode cX6_has 9 = .ok (.iconst 1, 1) := by decide +kernel
theorem dX6_has_10 : decode cX6_has 10 = .ok (.goto 4, 3) := by decide +kernel
theorem dX6_has_13 : decode cX6_has 13 = .ok (.iconst 0, 1) := by decide +kernel
theorem dX6_has_14 : decode cX6_has 14 = .ok (.ireturn, 1) := by decide +kernel
theorem dX6_size_0 : decode cX6_size 0 = .ok (.iconst 0, 1) := by decide +kernel
theorem dX6_size_1 : decode cX6_size 1 = .ok (.istore_n 1, 1) := by decide +kernel
theorem dX6_size_2 : decode cX6_size 2 = .ok (.iconst 0, 1) := by decide +kernel
theorem dX6_size_3 : decode cX6_size 3 = .ok (.istore_n 2, 1) := by decide +kernel
theorem dX6_size_4 : decode cX6_size 4 = .ok (.iload_n 2, 1) := by decide +kernel
theorem dX6_size_5 : decode cX6_size 5 = .ok (.bipush 14, 2) := by decide +kernel
theorem dX6_size_7 : decode cX6_size 7 = .ok (.if_icmp .ge 17, 3) := by decide +kernel
theorem dX6_size_10 : decode cX6_size 10 = .ok (.iload_n 1, 1) := by decide +kernel
theorem dX6_size_11 : decode cX6_size 11 = .ok (.iload_n 0, 1) := by decide +kernel
theorem dX6_size_12 : decode cX6_size 12 = .ok (.iload_n 2, 1) := by decide +kernel
theorem dX6_size_13 : decode cX6_size 13 = .ok (.ishr, 1) := by decide +kernel
theorem dX6_size_14 : decode cX6_size 14 = .ok (.iconst 1, 1) := by decide +kernel
theorem dX6_size_15 : decode cX6_size 15 = .ok (.iand, 1) := by decide +kernel
theorem dX6_size_16 : decode cX6_size 16 = .ok (.iadd, 1) := by decide +kernel
theorem dX6_size_17 : decode cX6_size 17 = .ok (.istore_n 1, 1) := by decide +kernel
theorem dX6_size_18 : decode cX6_size 18 = .ok (.iinc 2 1, 3) := by decide +kernel
theorem dX6_size_21 : decode cX6_size 21 = .ok (.goto (-17), 3) := by decide +kernel
theorem dX6_size_24 : decode cX6_size 24 = .ok (.iload_n 1, 1) := by decide +kernel
theorem dX6_size_25 : decode cX6_size 25 = .ok (.ireturn, 1) := by decide +kernel
set_option maxRecDepth 20000 in
theorem ggX6_hasNoRing_X6_has : GoodIn wsX6_hasNoRing wsX6_has := goodIn_r _ [9] (by decide +kernel) (by decide +kernel)
set_option maxRecDepth 20000 in
theorem gX6_hasNoRing_X6_has : GoodIn wsX6_hasNoRing (va_wsS RX6 66 yX6_has wsX6_has) := goodIn_app (goodIn_of _ (by decide +kernel)) ggX6_hasNoRing_X6_has
theorem dX6_hasNoRing_0 : decode cX6_hasNoRing 0 = .ok (.iconst 0, 1) := by decide +kernel
theorem dX6_hasNoRing_1 : decode cX6_hasNoRing 1 = .ok (.istore_n 2, 1) := by decide +kernel
theorem dX6_hasNoRing_2 : decode cX6_hasNoRing 2 = .ok (.iload_n 2, 1) := by decide +kernel
theorem dX6_hasNoRing_3 : decode cX6_hasNoRing 3 = .ok (.aload_n 0, 1) := by decide +kernel
theorem dX6_hasNoRing_4 : decode cX6_hasNoRing 4 = .ok (.getfield 7, 3) := by decide +kernel
theorem dX6_hasNoRing_7 : decode cX6_hasNoRing 7 = .ok (.if_icmp .ge 16, 3) := by decide +kernel
theorem dX6_hasNoRing_10 : decode cX6_hasNoRing 10 = .ok (.aload_n 0, 1) := by decide +kernel
theorem dX6_hasNoRing_11 : decode cX6_hasNoRing 11 = .ok (.getfield 43, 3) := by decide +kernel
theorem dX6_hasNoRing_14 : decode cX6_hasNoRing 14 = .ok (.iload_n 2, 1) := by decide +kernel
theorem dX6_hasNoRing_15 : decode cX6_hasNoRing 15 = .ok (.iload_n 2, 1) := by decide +kernel
theorem dX6_hasNoRing_16 : decode cX6_hasNoRing 16 = .ok (.iastore, 1) := by decide +kernel
theorem dX6_hasNoRing_17 : decode cX6_hasNoRing 17 = .ok (.iinc 2 1, 3) := by decide +kernel
theorem dX6_hasNoRing_20 : decode cX6_hasNoRing 20 = .ok (.goto (-18), 3) := by decide +kernel
theorem dX6_hasNoRing_23 : decode cX6_hasNoRing 23 = .ok (.iconst 0, 1) := by decide +kernel
theorem dX6_hasNoRing_24 : decode cX6_hasNoRing 24 = .ok (.istore_n 2, 1) := by decide +kernel
theorem dX6_hasNoRing_25 : decode cX6_hasNoRing 25 = .ok (.iload_n 2, 1) := by decide +kernel
theorem dX6_hasNoRing_26 : decode cX6_hasNoRing 26 = .ok (.aload_n 0, 1) := by decide +kernel
theorem dX6_hasNoRing_27 : decode cX6_hasNoRing 27 = .ok (.getfield 56, 3) := by decide +kernel
theorem dX6_hasNoRing_30 : decode cX6_hasNoRing 30 = .ok (.if_icmp .ge 98, 3) := by decide +kernel
theorem dX6_hasNoRing_33 : decode cX6_hasNoRing 33 = .ok (.iload_n 1, 1) := by decide +kernel
theorem dX6_hasNoRing_34 : decode cX6_hasNoRing 34 = .ok (.iload_n 2, 1) := by decide +kernel
theorem dX6_hasNoRing_35 : decode cX6_hasNoRing 35 = .ok (.invokestatic 66, 3) := by decide +kernel
theorem dX6_hasNoRing_38 : decode cX6_hasNoRing 38 = .ok (.ifCond .eq 84, 3) := by decide +kernel
theorem dX6_hasNoRing_41 : decode cX6_hasNoRing 41 = .ok (.aload_n 0, 1) := by decide +kernel
theorem dX6_hasNoRing_42 : decode cX6_hasNoRing 42 = .ok (.getfield 43, 3) := by decide +kernel
theorem dX6_hasNoRing_45 : decode cX6_hasNoRing 45 = .ok (.aload_n 0, 1) := by decide +kernel
theorem dX6_hasNoRing_46 : decode cX6_hasNoRing 46 = .ok (.getfield 20, 3) := by decide +kernel
theorem dX6_hasNoRing_49 : decode cX6_hasNoRing 49 = .ok (.iload_n 2, 1) := by decide +kernel
theorem dX6_hasNoRing_50 : decode cX6_hasNoRing 50 = .ok (.iaload, 1) := by decide +kernel
theorem dX6_hasNoRing_51 : decode cX6_hasNoRing 51 = .ok (.iaload, 1) := by decide +kernel
theorem dX6_hasNoRing_52 : decode cX6_hasNoRing 52 = .ok (.istore_n 3, 1) := by decide +kernel
theorem dX6_hasNoRing_53 : decode cX6_hasNoRing 53 = .ok (.aload_n 0, 1) := by decide +kernel
theorem dX6_hasNoRing_54 : decode cX6_hasNoRing 54 = .ok (.getfield 43, 3) := by decide +kernel
theorem dX6_hasNoRing_57 : decode cX6_hasNoRing 57 = .ok (.aload_n 0, 1) := by decide +kernel
theorem dX6_hasNoRing_58 : decode cX6_hasNoRing 58 = .ok (.getfield 23, 3) := by decide +kernel
theorem dX6_hasNoRing_61 : decode cX6_hasNoRing 61 = .ok (.iload_n 2, 1) := by decide +kernel
theorem dX6_hasNoRing_62 : decode cX6_hasNoRing 62 = .ok (.iaload, 1) := by decide +kernel
theorem dX6_hasNoRing_63 : decode cX6_hasNoRing 63 = .ok (.iaload, 1) := by decide +kernel
theorem dX6_hasNoRing_64 : decode cX6_hasNoRing 64 = .ok (.istore 4, 2) := by decide +kernel
theorem dX6_hasNoRing_66 : decode cX6_hasNoRing 66 = .ok (.iload_n 3, 1) := by decide +kernel
theorem dX6_hasNoRing_67 : decode cX6_hasNoRing 67 = .ok (.iload 4, 2) := by decide +kernel
theorem dX6_hasNoRing_69 : decode cX6_hasNoRing 69 = .ok (.if_icmp .ne 5, 3) := by decide +kernel
theorem dX6_hasNoRing_72 : decode cX6_hasNoRing 72 = .ok (.iconst 0, 1) := by decide +kernel
theorem dX6_hasNoRing_73 : decode cX6_hasNoRing 73 = .ok (.ireturn, 1) := by decide +kernel
theorem dX6_hasNoRing_74 : decode cX6_hasNoRing 74 = .ok (.iconst 0, 1) := by decide +kernel
theorem dX6_hasNoRing_75 : decode cX6_hasNoRing 75 = .ok (.istore 5, 2) := by decide +kernel
theorem dX6_hasNoRing_77 : decode cX6_hasNoRing 77 = .ok (.iload 5, 2) := by decide +kernel
theorem dX6_hasNoRing_79 : decode cX6_hasNoRing 79 = .ok (.aload_n 0, 1) := by decide +kernel
theorem dX6_hasNoRing_80 : decode cX6_hasNoRing 80 = .ok (.getfield 7, 3) := by decide +kernel
theorem dX6_hasNoRing_83 : decode cX6_hasNoRing 83 = .ok (.if_icmp .ge 39, 3) := by decide +kernel
theorem dX6_hasNoRing_86 : decode cX6_hasNoRing 86 = .ok (.aload_n 0, 1) := by decide +kernel
theorem dX6_hasNoRing_87 : decode cX6_hasNoRing 87 = .ok (.getfield 43, 3) := by decide +kernel
theorem dX6_hasNoRing_90 : decode cX6_hasNoRing 90 = .ok (.iload 5, 2) := by decide +kernel
theorem dX6_hasNoRing_92 : decode cX6_hasNoRing 92 = .ok (.aload_n 0, 1) := by decide +kernel
theorem dX6_hasNoRing_93 : decode cX6_hasNoRing 93 = .ok (.getfield 43, 3) := by decide +kernel
theorem dX6_hasNoRing_96 : decode cX6_hasNoRing 96 = .ok (.iload 5, 2) := by decide +kernel
theorem dX6_hasNoRing_98 : decode cX6_hasNoRing 98 = .ok (.iaload, 1) := by decide +kernel
theorem dX6_hasNoRing_99 : decode cX6_hasNoRing 99 = .ok (.iload_n 3, 1) := by decide +kernel
theorem dX6_hasNoRing_100 : decode cX6_hasNoRing 100 = .ok (.if_icmp .ne 8, 3) := by decide +kernel
theorem dX6_hasNoRing_103 : decode cX6_hasNoRing 103 = .ok (.iload 4, 2) := by decide +kernel
theorem dX6_hasNoRing_105 : decode cX6_hasNoRing 105 = .ok (.goto 10, 3) := by decide +kernel
theorem dX6_hasNoRing_108 : decode cX6_hasNoRing 108 = .ok (.aload_n 0, 1) := by decide +kernel
theorem dX6_hasNoRing_109 : decode cX6_hasNoRing 109 = .ok (.getfield 43, 3) := by decide +kernel
theorem dX6_hasNoRing_112 : decode cX6_hasNoRing 112 = .ok (.iload 5, 2) := by decide +kernel
theorem dX6_hasNoRing_114 : decode cX6_hasNoRing 114 = .ok (.iaload, 1) := by decide +kernel
theorem dX6_hasNoRing_115 : decode cX6_hasNoRing 115 = .ok (.iastore, 1) := by decide +kernel
theorem dX6_hasNoRing_116 : decode cX6_hasNoRing 116 = .ok (.iinc 5 1, 3) := by decide +kernel
theorem dX6_hasNoRing_119 : decode cX6_hasNoRing 119 = .ok (.goto (-42), 3) := by decide +kernel
theorem dX6_hasNoRing_122 : decode cX6_hasNoRing 122 = .ok (.iinc 2 1, 3) := by decide +kernel
theorem dX6_hasNoRing_125 : decode cX6_hasNoRing 125 = .ok (.goto (-100), 3) := by decide +kernel
theorem dX6_hasNoRing_128 : decode cX6_hasNoRing 128 = .ok (.iconst 1, 1) := by decide +kernel
theorem dX6_hasNoRing_129 : decode cX6_hasNoRing 129 = .ok (.ireturn, 1) := by decide +kernel
set_option maxRecDepth 20000 in
theorem ggX6_keepsLimits_X6_has : GoodIn wsX6_keepsLimits wsX6_has := goodIn_r _ [9] (by decide +kernel) (by decide +kernel)
set_option maxRecDepth 20000 in
theorem gX6_keepsLimits_X6_has : GoodIn wsX6_keepsLimits (va_wsS RX6 66 yX6_has wsX6_has) := goodIn_app (goodIn_of _ (by decide +kernel)) ggX6_keepsLimits_X6_has
theorem dX6_keepsLimits_0 : decode cX6_keepsLimits 0 = .ok (.iconst 0, 1) := by decide +kernel
theorem dX6_keepsLimits_1 : decode cX6_keepsLimits 1 = .ok (.istore_n 2, 1) := by decide +kernel
theorem dX6_keepsLimits_2 : decode cX6_keepsLimits 2 = .ok (.iload_n 2, 1) := by decide +kernel
theorem dX6_keepsLimits_3 : decode cX6_keepsLimits 3 = .ok (.aload_n 0, 1) := by decide +kernel
theorem dX6_keepsLimits_4 : decode cX6_keepsLimits 4 = .ok (.getfield 13, 3) := by decide +kernel
theorem dX6_keepsLimits_7 : decode cX6_keepsLimits 7 = .ok (.if_icmp .ge 16, 3) := by decide +kernel
theorem dX6_keepsLimits_10 : decode cX6_keepsLimits 10 = .ok (.aload_n 0, 1) := by decide +kernel
theorem dX6_keepsLimits_11 : decode cX6_keepsLimits 11 = .ok (.getfield 46, 3) := by decide +kernel
theorem dX6_keepsLimits_14 : decode cX6_keepsLimits 14 = .ok (.iload_n 2, 1) := by decide +kernel
theorem dX6_keepsLimits_15 : decode cX6_keepsLimits 15 = .ok (.iconst 0, 1) := by decide +kernel
theorem dX6_keepsLimits_16 : decode cX6_keepsLimits 16 = .ok (.iastore, 1) := by decide +kernel
theorem dX6_keepsLimits_17 : decode cX6_keepsLimits 17 = .ok (.iinc 2 1, 3) := by decide +kernel
theorem dX6_keepsLimits_20 : decode cX6_keepsLimits 20 = .ok (.goto (-18), 3) := by decide +kernel
theorem dX6_keepsLimits_23 : decode cX6_keepsLimits 23 = .ok (.iconst 1, 1) := by decide +kernel
theorem dX6_keepsLimits_24 : decode cX6_keepsLimits 24 = .ok (.istore_n 2, 1) := by decide +kernel
theorem dX6_keepsLimits_25 : decode cX6_keepsLimits 25 = .ok (.iconst 0, 1) := by decide +kernel
theorem dX6_keepsLimits_26 : decode cX6_keepsLimits 26 = .ok (.istore_n 3, 1) := by decide +kernel
theorem dX6_keepsLimits_27 : decode cX6_keepsLimits 27 = .ok (.iload_n 3, 1) := by decide +kernel
theorem dX6_keepsLimits_28 : decode cX6_keepsLimits 28 = .ok (.aload_n 0, 1) := by decide +kernel
theorem dX6_keepsLimits_29 : decode cX6_keepsLimits 29 = .ok (.getfield 56, 3) := by decide +kernel
theorem dX6_keepsLimits_32 : decode cX6_keepsLimits 32 = .ok (.if_icmp .ge 67, 3) := by decide +kernel
theorem dX6_keepsLimits_35 : decode cX6_keepsLimits 35 = .ok (.iload_n 1, 1) := by decide +kernel
theorem dX6_keepsLimits_36 : decode cX6_keepsLimits 36 = .ok (.iload_n 3, 1) := by decide +kernel
theorem dX6_keepsLimits_37 : decode cX6_keepsLimits 37 = .ok (.invokestatic 66, 3) := by decide +kernel
theorem dX6_keepsLimits_40 : decode cX6_keepsLimits 40 = .ok (.ifCond .eq 53, 3) := by decide +kernel
theorem dX6_keepsLimits_43 : decode cX6_keepsLimits 43 = .ok (.aload_n 0, 1) := by decide +kernel
theorem dX6_keepsLimits_44 : decode cX6_keepsLimits 44 = .ok (.getfield 46, 3) := by decide +kernel
theorem dX6_keepsLimits_47 : decode cX6_keepsLimits 47 = .ok (.aload_n 0, 1) := by decide +kernel
theorem dX6_keepsLimits_48 : decode cX6_keepsLimits 48 = .ok (.getfield 26, 3) := by decide +kernel
theorem dX6_keepsLimits_51 : decode cX6_keepsLimits 51 = .ok (.iload_n 3, 1) := by decide +kernel
theorem dX6_keepsLimits_52 : decode cX6_keepsLimits 52 = .ok (.iaload, 1) := by decide +kernel
theorem dX6_keepsLimits_53 : decode cX6_keepsLimits 53 = .ok (.dup2, 1) := by decide +kernel
theorem dX6_keepsLimits_54 : decode cX6_keepsLimits 54 = .ok (.iaload, 1) := by decide +kernel
theorem dX6_keepsLimits_55 : decode cX6_keepsLimits 55 = .ok (.iconst 1, 1) := by decide +kernel
theorem dX6_keepsLimits_56 : decode cX6_keepsLimits 56 = .ok (.iadd, 1) := by decide +kernel
theorem dX6_keepsLimits_57 : decode cX6_keepsLimits 57 = .ok (.iastore, 1) := by decide +kernel
theorem dX6_keepsLimits_58 : decode cX6_keepsLimits 58 = .ok (.iload_n 2, 1) := by decide +kernel
theorem dX6_keepsLimits_59 : decode cX6_keepsLimits 59 = .ok (.ifCond .eq 32, 3) := by decide +kernel
theorem dX6_keepsLimits_62 : decode cX6_keepsLimits 62 = .ok (.aload_n 0, 1) := by decide +kernel
theorem dX6_keepsLimits_63 : decode cX6_keepsLimits 63 = .ok (.getfield 46, 3) := by decide +kernel
theorem dX6_keepsLimits_66 : decode cX6_keepsLimits 66 = .ok (.aload_n 0, 1) := by decide +kernel
theorem dX6_keepsLimits_67 : decode cX6_keepsLimits 67 = .ok (.getfield 26, 3) := by decide +kernel
theorem dX6_keepsLimits_70 : decode cX6_keepsLimits 70 = .ok (.iload_n 3, 1) := by decide +kernel
theorem dX6_keepsLimits_71 : decode cX6_keepsLimits 71 = .ok (.iaload, 1) := by decide +kernel
theorem dX6_keepsLimits_72 : decode cX6_keepsLimits 72 = .ok (.iaload, 1) := by decide +kernel
theorem dX6_keepsLimits_73 : decode cX6_keepsLimits 73 = .ok (.aload_n 0, 1) := by decide +kernel
theorem dX6_keepsLimits_74 : decode cX6_keepsLimits 74 = .ok (.getfield 16, 3) := by decide +kernel
theorem dX6_keepsLimits_77 : decode cX6_keepsLimits 77 = .ok (.aload_n 0, 1) := by decide +kernel
theorem dX6_keepsLimits_78 : decode cX6_keepsLimits 78 = .ok (.getfield 26, 3) := by decide +kernel
theorem dX6_keepsLimits_81 : decode cX6_keepsLimits 81 = .ok (.iload_n 3, 1) := by decide +kernel
theorem dX6_keepsLimits_82 : decode cX6_keepsLimits 82 = .ok (.iaload, 1) := by decide +kernel
theorem dX6_keepsLimits_83 : decode cX6_keepsLimits 83 = .ok (.iaload, 1) := by decide +kernel
theorem dX6_keepsLimits_84 : decode cX6_keepsLimits 84 = .ok (.if_icmp .gt 7, 3) := by decide +kernel
theorem dX6_keepsLimits_87 : decode cX6_keepsLimits 87 = .ok (.iconst 1, 1) := by decide +kernel
theorem dX6_keepsLimits_88 : decode cX6_keepsLimits 88 = .ok (.goto 4, 3) := by decide +kernel
theorem dX6_keepsLimits_91 : decode cX6_keepsLimits 91 = .ok (.iconst 0, 1) := by decide +kernel
theorem dX6_keepsLimits_92 : decode cX6_keepsLimits 92 = .ok (.istore_n 2, 1) := by decide +kernel
theorem dX6_keepsLimits_93 : decode cX6_keepsLimits 93 = .ok (.iinc 3 1, 3) := by decide +kernel
theorem dX6_keepsLimits_96 : decode cX6_keepsLimits 96 = .ok (.goto (-69), 3) := by decide +kernel
theorem dX6_keepsLimits_99 : decode cX6_keepsLimits 99 = .ok (.iload_n 2, 1) := by decide +kernel
theorem dX6_keepsLimits_100 : decode cX6_keepsLimits 100 = .ok (.ireturn, 1) := by decide +kernel
set_option maxRecDepth 20000 in
theorem ggX6_weightOf_X6_has : GoodIn wsX6_weightOf wsX6_has := goodIn_r _ [6] (by decide +kernel) (by decide +kernel)
set_option maxRecDepth 20000 in
theorem gX6_weightOf_X6_has : GoodIn wsX6_weightOf (va_wsS RX6 66 yX6_has wsX6_has) := goodIn_app (goodIn_of _ (by decide +kernel)) ggX6_weightOf_X6_has
theorem dX6_weightOf_0 : decode cX6_weightOf 0 = .ok (.iconst 0, 1) := by decide +kernel
theorem dX6_weightOf_1 : decode cX6_weightOf 1 = .ok (.istore_n 2, 1) := by decide +kernel
theorem dX6_weightOf_2 : decode cX6_weightOf 2 = .ok (.iconst 0, 1) := by decide +kernel
theorem dX6_weightOf_3 : decode cX6_weightOf 3 = .ok (.istore_n 3, 1) := by decide +kernel
theorem dX6_weightOf_4 : decode cX6_weightOf 4 = .ok (.iload_n 3, 1) := by decide +kernel
theorem dX6_weightOf_5 : decode cX6_weightOf 5 = .ok (.aload_n 0, 1) := by decide +kernel
theorem dX6_weightOf_6 : decode cX6_weightOf 6 = .ok (.getfield 56, 3) := by decide +kernel
theorem dX6_weightOf_9 : decode cX6_weightOf 9 = .ok (.if_icmp .ge 30, 3) := by decide +kernel
theorem dX6_weightOf_12 : decode cX6_weightOf 12 = .ok (.iload_n 2, 1) := by decide +kernel
theorem dX6_weightOf_13 : decode cX6_weightOf 13 = .ok (.iload_n 1, 1) := by decide +kernel
theorem dX6_weightOf_14 : decode cX6_weightOf 14 = .ok (.iload_n 3, 1) := by decide +kernel
theorem dX6_weightOf_15 : decode cX6_weightOf 15 = .ok (.invokestatic 66, 3) := by decide +kernel
theorem dX6_weightOf_18 : decode cX6_weightOf 18 = .ok (.ifCond .eq 12, 3) := by decide +kernel
theorem dX6_weightOf_21 : decode cX6_weightOf 21 = .ok (.aload_n 0, 1) := by decide +kernel
theorem dX6_weightOf_22 : decode cX6_weightOf 22 = .ok (.getfield 29, 3) := by decide +kernel
theorem dX6_weightOf_25 : decode cX6_weightOf 25 = .ok (.iload_n 3, 1) := by decide +kernel
theorem dX6_weightOf_26 : decode cX6_weightOf 26 = .ok (.iaload, 1) := by decide +kernel
theorem dX6_weightOf_27 : decode cX6_weightOf 27 = .ok (.goto 4, 3) := by decide +kernel
theorem dX6_weightOf_30 : decode cX6_weightOf 30 = .ok (.iconst 0, 1) := by decide +kernel
theorem dX6_weightOf_31 : decode cX6_weightOf 31 = .ok (.iadd, 1) := by decide +kernel
theorem dX6_weightOf_32 : decode cX6_weightOf 32 = .ok (.istore_n 2, 1) := by decide +kernel
theorem dX6_weightOf_33 : decode cX6_weightOf 33 = .ok (.iinc 3 1, 3) := by decide +kernel
theorem dX6_weightOf_36 : decode cX6_weightOf 36 = .ok (.goto (-32), 3) := by decide +kernel
theorem dX6_weightOf_39 : decode cX6_weightOf 39 = .ok (.iload_n 2, 1) := by decide +kernel
theorem dX6_weightOf_40 : decode cX6_weightOf 40 = .ok (.ireturn, 1) := by decide +kernel
set_option maxRecDepth 20000 in
theorem ggX6_learn_X6_hasNoRing : GoodIn wsX6_learn wsX6_hasNoRing := goodIn_r _ [11, 12, 13, 4, 14, 15, 16, 17, 10, 18, 35, 36, 37, 38, 39, 40, 41, 42, 43, 44, 45, 46, 47, 48, 49, 50] (by decide +kernel) (by decide +kernel)
set_option maxRecDepth 20000 in
theorem gX6_learn_X6_hasNoRing : GoodIn wsX6_learn (wsV RX6 73 RX6 yX6_hasNoRing wsX6_hasNoRing) := goodIn_app (goodIn_of _ (by decide +kernel)) ggX6_learn_X6_hasNoRing
set_option maxRecDepth 20000 in
theorem ggX6_learn_X6_keepsLimits : GoodIn wsX6_learn wsX6_keepsLimits := goodIn_r _ [22, 23, 24, 4, 25, 26, 16, 17, 10, 18, 35, 36, 37, 38, 39, 40, 41, 42, 43, 44, 45, 46, 47, 48, 49, 50] (by decide +kernel) (by decide +kernel)
set_option maxRecDepth 20000 in
theorem gX6_learn_X6_keepsLimits : GoodIn wsX6_learn (wsV RX6 76 RX6 yX6_keepsLimits wsX6_keepsLimits) := goodIn_app (goodIn_of _ (by decide +kernel)) ggX6_learn_X6_keepsLimits
set_option maxRecDepth 20000 in
theorem ggX6_learn_X6_size : GoodIn wsX6_learn wsX6_size := goodIn_r _ [29] (by decide +kernel) (by decide +kernel)
set_option maxRecDepth 20000 in
theorem gX6_learn_X6_size : GoodIn wsX6_learn (va_wsS RX6 79 yX6_size wsX6_size) := goodIn_app (goodIn_of _ (by decide +kernel)) ggX6_learn_X6_size
set_option maxRecDepth 20000 in
theorem ggX6_learn_X6_has : GoodIn wsX6_learn wsX6_has := goodIn_r _ [18] (by decide +kernel) (by decide +kernel)
set_option maxRecDepth 20000 in
theorem gX6_learn_X6_has : GoodIn wsX6_learn (va_wsS RX6 66 yX6_has wsX6_has) := goodIn_app (goodIn_of _ (by decide +kernel)) ggX6_learn_X6_has
set_option maxRecDepth 20000 in
theorem ggX6_learn_X6_weightOf : GoodIn wsX6_learn wsX6_weightOf := goodIn_r _ [33, 4, 34, 16, 17, 10, 18, 35, 36, 37, 38, 39, 40, 41, 42, 43, 44, 45, 46, 47, 48, 49, 50] (by decide +kernel) (by decide +kernel)
set_option maxRecDepth 20000 in
theorem gX6_learn_X6_weightOf : GoodIn wsX6_learn (wsV RX6 83 RX6 yX6_weightOf wsX6_weightOf) := goodIn_app (goodIn_of _ (by decide +kernel)) ggX6_learn_X6_weightOf
theorem dX6_learn_0 : decode cX6_learn 0 = .ok (.aload_n 0, 1) := by decide +kernel
theorem dX6_learn_1 : decode cX6_learn 1 = .ok (.getfield 59, 3) := by decide +kernel
theorem dX6_learn_4 : decode cX6_learn 4 = .ok (.ifCond .eq 4, 3) := by decide +kernel
theorem dX6_learn_7 : decode cX6_learn 7 = .ok (.return_, 1) := by decide +kernel
theorem dX6_learn_8 : decode cX6_learn 8 = .ok (.aload_n 0, 1) := by decide +kernel
theorem dX6_learn_9 : decode cX6_learn 9 = .ok (.iconst 1, 1) := by decide +kernel
theorem dX6_learn_10 : decode cX6_learn 10 = .ok (.putfield 59, 3) := by decide +kernel
theorem dX6_learn_13 : decode cX6_learn 13 = .ok (.aload_n 0, 1) := by decide +kernel
theorem dX6_learn_14 : decode cX6_learn 14 = .ok (.iconst 0, 1) := by decide +kernel
theorem dX6_learn_15 : decode cX6_learn 15 = .ok (.putfield 70, 3) := by decide +kernel
theorem dX6_learn_18 : decode cX6_learn 18 = .ok (.iconst 0, 1) := by decide +kernel
theorem dX6_learn_19 : decode cX6_learn 19 = .ok (.istore_n 1, 1) := by decide +kernel
theorem dX6_learn_20 : decode cX6_learn 20 = .ok (.iload_n 1, 1) := by decide +kernel
theorem dX6_learn_21 : decode cX6_learn 21 = .ok (.bipush 15, 2) := by decide +kernel
theorem dX6_learn_23 : decode cX6_learn 23 = .ok (.if_icmp .ge 16, 3) := by decide +kernel
theorem dX6_learn_26 : decode cX6_learn 26 = .ok (.aload_n 0, 1) := by decide +kernel
theorem dX6_learn_27 : decode cX6_learn 27 = .ok (.getfield 40, 3) := by decide +kernel
theorem dX6_learn_30 : decode cX6_learn 30 = .ok (.iload_n 1, 1) := by decide +kernel
theorem dX6_learn_31 : decode cX6_learn 31 = .ok (.iconst (-1), 1) := by decide +kernel
theorem dX6_learn_32 : decode cX6_learn 32 = .ok (.iastore, 1) := by decide +kernel
theorem dX6_learn_33 : decode cX6_learn 33 = .ok (.iinc 1 1, 3) := by decide +kernel
theorem dX6_learn_36 : decode cX6_learn 36 = .ok (.goto (-16), 3) := by decide +kernel
theorem dX6_learn_39 : decode cX6_learn 39 = .ok (.iconst 0, 1) := by decide +kernel
theorem dX6_learn_40 : decode cX6_learn 40 = .ok (.istore_n 1, 1) := by decide +kernel
theorem dX6_learn_41 : decode cX6_learn 41 = .ok (.iload_n 1, 1) := by decide +kernel
theorem dX6_learn_42 : decode cX6_learn 42 = .ok (.iconst 1, 1) := by decide +kernel
theorem dX6_learn_43 : decode cX6_learn 43 = .ok (.aload_n 0, 1) := by decide +kernel
theorem dX6_learn_44 : decode cX6_learn 44 = .ok (.getfield 56, 3) := by decide +kernel
theorem dX6_learn_47 : decode cX6_learn 47 = .ok (.ishl, 1) := by decide +kernel
theorem dX6_learn_48 : decode cX6_learn 48 = .ok (.if_icmp .ge 253, 3) := by decide +kernel
theorem dX6_learn_51 : decode cX6_learn 51 = .ok (.aload_n 0, 1) := by decide +kernel
theorem dX6_learn_52 : decode cX6_learn 52 = .ok (.getfield 33, 3) := by decide +kernel
theorem dX6_learn_55 : decode cX6_learn 55 = .ok (.iload_n 1, 1) := by decide +kernel
theorem dX6_learn_56 : decode cX6_learn 56 = .ok (.aload_n 0, 1) := by decide +kernel
theorem dX6_learn_57 : decode cX6_learn 57 = .ok (.iload_n 1, 1) := by decide +kernel
theorem dX6_learn_58 : decode cX6_learn 58 = .ok (.invokevirtual 73, 3) := by decide +kernel
theorem dX6_learn_61 : decode cX6_learn 61 = .ok (.bastore, 1) := by decide +kernel
theorem dX6_learn_62 : decode cX6_learn 62 = .ok (.aload_n 0, 1) := by decide +kernel
theorem dX6_learn_63 : decode cX6_learn 63 = .ok (.getfield 33, 3) := by decide +kernel
theorem dX6_learn_66 : decode cX6_learn 66 = .ok (.sipush 16384, 3) := by decide +kernel
theorem dX6_learn_69 : decode cX6_learn 69 = .ok (.iload_n 1, 1) := by decide +kernel
theorem dX6_learn_70 : decode cX6_learn 70 = .ok (.iadd, 1) := by decide +kernel
theorem dX6_learn_71 : decode cX6_learn 71 = .ok (.aload_n 0, 1) := by decide +kernel
theorem dX6_learn_72 : decode cX6_learn 72 = .ok (.iload_n 1, 1) := by decide +kernel
theorem dX6_learn_73 : decode cX6_learn 73 = .ok (.invokevirtual 76, 3) := by decide +kernel
theorem dX6_learn_76 : decode cX6_learn 76 = .ok (.bastore, 1) := by decide +kernel
theorem dX6_learn_77 : decode cX6_learn 77 = .ok (.iconst 0, 1) := by decide +kernel
theorem dX6_learn_78 : decode cX6_learn 78 = .ok (.istore_n 2, 1) := by decide +kernel
theorem dX6_learn_79 : decode cX6_learn 79 = .ok (.iload_n 2, 1) := by decide +kernel
theorem dX6_learn_80 : decode cX6_learn 80 = .ok (.iconst 2, 1) := by decide +kernel
theorem dX6_learn_81 : decode cX6_learn 81 = .ok (.if_icmp .ge 133, 3) := by decide +kernel
theorem dX6_learn_84 : decode cX6_learn 84 = .ok (.sipush 16384, 3) := by decide +kernel
theorem dX6_learn_87 : decode cX6_learn 87 = .ok (.iload_n 2, 1) := by decide +kernel
theorem dX6_learn_88 : decode cX6_learn 88 = .ok (.imul, 1) := by decide +kernel
theorem dX6_learn_89 : decode cX6_learn 89 = .ok (.istore_n 3, 1) := by decide +kernel
theorem dX6_learn_90 : decode cX6_learn 90 = .ok (.aload_n 0, 1) := by decide +kernel
theorem dX6_learn_91 : decode cX6_learn 91 = .ok (.getfield 37, 3) := by decide +kernel
theorem dX6_learn_94 : decode cX6_learn 94 = .ok (.iload_n 3, 1) := by decide +kernel
theorem dX6_learn_95 : decode cX6_learn 95 = .ok (.iload_n 1, 1) := by decide +kernel
theorem dX6_learn_96 : decode cX6_learn 96 = .ok (.iadd, 1) := by decide +kernel
theorem dX6_learn_97 : decode cX6_learn 97 = .ok (.aload_n 0, 1) := by decide +kernel
theorem dX6_learn_98 : decode cX6_learn 98 = .ok (.getfield 33, 3) := by decide +kernel
theorem dX6_learn_101 : decode cX6_learn 101 = .ok (.iload_n 3, 1) := by decide +kernel
theorem dX6_learn_102 : decode cX6_learn 102 = .ok (.iload_n 1, 1) := by decide +kernel
theorem dX6_learn_103 : decode cX6_learn 103 = .ok (.iadd, 1) := by decide +kernel
theorem dX6_learn_104 : decode cX6_learn 104 = .ok (.baload, 1) := by decide +kernel
theorem dX6_learn_105 : decode cX6_learn 105 = .ok (.ifCond .eq 10, 3) := by decide +kernel
theorem dX6_learn_108 : decode cX6_learn 108 = .ok (.iload_n 1, 1) := by decide +kernel
theorem dX6_learn_109 : decode cX6_learn 109 = .ok (.invokestatic 79, 3) := by decide +kernel
theorem dX6_learn_112 : decode cX6_learn 112 = .ok (.goto 4, 3) := by decide +kernel
theorem dX6_learn_115 : decode cX6_learn 115 = .ok (.iconst 0, 1) := by decide +kernel
theorem dX6_learn_116 : decode cX6_learn 116 = .ok (.iastore, 1) := by decide +kernel
theorem dX6_learn_117 : decode cX6_learn 117 = .ok (.iconst 0, 1) := by decide +kernel
theorem dX6_learn_118 : decode cX6_learn 118 = .ok (.istore 4, 2) := by decide +kernel
theorem dX6_learn_120 : decode cX6_learn 120 = .ok (.iload 4, 2) := by decide +kernel
theorem dX6_learn_122 : decode cX6_learn 122 = .ok (.aload_n 0, 1) := by decide +kernel
theorem dX6_learn_123 : decode cX6_learn 123 = .ok (.getfield 56, 3) := by decide +kernel
theorem dX6_learn_126 : decode cX6_learn 126 = .ok (.if_icmp .ge 82, 3) := by decide +kernel
theorem dX6_learn_129 : decode cX6_learn 129 = .ok (.aload_n 0, 1) := by decide +kernel
theorem dX6_learn_130 : decode cX6_learn 130 = .ok (.getfield 33, 3) := by decide +kernel
theorem dX6_learn_133 : decode cX6_learn 133 = .ok (.iload_n 3, 1) := by decide +kernel
theorem dX6_learn_134 : decode cX6_learn 134 = .ok (.iload_n 1, 1) := by decide +kernel
theorem dX6_learn_135 : decode cX6_learn 135 = .ok (.iadd, 1) := by decide +kernel
theorem dX6_learn_136 : decode cX6_learn 136 = .ok (.baload, 1) := by decide +kernel
theorem dX6_learn_137 : decode cX6_learn 137 = .ok (.ifCond .ne 71, 3) := by decide +kernel
theorem dX6_learn_140 : decode cX6_learn 140 = .ok (.iload_n 1, 1) := by decide +kernel
theorem dX6_learn_141 : decode cX6_learn 141 = .ok (.iload 4, 2) := by decide +kernel
theorem dX6_learn_143 : decode cX6_learn 143 = .ok (.invokestatic 66, 3) := by decide +kernel
theorem dX6_learn_146 : decode cX6_learn 146 = .ok (.ifCond .eq 19, 3) := by decide +kernel
theorem dX6_learn_149 : decode cX6_learn 149 = .ok (.aload_n 0, 1) := by decide +kernel
theorem dX6_learn_150 : decode cX6_learn 150 = .ok (.getfield 37, 3) := by decide +kernel
theorem dX6_learn_153 : decode cX6_learn 153 = .ok (.iload_n 3, 1) := by decide +kernel
theorem dX6_learn_154 : decode cX6_learn 154 = .ok (.iload_n 1, 1) := by decide +kernel
theorem dX6_learn_155 : decode cX6_learn 155 = .ok (.iconst 1, 1) := by decide +kernel
theorem dX6_learn_156 : decode cX6_learn 156 = .ok (.iload 4, 2) := by decide +kernel
theorem dX6_learn_158 : decode cX6_learn 158 = .ok (.ishl, 1) := by decide +kernel
theorem dX6_learn_159 : decode cX6_learn 159 = .ok (.ixor, 1) := by decide +kernel
theorem dX6_learn_160 : decode cX6_learn 160 = .ok (.iadd, 1) := by decide +kernel
theorem dX6_learn_161 : decode cX6_learn 161 = .ok (.iaload, 1) := by decide +kernel
theorem dX6_learn_162 : decode cX6_learn 162 = .ok (.goto 4, 3) := by decide +kernel
theorem dX6_learn_165 : decode cX6_learn 165 = .ok (.iconst 0, 1) := by decide +kernel
theorem dX6_learn_166 : decode cX6_learn 166 = .ok (.istore 5, 2) := by decide +kernel
theorem dX6_learn_168 : decode cX6_learn 168 = .ok (.aload_n 0, 1) := by decide +kernel
theorem dX6_learn_169 : decode cX6_learn 169 = .ok (.getfield 37, 3) := by decide +kernel
theorem dX6_learn_172 : decode cX6_learn 172 = .ok (.iload_n 3, 1) := by decide +kernel
theorem dX6_learn_173 : decode cX6_learn 173 = .ok (.iload_n 1, 1) := by decide +kernel
theorem dX6_learn_174 : decode cX6_learn 174 = .ok (.iadd, 1) := by decide +kernel
theorem dX6_learn_175 : decode cX6_learn 175 = .ok (.iload 5, 2) := by decide +kernel
theorem dX6_learn_177 : decode cX6_learn 177 = .ok (.aload_n 0, 1) := by decide +kernel
theorem dX6_learn_178 : decode cX6_learn 178 = .ok (.getfield 37, 3) := by decide +kernel
theorem dX6_learn_181 : decode cX6_learn 181 = .ok (.iload_n 3, 1) := by decide +kernel
theorem dX6_learn_182 : decode cX6_learn 182 = .ok (.iload_n 1, 1) := by decide +kernel
theorem dX6_learn_183 : decode cX6_learn 183 = .ok (.iadd, 1) := by decide +kernel
theorem dX6_learn_184 : decode cX6_learn 184 = .ok (.iaload, 1) := by decide +kernel
theorem dX6_learn_185 : decode cX6_learn 185 = .ok (.if_icmp .le 8, 3) := by decide +kernel
theorem dX6_learn_188 : decode cX6_learn 188 = .ok (.iload 5, 2) := by decide +kernel
theorem dX6_learn_190 : decode cX6_learn 190 = .ok (.goto 11, 3) := by decide +kernel
theorem dX6_learn_193 : decode cX6_learn 193 = .ok (.aload_n 0, 1) := by decide +kernel
theorem dX6_learn_194 : decode cX6_learn 194 = .ok (.getfield 37, 3) := by decide +kernel
theorem dX6_learn_197 : decode cX6_learn 197 = .ok (.iload_n 3, 1) := by decide +kernel
theorem dX6_learn_198 : decode cX6_learn 198 = .ok (.iload_n 1, 1) := by decide +kernel
theorem dX6_learn_199 : decode cX6_learn 199 = .ok (.iadd, 1) := by decide +kernel
theorem dX6_learn_200 : decode cX6_learn 200 = .ok (.iaload, 1) := by decide +kernel
theorem dX6_learn_201 : decode cX6_learn 201 = .ok (.iastore, 1) := by decide +kernel
theorem dX6_learn_202 : decode cX6_learn 202 = .ok (.iinc 4 1, 3) := by decide +kernel
theorem dX6_learn_205 : decode cX6_learn 205 = .ok (.goto (-85), 3) := by decide +kernel
theorem dX6_learn_208 : decode cX6_learn 208 = .ok (.iinc 2 1, 3) := by decide +kernel
theorem dX6_learn_211 : decode cX6_learn 211 = .ok (.goto (-132), 3) := by decide +kernel
theorem dX6_learn_214 : decode cX6_learn 214 = .ok (.iload_n 1, 1) := by decide +kernel
theorem dX6_learn_215 : decode cX6_learn 215 = .ok (.invokestatic 79, 3) := by decide +kernel
theorem dX6_learn_218 : decode cX6_learn 218 = .ok (.istore_n 2, 1) := by decide +kernel
theorem dX6_learn_219 : decode cX6_learn 219 = .ok (.aload_n 0, 1) := by decide +kernel
theorem dX6_learn_220 : decode cX6_learn 220 = .ok (.getfield 33, 3) := by decide +kernel
theorem dX6_learn_223 : decode cX6_learn 223 = .ok (.iload_n 1, 1) := by decide +kernel
theorem dX6_learn_224 : decode cX6_learn 224 = .ok (.baload, 1) := by decide +kernel
theorem dX6_learn_225 : decode cX6_learn 225 = .ok (.ifCond .eq 70, 3) := by decide +kernel
theorem dX6_learn_228 : decode cX6_learn 228 = .ok (.aload_n 0, 1) := by decide +kernel
theorem dX6_learn_229 : decode cX6_learn 229 = .ok (.getfield 33, 3) := by decide +kernel
theorem dX6_learn_232 : decode cX6_learn 232 = .ok (.sipush 16384, 3) := by decide +kernel
theorem dX6_learn_235 : decode cX6_learn 235 = .ok (.iload_n 1, 1) := by decide +kernel
theorem dX6_learn_236 : decode cX6_learn 236 = .ok (.iadd, 1) := by decide +kernel
theorem dX6_learn_237 : decode cX6_learn 237 = .ok (.baload, 1) := by decide +kernel
theorem dX6_learn_238 : decode cX6_learn 238 = .ok (.ifCond .eq 57, 3) := by decide +kernel
theorem dX6_learn_241 : decode cX6_learn 241 = .ok (.aload_n 0, 1) := by decide +kernel
theorem dX6_learn_242 : decode cX6_learn 242 = .ok (.getfield 40, 3) := by decide +kernel
theorem dX6_learn_245 : decode cX6_learn 245 = .ok (.iload_n 2, 1) := by decide +kernel
theorem dX6_learn_246 : decode cX6_learn 246 = .ok (.iaload, 1) := by decide +kernel
theorem dX6_learn_247 : decode cX6_learn 247 = .ok (.ifCond .lt 21, 3) := by decide +kernel
theorem dX6_learn_250 : decode cX6_learn 250 = .ok (.aload_n 0, 1) := by decide +kernel
theorem dX6_learn_251 : decode cX6_learn 251 = .ok (.iload_n 1, 1) := by decide +kernel
theorem dX6_learn_252 : decode cX6_learn 252 = .ok (.invokevirtual 83, 3) := by decide +kernel
theorem dX6_learn_255 : decode cX6_learn 255 = .ok (.aload_n 0, 1) := by decide +kernel
theorem dX6_learn_256 : decode cX6_learn 256 = .ok (.aload_n 0, 1) := by decide +kernel
theorem dX6_learn_257 : decode cX6_learn 257 = .ok (.getfield 40, 3) := by decide +kernel
theorem dX6_learn_260 : decode cX6_learn 260 = .ok (.iload_n 2, 1) := by decide +kernel
theorem dX6_learn_261 : decode cX6_learn 261 = .ok (.iaload, 1) := by decide +kernel
theorem dX6_learn_262 : decode cX6_learn 262 = .ok (.invokevirtual 83, 3) := by decide +kernel
theorem dX6_learn_265 : decode cX6_learn 265 = .ok (.if_icmp .le 30, 3) := by decide +kernel
theorem dX6_learn_268 : decode cX6_learn 268 = .ok (.aload_n 0, 1) := by decide +kernel
theorem dX6_learn_269 : decode cX6_learn 269 = .ok (.getfield 40, 3) := by decide +kernel
theorem dX6_learn_272 : decode cX6_learn 272 = .ok (.iload_n 2, 1) := by decide +kernel
theorem dX6_learn_273 : decode cX6_learn 273 = .ok (.iload_n 1, 1) := by decide +kernel
theorem dX6_learn_274 : decode cX6_learn 274 = .ok (.iastore, 1) := by decide +kernel
theorem dX6_learn_275 : decode cX6_learn 275 = .ok (.aload_n 0, 1) := by decide +kernel
theorem dX6_learn_276 : decode cX6_learn 276 = .ok (.iload_n 2, 1) := by decide +kernel
theorem dX6_learn_277 : decode cX6_learn 277 = .ok (.aload_n 0, 1) := by decide +kernel
theorem dX6_learn_278 : decode cX6_learn 278 = .ok (.getfield 70, 3) := by decide +kernel
theorem dX6_learn_281 : decode cX6_learn 281 = .ok (.if_icmp .le 7, 3) := by decide +kernel
theorem dX6_learn_284 : decode cX6_learn 284 = .ok (.iload_n 2, 1) := by decide +kernel
theorem dX6_learn_285 : decode cX6_learn 285 = .ok (.goto 7, 3) := by decide +kernel
theorem dX6_learn_288 : decode cX6_learn 288 = .ok (.aload_n 0, 1) := by decide +kernel
theorem dX6_learn_289 : decode cX6_learn 289 = .ok (.getfield 70, 3) := by decide +kernel
theorem dX6_learn_292 : decode cX6_learn 292 = .ok (.putfield 70, 3) := by decide +kernel
theorem dX6_learn_295 : decode cX6_learn 295 = .ok (.iinc 1 1, 3) := by decide +kernel
theorem dX6_learn_298 : decode cX6_learn 298 = .ok (.goto (-257), 3) := by decide +kernel
theorem dX6_learn_301 : decode cX6_learn 301 = .ok (.return_, 1) := by decide +kernel
theorem dX6_isSet_0 : decode cX6_isSet 0 = .ok (.iload_n 1, 1) := by decide +kernel
theorem dX6_isSet_1 : decode cX6_isSet 1 = .ok (.ifCond .lt 17, 3) := by decide +kernel
theorem dX6_isSet_4 : decode cX6_isSet 4 = .ok (.iload_n 1, 1) := by decide +kernel
theorem dX6_isSet_5 : decode cX6_isSet 5 = .ok (.iconst 1, 1) := by decide +kernel
theorem dX6_isSet_6 : decode cX6_isSet 6 = .ok (.aload_n 0, 1) := by decide +kernel
theorem dX6_isSet_7 : decode cX6_isSet 7 = .ok (.getfield 56, 3) := by decide +kernel
theorem dX6_isSet_10 : decode cX6_isSet 10 = .ok (.ishl, 1) := by decide +kernel
theorem dX6_isSet_11 : decode cX6_isSet 11 = .ok (.if_icmp .ge 7, 3) := by decide +kernel
theorem dX6_isSet_14 : decode cX6_isSet 14 = .ok (.iconst 1, 1) := by decide +kernel
theorem dX6_isSet_15 : decode cX6_isSet 15 = .ok (.goto 4, 3) := by decide +kernel
theorem dX6_isSet_18 : decode cX6_isSet 18 = .ok (.iconst 0, 1) := by decide +kernel
theorem dX6_isSet_19 : decode cX6_isSet 19 = .ok (.ireturn, 1) := by decide +kernel
theorem dX6_isKind_0 : decode cX6_isKind 0 = .ok (.iload_n 0, 1) := by decide +kernel
theorem dX6_isKind_1 : decode cX6_isKind 1 = .ok (.ifCond .eq 8, 3) := by decide +kernel
theorem dX6_isKind_4 : decode cX6_isKind 4 = .ok (.iload_n 0, 1) := by decide +kernel
theorem dX6_isKind_5 : decode cX6_isKind 5 = .ok (.iconst 1, 1) := by decide +kernel
theorem dX6_isKind_6 : decode cX6_isKind 6 = .ok (.if_icmp .ne 7, 3) := by decide +kernel
theorem dX6_isKind_9 : decode cX6_isKind 9 = .ok (.iconst 1, 1) := by decide +kernel
theorem dX6_isKind_10 : decode cX6_isKind 10 = .ok (.goto 4, 3) := by decide +kernel
theorem dX6_isKind_13 : decode cX6_isKind 13 = .ok (.iconst 0, 1) := by decide +kernel
theorem dX6_isKind_14 : decode cX6_isKind 14 = .ok (.ireturn, 1) := by decide +kernel
set_option maxRecDepth 20000 in
theorem ggX6_count_X6_learn : GoodIn wsX6_count wsX6_learn := goodIn_r _ [11, 12, 13, 14, 3, 4, 2, 15, 16, 17, 10, 18, 5, 19, 20, 21, 22, 23, 24, 25, 26, 27, 28, 6, 29, 30, 31, 32, 33, 34, 35, 36, 37, 38, 39, 40, 41, 42, 43, 44, 45, 46, 47, 48, 49, 50, 51, 52, 53, 54, 55] (by decide +kernel) (by decide +kernel)
set_option maxRecDepth 20000 in
theorem gX6_count_X6_learn : GoodIn wsX6_count (wsV RX6 86 RX6 yX6_learn wsX6_learn) := goodIn_app (goodIn_of _ (by decide +kernel)) ggX6_count_X6_learn
set_option maxRecDepth 20000 in
theorem ggX6_count_X6_size : GoodIn wsX6_count wsX6_size := goodIn_r _ [34] (by decide +kernel) (by decide +kernel)
set_option maxRecDepth 20000 in
theorem gX6_count_X6_size : GoodIn wsX6_count (va_wsS RX6 79 yX6_size wsX6_size) := goodIn_app (goodIn_of _ (by decide +kernel)) ggX6_count_X6_size
theorem dX6_count_0 : decode cX6_count 0 = .ok (.aload_n 0, 1) := by decide +kernel
theorem dX6_count_1 : decode cX6_count 1 = .ok (.iconst 0, 1) := by decide +kernel
theorem dX6_count_2 : decode cX6_count 2 = .ok (.putfield 49, 3) := by decide +kernel
theorem dX6_count_5 : decode cX6_count 5 = .ok (.aload_n 0, 1) := by decide +kernel
theorem dX6_count_6 : decode cX6_count 6 = .ok (.invokevirtual 86, 3) := by decide +kernel
theorem dX6_count_9 : decode cX6_count 9 = .ok (.iconst 0, 1) := by decide +kernel
theorem dX6_count_10 : decode cX6_count 10 = .ok (.istore_n 2, 1) := by decide +kernel
theorem dX6_count_11 : decode cX6_count 11 = .ok (.aload_n 0, 1) := by decide +kernel
theorem dX6_count_12 : decode cX6_count 12 = .ok (.getfield 37, 3) := by decide +kernel
theorem dX6_count_15 : decode cX6_count 15 = .ok (.iconst 1, 1) := by decide +kernel
theorem dX6_count_16 : decode cX6_count 16 = .ok (.aload_n 0, 1) := by decide +kernel
theorem dX6_count_17 : decode cX6_count 17 = .ok (.getfield 56, 3) := by decide +kernel
theorem dX6_count_20 : decode cX6_count 20 = .ok (.ishl, 1) := by decide +kernel
theorem dX6_count_21 : decode cX6_count 21 = .ok (.iconst 1, 1) := by decide +kernel
theorem dX6_count_22 : decode cX6_count 22 = .ok (.isub, 1) := by decide +kernel
theorem dX6_count_23 : decode cX6_count 23 = .ok (.iaload, 1) := by decide +kernel
theorem dX6_count_24 : decode cX6_count 24 = .ok (.istore_n 3, 1) := by decide +kernel
theorem dX6_count_25 : decode cX6_count 25 = .ok (.iconst 0, 1) := by decide +kernel
theorem dX6_count_26 : decode cX6_count 26 = .ok (.istore 4, 2) := by decide +kernel
theorem dX6_count_28 : decode cX6_count 28 = .ok (.iload 4, 2) := by decide +kernel
theorem dX6_count_30 : decode cX6_count 30 = .ok (.iconst 1, 1) := by decide +kernel
theorem dX6_count_31 : decode cX6_count 31 = .ok (.aload_n 0, 1) := by decide +kernel
theorem dX6_count_32 : decode cX6_count 32 = .ok (.getfield 56, 3) := by decide +kernel
theorem dX6_count_35 : decode cX6_count 35 = .ok (.ishl, 1) := by decide +kernel
theorem dX6_count_36 : decode cX6_count 36 = .ok (.if_icmp .ge 85, 3) := by decide +kernel
theorem dX6_count_39 : decode cX6_count 39 = .ok (.iload_n 1, 1) := by decide +kernel
theorem dX6_count_40 : decode cX6_count 40 = .ok (.iconst 3, 1) := by decide +kernel
theorem dX6_count_41 : decode cX6_count 41 = .ok (.if_icmp .ne 30, 3) := by decide +kernel
theorem dX6_count_44 : decode cX6_count 44 = .ok (.aload_n 0, 1) := by decide +kernel
theorem dX6_count_45 : decode cX6_count 45 = .ok (.getfield 33, 3) := by decide +kernel
theorem dX6_count_48 : decode cX6_count 48 = .ok (.iload 4, 2) := by decide +kernel
theorem dX6_count_50 : decode cX6_count 50 = .ok (.baload, 1) := by decide +kernel
theorem dX6_count_51 : decode cX6_count 51 = .ok (.ifCond .eq 16, 3) := by decide +kernel
theorem dX6_count_54 : decode cX6_count 54 = .ok (.iload 4, 2) := by decide +kernel
theorem dX6_count_56 : decode cX6_count 56 = .ok (.invokestatic 79, 3) := by decide +kernel
theorem dX6_count_59 : decode cX6_count 59 = .ok (.iload_n 3, 1) := by decide +kernel
theorem dX6_count_60 : decode cX6_count 60 = .ok (.if_icmp .ne 7, 3) := by decide +kernel
theorem dX6_count_63 : decode cX6_count 63 = .ok (.iconst 1, 1) := by decide +kernel
theorem dX6_count_64 : decode cX6_count 64 = .ok (.goto 36, 3) := by decide +kernel
theorem dX6_count_67 : decode cX6_count 67 = .ok (.iconst 0, 1) := by decide +kernel
theorem dX6_count_68 : decode cX6_count 68 = .ok (.goto 32, 3) := by decide +kernel
theorem dX6_count_71 : decode cX6_count 71 = .ok (.aload_n 0, 1) := by decide +kernel
theorem dX6_count_72 : decode cX6_count 72 = .ok (.getfield 33, 3) := by decide +kernel
theorem dX6_count_75 : decode cX6_count 75 = .ok (.iload 4, 2) := by decide +kernel
theorem dX6_count_77 : decode cX6_count 77 = .ok (.baload, 1) := by decide +kernel
theorem dX6_count_78 : decode cX6_count 78 = .ok (.ifCond .eq 21, 3) := by decide +kernel
theorem dX6_count_81 : decode cX6_count 81 = .ok (.aload_n 0, 1) := by decide +kernel
theorem dX6_count_82 : decode cX6_count 82 = .ok (.getfield 33, 3) := by decide +kernel
theorem dX6_count_85 : decode cX6_count 85 = .ok (.sipush 16384, 3) := by decide +kernel
theorem dX6_count_88 : decode cX6_count 88 = .ok (.iload 4, 2) := by decide +kernel
theorem dX6_count_90 : decode cX6_count 90 = .ok (.iadd, 1) := by decide +kernel
theorem dX6_count_91 : decode cX6_count 91 = .ok (.baload, 1) := by decide +kernel
theorem dX6_count_92 : decode cX6_count 92 = .ok (.ifCond .eq 7, 3) := by decide +kernel
theorem dX6_count_95 : decode cX6_count 95 = .ok (.iconst 1, 1) := by decide +kernel
theorem dX6_count_96 : decode cX6_count 96 = .ok (.goto 4, 3) := by decide +kernel
theorem dX6_count_99 : decode cX6_count 99 = .ok (.iconst 0, 1) := by decide +kernel
theorem dX6_count_100 : decode cX6_count 100 = .ok (.istore 5, 2) := by decide +kernel
theorem dX6_count_102 : decode cX6_count 102 = .ok (.iload_n 2, 1) := by decide +kernel
theorem dX6_count_103 : decode cX6_count 103 = .ok (.iload 5, 2) := by decide +kernel
theorem dX6_count_105 : decode cX6_count 105 = .ok (.ifCond .eq 7, 3) := by decide +kernel
theorem dX6_count_108 : decode cX6_count 108 = .ok (.iconst 1, 1) := by decide +kernel
theorem dX6_count_109 : decode cX6_count 109 = .ok (.goto 4, 3) := by decide +kernel
theorem dX6_count_112 : decode cX6_count 112 = .ok (.iconst 0, 1) := by decide +kernel
theorem dX6_count_113 : decode cX6_count 113 = .ok (.iadd, 1) := by decide +kernel
theorem dX6_count_114 : decode cX6_count 114 = .ok (.istore_n 2, 1) := by decide +kernel
theorem dX6_count_115 : decode cX6_count 115 = .ok (.iinc 4 1, 3) := by decide +kernel
theorem dX6_count_118 : decode cX6_count 118 = .ok (.goto (-90), 3) := by decide +kernel
theorem dX6_count_121 : decode cX6_count 121 = .ok (.iload_n 1, 1) := by decide +kernel
theorem dX6_count_122 : decode cX6_count 122 = .ok (.tableswitch 51 0 4 #[34, 39, 44, 49, 49], 34) := by decide +kernel
theorem dX6_count_156 : decode cX6_count 156 = .ok (.aload_n 0, 1) := by decide +kernel
theorem dX6_count_157 : decode cX6_count 157 = .ok (.getfield 7, 3) := by decide +kernel
theorem dX6_count_160 : decode cX6_count 160 = .ok (.ireturn, 1) := by decide +kernel
theorem dX6_count_161 : decode cX6_count 161 = .ok (.aload_n 0, 1) := by decide +kernel
theorem dX6_count_162 : decode cX6_count 162 = .ok (.getfield 13, 3) := by decide +kernel
theorem dX6_count_165 : decode cX6_count 165 = .ok (.ireturn, 1) := by decide +kernel
theorem dX6_count_166 : decode cX6_count 166 = .ok (.aload_n 0, 1) := by decide +kernel
theorem dX6_count_167 : decode cX6_count 167 = .ok (.getfield 56, 3) := by decide +kernel
theorem dX6_count_170 : decode cX6_count 170 = .ok (.ireturn, 1) := by decide +kernel
theorem dX6_count_171 : decode cX6_count 171 = .ok (.iload_n 2, 1) := by decide +kernel
theorem dX6_count_172 : decode cX6_count 172 = .ok (.ireturn, 1) := by decide +kernel
theorem dX6_count_173 : decode cX6_count 173 = .ok (.iconst (-1), 1) := by decide +kernel
theorem dX6_count_174 : decode cX6_count 174 = .ok (.ireturn, 1) := by decide +kernel
set_option maxRecDepth 20000 in
theorem ggX6_rank_X6_isKind : GoodIn wsX6_rank wsX6_isKind := goodIn_r _ [6] (by decide +kernel) (by decide +kernel)
set_option maxRecDepth 20000 in
theorem gX6_rank_X6_isKind : GoodIn wsX6_rank (va_wsS RX6 89 yX6_isKind wsX6_isKind) := goodIn_app (goodIn_of _ (by decide +kernel)) ggX6_rank_X6_isKind
set_option maxRecDepth 20000 in
theorem ggX6_rank_X6_isSet : GoodIn wsX6_rank wsX6_isSet := goodIn_r _ [10, 11, 47, 48, 49, 50, 51, 52, 53, 54, 55, 56, 57, 58, 59, 60, 61, 62] (by decide +kernel) (by decide +kernel)
set_option maxRecDepth 20000 in
theorem gX6_rank_X6_isSet : GoodIn wsX6_rank (wsV RX6 92 RX6 yX6_isSet wsX6_isSet) := goodIn_app (goodIn_of _ (by decide +kernel)) ggX6_rank_X6_isSet
set_option maxRecDepth 20000 in
theorem ggX6_rank_X6_learn : GoodIn wsX6_rank wsX6_learn := goodIn_r _ [15, 16, 17, 18, 11, 19, 2, 20, 21, 22, 5, 23, 24, 25, 26, 27, 28, 29, 30, 31, 32, 33, 34, 35, 36, 37, 38, 39, 40, 41, 42, 43, 44, 45, 46, 47, 48, 49, 50, 51, 52, 53, 54, 55, 56, 57, 58, 59, 60, 61, 62] (by decide +kernel) (by decide +kernel)
set_option maxRecDepth 20000 in
theorem gX6_rank_X6_learn : GoodIn wsX6_rank (wsV RX6 86 RX6 yX6_learn wsX6_learn) := goodIn_app (goodIn_of _ (by decide +kernel)) ggX6_rank_X6_learn
theorem dX6_rank_0 : decode cX6_rank 0 = .ok (.aload_n 0, 1) := by decide +kernel
theorem dX6_rank_1 : decode cX6_rank 1 = .ok (.iconst 0, 1) := by decide +kernel
theorem dX6_rank_2 : decode cX6_rank 2 = .ok (.putfield 49, 3) := by decide +kernel
theorem dX6_rank_5 : decode cX6_rank 5 = .ok (.iload_n 1, 1) := by decide +kernel
theorem dX6_rank_6 : decode cX6_rank 6 = .ok (.invokestatic 89, 3) := by decide +kernel
theorem dX6_rank_9 : decode cX6_rank 9 = .ok (.ifCond .eq 11, 3) := by decide +kernel
theorem dX6_rank_12 : decode cX6_rank 12 = .ok (.aload_n 0, 1) := by decide +kernel
theorem dX6_rank_13 : decode cX6_rank 13 = .ok (.iload_n 2, 1) := by decide +kernel
theorem dX6_rank_14 : decode cX6_rank 14 = .ok (.invokevirtual 92, 3) := by decide +kernel
theorem dX6_rank_17 : decode cX6_rank 17 = .ok (.ifCond .ne 5, 3) := by decide +kernel
theorem dX6_rank_20 : decode cX6_rank 20 = .ok (.iconst (-1), 1) := by decide +kernel
theorem dX6_rank_21 : decode cX6_rank 21 = .ok (.ireturn, 1) := by decide +kernel
theorem dX6_rank_22 : decode cX6_rank 22 = .ok (.aload_n 0, 1) := by decide +kernel
theorem dX6_rank_23 : decode cX6_rank 23 = .ok (.invokevirtual 86, 3) := by decide +kernel
theorem dX6_rank_26 : decode cX6_rank 26 = .ok (.aload_n 0, 1) := by decide +kernel
theorem dX6_rank_27 : decode cX6_rank 27 = .ok (.getfield 37, 3) := by decide +kernel
theorem dX6_rank_30 : decode cX6_rank 30 = .ok (.sipush 16384, 3) := by decide +kernel
theorem dX6_rank_33 : decode cX6_rank 33 = .ok (.iload_n 1, 1) := by decide +kernel
theorem dX6_rank_34 : decode cX6_rank 34 = .ok (.imul, 1) := by decide +kernel
theorem dX6_rank_35 : decode cX6_rank 35 = .ok (.iload_n 2, 1) := by decide +kernel
theorem dX6_rank_36 : decode cX6_rank 36 = .ok (.iadd, 1) := by decide +kernel
theorem dX6_rank_37 : decode cX6_rank 37 = .ok (.iaload, 1) := by decide +kernel
theorem dX6_rank_38 : decode cX6_rank 38 = .ok (.ireturn, 1) := by decide +kernel
set_option maxRecDepth 20000 in
theorem ggX6_free_X6_isKind : GoodIn wsX6_free wsX6_isKind := goodIn_r _ [6] (by decide +kernel) (by decide +kernel)
set_option maxRecDepth 20000 in
theorem gX6_free_X6_isKind : GoodIn wsX6_free (va_wsS RX6 89 yX6_isKind wsX6_isKind) := goodIn_app (goodIn_of _ (by decide +kernel)) ggX6_free_X6_isKind
set_option maxRecDepth 20000 in
theorem ggX6_free_X6_isSet : GoodIn wsX6_free wsX6_isSet := goodIn_r _ [10, 11, 47, 48, 49, 50, 51, 52, 53, 54, 55, 56, 57, 58, 59, 60, 61, 62] (by decide +kernel) (by decide +kernel)
set_option maxRecDepth 20000 in
theorem gX6_free_X6_isSet : GoodIn wsX6_free (wsV RX6 92 RX6 yX6_isSet wsX6_isSet) := goodIn_app (goodIn_of _ (by decide +kernel)) ggX6_free_X6_isSet
set_option maxRecDepth 20000 in
theorem ggX6_free_X6_learn : GoodIn wsX6_free wsX6_learn := goodIn_r _ [15, 16, 17, 18, 11, 2, 19, 20, 21, 22, 5, 23, 24, 25, 26, 27, 28, 29, 30, 31, 32, 33, 34, 35, 36, 37, 38, 39, 40, 41, 42, 43, 44, 45, 46, 47, 48, 49, 50, 51, 52, 53, 54, 55, 56, 57, 58, 59, 60, 61, 62] (by decide +kernel) (by decide +kernel)
set_option maxRecDepth 20000 in
theorem gX6_free_X6_learn : GoodIn wsX6_free (wsV RX6 86 RX6 yX6_learn wsX6_learn) := goodIn_app (goodIn_of _ (by decide +kernel)) ggX6_free_X6_learn
theorem dX6_free_0 : decode cX6_free 0 = .ok (.aload_n 0, 1) := by decide +kernel
theorem dX6_free_1 : decode cX6_free 1 = .ok (.iconst 0, 1) := by decide +kernel
theorem dX6_free_2 : decode cX6_free 2 = .ok (.putfield 49, 3) := by decide +kernel
theorem dX6_free_5 : decode cX6_free 5 = .ok (.iload_n 1, 1) := by decide +kernel
theorem dX6_free_6 : decode cX6_free 6 = .ok (.invokestatic 89, 3) := by decide +kernel
theorem dX6_free_9 : decode cX6_free 9 = .ok (.ifCond .ne 8, 3) := by decide +kernel
theorem dX6_free_12 : decode cX6_free 12 = .ok (.iload_n 1, 1) := by decide +kernel
theorem dX6_free_13 : decode cX6_free 13 = .ok (.iconst 2, 1) := by decide +kernel
theorem dX6_free_14 : decode cX6_free 14 = .ok (.if_icmp .ne 11, 3) := by decide +kernel
theorem dX6_free_17 : decode cX6_free 17 = .ok (.aload_n 0, 1) := by decide +kernel
theorem dX6_free_18 : decode cX6_free 18 = .ok (.iload_n 2, 1) := by decide +kernel
theorem dX6_free_19 : decode cX6_free 19 = .ok (.invokevirtual 92, 3) := by decide +kernel
theorem dX6_free_22 : decode cX6_free 22 = .ok (.ifCond .ne 5, 3) := by decide +kernel
theorem dX6_free_25 : decode cX6_free 25 = .ok (.iconst (-1), 1) := by decide +kernel
theorem dX6_free_26 : decode cX6_free 26 = .ok (.ireturn, 1) := by decide +kernel
theorem dX6_free_27 : decode cX6_free 27 = .ok (.aload_n 0, 1) := by decide +kernel
theorem dX6_free_28 : decode cX6_free 28 = .ok (.invokevirtual 86, 3) := by decide +kernel
theorem dX6_free_31 : decode cX6_free 31 = .ok (.iload_n 1, 1) := by decide +kernel
theorem dX6_free_32 : decode cX6_free 32 = .ok (.iconst 2, 1) := by decide +kernel
theorem dX6_free_33 : decode cX6_free 33 = .ok (.if_icmp .ne 33, 3) := by decide +kernel
theorem dX6_free_36 : decode cX6_free 36 = .ok (.aload_n 0, 1) := by decide +kernel
theorem dX6_free_37 : decode cX6_free 37 = .ok (.getfield 33, 3) := by decide +kernel
theorem dX6_free_40 : decode cX6_free 40 = .ok (.iload_n 2, 1) := by decide +kernel
theorem dX6_free_41 : decode cX6_free 41 = .ok (.baload, 1) := by decide +kernel
theorem dX6_free_42 : decode cX6_free 42 = .ok (.ifCond .eq 20, 3) := by decide +kernel
theorem dX6_free_45 : decode cX6_free 45 = .ok (.aload_n 0, 1) := by decide +kernel
theorem dX6_free_46 : decode cX6_free 46 = .ok (.getfield 33, 3) := by decide +kernel
theorem dX6_free_49 : decode cX6_free 49 = .ok (.sipush 16384, 3) := by decide +kernel
theorem dX6_free_52 : decode cX6_free 52 = .ok (.iload_n 2, 1) := by decide +kernel
theorem dX6_free_53 : decode cX6_free 53 = .ok (.iadd, 1) := by decide +kernel
theorem dX6_free_54 : decode cX6_free 54 = .ok (.baload, 1) := by decide +kernel
theorem dX6_free_55 : decode cX6_free 55 = .ok (.ifCond .eq 7, 3) := by decide +kernel
theorem dX6_free_58 : decode cX6_free 58 = .ok (.iconst 1, 1) := by decide +kernel
theorem dX6_free_59 : decode cX6_free 59 = .ok (.goto 19, 3) := by decide +kernel
theorem dX6_free_62 : decode cX6_free 62 = .ok (.iconst 0, 1) := by decide +kernel
theorem dX6_free_63 : decode cX6_free 63 = .ok (.goto 15, 3) := by decide +kernel
theorem dX6_free_66 : decode cX6_free 66 = .ok (.aload_n 0, 1) := by decide +kernel
theorem dX6_free_67 : decode cX6_free 67 = .ok (.getfield 33, 3) := by decide +kernel
theorem dX6_free_70 : decode cX6_free 70 = .ok (.sipush 16384, 3) := by decide +kernel
theorem dX6_free_73 : decode cX6_free 73 = .ok (.iload_n 1, 1) := by decide +kernel
theorem dX6_free_74 : decode cX6_free 74 = .ok (.imul, 1) := by decide +kernel
theorem dX6_free_75 : decode cX6_free 75 = .ok (.iload_n 2, 1) := by decide +kernel
theorem dX6_free_76 : decode cX6_free 76 = .ok (.iadd, 1) := by decide +kernel
theorem dX6_free_77 : decode cX6_free 77 = .ok (.baload, 1) := by decide +kernel
theorem dX6_free_78 : decode cX6_free 78 = .ok (.istore_n 3, 1) := by decide +kernel
theorem dX6_free_79 : decode cX6_free 79 = .ok (.iload_n 3, 1) := by decide +kernel
theorem dX6_free_80 : decode cX6_free 80 = .ok (.ifCond .eq 7, 3) := by decide +kernel
theorem dX6_free_83 : decode cX6_free 83 = .ok (.iconst 1, 1) := by decide +kernel
theorem dX6_free_84 : decode cX6_free 84 = .ok (.goto 4, 3) := by decide +kernel
theorem dX6_free_87 : decode cX6_free 87 = .ok (.iconst 0, 1) := by decide +kernel
theorem dX6_free_88 : decode cX6_free 88 = .ok (.ireturn, 1) := by decide +kernel
set_option maxRecDepth 20000 in
theorem ggX6_circuit_X6_isKind : GoodIn wsX6_circuit wsX6_isKind := goodIn_r _ [7] (by decide +kernel) (by decide +kernel)
set_option maxRecDepth 20000 in
theorem gX6_circuit_X6_isKind : GoodIn wsX6_circuit (va_wsS RX6 89 yX6_isKind wsX6_isKind) := goodIn_app (goodIn_of _ (by decide +kernel)) ggX6_circuit_X6_isKind
set_option maxRecDepth 20000 in
theorem ggX6_circuit_X6_isSet : GoodIn wsX6_circuit wsX6_isSet := goodIn_r _ [11, 2, 47, 48, 49, 50, 51, 52, 53, 54, 55, 56, 57, 58, 59, 60, 61, 62] (by decide +kernel) (by decide +kernel)
set_option maxRecDepth 20000 in
theorem gX6_circuit_X6_isSet : GoodIn wsX6_circuit (wsV RX6 92 RX6 yX6_isSet wsX6_isSet) := goodIn_app (goodIn_of _ (by decide +kernel)) ggX6_circuit_X6_isSet
set_option maxRecDepth 20000 in
theorem ggX6_circuit_X6_learn : GoodIn wsX6_circuit wsX6_learn := goodIn_r _ [15, 16, 17, 18, 2, 3, 19, 20, 21, 22, 6, 23, 24, 25, 26, 27, 28, 29, 30, 31, 32, 33, 34, 35, 36, 37, 38, 39, 40, 41, 42, 43, 44, 45, 46, 47, 48, 49, 50, 51, 52, 53, 54, 55, 56, 57, 58, 59, 60, 61, 62] (by decide +kernel) (by decide +kernel)
set_option maxRecDepth 20000 in
theorem gX6_circuit_X6_learn : GoodIn wsX6_circuit (wsV RX6 86 RX6 yX6_learn wsX6_learn) := goodIn_app (goodIn_of _ (by decide +kernel)) ggX6_circuit_X6_learn
set_option maxRecDepth 20000 in
theorem ggX6_circuit_X6_has : GoodIn wsX6_circuit wsX6_has := goodIn_r _ [30] (by decide +kernel) (by decide +kernel)
set_option maxRecDepth 20000 in
theorem gX6_circuit_X6_has : GoodIn wsX6_circuit (va_wsS RX6 66 yX6_has wsX6_has) := goodIn_app (goodIn_of _ (by decide +kernel)) ggX6_circuit_X6_has
theorem dX6_circuit_0 : decode cX6_circuit 0 = .ok (.aload_n 0, 1) := by decide +kernel
theorem dX6_circuit_1 : decode cX6_circuit 1 = .ok (.iconst 0, 1) := by decide +kernel
theorem dX6_circuit_2 : decode cX6_circuit 2 = .ok (.putfield 49, 3) := by decide +kernel
theorem dX6_circuit_5 : decode cX6_circuit 5 = .ok (.iload_n 1, 1) := by decide +kernel
theorem dX6_circuit_6 : decode cX6_circuit 6 = .ok (.invokestatic 89, 3) := by decide +kernel
theorem dX6_circuit_9 : decode cX6_circuit 9 = .ok (.ifCond .eq 23, 3) := by decide +kernel
theorem dX6_circuit_12 : decode cX6_circuit 12 = .ok (.aload_n 0, 1) := by decide +kernel
theorem dX6_circuit_13 : decode cX6_circuit 13 = .ok (.iload_n 2, 1) := by decide +kernel
theorem dX6_circuit_14 : decode cX6_circuit 14 = .ok (.invokevirtual 92, 3) := by decide +kernel
theorem dX6_circuit_17 : decode cX6_circuit 17 = .ok (.ifCond .eq 15, 3) := by decide +kernel
theorem dX6_circuit_20 : decode cX6_circuit 20 = .ok (.iload_n 3, 1) := by decide +kernel
theorem dX6_circuit_21 : decode cX6_circuit 21 = .ok (.ifCond .lt 11, 3) := by decide +kernel
theorem dX6_circuit_24 : decode cX6_circuit 24 = .ok (.iload_n 3, 1) := by decide +kernel
theorem dX6_circuit_25 : decode cX6_circuit 25 = .ok (.aload_n 0, 1) := by decide +kernel
theorem dX6_circuit_26 : decode cX6_circuit 26 = .ok (.getfield 56, 3) := by decide +kernel
theorem dX6_circuit_29 : decode cX6_circuit 29 = .ok (.if_icmp .lt 5, 3) := by decide +kernel
theorem dX6_circuit_32 : decode cX6_circuit 32 = .ok (.iconst (-1), 1) := by decide +kernel
theorem dX6_circuit_33 : decode cX6_circuit 33 = .ok (.ireturn, 1) := by decide +kernel
theorem dX6_circuit_34 : decode cX6_circuit 34 = .ok (.aload_n 0, 1) := by decide +kernel
theorem dX6_circuit_35 : decode cX6_circuit 35 = .ok (.invokevirtual 86, 3) := by decide +kernel
theorem dX6_circuit_38 : decode cX6_circuit 38 = .ok (.sipush 16384, 3) := by decide +kernel
theorem dX6_circuit_41 : decode cX6_circuit 41 = .ok (.iload_n 1, 1) := by decide +kernel
theorem dX6_circuit_42 : decode cX6_circuit 42 = .ok (.imul, 1) := by decide +kernel
theorem dX6_circuit_43 : decode cX6_circuit 43 = .ok (.istore 4, 2) := by decide +kernel
theorem dX6_circuit_45 : decode cX6_circuit 45 = .ok (.aload_n 0, 1) := by decide +kernel
theorem dX6_circuit_46 : decode cX6_circuit 46 = .ok (.getfield 33, 3) := by decide +kernel
theorem dX6_circuit_49 : decode cX6_circuit 49 = .ok (.iload 4, 2) := by decide +kernel
theorem dX6_circuit_51 : decode cX6_circuit 51 = .ok (.iload_n 2, 1) := by decide +kernel
theorem dX6_circuit_52 : decode cX6_circuit 52 = .ok (.iadd, 1) := by decide +kernel
theorem dX6_circuit_53 : decode cX6_circuit 53 = .ok (.baload, 1) := by decide +kernel
theorem dX6_circuit_54 : decode cX6_circuit 54 = .ok (.ifCond .eq 11, 3) := by decide +kernel
theorem dX6_circuit_57 : decode cX6_circuit 57 = .ok (.iload_n 2, 1) := by decide +kernel
theorem dX6_circuit_58 : decode cX6_circuit 58 = .ok (.iload_n 3, 1) := by decide +kernel
theorem dX6_circuit_59 : decode cX6_circuit 59 = .ok (.invokestatic 66, 3) := by decide +kernel
theorem dX6_circuit_62 : decode cX6_circuit 62 = .ok (.ifCond .eq 5, 3) := by decide +kernel
theorem dX6_circuit_65 : decode cX6_circuit 65 = .ok (.iconst (-1), 1) := by decide +kernel
theorem dX6_circuit_66 : decode cX6_circuit 66 = .ok (.ireturn, 1) := by decide +kernel
theorem dX6_circuit_67 : decode cX6_circuit 67 = .ok (.iload_n 2, 1) := by decide +kernel
theorem dX6_circuit_68 : decode cX6_circuit 68 = .ok (.iconst 1, 1) := by decide +kernel
theorem dX6_circuit_69 : decode cX6_circuit 69 = .ok (.iload_n 3, 1) := by decide +kernel
theorem dX6_circuit_70 : decode cX6_circuit 70 = .ok (.ishl, 1) := by decide +kernel
theorem dX6_circuit_71 : decode cX6_circuit 71 = .ok (.ior, 1) := by decide +kernel
theorem dX6_circuit_72 : decode cX6_circuit 72 = .ok (.istore 5, 2) := by decide +kernel
theorem dX6_circuit_74 : decode cX6_circuit 74 = .ok (.aload_n 0, 1) := by decide +kernel
theorem dX6_circuit_75 : decode cX6_circuit 75 = .ok (.getfield 33, 3) := by decide +kernel
theorem dX6_circuit_78 : decode cX6_circuit 78 = .ok (.iload 4, 2) := by decide +kernel
theorem dX6_circuit_80 : decode cX6_circuit 80 = .ok (.iload 5, 2) := by decide +kernel
theorem dX6_circuit_82 : decode cX6_circuit 82 = .ok (.iadd, 1) := by decide +kernel
theorem dX6_circuit_83 : decode cX6_circuit 83 = .ok (.baload, 1) := by decide +kernel
theorem dX6_circuit_84 : decode cX6_circuit 84 = .ok (.ifCond .eq 5, 3) := by decide +kernel
theorem dX6_circuit_87 : decode cX6_circuit 87 = .ok (.iconst 0, 1) := by decide +kernel
theorem dX6_circuit_88 : decode cX6_circuit 88 = .ok (.ireturn, 1) := by decide +kernel
theorem dX6_circuit_89 : decode cX6_circuit 89 = .ok (.iconst 0, 1) := by decide +kernel
theorem dX6_circuit_90 : decode cX6_circuit 90 = .ok (.istore 6, 2) := by decide +kernel
theorem dX6_circuit_92 : decode cX6_circuit 92 = .ok (.iconst 0, 1) := by decide +kernel
theorem dX6_circuit_93 : decode cX6_circuit 93 = .ok (.istore 7, 2) := by decide +kernel
theorem dX6_circuit_95 : decode cX6_circuit 95 = .ok (.iload 7, 2) := by decide +kernel
theorem dX6_circuit_97 : decode cX6_circuit 97 = .ok (.aload_n 0, 1) := by decide +kernel
theorem dX6_circuit_98 : decode cX6_circuit 98 = .ok (.getfield 56, 3) := by decide +kernel
theorem dX6_circuit_101 : decode cX6_circuit 101 = .ok (.if_icmp .ge 50, 3) := by decide +kernel
theorem dX6_circuit_104 : decode cX6_circuit 104 = .ok (.iload 6, 2) := by decide +kernel
theorem dX6_circuit_106 : decode cX6_circuit 106 = .ok (.iload 5, 2) := by decide +kernel
theorem dX6_circuit_108 : decode cX6_circuit 108 = .ok (.iload 7, 2) := by decide +kernel
theorem dX6_circuit_110 : decode cX6_circuit 110 = .ok (.invokestatic 66, 3) := by decide +kernel
theorem dX6_circuit_113 : decode cX6_circuit 113 = .ok (.ifCond .eq 28, 3) := by decide +kernel
theorem dX6_circuit_116 : decode cX6_circuit 116 = .ok (.aload_n 0, 1) := by decide +kernel
theorem dX6_circuit_117 : decode cX6_circuit 117 = .ok (.getfield 33, 3) := by decide +kernel
theorem dX6_circuit_120 : decode cX6_circuit 120 = .ok (.iload 4, 2) := by decide +kernel
theorem dX6_circuit_122 : decode cX6_circuit 122 = .ok (.iload 5, 2) := by decide +kernel
theorem dX6_circuit_124 : decode cX6_circuit 124 = .ok (.iconst 1, 1) := by decide +kernel
theorem dX6_circuit_125 : decode cX6_circuit 125 = .ok (.iload 7, 2) := by decide +kernel
theorem dX6_circuit_127 : decode cX6_circuit 127 = .ok (.ishl, 1) := by decide +kernel
theorem dX6_circuit_128 : decode cX6_circuit 128 = .ok (.ixor, 1) := by decide +kernel
theorem dX6_circuit_129 : decode cX6_circuit 129 = .ok (.iadd, 1) := by decide +kernel
theorem dX6_circuit_130 : decode cX6_circuit 130 = .ok (.baload, 1) := by decide +kernel
theorem dX6_circuit_131 : decode cX6_circuit 131 = .ok (.ifCond .eq 10, 3) := by decide +kernel
theorem dX6_circuit_134 : decode cX6_circuit 134 = .ok (.iconst 1, 1) := by decide +kernel
theorem dX6_circuit_135 : decode cX6_circuit 135 = .ok (.iload 7, 2) := by decide +kernel
theorem dX6_circuit_137 : decode cX6_circuit 137 = .ok (.ishl, 1) := by decide +kernel
theorem dX6_circuit_138 : decode cX6_circuit 138 = .ok (.goto 4, 3) := by decide +kernel
theorem dX6_circuit_141 : decode cX6_circuit 141 = .ok (.iconst 0, 1) := by decide +kernel
theorem dX6_circuit_142 : decode cX6_circuit 142 = .ok (.ior, 1) := by decide +kernel
theorem dX6_circuit_143 : decode cX6_circuit 143 = .ok (.istore 6, 2) := by decide +kernel
theorem dX6_circuit_145 : decode cX6_circuit 145 = .ok (.iinc 7 1, 3) := by decide +kernel
theorem dX6_circuit_148 : decode cX6_circuit 148 = .ok (.goto (-53), 3) := by decide +kernel
theorem dX6_circuit_151 : decode cX6_circuit 151 = .ok (.iload 6, 2) := by decide +kernel
theorem dX6_circuit_153 : decode cX6_circuit 153 = .ok (.ireturn, 1) := by decide +kernel
set_option maxRecDepth 20000 in
theorem ggX6_closure_X6_isKind : GoodIn wsX6_closure wsX6_isKind := goodIn_r _ [7] (by decide +kernel) (by decide +kernel)
set_option maxRecDepth 20000 in
theorem gX6_closure_X6_isKind : GoodIn wsX6_closure (va_wsS RX6 89 yX6_isKind wsX6_isKind) := goodIn_app (goodIn_of _ (by decide +kernel)) ggX6_closure_X6_isKind
set_option maxRecDepth 20000 in
theorem ggX6_closure_X6_isSet : GoodIn wsX6_closure wsX6_isSet := goodIn_r _ [11, 2, 47, 48, 49, 50, 51, 52, 53, 54, 55, 56, 57, 58, 59, 60, 61, 62] (by decide +kernel) (by decide +kernel)
set_option maxRecDepth 20000 in
theorem gX6_closure_X6_isSet : GoodIn wsX6_closure (wsV RX6 92 RX6 yX6_isSet wsX6_isSet) := goodIn_app (goodIn_of _ (by decide +kernel)) ggX6_closure_X6_isSet
set_option maxRecDepth 20000 in
theorem ggX6_closure_X6_learn : GoodIn wsX6_closure wsX6_learn := goodIn_r _ [15, 16, 17, 18, 2, 19, 3, 20, 21, 22, 6, 23, 24, 25, 26, 27, 28, 29, 30, 31, 32, 33, 34, 35, 36, 37, 38, 39, 40, 41, 42, 43, 44, 45, 46, 47, 48, 49, 50, 51, 52, 53, 54, 55, 56, 57, 58, 59, 60, 61, 62] (by decide +kernel) (by decide +kernel)
set_option maxRecDepth 20000 in
theorem gX6_closure_X6_learn : GoodIn wsX6_closure (wsV RX6 86 RX6 yX6_learn wsX6_learn) := goodIn_app (goodIn_of _ (by decide +kernel)) ggX6_closure_X6_learn
theorem dX6_closure_0 : decode cX6_closure 0 = .ok (.aload_n 0, 1) := by decide +kernel
theorem dX6_closure_1 : decode cX6_closure 1 = .ok (.iconst 0, 1) := by decide +kernel
theorem dX6_closure_2 : decode cX6_closure 2 = .ok (.putfield 49, 3) := by decide +kernel
theorem dX6_closure_5 : decode cX6_closure 5 = .ok (.iload_n 1, 1) := by decide +kernel
theorem dX6_closure_6 : decode cX6_closure 6 = .ok (.invokestatic 89, 3) := by decide +kernel
theorem dX6_closure_9 : decode cX6_closure 9 = .ok (.ifCond .eq 11, 3) := by decide +kernel
theorem dX6_closure_12 : decode cX6_closure 12 = .ok (.aload_n 0, 1) := by decide +kernel
theorem dX6_closure_13 : decode cX6_closure 13 = .ok (.iload_n 2, 1) := by decide +kernel
theorem dX6_closure_14 : decode cX6_closure 14 = .ok (.invokevirtual 92, 3) := by decide +kernel
theorem dX6_closure_17 : decode cX6_closure 17 = .ok (.ifCond .ne 5, 3) := by decide +kernel
theorem dX6_closure_20 : decode cX6_closure 20 = .ok (.iconst (-1), 1) := by decide +kernel
theorem dX6_closure_21 : decode cX6_closure 21 = .ok (.ireturn, 1) := by decide +kernel
theorem dX6_closure_22 : decode cX6_closure 22 = .ok (.aload_n 0, 1) := by decide +kernel
theorem dX6_closure_23 : decode cX6_closure 23 = .ok (.invokevirtual 86, 3) := by decide +kernel
theorem dX6_closure_26 : decode cX6_closure 26 = .ok (.sipush 16384, 3) := by decide +kernel
theorem dX6_closure_29 : decode cX6_closure 29 = .ok (.iload_n 1, 1) := by decide +kernel
theorem dX6_closure_30 : decode cX6_closure 30 = .ok (.imul, 1) := by decide +kernel
theorem dX6_closure_31 : decode cX6_closure 31 = .ok (.istore_n 3, 1) := by decide +kernel
theorem dX6_closure_32 : decode cX6_closure 32 = .ok (.iload_n 2, 1) := by decide +kernel
theorem dX6_closure_33 : decode cX6_closure 33 = .ok (.istore 4, 2) := by decide +kernel
theorem dX6_closure_35 : decode cX6_closure 35 = .ok (.iconst 0, 1) := by decide +kernel
theorem dX6_closure_36 : decode cX6_closure 36 = .ok (.istore 5, 2) := by decide +kernel
theorem dX6_closure_38 : decode cX6_closure 38 = .ok (.iload 5, 2) := by decide +kernel
theorem dX6_closure_40 : decode cX6_closure 40 = .ok (.aload_n 0, 1) := by decide +kernel
theorem dX6_closure_41 : decode cX6_closure 41 = .ok (.getfield 56, 3) := by decide +kernel
theorem dX6_closure_44 : decode cX6_closure 44 = .ok (.if_icmp .ge 46, 3) := by decide +kernel
theorem dX6_closure_47 : decode cX6_closure 47 = .ok (.iload 4, 2) := by decide +kernel
theorem dX6_closure_49 : decode cX6_closure 49 = .ok (.aload_n 0, 1) := by decide +kernel
theorem dX6_closure_50 : decode cX6_closure 50 = .ok (.getfield 37, 3) := by decide +kernel
theorem dX6_closure_53 : decode cX6_closure 53 = .ok (.iload_n 3, 1) := by decide +kernel
theorem dX6_closure_54 : decode cX6_closure 54 = .ok (.iload_n 2, 1) := by decide +kernel
theorem dX6_closure_55 : decode cX6_closure 55 = .ok (.iconst 1, 1) := by decide +kernel
theorem dX6_closure_56 : decode cX6_closure 56 = .ok (.iload 5, 2) := by decide +kernel
theorem dX6_closure_58 : decode cX6_closure 58 = .ok (.ishl, 1) := by decide +kernel
theorem dX6_closure_59 : decode cX6_closure 59 = .ok (.ior, 1) := by decide +kernel
theorem dX6_closure_60 : decode cX6_closure 60 = .ok (.iadd, 1) := by decide +kernel
theorem dX6_closure_61 : decode cX6_closure 61 = .ok (.iaload, 1) := by decide +kernel
theorem dX6_closure_62 : decode cX6_closure 62 = .ok (.aload_n 0, 1) := by decide +kernel
theorem dX6_closure_63 : decode cX6_closure 63 = .ok (.getfield 37, 3) := by decide +kernel
theorem dX6_closure_66 : decode cX6_closure 66 = .ok (.iload_n 3, 1) := by decide +kernel
theorem dX6_closure_67 : decode cX6_closure 67 = .ok (.iload_n 2, 1) := by decide +kernel
theorem dX6_closure_68 : decode cX6_closure 68 = .ok (.iadd, 1) := by decide +kernel
theorem dX6_closure_69 : decode cX6_closure 69 = .ok (.iaload, 1) := by decide +kernel
theorem dX6_closure_70 : decode cX6_closure 70 = .ok (.if_icmp .ne 10, 3) := by decide +kernel
theorem dX6_closure_73 : decode cX6_closure 73 = .ok (.iconst 1, 1) := by decide +kernel
theorem dX6_closure_74 : decode cX6_closure 74 = .ok (.iload 5, 2) := by decide +kernel
theorem dX6_closure_76 : decode cX6_closure 76 = .ok (.ishl, 1) := by decide +kernel
theorem dX6_closure_77 : decode cX6_closure 77 = .ok (.goto 4, 3) := by decide +kernel
theorem dX6_closure_80 : decode cX6_closure 80 = .ok (.iconst 0, 1) := by decide +kernel
theorem dX6_closure_81 : decode cX6_closure 81 = .ok (.ior, 1) := by decide +kernel
theorem dX6_closure_82 : decode cX6_closure 82 = .ok (.istore 4, 2) := by decide +kernel
theorem dX6_closure_84 : decode cX6_closure 84 = .ok (.iinc 5 1, 3) := by decide +kernel
theorem dX6_closure_87 : decode cX6_closure 87 = .ok (.goto (-49), 3) := by decide +kernel
theorem dX6_closure_90 : decode cX6_closure 90 = .ok (.iload 4, 2) := by decide +kernel
theorem dX6_closure_92 : decode cX6_closure 92 = .ok (.ireturn, 1) := by decide +kernel
set_option maxRecDepth 20000 in
theorem ggX6_most_X6_learn : GoodIn wsX6_most wsX6_learn := goodIn_r _ [7, 8, 2, 9, 10, 11, 12, 13, 14, 15, 6, 16, 17, 18, 19, 20, 21, 22, 23, 24, 25, 26, 27, 28, 29, 30, 31, 32, 33, 34, 35, 36, 37, 38, 39, 40, 41, 42, 43, 44, 45, 46, 47, 48, 49, 50, 51, 52, 53, 54, 55] (by decide +kernel) (by decide +kernel)
set_option maxRecDepth 20000 in
theorem gX6_most_X6_learn : GoodIn wsX6_most (wsV RX6 86 RX6 yX6_learn wsX6_learn) := goodIn_app (goodIn_of _ (by decide +kernel)) ggX6_most_X6_learn
theorem dX6_most_0 : decode cX6_most 0 = .ok (.aload_n 0, 1) := by decide +kernel
theorem dX6_most_1 : decode cX6_most 1 = .ok (.iconst 0, 1) := by decide +kernel
theorem dX6_most_2 : decode cX6_most 2 = .ok (.putfield 49, 3) := by decide +kernel
theorem dX6_most_5 : decode cX6_most 5 = .ok (.aload_n 0, 1) := by decide +kernel
theorem dX6_most_6 : decode cX6_most 6 = .ok (.invokevirtual 86, 3) := by decide +kernel
theorem dX6_most_9 : decode cX6_most 9 = .ok (.aload_n 0, 1) := by decide +kernel
theorem dX6_most_10 : decode cX6_most 10 = .ok (.getfield 70, 3) := by decide +kernel
theorem dX6_most_13 : decode cX6_most 13 = .ok (.ireturn, 1) := by decide +kernel
set_option maxRecDepth 20000 in
theorem ggX6_dearest_X6_learn : GoodIn wsX6_dearest wsX6_learn := goodIn_r _ [8, 9, 2, 3, 10, 11, 12, 13, 14, 15, 7, 16, 17, 18, 19, 20, 21, 22, 23, 24, 25, 26, 27, 28, 29, 30, 31, 32, 33, 34, 35, 36, 37, 38, 39, 40, 41, 42, 43, 44, 45, 46, 47, 48, 49, 50, 51, 52, 53, 54, 55] (by decide +kernel) (by decide +kernel)
set_option maxRecDepth 20000 in
theorem gX6_dearest_X6_learn : GoodIn wsX6_dearest (wsV RX6 86 RX6 yX6_learn wsX6_learn) := goodIn_app (goodIn_of _ (by decide +kernel)) ggX6_dearest_X6_learn
theorem dX6_dearest_0 : decode cX6_dearest 0 = .ok (.aload_n 0, 1) := by decide +kernel
theorem dX6_dearest_1 : decode cX6_dearest 1 = .ok (.iconst 0, 1) := by decide +kernel
theorem dX6_dearest_2 : decode cX6_dearest 2 = .ok (.putfield 49, 3) := by decide +kernel
theorem dX6_dearest_5 : decode cX6_dearest 5 = .ok (.aload_n 0, 1) := by decide +kernel
theorem dX6_dearest_6 : decode cX6_dearest 6 = .ok (.invokevirtual 86, 3) := by decide +kernel
theorem dX6_dearest_9 : decode cX6_dearest 9 = .ok (.iload_n 1, 1) := by decide +kernel
theorem dX6_dearest_10 : decode cX6_dearest 10 = .ok (.ifCond .lt 11, 3) := by decide +kernel
theorem dX6_dearest_13 : decode cX6_dearest 13 = .ok (.iload_n 1, 1) := by decide +kernel
theorem dX6_dearest_14 : decode cX6_dearest 14 = .ok (.aload_n 0, 1) := by decide +kernel
theorem dX6_dearest_15 : decode cX6_dearest 15 = .ok (.getfield 70, 3) := by decide +kernel
theorem dX6_dearest_18 : decode cX6_dearest 18 = .ok (.if_icmp .le 7, 3) := by decide +kernel
theorem dX6_dearest_21 : decode cX6_dearest 21 = .ok (.iconst (-1), 1) := by decide +kernel
theorem dX6_dearest_22 : decode cX6_dearest 22 = .ok (.goto 9, 3) := by decide +kernel
theorem dX6_dearest_25 : decode cX6_dearest 25 = .ok (.aload_n 0, 1) := by decide +kernel
theorem dX6_dearest_26 : decode cX6_dearest 26 = .ok (.getfield 40, 3) := by decide +kernel
theorem dX6_dearest_29 : decode cX6_dearest 29 = .ok (.iload_n 1, 1) := by decide +kernel
theorem dX6_dearest_30 : decode cX6_dearest 30 = .ok (.iaload, 1) := by decide +kernel
theorem dX6_dearest_31 : decode cX6_dearest 31 = .ok (.ireturn, 1) := by decide +kernel
set_option maxRecDepth 20000 in
theorem ggX6_weight_X6_learn : GoodIn wsX6_weight wsX6_learn := goodIn_r _ [7, 8, 1, 2, 9, 10, 11, 12, 13, 14, 6, 15, 16, 17, 18, 19, 20, 21, 22, 23, 24, 25, 26, 27, 28, 29, 30, 31, 32, 33, 34, 35, 36, 37, 38, 44, 45, 46, 47, 48, 49, 50, 51, 52, 53, 54, 55, 56, 57, 58, 59] (by decide +kernel) (by decide +kernel)
set_option maxRecDepth 20000 in
theorem gX6_weight_X6_learn : GoodIn wsX6_weight (wsV RX6 86 RX6 yX6_learn wsX6_learn) := goodIn_app (goodIn_of _ (by decide +kernel)) ggX6_weight_X6_learn
set_option maxRecDepth 20000 in
theorem ggX6_weight_X6_refuses : GoodIn wsX6_weight wsX6_refuses := goodIn_r _ [42, 43, 44, 45, 46, 47, 48, 49, 50, 51, 52, 53, 54, 55, 56, 57, 58, 59] (by decide +kernel) (by decide +kernel)
set_option maxRecDepth 20000 in
theorem gX6_weight_X6_refuses : GoodIn wsX6_weight (wsV RX6 52 RX6 yX6_refuses wsX6_refuses) := goodIn_app (goodIn_of _ (by decide +kernel)) ggX6_weight_X6_refuses
set_option maxRecDepth 20000 in
theorem ggX6_weight_X6_weightOf : GoodIn wsX6_weight wsX6_weightOf := goodIn_r _ [37, 9, 38, 20, 21, 6, 22, 44, 45, 46, 47, 48, 49, 50, 51, 52, 53, 54, 55, 56, 57, 58, 59] (by decide +kernel) (by decide +kernel)
set_option maxRecDepth 20000 in
theorem gX6_weight_X6_weightOf : GoodIn wsX6_weight (wsV RX6 83 RX6 yX6_weightOf wsX6_weightOf) := goodIn_app (goodIn_of _ (by decide +kernel)) ggX6_weight_X6_weightOf
theorem dX6_weight_0 : decode cX6_weight 0 = .ok (.aload_n 0, 1) := by decide +kernel
theorem dX6_weight_1 : decode cX6_weight 1 = .ok (.invokevirtual 86, 3) := by decide +kernel
theorem dX6_weight_4 : decode cX6_weight 4 = .ok (.aload_n 0, 1) := by decide +kernel
theorem dX6_weight_5 : decode cX6_weight 5 = .ok (.iload_n 1, 1) := by decide +kernel
theorem dX6_weight_6 : decode cX6_weight 6 = .ok (.ifCond .lt 11, 3) := by decide +kernel
theorem dX6_weight_9 : decode cX6_weight 9 = .ok (.iload_n 1, 1) := by decide +kernel
theorem dX6_weight_10 : decode cX6_weight 10 = .ok (.aload_n 0, 1) := by decide +kernel
theorem dX6_weight_11 : decode cX6_weight 11 = .ok (.getfield 70, 3) := by decide +kernel
theorem dX6_weight_14 : decode cX6_weight 14 = .ok (.if_icmp .le 7, 3) := by decide +kernel
theorem dX6_weight_17 : decode cX6_weight 17 = .ok (.iconst 1, 1) := by decide +kernel
theorem dX6_weight_18 : decode cX6_weight 18 = .ok (.goto 4, 3) := by decide +kernel
theorem dX6_weight_21 : decode cX6_weight 21 = .ok (.iconst 0, 1) := by decide +kernel
theorem dX6_weight_22 : decode cX6_weight 22 = .ok (.invokevirtual 52, 3) := by decide +kernel
theorem dX6_weight_25 : decode cX6_weight 25 = .ok (.ifCond .eq 7, 3) := by decide +kernel
theorem dX6_weight_28 : decode cX6_weight 28 = .ok (.iconst 0, 1) := by decide +kernel
theorem dX6_weight_29 : decode cX6_weight 29 = .ok (.goto 13, 3) := by decide +kernel
theorem dX6_weight_32 : decode cX6_weight 32 = .ok (.aload_n 0, 1) := by decide +kernel
theorem dX6_weight_33 : decode cX6_weight 33 = .ok (.aload_n 0, 1) := by decide +kernel
theorem dX6_weight_34 : decode cX6_weight 34 = .ok (.getfield 40, 3) := by decide +kernel
theorem dX6_weight_37 : decode cX6_weight 37 = .ok (.iload_n 1, 1) := by decide +kernel
theorem dX6_weight_38 : decode cX6_weight 38 = .ok (.iaload, 1) := by decide +kernel
theorem dX6_weight_39 : decode cX6_weight 39 = .ok (.invokevirtual 83, 3) := by decide +kernel
theorem dX6_weight_42 : decode cX6_weight 42 = .ok (.ireturn, 1) := by decide +kernel
set_option maxRecDepth 20000 in
theorem ggX6_heaviest_X6_learn : GoodIn wsX6_heaviest wsX6_learn := goodIn_r _ [8, 9, 2, 3, 10, 11, 12, 13, 14, 15, 7, 16, 17, 18, 19, 20, 21, 22, 23, 24, 25, 26, 27, 28, 29, 30, 31, 32, 33, 34, 35, 36, 37, 38, 39, 40, 41, 42, 43, 44, 45, 46, 47, 48, 49, 50, 51, 52, 53, 54, 55] (by decide +kernel) (by decide +kernel)
set_option maxRecDepth 20000 in
theorem gX6_heaviest_X6_learn : GoodIn wsX6_heaviest (wsV RX6 86 RX6 yX6_learn wsX6_learn) := goodIn_app (goodIn_of _ (by decide +kernel)) ggX6_heaviest_X6_learn
set_option maxRecDepth 20000 in
theorem ggX6_heaviest_X6_weightOf : GoodIn wsX6_heaviest wsX6_weightOf := goodIn_r _ [38, 10, 39, 21, 22, 7, 23, 40, 41, 42, 43, 44, 45, 46, 47, 48, 49, 50, 51, 52, 53, 54, 55] (by decide +kernel) (by decide +kernel)
set_option maxRecDepth 20000 in
theorem gX6_heaviest_X6_weightOf : GoodIn wsX6_heaviest (wsV RX6 83 RX6 yX6_weightOf wsX6_weightOf) := goodIn_app (goodIn_of _ (by decide +kernel)) ggX6_heaviest_X6_weightOf
theorem dX6_heaviest_0 : decode cX6_heaviest 0 = .ok (.aload_n 0, 1) := by decide +kernel
theorem dX6_heaviest_1 : decode cX6_heaviest 1 = .ok (.iconst 0, 1) := by decide +kernel
theorem dX6_heaviest_2 : decode cX6_heaviest 2 = .ok (.putfield 49, 3) := by decide +kernel
theorem dX6_heaviest_5 : decode cX6_heaviest 5 = .ok (.aload_n 0, 1) := by decide +kernel
theorem dX6_heaviest_6 : decode cX6_heaviest 6 = .ok (.invokevirtual 86, 3) := by decide +kernel
theorem dX6_heaviest_9 : decode cX6_heaviest 9 = .ok (.iconst 0, 1) := by decide +kernel
theorem dX6_heaviest_10 : decode cX6_heaviest 10 = .ok (.istore_n 1, 1) := by decide +kernel
theorem dX6_heaviest_11 : decode cX6_heaviest 11 = .ok (.iconst 1, 1) := by decide +kernel
theorem dX6_heaviest_12 : decode cX6_heaviest 12 = .ok (.istore_n 2, 1) := by decide +kernel
theorem dX6_heaviest_13 : decode cX6_heaviest 13 = .ok (.iload_n 2, 1) := by decide +kernel
theorem dX6_heaviest_14 : decode cX6_heaviest 14 = .ok (.aload_n 0, 1) := by decide +kernel
theorem dX6_heaviest_15 : decode cX6_heaviest 15 = .ok (.getfield 70, 3) := by decide +kernel
theorem dX6_heaviest_18 : decode cX6_heaviest 18 = .ok (.if_icmp .gt 38, 3) := by decide +kernel
theorem dX6_heaviest_21 : decode cX6_heaviest 21 = .ok (.aload_n 0, 1) := by decide +kernel
theorem dX6_heaviest_22 : decode cX6_heaviest 22 = .ok (.aload_n 0, 1) := by decide +kernel
theorem dX6_heaviest_23 : decode cX6_heaviest 23 = .ok (.getfield 40, 3) := by decide +kernel
theorem dX6_heaviest_26 : decode cX6_heaviest 26 = .ok (.iload_n 2, 1) := by decide +kernel
theorem dX6_heaviest_27 : decode cX6_heaviest 27 = .ok (.iaload, 1) := by decide +kernel
theorem dX6_heaviest_28 : decode cX6_heaviest 28 = .ok (.invokevirtual 83, 3) := by decide +kernel
theorem dX6_heaviest_31 : decode cX6_heaviest 31 = .ok (.aload_n 0, 1) := by decide +kernel
theorem dX6_heaviest_32 : decode cX6_heaviest 32 = .ok (.aload_n 0, 1) := by decide +kernel
theorem dX6_heaviest_33 : decode cX6_heaviest 33 = .ok (.getfield 40, 3) := by decide +kernel
theorem dX6_heaviest_36 : decode cX6_heaviest 36 = .ok (.iload_n 1, 1) := by decide +kernel
theorem dX6_heaviest_37 : decode cX6_heaviest 37 = .ok (.iaload, 1) := by decide +kernel
theorem dX6_heaviest_38 : decode cX6_heaviest 38 = .ok (.invokevirtual 83, 3) := by decide +kernel
theorem dX6_heaviest_41 : decode cX6_heaviest 41 = .ok (.if_icmp .le 7, 3) := by decide +kernel
theorem dX6_heaviest_44 : decode cX6_heaviest 44 = .ok (.iload_n 2, 1) := by decide +kernel
theorem dX6_heaviest_45 : decode cX6_heaviest 45 = .ok (.goto 4, 3) := by decide +kernel
theorem dX6_heaviest_48 : decode cX6_heaviest 48 = .ok (.iload_n 1, 1) := by decide +kernel
theorem dX6_heaviest_49 : decode cX6_heaviest 49 = .ok (.istore_n 1, 1) := by decide +kernel
theorem dX6_heaviest_50 : decode cX6_heaviest 50 = .ok (.iinc 2 1, 3) := by decide +kernel
theorem dX6_heaviest_53 : decode cX6_heaviest 53 = .ok (.goto (-40), 3) := by decide +kernel
theorem dX6_heaviest_56 : decode cX6_heaviest 56 = .ok (.iload_n 1, 1) := by decide +kernel
theorem dX6_heaviest_57 : decode cX6_heaviest 57 = .ok (.ireturn, 1) := by decide +kernel
set_option maxRecDepth 20000 in
theorem ggX6_witness_X6_learn : GoodIn wsX6_witness wsX6_learn := goodIn_r _ [9, 10, 4, 11, 2, 12, 3, 13, 14, 15, 8, 16, 17, 18, 19, 20, 21, 22, 23, 24, 25, 26, 27, 28, 29, 30, 31, 32, 33, 34, 35, 36, 37, 38, 39, 40, 41, 42, 43, 44, 45, 46, 47, 48, 49, 50, 51, 52, 53, 54, 55] (by decide +kernel) (by decide +kernel)
set_option maxRecDepth 20000 in
theorem gX6_witness_X6_learn : GoodIn wsX6_witness (wsV RX6 86 RX6 yX6_learn wsX6_learn) := goodIn_app (goodIn_of _ (by decide +kernel)) ggX6_witness_X6_learn
