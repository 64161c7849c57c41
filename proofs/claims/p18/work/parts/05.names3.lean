theorem dX5_digest_22 : decode cX5_digest 22 = .ok (.iload_n 3, 1) := by decide +kernel
theorem dX5_digest_23 : decode cX5_digest 23 = .ok (.invokevirtual 155, 3) := by decide +kernel
theorem dX5_digest_26 : decode cX5_digest 26 = .ok (.i2l, 1) := by decide +kernel
theorem dX5_digest_27 : decode cX5_digest 27 = .ok (.ladd, 1) := by decide +kernel
theorem dX5_digest_28 : decode cX5_digest 28 = .ok (.lstore_n 1, 1) := by decide +kernel
theorem dX5_digest_29 : decode cX5_digest 29 = .ok (.iinc 3 1, 3) := by decide +kernel
theorem dX5_digest_32 : decode cX5_digest 32 = .ok (.goto (-26), 3) := by decide +kernel
theorem dX5_digest_35 : decode cX5_digest 35 = .ok (.lload_n 1, 1) := by decide +kernel
theorem dX5_digest_36 : decode cX5_digest 36 = .ok (.ldc2_w 207, 3) := by decide +kernel
theorem dX5_digest_39 : decode cX5_digest 39 = .ok (.lmul, 1) := by decide +kernel
theorem dX5_digest_40 : decode cX5_digest 40 = .ok (.aload_n 0, 1) := by decide +kernel
theorem dX5_digest_41 : decode cX5_digest 41 = .ok (.getfield 21, 3) := by decide +kernel
theorem dX5_digest_44 : decode cX5_digest 44 = .ok (.invokevirtual 73, 3) := by decide +kernel
theorem dX5_digest_47 : decode cX5_digest 47 = .ok (.i2l, 1) := by decide +kernel
theorem dX5_digest_48 : decode cX5_digest 48 = .ok (.ladd, 1) := by decide +kernel
theorem dX5_digest_49 : decode cX5_digest 49 = .ok (.lstore_n 1, 1) := by decide +kernel
theorem dX5_digest_50 : decode cX5_digest 50 = .ok (.lload_n 1, 1) := by decide +kernel
theorem dX5_digest_51 : decode cX5_digest 51 = .ok (.ldc2_w 207, 3) := by decide +kernel
theorem dX5_digest_54 : decode cX5_digest 54 = .ok (.lmul, 1) := by decide +kernel
theorem dX5_digest_55 : decode cX5_digest 55 = .ok (.aload_n 0, 1) := by decide +kernel
theorem dX5_digest_56 : decode cX5_digest 56 = .ok (.getfield 21, 3) := by decide +kernel
theorem dX5_digest_59 : decode cX5_digest 59 = .ok (.invokevirtual 76, 3) := by decide +kernel
theorem dX5_digest_62 : decode cX5_digest 62 = .ok (.i2l, 1) := by decide +kernel
theorem dX5_digest_63 : decode cX5_digest 63 = .ok (.ladd, 1) := by decide +kernel
theorem dX5_digest_64 : decode cX5_digest 64 = .ok (.lstore_n 1, 1) := by decide +kernel
theorem dX5_digest_65 : decode cX5_digest 65 = .ok (.iconst 0, 1) := by decide +kernel
theorem dX5_digest_66 : decode cX5_digest 66 = .ok (.istore_n 3, 1) := by decide +kernel
theorem dX5_digest_67 : decode cX5_digest 67 = .ok (.iload_n 3, 1) := by decide +kernel
theorem dX5_digest_68 : decode cX5_digest 68 = .ok (.aload_n 0, 1) := by decide +kernel
theorem dX5_digest_69 : decode cX5_digest 69 = .ok (.getfield 10, 3) := by decide +kernel
theorem dX5_digest_72 : decode cX5_digest 72 = .ok (.invokevirtual 196, 3) := by decide +kernel
theorem dX5_digest_75 : decode cX5_digest 75 = .ok (.if_icmp .ge 62, 3) := by decide +kernel
theorem dX5_digest_78 : decode cX5_digest 78 = .ok (.iconst 0, 1) := by decide +kernel
theorem dX5_digest_79 : decode cX5_digest 79 = .ok (.istore 4, 2) := by decide +kernel
theorem dX5_digest_81 : decode cX5_digest 81 = .ok (.iload 4, 2) := by decide +kernel
theorem dX5_digest_83 : decode cX5_digest 83 = .ok (.aload_n 0, 1) := by decide +kernel
theorem dX5_digest_84 : decode cX5_digest 84 = .ok (.getfield 10, 3) := by decide +kernel
theorem dX5_digest_87 : decode cX5_digest 87 = .ok (.invokevirtual 199, 3) := by decide +kernel
theorem dX5_digest_90 : decode cX5_digest 90 = .ok (.if_icmp .ge 41, 3) := by decide +kernel
theorem dX5_digest_93 : decode cX5_digest 93 = .ok (.iconst 0, 1) := by decide +kernel
theorem dX5_digest_94 : decode cX5_digest 94 = .ok (.istore 5, 2) := by decide +kernel
theorem dX5_digest_96 : decode cX5_digest 96 = .ok (.iload 5, 2) := by decide +kernel
theorem dX5_digest_98 : decode cX5_digest 98 = .ok (.iconst 5, 1) := by decide +kernel
theorem dX5_digest_99 : decode cX5_digest 99 = .ok (.if_icmp .ge 26, 3) := by decide +kernel
theorem dX5_digest_102 : decode cX5_digest 102 = .ok (.lload_n 1, 1) := by decide +kernel
theorem dX5_digest_103 : decode cX5_digest 103 = .ok (.ldc2_w 207, 3) := by decide +kernel
theorem dX5_digest_106 : decode cX5_digest 106 = .ok (.lmul, 1) := by decide +kernel
theorem dX5_digest_107 : decode cX5_digest 107 = .ok (.aload_n 0, 1) := by decide +kernel
theorem dX5_digest_108 : decode cX5_digest 108 = .ok (.iload 4, 2) := by decide +kernel
theorem dX5_digest_110 : decode cX5_digest 110 = .ok (.iload_n 3, 1) := by decide +kernel
theorem dX5_digest_111 : decode cX5_digest 111 = .ok (.iload 5, 2) := by decide +kernel
theorem dX5_digest_113 : decode cX5_digest 113 = .ok (.invokevirtual 149, 3) := by decide +kernel
theorem dX5_digest_116 : decode cX5_digest 116 = .ok (.i2l, 1) := by decide +kernel
theorem dX5_digest_117 : decode cX5_digest 117 = .ok (.ladd, 1) := by decide +kernel
theorem dX5_digest_118 : decode cX5_digest 118 = .ok (.lstore_n 1, 1) := by decide +kernel
theorem dX5_digest_119 : decode cX5_digest 119 = .ok (.iinc 5 1, 3) := by decide +kernel
theorem dX5_digest_122 : decode cX5_digest 122 = .ok (.goto (-26), 3) := by decide +kernel
theorem dX5_digest_125 : decode cX5_digest 125 = .ok (.iinc 4 1, 3) := by decide +kernel
theorem dX5_digest_128 : decode cX5_digest 128 = .ok (.goto (-47), 3) := by decide +kernel
theorem dX5_digest_131 : decode cX5_digest 131 = .ok (.iinc 3 1, 3) := by decide +kernel
theorem dX5_digest_134 : decode cX5_digest 134 = .ok (.goto (-67), 3) := by decide +kernel
theorem dX5_digest_137 : decode cX5_digest 137 = .ok (.lload_n 1, 1) := by decide +kernel
theorem dX5_digest_138 : decode cX5_digest 138 = .ok (.lreturn, 1) := by decide +kernel
theorem dX5_isSide_0 : decode cX5_isSide 0 = .ok (.iload_n 0, 1) := by decide +kernel
theorem dX5_isSide_1 : decode cX5_isSide 1 = .ok (.iconst 3, 1) := by decide +kernel
theorem dX5_isSide_2 : decode cX5_isSide 2 = .ok (.if_icmp .lt 13, 3) := by decide +kernel
theorem dX5_isSide_5 : decode cX5_isSide 5 = .ok (.iload_n 0, 1) := by decide +kernel
theorem dX5_isSide_6 : decode cX5_isSide 6 = .ok (.bipush 8, 2) := by decide +kernel
theorem dX5_isSide_8 : decode cX5_isSide 8 = .ok (.if_icmp .gt 7, 3) := by decide +kernel
theorem dX5_isSide_11 : decode cX5_isSide 11 = .ok (.iconst 1, 1) := by decide +kernel
theorem dX5_isSide_12 : decode cX5_isSide 12 = .ok (.goto 4, 3) := by decide +kernel
theorem dX5_isSide_15 : decode cX5_isSide 15 = .ok (.iconst 0, 1) := by decide +kernel
theorem dX5_isSide_16 : decode cX5_isSide 16 = .ok (.ireturn, 1) := by decide +kernel
theorem dX5_isSetOfNumbers_0 : decode cX5_isSetOfNumbers 0 = .ok (.iload_n 0, 1) := by decide +kernel
theorem dX5_isSetOfNumbers_1 : decode cX5_isSetOfNumbers 1 = .ok (.ifCond .lt 14, 3) := by decide +kernel
theorem dX5_isSetOfNumbers_4 : decode cX5_isSetOfNumbers 4 = .ok (.iload_n 0, 1) := by decide +kernel
theorem dX5_isSetOfNumbers_5 : decode cX5_isSetOfNumbers 5 = .ok (.sipush 511, 3) := by decide +kernel
theorem dX5_isSetOfNumbers_8 : decode cX5_isSetOfNumbers 8 = .ok (.if_icmp .gt 7, 3) := by decide +kernel
theorem dX5_isSetOfNumbers_11 : decode cX5_isSetOfNumbers 11 = .ok (.iconst 1, 1) := by decide +kernel
theorem dX5_isSetOfNumbers_12 : decode cX5_isSetOfNumbers 12 = .ok (.goto 4, 3) := by decide +kernel
theorem dX5_isSetOfNumbers_15 : decode cX5_isSetOfNumbers 15 = .ok (.iconst 0, 1) := by decide +kernel
theorem dX5_isSetOfNumbers_16 : decode cX5_isSetOfNumbers 16 = .ok (.ireturn, 1) := by decide +kernel
theorem dX5_isQuarter_0 : decode cX5_isQuarter 0 = .ok (.iload_n 0, 1) := by decide +kernel
theorem dX5_isQuarter_1 : decode cX5_isQuarter 1 = .ok (.ifCond .lt 12, 3) := by decide +kernel
theorem dX5_isQuarter_4 : decode cX5_isQuarter 4 = .ok (.iload_n 0, 1) := by decide +kernel
theorem dX5_isQuarter_5 : decode cX5_isQuarter 5 = .ok (.iconst 3, 1) := by decide +kernel
theorem dX5_isQuarter_6 : decode cX5_isQuarter 6 = .ok (.if_icmp .gt 7, 3) := by decide +kernel
theorem dX5_isQuarter_9 : decode cX5_isQuarter 9 = .ok (.iconst 1, 1) := by decide +kernel
theorem dX5_isQuarter_10 : decode cX5_isQuarter 10 = .ok (.goto 4, 3) := by decide +kernel
theorem dX5_isQuarter_13 : decode cX5_isQuarter 13 = .ok (.iconst 0, 1) := by decide +kernel
theorem dX5_isQuarter_14 : decode cX5_isQuarter 14 = .ok (.ireturn, 1) := by decide +kernel
theorem dX5_isYears_0 : decode cX5_isYears 0 = .ok (.iload_n 0, 1) := by decide +kernel
theorem dX5_isYears_1 : decode cX5_isYears 1 = .ok (.iconst 1, 1) := by decide +kernel
theorem dX5_isYears_2 : decode cX5_isYears 2 = .ok (.if_icmp .lt 13, 3) := by decide +kernel
theorem dX5_isYears_5 : decode cX5_isYears 5 = .ok (.iload_n 0, 1) := by decide +kernel
theorem dX5_isYears_6 : decode cX5_isYears 6 = .ok (.bipush 50, 2) := by decide +kernel
theorem dX5_isYears_8 : decode cX5_isYears 8 = .ok (.if_icmp .gt 7, 3) := by decide +kernel
theorem dX5_isYears_11 : decode cX5_isYears 11 = .ok (.iconst 1, 1) := by decide +kernel
theorem dX5_isYears_12 : decode cX5_isYears 12 = .ok (.goto 4, 3) := by decide +kernel
theorem dX5_isYears_15 : decode cX5_isYears 15 = .ok (.iconst 0, 1) := by decide +kernel
theorem dX5_isYears_16 : decode cX5_isYears 16 = .ok (.ireturn, 1) := by decide +kernel
set_option maxRecDepth 20000 in
theorem ggX5_fact_X3_cell : GoodIn wsX5_fact wsX3_cell := goodIn_r _ [7] (by decide +kernel) (by decide +kernel)
set_option maxRecDepth 20000 in
theorem gX5_fact_X3_cell : GoodIn wsX5_fact (va_wsS RX5 99 yX3_cell wsX3_cell) := goodIn_app (goodIn_of _ (by decide +kernel)) ggX5_fact_X3_cell
set_option maxRecDepth 20000 in
theorem ggX5_fact_X2_hasHedge : GoodIn wsX5_fact wsX2_hasHedge := goodIn_r _ [12, 13, 135, 136, 137, 138, 139, 140, 141] (by decide +kernel) (by decide +kernel)
set_option maxRecDepth 20000 in
theorem gX5_fact_X2_hasHedge : GoodIn wsX5_fact (wsV RX5 103 RX2 yX2_hasHedge wsX2_hasHedge) := goodIn_app (goodIn_of _ (by decide +kernel)) ggX5_fact_X2_hasHedge
set_option maxRecDepth 20000 in
theorem ggX5_fact_X2_hedges : GoodIn wsX5_fact wsX2_hedges := goodIn_r _ [17, 13, 135, 136, 137, 138, 139, 140, 141] (by decide +kernel) (by decide +kernel)
set_option maxRecDepth 20000 in
theorem gX5_fact_X2_hedges : GoodIn wsX5_fact (wsV RX5 60 RX2 yX2_hedges wsX2_hedges) := goodIn_app (goodIn_of _ (by decide +kernel)) ggX5_fact_X2_hedges
set_option maxRecDepth 20000 in
theorem ggX5_fact_X4_neighbours : GoodIn wsX5_fact wsX4_neighbours := goodIn_r _ [22, 23, 24, 25, 26, 27, 28, 29, 30, 31, 32, 33, 34, 35, 36, 6, 37, 38, 39, 40, 41, 42, 43, 44, 45, 46, 47, 48, 49, 50, 51, 52, 53, 54, 55, 56, 57, 58, 59, 60, 61, 62, 63, 64, 65, 66, 67, 68, 142, 143, 144, 145, 146, 147, 148, 149, 150, 151, 152, 153, 154, 155, 156, 157] (by decide +kernel) (by decide +kernel)
set_option maxRecDepth 20000 in
theorem gX5_fact_X4_neighbours : GoodIn wsX5_fact (wsV RX5 209 RX4 yX4_neighbours wsX4_neighbours) := goodIn_app (goodIn_of _ (by decide +kernel)) ggX5_fact_X4_neighbours
set_option maxRecDepth 20000 in
theorem ggX5_fact_X2_age : GoodIn wsX5_fact wsX2_age := goodIn_r _ [72, 73, 135, 136, 137, 138, 139, 140, 141] (by decide +kernel) (by decide +kernel)
set_option maxRecDepth 20000 in
theorem gX5_fact_X2_age : GoodIn wsX5_fact (wsV RX5 212 RX2 yX2_age wsX2_age) := goodIn_app (goodIn_of _ (by decide +kernel)) ggX5_fact_X2_age
set_option maxRecDepth 20000 in
theorem ggX5_fact_X2_open : GoodIn wsX5_fact wsX2_open := goodIn_r _ [77, 78, 13, 79, 80, 81, 6, 82, 83, 39, 135, 136, 137, 138, 139, 140, 141, 150, 151, 152, 153, 154, 155, 156, 157] (by decide +kernel) (by decide +kernel)
set_option maxRecDepth 20000 in
theorem gX5_fact_X2_open : GoodIn wsX5_fact (wsV RX5 159 RX2 yX2_open wsX2_open) := goodIn_app (goodIn_of _ (by decide +kernel)) ggX5_fact_X2_open
set_option maxRecDepth 20000 in
theorem ggX5_fact_X3_lawn : GoodIn wsX5_fact wsX3_lawn := goodIn_r _ [87, 88, 89, 90, 6, 91, 92, 48, 49, 50, 51, 39, 40, 52, 93, 58, 59, 60, 61, 94, 35, 36, 37, 38, 41, 95, 43, 44, 45, 46, 150, 151, 152, 153, 154, 155, 156, 157] (by decide +kernel) (by decide +kernel)
set_option maxRecDepth 20000 in
theorem gX5_fact_X3_lawn : GoodIn wsX5_fact (wsV RX5 215 RX3 yX3_lawn wsX3_lawn) := goodIn_app (goodIn_of _ (by decide +kernel)) ggX5_fact_X3_lawn
set_option maxRecDepth 20000 in
theorem ggX5_fact_J13_bitCount_95d88 : GoodIn wsX5_fact wsJ13_bitCount_95d88 := goodIn_r _ [99, 100, 101, 102] (by decide +kernel) (by decide +kernel)
set_option maxRecDepth 20000 in
theorem gX5_fact_J13_bitCount_95d88 : GoodIn wsX5_fact (va_wsS RX5 219 yJ13_bitCount_95d88 wsJ13_bitCount_95d88) := goodIn_app (goodIn_of _ (by decide +kernel)) ggX5_fact_J13_bitCount_95d88
set_option maxRecDepth 20000 in
theorem ggX5_fact_X4_behindYears : GoodIn wsX5_fact wsX4_behindYears := goodIn_r _ [106, 107, 108, 109, 21, 110, 23, 24, 111, 25, 26, 27, 28, 29, 30, 31, 32, 33, 34, 35, 36, 6, 37, 38, 39, 40, 41, 42, 43, 44, 45, 46, 47, 48, 49, 50, 51, 52, 53, 54, 55, 56, 57, 58, 59, 60, 61, 112, 80, 81, 82, 83, 113, 114, 115, 116, 117, 118, 119, 120, 121, 122, 123, 124, 125, 126, 127, 128, 129, 142, 143, 144, 145, 146, 147, 148, 149, 150, 151, 152, 153, 154, 155, 156, 157] (by decide +kernel) (by decide +kernel)
set_option maxRecDepth 20000 in
theorem gX5_fact_X4_behindYears : GoodIn wsX5_fact (wsV RX5 173 RX4 yX4_behindYears wsX4_behindYears) := goodIn_app (goodIn_of _ (by decide +kernel)) ggX5_fact_X4_behindYears
theorem dX5_fact_0 : decode cX5_fact 0 = .ok (.iload_n 1, 1) := by decide +kernel
theorem dX5_fact_1 : decode cX5_fact 1 = .ok (.iload_n 2, 1) := by decide +kernel
theorem dX5_fact_2 : decode cX5_fact 2 = .ok (.invokestatic 99, 3) := by decide +kernel
theorem dX5_fact_5 : decode cX5_fact 5 = .ok (.lstore 4, 2) := by decide +kernel
theorem dX5_fact_7 : decode cX5_fact 7 = .ok (.iload_n 3, 1) := by decide +kernel
theorem dX5_fact_8 : decode cX5_fact 8 = .ok (.tableswitch 113 0 3 #[32, 50, 67, 93], 32) := by decide +kernel
theorem dX5_fact_40 : decode cX5_fact 40 = .ok (.aload_n 0, 1) := by decide +kernel
theorem dX5_fact_41 : decode cX5_fact 41 = .ok (.getfield 30, 3) := by decide +kernel
theorem dX5_fact_44 : decode cX5_fact 44 = .ok (.lload 4, 2) := by decide +kernel
theorem dX5_fact_46 : decode cX5_fact 46 = .ok (.invokevirtual 103, 3) := by decide +kernel
theorem dX5_fact_49 : decode cX5_fact 49 = .ok (.ifCond .eq 7, 3) := by decide +kernel
theorem dX5_fact_52 : decode cX5_fact 52 = .ok (.iconst 1, 1) := by decide +kernel
theorem dX5_fact_53 : decode cX5_fact 53 = .ok (.goto 4, 3) := by decide +kernel
theorem dX5_fact_56 : decode cX5_fact 56 = .ok (.iconst 0, 1) := by decide +kernel
theorem dX5_fact_57 : decode cX5_fact 57 = .ok (.ireturn, 1) := by decide +kernel
theorem dX5_fact_58 : decode cX5_fact 58 = .ok (.aload_n 0, 1) := by decide +kernel
theorem dX5_fact_59 : decode cX5_fact 59 = .ok (.getfield 21, 3) := by decide +kernel
theorem dX5_fact_62 : decode cX5_fact 62 = .ok (.aload_n 0, 1) := by decide +kernel
theorem dX5_fact_63 : decode cX5_fact 63 = .ok (.getfield 30, 3) := by decide +kernel
theorem dX5_fact_66 : decode cX5_fact 66 = .ok (.invokevirtual 60, 3) := by decide +kernel
theorem dX5_fact_69 : decode cX5_fact 69 = .ok (.lload 4, 2) := by decide +kernel
theorem dX5_fact_71 : decode cX5_fact 71 = .ok (.invokevirtual 209, 3) := by decide +kernel
theorem dX5_fact_74 : decode cX5_fact 74 = .ok (.ireturn, 1) := by decide +kernel
theorem dX5_fact_75 : decode cX5_fact 75 = .ok (.aload_n 0, 1) := by decide +kernel
theorem dX5_fact_76 : decode cX5_fact 76 = .ok (.getfield 30, 3) := by decide +kernel
theorem dX5_fact_79 : decode cX5_fact 79 = .ok (.lload 4, 2) := by decide +kernel
theorem dX5_fact_81 : decode cX5_fact 81 = .ok (.invokevirtual 103, 3) := by decide +kernel
theorem dX5_fact_84 : decode cX5_fact 84 = .ok (.ifCond .eq 15, 3) := by decide +kernel
theorem dX5_fact_87 : decode cX5_fact 87 = .ok (.aload_n 0, 1) := by decide +kernel
theorem dX5_fact_88 : decode cX5_fact 88 = .ok (.getfield 30, 3) := by decide +kernel
theorem dX5_fact_91 : decode cX5_fact 91 = .ok (.iload_n 1, 1) := by decide +kernel
theorem dX5_fact_92 : decode cX5_fact 92 = .ok (.iload_n 2, 1) := by decide +kernel
theorem dX5_fact_93 : decode cX5_fact 93 = .ok (.invokevirtual 212, 3) := by decide +kernel
theorem dX5_fact_96 : decode cX5_fact 96 = .ok (.goto 4, 3) := by decide +kernel
theorem dX5_fact_99 : decode cX5_fact 99 = .ok (.iconst (-1), 1) := by decide +kernel
theorem dX5_fact_100 : decode cX5_fact 100 = .ok (.ireturn, 1) := by decide +kernel
theorem dX5_fact_101 : decode cX5_fact 101 = .ok (.aload_n 0, 1) := by decide +kernel
theorem dX5_fact_102 : decode cX5_fact 102 = .ok (.getfield 10, 3) := by decide +kernel
theorem dX5_fact_105 : decode cX5_fact 105 = .ok (.lload 4, 2) := by decide +kernel
theorem dX5_fact_107 : decode cX5_fact 107 = .ok (.aload_n 0, 1) := by decide +kernel
theorem dX5_fact_108 : decode cX5_fact 108 = .ok (.getfield 30, 3) := by decide +kernel
theorem dX5_fact_111 : decode cX5_fact 111 = .ok (.invokevirtual 159, 3) := by decide +kernel
theorem dX5_fact_114 : decode cX5_fact 114 = .ok (.invokevirtual 215, 3) := by decide +kernel
theorem dX5_fact_117 : decode cX5_fact 117 = .ok (.invokestatic 219, 3) := by decide +kernel
theorem dX5_fact_120 : decode cX5_fact 120 = .ok (.ireturn, 1) := by decide +kernel
theorem dX5_fact_121 : decode cX5_fact 121 = .ok (.aload_n 0, 1) := by decide +kernel
theorem dX5_fact_122 : decode cX5_fact 122 = .ok (.getfield 21, 3) := by decide +kernel
theorem dX5_fact_125 : decode cX5_fact 125 = .ok (.aload_n 0, 1) := by decide +kernel
theorem dX5_fact_126 : decode cX5_fact 126 = .ok (.getfield 30, 3) := by decide +kernel
theorem dX5_fact_129 : decode cX5_fact 129 = .ok (.invokevirtual 60, 3) := by decide +kernel
theorem dX5_fact_132 : decode cX5_fact 132 = .ok (.iconst 1, 1) := by decide +kernel
theorem dX5_fact_133 : decode cX5_fact 133 = .ok (.invokevirtual 173, 3) := by decide +kernel
theorem dX5_fact_136 : decode cX5_fact 136 = .ok (.lload 4, 2) := by decide +kernel
theorem dX5_fact_138 : decode cX5_fact 138 = .ok (.land, 1) := by decide +kernel
theorem dX5_fact_139 : decode cX5_fact 139 = .ok (.lconst 0, 1) := by decide +kernel
theorem dX5_fact_140 : decode cX5_fact 140 = .ok (.lcmp, 1) := by decide +kernel
theorem dX5_fact_141 : decode cX5_fact 141 = .ok (.ifCond .eq 7, 3) := by decide +kernel
theorem dX5_fact_144 : decode cX5_fact 144 = .ok (.iconst 1, 1) := by decide +kernel
theorem dX5_fact_145 : decode cX5_fact 145 = .ok (.goto 4, 3) := by decide +kernel
theorem dX5_fact_148 : decode cX5_fact 148 = .ok (.iconst 0, 1) := by decide +kernel
theorem dX5_fact_149 : decode cX5_fact 149 = .ok (.ireturn, 1) := by decide +kernel
set_option maxRecDepth 20000 in
theorem ggX5_counted_X2_year : GoodIn wsX5_counted wsX2_year := goodIn_r _ [6, 7, 155, 156, 157, 158, 159, 160, 161] (by decide +kernel) (by decide +kernel)
set_option maxRecDepth 20000 in
theorem gX5_counted_X2_year : GoodIn wsX5_counted (wsV RX5 225 RX2 yX2_year wsX2_year) := goodIn_app (goodIn_of _ (by decide +kernel)) ggX5_counted_X2_year
set_option maxRecDepth 20000 in
theorem ggX5_counted_X3_wide : GoodIn wsX5_counted wsX3_wide := goodIn_r _ [12, 13, 162, 163, 164, 165, 166, 167, 168, 169] (by decide +kernel) (by decide +kernel)
set_option maxRecDepth 20000 in
theorem gX5_counted_X3_wide : GoodIn wsX5_counted (wsV RX5 199 RX3 yX3_wide wsX3_wide) := goodIn_app (goodIn_of _ (by decide +kernel)) ggX5_counted_X3_wide
set_option maxRecDepth 20000 in
theorem ggX5_counted_X3_high : GoodIn wsX5_counted wsX3_high := goodIn_r _ [17, 18, 162, 163, 164, 165, 166, 167, 168, 169] (by decide +kernel) (by decide +kernel)
set_option maxRecDepth 20000 in
theorem gX5_counted_X3_high : GoodIn wsX5_counted (wsV RX5 196 RX3 yX3_high wsX3_high) := goodIn_app (goodIn_of _ (by decide +kernel)) ggX5_counted_X3_high
set_option maxRecDepth 20000 in
theorem ggX5_counted_X2_size : GoodIn wsX5_counted wsX2_size := goodIn_r _ [22, 23, 24, 25, 26, 27, 28, 29, 30, 155, 156, 157, 158, 159, 160, 161] (by decide +kernel) (by decide +kernel)
set_option maxRecDepth 20000 in
theorem gX5_counted_X2_size : GoodIn wsX5_counted (wsV RX5 56 RX2 yX2_size wsX2_size) := goodIn_app (goodIn_of _ (by decide +kernel)) ggX5_counted_X2_size
set_option maxRecDepth 20000 in
theorem ggX5_counted_X2_birthsInAll : GoodIn wsX5_counted wsX2_birthsInAll := goodIn_r _ [34, 35, 155, 156, 157, 158, 159, 160, 161] (by decide +kernel) (by decide +kernel)
set_option maxRecDepth 20000 in
theorem gX5_counted_X2_birthsInAll : GoodIn wsX5_counted (wsV RX5 228 RX2 yX2_birthsInAll wsX2_birthsInAll) := goodIn_app (goodIn_of _ (by decide +kernel)) ggX5_counted_X2_birthsInAll
set_option maxRecDepth 20000 in
theorem ggX5_counted_X2_deathsInAll : GoodIn wsX5_counted wsX2_deathsInAll := goodIn_r _ [39, 40, 155, 156, 157, 158, 159, 160, 161] (by decide +kernel) (by decide +kernel)
set_option maxRecDepth 20000 in
theorem gX5_counted_X2_deathsInAll : GoodIn wsX5_counted (wsV RX5 231 RX2 yX2_deathsInAll wsX2_deathsInAll) := goodIn_app (goodIn_of _ (by decide +kernel)) ggX5_counted_X2_deathsInAll
set_option maxRecDepth 20000 in
theorem ggX5_counted_X3_isRound : GoodIn wsX5_counted wsX3_isRound := goodIn_r _ [44, 45, 162, 163, 164, 165, 166, 167, 168, 169] (by decide +kernel) (by decide +kernel)
set_option maxRecDepth 20000 in
theorem gX5_counted_X3_isRound : GoodIn wsX5_counted (wsV RX5 82 RX3 yX3_isRound wsX3_isRound) := goodIn_app (goodIn_of _ (by decide +kernel)) ggX5_counted_X3_isRound
set_option maxRecDepth 20000 in
theorem ggX5_counted_X2_lawns : GoodIn wsX5_counted wsX2_lawns := goodIn_r _ [49, 50, 51, 52, 5, 53, 54, 55, 56, 57, 58, 59, 23, 60, 61, 62, 11, 63, 64, 65, 66, 67, 68, 69, 70, 71, 72, 73, 74, 75, 76, 77, 78, 45, 13, 79, 80, 81, 82, 83, 84, 85, 86, 87, 88, 18, 89, 90, 91, 92, 93, 155, 156, 157, 158, 159, 160, 161, 162, 163, 164, 165, 166, 167, 168, 169] (by decide +kernel) (by decide +kernel)
set_option maxRecDepth 20000 in
theorem gX5_counted_X2_lawns : GoodIn wsX5_counted (wsV RX5 234 RX2 yX2_lawns wsX2_lawns) := goodIn_app (goodIn_of _ (by decide +kernel)) ggX5_counted_X2_lawns
set_option maxRecDepth 20000 in
theorem ggX5_counted_X2_greatestLawn : GoodIn wsX5_counted wsX2_greatestLawn := goodIn_r _ [97, 54, 55, 98, 99, 100, 101, 56, 57, 58, 5, 59, 23, 60, 61, 62, 11, 63, 64, 65, 66, 67, 68, 69, 70, 71, 72, 73, 74, 75, 76, 77, 78, 45, 13, 79, 80, 81, 82, 83, 84, 85, 86, 87, 88, 18, 89, 90, 91, 92, 93, 24, 25, 26, 27, 28, 29, 30, 155, 156, 157, 158, 159, 160, 161, 162, 163, 164, 165, 166, 167, 168, 169] (by decide +kernel) (by decide +kernel)
set_option maxRecDepth 20000 in
theorem gX5_counted_X2_greatestLawn : GoodIn wsX5_counted (wsV RX5 237 RX2 yX2_greatestLawn wsX2_greatestLawn) := goodIn_app (goodIn_of _ (by decide +kernel)) ggX5_counted_X2_greatestLawn
set_option maxRecDepth 20000 in
theorem ggX5_counted_X2_stillLawns : GoodIn wsX5_counted wsX2_stillLawns := goodIn_r _ [105, 106, 23, 107, 108, 109, 110, 111, 112, 113, 114, 115, 116, 117, 118, 119, 120, 121, 122, 123, 124, 85, 86, 11, 87, 88, 65, 45, 18, 125, 90, 91, 92, 93, 126, 75, 76, 77, 78, 13, 127, 128, 129, 130, 131, 80, 81, 82, 83, 132, 61, 62, 63, 64, 133, 134, 135, 136, 137, 138, 139, 140, 141, 142, 143, 144, 50, 51, 52, 5, 53, 54, 55, 56, 57, 58, 59, 60, 66, 67, 68, 69, 70, 71, 72, 73, 74, 79, 84, 89, 155, 156, 157, 158, 159, 160, 161, 170, 171, 172, 173, 174, 175, 176, 177, 162, 163, 164, 165, 166, 167, 168, 169] (by decide +kernel) (by decide +kernel)
set_option maxRecDepth 20000 in
theorem gX5_counted_X2_stillLawns : GoodIn wsX5_counted (wsV RX5 240 RX2 yX2_stillLawns wsX2_stillLawns) := goodIn_app (goodIn_of _ (by decide +kernel)) ggX5_counted_X2_stillLawns
set_option maxRecDepth 20000 in
theorem ggX5_counted_X2_oldest : GoodIn wsX5_counted wsX2_oldest := goodIn_r _ [148, 149, 23, 155, 156, 157, 158, 159, 160, 161] (by decide +kernel) (by decide +kernel)
set_option maxRecDepth 20000 in
theorem gX5_counted_X2_oldest : GoodIn wsX5_counted (wsV RX5 243 RX2 yX2_oldest wsX2_oldest) := goodIn_app (goodIn_of _ (by decide +kernel)) ggX5_counted_X2_oldest
theorem dX5_counted_0 : decode cX5_counted 0 = .ok (.iload_n 2, 1) := by decide +kernel
theorem dX5_counted_1 : decode cX5_counted 1 = .ok (.tableswitch 122 0 9 #[55, 60, 68, 76, 81, 86, 91, 107, 112, 117], 55) := by decide +kernel
theorem dX5_counted_56 : decode cX5_counted 56 = .ok (.aload_n 1, 1) := by decide +kernel
theorem dX5_counted_57 : decode cX5_counted 57 = .ok (.invokevirtual 225, 3) := by decide +kernel
theorem dX5_counted_60 : decode cX5_counted 60 = .ok (.ireturn, 1) := by decide +kernel
theorem dX5_counted_61 : decode cX5_counted 61 = .ok (.aload_n 0, 1) := by decide +kernel
theorem dX5_counted_62 : decode cX5_counted 62 = .ok (.getfield 10, 3) := by decide +kernel
theorem dX5_counted_65 : decode cX5_counted 65 = .ok (.invokevirtual 199, 3) := by decide +kernel
theorem dX5_counted_68 : decode cX5_counted 68 = .ok (.ireturn, 1) := by decide +kernel
theorem dX5_counted_69 : decode cX5_counted 69 = .ok (.aload_n 0, 1) := by decide +kernel
theorem dX5_counted_70 : decode cX5_counted 70 = .ok (.getfield 10, 3) := by decide +kernel
theorem dX5_counted_73 : decode cX5_counted 73 = .ok (.invokevirtual 196, 3) := by decide +kernel
theorem dX5_counted_76 : decode cX5_counted 76 = .ok (.ireturn, 1) := by decide +kernel
theorem dX5_counted_77 : decode cX5_counted 77 = .ok (.aload_n 1, 1) := by decide +kernel
theorem dX5_counted_78 : decode cX5_counted 78 = .ok (.invokevirtual 56, 3) := by decide +kernel
theorem dX5_counted_81 : decode cX5_counted 81 = .ok (.ireturn, 1) := by decide +kernel
theorem dX5_counted_82 : decode cX5_counted 82 = .ok (.aload_n 1, 1) := by decide +kernel
theorem dX5_counted_83 : decode cX5_counted 83 = .ok (.invokevirtual 228, 3) := by decide +kernel
theorem dX5_counted_86 : decode cX5_counted 86 = .ok (.ireturn, 1) := by decide +kernel
theorem dX5_counted_87 : decode cX5_counted 87 = .ok (.aload_n 1, 1) := by decide +kernel
theorem dX5_counted_88 : decode cX5_counted 88 = .ok (.invokevirtual 231, 3) := by decide +kernel
theorem dX5_counted_91 : decode cX5_counted 91 = .ok (.ireturn, 1) := by decide +kernel
theorem dX5_counted_92 : decode cX5_counted 92 = .ok (.aload_n 0, 1) := by decide +kernel
theorem dX5_counted_93 : decode cX5_counted 93 = .ok (.getfield 10, 3) := by decide +kernel
theorem dX5_counted_96 : decode cX5_counted 96 = .ok (.invokevirtual 82, 3) := by decide +kernel
theorem dX5_counted_99 : decode cX5_counted 99 = .ok (.ifCond .eq 7, 3) := by decide +kernel
theorem dX5_counted_102 : decode cX5_counted 102 = .ok (.iconst 1, 1) := by decide +kernel
theorem dX5_counted_103 : decode cX5_counted 103 = .ok (.goto 4, 3) := by decide +kernel
theorem dX5_counted_106 : decode cX5_counted 106 = .ok (.iconst 0, 1) := by decide +kernel
theorem dX5_counted_107 : decode cX5_counted 107 = .ok (.ireturn, 1) := by decide +kernel
theorem dX5_counted_108 : decode cX5_counted 108 = .ok (.aload_n 1, 1) := by decide +kernel
theorem dX5_counted_109 : decode cX5_counted 109 = .ok (.invokevirtual 234, 3) := by decide +kernel
theorem dX5_counted_112 : decode cX5_counted 112 = .ok (.ireturn, 1) := by decide +kernel
theorem dX5_counted_113 : decode cX5_counted 113 = .ok (.aload_n 1, 1) := by decide +kernel
theorem dX5_counted_114 : decode cX5_counted 114 = .ok (.invokevirtual 237, 3) := by decide +kernel
theorem dX5_counted_117 : decode cX5_counted 117 = .ok (.ireturn, 1) := by decide +kernel
theorem dX5_counted_118 : decode cX5_counted 118 = .ok (.aload_n 1, 1) := by decide +kernel
theorem dX5_counted_119 : decode cX5_counted 119 = .ok (.invokevirtual 240, 3) := by decide +kernel
theorem dX5_counted_122 : decode cX5_counted 122 = .ok (.ireturn, 1) := by decide +kernel
theorem dX5_counted_123 : decode cX5_counted 123 = .ok (.aload_n 1, 1) := by decide +kernel
theorem dX5_counted_124 : decode cX5_counted 124 = .ok (.invokevirtual 243, 3) := by decide +kernel
theorem dX5_counted_127 : decode cX5_counted 127 = .ok (.ireturn, 1) := by decide +kernel
set_option maxRecDepth 20000 in
theorem ggX5_foreseeComing_X2_hedges : GoodIn wsX5_foreseeComing wsX2_hedges := goodIn_r _ [8, 9, 87, 88, 89, 90, 91, 92, 93] (by decide +kernel) (by decide +kernel)
set_option maxRecDepth 20000 in
theorem gX5_foreseeComing_X2_hedges : GoodIn wsX5_foreseeComing (wsV RX5 60 RX2 yX2_hedges wsX2_hedges) := goodIn_app (goodIn_of _ (by decide +kernel)) ggX5_foreseeComing_X2_hedges
set_option maxRecDepth 20000 in
theorem ggX5_foreseeComing_X4_behindYears : GoodIn wsX5_foreseeComing wsX4_behindYears := goodIn_r _ [14, 15, 16, 17, 13, 18, 19, 20, 21, 22, 23, 24, 25, 26, 27, 28, 29, 30, 31, 32, 33, 34, 35, 36, 37, 38, 39, 40, 41, 42, 43, 44, 45, 46, 47, 48, 49, 50, 51, 52, 53, 54, 55, 56, 57, 58, 59, 60, 61, 62, 63, 64, 65, 66, 67, 68, 69, 70, 71, 72, 73, 74, 75, 76, 77, 78, 79, 80, 81, 94, 95, 96, 97, 98, 99, 100, 101, 102, 103, 104, 105, 106, 107, 108, 109] (by decide +kernel) (by decide +kernel)
set_option maxRecDepth 20000 in
theorem gX5_foreseeComing_X4_behindYears : GoodIn wsX5_foreseeComing (wsV RX5 173 RX4 yX4_behindYears wsX4_behindYears) := goodIn_app (goodIn_of _ (by decide +kernel)) ggX5_foreseeComing_X4_behindYears
theorem dX5_foreseeComing_0 : decode cX5_foreseeComing 0 = .ok (.aload_n 0, 1) := by decide +kernel
theorem dX5_foreseeComing_1 : decode cX5_foreseeComing 1 = .ok (.getfield 30, 3) := by decide +kernel
theorem dX5_foreseeComing_4 : decode cX5_foreseeComing 4 = .ok (.invokevirtual 60, 3) := by decide +kernel
theorem dX5_foreseeComing_7 : decode cX5_foreseeComing 7 = .ok (.lstore_n 1, 1) := by decide +kernel
theorem dX5_foreseeComing_8 : decode cX5_foreseeComing 8 = .ok (.iconst 0, 1) := by decide +kernel
theorem dX5_foreseeComing_9 : decode cX5_foreseeComing 9 = .ok (.istore_n 3, 1) := by decide +kernel
theorem dX5_foreseeComing_10 : decode cX5_foreseeComing 10 = .ok (.iload_n 3, 1) := by decide +kernel
theorem dX5_foreseeComing_11 : decode cX5_foreseeComing 11 = .ok (.aload_n 0, 1) := by decide +kernel
theorem dX5_foreseeComing_12 : decode cX5_foreseeComing 12 = .ok (.getfield 37, 3) := by decide +kernel
theorem dX5_foreseeComing_15 : decode cX5_foreseeComing 15 = .ok (.arraylength, 1) := by decide +kernel
theorem dX5_foreseeComing_16 : decode cX5_foreseeComing 16 = .ok (.if_icmp .ge 26, 3) := by decide +kernel
theorem dX5_foreseeComing_19 : decode cX5_foreseeComing 19 = .ok (.aload_n 0, 1) := by decide +kernel
theorem dX5_foreseeComing_20 : decode cX5_foreseeComing 20 = .ok (.getfield 37, 3) := by decide +kernel
theorem dX5_foreseeComing_23 : decode cX5_foreseeComing 23 = .ok (.iload_n 3, 1) := by decide +kernel
theorem dX5_foreseeComing_24 : decode cX5_foreseeComing 24 = .ok (.lload_n 1, 1) := by decide +kernel
theorem dX5_foreseeComing_25 : decode cX5_foreseeComing 25 = .ok (.lastore, 1) := by decide +kernel
theorem dX5_foreseeComing_26 : decode cX5_foreseeComing 26 = .ok (.aload_n 0, 1) := by decide +kernel
theorem dX5_foreseeComing_27 : decode cX5_foreseeComing 27 = .ok (.getfield 21, 3) := by decide +kernel
theorem dX5_foreseeComing_30 : decode cX5_foreseeComing 30 = .ok (.lload_n 1, 1) := by decide +kernel
theorem dX5_foreseeComing_31 : decode cX5_foreseeComing 31 = .ok (.iconst 1, 1) := by decide +kernel
theorem dX5_foreseeComing_32 : decode cX5_foreseeComing 32 = .ok (.invokevirtual 173, 3) := by decide +kernel
theorem dX5_foreseeComing_35 : decode cX5_foreseeComing 35 = .ok (.lstore_n 1, 1) := by decide +kernel
theorem dX5_foreseeComing_36 : decode cX5_foreseeComing 36 = .ok (.iinc 3 1, 3) := by decide +kernel
theorem dX5_foreseeComing_39 : decode cX5_foreseeComing 39 = .ok (.goto (-29), 3) := by decide +kernel
theorem dX5_foreseeComing_42 : decode cX5_foreseeComing 42 = .ok (.return_, 1) := by decide +kernel
set_option maxRecDepth 20000 in
theorem ggX5_sizeBehind_X4_behindYears : GoodIn wsX5_sizeBehind wsX4_behindYears := goodIn_r _ [6, 7, 8, 9, 5, 10, 11, 12, 13, 14, 15, 16, 17, 18, 19, 20, 21, 22, 23, 24, 25, 26, 27, 28, 29, 30, 31, 32, 33, 34, 35, 36, 37, 38, 39, 40, 41, 42, 43, 44, 45, 46, 47, 48, 49, 50, 51, 52, 53, 54, 55, 56, 57, 58, 59, 60, 61, 62, 63, 64, 65, 66, 67, 68, 69, 70, 71, 72, 73, 86, 87, 88, 89, 90, 91, 92, 93, 94, 95, 96, 97, 98, 99, 100, 101] (by decide +kernel) (by decide +kernel)
set_option maxRecDepth 20000 in
theorem gX5_sizeBehind_X4_behindYears : GoodIn wsX5_sizeBehind (wsV RX5 173 RX4 yX4_behindYears wsX4_behindYears) := goodIn_app (goodIn_of _ (by decide +kernel)) ggX5_sizeBehind_X4_behindYears
set_option maxRecDepth 20000 in
theorem ggX5_sizeBehind_J13_bitCount_95d88 : GoodIn wsX5_sizeBehind wsJ13_bitCount_95d88 := goodIn_r _ [77, 78, 79, 80] (by decide +kernel) (by decide +kernel)
set_option maxRecDepth 20000 in
theorem gX5_sizeBehind_J13_bitCount_95d88 : GoodIn wsX5_sizeBehind (va_wsS RX5 219 yJ13_bitCount_95d88 wsJ13_bitCount_95d88) := goodIn_app (goodIn_of _ (by decide +kernel)) ggX5_sizeBehind_J13_bitCount_95d88
theorem dX5_sizeBehind_0 : decode cX5_sizeBehind 0 = .ok (.aload_n 0, 1) := by decide +kernel
theorem dX5_sizeBehind_1 : decode cX5_sizeBehind 1 = .ok (.getfield 21, 3) := by decide +kernel
theorem dX5_sizeBehind_4 : decode cX5_sizeBehind 4 = .ok (.lload_n 2, 1) := by decide +kernel
theorem dX5_sizeBehind_5 : decode cX5_sizeBehind 5 = .ok (.iload_n 1, 1) := by decide +kernel
theorem dX5_sizeBehind_6 : decode cX5_sizeBehind 6 = .ok (.invokevirtual 173, 3) := by decide +kernel
theorem dX5_sizeBehind_9 : decode cX5_sizeBehind 9 = .ok (.invokestatic 219, 3) := by decide +kernel
theorem dX5_sizeBehind_12 : decode cX5_sizeBehind 12 = .ok (.ireturn, 1) := by decide +kernel
set_option maxRecDepth 20000 in
theorem ggX6_init_X6_rows : GoodIn wsX6_init wsX6_rows := goodIn_r _ [12, 13, 14] (by decide +kernel) (by decide +kernel)
set_option maxRecDepth 20000 in
theorem gX6_init_X6_rows : GoodIn wsX6_init (va_wsS RX6 22 yX6_rows wsX6_rows) := goodIn_app (goodIn_of _ (by decide +kernel)) ggX6_init_X6_rows
theorem dX6_init_0 : decode cX6_init 0 = .ok (.aload_n 0, 1) := by decide +kernel
theorem dX6_init_1 : decode cX6_init 1 = .ok (.invokespecial 1, 3) := by decide +kernel
theorem dX6_init_4 : decode cX6_init 4 = .ok (.aload_n 0, 1) := by decide +kernel
theorem dX6_init_5 : decode cX6_init 5 = .ok (.bipush 8, 2) := by decide +kernel
theorem dX6_init_7 : decode cX6_init 7 = .ok (.putfield 7, 3) := by decide +kernel
theorem dX6_init_10 : decode cX6_init 10 = .ok (.aload_n 0, 1) := by decide +kernel
theorem dX6_init_11 : decode cX6_init 11 = .ok (.bipush 8, 2) := by decide +kernel
theorem dX6_init_13 : decode cX6_init 13 = .ok (.putfield 13, 3) := by decide +kernel
theorem dX6_init_16 : decode cX6_init 16 = .ok (.aload_n 0, 1) := by decide +kernel
theorem dX6_init_17 : decode cX6_init 17 = .ok (.bipush 8, 2) := by decide +kernel
theorem dX6_init_19 : decode cX6_init 19 = .ok (.putfield 16, 3) := by decide +kernel
theorem dX6_init_22 : decode cX6_init 22 = .ok (.aload_n 0, 1) := by decide +kernel
theorem dX6_init_23 : decode cX6_init 23 = .ok (.bipush 62, 2) := by decide +kernel
theorem dX6_init_25 : decode cX6_init 25 = .ok (.putfield 19, 3) := by decide +kernel
theorem dX6_init_28 : decode cX6_init 28 = .ok (.aload_n 0, 1) := by decide +kernel
theorem dX6_init_29 : decode cX6_init 29 = .ok (.bipush 8, 2) := by decide +kernel
theorem dX6_init_31 : decode cX6_init 31 = .ok (.bipush 8, 2) := by decide +kernel
theorem dX6_init_33 : decode cX6_init 33 = .ok (.iconst (-1), 1) := by decide +kernel
theorem dX6_init_34 : decode cX6_init 34 = .ok (.invokestatic 22, 3) := by decide +kernel
theorem dX6_init_37 : decode cX6_init 37 = .ok (.putfield 26, 3) := by decide +kernel
theorem dX6_init_40 : decode cX6_init 40 = .ok (.return_, 1) := by decide +kernel
theorem dX6_rows_0 : decode cX6_rows 0 = .ok (.iload_n 1, 1) := by decide +kernel
theorem dX6_rows_1 : decode cX6_rows 1 = .ok (.iload_n 0, 1) := by decide +kernel
theorem dX6_rows_2 : decode cX6_rows 2 = .ok (.multianewarray 30 2, 4) := by decide +kernel
theorem dX6_rows_6 : decode cX6_rows 6 = .ok (.astore_n 3, 1) := by decide +kernel
theorem dX6_rows_7 : decode cX6_rows 7 = .ok (.aload_n 3, 1) := by decide +kernel
theorem dX6_rows_8 : decode cX6_rows 8 = .ok (.astore 4, 2) := by decide +kernel
theorem dX6_rows_10 : decode cX6_rows 10 = .ok (.aload 4, 2) := by decide +kernel
theorem dX6_rows_12 : decode cX6_rows 12 = .ok (.arraylength, 1) := by decide +kernel
theorem dX6_rows_13 : decode cX6_rows 13 = .ok (.istore 5, 2) := by decide +kernel
theorem dX6_rows_15 : decode cX6_rows 15 = .ok (.iconst 0, 1) := by decide +kernel
theorem dX6_rows_16 : decode cX6_rows 16 = .ok (.istore 6, 2) := by decide +kernel
theorem dX6_rows_18 : decode cX6_rows 18 = .ok (.iload 6, 2) := by decide +kernel
theorem dX6_rows_20 : decode cX6_rows 20 = .ok (.iload 5, 2) := by decide +kernel
theorem dX6_rows_22 : decode cX6_rows 22 = .ok (.if_icmp .ge 37, 3) := by decide +kernel
theorem dX6_rows_25 : decode cX6_rows 25 = .ok (.aload 4, 2) := by decide +kernel
theorem dX6_rows_27 : decode cX6_rows 27 = .ok (.iload 6, 2) := by decide +kernel
theorem dX6_rows_29 : decode cX6_rows 29 = .ok (.aaload, 1) := by decide +kernel
theorem dX6_rows_30 : decode cX6_rows 30 = .ok (.astore 7, 2) := by decide +kernel
theorem dX6_rows_32 : decode cX6_rows 32 = .ok (.iconst 0, 1) := by decide +kernel
theorem dX6_rows_33 : decode cX6_rows 33 = .ok (.istore 8, 2) := by decide +kernel
theorem dX6_rows_35 : decode cX6_rows 35 = .ok (.iload 8, 2) := by decide +kernel
theorem dX6_rows_37 : decode cX6_rows 37 = .ok (.iload_n 0, 1) := by decide +kernel
theorem dX6_rows_38 : decode cX6_rows 38 = .ok (.if_icmp .ge 15, 3) := by decide +kernel
theorem dX6_rows_41 : decode cX6_rows 41 = .ok (.aload 7, 2) := by decide +kernel
theorem dX6_rows_43 : decode cX6_rows 43 = .ok (.iload 8, 2) := by decide +kernel
theorem dX6_rows_45 : decode cX6_rows 45 = .ok (.iload_n 2, 1) := by decide +kernel
theorem dX6_rows_46 : decode cX6_rows 46 = .ok (.iastore, 1) := by decide +kernel
theorem dX6_rows_47 : decode cX6_rows 47 = .ok (.iinc 8 1, 3) := by decide +kernel
theorem dX6_rows_50 : decode cX6_rows 50 = .ok (.goto (-15), 3) := by decide +kernel
theorem dX6_rows_53 : decode cX6_rows 53 = .ok (.iinc 6 1, 3) := by decide +kernel
theorem dX6_rows_56 : decode cX6_rows 56 = .ok (.goto (-38), 3) := by decide +kernel
theorem dX6_rows_59 : decode cX6_rows 59 = .ok (.aload_n 3, 1) := by decide +kernel
theorem dX6_rows_60 : decode cX6_rows 60 = .ok (.areturn, 1) := by decide +kernel
theorem dX6_has_0 : decode cX6_has 0 = .ok (.aload_n 0, 1) := by decide +kernel
theorem dX6_has_1 : decode cX6_has 1 = .ok (.getfield 32, 3) := by decide +kernel
theorem dX6_has_4 : decode cX6_has 4 = .ok (.ifCond .eq 40, 3) := by decide +kernel
theorem dX6_has_7 : decode cX6_has 7 = .ok (.aload_n 0, 1) := by decide +kernel
theorem dX6_has_8 : decode cX6_has 8 = .ok (.getfield 26, 3) := by decide +kernel
theorem dX6_has_11 : decode cX6_has 11 = .ok (.iload_n 2, 1) := by decide +kernel
theorem dX6_has_12 : decode cX6_has 12 = .ok (.aload_n 0, 1) := by decide +kernel
theorem dX6_has_13 : decode cX6_has 13 = .ok (.getfield 13, 3) := by decide +kernel
theorem dX6_has_16 : decode cX6_has 16 = .ok (.iadd, 1) := by decide +kernel
theorem dX6_has_17 : decode cX6_has 17 = .ok (.aload_n 0, 1) := by decide +kernel
theorem dX6_has_18 : decode cX6_has 18 = .ok (.getfield 13, 3) := by decide +kernel
theorem dX6_has_21 : decode cX6_has 21 = .ok (.irem, 1) := by decide +kernel
theorem dX6_has_22 : decode cX6_has 22 = .ok (.aaload, 1) := by decide +kernel
theorem dX6_has_23 : decode cX6_has 23 = .ok (.iload_n 1, 1) := by decide +kernel
theorem dX6_has_24 : decode cX6_has 24 = .ok (.aload_n 0, 1) := by decide +kernel
theorem dX6_has_25 : decode cX6_has 25 = .ok (.getfield 7, 3) := by decide +kernel
theorem dX6_has_28 : decode cX6_has 28 = .ok (.iadd, 1) := by decide +kernel
theorem dX6_has_29 : decode cX6_has 29 = .ok (.aload_n 0, 1) := by decide +kernel
theorem dX6_has_30 : decode cX6_has 30 = .ok (.getfield 7, 3) := by decide +kernel
theorem dX6_has_33 : decode cX6_has 33 = .ok (.irem, 1) := by decide +kernel
theorem dX6_has_34 : decode cX6_has 34 = .ok (.iaload, 1) := by decide +kernel
theorem dX6_has_35 : decode cX6_has 35 = .ok (.ifCond .lt 7, 3) := by decide +kernel
theorem dX6_has_38 : decode cX6_has 38 = .ok (.iconst 1, 1) := by decide +kernel
theorem dX6_has_39 : decode cX6_has 39 = .ok (.goto 4, 3) := by decide +kernel
theorem dX6_has_42 : decode cX6_has 42 = .ok (.iconst 0, 1) := by decide +kernel
theorem dX6_has_43 : decode cX6_has 43 = .ok (.ireturn, 1) := by decide +kernel
theorem dX6_has_44 : decode cX6_has 44 = .ok (.iload_n 1, 1) := by decide +kernel
theorem dX6_has_45 : decode cX6_has 45 = .ok (.ifCond .lt 38, 3) := by decide +kernel
theorem dX6_has_48 : decode cX6_has 48 = .ok (.iload_n 1, 1) := by decide +kernel
theorem dX6_has_49 : decode cX6_has 49 = .ok (.aload_n 0, 1) := by decide +kernel
theorem dX6_has_50 : decode cX6_has 50 = .ok (.getfield 7, 3) := by decide +kernel
theorem dX6_has_53 : decode cX6_has 53 = .ok (.if_icmp .ge 30, 3) := by decide +kernel
theorem dX6_has_56 : decode cX6_has 56 = .ok (.iload_n 2, 1) := by decide +kernel
theorem dX6_has_57 : decode cX6_has 57 = .ok (.ifCond .lt 26, 3) := by decide +kernel
theorem dX6_has_60 : decode cX6_has 60 = .ok (.iload_n 2, 1) := by decide +kernel
theorem dX6_has_61 : decode cX6_has 61 = .ok (.aload_n 0, 1) := by decide +kernel
theorem dX6_has_62 : decode cX6_has 62 = .ok (.getfield 13, 3) := by decide +kernel
theorem dX6_has_65 : decode cX6_has 65 = .ok (.if_icmp .ge 18, 3) := by decide +kernel
theorem dX6_has_68 : decode cX6_has 68 = .ok (.aload_n 0, 1) := by decide +kernel
theorem dX6_has_69 : decode cX6_has 69 = .ok (.getfield 26, 3) := by decide +kernel
theorem dX6_has_72 : decode cX6_has 72 = .ok (.iload_n 2, 1) := by decide +kernel
theorem dX6_has_73 : decode cX6_has 73 = .ok (.aaload, 1) := by decide +kernel
theorem dX6_has_74 : decode cX6_has 74 = .ok (.iload_n 1, 1) := by decide +kernel
theorem dX6_has_75 : decode cX6_has 75 = .ok (.iaload, 1) := by decide +kernel
theorem dX6_has_76 : decode cX6_has 76 = .ok (.ifCond .lt 7, 3) := by decide +kernel
theorem dX6_has_79 : decode cX6_has 79 = .ok (.iconst 1, 1) := by decide +kernel
theorem dX6_has_80 : decode cX6_has 80 = .ok (.goto 4, 3) := by decide +kernel
theorem dX6_has_83 : decode cX6_has 83 = .ok (.iconst 0, 1) := by decide +kernel
theorem dX6_has_84 : decode cX6_has 84 = .ok (.ireturn, 1) := by decide +kernel
set_option maxRecDepth 20000 in
theorem ggX6_near_X6_has : GoodIn wsX6_near wsX6_has := goodIn_r _ [5, 6, 7, 8, 9, 10, 11, 12, 13, 14, 15, 16, 17, 18] (by decide +kernel) (by decide +kernel)
set_option maxRecDepth 20000 in
theorem gX6_near_X6_has : GoodIn wsX6_near (wsV RX6 51 RX6 yX6_has wsX6_has) := goodIn_app (goodIn_of _ (by decide +kernel)) ggX6_near_X6_has
theorem dX6_near_0 : decode cX6_near 0 = .ok (.aload_n 0, 1) := by decide +kernel
theorem dX6_near_1 : decode cX6_near 1 = .ok (.iload_n 1, 1) := by decide +kernel
theorem dX6_near_2 : decode cX6_near 2 = .ok (.iload_n 2, 1) := by decide +kernel
theorem dX6_near_3 : decode cX6_near 3 = .ok (.invokevirtual 51, 3) := by decide +kernel
theorem dX6_near_6 : decode cX6_near 6 = .ok (.ifCond .eq 7, 3) := by decide +kernel
theorem dX6_near_9 : decode cX6_near 9 = .ok (.iconst (-1), 1) := by decide +kernel
theorem dX6_near_10 : decode cX6_near 10 = .ok (.goto 4, 3) := by decide +kernel
theorem dX6_near_13 : decode cX6_near 13 = .ok (.iconst 0, 1) := by decide +kernel
theorem dX6_near_14 : decode cX6_near 14 = .ok (.istore_n 3, 1) := by decide +kernel
theorem dX6_near_15 : decode cX6_near 15 = .ok (.iload_n 1, 1) := by decide +kernel
theorem dX6_near_16 : decode cX6_near 16 = .ok (.iconst 1, 1) := by decide +kernel
theorem dX6_near_17 : decode cX6_near 17 = .ok (.isub, 1) := by decide +kernel
theorem dX6_near_18 : decode cX6_near 18 = .ok (.istore 4, 2) := by decide +kernel
theorem dX6_near_20 : decode cX6_near 20 = .ok (.iload 4, 2) := by decide +kernel
theorem dX6_near_22 : decode cX6_near 22 = .ok (.iload_n 1, 1) := by decide +kernel
theorem dX6_near_23 : decode cX6_near 23 = .ok (.iconst 1, 1) := by decide +kernel
theorem dX6_near_24 : decode cX6_near 24 = .ok (.iadd, 1) := by decide +kernel
theorem dX6_near_25 : decode cX6_near 25 = .ok (.if_icmp .gt 47, 3) := by decide +kernel
theorem dX6_near_28 : decode cX6_near 28 = .ok (.iload_n 2, 1) := by decide +kernel
theorem dX6_near_29 : decode cX6_near 29 = .ok (.iconst 1, 1) := by decide +kernel
theorem dX6_near_30 : decode cX6_near 30 = .ok (.isub, 1) := by decide +kernel
theorem dX6_near_31 : decode cX6_near 31 = .ok (.istore 5, 2) := by decide +kernel
theorem dX6_near_33 : decode cX6_near 33 = .ok (.iload 5, 2) := by decide +kernel
theorem dX6_near_35 : decode cX6_near 35 = .ok (.iload_n 2, 1) := by decide +kernel
theorem dX6_near_36 : decode cX6_near 36 = .ok (.iconst 1, 1) := by decide +kernel
theorem dX6_near_37 : decode cX6_near 37 = .ok (.iadd, 1) := by decide +kernel
theorem dX6_near_38 : decode cX6_near 38 = .ok (.if_icmp .gt 28, 3) := by decide +kernel
theorem dX6_near_41 : decode cX6_near 41 = .ok (.iload_n 3, 1) := by decide +kernel
theorem dX6_near_42 : decode cX6_near 42 = .ok (.aload_n 0, 1) := by decide +kernel
theorem dX6_near_43 : decode cX6_near 43 = .ok (.iload 4, 2) := by decide +kernel
theorem dX6_near_45 : decode cX6_near 45 = .ok (.iload 5, 2) := by decide +kernel
theorem dX6_near_47 : decode cX6_near 47 = .ok (.invokevirtual 51, 3) := by decide +kernel
theorem dX6_near_50 : decode cX6_near 50 = .ok (.ifCond .eq 7, 3) := by decide +kernel
theorem dX6_near_53 : decode cX6_near 53 = .ok (.iconst 1, 1) := by decide +kernel
theorem dX6_near_54 : decode cX6_near 54 = .ok (.goto 4, 3) := by decide +kernel
theorem dX6_near_57 : decode cX6_near 57 = .ok (.iconst 0, 1) := by decide +kernel
theorem dX6_near_58 : decode cX6_near 58 = .ok (.iadd, 1) := by decide +kernel
theorem dX6_near_59 : decode cX6_near 59 = .ok (.istore_n 3, 1) := by decide +kernel
theorem dX6_near_60 : decode cX6_near 60 = .ok (.iinc 5 1, 3) := by decide +kernel
theorem dX6_near_63 : decode cX6_near 63 = .ok (.goto (-30), 3) := by decide +kernel
theorem dX6_near_66 : decode cX6_near 66 = .ok (.iinc 4 1, 3) := by decide +kernel
theorem dX6_near_69 : decode cX6_near 69 = .ok (.goto (-49), 3) := by decide +kernel
theorem dX6_near_72 : decode cX6_near 72 = .ok (.iload_n 3, 1) := by decide +kernel
theorem dX6_near_73 : decode cX6_near 73 = .ok (.ireturn, 1) := by decide +kernel
set_option maxRecDepth 20000 in
theorem ggX6_comes_X6_has : GoodIn wsX6_comes wsX6_has := goodIn_r _ [7, 8, 9, 10, 11, 16, 17, 18, 19, 20, 21, 22, 23, 24] (by decide +kernel) (by decide +kernel)
set_option maxRecDepth 20000 in
theorem gX6_comes_X6_has : GoodIn wsX6_comes (wsV RX6 51 RX6 yX6_has wsX6_has) := goodIn_app (goodIn_of _ (by decide +kernel)) ggX6_comes_X6_has
set_option maxRecDepth 20000 in
theorem ggX6_comes_X6_near : GoodIn wsX6_comes wsX6_near := goodIn_r _ [15, 3, 4, 5, 6, 7, 8, 9, 10, 11, 16, 17, 18, 19, 20, 21, 22, 23, 24] (by decide +kernel) (by decide +kernel)
set_option maxRecDepth 20000 in
theorem gX6_comes_X6_near : GoodIn wsX6_comes (wsV RX6 55 RX6 yX6_near wsX6_near) := goodIn_app (goodIn_of _ (by decide +kernel)) ggX6_comes_X6_near
theorem dX6_comes_0 : decode cX6_comes 0 = .ok (.aload_n 0, 1) := by decide +kernel
theorem dX6_comes_1 : decode cX6_comes 1 = .ok (.iload_n 1, 1) := by decide +kernel
theorem dX6_comes_2 : decode cX6_comes 2 = .ok (.iload_n 2, 1) := by decide +kernel
theorem dX6_comes_3 : decode cX6_comes 3 = .ok (.invokevirtual 51, 3) := by decide +kernel
theorem dX6_comes_6 : decode cX6_comes 6 = .ok (.ifCond .eq 10, 3) := by decide +kernel
theorem dX6_comes_9 : decode cX6_comes 9 = .ok (.aload_n 0, 1) := by decide +kernel
theorem dX6_comes_10 : decode cX6_comes 10 = .ok (.getfield 19, 3) := by decide +kernel
theorem dX6_comes_13 : decode cX6_comes 13 = .ok (.goto 7, 3) := by decide +kernel
theorem dX6_comes_16 : decode cX6_comes 16 = .ok (.aload_n 0, 1) := by decide +kernel
theorem dX6_comes_17 : decode cX6_comes 17 = .ok (.getfield 16, 3) := by decide +kernel
theorem dX6_comes_20 : decode cX6_comes 20 = .ok (.istore_n 3, 1) := by decide +kernel
theorem dX6_comes_21 : decode cX6_comes 21 = .ok (.iconst 0, 1) := by decide +kernel
theorem dX6_comes_22 : decode cX6_comes 22 = .ok (.istore 4, 2) := by decide +kernel
theorem dX6_comes_24 : decode cX6_comes 24 = .ok (.iload 4, 2) := by decide +kernel
theorem dX6_comes_26 : decode cX6_comes 26 = .ok (.aload_n 0, 1) := by decide +kernel
theorem dX6_comes_27 : decode cX6_comes 27 = .ok (.iload_n 1, 1) := by decide +kernel
theorem dX6_comes_28 : decode cX6_comes 28 = .ok (.iload_n 2, 1) := by decide +kernel
theorem dX6_comes_29 : decode cX6_comes 29 = .ok (.invokevirtual 55, 3) := by decide +kernel
theorem dX6_comes_32 : decode cX6_comes 32 = .ok (.if_icmp .ge 13, 3) := by decide +kernel
theorem dX6_comes_35 : decode cX6_comes 35 = .ok (.iload_n 3, 1) := by decide +kernel
theorem dX6_comes_36 : decode cX6_comes 36 = .ok (.iconst 2, 1) := by decide +kernel
theorem dX6_comes_37 : decode cX6_comes 37 = .ok (.idiv, 1) := by decide +kernel
theorem dX6_comes_38 : decode cX6_comes 38 = .ok (.istore_n 3, 1) := by decide +kernel
theorem dX6_comes_39 : decode cX6_comes 39 = .ok (.iinc 4 1, 3) := by decide +kernel
theorem dX6_comes_42 : decode cX6_comes 42 = .ok (.goto (-18), 3) := by decide +kernel
theorem dX6_comes_45 : decode cX6_comes 45 = .ok (.iload_n 3, 1) := by decide +kernel
theorem dX6_comes_46 : decode cX6_comes 46 = .ok (.iconst 2, 1) := by decide +kernel
theorem dX6_comes_47 : decode cX6_comes 47 = .ok (.irem, 1) := by decide +kernel
theorem dX6_comes_48 : decode cX6_comes 48 = .ok (.iconst 1, 1) := by decide +kernel
theorem dX6_comes_49 : decode cX6_comes 49 = .ok (.if_icmp .ne 7, 3) := by decide +kernel
theorem dX6_comes_52 : decode cX6_comes 52 = .ok (.iconst 1, 1) := by decide +kernel
theorem dX6_comes_53 : decode cX6_comes 53 = .ok (.goto 4, 3) := by decide +kernel
theorem dX6_comes_56 : decode cX6_comes 56 = .ok (.iconst 0, 1) := by decide +kernel
theorem dX6_comes_57 : decode cX6_comes 57 = .ok (.ireturn, 1) := by decide +kernel
theorem dX6_hedges_0 : decode cX6_hedges 0 = .ok (.iconst 0, 1) := by decide +kernel
theorem dX6_hedges_1 : decode cX6_hedges 1 = .ok (.istore_n 1, 1) := by decide +kernel
theorem dX6_hedges_2 : decode cX6_hedges 2 = .ok (.aload_n 0, 1) := by decide +kernel
theorem dX6_hedges_3 : decode cX6_hedges 3 = .ok (.getfield 26, 3) := by decide +kernel
theorem dX6_hedges_6 : decode cX6_hedges 6 = .ok (.astore_n 2, 1) := by decide +kernel
theorem dX6_hedges_7 : decode cX6_hedges 7 = .ok (.aload_n 2, 1) := by decide +kernel
theorem dX6_hedges_8 : decode cX6_hedges 8 = .ok (.arraylength, 1) := by decide +kernel
theorem dX6_hedges_9 : decode cX6_hedges 9 = .ok (.istore_n 3, 1) := by decide +kernel
theorem dX6_hedges_10 : decode cX6_hedges 10 = .ok (.iconst 0, 1) := by decide +kernel
theorem dX6_hedges_11 : decode cX6_hedges 11 = .ok (.istore 4, 2) := by decide +kernel
theorem dX6_hedges_13 : decode cX6_hedges 13 = .ok (.iload 4, 2) := by decide +kernel
theorem dX6_hedges_15 : decode cX6_hedges 15 = .ok (.iload_n 3, 1) := by decide +kernel
theorem dX6_hedges_16 : decode cX6_hedges 16 = .ok (.if_icmp .ge 60, 3) := by decide +kernel
theorem dX6_hedges_19 : decode cX6_hedges 19 = .ok (.aload_n 2, 1) := by decide +kernel
theorem dX6_hedges_20 : decode cX6_hedges 20 = .ok (.iload 4, 2) := by decide +kernel
theorem dX6_hedges_22 : decode cX6_hedges 22 = .ok (.aaload, 1) := by decide +kernel
theorem dX6_hedges_23 : decode cX6_hedges 23 = .ok (.astore 5, 2) := by decide +kernel
theorem dX6_hedges_25 : decode cX6_hedges 25 = .ok (.aload 5, 2) := by decide +kernel
theorem dX6_hedges_27 : decode cX6_hedges 27 = .ok (.astore 6, 2) := by decide +kernel
theorem dX6_hedges_29 : decode cX6_hedges 29 = .ok (.aload 6, 2) := by decide +kernel
theorem dX6_hedges_31 : decode cX6_hedges 31 = .ok (.arraylength, 1) := by decide +kernel
theorem dX6_hedges_32 : decode cX6_hedges 32 = .ok (.istore 7, 2) := by decide +kernel
theorem dX6_hedges_34 : decode cX6_hedges 34 = .ok (.iconst 0, 1) := by decide +kernel
theorem dX6_hedges_35 : decode cX6_hedges 35 = .ok (.istore 8, 2) := by decide +kernel
theorem dX6_hedges_37 : decode cX6_hedges 37 = .ok (.iload 8, 2) := by decide +kernel
theorem dX6_hedges_39 : decode cX6_hedges 39 = .ok (.iload 7, 2) := by decide +kernel
theorem dX6_hedges_41 : decode cX6_hedges 41 = .ok (.if_icmp .ge 29, 3) := by decide +kernel
theorem dX6_hedges_44 : decode cX6_hedges 44 = .ok (.aload 6, 2) := by decide +kernel
theorem dX6_hedges_46 : decode cX6_hedges 46 = .ok (.iload 8, 2) := by decide +kernel
theorem dX6_hedges_48 : decode cX6_hedges 48 = .ok (.iaload, 1) := by decide +kernel
theorem dX6_hedges_49 : decode cX6_hedges 49 = .ok (.istore 9, 2) := by decide +kernel
theorem dX6_hedges_51 : decode cX6_hedges 51 = .ok (.iload_n 1, 1) := by decide +kernel
theorem dX6_hedges_52 : decode cX6_hedges 52 = .ok (.iload 9, 2) := by decide +kernel
theorem dX6_hedges_54 : decode cX6_hedges 54 = .ok (.ifCond .lt 7, 3) := by decide +kernel
theorem dX6_hedges_57 : decode cX6_hedges 57 = .ok (.iconst 1, 1) := by decide +kernel
theorem dX6_hedges_58 : decode cX6_hedges 58 = .ok (.goto 4, 3) := by decide +kernel
theorem dX6_hedges_61 : decode cX6_hedges 61 = .ok (.iconst 0, 1) := by decide +kernel
theorem dX6_hedges_62 : decode cX6_hedges 62 = .ok (.iadd, 1) := by decide +kernel
theorem dX6_hedges_63 : decode cX6_hedges 63 = .ok (.istore_n 1, 1) := by decide +kernel
theorem dX6_hedges_64 : decode cX6_hedges 64 = .ok (.iinc 8 1, 3) := by decide +kernel
theorem dX6_hedges_67 : decode cX6_hedges 67 = .ok (.goto (-30), 3) := by decide +kernel
theorem dX6_hedges_70 : decode cX6_hedges 70 = .ok (.iinc 4 1, 3) := by decide +kernel
theorem dX6_hedges_73 : decode cX6_hedges 73 = .ok (.goto (-60), 3) := by decide +kernel
theorem dX6_hedges_76 : decode cX6_hedges 76 = .ok (.iload_n 1, 1) := by decide +kernel
theorem dX6_hedges_77 : decode cX6_hedges 77 = .ok (.ireturn, 1) := by decide +kernel
set_option maxRecDepth 20000 in
theorem ggX6_pass_X6_rows : GoodIn wsX6_pass wsX6_rows := goodIn_r _ [10, 11, 12] (by decide +kernel) (by decide +kernel)
set_option maxRecDepth 20000 in
theorem gX6_pass_X6_rows : GoodIn wsX6_pass (va_wsS RX6 22 yX6_rows wsX6_rows) := goodIn_app (goodIn_of _ (by decide +kernel)) ggX6_pass_X6_rows
set_option maxRecDepth 20000 in
theorem ggX6_pass_X6_has : GoodIn wsX6_pass wsX6_has := goodIn_r _ [16, 17, 3, 2, 1, 32, 33, 34, 35, 36, 37, 38, 39, 40] (by decide +kernel) (by decide +kernel)
set_option maxRecDepth 20000 in
theorem gX6_pass_X6_has : GoodIn wsX6_pass (wsV RX6 51 RX6 yX6_has wsX6_has) := goodIn_app (goodIn_of _ (by decide +kernel)) ggX6_pass_X6_has
set_option maxRecDepth 20000 in
theorem ggX6_pass_X6_comes : GoodIn wsX6_pass wsX6_comes := goodIn_r _ [21, 22, 23, 13, 14, 15, 9, 16, 17, 3, 2, 1, 24, 25, 26, 27, 32, 33, 34, 35, 36, 37, 38, 39, 40] (by decide +kernel) (by decide +kernel)
set_option maxRecDepth 20000 in
theorem gX6_pass_X6_comes : GoodIn wsX6_pass (wsV RX6 59 RX6 yX6_comes wsX6_comes) := goodIn_app (goodIn_of _ (by decide +kernel)) ggX6_pass_X6_comes
set_option maxRecDepth 20000 in
theorem ggX6_pass_X6_hedges : GoodIn wsX6_pass wsX6_hedges := goodIn_r _ [31, 3, 32, 33, 34, 35, 36, 37, 38, 39, 40] (by decide +kernel) (by decide +kernel)
set_option maxRecDepth 20000 in
theorem gX6_pass_X6_hedges : GoodIn wsX6_pass (wsV RX6 62 RX6 yX6_hedges wsX6_hedges) := goodIn_app (goodIn_of _ (by decide +kernel)) ggX6_pass_X6_hedges
theorem dX6_pass_0 : decode cX6_pass 0 = .ok (.aload_n 0, 1) := by decide +kernel
theorem dX6_pass_1 : decode cX6_pass 1 = .ok (.getfield 7, 3) := by decide +kernel
theorem dX6_pass_4 : decode cX6_pass 4 = .ok (.aload_n 0, 1) := by decide +kernel
theorem dX6_pass_5 : decode cX6_pass 5 = .ok (.getfield 13, 3) := by decide +kernel
theorem dX6_pass_8 : decode cX6_pass 8 = .ok (.iconst (-1), 1) := by decide +kernel
theorem dX6_pass_9 : decode cX6_pass 9 = .ok (.invokestatic 22, 3) := by decide +kernel
theorem dX6_pass_12 : decode cX6_pass 12 = .ok (.astore_n 1, 1) := by decide +kernel
theorem dX6_pass_13 : decode cX6_pass 13 = .ok (.iconst 0, 1) := by decide +kernel
theorem dX6_pass_14 : decode cX6_pass 14 = .ok (.istore_n 2, 1) := by decide +kernel
theorem dX6_pass_15 : decode cX6_pass 15 = .ok (.iload_n 2, 1) := by decide +kernel
theorem dX6_pass_16 : decode cX6_pass 16 = .ok (.aload_n 0, 1) := by decide +kernel
theorem dX6_pass_17 : decode cX6_pass 17 = .ok (.getfield 13, 3) := by decide +kernel
theorem dX6_pass_20 : decode cX6_pass 20 = .ok (.if_icmp .ge 120, 3) := by decide +kernel
theorem dX6_pass_23 : decode cX6_pass 23 = .ok (.iconst 0, 1) := by decide +kernel
theorem dX6_pass_24 : decode cX6_pass 24 = .ok (.istore_n 3, 1) := by decide +kernel
theorem dX6_pass_25 : decode cX6_pass 25 = .ok (.iload_n 3, 1) := by decide +kernel
theorem dX6_pass_26 : decode cX6_pass 26 = .ok (.aload_n 0, 1) := by decide +kernel
theorem dX6_pass_27 : decode cX6_pass 27 = .ok (.getfield 7, 3) := by decide +kernel
theorem dX6_pass_30 : decode cX6_pass 30 = .ok (.if_icmp .ge 104, 3) := by decide +kernel
theorem dX6_pass_33 : decode cX6_pass 33 = .ok (.aload_n 0, 1) := by decide +kernel
theorem dX6_pass_34 : decode cX6_pass 34 = .ok (.iload_n 3, 1) := by decide +kernel
theorem dX6_pass_35 : decode cX6_pass 35 = .ok (.iload_n 2, 1) := by decide +kernel
theorem dX6_pass_36 : decode cX6_pass 36 = .ok (.invokevirtual 51, 3) := by decide +kernel
theorem dX6_pass_39 : decode cX6_pass 39 = .ok (.istore 4, 2) := by decide +kernel
theorem dX6_pass_41 : decode cX6_pass 41 = .ok (.aload_n 0, 1) := by decide +kernel
theorem dX6_pass_42 : decode cX6_pass 42 = .ok (.iload_n 3, 1) := by decide +kernel
theorem dX6_pass_43 : decode cX6_pass 43 = .ok (.iload_n 2, 1) := by decide +kernel
theorem dX6_pass_44 : decode cX6_pass 44 = .ok (.invokevirtual 59, 3) := by decide +kernel
theorem dX6_pass_47 : decode cX6_pass 47 = .ok (.ifCond .eq 27, 3) := by decide +kernel
theorem dX6_pass_50 : decode cX6_pass 50 = .ok (.aload_n 1, 1) := by decide +kernel
theorem dX6_pass_51 : decode cX6_pass 51 = .ok (.iload_n 2, 1) := by decide +kernel
theorem dX6_pass_52 : decode cX6_pass 52 = .ok (.aaload, 1) := by decide +kernel
theorem dX6_pass_53 : decode cX6_pass 53 = .ok (.iload_n 3, 1) := by decide +kernel
theorem dX6_pass_54 : decode cX6_pass 54 = .ok (.iload 4, 2) := by decide +kernel
theorem dX6_pass_56 : decode cX6_pass 56 = .ok (.ifCond .eq 16, 3) := by decide +kernel
theorem dX6_pass_59 : decode cX6_pass 59 = .ok (.aload_n 0, 1) := by decide +kernel
theorem dX6_pass_60 : decode cX6_pass 60 = .ok (.getfield 26, 3) := by decide +kernel
theorem dX6_pass_63 : decode cX6_pass 63 = .ok (.iload_n 2, 1) := by decide +kernel
theorem dX6_pass_64 : decode cX6_pass 64 = .ok (.aaload, 1) := by decide +kernel
theorem dX6_pass_65 : decode cX6_pass 65 = .ok (.iload_n 3, 1) := by decide +kernel
theorem dX6_pass_66 : decode cX6_pass 66 = .ok (.iaload, 1) := by decide +kernel
theorem dX6_pass_67 : decode cX6_pass 67 = .ok (.iconst 1, 1) := by decide +kernel
theorem dX6_pass_68 : decode cX6_pass 68 = .ok (.iadd, 1) := by decide +kernel
theorem dX6_pass_69 : decode cX6_pass 69 = .ok (.goto 4, 3) := by decide +kernel
theorem dX6_pass_72 : decode cX6_pass 72 = .ok (.iconst 0, 1) := by decide +kernel
theorem dX6_pass_73 : decode cX6_pass 73 = .ok (.iastore, 1) := by decide +kernel
theorem dX6_pass_74 : decode cX6_pass 74 = .ok (.aload_n 0, 1) := by decide +kernel
theorem dX6_pass_75 : decode cX6_pass 75 = .ok (.dup, 1) := by decide +kernel
theorem dX6_pass_76 : decode cX6_pass 76 = .ok (.getfield 39, 3) := by decide +kernel
theorem dX6_pass_79 : decode cX6_pass 79 = .ok (.aload_n 1, 1) := by decide +kernel
theorem dX6_pass_80 : decode cX6_pass 80 = .ok (.iload_n 2, 1) := by decide +kernel
theorem dX6_pass_81 : decode cX6_pass 81 = .ok (.aaload, 1) := by decide +kernel
theorem dX6_pass_82 : decode cX6_pass 82 = .ok (.iload_n 3, 1) := by decide +kernel
theorem dX6_pass_83 : decode cX6_pass 83 = .ok (.iaload, 1) := by decide +kernel
theorem dX6_pass_84 : decode cX6_pass 84 = .ok (.ifCond .lt 12, 3) := by decide +kernel
theorem dX6_pass_87 : decode cX6_pass 87 = .ok (.iload 4, 2) := by decide +kernel
theorem dX6_pass_89 : decode cX6_pass 89 = .ok (.ifCond .ne 7, 3) := by decide +kernel
theorem dX6_pass_92 : decode cX6_pass 92 = .ok (.iconst 1, 1) := by decide +kernel
theorem dX6_pass_93 : decode cX6_pass 93 = .ok (.goto 4, 3) := by decide +kernel
theorem dX6_pass_96 : decode cX6_pass 96 = .ok (.iconst 0, 1) := by decide +kernel
theorem dX6_pass_97 : decode cX6_pass 97 = .ok (.iadd, 1) := by decide +kernel
theorem dX6_pass_98 : decode cX6_pass 98 = .ok (.putfield 39, 3) := by decide +kernel
theorem dX6_pass_101 : decode cX6_pass 101 = .ok (.aload_n 0, 1) := by decide +kernel
theorem dX6_pass_102 : decode cX6_pass 102 = .ok (.dup, 1) := by decide +kernel
theorem dX6_pass_103 : decode cX6_pass 103 = .ok (.getfield 42, 3) := by decide +kernel
theorem dX6_pass_106 : decode cX6_pass 106 = .ok (.aload_n 1, 1) := by decide +kernel
theorem dX6_pass_107 : decode cX6_pass 107 = .ok (.iload_n 2, 1) := by decide +kernel
theorem dX6_pass_108 : decode cX6_pass 108 = .ok (.aaload, 1) := by decide +kernel
theorem dX6_pass_109 : decode cX6_pass 109 = .ok (.iload_n 3, 1) := by decide +kernel
theorem dX6_pass_110 : decode cX6_pass 110 = .ok (.iaload, 1) := by decide +kernel
theorem dX6_pass_111 : decode cX6_pass 111 = .ok (.ifCond .ge 12, 3) := by decide +kernel
theorem dX6_pass_114 : decode cX6_pass 114 = .ok (.iload 4, 2) := by decide +kernel
theorem dX6_pass_116 : decode cX6_pass 116 = .ok (.ifCond .eq 7, 3) := by decide +kernel
theorem dX6_pass_119 : decode cX6_pass 119 = .ok (.iconst 1, 1) := by decide +kernel
theorem dX6_pass_120 : decode cX6_pass 120 = .ok (.goto 4, 3) := by decide +kernel
theorem dX6_pass_123 : decode cX6_pass 123 = .ok (.iconst 0, 1) := by decide +kernel
theorem dX6_pass_124 : decode cX6_pass 124 = .ok (.iadd, 1) := by decide +kernel
theorem dX6_pass_125 : decode cX6_pass 125 = .ok (.putfield 42, 3) := by decide +kernel
theorem dX6_pass_128 : decode cX6_pass 128 = .ok (.iinc 3 1, 3) := by decide +kernel
theorem dX6_pass_131 : decode cX6_pass 131 = .ok (.goto (-106), 3) := by decide +kernel
theorem dX6_pass_134 : decode cX6_pass 134 = .ok (.iinc 2 1, 3) := by decide +kernel
theorem dX6_pass_137 : decode cX6_pass 137 = .ok (.goto (-122), 3) := by decide +kernel
theorem dX6_pass_140 : decode cX6_pass 140 = .ok (.aload_n 0, 1) := by decide +kernel
theorem dX6_pass_141 : decode cX6_pass 141 = .ok (.aload_n 1, 1) := by decide +kernel
theorem dX6_pass_142 : decode cX6_pass 142 = .ok (.putfield 26, 3) := by decide +kernel
theorem dX6_pass_145 : decode cX6_pass 145 = .ok (.aload_n 0, 1) := by decide +kernel
theorem dX6_pass_146 : decode cX6_pass 146 = .ok (.dup, 1) := by decide +kernel
theorem dX6_pass_147 : decode cX6_pass 147 = .ok (.getfield 36, 3) := by decide +kernel
theorem dX6_pass_150 : decode cX6_pass 150 = .ok (.iconst 1, 1) := by decide +kernel
theorem dX6_pass_151 : decode cX6_pass 151 = .ok (.iadd, 1) := by decide +kernel
theorem dX6_pass_152 : decode cX6_pass 152 = .ok (.putfield 36, 3) := by decide +kernel
theorem dX6_pass_155 : decode cX6_pass 155 = .ok (.aload_n 0, 1) := by decide +kernel
theorem dX6_pass_156 : decode cX6_pass 156 = .ok (.invokevirtual 62, 3) := by decide +kernel
theorem dX6_pass_159 : decode cX6_pass 159 = .ok (.ireturn, 1) := by decide +kernel
set_option maxRecDepth 20000 in
theorem ggX6_go_X6_pass : GoodIn wsX6_go wsX6_pass := goodIn_r _ [5, 6, 7, 8, 9, 10, 11, 12, 13, 4, 14, 15, 16, 17, 18, 19, 20, 21, 22, 23, 24, 25, 26, 27, 28, 29, 30, 31, 32, 33, 34, 35, 36, 37, 38, 39, 40, 41, 42, 43, 44] (by decide +kernel) (by decide +kernel)
set_option maxRecDepth 20000 in
theorem gX6_go_X6_pass : GoodIn wsX6_go (wsV RX6 66 RX6 yX6_pass wsX6_pass) := goodIn_app (goodIn_of _ (by decide +kernel)) ggX6_go_X6_pass
theorem dX6_go_0 : decode cX6_go 0 = .ok (.iconst 1, 1) := by decide +kernel
theorem dX6_go_1 : decode cX6_go 1 = .ok (.istore_n 2, 1) := by decide +kernel
theorem dX6_go_2 : decode cX6_go 2 = .ok (.iload_n 2, 1) := by decide +kernel
theorem dX6_go_3 : decode cX6_go 3 = .ok (.iload_n 1, 1) := by decide +kernel
theorem dX6_go_4 : decode cX6_go 4 = .ok (.if_icmp .ge 14, 3) := by decide +kernel
theorem dX6_go_7 : decode cX6_go 7 = .ok (.aload_n 0, 1) := by decide +kernel
theorem dX6_go_8 : decode cX6_go 8 = .ok (.invokevirtual 66, 3) := by decide +kernel
theorem dX6_go_11 : decode cX6_go 11 = .ok (.pop, 1) := by decide +kernel
theorem dX6_go_12 : decode cX6_go 12 = .ok (.iinc 2 1, 3) := by decide +kernel
theorem dX6_go_15 : decode cX6_go 15 = .ok (.goto (-13), 3) := by decide +kernel
theorem dX6_go_18 : decode cX6_go 18 = .ok (.aload_n 0, 1) := by decide +kernel
theorem dX6_go_19 : decode cX6_go 19 = .ok (.invokevirtual 66, 3) := by decide +kernel
theorem dX6_go_22 : decode cX6_go 22 = .ok (.ireturn, 1) := by decide +kernel
set_option maxRecDepth 20000 in
theorem ggX6_lawns_X6_rows : GoodIn wsX6_lawns wsX6_rows := goodIn_r _ [7, 8, 9] (by decide +kernel) (by decide +kernel)
set_option maxRecDepth 20000 in
theorem gX6_lawns_X6_rows : GoodIn wsX6_lawns (va_wsS RX6 22 yX6_rows wsX6_rows) := goodIn_app (goodIn_of _ (by decide +kernel)) ggX6_lawns_X6_rows
set_option maxRecDepth 20000 in
theorem ggX6_lawns_X6_has : GoodIn wsX6_lawns wsX6_has := goodIn_r _ [13, 3, 14, 2, 1, 15, 16, 17, 18, 19, 20, 21, 22, 23] (by decide +kernel) (by decide +kernel)
set_option maxRecDepth 20000 in
theorem gX6_lawns_X6_has : GoodIn wsX6_lawns (wsV RX6 51 RX6 yX6_has wsX6_has) := goodIn_app (goodIn_of _ (by decide +kernel)) ggX6_lawns_X6_has
theorem dX6_lawns_0 : decode cX6_lawns 0 = .ok (.aload_n 0, 1) := by decide +kernel
theorem dX6_lawns_1 : decode cX6_lawns 1 = .ok (.getfield 7, 3) := by decide +kernel
theorem dX6_lawns_4 : decode cX6_lawns 4 = .ok (.aload_n 0, 1) := by decide +kernel
theorem dX6_lawns_5 : decode cX6_lawns 5 = .ok (.getfield 13, 3) := by decide +kernel
theorem dX6_lawns_8 : decode cX6_lawns 8 = .ok (.iconst (-1), 1) := by decide +kernel
theorem dX6_lawns_9 : decode cX6_lawns 9 = .ok (.invokestatic 22, 3) := by decide +kernel
theorem dX6_lawns_12 : decode cX6_lawns 12 = .ok (.astore_n 1, 1) := by decide +kernel
theorem dX6_lawns_13 : decode cX6_lawns 13 = .ok (.iconst 0, 1) := by decide +kernel
theorem dX6_lawns_14 : decode cX6_lawns 14 = .ok (.istore_n 2, 1) := by decide +kernel
theorem dX6_lawns_15 : decode cX6_lawns 15 = .ok (.iload_n 2, 1) := by decide +kernel
theorem dX6_lawns_16 : decode cX6_lawns 16 = .ok (.aload_n 0, 1) := by decide +kernel
theorem dX6_lawns_17 : decode cX6_lawns 17 = .ok (.getfield 13, 3) := by decide +kernel
theorem dX6_lawns_20 : decode cX6_lawns 20 = .ok (.if_icmp .ge 47, 3) := by decide +kernel
theorem dX6_lawns_23 : decode cX6_lawns 23 = .ok (.iconst 0, 1) := by decide +kernel
theorem dX6_lawns_24 : decode cX6_lawns 24 = .ok (.istore_n 3, 1) := by decide +kernel
theorem dX6_lawns_25 : decode cX6_lawns 25 = .ok (.iload_n 3, 1) := by decide +kernel
theorem dX6_lawns_26 : decode cX6_lawns 26 = .ok (.aload_n 0, 1) := by decide +kernel
theorem dX6_lawns_27 : decode cX6_lawns 27 = .ok (.getfield 7, 3) := by decide +kernel
theorem dX6_lawns_30 : decode cX6_lawns 30 = .ok (.if_icmp .ge 31, 3) := by decide +kernel
theorem dX6_lawns_33 : decode cX6_lawns 33 = .ok (.aload_n 0, 1) := by decide +kernel
theorem dX6_lawns_34 : decode cX6_lawns 34 = .ok (.iload_n 3, 1) := by decide +kernel
theorem dX6_lawns_35 : decode cX6_lawns 35 = .ok (.iload_n 2, 1) := by decide +kernel
theorem dX6_lawns_36 : decode cX6_lawns 36 = .ok (.invokevirtual 51, 3) := by decide +kernel
theorem dX6_lawns_39 : decode cX6_lawns 39 = .ok (.ifCond .ne 16, 3) := by decide +kernel
theorem dX6_lawns_42 : decode cX6_lawns 42 = .ok (.aload_n 1, 1) := by decide +kernel
theorem dX6_lawns_43 : decode cX6_lawns 43 = .ok (.iload_n 2, 1) := by decide +kernel
theorem dX6_lawns_44 : decode cX6_lawns 44 = .ok (.aaload, 1) := by decide +kernel
theorem dX6_lawns_45 : decode cX6_lawns 45 = .ok (.iload_n 3, 1) := by decide +kernel
theorem dX6_lawns_46 : decode cX6_lawns 46 = .ok (.aload_n 0, 1) := by decide +kernel
theorem dX6_lawns_47 : decode cX6_lawns 47 = .ok (.getfield 7, 3) := by decide +kernel
theorem dX6_lawns_50 : decode cX6_lawns 50 = .ok (.iload_n 2, 1) := by decide +kernel
theorem dX6_lawns_51 : decode cX6_lawns 51 = .ok (.imul, 1) := by decide +kernel
theorem dX6_lawns_52 : decode cX6_lawns 52 = .ok (.iload_n 3, 1) := by decide +kernel
theorem dX6_lawns_53 : decode cX6_lawns 53 = .ok (.iadd, 1) := by decide +kernel
theorem dX6_lawns_54 : decode cX6_lawns 54 = .ok (.iastore, 1) := by decide +kernel
theorem dX6_lawns_55 : decode cX6_lawns 55 = .ok (.iinc 3 1, 3) := by decide +kernel
theorem dX6_lawns_58 : decode cX6_lawns 58 = .ok (.goto (-33), 3) := by decide +kernel
theorem dX6_lawns_61 : decode cX6_lawns 61 = .ok (.iinc 2 1, 3) := by decide +kernel
theorem dX6_lawns_64 : decode cX6_lawns 64 = .ok (.goto (-49), 3) := by decide +kernel
theorem dX6_lawns_67 : decode cX6_lawns 67 = .ok (.iconst 1, 1) := by decide +kernel
theorem dX6_lawns_68 : decode cX6_lawns 68 = .ok (.istore_n 2, 1) := by decide +kernel
theorem dX6_lawns_69 : decode cX6_lawns 69 = .ok (.iload_n 2, 1) := by decide +kernel
theorem dX6_lawns_70 : decode cX6_lawns 70 = .ok (.ifCond .eq 214, 3) := by decide +kernel
theorem dX6_lawns_73 : decode cX6_lawns 73 = .ok (.iconst 0, 1) := by decide +kernel
theorem dX6_lawns_74 : decode cX6_lawns 74 = .ok (.istore_n 2, 1) := by decide +kernel
theorem dX6_lawns_75 : decode cX6_lawns 75 = .ok (.iconst 0, 1) := by decide +kernel
theorem dX6_lawns_76 : decode cX6_lawns 76 = .ok (.istore_n 3, 1) := by decide +kernel
theorem dX6_lawns_77 : decode cX6_lawns 77 = .ok (.iload_n 3, 1) := by decide +kernel
theorem dX6_lawns_78 : decode cX6_lawns 78 = .ok (.iconst 4, 1) := by decide +kernel
theorem dX6_lawns_79 : decode cX6_lawns 79 = .ok (.aload_n 0, 1) := by decide +kernel
theorem dX6_lawns_80 : decode cX6_lawns 80 = .ok (.getfield 7, 3) := by decide +kernel
theorem dX6_lawns_83 : decode cX6_lawns 83 = .ok (.imul, 1) := by decide +kernel
theorem dX6_lawns_84 : decode cX6_lawns 84 = .ok (.aload_n 0, 1) := by decide +kernel
theorem dX6_lawns_85 : decode cX6_lawns 85 = .ok (.getfield 13, 3) := by decide +kernel
theorem dX6_lawns_88 : decode cX6_lawns 88 = .ok (.imul, 1) := by decide +kernel
theorem dX6_lawns_89 : decode cX6_lawns 89 = .ok (.if_icmp .ge 192, 3) := by decide +kernel
theorem dX6_lawns_92 : decode cX6_lawns 92 = .ok (.iload_n 3, 1) := by decide +kernel
theorem dX6_lawns_93 : decode cX6_lawns 93 = .ok (.iconst 4, 1) := by decide +kernel
theorem dX6_lawns_94 : decode cX6_lawns 94 = .ok (.idiv, 1) := by decide +kernel
theorem dX6_lawns_95 : decode cX6_lawns 95 = .ok (.aload_n 0, 1) := by decide +kernel
theorem dX6_lawns_96 : decode cX6_lawns 96 = .ok (.getfield 7, 3) := by decide +kernel
theorem dX6_lawns_99 : decode cX6_lawns 99 = .ok (.irem, 1) := by decide +kernel
theorem dX6_lawns_100 : decode cX6_lawns 100 = .ok (.istore 4, 2) := by decide +kernel
theorem dX6_lawns_102 : decode cX6_lawns 102 = .ok (.iload_n 3, 1) := by decide +kernel
theorem dX6_lawns_103 : decode cX6_lawns 103 = .ok (.iconst 4, 1) := by decide +kernel
theorem dX6_lawns_104 : decode cX6_lawns 104 = .ok (.idiv, 1) := by decide +kernel
theorem dX6_lawns_105 : decode cX6_lawns 105 = .ok (.aload_n 0, 1) := by decide +kernel
theorem dX6_lawns_106 : decode cX6_lawns 106 = .ok (.getfield 7, 3) := by decide +kernel
theorem dX6_lawns_109 : decode cX6_lawns 109 = .ok (.idiv, 1) := by decide +kernel
theorem dX6_lawns_110 : decode cX6_lawns 110 = .ok (.istore 5, 2) := by decide +kernel
theorem dX6_lawns_112 : decode cX6_lawns 112 = .ok (.iload 4, 2) := by decide +kernel
theorem dX6_lawns_114 : decode cX6_lawns 114 = .ok (.iload_n 3, 1) := by decide +kernel
theorem dX6_lawns_115 : decode cX6_lawns 115 = .ok (.iconst 4, 1) := by decide +kernel
theorem dX6_lawns_116 : decode cX6_lawns 116 = .ok (.irem, 1) := by decide +kernel
theorem dX6_lawns_117 : decode cX6_lawns 117 = .ok (.ifCond .ne 7, 3) := by decide +kernel
theorem dX6_lawns_120 : decode cX6_lawns 120 = .ok (.iconst 1, 1) := by decide +kernel
theorem dX6_lawns_121 : decode cX6_lawns 121 = .ok (.goto 15, 3) := by decide +kernel
theorem dX6_lawns_124 : decode cX6_lawns 124 = .ok (.iload_n 3, 1) := by decide +kernel
theorem dX6_lawns_125 : decode cX6_lawns 125 = .ok (.iconst 4, 1) := by decide +kernel
theorem dX6_lawns_126 : decode cX6_lawns 126 = .ok (.irem, 1) := by decide +kernel
theorem dX6_lawns_127 : decode cX6_lawns 127 = .ok (.iconst 1, 1) := by decide +kernel
theorem dX6_lawns_128 : decode cX6_lawns 128 = .ok (.if_icmp .ne 7, 3) := by decide +kernel
theorem dX6_lawns_131 : decode cX6_lawns 131 = .ok (.iconst (-1), 1) := by decide +kernel
theorem dX6_lawns_132 : decode cX6_lawns 132 = .ok (.goto 4, 3) := by decide +kernel
theorem dX6_lawns_135 : decode cX6_lawns 135 = .ok (.iconst 0, 1) := by decide +kernel
theorem dX6_lawns_136 : decode cX6_lawns 136 = .ok (.iadd, 1) := by decide +kernel
theorem dX6_lawns_137 : decode cX6_lawns 137 = .ok (.istore 6, 2) := by decide +kernel
theorem dX6_lawns_139 : decode cX6_lawns 139 = .ok (.iload 5, 2) := by decide +kernel
theorem dX6_lawns_141 : decode cX6_lawns 141 = .ok (.iload_n 3, 1) := by decide +kernel
theorem dX6_lawns_142 : decode cX6_lawns 142 = .ok (.iconst 4, 1) := by decide +kernel
theorem dX6_lawns_143 : decode cX6_lawns 143 = .ok (.irem, 1) := by decide +kernel
theorem dX6_lawns_144 : decode cX6_lawns 144 = .ok (.iconst 2, 1) := by decide +kernel
theorem dX6_lawns_145 : decode cX6_lawns 145 = .ok (.if_icmp .ne 7, 3) := by decide +kernel
theorem dX6_lawns_148 : decode cX6_lawns 148 = .ok (.iconst 1, 1) := by decide +kernel
theorem dX6_lawns_149 : decode cX6_lawns 149 = .ok (.goto 15, 3) := by decide +kernel
theorem dX6_lawns_152 : decode cX6_lawns 152 = .ok (.iload_n 3, 1) := by decide +kernel
theorem dX6_lawns_153 : decode cX6_lawns 153 = .ok (.iconst 4, 1) := by decide +kernel
theorem dX6_lawns_154 : decode cX6_lawns 154 = .ok (.irem, 1) := by decide +kernel
theorem dX6_lawns_155 : decode cX6_lawns 155 = .ok (.iconst 3, 1) := by decide +kernel
theorem dX6_lawns_156 : decode cX6_lawns 156 = .ok (.if_icmp .ne 7, 3) := by decide +kernel
theorem dX6_lawns_159 : decode cX6_lawns 159 = .ok (.iconst (-1), 1) := by decide +kernel
theorem dX6_lawns_160 : decode cX6_lawns 160 = .ok (.goto 4, 3) := by decide +kernel
theorem dX6_lawns_163 : decode cX6_lawns 163 = .ok (.iconst 0, 1) := by decide +kernel
theorem dX6_lawns_164 : decode cX6_lawns 164 = .ok (.iadd, 1) := by decide +kernel
theorem dX6_lawns_165 : decode cX6_lawns 165 = .ok (.istore 7, 2) := by decide +kernel
theorem dX6_lawns_167 : decode cX6_lawns 167 = .ok (.aload_n 0, 1) := by decide +kernel
theorem dX6_lawns_168 : decode cX6_lawns 168 = .ok (.getfield 32, 3) := by decide +kernel
theorem dX6_lawns_171 : decode cX6_lawns 171 = .ok (.ifCond .ne 34, 3) := by decide +kernel
theorem dX6_lawns_174 : decode cX6_lawns 174 = .ok (.iload 6, 2) := by decide +kernel
theorem dX6_lawns_176 : decode cX6_lawns 176 = .ok (.ifCond .lt 99, 3) := by decide +kernel
theorem dX6_lawns_179 : decode cX6_lawns 179 = .ok (.iload 7, 2) := by decide +kernel
theorem dX6_lawns_181 : decode cX6_lawns 181 = .ok (.ifCond .lt 94, 3) := by decide +kernel
theorem dX6_lawns_184 : decode cX6_lawns 184 = .ok (.iload 6, 2) := by decide +kernel
theorem dX6_lawns_186 : decode cX6_lawns 186 = .ok (.aload_n 0, 1) := by decide +kernel
theorem dX6_lawns_187 : decode cX6_lawns 187 = .ok (.getfield 7, 3) := by decide +kernel
theorem dX6_lawns_190 : decode cX6_lawns 190 = .ok (.if_icmp .eq 85, 3) := by decide +kernel
theorem dX6_lawns_193 : decode cX6_lawns 193 = .ok (.iload 7, 2) := by decide +kernel
theorem dX6_lawns_195 : decode cX6_lawns 195 = .ok (.aload_n 0, 1) := by decide +kernel
theorem dX6_lawns_196 : decode cX6_lawns 196 = .ok (.getfield 13, 3) := by decide +kernel
theorem dX6_lawns_199 : decode cX6_lawns 199 = .ok (.if_icmp .ne 6, 3) := by decide +kernel
theorem dX6_lawns_202 : decode cX6_lawns 202 = .ok (.goto 73, 3) := by decide +kernel
theorem dX6_lawns_205 : decode cX6_lawns 205 = .ok (.aload_n 1, 1) := by decide +kernel
theorem dX6_lawns_206 : decode cX6_lawns 206 = .ok (.iload 7, 2) := by decide +kernel
theorem dX6_lawns_208 : decode cX6_lawns 208 = .ok (.aload_n 0, 1) := by decide +kernel
theorem dX6_lawns_209 : decode cX6_lawns 209 = .ok (.getfield 13, 3) := by decide +kernel
theorem dX6_lawns_212 : decode cX6_lawns 212 = .ok (.iadd, 1) := by decide +kernel
theorem dX6_lawns_213 : decode cX6_lawns 213 = .ok (.aload_n 0, 1) := by decide +kernel
theorem dX6_lawns_214 : decode cX6_lawns 214 = .ok (.getfield 13, 3) := by decide +kernel
theorem dX6_lawns_217 : decode cX6_lawns 217 = .ok (.irem, 1) := by decide +kernel
theorem dX6_lawns_218 : decode cX6_lawns 218 = .ok (.aaload, 1) := by decide +kernel
theorem dX6_lawns_219 : decode cX6_lawns 219 = .ok (.iload 6, 2) := by decide +kernel
theorem dX6_lawns_221 : decode cX6_lawns 221 = .ok (.aload_n 0, 1) := by decide +kernel
theorem dX6_lawns_222 : decode cX6_lawns 222 = .ok (.getfield 7, 3) := by decide +kernel
theorem dX6_lawns_225 : decode cX6_lawns 225 = .ok (.iadd, 1) := by decide +kernel
theorem dX6_lawns_226 : decode cX6_lawns 226 = .ok (.aload_n 0, 1) := by decide +kernel
theorem dX6_lawns_227 : decode cX6_lawns 227 = .ok (.getfield 7, 3) := by decide +kernel
theorem dX6_lawns_230 : decode cX6_lawns 230 = .ok (.irem, 1) := by decide +kernel
theorem dX6_lawns_231 : decode cX6_lawns 231 = .ok (.iaload, 1) := by decide +kernel
theorem dX6_lawns_232 : decode cX6_lawns 232 = .ok (.istore 8, 2) := by decide +kernel
theorem dX6_lawns_234 : decode cX6_lawns 234 = .ok (.aload_n 1, 1) := by decide +kernel
theorem dX6_lawns_235 : decode cX6_lawns 235 = .ok (.iload 5, 2) := by decide +kernel
theorem dX6_lawns_237 : decode cX6_lawns 237 = .ok (.aaload, 1) := by decide +kernel
theorem dX6_lawns_238 : decode cX6_lawns 238 = .ok (.iload 4, 2) := by decide +kernel
theorem dX6_lawns_240 : decode cX6_lawns 240 = .ok (.iaload, 1) := by decide +kernel
theorem dX6_lawns_241 : decode cX6_lawns 241 = .ok (.ifCond .lt 34, 3) := by decide +kernel
theorem dX6_lawns_244 : decode cX6_lawns 244 = .ok (.iload 8, 2) := by decide +kernel
theorem dX6_lawns_246 : decode cX6_lawns 246 = .ok (.ifCond .lt 29, 3) := by decide +kernel
theorem dX6_lawns_249 : decode cX6_lawns 249 = .ok (.iload 8, 2) := by decide +kernel
theorem dX6_lawns_251 : decode cX6_lawns 251 = .ok (.aload_n 1, 1) := by decide +kernel
theorem dX6_lawns_252 : decode cX6_lawns 252 = .ok (.iload 5, 2) := by decide +kernel
theorem dX6_lawns_254 : decode cX6_lawns 254 = .ok (.aaload, 1) := by decide +kernel
theorem dX6_lawns_255 : decode cX6_lawns 255 = .ok (.iload 4, 2) := by decide +kernel
theorem dX6_lawns_257 : decode cX6_lawns 257 = .ok (.iaload, 1) := by decide +kernel
theorem dX6_lawns_258 : decode cX6_lawns 258 = .ok (.if_icmp .lt 6, 3) := by decide +kernel
theorem dX6_lawns_261 : decode cX6_lawns 261 = .ok (.goto 14, 3) := by decide +kernel
theorem dX6_lawns_264 : decode cX6_lawns 264 = .ok (.aload_n 1, 1) := by decide +kernel
theorem dX6_lawns_265 : decode cX6_lawns 265 = .ok (.iload 5, 2) := by decide +kernel
theorem dX6_lawns_267 : decode cX6_lawns 267 = .ok (.aaload, 1) := by decide +kernel
theorem dX6_lawns_268 : decode cX6_lawns 268 = .ok (.iload 4, 2) := by decide +kernel
theorem dX6_lawns_270 : decode cX6_lawns 270 = .ok (.iload 8, 2) := by decide +kernel
theorem dX6_lawns_272 : decode cX6_lawns 272 = .ok (.iastore, 1) := by decide +kernel
theorem dX6_lawns_273 : decode cX6_lawns 273 = .ok (.iconst 1, 1) := by decide +kernel
theorem dX6_lawns_274 : decode cX6_lawns 274 = .ok (.istore_n 2, 1) := by decide +kernel
theorem dX6_lawns_275 : decode cX6_lawns 275 = .ok (.iinc 3 1, 3) := by decide +kernel
theorem dX6_lawns_278 : decode cX6_lawns 278 = .ok (.goto (-201), 3) := by decide +kernel
theorem dX6_lawns_281 : decode cX6_lawns 281 = .ok (.goto (-212), 3) := by decide +kernel
theorem dX6_lawns_284 : decode cX6_lawns 284 = .ok (.aload_n 1, 1) := by decide +kernel
theorem dX6_lawns_285 : decode cX6_lawns 285 = .ok (.areturn, 1) := by decide +kernel
set_option maxRecDepth 20000 in
theorem ggX6_counts_X6_lawns : GoodIn wsX6_counts wsX6_lawns := goodIn_r _ [18, 1, 2, 13, 19, 20, 17, 21, 22, 3, 23, 24, 25, 26, 5, 41, 42, 43, 44, 45, 46, 47, 48, 49] (by decide +kernel) (by decide +kernel)
set_option maxRecDepth 20000 in
theorem gX6_counts_X6_lawns : GoodIn wsX6_counts (wsV RX6 69 RX6 yX6_lawns wsX6_lawns) := goodIn_app (goodIn_of _ (by decide +kernel)) ggX6_counts_X6_lawns
set_option maxRecDepth 20000 in
theorem ggX6_counts_X6_comes : GoodIn wsX6_counts wsX6_comes := goodIn_r _ [30, 31, 32, 23, 24, 25, 17, 26, 13, 5, 2, 1, 33, 34, 35, 36, 41, 42, 43, 44, 45, 46, 47, 48, 49] (by decide +kernel) (by decide +kernel)
set_option maxRecDepth 20000 in
theorem gX6_counts_X6_comes : GoodIn wsX6_counts (wsV RX6 59 RX6 yX6_comes wsX6_comes) := goodIn_app (goodIn_of _ (by decide +kernel)) ggX6_counts_X6_comes
set_option maxRecDepth 20000 in
theorem ggX6_counts_X6_hedges : GoodIn wsX6_counts wsX6_hedges := goodIn_r _ [40, 5, 41, 42, 43, 44, 45, 46, 47, 48, 49] (by decide +kernel) (by decide +kernel)
set_option maxRecDepth 20000 in
theorem gX6_counts_X6_hedges : GoodIn wsX6_counts (wsV RX6 62 RX6 yX6_hedges wsX6_hedges) := goodIn_app (goodIn_of _ (by decide +kernel)) ggX6_counts_X6_hedges
theorem dX6_counts_0 : decode cX6_counts 0 = .ok (.aload_n 0, 1) := by decide +kernel
theorem dX6_counts_1 : decode cX6_counts 1 = .ok (.getfield 7, 3) := by decide +kernel
theorem dX6_counts_4 : decode cX6_counts 4 = .ok (.aload_n 0, 1) := by decide +kernel
theorem dX6_counts_5 : decode cX6_counts 5 = .ok (.getfield 13, 3) := by decide +kernel
theorem dX6_counts_8 : decode cX6_counts 8 = .ok (.imul, 1) := by decide +kernel
theorem dX6_counts_9 : decode cX6_counts 9 = .ok (.newarray .int, 2) := by decide +kernel
theorem dX6_counts_11 : decode cX6_counts 11 = .ok (.astore_n 1, 1) := by decide +kernel
theorem dX6_counts_12 : decode cX6_counts 12 = .ok (.aload_n 0, 1) := by decide +kernel
theorem dX6_counts_13 : decode cX6_counts 13 = .ok (.getfield 7, 3) := by decide +kernel
theorem dX6_counts_16 : decode cX6_counts 16 = .ok (.aload_n 0, 1) := by decide +kernel
theorem dX6_counts_17 : decode cX6_counts 17 = .ok (.getfield 13, 3) := by decide +kernel
theorem dX6_counts_20 : decode cX6_counts 20 = .ok (.imul, 1) := by decide +kernel
theorem dX6_counts_21 : decode cX6_counts 21 = .ok (.newarray .boolean, 2) := by decide +kernel
theorem dX6_counts_23 : decode cX6_counts 23 = .ok (.astore_n 2, 1) := by decide +kernel
theorem dX6_counts_24 : decode cX6_counts 24 = .ok (.aload_n 0, 1) := by decide +kernel
theorem dX6_counts_25 : decode cX6_counts 25 = .ok (.invokevirtual 69, 3) := by decide +kernel
theorem dX6_counts_28 : decode cX6_counts 28 = .ok (.astore_n 3, 1) := by decide +kernel
theorem dX6_counts_29 : decode cX6_counts 29 = .ok (.iconst (-1), 1) := by decide +kernel
theorem dX6_counts_30 : decode cX6_counts 30 = .ok (.istore 4, 2) := by decide +kernel
theorem dX6_counts_32 : decode cX6_counts 32 = .ok (.iconst 0, 1) := by decide +kernel
theorem dX6_counts_33 : decode cX6_counts 33 = .ok (.istore 5, 2) := by decide +kernel
theorem dX6_counts_35 : decode cX6_counts 35 = .ok (.iload 5, 2) := by decide +kernel
theorem dX6_counts_37 : decode cX6_counts 37 = .ok (.aload_n 0, 1) := by decide +kernel
theorem dX6_counts_38 : decode cX6_counts 38 = .ok (.getfield 13, 3) := by decide +kernel
theorem dX6_counts_41 : decode cX6_counts 41 = .ok (.if_icmp .ge 90, 3) := by decide +kernel
theorem dX6_counts_44 : decode cX6_counts 44 = .ok (.iconst 0, 1) := by decide +kernel
theorem dX6_counts_45 : decode cX6_counts 45 = .ok (.istore 6, 2) := by decide +kernel
theorem dX6_counts_47 : decode cX6_counts 47 = .ok (.iload 6, 2) := by decide +kernel
theorem dX6_counts_49 : decode cX6_counts 49 = .ok (.aload_n 0, 1) := by decide +kernel
theorem dX6_counts_50 : decode cX6_counts 50 = .ok (.getfield 7, 3) := by decide +kernel
theorem dX6_counts_53 : decode cX6_counts 53 = .ok (.if_icmp .ge 72, 3) := by decide +kernel
theorem dX6_counts_56 : decode cX6_counts 56 = .ok (.iload 4, 2) := by decide +kernel
theorem dX6_counts_58 : decode cX6_counts 58 = .ok (.aload_n 0, 1) := by decide +kernel
theorem dX6_counts_59 : decode cX6_counts 59 = .ok (.getfield 26, 3) := by decide +kernel
theorem dX6_counts_62 : decode cX6_counts 62 = .ok (.iload 5, 2) := by decide +kernel
theorem dX6_counts_64 : decode cX6_counts 64 = .ok (.aaload, 1) := by decide +kernel
theorem dX6_counts_65 : decode cX6_counts 65 = .ok (.iload 6, 2) := by decide +kernel
theorem dX6_counts_67 : decode cX6_counts 67 = .ok (.iaload, 1) := by decide +kernel
theorem dX6_counts_68 : decode cX6_counts 68 = .ok (.invokestatic 73, 3) := by decide +kernel
theorem dX6_counts_71 : decode cX6_counts 71 = .ok (.istore 4, 2) := by decide +kernel
theorem dX6_counts_73 : decode cX6_counts 73 = .ok (.aload_n 3, 1) := by decide +kernel
theorem dX6_counts_74 : decode cX6_counts 74 = .ok (.iload 5, 2) := by decide +kernel
theorem dX6_counts_76 : decode cX6_counts 76 = .ok (.aaload, 1) := by decide +kernel
theorem dX6_counts_77 : decode cX6_counts 77 = .ok (.iload 6, 2) := by decide +kernel
theorem dX6_counts_79 : decode cX6_counts 79 = .ok (.iaload, 1) := by decide +kernel
theorem dX6_counts_80 : decode cX6_counts 80 = .ok (.ifCond .ge 6, 3) := by decide +kernel
theorem dX6_counts_83 : decode cX6_counts 83 = .ok (.goto 36, 3) := by decide +kernel
theorem dX6_counts_86 : decode cX6_counts 86 = .ok (.aload_n 1, 1) := by decide +kernel
theorem dX6_counts_87 : decode cX6_counts 87 = .ok (.aload_n 3, 1) := by decide +kernel
theorem dX6_counts_88 : decode cX6_counts 88 = .ok (.iload 5, 2) := by decide +kernel
theorem dX6_counts_90 : decode cX6_counts 90 = .ok (.aaload, 1) := by decide +kernel
theorem dX6_counts_91 : decode cX6_counts 91 = .ok (.iload 6, 2) := by decide +kernel
theorem dX6_counts_93 : decode cX6_counts 93 = .ok (.iaload, 1) := by decide +kernel
theorem dX6_counts_94 : decode cX6_counts 94 = .ok (.dup2, 1) := by decide +kernel
theorem dX6_counts_95 : decode cX6_counts 95 = .ok (.iaload, 1) := by decide +kernel
theorem dX6_counts_96 : decode cX6_counts 96 = .ok (.iconst 1, 1) := by decide +kernel
theorem dX6_counts_97 : decode cX6_counts 97 = .ok (.iadd, 1) := by decide +kernel
theorem dX6_counts_98 : decode cX6_counts 98 = .ok (.iastore, 1) := by decide +kernel
theorem dX6_counts_99 : decode cX6_counts 99 = .ok (.aload_n 2, 1) := by decide +kernel
theorem dX6_counts_100 : decode cX6_counts 100 = .ok (.aload_n 3, 1) := by decide +kernel
theorem dX6_counts_101 : decode cX6_counts 101 = .ok (.iload 5, 2) := by decide +kernel
theorem dX6_counts_103 : decode cX6_counts 103 = .ok (.aaload, 1) := by decide +kernel
theorem dX6_counts_104 : decode cX6_counts 104 = .ok (.iload 6, 2) := by decide +kernel
theorem dX6_counts_106 : decode cX6_counts 106 = .ok (.iaload, 1) := by decide +kernel
theorem dX6_counts_107 : decode cX6_counts 107 = .ok (.dup2, 1) := by decide +kernel
theorem dX6_counts_108 : decode cX6_counts 108 = .ok (.baload, 1) := by decide +kernel
theorem dX6_counts_109 : decode cX6_counts 109 = .ok (.aload_n 0, 1) := by decide +kernel
theorem dX6_counts_110 : decode cX6_counts 110 = .ok (.iload 6, 2) := by decide +kernel
theorem dX6_counts_112 : decode cX6_counts 112 = .ok (.iload 5, 2) := by decide +kernel
theorem dX6_counts_114 : decode cX6_counts 114 = .ok (.invokevirtual 59, 3) := by decide +kernel
theorem dX6_counts_117 : decode cX6_counts 117 = .ok (.ior, 1) := by decide +kernel
theorem dX6_counts_118 : decode cX6_counts 118 = .ok (.bastore, 1) := by decide +kernel
theorem dX6_counts_119 : decode cX6_counts 119 = .ok (.iinc 6 1, 3) := by decide +kernel
theorem dX6_counts_122 : decode cX6_counts 122 = .ok (.goto (-75), 3) := by decide +kernel
theorem dX6_counts_125 : decode cX6_counts 125 = .ok (.iinc 5 1, 3) := by decide +kernel
theorem dX6_counts_128 : decode cX6_counts 128 = .ok (.goto (-93), 3) := by decide +kernel
theorem dX6_counts_131 : decode cX6_counts 131 = .ok (.iconst 0, 1) := by decide +kernel
theorem dX6_counts_132 : decode cX6_counts 132 = .ok (.istore 5, 2) := by decide +kernel
theorem dX6_counts_134 : decode cX6_counts 134 = .ok (.iconst 0, 1) := by decide +kernel
theorem dX6_counts_135 : decode cX6_counts 135 = .ok (.istore 6, 2) := by decide +kernel
theorem dX6_counts_137 : decode cX6_counts 137 = .ok (.iconst 0, 1) := by decide +kernel
theorem dX6_counts_138 : decode cX6_counts 138 = .ok (.istore 7, 2) := by decide +kernel
theorem dX6_counts_140 : decode cX6_counts 140 = .ok (.iconst 0, 1) := by decide +kernel
theorem dX6_counts_141 : decode cX6_counts 141 = .ok (.istore 8, 2) := by decide +kernel
theorem dX6_counts_143 : decode cX6_counts 143 = .ok (.iload 8, 2) := by decide +kernel
theorem dX6_counts_145 : decode cX6_counts 145 = .ok (.aload_n 0, 1) := by decide +kernel
theorem dX6_counts_146 : decode cX6_counts 146 = .ok (.getfield 7, 3) := by decide +kernel
theorem dX6_counts_149 : decode cX6_counts 149 = .ok (.aload_n 0, 1) := by decide +kernel
theorem dX6_counts_150 : decode cX6_counts 150 = .ok (.getfield 13, 3) := by decide +kernel
theorem dX6_counts_153 : decode cX6_counts 153 = .ok (.imul, 1) := by decide +kernel
theorem dX6_counts_154 : decode cX6_counts 154 = .ok (.if_icmp .ge 61, 3) := by decide +kernel
theorem dX6_counts_157 : decode cX6_counts 157 = .ok (.iload 5, 2) := by decide +kernel
theorem dX6_counts_159 : decode cX6_counts 159 = .ok (.aload_n 1, 1) := by decide +kernel
theorem dX6_counts_160 : decode cX6_counts 160 = .ok (.iload 8, 2) := by decide +kernel
theorem dX6_counts_162 : decode cX6_counts 162 = .ok (.iaload, 1) := by decide +kernel
theorem dX6_counts_163 : decode cX6_counts 163 = .ok (.ifCond .le 7, 3) := by decide +kernel
theorem dX6_counts_166 : decode cX6_counts 166 = .ok (.iconst 1, 1) := by decide +kernel
theorem dX6_counts_167 : decode cX6_counts 167 = .ok (.goto 4, 3) := by decide +kernel
theorem dX6_counts_170 : decode cX6_counts 170 = .ok (.iconst 0, 1) := by decide +kernel
theorem dX6_counts_171 : decode cX6_counts 171 = .ok (.iadd, 1) := by decide +kernel
theorem dX6_counts_172 : decode cX6_counts 172 = .ok (.istore 5, 2) := by decide +kernel
theorem dX6_counts_174 : decode cX6_counts 174 = .ok (.iload 6, 2) := by decide +kernel
theorem dX6_counts_176 : decode cX6_counts 176 = .ok (.aload_n 1, 1) := by decide +kernel
theorem dX6_counts_177 : decode cX6_counts 177 = .ok (.iload 8, 2) := by decide +kernel
theorem dX6_counts_179 : decode cX6_counts 179 = .ok (.iaload, 1) := by decide +kernel
theorem dX6_counts_180 : decode cX6_counts 180 = .ok (.invokestatic 73, 3) := by decide +kernel
theorem dX6_counts_183 : decode cX6_counts 183 = .ok (.istore 6, 2) := by decide +kernel
theorem dX6_counts_185 : decode cX6_counts 185 = .ok (.iload 7, 2) := by decide +kernel
theorem dX6_counts_187 : decode cX6_counts 187 = .ok (.aload_n 1, 1) := by decide +kernel
theorem dX6_counts_188 : decode cX6_counts 188 = .ok (.iload 8, 2) := by decide +kernel
theorem dX6_counts_190 : decode cX6_counts 190 = .ok (.iaload, 1) := by decide +kernel
theorem dX6_counts_191 : decode cX6_counts 191 = .ok (.ifCond .le 14, 3) := by decide +kernel
theorem dX6_counts_194 : decode cX6_counts 194 = .ok (.aload_n 2, 1) := by decide +kernel
theorem dX6_counts_195 : decode cX6_counts 195 = .ok (.iload 8, 2) := by decide +kernel
theorem dX6_counts_197 : decode cX6_counts 197 = .ok (.baload, 1) := by decide +kernel
theorem dX6_counts_198 : decode cX6_counts 198 = .ok (.ifCond .ne 7, 3) := by decide +kernel
theorem dX6_counts_201 : decode cX6_counts 201 = .ok (.iconst 1, 1) := by decide +kernel
theorem dX6_counts_202 : decode cX6_counts 202 = .ok (.goto 4, 3) := by decide +kernel
theorem dX6_counts_205 : decode cX6_counts 205 = .ok (.iconst 0, 1) := by decide +kernel
theorem dX6_counts_206 : decode cX6_counts 206 = .ok (.iadd, 1) := by decide +kernel
theorem dX6_counts_207 : decode cX6_counts 207 = .ok (.istore 7, 2) := by decide +kernel
theorem dX6_counts_209 : decode cX6_counts 209 = .ok (.iinc 8 1, 3) := by decide +kernel
theorem dX6_counts_212 : decode cX6_counts 212 = .ok (.goto (-69), 3) := by decide +kernel
theorem dX6_counts_215 : decode cX6_counts 215 = .ok (.bipush 11, 2) := by decide +kernel
theorem dX6_counts_217 : decode cX6_counts 217 = .ok (.newarray .int, 2) := by decide +kernel
theorem dX6_counts_219 : decode cX6_counts 219 = .ok (.dup, 1) := by decide +kernel
theorem dX6_counts_220 : decode cX6_counts 220 = .ok (.iconst 0, 1) := by decide +kernel
theorem dX6_counts_221 : decode cX6_counts 221 = .ok (.aload_n 0, 1) := by decide +kernel
theorem dX6_counts_222 : decode cX6_counts 222 = .ok (.getfield 36, 3) := by decide +kernel
theorem dX6_counts_225 : decode cX6_counts 225 = .ok (.iastore, 1) := by decide +kernel
theorem dX6_counts_226 : decode cX6_counts 226 = .ok (.dup, 1) := by decide +kernel
theorem dX6_counts_227 : decode cX6_counts 227 = .ok (.iconst 1, 1) := by decide +kernel
theorem dX6_counts_228 : decode cX6_counts 228 = .ok (.aload_n 0, 1) := by decide +kernel
theorem dX6_counts_229 : decode cX6_counts 229 = .ok (.getfield 7, 3) := by decide +kernel
theorem dX6_counts_232 : decode cX6_counts 232 = .ok (.iastore, 1) := by decide +kernel
theorem dX6_counts_233 : decode cX6_counts 233 = .ok (.dup, 1) := by decide +kernel
theorem dX6_counts_234 : decode cX6_counts 234 = .ok (.iconst 2, 1) := by decide +kernel
theorem dX6_counts_235 : decode cX6_counts 235 = .ok (.aload_n 0, 1) := by decide +kernel
theorem dX6_counts_236 : decode cX6_counts 236 = .ok (.getfield 13, 3) := by decide +kernel
theorem dX6_counts_239 : decode cX6_counts 239 = .ok (.iastore, 1) := by decide +kernel
theorem dX6_counts_240 : decode cX6_counts 240 = .ok (.dup, 1) := by decide +kernel
theorem dX6_counts_241 : decode cX6_counts 241 = .ok (.iconst 3, 1) := by decide +kernel
theorem dX6_counts_242 : decode cX6_counts 242 = .ok (.aload_n 0, 1) := by decide +kernel
theorem dX6_counts_243 : decode cX6_counts 243 = .ok (.invokevirtual 62, 3) := by decide +kernel
theorem dX6_counts_246 : decode cX6_counts 246 = .ok (.iastore, 1) := by decide +kernel
theorem dX6_counts_247 : decode cX6_counts 247 = .ok (.dup, 1) := by decide +kernel
theorem dX6_counts_248 : decode cX6_counts 248 = .ok (.iconst 4, 1) := by decide +kernel
theorem dX6_counts_249 : decode cX6_counts 249 = .ok (.aload_n 0, 1) := by decide +kernel
theorem dX6_counts_250 : decode cX6_counts 250 = .ok (.getfield 39, 3) := by decide +kernel
theorem dX6_counts_253 : decode cX6_counts 253 = .ok (.iastore, 1) := by decide +kernel
theorem dX6_counts_254 : decode cX6_counts 254 = .ok (.dup, 1) := by decide +kernel
theorem dX6_counts_255 : decode cX6_counts 255 = .ok (.iconst 5, 1) := by decide +kernel
theorem dX6_counts_256 : decode cX6_counts 256 = .ok (.aload_n 0, 1) := by decide +kernel
theorem dX6_counts_257 : decode cX6_counts 257 = .ok (.getfield 42, 3) := by decide +kernel
theorem dX6_counts_260 : decode cX6_counts 260 = .ok (.iastore, 1) := by decide +kernel
theorem dX6_counts_261 : decode cX6_counts 261 = .ok (.dup, 1) := by decide +kernel
theorem dX6_counts_262 : decode cX6_counts 262 = .ok (.bipush 6, 2) := by decide +kernel
theorem dX6_counts_264 : decode cX6_counts 264 = .ok (.aload_n 0, 1) := by decide +kernel
theorem dX6_counts_265 : decode cX6_counts 265 = .ok (.getfield 32, 3) := by decide +kernel
theorem dX6_counts_268 : decode cX6_counts 268 = .ok (.ifCond .eq 7, 3) := by decide +kernel
theorem dX6_counts_271 : decode cX6_counts 271 = .ok (.iconst 1, 1) := by decide +kernel
theorem dX6_counts_272 : decode cX6_counts 272 = .ok (.goto 4, 3) := by decide +kernel
theorem dX6_counts_275 : decode cX6_counts 275 = .ok (.iconst 0, 1) := by decide +kernel
theorem dX6_counts_276 : decode cX6_counts 276 = .ok (.iastore, 1) := by decide +kernel
theorem dX6_counts_277 : decode cX6_counts 277 = .ok (.dup, 1) := by decide +kernel
theorem dX6_counts_278 : decode cX6_counts 278 = .ok (.bipush 7, 2) := by decide +kernel
theorem dX6_counts_280 : decode cX6_counts 280 = .ok (.iload 5, 2) := by decide +kernel
theorem dX6_counts_282 : decode cX6_counts 282 = .ok (.iastore, 1) := by decide +kernel
theorem dX6_counts_283 : decode cX6_counts 283 = .ok (.dup, 1) := by decide +kernel
theorem dX6_counts_284 : decode cX6_counts 284 = .ok (.bipush 8, 2) := by decide +kernel
theorem dX6_counts_286 : decode cX6_counts 286 = .ok (.iload 6, 2) := by decide +kernel
theorem dX6_counts_288 : decode cX6_counts 288 = .ok (.iastore, 1) := by decide +kernel
theorem dX6_counts_289 : decode cX6_counts 289 = .ok (.dup, 1) := by decide +kernel
theorem dX6_counts_290 : decode cX6_counts 290 = .ok (.bipush 9, 2) := by decide +kernel
theorem dX6_counts_292 : decode cX6_counts 292 = .ok (.iload 7, 2) := by decide +kernel
theorem dX6_counts_294 : decode cX6_counts 294 = .ok (.iastore, 1) := by decide +kernel
theorem dX6_counts_295 : decode cX6_counts 295 = .ok (.dup, 1) := by decide +kernel
theorem dX6_counts_296 : decode cX6_counts 296 = .ok (.bipush 10, 2) := by decide +kernel
theorem dX6_counts_298 : decode cX6_counts 298 = .ok (.iload 4, 2) := by decide +kernel
theorem dX6_counts_300 : decode cX6_counts 300 = .ok (.iastore, 1) := by decide +kernel
theorem dX6_counts_301 : decode cX6_counts 301 = .ok (.areturn, 1) := by decide +kernel
theorem dX6_sum_0 : decode cX6_sum 0 = .ok (.iconst 0, 1) := by decide +kernel
theorem dX6_sum_1 : decode cX6_sum 1 = .ok (.istore_n 1, 1) := by decide +kernel
theorem dX6_sum_2 : decode cX6_sum 2 = .ok (.aload_n 0, 1) := by decide +kernel
theorem dX6_sum_3 : decode cX6_sum 3 = .ok (.getfield 26, 3) := by decide +kernel
theorem dX6_sum_6 : decode cX6_sum 6 = .ok (.astore_n 2, 1) := by decide +kernel
theorem dX6_sum_7 : decode cX6_sum 7 = .ok (.aload_n 2, 1) := by decide +kernel
theorem dX6_sum_8 : decode cX6_sum 8 = .ok (.arraylength, 1) := by decide +kernel
theorem dX6_sum_9 : decode cX6_sum 9 = .ok (.istore_n 3, 1) := by decide +kernel
theorem dX6_sum_10 : decode cX6_sum 10 = .ok (.iconst 0, 1) := by decide +kernel
theorem dX6_sum_11 : decode cX6_sum 11 = .ok (.istore 4, 2) := by decide +kernel
theorem dX6_sum_13 : decode cX6_sum 13 = .ok (.iload 4, 2) := by decide +kernel
theorem dX6_sum_15 : decode cX6_sum 15 = .ok (.iload_n 3, 1) := by decide +kernel
theorem dX6_sum_16 : decode cX6_sum 16 = .ok (.if_icmp .ge 56, 3) := by decide +kernel
theorem dX6_sum_19 : decode cX6_sum 19 = .ok (.aload_n 2, 1) := by decide +kernel
theorem dX6_sum_20 : decode cX6_sum 20 = .ok (.iload 4, 2) := by decide +kernel
theorem dX6_sum_22 : decode cX6_sum 22 = .ok (.aaload, 1) := by decide +kernel
theorem dX6_sum_23 : decode cX6_sum 23 = .ok (.astore 5, 2) := by decide +kernel
theorem dX6_sum_25 : decode cX6_sum 25 = .ok (.aload 5, 2) := by decide +kernel
theorem dX6_sum_27 : decode cX6_sum 27 = .ok (.astore 6, 2) := by decide +kernel
theorem dX6_sum_29 : decode cX6_sum 29 = .ok (.aload 6, 2) := by decide +kernel
theorem dX6_sum_31 : decode cX6_sum 31 = .ok (.arraylength, 1) := by decide +kernel
theorem dX6_sum_32 : decode cX6_sum 32 = .ok (.istore 7, 2) := by decide +kernel
theorem dX6_sum_34 : decode cX6_sum 34 = .ok (.iconst 0, 1) := by decide +kernel
theorem dX6_sum_35 : decode cX6_sum 35 = .ok (.istore 8, 2) := by decide +kernel
theorem dX6_sum_37 : decode cX6_sum 37 = .ok (.iload 8, 2) := by decide +kernel
theorem dX6_sum_39 : decode cX6_sum 39 = .ok (.iload 7, 2) := by decide +kernel
theorem dX6_sum_41 : decode cX6_sum 41 = .ok (.if_icmp .ge 25, 3) := by decide +kernel
theorem dX6_sum_44 : decode cX6_sum 44 = .ok (.aload 6, 2) := by decide +kernel
theorem dX6_sum_46 : decode cX6_sum 46 = .ok (.iload 8, 2) := by decide +kernel
theorem dX6_sum_48 : decode cX6_sum 48 = .ok (.iaload, 1) := by decide +kernel
theorem dX6_sum_49 : decode cX6_sum 49 = .ok (.istore 9, 2) := by decide +kernel
theorem dX6_sum_51 : decode cX6_sum 51 = .ok (.iload_n 1, 1) := by decide +kernel
theorem dX6_sum_52 : decode cX6_sum 52 = .ok (.iconst 0, 1) := by decide +kernel
theorem dX6_sum_53 : decode cX6_sum 53 = .ok (.iload 9, 2) := by decide +kernel
theorem dX6_sum_55 : decode cX6_sum 55 = .ok (.invokestatic 73, 3) := by decide +kernel
theorem dX6_sum_58 : decode cX6_sum 58 = .ok (.iadd, 1) := by decide +kernel
theorem dX6_sum_59 : decode cX6_sum 59 = .ok (.istore_n 1, 1) := by decide +kernel
theorem dX6_sum_60 : decode cX6_sum 60 = .ok (.iinc 8 1, 3) := by decide +kernel
theorem dX6_sum_63 : decode cX6_sum 63 = .ok (.goto (-26), 3) := by decide +kernel
theorem dX6_sum_66 : decode cX6_sum 66 = .ok (.iinc 4 1, 3) := by decide +kernel
theorem dX6_sum_69 : decode cX6_sum 69 = .ok (.goto (-56), 3) := by decide +kernel
theorem dX6_sum_72 : decode cX6_sum 72 = .ok (.iload_n 1, 1) := by decide +kernel
theorem dX6_sum_73 : decode cX6_sum 73 = .ok (.ireturn, 1) := by decide +kernel
set_option maxRecDepth 20000 in
theorem ggX6_isSame_X6_counts : GoodIn wsX6_isSame wsX6_counts := goodIn_r _ [9, 1, 2, 3, 10, 4, 11, 12, 13, 14, 15, 16, 17, 18, 19, 20, 21, 8, 22, 23, 24, 25, 26, 27, 28, 29, 30, 31, 32, 33, 34, 35, 36, 37, 38, 39, 40, 41, 42, 43, 44, 267, 268, 269, 270, 271, 272, 273, 274, 275] (by decide +kernel) (by decide +kernel)
set_option maxRecDepth 20000 in
theorem gX6_isSame_X6_counts : GoodIn wsX6_isSame (wsV RX6 78 RX6 yX6_counts wsX6_counts) := goodIn_app (goodIn_of _ (by decide +kernel)) ggX6_isSame_X6_counts
set_option maxRecDepth 20000 in
theorem ggX6_isSame_X5_count : GoodIn wsX6_isSame wsX5_count := goodIn_ca (goodIn_r _ [49, 50, 51, 52, 53, 54, 55, 48, 56, 57, 58, 59, 60, 61, 62, 63, 64, 65, 66, 67, 68, 69, 70, 71, 72, 73, 74, 75, 76, 77, 78, 79, 80, 81, 82, 83, 84, 85, 86, 87, 88, 89, 90, 91, 92, 93, 94, 95, 96, 97, 98, 99, 100, 101, 102, 103, 104, 105, 106, 107, 108, 109, 110, 111, 112, 113, 114, 115, 116, 117, 118, 119, 120, 121, 122, 123, 124, 125, 126, 127, 128, 129, 130, 131, 132, 133, 134, 135, 136, 137, 138, 139, 140, 141, 142, 143, 144, 145, 146, 147, 148, 149, 150, 151, 152, 153, 154, 12, 13, 14, 155, 156, 157, 158, 159, 160, 161, 162, 163, 164, 165, 166, 167, 168, 169, 170, 171, 172, 173, 174, 175, 176, 177, 178, 179, 180, 181, 182, 183, 184, 185, 186, 187, 188, 189, 190, 191, 192, 193, 194, 195, 196, 197, 198, 199, 200, 201, 202, 276, 277, 278, 279, 280, 281, 282, 283, 284, 285, 286, 287, 288, 289, 290, 291, 292, 293, 294, 295, 296, 297, 298, 299, 300, 301, 302, 303] (by decide +kernel) (by decide +kernel)) (goodIn_sub (fun _ h => List.mem_cons_of_mem _ (List.mem_append_right _ h)) (by decide +kernel))
set_option maxRecDepth 20000 in
theorem gX6_isSame_X5_count : GoodIn wsX6_isSame (wsV RX6 82 RX5 yX5_count wsX5_count) := goodIn_app (goodIn_of _ (by decide +kernel)) ggX6_isSame_X5_count
set_option maxRecDepth 20000 in
theorem ggX6_isSame_X6_lawns : GoodIn wsX6_isSame wsX6_lawns := goodIn_r _ [22, 1, 2, 18, 23, 24, 8, 25, 26, 3, 27, 28, 29, 30, 4, 267, 268, 269, 270, 271, 272, 273, 274, 275] (by decide +kernel) (by decide +kernel)
set_option maxRecDepth 20000 in
theorem gX6_isSame_X6_lawns : GoodIn wsX6_isSame (wsV RX6 69 RX6 yX6_lawns wsX6_lawns) := goodIn_app (goodIn_of _ (by decide +kernel)) ggX6_isSame_X6_lawns
set_option maxRecDepth 20000 in
theorem ggX6_isSame_X6_has : GoodIn wsX6_isSame wsX6_has := goodIn_r _ [30, 18, 4, 2, 1, 267, 268, 269, 270, 271, 272, 273, 274, 275] (by decide +kernel) (by decide +kernel)
set_option maxRecDepth 20000 in
theorem gX6_isSame_X6_has : GoodIn wsX6_isSame (wsV RX6 51 RX6 yX6_has wsX6_has) := goodIn_app (goodIn_of _ (by decide +kernel)) ggX6_isSame_X6_has
set_option maxRecDepth 20000 in
theorem ggX6_isSame_X6_near : GoodIn wsX6_isSame wsX6_near := goodIn_r _ [40, 27, 28, 29, 8, 30, 18, 4, 2, 1, 267, 268, 269, 270, 271, 272, 273, 274, 275] (by decide +kernel) (by decide +kernel)
set_option maxRecDepth 20000 in
theorem gX6_isSame_X6_near : GoodIn wsX6_isSame (wsV RX6 55 RX6 yX6_near wsX6_near) := goodIn_app (goodIn_of _ (by decide +kernel)) ggX6_isSame_X6_near
set_option maxRecDepth 20000 in
theorem ggX6_isSame_X6_comes : GoodIn wsX6_isSame wsX6_comes := goodIn_r _ [34, 35, 36, 27, 28, 29, 8, 30, 18, 4, 2, 1, 37, 38, 39, 40, 267, 268, 269, 270, 271, 272, 273, 274, 275] (by decide +kernel) (by decide +kernel)
set_option maxRecDepth 20000 in
theorem gX6_isSame_X6_comes : GoodIn wsX6_isSame (wsV RX6 59 RX6 yX6_comes wsX6_comes) := goodIn_app (goodIn_of _ (by decide +kernel)) ggX6_isSame_X6_comes
set_option maxRecDepth 20000 in
theorem ggX6_isSame_X5_told : GoodIn wsX6_isSame wsX5_told := goodIn_ca (goodIn_r _ [206, 50, 51, 57, 207, 208, 209, 67, 210, 69, 74, 211, 212, 213, 48, 214, 52, 215, 216, 217, 218, 219, 220, 221, 61, 222, 79, 223, 224, 225, 226, 227, 228, 229, 163, 230, 165, 166, 168, 169, 170, 171, 172, 173, 174, 175, 176, 177, 141, 142, 143, 144, 121, 101, 178, 146, 147, 148, 149, 179, 131, 132, 133, 134, 180, 181, 182, 183, 184, 136, 137, 138, 139, 231, 232, 233, 234, 235, 236, 237, 238, 239, 240, 241, 202, 242, 113, 114, 115, 110, 116, 117, 118, 119, 120, 243, 123, 124, 125, 126, 127, 128, 129, 130, 135, 140, 145, 244, 81, 82, 83, 84, 85, 86, 245, 246, 247, 248, 249, 161, 162, 164, 167, 185, 186, 187, 188, 189, 190, 191, 192, 193, 194, 195, 196, 197, 250, 251, 252, 253, 254, 276, 277, 278, 279, 280, 288, 289, 290, 291, 292, 293, 294, 295, 281, 282, 283, 284, 285, 286, 287, 296, 297, 298, 299, 300, 301, 302, 303] (by decide +kernel) (by decide +kernel)) (goodIn_sub (fun _ h => List.mem_cons_of_mem _ (List.mem_append_right _ h)) (by decide +kernel))
set_option maxRecDepth 20000 in
theorem gX6_isSame_X5_told : GoodIn wsX6_isSame (wsV RX6 88 RX5 yX5_told wsX5_told) := goodIn_app (goodIn_of _ (by decide +kernel)) ggX6_isSame_X5_told
set_option maxRecDepth 20000 in
theorem ggX6_isSame_X5_mean : GoodIn wsX6_isSame wsX5_mean := goodIn_r _ [258, 52, 75, 76, 77, 61, 78, 79, 80, 81, 82, 83, 84, 85, 86, 259, 260, 261, 262, 202, 276, 277, 278, 279, 280, 281, 282, 283, 284, 285, 286, 287] (by decide +kernel) (by decide +kernel)
set_option maxRecDepth 20000 in
theorem gX6_isSame_X5_mean : GoodIn wsX6_isSame (wsV RX6 92 RX5 yX5_mean wsX5_mean) := goodIn_app (goodIn_of _ (by decide +kernel)) ggX6_isSame_X5_mean
set_option maxRecDepth 20000 in
theorem ggX6_isSame_X6_sum : GoodIn wsX6_isSame wsX6_sum := goodIn_r _ [266, 4, 11, 12, 13, 14, 267, 268, 269, 270, 271, 272, 273, 274, 275] (by decide +kernel) (by decide +kernel)
set_option maxRecDepth 20000 in
theorem gX6_isSame_X6_sum : GoodIn wsX6_isSame (wsV RX6 96 RX6 yX6_sum wsX6_sum) := goodIn_app (goodIn_of _ (by decide +kernel)) ggX6_isSame_X6_sum
theorem dX6_isSame_0 : decode cX6_isSame 0 = .ok (.aload_n 0, 1) := by decide +kernel
theorem dX6_isSame_1 : decode cX6_isSame 1 = .ok (.invokevirtual 78, 3) := by decide +kernel
theorem dX6_isSame_4 : decode cX6_isSame 4 = .ok (.astore_n 2, 1) := by decide +kernel
theorem dX6_isSame_5 : decode cX6_isSame 5 = .ok (.iconst 0, 1) := by decide +kernel
theorem dX6_isSame_6 : decode cX6_isSame 6 = .ok (.istore_n 3, 1) := by decide +kernel
theorem dX6_isSame_7 : decode cX6_isSame 7 = .ok (.iload_n 3, 1) := by decide +kernel
theorem dX6_isSame_8 : decode cX6_isSame 8 = .ok (.bipush 11, 2) := by decide +kernel
theorem dX6_isSame_10 : decode cX6_isSame 10 = .ok (.if_icmp .ge 22, 3) := by decide +kernel
theorem dX6_isSame_13 : decode cX6_isSame 13 = .ok (.aload_n 1, 1) := by decide +kernel
theorem dX6_isSame_14 : decode cX6_isSame 14 = .ok (.iload_n 3, 1) := by decide +kernel
theorem dX6_isSame_15 : decode cX6_isSame 15 = .ok (.invokevirtual 82, 3) := by decide +kernel
theorem dX6_isSame_18 : decode cX6_isSame 18 = .ok (.aload_n 2, 1) := by decide +kernel
theorem dX6_isSame_19 : decode cX6_isSame 19 = .ok (.iload_n 3, 1) := by decide +kernel
theorem dX6_isSame_20 : decode cX6_isSame 20 = .ok (.iaload, 1) := by decide +kernel
theorem dX6_isSame_21 : decode cX6_isSame 21 = .ok (.if_icmp .eq 5, 3) := by decide +kernel
theorem dX6_isSame_24 : decode cX6_isSame 24 = .ok (.iconst 0, 1) := by decide +kernel
theorem dX6_isSame_25 : decode cX6_isSame 25 = .ok (.ireturn, 1) := by decide +kernel
theorem dX6_isSame_26 : decode cX6_isSame 26 = .ok (.iinc 3 1, 3) := by decide +kernel
theorem dX6_isSame_29 : decode cX6_isSame 29 = .ok (.goto (-22), 3) := by decide +kernel
theorem dX6_isSame_32 : decode cX6_isSame 32 = .ok (.aload_n 0, 1) := by decide +kernel
theorem dX6_isSame_33 : decode cX6_isSame 33 = .ok (.invokevirtual 69, 3) := by decide +kernel
theorem dX6_isSame_36 : decode cX6_isSame 36 = .ok (.astore_n 3, 1) := by decide +kernel
theorem dX6_isSame_37 : decode cX6_isSame 37 = .ok (.aload_n 0, 1) := by decide +kernel
theorem dX6_isSame_38 : decode cX6_isSame 38 = .ok (.getfield 7, 3) := by decide +kernel
theorem dX6_isSame_41 : decode cX6_isSame 41 = .ok (.aload_n 0, 1) := by decide +kernel
theorem dX6_isSame_42 : decode cX6_isSame 42 = .ok (.getfield 13, 3) := by decide +kernel
theorem dX6_isSame_45 : decode cX6_isSame 45 = .ok (.imul, 1) := by decide +kernel
theorem dX6_isSame_46 : decode cX6_isSame 46 = .ok (.newarray .int, 2) := by decide +kernel
theorem dX6_isSame_48 : decode cX6_isSame 48 = .ok (.astore 4, 2) := by decide +kernel
theorem dX6_isSame_50 : decode cX6_isSame 50 = .ok (.aload_n 3, 1) := by decide +kernel
theorem dX6_isSame_51 : decode cX6_isSame 51 = .ok (.astore 5, 2) := by decide +kernel
theorem dX6_isSame_53 : decode cX6_isSame 53 = .ok (.aload 5, 2) := by decide +kernel
theorem dX6_isSame_55 : decode cX6_isSame 55 = .ok (.arraylength, 1) := by decide +kernel
theorem dX6_isSame_56 : decode cX6_isSame 56 = .ok (.istore 6, 2) := by decide +kernel
theorem dX6_isSame_58 : decode cX6_isSame 58 = .ok (.iconst 0, 1) := by decide +kernel
theorem dX6_isSame_59 : decode cX6_isSame 59 = .ok (.istore 7, 2) := by decide +kernel
theorem dX6_isSame_61 : decode cX6_isSame 61 = .ok (.iload 7, 2) := by decide +kernel
theorem dX6_isSame_63 : decode cX6_isSame 63 = .ok (.iload 6, 2) := by decide +kernel
theorem dX6_isSame_65 : decode cX6_isSame 65 = .ok (.if_icmp .ge 62, 3) := by decide +kernel
theorem dX6_isSame_68 : decode cX6_isSame 68 = .ok (.aload 5, 2) := by decide +kernel
theorem dX6_isSame_70 : decode cX6_isSame 70 = .ok (.iload 7, 2) := by decide +kernel
theorem dX6_isSame_72 : decode cX6_isSame 72 = .ok (.aaload, 1) := by decide +kernel
theorem dX6_isSame_73 : decode cX6_isSame 73 = .ok (.astore 8, 2) := by decide +kernel
theorem dX6_isSame_75 : decode cX6_isSame 75 = .ok (.aload 8, 2) := by decide +kernel
theorem dX6_isSame_77 : decode cX6_isSame 77 = .ok (.astore 9, 2) := by decide +kernel
theorem dX6_isSame_79 : decode cX6_isSame 79 = .ok (.aload 9, 2) := by decide +kernel
theorem dX6_isSame_81 : decode cX6_isSame 81 = .ok (.arraylength, 1) := by decide +kernel
theorem dX6_isSame_82 : decode cX6_isSame 82 = .ok (.istore 10, 2) := by decide +kernel
theorem dX6_isSame_84 : decode cX6_isSame 84 = .ok (.iconst 0, 1) := by decide +kernel
theorem dX6_isSame_85 : decode cX6_isSame 85 = .ok (.istore 11, 2) := by decide +kernel
theorem dX6_isSame_87 : decode cX6_isSame 87 = .ok (.iload 11, 2) := by decide +kernel
theorem dX6_isSame_89 : decode cX6_isSame 89 = .ok (.iload 10, 2) := by decide +kernel
theorem dX6_isSame_91 : decode cX6_isSame 91 = .ok (.if_icmp .ge 30, 3) := by decide +kernel
theorem dX6_isSame_94 : decode cX6_isSame 94 = .ok (.aload 9, 2) := by decide +kernel
theorem dX6_isSame_96 : decode cX6_isSame 96 = .ok (.iload 11, 2) := by decide +kernel
theorem dX6_isSame_98 : decode cX6_isSame 98 = .ok (.iaload, 1) := by decide +kernel
theorem dX6_isSame_99 : decode cX6_isSame 99 = .ok (.istore 12, 2) := by decide +kernel
theorem dX6_isSame_101 : decode cX6_isSame 101 = .ok (.iload 12, 2) := by decide +kernel
theorem dX6_isSame_103 : decode cX6_isSame 103 = .ok (.ifCond .lt 12, 3) := by decide +kernel
theorem dX6_isSame_106 : decode cX6_isSame 106 = .ok (.aload 4, 2) := by decide +kernel
theorem dX6_isSame_108 : decode cX6_isSame 108 = .ok (.iload 12, 2) := by decide +kernel
theorem dX6_isSame_110 : decode cX6_isSame 110 = .ok (.dup2, 1) := by decide +kernel
theorem dX6_isSame_111 : decode cX6_isSame 111 = .ok (.iaload, 1) := by decide +kernel
theorem dX6_isSame_112 : decode cX6_isSame 112 = .ok (.iconst 1, 1) := by decide +kernel
theorem dX6_isSame_113 : decode cX6_isSame 113 = .ok (.iadd, 1) := by decide +kernel
theorem dX6_isSame_114 : decode cX6_isSame 114 = .ok (.iastore, 1) := by decide +kernel
theorem dX6_isSame_115 : decode cX6_isSame 115 = .ok (.iinc 11 1, 3) := by decide +kernel
theorem dX6_isSame_118 : decode cX6_isSame 118 = .ok (.goto (-31), 3) := by decide +kernel
theorem dX6_isSame_121 : decode cX6_isSame 121 = .ok (.iinc 7 1, 3) := by decide +kernel
theorem dX6_isSame_124 : decode cX6_isSame 124 = .ok (.goto (-63), 3) := by decide +kernel
theorem dX6_isSame_127 : decode cX6_isSame 127 = .ok (.iconst 0, 1) := by decide +kernel
theorem dX6_isSame_128 : decode cX6_isSame 128 = .ok (.istore 5, 2) := by decide +kernel
theorem dX6_isSame_130 : decode cX6_isSame 130 = .ok (.iload 5, 2) := by decide +kernel
theorem dX6_isSame_132 : decode cX6_isSame 132 = .ok (.aload_n 0, 1) := by decide +kernel
theorem dX6_isSame_133 : decode cX6_isSame 133 = .ok (.getfield 13, 3) := by decide +kernel
theorem dX6_isSame_136 : decode cX6_isSame 136 = .ok (.if_icmp .ge 156, 3) := by decide +kernel
theorem dX6_isSame_139 : decode cX6_isSame 139 = .ok (.iconst 0, 1) := by decide +kernel
theorem dX6_isSame_140 : decode cX6_isSame 140 = .ok (.istore 6, 2) := by decide +kernel
theorem dX6_isSame_142 : decode cX6_isSame 142 = .ok (.iload 6, 2) := by decide +kernel
theorem dX6_isSame_144 : decode cX6_isSame 144 = .ok (.aload_n 0, 1) := by decide +kernel
theorem dX6_isSame_145 : decode cX6_isSame 145 = .ok (.getfield 7, 3) := by decide +kernel
theorem dX6_isSame_148 : decode cX6_isSame 148 = .ok (.if_icmp .ge 138, 3) := by decide +kernel
theorem dX6_isSame_151 : decode cX6_isSame 151 = .ok (.iconst 5, 1) := by decide +kernel
theorem dX6_isSame_152 : decode cX6_isSame 152 = .ok (.newarray .int, 2) := by decide +kernel
theorem dX6_isSame_154 : decode cX6_isSame 154 = .ok (.dup, 1) := by decide +kernel
theorem dX6_isSame_155 : decode cX6_isSame 155 = .ok (.iconst 0, 1) := by decide +kernel
theorem dX6_isSame_156 : decode cX6_isSame 156 = .ok (.aload_n 0, 1) := by decide +kernel
theorem dX6_isSame_157 : decode cX6_isSame 157 = .ok (.iload 6, 2) := by decide +kernel
theorem dX6_isSame_159 : decode cX6_isSame 159 = .ok (.iload 5, 2) := by decide +kernel
theorem dX6_isSame_161 : decode cX6_isSame 161 = .ok (.invokevirtual 51, 3) := by decide +kernel
theorem dX6_isSame_164 : decode cX6_isSame 164 = .ok (.ifCond .eq 7, 3) := by decide +kernel
theorem dX6_isSame_167 : decode cX6_isSame 167 = .ok (.iconst 1, 1) := by decide +kernel
theorem dX6_isSame_168 : decode cX6_isSame 168 = .ok (.goto 4, 3) := by decide +kernel
theorem dX6_isSame_171 : decode cX6_isSame 171 = .ok (.iconst 0, 1) := by decide +kernel
theorem dX6_isSame_172 : decode cX6_isSame 172 = .ok (.iastore, 1) := by decide +kernel
theorem dX6_isSame_173 : decode cX6_isSame 173 = .ok (.dup, 1) := by decide +kernel
theorem dX6_isSame_174 : decode cX6_isSame 174 = .ok (.iconst 1, 1) := by decide +kernel
theorem dX6_isSame_175 : decode cX6_isSame 175 = .ok (.aload_n 0, 1) := by decide +kernel
theorem dX6_isSame_176 : decode cX6_isSame 176 = .ok (.iload 6, 2) := by decide +kernel
theorem dX6_isSame_178 : decode cX6_isSame 178 = .ok (.iload 5, 2) := by decide +kernel
theorem dX6_isSame_180 : decode cX6_isSame 180 = .ok (.invokevirtual 55, 3) := by decide +kernel
theorem dX6_isSame_183 : decode cX6_isSame 183 = .ok (.iastore, 1) := by decide +kernel
theorem dX6_isSame_184 : decode cX6_isSame 184 = .ok (.dup, 1) := by decide +kernel
theorem dX6_isSame_185 : decode cX6_isSame 185 = .ok (.iconst 2, 1) := by decide +kernel
theorem dX6_isSame_186 : decode cX6_isSame 186 = .ok (.aload_n 0, 1) := by decide +kernel
theorem dX6_isSame_187 : decode cX6_isSame 187 = .ok (.getfield 26, 3) := by decide +kernel
theorem dX6_isSame_190 : decode cX6_isSame 190 = .ok (.iload 5, 2) := by decide +kernel
theorem dX6_isSame_192 : decode cX6_isSame 192 = .ok (.aaload, 1) := by decide +kernel
theorem dX6_isSame_193 : decode cX6_isSame 193 = .ok (.iload 6, 2) := by decide +kernel
theorem dX6_isSame_195 : decode cX6_isSame 195 = .ok (.iaload, 1) := by decide +kernel
theorem dX6_isSame_196 : decode cX6_isSame 196 = .ok (.iastore, 1) := by decide +kernel
theorem dX6_isSame_197 : decode cX6_isSame 197 = .ok (.dup, 1) := by decide +kernel
theorem dX6_isSame_198 : decode cX6_isSame 198 = .ok (.iconst 3, 1) := by decide +kernel
theorem dX6_isSame_199 : decode cX6_isSame 199 = .ok (.aload_n 3, 1) := by decide +kernel
theorem dX6_isSame_200 : decode cX6_isSame 200 = .ok (.iload 5, 2) := by decide +kernel
theorem dX6_isSame_202 : decode cX6_isSame 202 = .ok (.aaload, 1) := by decide +kernel
theorem dX6_isSame_203 : decode cX6_isSame 203 = .ok (.iload 6, 2) := by decide +kernel
theorem dX6_isSame_205 : decode cX6_isSame 205 = .ok (.iaload, 1) := by decide +kernel
theorem dX6_isSame_206 : decode cX6_isSame 206 = .ok (.ifCond .ge 7, 3) := by decide +kernel
theorem dX6_isSame_209 : decode cX6_isSame 209 = .ok (.iconst 0, 1) := by decide +kernel
theorem dX6_isSame_210 : decode cX6_isSame 210 = .ok (.goto 13, 3) := by decide +kernel
theorem dX6_isSame_213 : decode cX6_isSame 213 = .ok (.aload 4, 2) := by decide +kernel
theorem dX6_isSame_215 : decode cX6_isSame 215 = .ok (.aload_n 3, 1) := by decide +kernel
theorem dX6_isSame_216 : decode cX6_isSame 216 = .ok (.iload 5, 2) := by decide +kernel
theorem dX6_isSame_218 : decode cX6_isSame 218 = .ok (.aaload, 1) := by decide +kernel
theorem dX6_isSame_219 : decode cX6_isSame 219 = .ok (.iload 6, 2) := by decide +kernel
theorem dX6_isSame_221 : decode cX6_isSame 221 = .ok (.iaload, 1) := by decide +kernel
theorem dX6_isSame_222 : decode cX6_isSame 222 = .ok (.iaload, 1) := by decide +kernel
theorem dX6_isSame_223 : decode cX6_isSame 223 = .ok (.iastore, 1) := by decide +kernel
theorem dX6_isSame_224 : decode cX6_isSame 224 = .ok (.dup, 1) := by decide +kernel
theorem dX6_isSame_225 : decode cX6_isSame 225 = .ok (.iconst 4, 1) := by decide +kernel
theorem dX6_isSame_226 : decode cX6_isSame 226 = .ok (.aload_n 0, 1) := by decide +kernel
theorem dX6_isSame_227 : decode cX6_isSame 227 = .ok (.iload 6, 2) := by decide +kernel
theorem dX6_isSame_229 : decode cX6_isSame 229 = .ok (.iload 5, 2) := by decide +kernel
theorem dX6_isSame_231 : decode cX6_isSame 231 = .ok (.invokevirtual 59, 3) := by decide +kernel
theorem dX6_isSame_234 : decode cX6_isSame 234 = .ok (.ifCond .eq 7, 3) := by decide +kernel
theorem dX6_isSame_237 : decode cX6_isSame 237 = .ok (.iconst 1, 1) := by decide +kernel
theorem dX6_isSame_238 : decode cX6_isSame 238 = .ok (.goto 4, 3) := by decide +kernel
theorem dX6_isSame_241 : decode cX6_isSame 241 = .ok (.iconst 0, 1) := by decide +kernel
theorem dX6_isSame_242 : decode cX6_isSame 242 = .ok (.iastore, 1) := by decide +kernel
theorem dX6_isSame_243 : decode cX6_isSame 243 = .ok (.astore 7, 2) := by decide +kernel
theorem dX6_isSame_245 : decode cX6_isSame 245 = .ok (.iconst 0, 1) := by decide +kernel
theorem dX6_isSame_246 : decode cX6_isSame 246 = .ok (.istore 8, 2) := by decide +kernel
theorem dX6_isSame_248 : decode cX6_isSame 248 = .ok (.iload 8, 2) := by decide +kernel
theorem dX6_isSame_250 : decode cX6_isSame 250 = .ok (.iconst 5, 1) := by decide +kernel
theorem dX6_isSame_251 : decode cX6_isSame 251 = .ok (.if_icmp .ge 29, 3) := by decide +kernel
theorem dX6_isSame_254 : decode cX6_isSame 254 = .ok (.aload_n 1, 1) := by decide +kernel
theorem dX6_isSame_255 : decode cX6_isSame 255 = .ok (.iload 6, 2) := by decide +kernel
theorem dX6_isSame_257 : decode cX6_isSame 257 = .ok (.iload 5, 2) := by decide +kernel
theorem dX6_isSame_259 : decode cX6_isSame 259 = .ok (.iload 8, 2) := by decide +kernel
theorem dX6_isSame_261 : decode cX6_isSame 261 = .ok (.invokevirtual 88, 3) := by decide +kernel
theorem dX6_isSame_264 : decode cX6_isSame 264 = .ok (.aload 7, 2) := by decide +kernel
theorem dX6_isSame_266 : decode cX6_isSame 266 = .ok (.iload 8, 2) := by decide +kernel
theorem dX6_isSame_268 : decode cX6_isSame 268 = .ok (.iaload, 1) := by decide +kernel
theorem dX6_isSame_269 : decode cX6_isSame 269 = .ok (.if_icmp .eq 5, 3) := by decide +kernel
theorem dX6_isSame_272 : decode cX6_isSame 272 = .ok (.iconst 0, 1) := by decide +kernel
theorem dX6_isSame_273 : decode cX6_isSame 273 = .ok (.ireturn, 1) := by decide +kernel
theorem dX6_isSame_274 : decode cX6_isSame 274 = .ok (.iinc 8 1, 3) := by decide +kernel
theorem dX6_isSame_277 : decode cX6_isSame 277 = .ok (.goto (-29), 3) := by decide +kernel
theorem dX6_isSame_280 : decode cX6_isSame 280 = .ok (.iinc 6 1, 3) := by decide +kernel
theorem dX6_isSame_283 : decode cX6_isSame 283 = .ok (.goto (-141), 3) := by decide +kernel
theorem dX6_isSame_286 : decode cX6_isSame 286 = .ok (.iinc 5 1, 3) := by decide +kernel
theorem dX6_isSame_289 : decode cX6_isSame 289 = .ok (.goto (-159), 3) := by decide +kernel
theorem dX6_isSame_292 : decode cX6_isSame 292 = .ok (.aload_n 1, 1) := by decide +kernel
theorem dX6_isSame_293 : decode cX6_isSame 293 = .ok (.invokevirtual 92, 3) := by decide +kernel
theorem dX6_isSame_296 : decode cX6_isSame 296 = .ok (.aload_n 2, 1) := by decide +kernel
theorem dX6_isSame_297 : decode cX6_isSame 297 = .ok (.iconst 3, 1) := by decide +kernel
theorem dX6_isSame_298 : decode cX6_isSame 298 = .ok (.iaload, 1) := by decide +kernel
theorem dX6_isSame_299 : decode cX6_isSame 299 = .ok (.ifCond .ne 7, 3) := by decide +kernel
theorem dX6_isSame_302 : decode cX6_isSame 302 = .ok (.dconst 0, 1) := by decide +kernel
theorem dX6_isSame_303 : decode cX6_isSame 303 = .ok (.goto 13, 3) := by decide +kernel
theorem dX6_isSame_306 : decode cX6_isSame 306 = .ok (.aload_n 0, 1) := by decide +kernel
theorem dX6_isSame_307 : decode cX6_isSame 307 = .ok (.invokevirtual 96, 3) := by decide +kernel
theorem dX6_isSame_310 : decode cX6_isSame 310 = .ok (.i2d, 1) := by decide +kernel
theorem dX6_isSame_311 : decode cX6_isSame 311 = .ok (.aload_n 2, 1) := by decide +kernel
theorem dX6_isSame_312 : decode cX6_isSame 312 = .ok (.iconst 3, 1) := by decide +kernel
theorem dX6_isSame_313 : decode cX6_isSame 313 = .ok (.iaload, 1) := by decide +kernel
theorem dX6_isSame_314 : decode cX6_isSame 314 = .ok (.i2d, 1) := by decide +kernel
theorem dX6_isSame_315 : decode cX6_isSame 315 = .ok (.ddiv, 1) := by decide +kernel
theorem dX6_isSame_316 : decode cX6_isSame 316 = .ok (.dcmp .l, 1) := by decide +kernel
theorem dX6_isSame_317 : decode cX6_isSame 317 = .ok (.ifCond .ne 7, 3) := by decide +kernel
