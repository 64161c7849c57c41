theorem dX2_oldest_4 : decode cX2_oldest 4 = .ok (.iload_n 2, 1) := by decide +kernel
theorem dX2_oldest_5 : decode cX2_oldest 5 = .ok (.aload_n 0, 1) := by decide +kernel
theorem dX2_oldest_6 : decode cX2_oldest 6 = .ok (.getfield 9, 3) := by decide +kernel
theorem dX2_oldest_9 : decode cX2_oldest 9 = .ok (.arraylength, 1) := by decide +kernel
theorem dX2_oldest_10 : decode cX2_oldest 10 = .ok (.if_icmp .ge 39, 3) := by decide +kernel
theorem dX2_oldest_13 : decode cX2_oldest 13 = .ok (.aload_n 0, 1) := by decide +kernel
theorem dX2_oldest_14 : decode cX2_oldest 14 = .ok (.getfield 23, 3) := by decide +kernel
theorem dX2_oldest_17 : decode cX2_oldest 17 = .ok (.iload_n 2, 1) := by decide +kernel
theorem dX2_oldest_18 : decode cX2_oldest 18 = .ok (.lushr, 1) := by decide +kernel
theorem dX2_oldest_19 : decode cX2_oldest 19 = .ok (.lconst 1, 1) := by decide +kernel
theorem dX2_oldest_20 : decode cX2_oldest 20 = .ok (.land, 1) := by decide +kernel
theorem dX2_oldest_21 : decode cX2_oldest 21 = .ok (.lconst 0, 1) := by decide +kernel
theorem dX2_oldest_22 : decode cX2_oldest 22 = .ok (.lcmp, 1) := by decide +kernel
theorem dX2_oldest_23 : decode cX2_oldest 23 = .ok (.ifCond .eq 20, 3) := by decide +kernel
theorem dX2_oldest_26 : decode cX2_oldest 26 = .ok (.aload_n 0, 1) := by decide +kernel
theorem dX2_oldest_27 : decode cX2_oldest 27 = .ok (.getfield 9, 3) := by decide +kernel
theorem dX2_oldest_30 : decode cX2_oldest 30 = .ok (.iload_n 2, 1) := by decide +kernel
theorem dX2_oldest_31 : decode cX2_oldest 31 = .ok (.iaload, 1) := by decide +kernel
theorem dX2_oldest_32 : decode cX2_oldest 32 = .ok (.iload_n 1, 1) := by decide +kernel
theorem dX2_oldest_33 : decode cX2_oldest 33 = .ok (.if_icmp .le 10, 3) := by decide +kernel
theorem dX2_oldest_36 : decode cX2_oldest 36 = .ok (.aload_n 0, 1) := by decide +kernel
theorem dX2_oldest_37 : decode cX2_oldest 37 = .ok (.getfield 9, 3) := by decide +kernel
theorem dX2_oldest_40 : decode cX2_oldest 40 = .ok (.iload_n 2, 1) := by decide +kernel
theorem dX2_oldest_41 : decode cX2_oldest 41 = .ok (.iaload, 1) := by decide +kernel
theorem dX2_oldest_42 : decode cX2_oldest 42 = .ok (.istore_n 1, 1) := by decide +kernel
theorem dX2_oldest_43 : decode cX2_oldest 43 = .ok (.iinc 2 1, 3) := by decide +kernel
theorem dX2_oldest_46 : decode cX2_oldest 46 = .ok (.goto (-42), 3) := by decide +kernel
theorem dX2_oldest_49 : decode cX2_oldest 49 = .ok (.iload_n 1, 1) := by decide +kernel
theorem dX2_oldest_50 : decode cX2_oldest 50 = .ok (.ireturn, 1) := by decide +kernel
set_option maxRecDepth 20000 in
theorem ggX2_lawns_X2_lawnsWithout : GoodIn wsX2_lawns wsX2_lawnsWithout := goodIn_r _ [5, 6, 7, 8, 9, 10, 4, 11, 12, 13, 14, 15, 16, 17, 18, 19, 20, 21, 22, 23, 24, 25, 26, 27, 28, 29, 30, 31, 32, 33, 34, 35, 36, 37, 38, 39, 40, 41, 42, 43, 44, 45, 46, 47, 48, 49, 50, 51, 52, 53, 54, 55, 56, 57, 58, 59, 60, 61, 62, 63, 64, 65] (by decide +kernel) (by decide +kernel)
set_option maxRecDepth 20000 in
theorem gX2_lawns_X2_lawnsWithout : GoodIn wsX2_lawns (wsV RX2 64 RX2 yX2_lawnsWithout wsX2_lawnsWithout) := goodIn_app (goodIn_of _ (by decide +kernel)) ggX2_lawns_X2_lawnsWithout
theorem dX2_lawns_0 : decode cX2_lawns 0 = .ok (.aload_n 0, 1) := by decide +kernel
theorem dX2_lawns_1 : decode cX2_lawns 1 = .ok (.lconst 0, 1) := by decide +kernel
theorem dX2_lawns_2 : decode cX2_lawns 2 = .ok (.invokevirtual 64, 3) := by decide +kernel
theorem dX2_lawns_5 : decode cX2_lawns 5 = .ok (.ireturn, 1) := by decide +kernel
set_option maxRecDepth 20000 in
theorem ggX2_stillLawns_X4_born : GoodIn wsX2_stillLawns wsX4_born := goodIn_r _ [7, 8, 9, 10, 11, 12, 13, 14, 15, 16, 17, 18, 19, 20, 21, 22, 23, 24, 25, 26, 27, 28, 29, 30, 31, 32, 33, 34, 35, 36, 37, 38, 39, 40, 41, 42, 43, 44, 45, 46, 47, 48, 49, 50, 51, 52, 53, 54, 55, 56, 6, 57, 58, 59, 60, 61, 62, 63, 64, 65, 97, 98, 99, 100, 101, 102, 103, 104, 105, 106, 107, 108, 109, 110, 111, 112] (by decide +kernel) (by decide +kernel)
set_option maxRecDepth 20000 in
theorem gX2_stillLawns_X4_born : GoodIn wsX2_stillLawns (wsV RX2 52 RX4 yX4_born wsX4_born) := goodIn_app (goodIn_of _ (by decide +kernel)) ggX2_stillLawns_X4_born
set_option maxRecDepth 20000 in
theorem ggX2_stillLawns_X2_lawnsWithout : GoodIn wsX2_stillLawns wsX2_lawnsWithout := goodIn_r _ [70, 71, 72, 73, 74, 75, 69, 76, 2, 77, 50, 51, 23, 52, 53, 26, 78, 79, 80, 81, 82, 83, 84, 85, 86, 35, 36, 37, 38, 27, 39, 87, 45, 46, 47, 48, 88, 21, 22, 24, 25, 28, 89, 30, 31, 32, 33, 90, 91, 92, 93, 94, 95, 96, 105, 106, 107, 108, 109, 110, 111, 112] (by decide +kernel) (by decide +kernel)
set_option maxRecDepth 20000 in
theorem gX2_stillLawns_X2_lawnsWithout : GoodIn wsX2_stillLawns (wsV RX2 64 RX2 yX2_lawnsWithout wsX2_lawnsWithout) := goodIn_app (goodIn_of _ (by decide +kernel)) ggX2_stillLawns_X2_lawnsWithout
theorem dX2_stillLawns_0 : decode cX2_stillLawns 0 = .ok (.aload_n 0, 1) := by decide +kernel
theorem dX2_stillLawns_1 : decode cX2_stillLawns 1 = .ok (.aload_n 0, 1) := by decide +kernel
theorem dX2_stillLawns_2 : decode cX2_stillLawns 2 = .ok (.getfield 19, 3) := by decide +kernel
theorem dX2_stillLawns_5 : decode cX2_stillLawns 5 = .ok (.aload_n 0, 1) := by decide +kernel
theorem dX2_stillLawns_6 : decode cX2_stillLawns 6 = .ok (.getfield 23, 3) := by decide +kernel
theorem dX2_stillLawns_9 : decode cX2_stillLawns 9 = .ok (.invokevirtual 52, 3) := by decide +kernel
theorem dX2_stillLawns_12 : decode cX2_stillLawns 12 = .ok (.invokevirtual 64, 3) := by decide +kernel
theorem dX2_stillLawns_15 : decode cX2_stillLawns 15 = .ok (.ireturn, 1) := by decide +kernel
set_option maxRecDepth 20000 in
theorem ggX2_lawnsWithout_X2_open : GoodIn wsX2_lawnsWithout wsX2_open := goodIn_r _ [7, 1, 8, 9, 10, 11, 12, 13, 14, 15, 47, 48, 49, 50, 51, 52, 53, 54, 55, 56, 57, 58, 59, 60, 61] (by decide +kernel) (by decide +kernel)
set_option maxRecDepth 20000 in
theorem gX2_lawnsWithout_X2_open : GoodIn wsX2_lawnsWithout (wsV RX2 67 RX2 yX2_open wsX2_open) := goodIn_app (goodIn_of _ (by decide +kernel)) ggX2_lawnsWithout_X2_open
set_option maxRecDepth 20000 in
theorem ggX2_lawnsWithout_X3_lawn : GoodIn wsX2_lawnsWithout wsX3_lawn := goodIn_r _ [19, 20, 21, 22, 12, 23, 24, 25, 26, 27, 28, 15, 29, 30, 31, 32, 33, 34, 35, 36, 37, 38, 39, 40, 41, 42, 43, 44, 45, 46, 54, 55, 56, 57, 58, 59, 60, 61] (by decide +kernel) (by decide +kernel)
set_option maxRecDepth 20000 in
theorem gX2_lawnsWithout_X3_lawn : GoodIn wsX2_lawnsWithout (wsV RX2 70 RX3 yX3_lawn wsX3_lawn) := goodIn_app (goodIn_of _ (by decide +kernel)) ggX2_lawnsWithout_X3_lawn
theorem dX2_lawnsWithout_0 : decode cX2_lawnsWithout 0 = .ok (.iconst 0, 1) := by decide +kernel
theorem dX2_lawnsWithout_1 : decode cX2_lawnsWithout 1 = .ok (.istore_n 3, 1) := by decide +kernel
theorem dX2_lawnsWithout_2 : decode cX2_lawnsWithout 2 = .ok (.aload_n 0, 1) := by decide +kernel
theorem dX2_lawnsWithout_3 : decode cX2_lawnsWithout 3 = .ok (.invokevirtual 67, 3) := by decide +kernel
theorem dX2_lawnsWithout_6 : decode cX2_lawnsWithout 6 = .ok (.lstore 4, 2) := by decide +kernel
theorem dX2_lawnsWithout_8 : decode cX2_lawnsWithout 8 = .ok (.iconst 0, 1) := by decide +kernel
theorem dX2_lawnsWithout_9 : decode cX2_lawnsWithout 9 = .ok (.istore 6, 2) := by decide +kernel
theorem dX2_lawnsWithout_11 : decode cX2_lawnsWithout 11 = .ok (.iload 6, 2) := by decide +kernel
theorem dX2_lawnsWithout_13 : decode cX2_lawnsWithout 13 = .ok (.bipush 64, 2) := by decide +kernel
theorem dX2_lawnsWithout_15 : decode cX2_lawnsWithout 15 = .ok (.if_icmp .ge 58, 3) := by decide +kernel
theorem dX2_lawnsWithout_18 : decode cX2_lawnsWithout 18 = .ok (.lload 4, 2) := by decide +kernel
theorem dX2_lawnsWithout_20 : decode cX2_lawnsWithout 20 = .ok (.lconst 0, 1) := by decide +kernel
theorem dX2_lawnsWithout_21 : decode cX2_lawnsWithout 21 = .ok (.lcmp, 1) := by decide +kernel
theorem dX2_lawnsWithout_22 : decode cX2_lawnsWithout 22 = .ok (.ifCond .eq 51, 3) := by decide +kernel
theorem dX2_lawnsWithout_25 : decode cX2_lawnsWithout 25 = .ok (.aload_n 0, 1) := by decide +kernel
theorem dX2_lawnsWithout_26 : decode cX2_lawnsWithout 26 = .ok (.getfield 15, 3) := by decide +kernel
theorem dX2_lawnsWithout_29 : decode cX2_lawnsWithout 29 = .ok (.lload 4, 2) := by decide +kernel
theorem dX2_lawnsWithout_31 : decode cX2_lawnsWithout 31 = .ok (.lload 4, 2) := by decide +kernel
theorem dX2_lawnsWithout_33 : decode cX2_lawnsWithout 33 = .ok (.lneg, 1) := by decide +kernel
theorem dX2_lawnsWithout_34 : decode cX2_lawnsWithout 34 = .ok (.land, 1) := by decide +kernel
theorem dX2_lawnsWithout_35 : decode cX2_lawnsWithout 35 = .ok (.aload_n 0, 1) := by decide +kernel
theorem dX2_lawnsWithout_36 : decode cX2_lawnsWithout 36 = .ok (.invokevirtual 67, 3) := by decide +kernel
theorem dX2_lawnsWithout_39 : decode cX2_lawnsWithout 39 = .ok (.invokevirtual 70, 3) := by decide +kernel
theorem dX2_lawnsWithout_42 : decode cX2_lawnsWithout 42 = .ok (.lstore 7, 2) := by decide +kernel
theorem dX2_lawnsWithout_44 : decode cX2_lawnsWithout 44 = .ok (.lload 4, 2) := by decide +kernel
theorem dX2_lawnsWithout_46 : decode cX2_lawnsWithout 46 = .ok (.lload 7, 2) := by decide +kernel
theorem dX2_lawnsWithout_48 : decode cX2_lawnsWithout 48 = .ok (.ldc2_w 47, 3) := by decide +kernel
theorem dX2_lawnsWithout_51 : decode cX2_lawnsWithout 51 = .ok (.lxor, 1) := by decide +kernel
theorem dX2_lawnsWithout_52 : decode cX2_lawnsWithout 52 = .ok (.land, 1) := by decide +kernel
theorem dX2_lawnsWithout_53 : decode cX2_lawnsWithout 53 = .ok (.lstore 4, 2) := by decide +kernel
theorem dX2_lawnsWithout_55 : decode cX2_lawnsWithout 55 = .ok (.lload 7, 2) := by decide +kernel
theorem dX2_lawnsWithout_57 : decode cX2_lawnsWithout 57 = .ok (.lload_n 1, 1) := by decide +kernel
theorem dX2_lawnsWithout_58 : decode cX2_lawnsWithout 58 = .ok (.land, 1) := by decide +kernel
theorem dX2_lawnsWithout_59 : decode cX2_lawnsWithout 59 = .ok (.lconst 0, 1) := by decide +kernel
theorem dX2_lawnsWithout_60 : decode cX2_lawnsWithout 60 = .ok (.lcmp, 1) := by decide +kernel
theorem dX2_lawnsWithout_61 : decode cX2_lawnsWithout 61 = .ok (.ifCond .ne 6, 3) := by decide +kernel
theorem dX2_lawnsWithout_64 : decode cX2_lawnsWithout 64 = .ok (.iinc 3 1, 3) := by decide +kernel
theorem dX2_lawnsWithout_67 : decode cX2_lawnsWithout 67 = .ok (.iinc 6 1, 3) := by decide +kernel
theorem dX2_lawnsWithout_70 : decode cX2_lawnsWithout 70 = .ok (.goto (-59), 3) := by decide +kernel
theorem dX2_lawnsWithout_73 : decode cX2_lawnsWithout 73 = .ok (.iload_n 3, 1) := by decide +kernel
theorem dX2_lawnsWithout_74 : decode cX2_lawnsWithout 74 = .ok (.ireturn, 1) := by decide +kernel
set_option maxRecDepth 20000 in
theorem ggX2_greatestLawn_X2_open : GoodIn wsX2_greatestLawn wsX2_open := goodIn_r _ [11, 1, 12, 13, 14, 15, 16, 17, 18, 19, 58, 59, 60, 61, 62, 63, 64, 65, 66, 67, 68, 69, 70, 71, 72] (by decide +kernel) (by decide +kernel)
set_option maxRecDepth 20000 in
theorem gX2_greatestLawn_X2_open : GoodIn wsX2_greatestLawn (wsV RX2 67 RX2 yX2_open wsX2_open) := goodIn_app (goodIn_of _ (by decide +kernel)) ggX2_greatestLawn_X2_open
set_option maxRecDepth 20000 in
theorem ggX2_greatestLawn_X3_lawn : GoodIn wsX2_greatestLawn wsX3_lawn := goodIn_r _ [23, 24, 25, 26, 16, 27, 28, 29, 30, 31, 32, 19, 33, 34, 35, 36, 37, 38, 39, 40, 41, 42, 43, 44, 45, 46, 47, 48, 49, 50, 65, 66, 67, 68, 69, 70, 71, 72] (by decide +kernel) (by decide +kernel)
set_option maxRecDepth 20000 in
theorem gX2_greatestLawn_X3_lawn : GoodIn wsX2_greatestLawn (wsV RX2 70 RX3 yX3_lawn wsX3_lawn) := goodIn_app (goodIn_of _ (by decide +kernel)) ggX2_greatestLawn_X3_lawn
set_option maxRecDepth 20000 in
theorem ggX2_greatestLawn_J13_bitCount_95d88 : GoodIn wsX2_greatestLawn wsJ13_bitCount_95d88 := goodIn_r _ [54, 55, 56, 57] (by decide +kernel) (by decide +kernel)
set_option maxRecDepth 20000 in
theorem gX2_greatestLawn_J13_bitCount_95d88 : GoodIn wsX2_greatestLawn (va_wsS RX2 41 yJ13_bitCount_95d88 wsJ13_bitCount_95d88) := goodIn_app (goodIn_of _ (by decide +kernel)) ggX2_greatestLawn_J13_bitCount_95d88
theorem dX2_greatestLawn_0 : decode cX2_greatestLawn 0 = .ok (.iconst 0, 1) := by decide +kernel
theorem dX2_greatestLawn_1 : decode cX2_greatestLawn 1 = .ok (.istore_n 1, 1) := by decide +kernel
theorem dX2_greatestLawn_2 : decode cX2_greatestLawn 2 = .ok (.aload_n 0, 1) := by decide +kernel
theorem dX2_greatestLawn_3 : decode cX2_greatestLawn 3 = .ok (.invokevirtual 67, 3) := by decide +kernel
theorem dX2_greatestLawn_6 : decode cX2_greatestLawn 6 = .ok (.lstore_n 2, 1) := by decide +kernel
theorem dX2_greatestLawn_7 : decode cX2_greatestLawn 7 = .ok (.iconst 0, 1) := by decide +kernel
theorem dX2_greatestLawn_8 : decode cX2_greatestLawn 8 = .ok (.istore 4, 2) := by decide +kernel
theorem dX2_greatestLawn_10 : decode cX2_greatestLawn 10 = .ok (.iload 4, 2) := by decide +kernel
theorem dX2_greatestLawn_12 : decode cX2_greatestLawn 12 = .ok (.bipush 64, 2) := by decide +kernel
theorem dX2_greatestLawn_14 : decode cX2_greatestLawn 14 = .ok (.if_icmp .ge 51, 3) := by decide +kernel
theorem dX2_greatestLawn_17 : decode cX2_greatestLawn 17 = .ok (.lload_n 2, 1) := by decide +kernel
theorem dX2_greatestLawn_18 : decode cX2_greatestLawn 18 = .ok (.lconst 0, 1) := by decide +kernel
theorem dX2_greatestLawn_19 : decode cX2_greatestLawn 19 = .ok (.lcmp, 1) := by decide +kernel
theorem dX2_greatestLawn_20 : decode cX2_greatestLawn 20 = .ok (.ifCond .eq 45, 3) := by decide +kernel
theorem dX2_greatestLawn_23 : decode cX2_greatestLawn 23 = .ok (.aload_n 0, 1) := by decide +kernel
theorem dX2_greatestLawn_24 : decode cX2_greatestLawn 24 = .ok (.getfield 15, 3) := by decide +kernel
theorem dX2_greatestLawn_27 : decode cX2_greatestLawn 27 = .ok (.lload_n 2, 1) := by decide +kernel
theorem dX2_greatestLawn_28 : decode cX2_greatestLawn 28 = .ok (.lload_n 2, 1) := by decide +kernel
theorem dX2_greatestLawn_29 : decode cX2_greatestLawn 29 = .ok (.lneg, 1) := by decide +kernel
theorem dX2_greatestLawn_30 : decode cX2_greatestLawn 30 = .ok (.land, 1) := by decide +kernel
theorem dX2_greatestLawn_31 : decode cX2_greatestLawn 31 = .ok (.aload_n 0, 1) := by decide +kernel
theorem dX2_greatestLawn_32 : decode cX2_greatestLawn 32 = .ok (.invokevirtual 67, 3) := by decide +kernel
theorem dX2_greatestLawn_35 : decode cX2_greatestLawn 35 = .ok (.invokevirtual 70, 3) := by decide +kernel
theorem dX2_greatestLawn_38 : decode cX2_greatestLawn 38 = .ok (.lstore 5, 2) := by decide +kernel
theorem dX2_greatestLawn_40 : decode cX2_greatestLawn 40 = .ok (.lload_n 2, 1) := by decide +kernel
theorem dX2_greatestLawn_41 : decode cX2_greatestLawn 41 = .ok (.lload 5, 2) := by decide +kernel
theorem dX2_greatestLawn_43 : decode cX2_greatestLawn 43 = .ok (.ldc2_w 47, 3) := by decide +kernel
theorem dX2_greatestLawn_46 : decode cX2_greatestLawn 46 = .ok (.lxor, 1) := by decide +kernel
theorem dX2_greatestLawn_47 : decode cX2_greatestLawn 47 = .ok (.land, 1) := by decide +kernel
theorem dX2_greatestLawn_48 : decode cX2_greatestLawn 48 = .ok (.lstore_n 2, 1) := by decide +kernel
theorem dX2_greatestLawn_49 : decode cX2_greatestLawn 49 = .ok (.iload_n 1, 1) := by decide +kernel
theorem dX2_greatestLawn_50 : decode cX2_greatestLawn 50 = .ok (.lload 5, 2) := by decide +kernel
theorem dX2_greatestLawn_52 : decode cX2_greatestLawn 52 = .ok (.invokestatic 41, 3) := by decide +kernel
theorem dX2_greatestLawn_55 : decode cX2_greatestLawn 55 = .ok (.invokestatic 74, 3) := by decide +kernel
theorem dX2_greatestLawn_58 : decode cX2_greatestLawn 58 = .ok (.istore_n 1, 1) := by decide +kernel
theorem dX2_greatestLawn_59 : decode cX2_greatestLawn 59 = .ok (.iinc 4 1, 3) := by decide +kernel
theorem dX2_greatestLawn_62 : decode cX2_greatestLawn 62 = .ok (.goto (-52), 3) := by decide +kernel
theorem dX2_greatestLawn_65 : decode cX2_greatestLawn 65 = .ok (.iload_n 1, 1) := by decide +kernel
theorem dX2_greatestLawn_66 : decode cX2_greatestLawn 66 = .ok (.ireturn, 1) := by decide +kernel
theorem dX3_init_0 : decode cX3_init 0 = .ok (.aload_n 0, 1) := by decide +kernel
theorem dX3_init_1 : decode cX3_init 1 = .ok (.invokespecial 1, 3) := by decide +kernel
theorem dX3_init_4 : decode cX3_init 4 = .ok (.return_, 1) := by decide +kernel
theorem dX3_cell_0 : decode cX3_cell 0 = .ok (.lconst 1, 1) := by decide +kernel
theorem dX3_cell_1 : decode cX3_cell 1 = .ok (.bipush 8, 2) := by decide +kernel
theorem dX3_cell_3 : decode cX3_cell 3 = .ok (.iload_n 1, 1) := by decide +kernel
theorem dX3_cell_4 : decode cX3_cell 4 = .ok (.imul, 1) := by decide +kernel
theorem dX3_cell_5 : decode cX3_cell 5 = .ok (.iload_n 0, 1) := by decide +kernel
theorem dX3_cell_6 : decode cX3_cell 6 = .ok (.iadd, 1) := by decide +kernel
theorem dX3_cell_7 : decode cX3_cell 7 = .ok (.lshl, 1) := by decide +kernel
theorem dX3_cell_8 : decode cX3_cell 8 = .ok (.lreturn, 1) := by decide +kernel
set_option maxRecDepth 20000 in
theorem ggX3_resize_X3_cell : GoodIn wsX3_resize wsX3_cell := goodIn_r _ [11] (by decide +kernel) (by decide +kernel)
set_option maxRecDepth 20000 in
theorem gX3_resize_X3_cell : GoodIn wsX3_resize (va_wsS RX3 29 yX3_cell wsX3_cell) := goodIn_app (goodIn_of _ (by decide +kernel)) ggX3_resize_X3_cell
theorem dX3_resize_0 : decode cX3_resize 0 = .ok (.aload_n 0, 1) := by decide +kernel
theorem dX3_resize_1 : decode cX3_resize 1 = .ok (.iload_n 1, 1) := by decide +kernel
theorem dX3_resize_2 : decode cX3_resize 2 = .ok (.putfield 9, 3) := by decide +kernel
theorem dX3_resize_5 : decode cX3_resize 5 = .ok (.aload_n 0, 1) := by decide +kernel
theorem dX3_resize_6 : decode cX3_resize 6 = .ok (.iload_n 2, 1) := by decide +kernel
theorem dX3_resize_7 : decode cX3_resize 7 = .ok (.putfield 13, 3) := by decide +kernel
theorem dX3_resize_10 : decode cX3_resize 10 = .ok (.aload_n 0, 1) := by decide +kernel
theorem dX3_resize_11 : decode cX3_resize 11 = .ok (.lconst 1, 1) := by decide +kernel
theorem dX3_resize_12 : decode cX3_resize 12 = .ok (.iload_n 1, 1) := by decide +kernel
theorem dX3_resize_13 : decode cX3_resize 13 = .ok (.lshl, 1) := by decide +kernel
theorem dX3_resize_14 : decode cX3_resize 14 = .ok (.lconst 1, 1) := by decide +kernel
theorem dX3_resize_15 : decode cX3_resize 15 = .ok (.lsub, 1) := by decide +kernel
theorem dX3_resize_16 : decode cX3_resize 16 = .ok (.putfield 16, 3) := by decide +kernel
theorem dX3_resize_19 : decode cX3_resize 19 = .ok (.aload_n 0, 1) := by decide +kernel
theorem dX3_resize_20 : decode cX3_resize 20 = .ok (.aload_n 0, 1) := by decide +kernel
theorem dX3_resize_21 : decode cX3_resize 21 = .ok (.getfield 16, 3) := by decide +kernel
theorem dX3_resize_24 : decode cX3_resize 24 = .ok (.bipush 8, 2) := by decide +kernel
theorem dX3_resize_26 : decode cX3_resize 26 = .ok (.iload_n 2, 1) := by decide +kernel
theorem dX3_resize_27 : decode cX3_resize 27 = .ok (.iconst 1, 1) := by decide +kernel
theorem dX3_resize_28 : decode cX3_resize 28 = .ok (.isub, 1) := by decide +kernel
theorem dX3_resize_29 : decode cX3_resize 29 = .ok (.imul, 1) := by decide +kernel
theorem dX3_resize_30 : decode cX3_resize 30 = .ok (.lshl, 1) := by decide +kernel
theorem dX3_resize_31 : decode cX3_resize 31 = .ok (.putfield 20, 3) := by decide +kernel
theorem dX3_resize_34 : decode cX3_resize 34 = .ok (.aload_n 0, 1) := by decide +kernel
theorem dX3_resize_35 : decode cX3_resize 35 = .ok (.lconst 0, 1) := by decide +kernel
theorem dX3_resize_36 : decode cX3_resize 36 = .ok (.putfield 23, 3) := by decide +kernel
theorem dX3_resize_39 : decode cX3_resize 39 = .ok (.aload_n 0, 1) := by decide +kernel
theorem dX3_resize_40 : decode cX3_resize 40 = .ok (.lconst 0, 1) := by decide +kernel
theorem dX3_resize_41 : decode cX3_resize 41 = .ok (.putfield 26, 3) := by decide +kernel
theorem dX3_resize_44 : decode cX3_resize 44 = .ok (.iconst 0, 1) := by decide +kernel
theorem dX3_resize_45 : decode cX3_resize 45 = .ok (.istore_n 3, 1) := by decide +kernel
theorem dX3_resize_46 : decode cX3_resize 46 = .ok (.iload_n 3, 1) := by decide +kernel
theorem dX3_resize_47 : decode cX3_resize 47 = .ok (.iload_n 2, 1) := by decide +kernel
theorem dX3_resize_48 : decode cX3_resize 48 = .ok (.if_icmp .ge 41, 3) := by decide +kernel
theorem dX3_resize_51 : decode cX3_resize 51 = .ok (.aload_n 0, 1) := by decide +kernel
theorem dX3_resize_52 : decode cX3_resize 52 = .ok (.dup, 1) := by decide +kernel
theorem dX3_resize_53 : decode cX3_resize 53 = .ok (.getfield 23, 3) := by decide +kernel
theorem dX3_resize_56 : decode cX3_resize 56 = .ok (.iconst 0, 1) := by decide +kernel
theorem dX3_resize_57 : decode cX3_resize 57 = .ok (.iload_n 3, 1) := by decide +kernel
theorem dX3_resize_58 : decode cX3_resize 58 = .ok (.invokestatic 29, 3) := by decide +kernel
theorem dX3_resize_61 : decode cX3_resize 61 = .ok (.lor, 1) := by decide +kernel
theorem dX3_resize_62 : decode cX3_resize 62 = .ok (.putfield 23, 3) := by decide +kernel
theorem dX3_resize_65 : decode cX3_resize 65 = .ok (.aload_n 0, 1) := by decide +kernel
theorem dX3_resize_66 : decode cX3_resize 66 = .ok (.dup, 1) := by decide +kernel
theorem dX3_resize_67 : decode cX3_resize 67 = .ok (.getfield 26, 3) := by decide +kernel
theorem dX3_resize_70 : decode cX3_resize 70 = .ok (.aload_n 0, 1) := by decide +kernel
theorem dX3_resize_71 : decode cX3_resize 71 = .ok (.getfield 16, 3) := by decide +kernel
theorem dX3_resize_74 : decode cX3_resize 74 = .ok (.bipush 8, 2) := by decide +kernel
theorem dX3_resize_76 : decode cX3_resize 76 = .ok (.iload_n 3, 1) := by decide +kernel
theorem dX3_resize_77 : decode cX3_resize 77 = .ok (.imul, 1) := by decide +kernel
theorem dX3_resize_78 : decode cX3_resize 78 = .ok (.lshl, 1) := by decide +kernel
theorem dX3_resize_79 : decode cX3_resize 79 = .ok (.lor, 1) := by decide +kernel
theorem dX3_resize_80 : decode cX3_resize 80 = .ok (.putfield 26, 3) := by decide +kernel
theorem dX3_resize_83 : decode cX3_resize 83 = .ok (.iinc 3 1, 3) := by decide +kernel
theorem dX3_resize_86 : decode cX3_resize 86 = .ok (.goto (-40), 3) := by decide +kernel
theorem dX3_resize_89 : decode cX3_resize 89 = .ok (.aload_n 0, 1) := by decide +kernel
theorem dX3_resize_90 : decode cX3_resize 90 = .ok (.aload_n 0, 1) := by decide +kernel
theorem dX3_resize_91 : decode cX3_resize 91 = .ok (.getfield 23, 3) := by decide +kernel
theorem dX3_resize_94 : decode cX3_resize 94 = .ok (.iload_n 1, 1) := by decide +kernel
theorem dX3_resize_95 : decode cX3_resize 95 = .ok (.iconst 1, 1) := by decide +kernel
theorem dX3_resize_96 : decode cX3_resize 96 = .ok (.isub, 1) := by decide +kernel
theorem dX3_resize_97 : decode cX3_resize 97 = .ok (.lshl, 1) := by decide +kernel
theorem dX3_resize_98 : decode cX3_resize 98 = .ok (.putfield 33, 3) := by decide +kernel
theorem dX3_resize_101 : decode cX3_resize 101 = .ok (.return_, 1) := by decide +kernel
theorem dX3_makeRound_0 : decode cX3_makeRound 0 = .ok (.aload_n 0, 1) := by decide +kernel
theorem dX3_makeRound_1 : decode cX3_makeRound 1 = .ok (.iload_n 1, 1) := by decide +kernel
theorem dX3_makeRound_2 : decode cX3_makeRound 2 = .ok (.putfield 36, 3) := by decide +kernel
theorem dX3_makeRound_5 : decode cX3_makeRound 5 = .ok (.return_, 1) := by decide +kernel
theorem dX3_wide_0 : decode cX3_wide 0 = .ok (.aload_n 0, 1) := by decide +kernel
theorem dX3_wide_1 : decode cX3_wide 1 = .ok (.getfield 9, 3) := by decide +kernel
theorem dX3_wide_4 : decode cX3_wide 4 = .ok (.ireturn, 1) := by decide +kernel
theorem dX3_high_0 : decode cX3_high 0 = .ok (.aload_n 0, 1) := by decide +kernel
theorem dX3_high_1 : decode cX3_high 1 = .ok (.getfield 13, 3) := by decide +kernel
theorem dX3_high_4 : decode cX3_high 4 = .ok (.ireturn, 1) := by decide +kernel
theorem dX3_isRound_0 : decode cX3_isRound 0 = .ok (.aload_n 0, 1) := by decide +kernel
theorem dX3_isRound_1 : decode cX3_isRound 1 = .ok (.getfield 36, 3) := by decide +kernel
theorem dX3_isRound_4 : decode cX3_isRound 4 = .ok (.ireturn, 1) := by decide +kernel
theorem dX3_has_0 : decode cX3_has 0 = .ok (.iload_n 1, 1) := by decide +kernel
theorem dX3_has_1 : decode cX3_has 1 = .ok (.ifCond .lt 27, 3) := by decide +kernel
theorem dX3_has_4 : decode cX3_has 4 = .ok (.iload_n 1, 1) := by decide +kernel
theorem dX3_has_5 : decode cX3_has 5 = .ok (.aload_n 0, 1) := by decide +kernel
theorem dX3_has_6 : decode cX3_has 6 = .ok (.getfield 9, 3) := by decide +kernel
theorem dX3_has_9 : decode cX3_has 9 = .ok (.if_icmp .ge 19, 3) := by decide +kernel
theorem dX3_has_12 : decode cX3_has 12 = .ok (.iload_n 2, 1) := by decide +kernel
theorem dX3_has_13 : decode cX3_has 13 = .ok (.ifCond .lt 15, 3) := by decide +kernel
theorem dX3_has_16 : decode cX3_has 16 = .ok (.iload_n 2, 1) := by decide +kernel
theorem dX3_has_17 : decode cX3_has 17 = .ok (.aload_n 0, 1) := by decide +kernel
theorem dX3_has_18 : decode cX3_has 18 = .ok (.getfield 13, 3) := by decide +kernel
theorem dX3_has_21 : decode cX3_has 21 = .ok (.if_icmp .ge 7, 3) := by decide +kernel
theorem dX3_has_24 : decode cX3_has 24 = .ok (.iconst 1, 1) := by decide +kernel
theorem dX3_has_25 : decode cX3_has 25 = .ok (.goto 4, 3) := by decide +kernel
theorem dX3_has_28 : decode cX3_has 28 = .ok (.iconst 0, 1) := by decide +kernel
theorem dX3_has_29 : decode cX3_has 29 = .ok (.ireturn, 1) := by decide +kernel
theorem dX3_open_0 : decode cX3_open 0 = .ok (.aload_n 0, 1) := by decide +kernel
theorem dX3_open_1 : decode cX3_open 1 = .ok (.getfield 26, 3) := by decide +kernel
theorem dX3_open_4 : decode cX3_open 4 = .ok (.lload_n 1, 1) := by decide +kernel
theorem dX3_open_5 : decode cX3_open 5 = .ok (.ldc2_w 40, 3) := by decide +kernel
theorem dX3_open_8 : decode cX3_open 8 = .ok (.lxor, 1) := by decide +kernel
theorem dX3_open_9 : decode cX3_open 9 = .ok (.land, 1) := by decide +kernel
theorem dX3_open_10 : decode cX3_open 10 = .ok (.lreturn, 1) := by decide +kernel
theorem dX3_left_0 : decode cX3_left 0 = .ok (.lload_n 1, 1) := by decide +kernel
theorem dX3_left_1 : decode cX3_left 1 = .ok (.aload_n 0, 1) := by decide +kernel
theorem dX3_left_2 : decode cX3_left 2 = .ok (.getfield 23, 3) := by decide +kernel
theorem dX3_left_5 : decode cX3_left 5 = .ok (.ldc2_w 40, 3) := by decide +kernel
theorem dX3_left_8 : decode cX3_left 8 = .ok (.lxor, 1) := by decide +kernel
theorem dX3_left_9 : decode cX3_left 9 = .ok (.land, 1) := by decide +kernel
theorem dX3_left_10 : decode cX3_left 10 = .ok (.iconst 1, 1) := by decide +kernel
theorem dX3_left_11 : decode cX3_left 11 = .ok (.lushr, 1) := by decide +kernel
theorem dX3_left_12 : decode cX3_left 12 = .ok (.lstore_n 3, 1) := by decide +kernel
theorem dX3_left_13 : decode cX3_left 13 = .ok (.aload_n 0, 1) := by decide +kernel
theorem dX3_left_14 : decode cX3_left 14 = .ok (.getfield 36, 3) := by decide +kernel
theorem dX3_left_17 : decode cX3_left 17 = .ok (.ifCond .eq 21, 3) := by decide +kernel
theorem dX3_left_20 : decode cX3_left 20 = .ok (.lload_n 3, 1) := by decide +kernel
theorem dX3_left_21 : decode cX3_left 21 = .ok (.lload_n 1, 1) := by decide +kernel
theorem dX3_left_22 : decode cX3_left 22 = .ok (.aload_n 0, 1) := by decide +kernel
theorem dX3_left_23 : decode cX3_left 23 = .ok (.getfield 23, 3) := by decide +kernel
theorem dX3_left_26 : decode cX3_left 26 = .ok (.land, 1) := by decide +kernel
theorem dX3_left_27 : decode cX3_left 27 = .ok (.aload_n 0, 1) := by decide +kernel
theorem dX3_left_28 : decode cX3_left 28 = .ok (.getfield 9, 3) := by decide +kernel
theorem dX3_left_31 : decode cX3_left 31 = .ok (.iconst 1, 1) := by decide +kernel
theorem dX3_left_32 : decode cX3_left 32 = .ok (.isub, 1) := by decide +kernel
theorem dX3_left_33 : decode cX3_left 33 = .ok (.lshl, 1) := by decide +kernel
theorem dX3_left_34 : decode cX3_left 34 = .ok (.lor, 1) := by decide +kernel
theorem dX3_left_35 : decode cX3_left 35 = .ok (.goto 4, 3) := by decide +kernel
theorem dX3_left_38 : decode cX3_left 38 = .ok (.lload_n 3, 1) := by decide +kernel
theorem dX3_left_39 : decode cX3_left 39 = .ok (.lreturn, 1) := by decide +kernel
theorem dX3_right_0 : decode cX3_right 0 = .ok (.lload_n 1, 1) := by decide +kernel
theorem dX3_right_1 : decode cX3_right 1 = .ok (.aload_n 0, 1) := by decide +kernel
theorem dX3_right_2 : decode cX3_right 2 = .ok (.getfield 33, 3) := by decide +kernel
theorem dX3_right_5 : decode cX3_right 5 = .ok (.ldc2_w 40, 3) := by decide +kernel
theorem dX3_right_8 : decode cX3_right 8 = .ok (.lxor, 1) := by decide +kernel
theorem dX3_right_9 : decode cX3_right 9 = .ok (.land, 1) := by decide +kernel
theorem dX3_right_10 : decode cX3_right 10 = .ok (.iconst 1, 1) := by decide +kernel
theorem dX3_right_11 : decode cX3_right 11 = .ok (.lshl, 1) := by decide +kernel
theorem dX3_right_12 : decode cX3_right 12 = .ok (.lstore_n 3, 1) := by decide +kernel
theorem dX3_right_13 : decode cX3_right 13 = .ok (.aload_n 0, 1) := by decide +kernel
theorem dX3_right_14 : decode cX3_right 14 = .ok (.getfield 36, 3) := by decide +kernel
theorem dX3_right_17 : decode cX3_right 17 = .ok (.ifCond .eq 21, 3) := by decide +kernel
theorem dX3_right_20 : decode cX3_right 20 = .ok (.lload_n 3, 1) := by decide +kernel
theorem dX3_right_21 : decode cX3_right 21 = .ok (.lload_n 1, 1) := by decide +kernel
theorem dX3_right_22 : decode cX3_right 22 = .ok (.aload_n 0, 1) := by decide +kernel
theorem dX3_right_23 : decode cX3_right 23 = .ok (.getfield 33, 3) := by decide +kernel
theorem dX3_right_26 : decode cX3_right 26 = .ok (.land, 1) := by decide +kernel
theorem dX3_right_27 : decode cX3_right 27 = .ok (.aload_n 0, 1) := by decide +kernel
theorem dX3_right_28 : decode cX3_right 28 = .ok (.getfield 9, 3) := by decide +kernel
theorem dX3_right_31 : decode cX3_right 31 = .ok (.iconst 1, 1) := by decide +kernel
theorem dX3_right_32 : decode cX3_right 32 = .ok (.isub, 1) := by decide +kernel
theorem dX3_right_33 : decode cX3_right 33 = .ok (.lushr, 1) := by decide +kernel
theorem dX3_right_34 : decode cX3_right 34 = .ok (.lor, 1) := by decide +kernel
theorem dX3_right_35 : decode cX3_right 35 = .ok (.goto 4, 3) := by decide +kernel
theorem dX3_right_38 : decode cX3_right 38 = .ok (.lload_n 3, 1) := by decide +kernel
theorem dX3_right_39 : decode cX3_right 39 = .ok (.lreturn, 1) := by decide +kernel
theorem dX3_up_0 : decode cX3_up 0 = .ok (.lload_n 1, 1) := by decide +kernel
theorem dX3_up_1 : decode cX3_up 1 = .ok (.aload_n 0, 1) := by decide +kernel
theorem dX3_up_2 : decode cX3_up 2 = .ok (.getfield 16, 3) := by decide +kernel
theorem dX3_up_5 : decode cX3_up 5 = .ok (.ldc2_w 40, 3) := by decide +kernel
theorem dX3_up_8 : decode cX3_up 8 = .ok (.lxor, 1) := by decide +kernel
theorem dX3_up_9 : decode cX3_up 9 = .ok (.land, 1) := by decide +kernel
theorem dX3_up_10 : decode cX3_up 10 = .ok (.bipush 8, 2) := by decide +kernel
theorem dX3_up_12 : decode cX3_up 12 = .ok (.lushr, 1) := by decide +kernel
theorem dX3_up_13 : decode cX3_up 13 = .ok (.lstore_n 3, 1) := by decide +kernel
theorem dX3_up_14 : decode cX3_up 14 = .ok (.aload_n 0, 1) := by decide +kernel
theorem dX3_up_15 : decode cX3_up 15 = .ok (.getfield 36, 3) := by decide +kernel
theorem dX3_up_18 : decode cX3_up 18 = .ok (.ifCond .eq 24, 3) := by decide +kernel
theorem dX3_up_21 : decode cX3_up 21 = .ok (.lload_n 3, 1) := by decide +kernel
theorem dX3_up_22 : decode cX3_up 22 = .ok (.lload_n 1, 1) := by decide +kernel
theorem dX3_up_23 : decode cX3_up 23 = .ok (.aload_n 0, 1) := by decide +kernel
theorem dX3_up_24 : decode cX3_up 24 = .ok (.getfield 16, 3) := by decide +kernel
theorem dX3_up_27 : decode cX3_up 27 = .ok (.land, 1) := by decide +kernel
theorem dX3_up_28 : decode cX3_up 28 = .ok (.bipush 8, 2) := by decide +kernel
theorem dX3_up_30 : decode cX3_up 30 = .ok (.aload_n 0, 1) := by decide +kernel
theorem dX3_up_31 : decode cX3_up 31 = .ok (.getfield 13, 3) := by decide +kernel
theorem dX3_up_34 : decode cX3_up 34 = .ok (.iconst 1, 1) := by decide +kernel
theorem dX3_up_35 : decode cX3_up 35 = .ok (.isub, 1) := by decide +kernel
theorem dX3_up_36 : decode cX3_up 36 = .ok (.imul, 1) := by decide +kernel
theorem dX3_up_37 : decode cX3_up 37 = .ok (.lshl, 1) := by decide +kernel
theorem dX3_up_38 : decode cX3_up 38 = .ok (.lor, 1) := by decide +kernel
theorem dX3_up_39 : decode cX3_up 39 = .ok (.goto 4, 3) := by decide +kernel
theorem dX3_up_42 : decode cX3_up 42 = .ok (.lload_n 3, 1) := by decide +kernel
theorem dX3_up_43 : decode cX3_up 43 = .ok (.lreturn, 1) := by decide +kernel
theorem dX3_down_0 : decode cX3_down 0 = .ok (.lload_n 1, 1) := by decide +kernel
theorem dX3_down_1 : decode cX3_down 1 = .ok (.aload_n 0, 1) := by decide +kernel
theorem dX3_down_2 : decode cX3_down 2 = .ok (.getfield 20, 3) := by decide +kernel
theorem dX3_down_5 : decode cX3_down 5 = .ok (.ldc2_w 40, 3) := by decide +kernel
theorem dX3_down_8 : decode cX3_down 8 = .ok (.lxor, 1) := by decide +kernel
theorem dX3_down_9 : decode cX3_down 9 = .ok (.land, 1) := by decide +kernel
theorem dX3_down_10 : decode cX3_down 10 = .ok (.bipush 8, 2) := by decide +kernel
theorem dX3_down_12 : decode cX3_down 12 = .ok (.lshl, 1) := by decide +kernel
theorem dX3_down_13 : decode cX3_down 13 = .ok (.lstore_n 3, 1) := by decide +kernel
theorem dX3_down_14 : decode cX3_down 14 = .ok (.aload_n 0, 1) := by decide +kernel
theorem dX3_down_15 : decode cX3_down 15 = .ok (.getfield 36, 3) := by decide +kernel
theorem dX3_down_18 : decode cX3_down 18 = .ok (.ifCond .eq 24, 3) := by decide +kernel
theorem dX3_down_21 : decode cX3_down 21 = .ok (.lload_n 3, 1) := by decide +kernel
theorem dX3_down_22 : decode cX3_down 22 = .ok (.lload_n 1, 1) := by decide +kernel
theorem dX3_down_23 : decode cX3_down 23 = .ok (.aload_n 0, 1) := by decide +kernel
theorem dX3_down_24 : decode cX3_down 24 = .ok (.getfield 20, 3) := by decide +kernel
theorem dX3_down_27 : decode cX3_down 27 = .ok (.land, 1) := by decide +kernel
theorem dX3_down_28 : decode cX3_down 28 = .ok (.bipush 8, 2) := by decide +kernel
theorem dX3_down_30 : decode cX3_down 30 = .ok (.aload_n 0, 1) := by decide +kernel
theorem dX3_down_31 : decode cX3_down 31 = .ok (.getfield 13, 3) := by decide +kernel
theorem dX3_down_34 : decode cX3_down 34 = .ok (.iconst 1, 1) := by decide +kernel
theorem dX3_down_35 : decode cX3_down 35 = .ok (.isub, 1) := by decide +kernel
theorem dX3_down_36 : decode cX3_down 36 = .ok (.imul, 1) := by decide +kernel
theorem dX3_down_37 : decode cX3_down 37 = .ok (.lushr, 1) := by decide +kernel
theorem dX3_down_38 : decode cX3_down 38 = .ok (.lor, 1) := by decide +kernel
theorem dX3_down_39 : decode cX3_down 39 = .ok (.goto 4, 3) := by decide +kernel
theorem dX3_down_42 : decode cX3_down 42 = .ok (.lload_n 3, 1) := by decide +kernel
theorem dX3_down_43 : decode cX3_down 43 = .ok (.lreturn, 1) := by decide +kernel
set_option maxRecDepth 20000 in
theorem ggX3_withBeside_X3_left : GoodIn wsX3_withBeside wsX3_left := goodIn_r _ [5, 6, 7, 8, 9, 26, 27, 28, 29, 30, 31, 32, 33] (by decide +kernel) (by decide +kernel)
set_option maxRecDepth 20000 in
theorem gX3_withBeside_X3_left : GoodIn wsX3_withBeside (wsV RX3 42 RX3 yX3_left wsX3_left) := goodIn_app (goodIn_of _ (by decide +kernel)) ggX3_withBeside_X3_left
set_option maxRecDepth 20000 in
theorem ggX3_withBeside_X3_right : GoodIn wsX3_withBeside wsX3_right := goodIn_r _ [13, 14, 7, 8, 9, 26, 27, 28, 29, 30, 31, 32, 33] (by decide +kernel) (by decide +kernel)
set_option maxRecDepth 20000 in
theorem gX3_withBeside_X3_right : GoodIn wsX3_withBeside (wsV RX3 46 RX3 yX3_right wsX3_right) := goodIn_app (goodIn_of _ (by decide +kernel)) ggX3_withBeside_X3_right
set_option maxRecDepth 20000 in
theorem ggX3_withBeside_X3_up : GoodIn wsX3_withBeside wsX3_up := goodIn_r _ [18, 19, 7, 8, 20, 26, 27, 28, 29, 30, 31, 32, 33] (by decide +kernel) (by decide +kernel)
set_option maxRecDepth 20000 in
theorem gX3_withBeside_X3_up : GoodIn wsX3_withBeside (wsV RX3 49 RX3 yX3_up wsX3_up) := goodIn_app (goodIn_of _ (by decide +kernel)) ggX3_withBeside_X3_up
set_option maxRecDepth 20000 in
theorem ggX3_withBeside_X3_down : GoodIn wsX3_withBeside wsX3_down := goodIn_r _ [24, 25, 7, 8, 20, 26, 27, 28, 29, 30, 31, 32, 33] (by decide +kernel) (by decide +kernel)
set_option maxRecDepth 20000 in
theorem gX3_withBeside_X3_down : GoodIn wsX3_withBeside (wsV RX3 52 RX3 yX3_down wsX3_down) := goodIn_app (goodIn_of _ (by decide +kernel)) ggX3_withBeside_X3_down
theorem dX3_withBeside_0 : decode cX3_withBeside 0 = .ok (.lload_n 1, 1) := by decide +kernel
theorem dX3_withBeside_1 : decode cX3_withBeside 1 = .ok (.aload_n 0, 1) := by decide +kernel
theorem dX3_withBeside_2 : decode cX3_withBeside 2 = .ok (.lload_n 1, 1) := by decide +kernel
theorem dX3_withBeside_3 : decode cX3_withBeside 3 = .ok (.invokevirtual 42, 3) := by decide +kernel
theorem dX3_withBeside_6 : decode cX3_withBeside 6 = .ok (.lor, 1) := by decide +kernel
theorem dX3_withBeside_7 : decode cX3_withBeside 7 = .ok (.aload_n 0, 1) := by decide +kernel
theorem dX3_withBeside_8 : decode cX3_withBeside 8 = .ok (.lload_n 1, 1) := by decide +kernel
theorem dX3_withBeside_9 : decode cX3_withBeside 9 = .ok (.invokevirtual 46, 3) := by decide +kernel
theorem dX3_withBeside_12 : decode cX3_withBeside 12 = .ok (.lor, 1) := by decide +kernel
theorem dX3_withBeside_13 : decode cX3_withBeside 13 = .ok (.aload_n 0, 1) := by decide +kernel
theorem dX3_withBeside_14 : decode cX3_withBeside 14 = .ok (.lload_n 1, 1) := by decide +kernel
theorem dX3_withBeside_15 : decode cX3_withBeside 15 = .ok (.invokevirtual 49, 3) := by decide +kernel
theorem dX3_withBeside_18 : decode cX3_withBeside 18 = .ok (.lor, 1) := by decide +kernel
theorem dX3_withBeside_19 : decode cX3_withBeside 19 = .ok (.aload_n 0, 1) := by decide +kernel
theorem dX3_withBeside_20 : decode cX3_withBeside 20 = .ok (.lload_n 1, 1) := by decide +kernel
theorem dX3_withBeside_21 : decode cX3_withBeside 21 = .ok (.invokevirtual 52, 3) := by decide +kernel
theorem dX3_withBeside_24 : decode cX3_withBeside 24 = .ok (.lor, 1) := by decide +kernel
theorem dX3_withBeside_25 : decode cX3_withBeside 25 = .ok (.lload_n 3, 1) := by decide +kernel
theorem dX3_withBeside_26 : decode cX3_withBeside 26 = .ok (.land, 1) := by decide +kernel
theorem dX3_withBeside_27 : decode cX3_withBeside 27 = .ok (.lreturn, 1) := by decide +kernel
set_option maxRecDepth 20000 in
theorem ggX3_lawn_X3_withBeside : GoodIn wsX3_lawn wsX3_withBeside := goodIn_r _ [5, 6, 7, 8, 4, 9, 10, 11, 12, 13, 14, 15, 16, 17, 18, 19, 20, 21, 22, 23, 24, 25, 26, 27, 28, 29, 30, 31, 32, 33, 34, 35, 36, 37] (by decide +kernel) (by decide +kernel)
set_option maxRecDepth 20000 in
theorem gX3_lawn_X3_withBeside : GoodIn wsX3_lawn (wsV RX3 55 RX3 yX3_withBeside wsX3_withBeside) := goodIn_app (goodIn_of _ (by decide +kernel)) ggX3_lawn_X3_withBeside
theorem dX3_lawn_0 : decode cX3_lawn 0 = .ok (.lload_n 1, 1) := by decide +kernel
theorem dX3_lawn_1 : decode cX3_lawn 1 = .ok (.lload_n 3, 1) := by decide +kernel
theorem dX3_lawn_2 : decode cX3_lawn 2 = .ok (.land, 1) := by decide +kernel
theorem dX3_lawn_3 : decode cX3_lawn 3 = .ok (.lstore 5, 2) := by decide +kernel
theorem dX3_lawn_5 : decode cX3_lawn 5 = .ok (.iconst 0, 1) := by decide +kernel
theorem dX3_lawn_6 : decode cX3_lawn 6 = .ok (.istore 7, 2) := by decide +kernel
theorem dX3_lawn_8 : decode cX3_lawn 8 = .ok (.iload 7, 2) := by decide +kernel
theorem dX3_lawn_10 : decode cX3_lawn 10 = .ok (.bipush 64, 2) := by decide +kernel
theorem dX3_lawn_12 : decode cX3_lawn 12 = .ok (.if_icmp .ge 33, 3) := by decide +kernel
theorem dX3_lawn_15 : decode cX3_lawn 15 = .ok (.aload_n 0, 1) := by decide +kernel
theorem dX3_lawn_16 : decode cX3_lawn 16 = .ok (.lload 5, 2) := by decide +kernel
theorem dX3_lawn_18 : decode cX3_lawn 18 = .ok (.lload_n 3, 1) := by decide +kernel
theorem dX3_lawn_19 : decode cX3_lawn 19 = .ok (.invokevirtual 55, 3) := by decide +kernel
theorem dX3_lawn_22 : decode cX3_lawn 22 = .ok (.lstore 8, 2) := by decide +kernel
theorem dX3_lawn_24 : decode cX3_lawn 24 = .ok (.lload 8, 2) := by decide +kernel
theorem dX3_lawn_26 : decode cX3_lawn 26 = .ok (.lload 5, 2) := by decide +kernel
theorem dX3_lawn_28 : decode cX3_lawn 28 = .ok (.lcmp, 1) := by decide +kernel
theorem dX3_lawn_29 : decode cX3_lawn 29 = .ok (.ifCond .ne 6, 3) := by decide +kernel
theorem dX3_lawn_32 : decode cX3_lawn 32 = .ok (.goto 13, 3) := by decide +kernel
theorem dX3_lawn_35 : decode cX3_lawn 35 = .ok (.lload 8, 2) := by decide +kernel
theorem dX3_lawn_37 : decode cX3_lawn 37 = .ok (.lstore 5, 2) := by decide +kernel
theorem dX3_lawn_39 : decode cX3_lawn 39 = .ok (.iinc 7 1, 3) := by decide +kernel
theorem dX3_lawn_42 : decode cX3_lawn 42 = .ok (.goto (-34), 3) := by decide +kernel
theorem dX3_lawn_45 : decode cX3_lawn 45 = .ok (.lload 5, 2) := by decide +kernel
theorem dX3_lawn_47 : decode cX3_lawn 47 = .ok (.lreturn, 1) := by decide +kernel
set_option maxRecDepth 20000 in
theorem ggX3_steps_X3_withBeside : GoodIn wsX3_steps wsX3_withBeside := goodIn_r _ [5, 6, 7, 8, 4, 9, 10, 11, 12, 13, 14, 15, 16, 17, 18, 19, 20, 21, 22, 23, 24, 25, 26, 27, 28, 29, 30, 31, 32, 33, 34, 35, 36, 37] (by decide +kernel) (by decide +kernel)
set_option maxRecDepth 20000 in
theorem gX3_steps_X3_withBeside : GoodIn wsX3_steps (wsV RX3 55 RX3 yX3_withBeside wsX3_withBeside) := goodIn_app (goodIn_of _ (by decide +kernel)) ggX3_steps_X3_withBeside
theorem dX3_steps_0 : decode cX3_steps 0 = .ok (.lload_n 1, 1) := by decide +kernel
theorem dX3_steps_1 : decode cX3_steps 1 = .ok (.lload 5, 2) := by decide +kernel
theorem dX3_steps_3 : decode cX3_steps 3 = .ok (.land, 1) := by decide +kernel
theorem dX3_steps_4 : decode cX3_steps 4 = .ok (.lstore 7, 2) := by decide +kernel
theorem dX3_steps_6 : decode cX3_steps 6 = .ok (.iconst 0, 1) := by decide +kernel
theorem dX3_steps_7 : decode cX3_steps 7 = .ok (.istore 9, 2) := by decide +kernel
theorem dX3_steps_9 : decode cX3_steps 9 = .ok (.iload 9, 2) := by decide +kernel
theorem dX3_steps_11 : decode cX3_steps 11 = .ok (.bipush 64, 2) := by decide +kernel
theorem dX3_steps_13 : decode cX3_steps 13 = .ok (.if_icmp .ge 31, 3) := by decide +kernel
theorem dX3_steps_16 : decode cX3_steps 16 = .ok (.lload 7, 2) := by decide +kernel
theorem dX3_steps_18 : decode cX3_steps 18 = .ok (.lload_n 3, 1) := by decide +kernel
theorem dX3_steps_19 : decode cX3_steps 19 = .ok (.land, 1) := by decide +kernel
theorem dX3_steps_20 : decode cX3_steps 20 = .ok (.lconst 0, 1) := by decide +kernel
theorem dX3_steps_21 : decode cX3_steps 21 = .ok (.lcmp, 1) := by decide +kernel
theorem dX3_steps_22 : decode cX3_steps 22 = .ok (.ifCond .eq 6, 3) := by decide +kernel
theorem dX3_steps_25 : decode cX3_steps 25 = .ok (.iload 9, 2) := by decide +kernel
theorem dX3_steps_27 : decode cX3_steps 27 = .ok (.ireturn, 1) := by decide +kernel
theorem dX3_steps_28 : decode cX3_steps 28 = .ok (.aload_n 0, 1) := by decide +kernel
theorem dX3_steps_29 : decode cX3_steps 29 = .ok (.lload 7, 2) := by decide +kernel
theorem dX3_steps_31 : decode cX3_steps 31 = .ok (.lload 5, 2) := by decide +kernel
theorem dX3_steps_33 : decode cX3_steps 33 = .ok (.invokevirtual 55, 3) := by decide +kernel
theorem dX3_steps_36 : decode cX3_steps 36 = .ok (.lstore 7, 2) := by decide +kernel
theorem dX3_steps_38 : decode cX3_steps 38 = .ok (.iinc 9 1, 3) := by decide +kernel
theorem dX3_steps_41 : decode cX3_steps 41 = .ok (.goto (-32), 3) := by decide +kernel
theorem dX3_steps_44 : decode cX3_steps 44 = .ok (.iconst (-1), 1) := by decide +kernel
theorem dX3_steps_45 : decode cX3_steps 45 = .ok (.ireturn, 1) := by decide +kernel
set_option maxRecDepth 20000 in
theorem ggX4_init_X0_init : GoodIn wsX4_init wsX0_init := goodIn_r _ [12, 13, 2, 3] (by decide +kernel) (by decide +kernel)
set_option maxRecDepth 20000 in
theorem gX4_init_X0_init_n9 : GoodIn wsX4_init (wsX0_init) := ggX4_init_X0_init
theorem dX4_init_0 : decode cX4_init 0 = .ok (.aload_n 0, 1) := by decide +kernel
theorem dX4_init_1 : decode cX4_init 1 = .ok (.invokespecial 1, 3) := by decide +kernel
theorem dX4_init_4 : decode cX4_init 4 = .ok (.aload_n 0, 1) := by decide +kernel
theorem dX4_init_5 : decode cX4_init 5 = .ok (.new 7, 3) := by decide +kernel
theorem dX4_init_8 : decode cX4_init 8 = .ok (.dup, 1) := by decide +kernel
theorem dX4_init_9 : decode cX4_init 9 = .ok (.invokespecial 9, 3) := by decide +kernel
theorem dX4_init_12 : decode cX4_init 12 = .ok (.putfield 10, 3) := by decide +kernel
theorem dX4_init_15 : decode cX4_init 15 = .ok (.aload_n 0, 1) := by decide +kernel
theorem dX4_init_16 : decode cX4_init 16 = .ok (.bipush 8, 2) := by decide +kernel
theorem dX4_init_18 : decode cX4_init 18 = .ok (.putfield 16, 3) := by decide +kernel
theorem dX4_init_21 : decode cX4_init 21 = .ok (.aload_n 0, 1) := by decide +kernel
theorem dX4_init_22 : decode cX4_init 22 = .ok (.bipush 62, 2) := by decide +kernel
theorem dX4_init_24 : decode cX4_init 24 = .ok (.putfield 20, 3) := by decide +kernel
theorem dX4_init_27 : decode cX4_init 27 = .ok (.aload_n 0, 1) := by decide +kernel
theorem dX4_init_28 : decode cX4_init 28 = .ok (.aload_n 1, 1) := by decide +kernel
theorem dX4_init_29 : decode cX4_init 29 = .ok (.putfield 23, 3) := by decide +kernel
theorem dX4_init_32 : decode cX4_init 32 = .ok (.return_, 1) := by decide +kernel
theorem dX4_births_0 : decode cX4_births 0 = .ok (.aload_n 0, 1) := by decide +kernel
theorem dX4_births_1 : decode cX4_births 1 = .ok (.getfield 16, 3) := by decide +kernel
theorem dX4_births_4 : decode cX4_births 4 = .ok (.ireturn, 1) := by decide +kernel
theorem dX4_stays_0 : decode cX4_stays 0 = .ok (.aload_n 0, 1) := by decide +kernel
theorem dX4_stays_1 : decode cX4_stays 1 = .ok (.getfield 20, 3) := by decide +kernel
theorem dX4_stays_4 : decode cX4_stays 4 = .ok (.ireturn, 1) := by decide +kernel
theorem dX4_replace_0 : decode cX4_replace 0 = .ok (.aload_n 0, 1) := by decide +kernel
theorem dX4_replace_1 : decode cX4_replace 1 = .ok (.iload_n 1, 1) := by decide +kernel
theorem dX4_replace_2 : decode cX4_replace 2 = .ok (.putfield 16, 3) := by decide +kernel
theorem dX4_replace_5 : decode cX4_replace 5 = .ok (.aload_n 0, 1) := by decide +kernel
theorem dX4_replace_6 : decode cX4_replace 6 = .ok (.iload_n 2, 1) := by decide +kernel
theorem dX4_replace_7 : decode cX4_replace 7 = .ok (.putfield 20, 3) := by decide +kernel
theorem dX4_replace_10 : decode cX4_replace 10 = .ok (.return_, 1) := by decide +kernel
set_option maxRecDepth 20000 in
theorem ggX4_neighbours_X0_lookAround : GoodIn wsX4_neighbours wsX0_lookAround := goodIn_r _ [7, 8, 9, 10, 11, 12, 13, 14, 15, 16, 17, 18, 19, 20, 21, 22, 23, 24, 25, 26, 27, 28, 29, 30, 31, 32, 33, 34, 6, 35, 36, 37, 38, 39, 40, 52, 53, 54, 55, 56, 57, 58, 59, 60, 61, 62, 63] (by decide +kernel) (by decide +kernel)
set_option maxRecDepth 20000 in
theorem gX4_neighbours_X0_lookAround : GoodIn wsX4_neighbours (wsV RX4 27 RX0 yX0_lookAround wsX0_lookAround) := goodIn_app (goodIn_of _ (by decide +kernel)) ggX4_neighbours_X0_lookAround
set_option maxRecDepth 20000 in
theorem ggX4_neighbours_X0_around : GoodIn wsX4_neighbours wsX0_around := goodIn_r _ [44, 8, 9, 10, 11, 45, 46, 6, 47, 52, 53, 54, 55] (by decide +kernel) (by decide +kernel)
set_option maxRecDepth 20000 in
theorem gX4_neighbours_X0_around : GoodIn wsX4_neighbours (wsV RX4 31 RX0 yX0_around wsX0_around) := goodIn_app (goodIn_of _ (by decide +kernel)) ggX4_neighbours_X0_around
theorem dX4_neighbours_0 : decode cX4_neighbours 0 = .ok (.aload_n 0, 1) := by decide +kernel
theorem dX4_neighbours_1 : decode cX4_neighbours 1 = .ok (.getfield 10, 3) := by decide +kernel
theorem dX4_neighbours_4 : decode cX4_neighbours 4 = .ok (.lload_n 1, 1) := by decide +kernel
theorem dX4_neighbours_5 : decode cX4_neighbours 5 = .ok (.aload_n 0, 1) := by decide +kernel
theorem dX4_neighbours_6 : decode cX4_neighbours 6 = .ok (.getfield 23, 3) := by decide +kernel
theorem dX4_neighbours_9 : decode cX4_neighbours 9 = .ok (.invokevirtual 27, 3) := by decide +kernel
theorem dX4_neighbours_12 : decode cX4_neighbours 12 = .ok (.aload_n 0, 1) := by decide +kernel
theorem dX4_neighbours_13 : decode cX4_neighbours 13 = .ok (.getfield 10, 3) := by decide +kernel
theorem dX4_neighbours_16 : decode cX4_neighbours 16 = .ok (.lload_n 3, 1) := by decide +kernel
theorem dX4_neighbours_17 : decode cX4_neighbours 17 = .ok (.invokevirtual 31, 3) := by decide +kernel
theorem dX4_neighbours_20 : decode cX4_neighbours 20 = .ok (.ireturn, 1) := by decide +kernel
set_option maxRecDepth 20000 in
theorem ggX4_born_X0_lookAround : GoodIn wsX4_born wsX0_lookAround := goodIn_r _ [8, 9, 10, 11, 12, 13, 14, 15, 16, 17, 18, 19, 20, 21, 22, 23, 24, 25, 26, 27, 28, 29, 30, 31, 32, 33, 34, 35, 7, 36, 37, 38, 39, 40, 41, 64, 65, 66, 67, 68, 69, 70, 71, 72, 73, 74, 75] (by decide +kernel) (by decide +kernel)
set_option maxRecDepth 20000 in
theorem gX4_born_X0_lookAround : GoodIn wsX4_born (wsV RX4 27 RX0 yX0_lookAround wsX0_lookAround) := goodIn_app (goodIn_of _ (by decide +kernel)) ggX4_born_X0_lookAround
set_option maxRecDepth 20000 in
theorem ggX4_born_X3_open : GoodIn wsX4_born wsX3_open := goodIn_r _ [45, 46, 19, 68, 69, 70, 71, 72, 73, 74, 75] (by decide +kernel) (by decide +kernel)
set_option maxRecDepth 20000 in
theorem gX4_born_X3_open : GoodIn wsX4_born (wsV RX4 35 RX3 yX3_open wsX3_open) := goodIn_app (goodIn_of _ (by decide +kernel)) ggX4_born_X3_open
set_option maxRecDepth 20000 in
theorem ggX4_born_X4_cellsWithOneOf : GoodIn wsX4_born wsX4_cellsWithOneOf := goodIn_r _ [51, 1, 52, 53, 54, 7, 55, 9, 56, 10, 11, 12, 57, 58, 59, 60, 61, 62, 63, 64, 65, 66, 67] (by decide +kernel) (by decide +kernel)
set_option maxRecDepth 20000 in
theorem gX4_born_X4_cellsWithOneOf : GoodIn wsX4_born (wsV RX4 41 RX4 yX4_cellsWithOneOf wsX4_cellsWithOneOf) := goodIn_app (goodIn_of _ (by decide +kernel)) ggX4_born_X4_cellsWithOneOf
theorem dX4_born_0 : decode cX4_born 0 = .ok (.aload_n 0, 1) := by decide +kernel
theorem dX4_born_1 : decode cX4_born 1 = .ok (.getfield 10, 3) := by decide +kernel
theorem dX4_born_4 : decode cX4_born 4 = .ok (.lload_n 1, 1) := by decide +kernel
theorem dX4_born_5 : decode cX4_born 5 = .ok (.aload_n 0, 1) := by decide +kernel
theorem dX4_born_6 : decode cX4_born 6 = .ok (.getfield 23, 3) := by decide +kernel
theorem dX4_born_9 : decode cX4_born 9 = .ok (.invokevirtual 27, 3) := by decide +kernel
theorem dX4_born_12 : decode cX4_born 12 = .ok (.aload_n 0, 1) := by decide +kernel
theorem dX4_born_13 : decode cX4_born 13 = .ok (.getfield 23, 3) := by decide +kernel
theorem dX4_born_16 : decode cX4_born 16 = .ok (.lload_n 1, 1) := by decide +kernel
theorem dX4_born_17 : decode cX4_born 17 = .ok (.invokevirtual 35, 3) := by decide +kernel
theorem dX4_born_20 : decode cX4_born 20 = .ok (.aload_n 0, 1) := by decide +kernel
theorem dX4_born_21 : decode cX4_born 21 = .ok (.aload_n 0, 1) := by decide +kernel
theorem dX4_born_22 : decode cX4_born 22 = .ok (.getfield 16, 3) := by decide +kernel
theorem dX4_born_25 : decode cX4_born 25 = .ok (.invokevirtual 41, 3) := by decide +kernel
theorem dX4_born_28 : decode cX4_born 28 = .ok (.land, 1) := by decide +kernel
theorem dX4_born_29 : decode cX4_born 29 = .ok (.lreturn, 1) := by decide +kernel
set_option maxRecDepth 20000 in
theorem ggX4_staying_X0_lookAround : GoodIn wsX4_staying wsX0_lookAround := goodIn_r _ [8, 9, 10, 11, 12, 13, 14, 15, 16, 17, 18, 19, 20, 21, 22, 23, 24, 25, 26, 27, 28, 29, 30, 31, 32, 33, 34, 35, 7, 36, 37, 38, 39, 40, 41, 59, 60, 61, 62, 63, 64, 65, 66, 67, 68, 69, 70] (by decide +kernel) (by decide +kernel)
set_option maxRecDepth 20000 in
theorem gX4_staying_X0_lookAround : GoodIn wsX4_staying (wsV RX4 27 RX0 yX0_lookAround wsX0_lookAround) := goodIn_app (goodIn_of _ (by decide +kernel)) ggX4_staying_X0_lookAround
set_option maxRecDepth 20000 in
theorem ggX4_staying_X4_cellsWithOneOf : GoodIn wsX4_staying wsX4_cellsWithOneOf := goodIn_r _ [46, 1, 47, 48, 49, 7, 50, 9, 51, 10, 11, 12, 52, 53, 54, 55, 56, 57, 58, 59, 60, 61, 62] (by decide +kernel) (by decide +kernel)
set_option maxRecDepth 20000 in
theorem gX4_staying_X4_cellsWithOneOf : GoodIn wsX4_staying (wsV RX4 41 RX4 yX4_cellsWithOneOf wsX4_cellsWithOneOf) := goodIn_app (goodIn_of _ (by decide +kernel)) ggX4_staying_X4_cellsWithOneOf
theorem dX4_staying_0 : decode cX4_staying 0 = .ok (.aload_n 0, 1) := by decide +kernel
theorem dX4_staying_1 : decode cX4_staying 1 = .ok (.getfield 10, 3) := by decide +kernel
theorem dX4_staying_4 : decode cX4_staying 4 = .ok (.lload_n 1, 1) := by decide +kernel
theorem dX4_staying_5 : decode cX4_staying 5 = .ok (.aload_n 0, 1) := by decide +kernel
theorem dX4_staying_6 : decode cX4_staying 6 = .ok (.getfield 23, 3) := by decide +kernel
theorem dX4_staying_9 : decode cX4_staying 9 = .ok (.invokevirtual 27, 3) := by decide +kernel
theorem dX4_staying_12 : decode cX4_staying 12 = .ok (.lload_n 1, 1) := by decide +kernel
theorem dX4_staying_13 : decode cX4_staying 13 = .ok (.aload_n 0, 1) := by decide +kernel
theorem dX4_staying_14 : decode cX4_staying 14 = .ok (.aload_n 0, 1) := by decide +kernel
theorem dX4_staying_15 : decode cX4_staying 15 = .ok (.getfield 20, 3) := by decide +kernel
theorem dX4_staying_18 : decode cX4_staying 18 = .ok (.invokevirtual 41, 3) := by decide +kernel
theorem dX4_staying_21 : decode cX4_staying 21 = .ok (.land, 1) := by decide +kernel
theorem dX4_staying_22 : decode cX4_staying 22 = .ok (.lreturn, 1) := by decide +kernel
set_option maxRecDepth 20000 in
theorem ggX4_cellsWithOneOf_X0_cellsWith : GoodIn wsX4_cellsWithOneOf wsX0_cellsWith := goodIn_r _ [6, 7, 8, 9, 10, 11, 12, 13, 5, 14, 19, 20, 21, 22] (by decide +kernel) (by decide +kernel)
set_option maxRecDepth 20000 in
theorem gX4_cellsWithOneOf_X0_cellsWith : GoodIn wsX4_cellsWithOneOf (wsV RX4 45 RX0 yX0_cellsWith wsX0_cellsWith) := goodIn_app (goodIn_of _ (by decide +kernel)) ggX4_cellsWithOneOf_X0_cellsWith
theorem dX4_cellsWithOneOf_0 : decode cX4_cellsWithOneOf 0 = .ok (.lconst 0, 1) := by decide +kernel
theorem dX4_cellsWithOneOf_1 : decode cX4_cellsWithOneOf 1 = .ok (.lstore_n 2, 1) := by decide +kernel
theorem dX4_cellsWithOneOf_2 : decode cX4_cellsWithOneOf 2 = .ok (.iconst 0, 1) := by decide +kernel
theorem dX4_cellsWithOneOf_3 : decode cX4_cellsWithOneOf 3 = .ok (.istore 4, 2) := by decide +kernel
theorem dX4_cellsWithOneOf_5 : decode cX4_cellsWithOneOf 5 = .ok (.iload 4, 2) := by decide +kernel
theorem dX4_cellsWithOneOf_7 : decode cX4_cellsWithOneOf 7 = .ok (.bipush 8, 2) := by decide +kernel
theorem dX4_cellsWithOneOf_9 : decode cX4_cellsWithOneOf 9 = .ok (.if_icmp .gt 30, 3) := by decide +kernel
theorem dX4_cellsWithOneOf_12 : decode cX4_cellsWithOneOf 12 = .ok (.iload_n 1, 1) := by decide +kernel
theorem dX4_cellsWithOneOf_13 : decode cX4_cellsWithOneOf 13 = .ok (.iload 4, 2) := by decide +kernel
theorem dX4_cellsWithOneOf_15 : decode cX4_cellsWithOneOf 15 = .ok (.ishr, 1) := by decide +kernel
theorem dX4_cellsWithOneOf_16 : decode cX4_cellsWithOneOf 16 = .ok (.iconst 1, 1) := by decide +kernel
theorem dX4_cellsWithOneOf_17 : decode cX4_cellsWithOneOf 17 = .ok (.iand, 1) := by decide +kernel
theorem dX4_cellsWithOneOf_18 : decode cX4_cellsWithOneOf 18 = .ok (.ifCond .eq 15, 3) := by decide +kernel
theorem dX4_cellsWithOneOf_21 : decode cX4_cellsWithOneOf 21 = .ok (.lload_n 2, 1) := by decide +kernel
theorem dX4_cellsWithOneOf_22 : decode cX4_cellsWithOneOf 22 = .ok (.aload_n 0, 1) := by decide +kernel
theorem dX4_cellsWithOneOf_23 : decode cX4_cellsWithOneOf 23 = .ok (.getfield 10, 3) := by decide +kernel
theorem dX4_cellsWithOneOf_26 : decode cX4_cellsWithOneOf 26 = .ok (.iload 4, 2) := by decide +kernel
theorem dX4_cellsWithOneOf_28 : decode cX4_cellsWithOneOf 28 = .ok (.invokevirtual 45, 3) := by decide +kernel
theorem dX4_cellsWithOneOf_31 : decode cX4_cellsWithOneOf 31 = .ok (.lor, 1) := by decide +kernel
theorem dX4_cellsWithOneOf_32 : decode cX4_cellsWithOneOf 32 = .ok (.lstore_n 2, 1) := by decide +kernel
theorem dX4_cellsWithOneOf_33 : decode cX4_cellsWithOneOf 33 = .ok (.iinc 4 1, 3) := by decide +kernel
theorem dX4_cellsWithOneOf_36 : decode cX4_cellsWithOneOf 36 = .ok (.goto (-31), 3) := by decide +kernel
theorem dX4_cellsWithOneOf_39 : decode cX4_cellsWithOneOf 39 = .ok (.lload_n 2, 1) := by decide +kernel
theorem dX4_cellsWithOneOf_40 : decode cX4_cellsWithOneOf 40 = .ok (.lreturn, 1) := by decide +kernel
set_option maxRecDepth 20000 in
theorem ggX4_behindYears_X4_born : GoodIn wsX4_behindYears wsX4_born := goodIn_r _ [5, 6, 7, 8, 9, 10, 11, 12, 13, 14, 15, 16, 17, 18, 19, 20, 21, 22, 23, 24, 25, 26, 27, 28, 29, 30, 31, 32, 33, 34, 35, 36, 37, 38, 39, 40, 41, 42, 43, 44, 45, 46, 47, 48, 49, 50, 51, 52, 53, 54, 4, 55, 56, 57, 58, 59, 60, 61, 62, 63, 69, 70, 71, 72, 73, 74, 75, 76, 77, 78, 79, 80, 81, 82, 83, 84] (by decide +kernel) (by decide +kernel)
set_option maxRecDepth 20000 in
theorem gX4_behindYears_X4_born : GoodIn wsX4_behindYears (wsV RX4 48 RX4 yX4_born wsX4_born) := goodIn_app (goodIn_of _ (by decide +kernel)) ggX4_behindYears_X4_born
set_option maxRecDepth 20000 in
theorem ggX4_behindYears_X4_staying : GoodIn wsX4_behindYears wsX4_staying := goodIn_r _ [67, 6, 7, 68, 9, 10, 11, 12, 13, 14, 15, 16, 17, 18, 19, 20, 21, 22, 23, 24, 25, 26, 27, 28, 29, 30, 31, 32, 33, 34, 35, 36, 37, 38, 39, 40, 41, 42, 43, 44, 45, 46, 52, 53, 54, 4, 55, 56, 57, 58, 59, 60, 61, 62, 63, 69, 70, 71, 72, 73, 74, 75, 76, 77, 78, 79, 80, 81, 82, 83, 84] (by decide +kernel) (by decide +kernel)
set_option maxRecDepth 20000 in
theorem gX4_behindYears_X4_staying : GoodIn wsX4_behindYears (wsV RX4 51 RX4 yX4_staying wsX4_staying) := goodIn_app (goodIn_of _ (by decide +kernel)) ggX4_behindYears_X4_staying
theorem dX4_behindYears_0 : decode cX4_behindYears 0 = .ok (.lload_n 1, 1) := by decide +kernel
theorem dX4_behindYears_1 : decode cX4_behindYears 1 = .ok (.lstore 4, 2) := by decide +kernel
theorem dX4_behindYears_3 : decode cX4_behindYears 3 = .ok (.iconst 0, 1) := by decide +kernel
theorem dX4_behindYears_4 : decode cX4_behindYears 4 = .ok (.istore 6, 2) := by decide +kernel
theorem dX4_behindYears_6 : decode cX4_behindYears 6 = .ok (.iload 6, 2) := by decide +kernel
theorem dX4_behindYears_8 : decode cX4_behindYears 8 = .ok (.iload_n 3, 1) := by decide +kernel
theorem dX4_behindYears_9 : decode cX4_behindYears 9 = .ok (.if_icmp .ge 24, 3) := by decide +kernel
theorem dX4_behindYears_12 : decode cX4_behindYears 12 = .ok (.aload_n 0, 1) := by decide +kernel
theorem dX4_behindYears_13 : decode cX4_behindYears 13 = .ok (.lload 4, 2) := by decide +kernel
theorem dX4_behindYears_15 : decode cX4_behindYears 15 = .ok (.invokevirtual 48, 3) := by decide +kernel
theorem dX4_behindYears_18 : decode cX4_behindYears 18 = .ok (.aload_n 0, 1) := by decide +kernel
theorem dX4_behindYears_19 : decode cX4_behindYears 19 = .ok (.lload 4, 2) := by decide +kernel
theorem dX4_behindYears_21 : decode cX4_behindYears 21 = .ok (.invokevirtual 51, 3) := by decide +kernel
theorem dX4_behindYears_24 : decode cX4_behindYears 24 = .ok (.lor, 1) := by decide +kernel
theorem dX4_behindYears_25 : decode cX4_behindYears 25 = .ok (.lstore 4, 2) := by decide +kernel
theorem dX4_behindYears_27 : decode cX4_behindYears 27 = .ok (.iinc 6 1, 3) := by decide +kernel
theorem dX4_behindYears_30 : decode cX4_behindYears 30 = .ok (.goto (-24), 3) := by decide +kernel
theorem dX4_behindYears_33 : decode cX4_behindYears 33 = .ok (.lload 4, 2) := by decide +kernel
theorem dX4_behindYears_35 : decode cX4_behindYears 35 = .ok (.lreturn, 1) := by decide +kernel
set_option maxRecDepth 20000 in
theorem ggX5_init_X3_init : GoodIn wsX5_init wsX3_init := goodIn_r _ [20, 21, 2, 3] (by decide +kernel) (by decide +kernel)
set_option maxRecDepth 20000 in
theorem gX5_init_X3_init_n9 : GoodIn wsX5_init (wsX3_init) := ggX5_init_X3_init
set_option maxRecDepth 20000 in
theorem ggX5_init_X4_init : GoodIn wsX5_init wsX4_init := goodIn_r _ [24, 25, 2, 3, 26, 27, 28, 29, 30, 31, 32, 33, 34, 35, 82, 83, 84, 85, 71, 72, 73, 74] (by decide +kernel) (by decide +kernel)
set_option maxRecDepth 20000 in
theorem gX5_init_X4_init : GoodIn wsX5_init (wsX4_init) := ggX5_init_X4_init
set_option maxRecDepth 20000 in
theorem ggX5_init_X2_init : GoodIn wsX5_init wsX2_init := goodIn_r _ [38, 39, 2, 3, 40, 41, 42, 43, 75, 76, 77, 78, 79, 80, 81] (by decide +kernel) (by decide +kernel)
set_option maxRecDepth 20000 in
theorem gX5_init_X2_init : GoodIn wsX5_init (wsX2_init) := ggX5_init_X2_init
set_option maxRecDepth 20000 in
theorem ggX5_init_X3_resize : GoodIn wsX5_init wsX3_resize := goodIn_r _ [47, 48, 49, 50, 51, 52, 53, 54, 55, 56, 6, 57, 58, 59, 60, 61, 62, 63, 64, 65] (by decide +kernel) (by decide +kernel)
set_option maxRecDepth 20000 in
theorem gX5_init_X3_resize : GoodIn wsX5_init (wsV RX5 41 RX3 yX3_resize wsX3_resize) := goodIn_app (goodIn_of _ (by decide +kernel)) ggX5_init_X3_resize
theorem dX5_init_0 : decode cX5_init 0 = .ok (.aload_n 0, 1) := by decide +kernel
theorem dX5_init_1 : decode cX5_init 1 = .ok (.invokespecial 1, 3) := by decide +kernel
theorem dX5_init_4 : decode cX5_init 4 = .ok (.aload_n 0, 1) := by decide +kernel
theorem dX5_init_5 : decode cX5_init 5 = .ok (.new 7, 3) := by decide +kernel
theorem dX5_init_8 : decode cX5_init 8 = .ok (.dup, 1) := by decide +kernel
theorem dX5_init_9 : decode cX5_init 9 = .ok (.invokespecial 9, 3) := by decide +kernel
theorem dX5_init_12 : decode cX5_init 12 = .ok (.putfield 10, 3) := by decide +kernel
theorem dX5_init_15 : decode cX5_init 15 = .ok (.aload_n 0, 1) := by decide +kernel
theorem dX5_init_16 : decode cX5_init 16 = .ok (.new 16, 3) := by decide +kernel
theorem dX5_init_19 : decode cX5_init 19 = .ok (.dup, 1) := by decide +kernel
theorem dX5_init_20 : decode cX5_init 20 = .ok (.aload_n 0, 1) := by decide +kernel
theorem dX5_init_21 : decode cX5_init 21 = .ok (.getfield 10, 3) := by decide +kernel
theorem dX5_init_24 : decode cX5_init 24 = .ok (.invokespecial 18, 3) := by decide +kernel
theorem dX5_init_27 : decode cX5_init 27 = .ok (.putfield 21, 3) := by decide +kernel
theorem dX5_init_30 : decode cX5_init 30 = .ok (.aload_n 0, 1) := by decide +kernel
theorem dX5_init_31 : decode cX5_init 31 = .ok (.new 25, 3) := by decide +kernel
theorem dX5_init_34 : decode cX5_init 34 = .ok (.dup, 1) := by decide +kernel
theorem dX5_init_35 : decode cX5_init 35 = .ok (.aload_n 0, 1) := by decide +kernel
theorem dX5_init_36 : decode cX5_init 36 = .ok (.getfield 10, 3) := by decide +kernel
theorem dX5_init_39 : decode cX5_init 39 = .ok (.aload_n 0, 1) := by decide +kernel
theorem dX5_init_40 : decode cX5_init 40 = .ok (.getfield 21, 3) := by decide +kernel
theorem dX5_init_43 : decode cX5_init 43 = .ok (.invokespecial 27, 3) := by decide +kernel
theorem dX5_init_46 : decode cX5_init 46 = .ok (.putfield 30, 3) := by decide +kernel
theorem dX5_init_49 : decode cX5_init 49 = .ok (.aload_n 0, 1) := by decide +kernel
theorem dX5_init_50 : decode cX5_init 50 = .ok (.new 25, 3) := by decide +kernel
theorem dX5_init_53 : decode cX5_init 53 = .ok (.dup, 1) := by decide +kernel
theorem dX5_init_54 : decode cX5_init 54 = .ok (.aload_n 0, 1) := by decide +kernel
theorem dX5_init_55 : decode cX5_init 55 = .ok (.getfield 10, 3) := by decide +kernel
theorem dX5_init_58 : decode cX5_init 58 = .ok (.aload_n 0, 1) := by decide +kernel
theorem dX5_init_59 : decode cX5_init 59 = .ok (.getfield 21, 3) := by decide +kernel
theorem dX5_init_62 : decode cX5_init 62 = .ok (.invokespecial 27, 3) := by decide +kernel
theorem dX5_init_65 : decode cX5_init 65 = .ok (.putfield 34, 3) := by decide +kernel
theorem dX5_init_68 : decode cX5_init 68 = .ok (.aload_n 0, 1) := by decide +kernel
theorem dX5_init_69 : decode cX5_init 69 = .ok (.bipush 61, 2) := by decide +kernel
theorem dX5_init_71 : decode cX5_init 71 = .ok (.newarray .long, 2) := by decide +kernel
theorem dX5_init_73 : decode cX5_init 73 = .ok (.putfield 37, 3) := by decide +kernel
theorem dX5_init_76 : decode cX5_init 76 = .ok (.aload_n 0, 1) := by decide +kernel
theorem dX5_init_77 : decode cX5_init 77 = .ok (.getfield 10, 3) := by decide +kernel
theorem dX5_init_80 : decode cX5_init 80 = .ok (.bipush 8, 2) := by decide +kernel
theorem dX5_init_82 : decode cX5_init 82 = .ok (.bipush 8, 2) := by decide +kernel
theorem dX5_init_84 : decode cX5_init 84 = .ok (.invokevirtual 41, 3) := by decide +kernel
theorem dX5_init_87 : decode cX5_init 87 = .ok (.return_, 1) := by decide +kernel
set_option maxRecDepth 20000 in
theorem ggX5_lay_X5_isSide : GoodIn wsX5_lay wsX5_isSide := goodIn_r _ [8] (by decide +kernel) (by decide +kernel)
set_option maxRecDepth 20000 in
theorem gX5_lay_X5_isSide : GoodIn wsX5_lay (va_wsS RX5 45 yX5_isSide wsX5_isSide) := goodIn_app (goodIn_of _ (by decide +kernel)) ggX5_lay_X5_isSide
set_option maxRecDepth 20000 in
theorem ggX5_lay_X2_size : GoodIn wsX5_lay wsX2_size := goodIn_r _ [13, 14, 15, 16, 17, 18, 19, 20, 21, 51, 52, 53, 54, 55, 56, 57] (by decide +kernel) (by decide +kernel)
set_option maxRecDepth 20000 in
theorem gX5_lay_X2_size : GoodIn wsX5_lay (wsV RX5 56 RX2 yX2_size wsX2_size) := goodIn_app (goodIn_of _ (by decide +kernel)) ggX5_lay_X2_size
set_option maxRecDepth 20000 in
theorem ggX5_lay_X2_hedges : GoodIn wsX5_lay wsX2_hedges := goodIn_r _ [25, 14, 51, 52, 53, 54, 55, 56, 57] (by decide +kernel) (by decide +kernel)
set_option maxRecDepth 20000 in
theorem gX5_lay_X2_hedges : GoodIn wsX5_lay (wsV RX5 60 RX2 yX2_hedges wsX2_hedges) := goodIn_app (goodIn_of _ (by decide +kernel)) ggX5_lay_X2_hedges
set_option maxRecDepth 20000 in
theorem ggX5_lay_X2_cut : GoodIn wsX5_lay wsX2_cut := goodIn_r _ [29, 14, 30, 51, 52, 53, 54, 55, 56, 57] (by decide +kernel) (by decide +kernel)
set_option maxRecDepth 20000 in
theorem gX5_lay_X2_cut : GoodIn wsX5_lay (wsV RX5 64 RX2 yX2_cut wsX2_cut) := goodIn_app (goodIn_of _ (by decide +kernel)) ggX5_lay_X2_cut
set_option maxRecDepth 20000 in
theorem ggX5_lay_X3_resize : GoodIn wsX5_lay wsX3_resize := goodIn_r _ [35, 36, 37, 38, 39, 40, 41, 42, 43, 44, 34, 45, 58, 59, 60, 61, 62, 63, 64, 65] (by decide +kernel) (by decide +kernel)
set_option maxRecDepth 20000 in
theorem gX5_lay_X3_resize : GoodIn wsX5_lay (wsV RX5 41 RX3 yX3_resize wsX3_resize) := goodIn_app (goodIn_of _ (by decide +kernel)) ggX5_lay_X3_resize
theorem dX5_lay_0 : decode cX5_lay 0 = .ok (.iload_n 1, 1) := by decide +kernel
theorem dX5_lay_1 : decode cX5_lay 1 = .ok (.invokestatic 45, 3) := by decide +kernel
theorem dX5_lay_4 : decode cX5_lay 4 = .ok (.ifCond .eq 10, 3) := by decide +kernel
theorem dX5_lay_7 : decode cX5_lay 7 = .ok (.iload_n 2, 1) := by decide +kernel
theorem dX5_lay_8 : decode cX5_lay 8 = .ok (.invokestatic 45, 3) := by decide +kernel
theorem dX5_lay_11 : decode cX5_lay 11 = .ok (.ifCond .ne 13, 3) := by decide +kernel
theorem dX5_lay_14 : decode cX5_lay 14 = .ok (.new 49, 3) := by decide +kernel
theorem dX5_lay_17 : decode cX5_lay 17 = .ok (.dup, 1) := by decide +kernel
theorem dX5_lay_18 : decode cX5_lay 18 = .ok (.ldc 51, 2) := by decide +kernel
theorem dX5_lay_20 : decode cX5_lay 20 = .ok (.invokespecial 53, 3) := by decide +kernel
theorem dX5_lay_23 : decode cX5_lay 23 = .ok (.athrow, 1) := by decide +kernel
theorem dX5_lay_24 : decode cX5_lay 24 = .ok (.aload_n 0, 1) := by decide +kernel
theorem dX5_lay_25 : decode cX5_lay 25 = .ok (.getfield 30, 3) := by decide +kernel
theorem dX5_lay_28 : decode cX5_lay 28 = .ok (.invokevirtual 56, 3) := by decide +kernel
theorem dX5_lay_31 : decode cX5_lay 31 = .ok (.istore_n 3, 1) := by decide +kernel
theorem dX5_lay_32 : decode cX5_lay 32 = .ok (.aload_n 0, 1) := by decide +kernel
theorem dX5_lay_33 : decode cX5_lay 33 = .ok (.getfield 30, 3) := by decide +kernel
theorem dX5_lay_36 : decode cX5_lay 36 = .ok (.aload_n 0, 1) := by decide +kernel
theorem dX5_lay_37 : decode cX5_lay 37 = .ok (.getfield 30, 3) := by decide +kernel
theorem dX5_lay_40 : decode cX5_lay 40 = .ok (.invokevirtual 60, 3) := by decide +kernel
theorem dX5_lay_43 : decode cX5_lay 43 = .ok (.invokevirtual 64, 3) := by decide +kernel
theorem dX5_lay_46 : decode cX5_lay 46 = .ok (.aload_n 0, 1) := by decide +kernel
theorem dX5_lay_47 : decode cX5_lay 47 = .ok (.getfield 10, 3) := by decide +kernel
theorem dX5_lay_50 : decode cX5_lay 50 = .ok (.iload_n 1, 1) := by decide +kernel
theorem dX5_lay_51 : decode cX5_lay 51 = .ok (.iload_n 2, 1) := by decide +kernel
theorem dX5_lay_52 : decode cX5_lay 52 = .ok (.invokevirtual 41, 3) := by decide +kernel
theorem dX5_lay_55 : decode cX5_lay 55 = .ok (.iload_n 3, 1) := by decide +kernel
theorem dX5_lay_56 : decode cX5_lay 56 = .ok (.ireturn, 1) := by decide +kernel
set_option maxRecDepth 20000 in
theorem ggX5_setRules_X5_isSetOfNumbers : GoodIn wsX5_setRules wsX5_isSetOfNumbers := goodIn_r _ [7] (by decide +kernel) (by decide +kernel)
set_option maxRecDepth 20000 in
theorem gX5_setRules_X5_isSetOfNumbers : GoodIn wsX5_setRules (va_wsS RX5 68 yX5_isSetOfNumbers wsX5_isSetOfNumbers) := goodIn_app (goodIn_of _ (by decide +kernel)) ggX5_setRules_X5_isSetOfNumbers
set_option maxRecDepth 20000 in
theorem ggX5_setRules_X4_births : GoodIn wsX5_setRules wsX4_births := goodIn_r _ [12, 13, 28, 29, 30, 31] (by decide +kernel) (by decide +kernel)
set_option maxRecDepth 20000 in
theorem gX5_setRules_X4_births : GoodIn wsX5_setRules (wsV RX5 73 RX4 yX4_births wsX4_births) := goodIn_app (goodIn_of _ (by decide +kernel)) ggX5_setRules_X4_births
set_option maxRecDepth 20000 in
theorem ggX5_setRules_X4_stays : GoodIn wsX5_setRules wsX4_stays := goodIn_r _ [17, 18, 28, 29, 30, 31] (by decide +kernel) (by decide +kernel)
set_option maxRecDepth 20000 in
theorem gX5_setRules_X4_stays : GoodIn wsX5_setRules (wsV RX5 76 RX4 yX4_stays wsX4_stays) := goodIn_app (goodIn_of _ (by decide +kernel)) ggX5_setRules_X4_stays
set_option maxRecDepth 20000 in
theorem ggX5_setRules_X4_replace : GoodIn wsX5_setRules wsX4_replace := goodIn_r _ [22, 13, 18, 28, 29, 30, 31] (by decide +kernel) (by decide +kernel)
set_option maxRecDepth 20000 in
theorem gX5_setRules_X4_replace : GoodIn wsX5_setRules (wsV RX5 79 RX4 yX4_replace wsX4_replace) := goodIn_app (goodIn_of _ (by decide +kernel)) ggX5_setRules_X4_replace
theorem dX5_setRules_0 : decode cX5_setRules 0 = .ok (.iload_n 1, 1) := by decide +kernel
theorem dX5_setRules_1 : decode cX5_setRules 1 = .ok (.invokestatic 68, 3) := by decide +kernel
theorem dX5_setRules_4 : decode cX5_setRules 4 = .ok (.ifCond .eq 10, 3) := by decide +kernel
theorem dX5_setRules_7 : decode cX5_setRules 7 = .ok (.iload_n 2, 1) := by decide +kernel
theorem dX5_setRules_8 : decode cX5_setRules 8 = .ok (.invokestatic 68, 3) := by decide +kernel
theorem dX5_setRules_11 : decode cX5_setRules 11 = .ok (.ifCond .ne 13, 3) := by decide +kernel
theorem dX5_setRules_14 : decode cX5_setRules 14 = .ok (.new 49, 3) := by decide +kernel
theorem dX5_setRules_17 : decode cX5_setRules 17 = .ok (.dup, 1) := by decide +kernel
theorem dX5_setRules_18 : decode cX5_setRules 18 = .ok (.ldc 71, 2) := by decide +kernel
theorem dX5_setRules_20 : decode cX5_setRules 20 = .ok (.invokespecial 53, 3) := by decide +kernel
theorem dX5_setRules_23 : decode cX5_setRules 23 = .ok (.athrow, 1) := by decide +kernel
theorem dX5_setRules_24 : decode cX5_setRules 24 = .ok (.sipush 512, 3) := by decide +kernel
theorem dX5_setRules_27 : decode cX5_setRules 27 = .ok (.aload_n 0, 1) := by decide +kernel
theorem dX5_setRules_28 : decode cX5_setRules 28 = .ok (.getfield 21, 3) := by decide +kernel
theorem dX5_setRules_31 : decode cX5_setRules 31 = .ok (.invokevirtual 73, 3) := by decide +kernel
theorem dX5_setRules_34 : decode cX5_setRules 34 = .ok (.imul, 1) := by decide +kernel
theorem dX5_setRules_35 : decode cX5_setRules 35 = .ok (.aload_n 0, 1) := by decide +kernel
theorem dX5_setRules_36 : decode cX5_setRules 36 = .ok (.getfield 21, 3) := by decide +kernel
theorem dX5_setRules_39 : decode cX5_setRules 39 = .ok (.invokevirtual 76, 3) := by decide +kernel
theorem dX5_setRules_42 : decode cX5_setRules 42 = .ok (.iadd, 1) := by decide +kernel
theorem dX5_setRules_43 : decode cX5_setRules 43 = .ok (.istore_n 3, 1) := by decide +kernel
theorem dX5_setRules_44 : decode cX5_setRules 44 = .ok (.aload_n 0, 1) := by decide +kernel
theorem dX5_setRules_45 : decode cX5_setRules 45 = .ok (.getfield 21, 3) := by decide +kernel
theorem dX5_setRules_48 : decode cX5_setRules 48 = .ok (.iload_n 1, 1) := by decide +kernel
theorem dX5_setRules_49 : decode cX5_setRules 49 = .ok (.iload_n 2, 1) := by decide +kernel
theorem dX5_setRules_50 : decode cX5_setRules 50 = .ok (.invokevirtual 79, 3) := by decide +kernel
theorem dX5_setRules_53 : decode cX5_setRules 53 = .ok (.iload_n 3, 1) := by decide +kernel
theorem dX5_setRules_54 : decode cX5_setRules 54 = .ok (.ireturn, 1) := by decide +kernel
set_option maxRecDepth 20000 in
theorem ggX5_setEdge_X3_isRound : GoodIn wsX5_setEdge wsX3_isRound := goodIn_r _ [6, 7, 17, 18, 19, 20, 21, 22, 23, 24] (by decide +kernel) (by decide +kernel)
set_option maxRecDepth 20000 in
theorem gX5_setEdge_X3_isRound : GoodIn wsX5_setEdge (wsV RX5 82 RX3 yX3_isRound wsX3_isRound) := goodIn_app (goodIn_of _ (by decide +kernel)) ggX5_setEdge_X3_isRound
set_option maxRecDepth 20000 in
theorem ggX5_setEdge_X3_makeRound : GoodIn wsX5_setEdge wsX3_makeRound := goodIn_r _ [11, 7, 17, 18, 19, 20, 21, 22, 23, 24] (by decide +kernel) (by decide +kernel)
set_option maxRecDepth 20000 in
theorem gX5_setEdge_X3_makeRound : GoodIn wsX5_setEdge (wsV RX5 86 RX3 yX3_makeRound wsX3_makeRound) := goodIn_app (goodIn_of _ (by decide +kernel)) ggX5_setEdge_X3_makeRound
theorem dX5_setEdge_0 : decode cX5_setEdge 0 = .ok (.aload_n 0, 1) := by decide +kernel
theorem dX5_setEdge_1 : decode cX5_setEdge 1 = .ok (.getfield 10, 3) := by decide +kernel
theorem dX5_setEdge_4 : decode cX5_setEdge 4 = .ok (.invokevirtual 82, 3) := by decide +kernel
theorem dX5_setEdge_7 : decode cX5_setEdge 7 = .ok (.istore_n 2, 1) := by decide +kernel
theorem dX5_setEdge_8 : decode cX5_setEdge 8 = .ok (.aload_n 0, 1) := by decide +kernel
theorem dX5_setEdge_9 : decode cX5_setEdge 9 = .ok (.getfield 10, 3) := by decide +kernel
theorem dX5_setEdge_12 : decode cX5_setEdge 12 = .ok (.iload_n 1, 1) := by decide +kernel
theorem dX5_setEdge_13 : decode cX5_setEdge 13 = .ok (.invokevirtual 86, 3) := by decide +kernel
theorem dX5_setEdge_16 : decode cX5_setEdge 16 = .ok (.iload_n 2, 1) := by decide +kernel
theorem dX5_setEdge_17 : decode cX5_setEdge 17 = .ok (.ireturn, 1) := by decide +kernel
set_option maxRecDepth 20000 in
theorem ggX5_turn_X3_has : GoodIn wsX5_turn wsX3_has := goodIn_r _ [9, 10, 11, 47, 48, 49, 50, 51, 52, 53, 54] (by decide +kernel) (by decide +kernel)
set_option maxRecDepth 20000 in
theorem gX5_turn_X3_has : GoodIn wsX5_turn (wsV RX5 90 RX3 yX3_has wsX3_has) := goodIn_app (goodIn_of _ (by decide +kernel)) ggX5_turn_X3_has
set_option maxRecDepth 20000 in
theorem ggX5_turn_X3_cell : GoodIn wsX5_turn wsX3_cell := goodIn_r _ [14] (by decide +kernel) (by decide +kernel)
set_option maxRecDepth 20000 in
theorem gX5_turn_X3_cell : GoodIn wsX5_turn (va_wsS RX5 99 yX3_cell wsX3_cell) := goodIn_app (goodIn_of _ (by decide +kernel)) ggX5_turn_X3_cell
set_option maxRecDepth 20000 in
theorem ggX5_turn_X2_hasHedge : GoodIn wsX5_turn wsX2_hasHedge := goodIn_r _ [19, 20, 55, 56, 57, 58, 59, 60, 61] (by decide +kernel) (by decide +kernel)
set_option maxRecDepth 20000 in
theorem gX5_turn_X2_hasHedge : GoodIn wsX5_turn (wsV RX5 103 RX2 yX2_hasHedge wsX2_hasHedge) := goodIn_app (goodIn_of _ (by decide +kernel)) ggX5_turn_X2_hasHedge
set_option maxRecDepth 20000 in
theorem ggX5_turn_X2_cut : GoodIn wsX5_turn wsX2_cut := goodIn_r _ [24, 20, 25, 55, 56, 57, 58, 59, 60, 61] (by decide +kernel) (by decide +kernel)
set_option maxRecDepth 20000 in
theorem gX5_turn_X2_cut : GoodIn wsX5_turn (wsV RX5 64 RX2 yX2_cut wsX2_cut) := goodIn_app (goodIn_of _ (by decide +kernel)) ggX5_turn_X2_cut
set_option maxRecDepth 20000 in
theorem ggX5_turn_X2_putYoung : GoodIn wsX5_turn wsX2_putYoung := goodIn_r _ [29, 20, 30, 55, 56, 57, 58, 59, 60, 61] (by decide +kernel) (by decide +kernel)
set_option maxRecDepth 20000 in
theorem gX5_turn_X2_putYoung : GoodIn wsX5_turn (wsV RX5 107 RX2 yX2_putYoung wsX2_putYoung) := goodIn_app (goodIn_of _ (by decide +kernel)) ggX5_turn_X2_putYoung
set_option maxRecDepth 20000 in
theorem ggX5_turn_X2_size : GoodIn wsX5_turn wsX2_size := goodIn_r _ [34, 20, 35, 36, 37, 38, 39, 40, 41, 55, 56, 57, 58, 59, 60, 61] (by decide +kernel) (by decide +kernel)
set_option maxRecDepth 20000 in
theorem gX5_turn_X2_size : GoodIn wsX5_turn (wsV RX5 56 RX2 yX2_size wsX2_size) := goodIn_app (goodIn_of _ (by decide +kernel)) ggX5_turn_X2_size
theorem dX5_turn_0 : decode cX5_turn 0 = .ok (.aload_n 0, 1) := by decide +kernel
theorem dX5_turn_1 : decode cX5_turn 1 = .ok (.getfield 10, 3) := by decide +kernel
theorem dX5_turn_4 : decode cX5_turn 4 = .ok (.iload_n 1, 1) := by decide +kernel
theorem dX5_turn_5 : decode cX5_turn 5 = .ok (.iload_n 2, 1) := by decide +kernel
theorem dX5_turn_6 : decode cX5_turn 6 = .ok (.invokevirtual 90, 3) := by decide +kernel
theorem dX5_turn_9 : decode cX5_turn 9 = .ok (.ifCond .ne 13, 3) := by decide +kernel
theorem dX5_turn_12 : decode cX5_turn 12 = .ok (.new 94, 3) := by decide +kernel
theorem dX5_turn_15 : decode cX5_turn 15 = .ok (.dup, 1) := by decide +kernel
theorem dX5_turn_16 : decode cX5_turn 16 = .ok (.ldc 96, 2) := by decide +kernel
theorem dX5_turn_18 : decode cX5_turn 18 = .ok (.invokespecial 98, 3) := by decide +kernel
theorem dX5_turn_21 : decode cX5_turn 21 = .ok (.athrow, 1) := by decide +kernel
theorem dX5_turn_22 : decode cX5_turn 22 = .ok (.iload_n 1, 1) := by decide +kernel
theorem dX5_turn_23 : decode cX5_turn 23 = .ok (.iload_n 2, 1) := by decide +kernel
theorem dX5_turn_24 : decode cX5_turn 24 = .ok (.invokestatic 99, 3) := by decide +kernel
theorem dX5_turn_27 : decode cX5_turn 27 = .ok (.lstore_n 3, 1) := by decide +kernel
theorem dX5_turn_28 : decode cX5_turn 28 = .ok (.aload_n 0, 1) := by decide +kernel
theorem dX5_turn_29 : decode cX5_turn 29 = .ok (.getfield 30, 3) := by decide +kernel
theorem dX5_turn_32 : decode cX5_turn 32 = .ok (.lload_n 3, 1) := by decide +kernel
theorem dX5_turn_33 : decode cX5_turn 33 = .ok (.invokevirtual 103, 3) := by decide +kernel
theorem dX5_turn_36 : decode cX5_turn 36 = .ok (.ifCond .eq 14, 3) := by decide +kernel
theorem dX5_turn_39 : decode cX5_turn 39 = .ok (.aload_n 0, 1) := by decide +kernel
theorem dX5_turn_40 : decode cX5_turn 40 = .ok (.getfield 30, 3) := by decide +kernel
theorem dX5_turn_43 : decode cX5_turn 43 = .ok (.lload_n 3, 1) := by decide +kernel
theorem dX5_turn_44 : decode cX5_turn 44 = .ok (.invokevirtual 64, 3) := by decide +kernel
theorem dX5_turn_47 : decode cX5_turn 47 = .ok (.goto 11, 3) := by decide +kernel
theorem dX5_turn_50 : decode cX5_turn 50 = .ok (.aload_n 0, 1) := by decide +kernel
theorem dX5_turn_51 : decode cX5_turn 51 = .ok (.getfield 30, 3) := by decide +kernel
theorem dX5_turn_54 : decode cX5_turn 54 = .ok (.lload_n 3, 1) := by decide +kernel
theorem dX5_turn_55 : decode cX5_turn 55 = .ok (.invokevirtual 107, 3) := by decide +kernel
theorem dX5_turn_58 : decode cX5_turn 58 = .ok (.aload_n 0, 1) := by decide +kernel
theorem dX5_turn_59 : decode cX5_turn 59 = .ok (.getfield 30, 3) := by decide +kernel
theorem dX5_turn_62 : decode cX5_turn 62 = .ok (.invokevirtual 56, 3) := by decide +kernel
theorem dX5_turn_65 : decode cX5_turn 65 = .ok (.ireturn, 1) := by decide +kernel
set_option maxRecDepth 20000 in
theorem ggX5_plant_X5_isQuarter : GoodIn wsX5_plant wsX5_isQuarter := goodIn_r _ [10] (by decide +kernel) (by decide +kernel)
set_option maxRecDepth 20000 in
theorem gX5_plant_X5_isQuarter : GoodIn wsX5_plant (va_wsS RX5 110 yX5_isQuarter wsX5_isQuarter) := goodIn_app (goodIn_of _ (by decide +kernel)) ggX5_plant_X5_isQuarter
set_option maxRecDepth 20000 in
theorem ggX5_plant_X3_has : GoodIn wsX5_plant wsX3_has := goodIn_r _ [15, 16, 17, 80, 81, 82, 83, 84, 85, 86, 87] (by decide +kernel) (by decide +kernel)
set_option maxRecDepth 20000 in
theorem gX5_plant_X3_has : GoodIn wsX5_plant (wsV RX5 90 RX3 yX3_has wsX3_has) := goodIn_app (goodIn_of _ (by decide +kernel)) ggX5_plant_X3_has
set_option maxRecDepth 20000 in
theorem ggX5_plant_X1_picture : GoodIn wsX5_plant wsX1_picture := goodIn_r _ [21] (by decide +kernel) (by decide +kernel)
set_option maxRecDepth 20000 in
theorem gX5_plant_X1_picture : GoodIn wsX5_plant (va_wsS RX5 115 yX1_picture wsX1_picture) := goodIn_app (goodIn_of _ (by decide +kernel)) ggX5_plant_X1_picture
set_option maxRecDepth 20000 in
theorem ggX5_plant_X1_turned : GoodIn wsX5_plant wsX1_turned := goodIn_r _ [24, 25, 26, 20, 27, 28, 29, 30] (by decide +kernel) (by decide +kernel)
set_option maxRecDepth 20000 in
theorem gX5_plant_X1_turned : GoodIn wsX5_plant (va_wsS RX5 121 yX1_turned wsX1_turned) := goodIn_app (goodIn_of _ (by decide +kernel)) ggX5_plant_X1_turned
set_option maxRecDepth 20000 in
theorem ggX5_plant_X3_isRound : GoodIn wsX5_plant wsX3_isRound := goodIn_r _ [34, 35, 80, 81, 82, 83, 84, 85, 86, 87] (by decide +kernel) (by decide +kernel)
set_option maxRecDepth 20000 in
theorem gX5_plant_X3_isRound : GoodIn wsX5_plant (wsV RX5 82 RX3 yX3_isRound wsX3_isRound) := goodIn_app (goodIn_of _ (by decide +kernel)) ggX5_plant_X3_isRound
set_option maxRecDepth 20000 in
theorem ggX5_plant_X1_fits : GoodIn wsX5_plant wsX1_fits := goodIn_r _ [38, 28, 29, 20, 30, 39, 12, 13, 14, 15, 16, 17, 80, 81, 82, 83, 84, 85, 86, 87] (by decide +kernel) (by decide +kernel)
set_option maxRecDepth 20000 in
theorem gX5_plant_X1_fits : GoodIn wsX5_plant (va_wsS RX5 125 yX1_fits wsX1_fits) := goodIn_app (goodIn_of _ (by decide +kernel)) ggX5_plant_X1_fits
set_option maxRecDepth 20000 in
theorem ggX5_plant_X1_cells : GoodIn wsX5_plant wsX1_cells := goodIn_r _ [42, 28, 29, 20, 30, 43, 44, 45, 14, 46, 16, 47, 48, 49, 50, 51, 52, 53, 17, 54, 55, 56, 80, 81, 82, 83, 84, 85, 86, 87] (by decide +kernel) (by decide +kernel)
set_option maxRecDepth 20000 in
theorem gX5_plant_X1_cells : GoodIn wsX5_plant (va_wsS RX5 134 yX1_cells wsX1_cells) := goodIn_app (goodIn_of _ (by decide +kernel)) ggX5_plant_X1_cells
set_option maxRecDepth 20000 in
theorem ggX5_plant_X2_putYoung : GoodIn wsX5_plant wsX2_putYoung := goodIn_r _ [61, 62, 63, 88, 89, 90, 91, 92, 93, 94] (by decide +kernel) (by decide +kernel)
set_option maxRecDepth 20000 in
theorem gX5_plant_X2_putYoung : GoodIn wsX5_plant (wsV RX5 107 RX2 yX2_putYoung wsX2_putYoung) := goodIn_app (goodIn_of _ (by decide +kernel)) ggX5_plant_X2_putYoung
set_option maxRecDepth 20000 in
theorem ggX5_plant_X2_size : GoodIn wsX5_plant wsX2_size := goodIn_r _ [67, 62, 68, 69, 70, 71, 72, 73, 74, 88, 89, 90, 91, 92, 93, 94] (by decide +kernel) (by decide +kernel)
set_option maxRecDepth 20000 in
theorem gX5_plant_X2_size : GoodIn wsX5_plant (wsV RX5 56 RX2 yX2_size wsX2_size) := goodIn_app (goodIn_of _ (by decide +kernel)) ggX5_plant_X2_size
theorem dX5_plant_0 : decode cX5_plant 0 = .ok (.iload_n 1, 1) := by decide +kernel
theorem dX5_plant_1 : decode cX5_plant 1 = .ok (.invokestatic 110, 3) := by decide +kernel
theorem dX5_plant_4 : decode cX5_plant 4 = .ok (.ifCond .eq 23, 3) := by decide +kernel
theorem dX5_plant_7 : decode cX5_plant 7 = .ok (.iload_n 2, 1) := by decide +kernel
theorem dX5_plant_8 : decode cX5_plant 8 = .ok (.invokestatic 110, 3) := by decide +kernel
theorem dX5_plant_11 : decode cX5_plant 11 = .ok (.ifCond .eq 16, 3) := by decide +kernel
theorem dX5_plant_14 : decode cX5_plant 14 = .ok (.aload_n 0, 1) := by decide +kernel
theorem dX5_plant_15 : decode cX5_plant 15 = .ok (.getfield 10, 3) := by decide +kernel
theorem dX5_plant_18 : decode cX5_plant 18 = .ok (.iload_n 3, 1) := by decide +kernel
theorem dX5_plant_19 : decode cX5_plant 19 = .ok (.iload 4, 2) := by decide +kernel
theorem dX5_plant_21 : decode cX5_plant 21 = .ok (.invokevirtual 90, 3) := by decide +kernel
theorem dX5_plant_24 : decode cX5_plant 24 = .ok (.ifCond .ne 13, 3) := by decide +kernel
theorem dX5_plant_27 : decode cX5_plant 27 = .ok (.new 94, 3) := by decide +kernel
theorem dX5_plant_30 : decode cX5_plant 30 = .ok (.dup, 1) := by decide +kernel
theorem dX5_plant_31 : decode cX5_plant 31 = .ok (.ldc 113, 2) := by decide +kernel
theorem dX5_plant_33 : decode cX5_plant 33 = .ok (.invokespecial 98, 3) := by decide +kernel
theorem dX5_plant_36 : decode cX5_plant 36 = .ok (.athrow, 1) := by decide +kernel
theorem dX5_plant_37 : decode cX5_plant 37 = .ok (.iload_n 1, 1) := by decide +kernel
theorem dX5_plant_38 : decode cX5_plant 38 = .ok (.invokestatic 115, 3) := by decide +kernel
theorem dX5_plant_41 : decode cX5_plant 41 = .ok (.iload_n 2, 1) := by decide +kernel
theorem dX5_plant_42 : decode cX5_plant 42 = .ok (.invokestatic 121, 3) := by decide +kernel
theorem dX5_plant_45 : decode cX5_plant 45 = .ok (.istore 5, 2) := by decide +kernel
theorem dX5_plant_47 : decode cX5_plant 47 = .ok (.aload_n 0, 1) := by decide +kernel
theorem dX5_plant_48 : decode cX5_plant 48 = .ok (.getfield 10, 3) := by decide +kernel
theorem dX5_plant_51 : decode cX5_plant 51 = .ok (.invokevirtual 82, 3) := by decide +kernel
theorem dX5_plant_54 : decode cX5_plant 54 = .ok (.ifCond .ne 28, 3) := by decide +kernel
theorem dX5_plant_57 : decode cX5_plant 57 = .ok (.iload 5, 2) := by decide +kernel
theorem dX5_plant_59 : decode cX5_plant 59 = .ok (.iload_n 3, 1) := by decide +kernel
theorem dX5_plant_60 : decode cX5_plant 60 = .ok (.iload 4, 2) := by decide +kernel
theorem dX5_plant_62 : decode cX5_plant 62 = .ok (.aload_n 0, 1) := by decide +kernel
theorem dX5_plant_63 : decode cX5_plant 63 = .ok (.getfield 10, 3) := by decide +kernel
theorem dX5_plant_66 : decode cX5_plant 66 = .ok (.invokestatic 125, 3) := by decide +kernel
theorem dX5_plant_69 : decode cX5_plant 69 = .ok (.ifCond .ne 13, 3) := by decide +kernel
theorem dX5_plant_72 : decode cX5_plant 72 = .ok (.new 129, 3) := by decide +kernel
theorem dX5_plant_75 : decode cX5_plant 75 = .ok (.dup, 1) := by decide +kernel
theorem dX5_plant_76 : decode cX5_plant 76 = .ok (.ldc 131, 2) := by decide +kernel
theorem dX5_plant_78 : decode cX5_plant 78 = .ok (.invokespecial 133, 3) := by decide +kernel
theorem dX5_plant_81 : decode cX5_plant 81 = .ok (.athrow, 1) := by decide +kernel
theorem dX5_plant_82 : decode cX5_plant 82 = .ok (.aload_n 0, 1) := by decide +kernel
theorem dX5_plant_83 : decode cX5_plant 83 = .ok (.getfield 30, 3) := by decide +kernel
theorem dX5_plant_86 : decode cX5_plant 86 = .ok (.iload 5, 2) := by decide +kernel
theorem dX5_plant_88 : decode cX5_plant 88 = .ok (.iload_n 3, 1) := by decide +kernel
theorem dX5_plant_89 : decode cX5_plant 89 = .ok (.iload 4, 2) := by decide +kernel
theorem dX5_plant_91 : decode cX5_plant 91 = .ok (.aload_n 0, 1) := by decide +kernel
theorem dX5_plant_92 : decode cX5_plant 92 = .ok (.getfield 10, 3) := by decide +kernel
theorem dX5_plant_95 : decode cX5_plant 95 = .ok (.invokestatic 134, 3) := by decide +kernel
theorem dX5_plant_98 : decode cX5_plant 98 = .ok (.invokevirtual 107, 3) := by decide +kernel
theorem dX5_plant_101 : decode cX5_plant 101 = .ok (.aload_n 0, 1) := by decide +kernel
theorem dX5_plant_102 : decode cX5_plant 102 = .ok (.getfield 30, 3) := by decide +kernel
theorem dX5_plant_105 : decode cX5_plant 105 = .ok (.invokevirtual 56, 3) := by decide +kernel
theorem dX5_plant_108 : decode cX5_plant 108 = .ok (.ireturn, 1) := by decide +kernel
set_option maxRecDepth 20000 in
theorem ggX5_pass_X5_isYears : GoodIn wsX5_pass wsX5_isYears := goodIn_r _ [7] (by decide +kernel) (by decide +kernel)
set_option maxRecDepth 20000 in
theorem gX5_pass_X5_isYears : GoodIn wsX5_pass (va_wsS RX5 138 yX5_isYears wsX5_isYears) := goodIn_app (goodIn_of _ (by decide +kernel)) ggX5_pass_X5_isYears
set_option maxRecDepth 20000 in
theorem ggX5_pass_X2_growYears : GoodIn wsX5_pass wsX2_growYears := goodIn_r _ [12, 13, 14, 15, 11, 16, 17, 18, 19, 20, 21, 22, 23, 24, 25, 26, 27, 28, 29, 30, 31, 32, 33, 34, 35, 36, 37, 38, 39, 40, 41, 42, 43, 44, 45, 46, 47, 48, 49, 50, 51, 52, 53, 54, 55, 56, 57, 58, 59, 60, 61, 62, 63, 64, 65, 66, 67, 68, 69, 70, 71, 72, 73, 74, 75, 76, 77, 78, 79, 80, 81, 82, 83, 84, 85, 86, 87, 88, 89, 90, 91, 92, 93, 94, 95, 96, 97, 98, 99, 100, 101, 102, 112, 113, 114, 115, 116, 117, 118, 119, 120, 121, 122, 123, 124, 125, 126, 127, 128, 129, 130, 131, 132, 133, 134] (by decide +kernel) (by decide +kernel)
set_option maxRecDepth 20000 in
theorem gX5_pass_X2_growYears : GoodIn wsX5_pass (wsV RX5 143 RX2 yX2_growYears wsX2_growYears) := goodIn_app (goodIn_of _ (by decide +kernel)) ggX5_pass_X2_growYears
set_option maxRecDepth 20000 in
theorem ggX5_pass_X2_size : GoodIn wsX5_pass wsX2_size := goodIn_r _ [106, 18, 92, 93, 94, 95, 96, 97, 98, 112, 113, 114, 115, 116, 117, 118] (by decide +kernel) (by decide +kernel)
set_option maxRecDepth 20000 in
theorem gX5_pass_X2_size : GoodIn wsX5_pass (wsV RX5 56 RX2 yX2_size wsX2_size) := goodIn_app (goodIn_of _ (by decide +kernel)) ggX5_pass_X2_size
theorem dX5_pass_0 : decode cX5_pass 0 = .ok (.iload_n 1, 1) := by decide +kernel
theorem dX5_pass_1 : decode cX5_pass 1 = .ok (.invokestatic 138, 3) := by decide +kernel
theorem dX5_pass_4 : decode cX5_pass 4 = .ok (.ifCond .ne 13, 3) := by decide +kernel
theorem dX5_pass_7 : decode cX5_pass 7 = .ok (.new 49, 3) := by decide +kernel
theorem dX5_pass_10 : decode cX5_pass 10 = .ok (.dup, 1) := by decide +kernel
theorem dX5_pass_11 : decode cX5_pass 11 = .ok (.ldc 141, 2) := by decide +kernel
theorem dX5_pass_13 : decode cX5_pass 13 = .ok (.invokespecial 53, 3) := by decide +kernel
theorem dX5_pass_16 : decode cX5_pass 16 = .ok (.athrow, 1) := by decide +kernel
theorem dX5_pass_17 : decode cX5_pass 17 = .ok (.aload_n 0, 1) := by decide +kernel
theorem dX5_pass_18 : decode cX5_pass 18 = .ok (.getfield 30, 3) := by decide +kernel
theorem dX5_pass_21 : decode cX5_pass 21 = .ok (.iload_n 1, 1) := by decide +kernel
theorem dX5_pass_22 : decode cX5_pass 22 = .ok (.invokevirtual 143, 3) := by decide +kernel
theorem dX5_pass_25 : decode cX5_pass 25 = .ok (.aload_n 0, 1) := by decide +kernel
theorem dX5_pass_26 : decode cX5_pass 26 = .ok (.getfield 30, 3) := by decide +kernel
theorem dX5_pass_29 : decode cX5_pass 29 = .ok (.invokevirtual 56, 3) := by decide +kernel
theorem dX5_pass_32 : decode cX5_pass 32 = .ok (.ireturn, 1) := by decide +kernel
set_option maxRecDepth 20000 in
theorem ggX5_told_X3_has : GoodIn wsX5_told wsX3_has := goodIn_r _ [8, 9, 10, 146, 147, 148, 149, 150, 151, 152, 153] (by decide +kernel) (by decide +kernel)
set_option maxRecDepth 20000 in
theorem gX5_told_X3_has : GoodIn wsX5_told (wsV RX5 90 RX3 yX3_has wsX3_has) := goodIn_app (goodIn_of _ (by decide +kernel)) ggX5_told_X3_has
set_option maxRecDepth 20000 in
theorem ggX5_told_X5_fact : GoodIn wsX5_told wsX5_fact := goodIn_r _ [15, 16, 17, 3, 18, 19, 7, 20, 21, 22, 23, 24, 25, 26, 27, 28, 29, 30, 31, 32, 33, 34, 35, 36, 37, 38, 39, 40, 41, 42, 43, 44, 45, 46, 47, 48, 49, 50, 51, 52, 53, 10, 54, 55, 56, 57, 58, 59, 60, 61, 62, 63, 9, 64, 65, 66, 67, 68, 69, 70, 71, 72, 73, 74, 75, 76, 77, 78, 79, 80, 81, 82, 83, 84, 85, 86, 87, 88, 89, 90, 91, 92, 93, 94, 95, 96, 97, 98, 99, 100, 101, 102, 103, 104, 105, 106, 107, 108, 109, 110, 111, 112, 113, 114, 115, 116, 117, 118, 119, 120, 121, 122, 123, 124, 125, 126, 127, 128, 129, 130, 131, 132, 133, 134, 135, 136, 137, 138, 139, 140, 141, 142, 143, 144, 145, 154, 155, 156, 157, 158, 159, 160, 161, 162, 163, 164, 165, 166, 167, 168, 146, 147, 148, 149, 150, 151, 152, 153] (by decide +kernel) (by decide +kernel)
set_option maxRecDepth 20000 in
theorem gX5_told_X5_fact : GoodIn wsX5_told (wsV RX5 149 RX5 yX5_fact wsX5_fact) := goodIn_app (goodIn_of _ (by decide +kernel)) ggX5_told_X5_fact
theorem dX5_told_0 : decode cX5_told 0 = .ok (.aload_n 0, 1) := by decide +kernel
theorem dX5_told_1 : decode cX5_told 1 = .ok (.getfield 10, 3) := by decide +kernel
theorem dX5_told_4 : decode cX5_told 4 = .ok (.iload_n 1, 1) := by decide +kernel
theorem dX5_told_5 : decode cX5_told 5 = .ok (.iload_n 2, 1) := by decide +kernel
theorem dX5_told_6 : decode cX5_told 6 = .ok (.invokevirtual 90, 3) := by decide +kernel
theorem dX5_told_9 : decode cX5_told 9 = .ok (.ifCond .eq 12, 3) := by decide +kernel
theorem dX5_told_12 : decode cX5_told 12 = .ok (.iload_n 3, 1) := by decide +kernel
theorem dX5_told_13 : decode cX5_told 13 = .ok (.ifCond .lt 8, 3) := by decide +kernel
theorem dX5_told_16 : decode cX5_told 16 = .ok (.iload_n 3, 1) := by decide +kernel
theorem dX5_told_17 : decode cX5_told 17 = .ok (.iconst 5, 1) := by decide +kernel
theorem dX5_told_18 : decode cX5_told 18 = .ok (.if_icmp .lt 13, 3) := by decide +kernel
theorem dX5_told_21 : decode cX5_told 21 = .ok (.new 94, 3) := by decide +kernel
theorem dX5_told_24 : decode cX5_told 24 = .ok (.dup, 1) := by decide +kernel
theorem dX5_told_25 : decode cX5_told 25 = .ok (.ldc 147, 2) := by decide +kernel
theorem dX5_told_27 : decode cX5_told 27 = .ok (.invokespecial 98, 3) := by decide +kernel
theorem dX5_told_30 : decode cX5_told 30 = .ok (.athrow, 1) := by decide +kernel
theorem dX5_told_31 : decode cX5_told 31 = .ok (.aload_n 0, 1) := by decide +kernel
theorem dX5_told_32 : decode cX5_told 32 = .ok (.iload_n 1, 1) := by decide +kernel
theorem dX5_told_33 : decode cX5_told 33 = .ok (.iload_n 2, 1) := by decide +kernel
theorem dX5_told_34 : decode cX5_told 34 = .ok (.iload_n 3, 1) := by decide +kernel
theorem dX5_told_35 : decode cX5_told 35 = .ok (.invokevirtual 149, 3) := by decide +kernel
theorem dX5_told_38 : decode cX5_told 38 = .ok (.ireturn, 1) := by decide +kernel
set_option maxRecDepth 20000 in
theorem ggX5_count_X5_counted : GoodIn wsX5_count wsX5_counted := goodIn_r _ [8, 9, 10, 11, 12, 13, 14, 15, 16, 17, 18, 19, 20, 21, 22, 23, 24, 25, 26, 27, 28, 29, 30, 31, 32, 33, 34, 35, 36, 37, 38, 39, 40, 41, 42, 43, 44, 45, 46, 47, 48, 49, 50, 51, 52, 53, 54, 55, 56, 57, 58, 59, 60, 61, 62, 63, 64, 65, 66, 67, 68, 69, 70, 71, 72, 73, 74, 75, 76, 77, 78, 79, 80, 81, 82, 83, 84, 85, 86, 87, 88, 89, 90, 91, 92, 93, 94, 95, 96, 97, 98, 99, 100, 101, 102, 103, 104, 105, 106, 107, 108, 109, 110, 111, 112, 113, 114, 115, 116, 117, 118, 119, 120, 121, 122, 123, 124, 125, 126, 127, 128, 129, 130, 131, 132, 133, 134, 135, 136, 137, 138, 139, 140, 141, 142, 143, 144, 145, 146, 147, 148, 149, 150, 151, 152, 153, 154, 155, 156, 157, 158, 159, 160, 161, 162, 163, 164, 165, 166, 167, 168, 169, 170, 171, 172, 173, 174, 175, 176, 177, 178, 179, 180, 181, 182, 183, 184, 185] (by decide +kernel) (by decide +kernel)
set_option maxRecDepth 20000 in
theorem gX5_count_X5_counted : GoodIn wsX5_count (wsV RX5 155 RX5 yX5_counted wsX5_counted) := goodIn_app (goodIn_of _ (by decide +kernel)) ggX5_count_X5_counted
theorem dX5_count_0 : decode cX5_count 0 = .ok (.iload_n 1, 1) := by decide +kernel
theorem dX5_count_1 : decode cX5_count 1 = .ok (.ifCond .lt 9, 3) := by decide +kernel
theorem dX5_count_4 : decode cX5_count 4 = .ok (.iload_n 1, 1) := by decide +kernel
theorem dX5_count_5 : decode cX5_count 5 = .ok (.bipush 11, 2) := by decide +kernel
theorem dX5_count_7 : decode cX5_count 7 = .ok (.if_icmp .lt 13, 3) := by decide +kernel
theorem dX5_count_10 : decode cX5_count 10 = .ok (.new 94, 3) := by decide +kernel
theorem dX5_count_13 : decode cX5_count 13 = .ok (.dup, 1) := by decide +kernel
theorem dX5_count_14 : decode cX5_count 14 = .ok (.ldc 153, 2) := by decide +kernel
theorem dX5_count_16 : decode cX5_count 16 = .ok (.invokespecial 98, 3) := by decide +kernel
theorem dX5_count_19 : decode cX5_count 19 = .ok (.athrow, 1) := by decide +kernel
theorem dX5_count_20 : decode cX5_count 20 = .ok (.aload_n 0, 1) := by decide +kernel
theorem dX5_count_21 : decode cX5_count 21 = .ok (.aload_n 0, 1) := by decide +kernel
theorem dX5_count_22 : decode cX5_count 22 = .ok (.getfield 30, 3) := by decide +kernel
theorem dX5_count_25 : decode cX5_count 25 = .ok (.iload_n 1, 1) := by decide +kernel
theorem dX5_count_26 : decode cX5_count 26 = .ok (.invokevirtual 155, 3) := by decide +kernel
theorem dX5_count_29 : decode cX5_count 29 = .ok (.ireturn, 1) := by decide +kernel
set_option maxRecDepth 20000 in
theorem ggX5_way_X3_has : GoodIn wsX5_way wsX3_has := goodIn_r _ [9, 10, 11, 62, 63, 64, 65, 66, 67, 68, 69] (by decide +kernel) (by decide +kernel)
set_option maxRecDepth 20000 in
theorem gX5_way_X3_has : GoodIn wsX5_way (wsV RX5 90 RX3 yX3_has wsX3_has) := goodIn_app (goodIn_of _ (by decide +kernel)) ggX5_way_X3_has
set_option maxRecDepth 20000 in
theorem ggX5_way_X3_cell : GoodIn wsX5_way wsX3_cell := goodIn_r _ [14] (by decide +kernel) (by decide +kernel)
set_option maxRecDepth 20000 in
theorem gX5_way_X3_cell : GoodIn wsX5_way (va_wsS RX5 99 yX3_cell wsX3_cell) := goodIn_app (goodIn_of _ (by decide +kernel)) ggX5_way_X3_cell
set_option maxRecDepth 20000 in
theorem ggX5_way_X2_open : GoodIn wsX5_way wsX2_open := goodIn_r _ [19, 20, 21, 22, 23, 24, 8, 25, 26, 27, 70, 71, 72, 73, 74, 75, 76, 62, 63, 64, 65, 66, 67, 68, 69] (by decide +kernel) (by decide +kernel)
set_option maxRecDepth 20000 in
theorem gX5_way_X2_open : GoodIn wsX5_way (wsV RX5 159 RX2 yX2_open wsX2_open) := goodIn_app (goodIn_of _ (by decide +kernel)) ggX5_way_X2_open
set_option maxRecDepth 20000 in
theorem ggX5_way_X3_steps : GoodIn wsX5_way wsX3_steps := goodIn_r _ [31, 32, 33, 34, 8, 35, 36, 37, 38, 39, 40, 27, 41, 10, 42, 43, 44, 45, 46, 47, 48, 49, 50, 51, 11, 52, 53, 54, 55, 56, 62, 63, 64, 65, 66, 67, 68, 69] (by decide +kernel) (by decide +kernel)
set_option maxRecDepth 20000 in
theorem gX5_way_X3_steps : GoodIn wsX5_way (wsV RX5 162 RX3 yX3_steps wsX3_steps) := goodIn_app (goodIn_of _ (by decide +kernel)) ggX5_way_X3_steps
theorem dX5_way_0 : decode cX5_way 0 = .ok (.aload_n 0, 1) := by decide +kernel
theorem dX5_way_1 : decode cX5_way 1 = .ok (.getfield 10, 3) := by decide +kernel
theorem dX5_way_4 : decode cX5_way 4 = .ok (.iload_n 1, 1) := by decide +kernel
theorem dX5_way_5 : decode cX5_way 5 = .ok (.iload_n 2, 1) := by decide +kernel
theorem dX5_way_6 : decode cX5_way 6 = .ok (.invokevirtual 90, 3) := by decide +kernel
theorem dX5_way_9 : decode cX5_way 9 = .ok (.ifCond .eq 16, 3) := by decide +kernel
theorem dX5_way_12 : decode cX5_way 12 = .ok (.aload_n 0, 1) := by decide +kernel
theorem dX5_way_13 : decode cX5_way 13 = .ok (.getfield 10, 3) := by decide +kernel
theorem dX5_way_16 : decode cX5_way 16 = .ok (.iload_n 3, 1) := by decide +kernel
theorem dX5_way_17 : decode cX5_way 17 = .ok (.iload 4, 2) := by decide +kernel
theorem dX5_way_19 : decode cX5_way 19 = .ok (.invokevirtual 90, 3) := by decide +kernel
theorem dX5_way_22 : decode cX5_way 22 = .ok (.ifCond .ne 13, 3) := by decide +kernel
theorem dX5_way_25 : decode cX5_way 25 = .ok (.new 94, 3) := by decide +kernel
theorem dX5_way_28 : decode cX5_way 28 = .ok (.dup, 1) := by decide +kernel
theorem dX5_way_29 : decode cX5_way 29 = .ok (.ldc 96, 2) := by decide +kernel
theorem dX5_way_31 : decode cX5_way 31 = .ok (.invokespecial 98, 3) := by decide +kernel
theorem dX5_way_34 : decode cX5_way 34 = .ok (.athrow, 1) := by decide +kernel
theorem dX5_way_35 : decode cX5_way 35 = .ok (.aload_n 0, 1) := by decide +kernel
theorem dX5_way_36 : decode cX5_way 36 = .ok (.getfield 10, 3) := by decide +kernel
theorem dX5_way_39 : decode cX5_way 39 = .ok (.iload_n 1, 1) := by decide +kernel
theorem dX5_way_40 : decode cX5_way 40 = .ok (.iload_n 2, 1) := by decide +kernel
theorem dX5_way_41 : decode cX5_way 41 = .ok (.invokestatic 99, 3) := by decide +kernel
theorem dX5_way_44 : decode cX5_way 44 = .ok (.iload_n 3, 1) := by decide +kernel
theorem dX5_way_45 : decode cX5_way 45 = .ok (.iload 4, 2) := by decide +kernel
theorem dX5_way_47 : decode cX5_way 47 = .ok (.invokestatic 99, 3) := by decide +kernel
theorem dX5_way_50 : decode cX5_way 50 = .ok (.aload_n 0, 1) := by decide +kernel
theorem dX5_way_51 : decode cX5_way 51 = .ok (.getfield 30, 3) := by decide +kernel
theorem dX5_way_54 : decode cX5_way 54 = .ok (.invokevirtual 159, 3) := by decide +kernel
theorem dX5_way_57 : decode cX5_way 57 = .ok (.invokevirtual 162, 3) := by decide +kernel
theorem dX5_way_60 : decode cX5_way 60 = .ok (.ireturn, 1) := by decide +kernel
set_option maxRecDepth 20000 in
theorem ggX5_period_X5_foreseeComing : GoodIn wsX5_period wsX5_foreseeComing := goodIn_r _ [8, 9, 3, 10, 11, 12, 13, 14, 15, 16, 17, 18, 19, 20, 21, 22, 23, 24, 25, 26, 27, 28, 29, 30, 31, 32, 33, 34, 35, 36, 37, 38, 39, 40, 41, 42, 43, 44, 45, 46, 47, 48, 49, 50, 51, 52, 53, 54, 55, 56, 57, 58, 59, 60, 61, 62, 63, 64, 65, 66, 67, 68, 69, 70, 71, 72, 73, 74, 75, 76, 77, 78, 79, 80, 81, 82, 83, 84, 85, 86, 87, 88, 89, 90, 91, 92, 93, 94, 95, 96, 97, 98, 99, 100, 101, 102, 103, 104, 105, 106, 107, 108, 109, 110, 111, 112, 113, 114, 115, 116] (by decide +kernel) (by decide +kernel)
set_option maxRecDepth 20000 in
theorem gX5_period_X5_foreseeComing : GoodIn wsX5_period (wsV RX5 168 RX5 yX5_foreseeComing wsX5_foreseeComing) := goodIn_app (goodIn_of _ (by decide +kernel)) ggX5_period_X5_foreseeComing
theorem dX5_period_0 : decode cX5_period 0 = .ok (.iload_n 1, 1) := by decide +kernel
theorem dX5_period_1 : decode cX5_period 1 = .ok (.ifCond .lt 8, 3) := by decide +kernel
theorem dX5_period_4 : decode cX5_period 4 = .ok (.iload_n 1, 1) := by decide +kernel
theorem dX5_period_5 : decode cX5_period 5 = .ok (.iconst 1, 1) := by decide +kernel
theorem dX5_period_6 : decode cX5_period 6 = .ok (.if_icmp .le 13, 3) := by decide +kernel
theorem dX5_period_9 : decode cX5_period 9 = .ok (.new 94, 3) := by decide +kernel
theorem dX5_period_12 : decode cX5_period 12 = .ok (.dup, 1) := by decide +kernel
theorem dX5_period_13 : decode cX5_period 13 = .ok (.ldc 166, 2) := by decide +kernel
theorem dX5_period_15 : decode cX5_period 15 = .ok (.invokespecial 98, 3) := by decide +kernel
theorem dX5_period_18 : decode cX5_period 18 = .ok (.athrow, 1) := by decide +kernel
theorem dX5_period_19 : decode cX5_period 19 = .ok (.aload_n 0, 1) := by decide +kernel
theorem dX5_period_20 : decode cX5_period 20 = .ok (.invokevirtual 168, 3) := by decide +kernel
theorem dX5_period_23 : decode cX5_period 23 = .ok (.iconst 0, 1) := by decide +kernel
theorem dX5_period_24 : decode cX5_period 24 = .ok (.istore_n 2, 1) := by decide +kernel
theorem dX5_period_25 : decode cX5_period 25 = .ok (.iload_n 2, 1) := by decide +kernel
theorem dX5_period_26 : decode cX5_period 26 = .ok (.aload_n 0, 1) := by decide +kernel
theorem dX5_period_27 : decode cX5_period 27 = .ok (.getfield 37, 3) := by decide +kernel
theorem dX5_period_30 : decode cX5_period 30 = .ok (.arraylength, 1) := by decide +kernel
theorem dX5_period_31 : decode cX5_period 31 = .ok (.if_icmp .ge 56, 3) := by decide +kernel
theorem dX5_period_34 : decode cX5_period 34 = .ok (.iload_n 2, 1) := by decide +kernel
theorem dX5_period_35 : decode cX5_period 35 = .ok (.iconst 1, 1) := by decide +kernel
theorem dX5_period_36 : decode cX5_period 36 = .ok (.iadd, 1) := by decide +kernel
theorem dX5_period_37 : decode cX5_period 37 = .ok (.istore_n 3, 1) := by decide +kernel
theorem dX5_period_38 : decode cX5_period 38 = .ok (.iload_n 3, 1) := by decide +kernel
theorem dX5_period_39 : decode cX5_period 39 = .ok (.aload_n 0, 1) := by decide +kernel
theorem dX5_period_40 : decode cX5_period 40 = .ok (.getfield 37, 3) := by decide +kernel
theorem dX5_period_43 : decode cX5_period 43 = .ok (.arraylength, 1) := by decide +kernel
theorem dX5_period_44 : decode cX5_period 44 = .ok (.if_icmp .ge 37, 3) := by decide +kernel
theorem dX5_period_47 : decode cX5_period 47 = .ok (.aload_n 0, 1) := by decide +kernel
theorem dX5_period_48 : decode cX5_period 48 = .ok (.getfield 37, 3) := by decide +kernel
theorem dX5_period_51 : decode cX5_period 51 = .ok (.iload_n 2, 1) := by decide +kernel
theorem dX5_period_52 : decode cX5_period 52 = .ok (.laload, 1) := by decide +kernel
theorem dX5_period_53 : decode cX5_period 53 = .ok (.aload_n 0, 1) := by decide +kernel
theorem dX5_period_54 : decode cX5_period 54 = .ok (.getfield 37, 3) := by decide +kernel
theorem dX5_period_57 : decode cX5_period 57 = .ok (.iload_n 3, 1) := by decide +kernel
theorem dX5_period_58 : decode cX5_period 58 = .ok (.laload, 1) := by decide +kernel
theorem dX5_period_59 : decode cX5_period 59 = .ok (.lcmp, 1) := by decide +kernel
theorem dX5_period_60 : decode cX5_period 60 = .ok (.ifCond .ne 15, 3) := by decide +kernel
theorem dX5_period_63 : decode cX5_period 63 = .ok (.iload_n 1, 1) := by decide +kernel
theorem dX5_period_64 : decode cX5_period 64 = .ok (.ifCond .ne 7, 3) := by decide +kernel
theorem dX5_period_67 : decode cX5_period 67 = .ok (.iload_n 2, 1) := by decide +kernel
theorem dX5_period_68 : decode cX5_period 68 = .ok (.goto 6, 3) := by decide +kernel
theorem dX5_period_71 : decode cX5_period 71 = .ok (.iload_n 3, 1) := by decide +kernel
theorem dX5_period_72 : decode cX5_period 72 = .ok (.iload_n 2, 1) := by decide +kernel
theorem dX5_period_73 : decode cX5_period 73 = .ok (.isub, 1) := by decide +kernel
theorem dX5_period_74 : decode cX5_period 74 = .ok (.ireturn, 1) := by decide +kernel
theorem dX5_period_75 : decode cX5_period 75 = .ok (.iinc 3 1, 3) := by decide +kernel
theorem dX5_period_78 : decode cX5_period 78 = .ok (.goto (-40), 3) := by decide +kernel
theorem dX5_period_81 : decode cX5_period 81 = .ok (.iinc 2 1, 3) := by decide +kernel
theorem dX5_period_84 : decode cX5_period 84 = .ok (.goto (-59), 3) := by decide +kernel
theorem dX5_period_87 : decode cX5_period 87 = .ok (.iconst (-1), 1) := by decide +kernel
theorem dX5_period_88 : decode cX5_period 88 = .ok (.ireturn, 1) := by decide +kernel
set_option maxRecDepth 20000 in
theorem ggX5_foresee_X5_isYears : GoodIn wsX5_foresee wsX5_isYears := goodIn_r _ [10] (by decide +kernel) (by decide +kernel)
set_option maxRecDepth 20000 in
theorem gX5_foresee_X5_isYears : GoodIn wsX5_foresee (va_wsS RX5 138 yX5_isYears wsX5_isYears) := goodIn_app (goodIn_of _ (by decide +kernel)) ggX5_foresee_X5_isYears
set_option maxRecDepth 20000 in
theorem ggX5_foresee_X2_copyFrom : GoodIn wsX5_foresee wsX2_copyFrom := goodIn_r _ [15, 16, 17, 18, 19, 20, 190, 191, 192, 193, 194, 195, 196] (by decide +kernel) (by decide +kernel)
set_option maxRecDepth 20000 in
theorem gX5_foresee_X2_copyFrom : GoodIn wsX5_foresee (wsV RX5 186 RX2 yX2_copyFrom wsX2_copyFrom) := goodIn_app (goodIn_of _ (by decide +kernel)) ggX5_foresee_X2_copyFrom
set_option maxRecDepth 20000 in
theorem ggX5_foresee_X2_growYears : GoodIn wsX5_foresee wsX2_growYears := goodIn_r _ [24, 25, 26, 27, 14, 28, 29, 17, 19, 20, 30, 16, 18, 31, 32, 33, 34, 35, 36, 37, 38, 39, 40, 41, 42, 43, 44, 45, 46, 47, 48, 49, 50, 51, 52, 53, 54, 55, 56, 57, 58, 59, 60, 61, 62, 63, 64, 65, 66, 67, 68, 69, 70, 71, 72, 73, 74, 75, 76, 77, 78, 79, 80, 81, 82, 83, 84, 85, 86, 87, 88, 89, 90, 91, 92, 93, 94, 95, 96, 97, 98, 99, 100, 101, 102, 103, 104, 105, 106, 107, 108, 109, 190, 191, 192, 193, 194, 195, 196, 197, 198, 199, 200, 201, 202, 203, 204, 205, 206, 207, 208, 209, 210, 211, 212] (by decide +kernel) (by decide +kernel)
set_option maxRecDepth 20000 in
theorem gX5_foresee_X2_growYears : GoodIn wsX5_foresee (wsV RX5 143 RX2 yX2_growYears wsX2_growYears) := goodIn_app (goodIn_of _ (by decide +kernel)) ggX5_foresee_X2_growYears
set_option maxRecDepth 20000 in
theorem ggX5_foresee_X5_counted : GoodIn wsX5_foresee wsX5_counted := goodIn_r _ [113, 114, 115, 116, 117, 14, 118, 18, 119, 120, 121, 51, 122, 67, 123, 124, 125, 126, 56, 127, 128, 129, 130, 17, 99, 100, 101, 102, 103, 104, 105, 131, 132, 133, 134, 19, 135, 136, 137, 138, 20, 139, 140, 141, 142, 55, 143, 144, 145, 146, 147, 148, 149, 150, 151, 30, 152, 153, 154, 155, 156, 78, 79, 80, 81, 54, 157, 158, 159, 160, 161, 162, 163, 164, 165, 63, 64, 65, 66, 166, 73, 74, 75, 76, 167, 49, 50, 52, 53, 168, 58, 59, 60, 61, 169, 170, 171, 172, 173, 174, 175, 176, 177, 178, 179, 180, 29, 31, 32, 33, 34, 35, 36, 37, 38, 39, 40, 41, 42, 43, 44, 45, 46, 47, 48, 57, 62, 68, 69, 70, 71, 72, 77, 82, 83, 84, 85, 86, 87, 88, 89, 90, 91, 92, 93, 181, 182, 183, 184, 16, 185, 186, 187, 188, 189, 190, 191, 192, 193, 194, 195, 196, 205, 206, 207, 208, 209, 210, 211, 212, 197, 198, 199, 200, 201, 202, 203, 204] (by decide +kernel) (by decide +kernel)
set_option maxRecDepth 20000 in
theorem gX5_foresee_X5_counted : GoodIn wsX5_foresee (wsV RX5 155 RX5 yX5_counted wsX5_counted) := goodIn_app (goodIn_of _ (by decide +kernel)) ggX5_foresee_X5_counted
theorem dX5_foresee_0 : decode cX5_foresee 0 = .ok (.iload_n 1, 1) := by decide +kernel
theorem dX5_foresee_1 : decode cX5_foresee 1 = .ok (.invokestatic 138, 3) := by decide +kernel
theorem dX5_foresee_4 : decode cX5_foresee 4 = .ok (.ifCond .ne 13, 3) := by decide +kernel
theorem dX5_foresee_7 : decode cX5_foresee 7 = .ok (.new 49, 3) := by decide +kernel
theorem dX5_foresee_10 : decode cX5_foresee 10 = .ok (.dup, 1) := by decide +kernel
theorem dX5_foresee_11 : decode cX5_foresee 11 = .ok (.ldc 141, 2) := by decide +kernel
theorem dX5_foresee_13 : decode cX5_foresee 13 = .ok (.invokespecial 53, 3) := by decide +kernel
theorem dX5_foresee_16 : decode cX5_foresee 16 = .ok (.athrow, 1) := by decide +kernel
theorem dX5_foresee_17 : decode cX5_foresee 17 = .ok (.iload_n 2, 1) := by decide +kernel
theorem dX5_foresee_18 : decode cX5_foresee 18 = .ok (.iconst 3, 1) := by decide +kernel
theorem dX5_foresee_19 : decode cX5_foresee 19 = .ok (.if_icmp .lt 15, 3) := by decide +kernel
theorem dX5_foresee_22 : decode cX5_foresee 22 = .ok (.iload_n 2, 1) := by decide +kernel
theorem dX5_foresee_23 : decode cX5_foresee 23 = .ok (.bipush 11, 2) := by decide +kernel
theorem dX5_foresee_25 : decode cX5_foresee 25 = .ok (.if_icmp .ge 9, 3) := by decide +kernel
theorem dX5_foresee_28 : decode cX5_foresee 28 = .ok (.iload_n 2, 1) := by decide +kernel
theorem dX5_foresee_29 : decode cX5_foresee 29 = .ok (.bipush 6, 2) := by decide +kernel
theorem dX5_foresee_31 : decode cX5_foresee 31 = .ok (.if_icmp .ne 13, 3) := by decide +kernel
theorem dX5_foresee_34 : decode cX5_foresee 34 = .ok (.new 94, 3) := by decide +kernel
theorem dX5_foresee_37 : decode cX5_foresee 37 = .ok (.dup, 1) := by decide +kernel
theorem dX5_foresee_38 : decode cX5_foresee 38 = .ok (.ldc 184, 2) := by decide +kernel
theorem dX5_foresee_40 : decode cX5_foresee 40 = .ok (.invokespecial 98, 3) := by decide +kernel
theorem dX5_foresee_43 : decode cX5_foresee 43 = .ok (.athrow, 1) := by decide +kernel
theorem dX5_foresee_44 : decode cX5_foresee 44 = .ok (.aload_n 0, 1) := by decide +kernel
theorem dX5_foresee_45 : decode cX5_foresee 45 = .ok (.getfield 34, 3) := by decide +kernel
theorem dX5_foresee_48 : decode cX5_foresee 48 = .ok (.aload_n 0, 1) := by decide +kernel
theorem dX5_foresee_49 : decode cX5_foresee 49 = .ok (.getfield 30, 3) := by decide +kernel
theorem dX5_foresee_52 : decode cX5_foresee 52 = .ok (.invokevirtual 186, 3) := by decide +kernel
theorem dX5_foresee_55 : decode cX5_foresee 55 = .ok (.aload_n 0, 1) := by decide +kernel
theorem dX5_foresee_56 : decode cX5_foresee 56 = .ok (.getfield 34, 3) := by decide +kernel
theorem dX5_foresee_59 : decode cX5_foresee 59 = .ok (.iload_n 1, 1) := by decide +kernel
theorem dX5_foresee_60 : decode cX5_foresee 60 = .ok (.invokevirtual 143, 3) := by decide +kernel
theorem dX5_foresee_63 : decode cX5_foresee 63 = .ok (.aload_n 0, 1) := by decide +kernel
theorem dX5_foresee_64 : decode cX5_foresee 64 = .ok (.aload_n 0, 1) := by decide +kernel
theorem dX5_foresee_65 : decode cX5_foresee 65 = .ok (.getfield 34, 3) := by decide +kernel
theorem dX5_foresee_68 : decode cX5_foresee 68 = .ok (.iload_n 2, 1) := by decide +kernel
theorem dX5_foresee_69 : decode cX5_foresee 69 = .ok (.invokevirtual 155, 3) := by decide +kernel
theorem dX5_foresee_72 : decode cX5_foresee 72 = .ok (.ireturn, 1) := by decide +kernel
set_option maxRecDepth 20000 in
theorem ggX5_advise_X2_hedges : GoodIn wsX5_advise wsX2_hedges := goodIn_r _ [9, 10, 116, 117, 118, 119, 120, 121, 122] (by decide +kernel) (by decide +kernel)
set_option maxRecDepth 20000 in
theorem gX5_advise_X2_hedges : GoodIn wsX5_advise (wsV RX5 60 RX2 yX2_hedges wsX2_hedges) := goodIn_app (goodIn_of _ (by decide +kernel)) ggX5_advise_X2_hedges
set_option maxRecDepth 20000 in
theorem ggX5_advise_X5_sizeBehind : GoodIn wsX5_advise wsX5_sizeBehind := goodIn_r _ [15, 16, 17, 18, 19, 20, 21, 22, 23, 24, 25, 26, 27, 28, 29, 30, 31, 32, 33, 34, 35, 36, 37, 38, 39, 40, 41, 42, 43, 44, 45, 46, 47, 48, 49, 50, 51, 52, 53, 54, 55, 56, 57, 58, 59, 60, 61, 62, 63, 64, 65, 66, 67, 68, 69, 70, 71, 72, 73, 74, 75, 76, 77, 78, 79, 80, 81, 82, 83, 84, 85, 86, 87, 88, 89, 90, 91, 92, 93, 94, 95, 111, 112, 113, 114, 115, 123, 124, 125, 126, 127, 128, 129, 130, 131, 132, 133, 134, 135, 136, 137, 138] (by decide +kernel) (by decide +kernel)
set_option maxRecDepth 20000 in
theorem gX5_advise_X5_sizeBehind : GoodIn wsX5_advise (wsV RX5 192 RX5 yX5_sizeBehind wsX5_sizeBehind) := goodIn_app (goodIn_of _ (by decide +kernel)) ggX5_advise_X5_sizeBehind
set_option maxRecDepth 20000 in
theorem ggX5_advise_X3_high : GoodIn wsX5_advise wsX3_high := goodIn_r _ [99, 46, 131, 132, 133, 134, 135, 136, 137, 138] (by decide +kernel) (by decide +kernel)
set_option maxRecDepth 20000 in
theorem gX5_advise_X3_high : GoodIn wsX5_advise (wsV RX5 196 RX3 yX3_high wsX3_high) := goodIn_app (goodIn_of _ (by decide +kernel)) ggX5_advise_X3_high
set_option maxRecDepth 20000 in
theorem ggX5_advise_X3_wide : GoodIn wsX5_advise wsX3_wide := goodIn_r _ [103, 57, 131, 132, 133, 134, 135, 136, 137, 138] (by decide +kernel) (by decide +kernel)
set_option maxRecDepth 20000 in
theorem gX5_advise_X3_wide : GoodIn wsX5_advise (wsV RX5 199 RX3 yX3_wide wsX3_wide) := goodIn_app (goodIn_of _ (by decide +kernel)) ggX5_advise_X3_wide
set_option maxRecDepth 20000 in
theorem ggX5_advise_X3_cell : GoodIn wsX5_advise wsX3_cell := goodIn_r _ [106] (by decide +kernel) (by decide +kernel)
set_option maxRecDepth 20000 in
theorem gX5_advise_X3_cell : GoodIn wsX5_advise (va_wsS RX5 99 yX3_cell wsX3_cell) := goodIn_app (goodIn_of _ (by decide +kernel)) ggX5_advise_X3_cell
set_option maxRecDepth 20000 in
theorem ggX5_advise_X2_hasHedge : GoodIn wsX5_advise wsX2_hasHedge := goodIn_r _ [110, 10, 116, 117, 118, 119, 120, 121, 122] (by decide +kernel) (by decide +kernel)
set_option maxRecDepth 20000 in
theorem gX5_advise_X2_hasHedge : GoodIn wsX5_advise (wsV RX5 103 RX2 yX2_hasHedge wsX2_hasHedge) := goodIn_app (goodIn_of _ (by decide +kernel)) ggX5_advise_X2_hasHedge
theorem dX5_advise_0 : decode cX5_advise 0 = .ok (.iload_n 1, 1) := by decide +kernel
theorem dX5_advise_1 : decode cX5_advise 1 = .ok (.iconst 1, 1) := by decide +kernel
theorem dX5_advise_2 : decode cX5_advise 2 = .ok (.if_icmp .lt 8, 3) := by decide +kernel
theorem dX5_advise_5 : decode cX5_advise 5 = .ok (.iload_n 1, 1) := by decide +kernel
theorem dX5_advise_6 : decode cX5_advise 6 = .ok (.iconst 2, 1) := by decide +kernel
theorem dX5_advise_7 : decode cX5_advise 7 = .ok (.if_icmp .le 13, 3) := by decide +kernel
theorem dX5_advise_10 : decode cX5_advise 10 = .ok (.new 49, 3) := by decide +kernel
theorem dX5_advise_13 : decode cX5_advise 13 = .ok (.dup, 1) := by decide +kernel
theorem dX5_advise_14 : decode cX5_advise 14 = .ok (.ldc 190, 2) := by decide +kernel
theorem dX5_advise_16 : decode cX5_advise 16 = .ok (.invokespecial 53, 3) := by decide +kernel
theorem dX5_advise_19 : decode cX5_advise 19 = .ok (.athrow, 1) := by decide +kernel
theorem dX5_advise_20 : decode cX5_advise 20 = .ok (.iconst (-1), 1) := by decide +kernel
theorem dX5_advise_21 : decode cX5_advise 21 = .ok (.istore_n 2, 1) := by decide +kernel
theorem dX5_advise_22 : decode cX5_advise 22 = .ok (.aload_n 0, 1) := by decide +kernel
theorem dX5_advise_23 : decode cX5_advise 23 = .ok (.iload_n 1, 1) := by decide +kernel
theorem dX5_advise_24 : decode cX5_advise 24 = .ok (.aload_n 0, 1) := by decide +kernel
theorem dX5_advise_25 : decode cX5_advise 25 = .ok (.getfield 30, 3) := by decide +kernel
theorem dX5_advise_28 : decode cX5_advise 28 = .ok (.invokevirtual 60, 3) := by decide +kernel
theorem dX5_advise_31 : decode cX5_advise 31 = .ok (.invokevirtual 192, 3) := by decide +kernel
theorem dX5_advise_34 : decode cX5_advise 34 = .ok (.istore_n 3, 1) := by decide +kernel
theorem dX5_advise_35 : decode cX5_advise 35 = .ok (.iconst 0, 1) := by decide +kernel
theorem dX5_advise_36 : decode cX5_advise 36 = .ok (.istore 4, 2) := by decide +kernel
theorem dX5_advise_38 : decode cX5_advise 38 = .ok (.iload 4, 2) := by decide +kernel
theorem dX5_advise_40 : decode cX5_advise 40 = .ok (.aload_n 0, 1) := by decide +kernel
theorem dX5_advise_41 : decode cX5_advise 41 = .ok (.getfield 10, 3) := by decide +kernel
theorem dX5_advise_44 : decode cX5_advise 44 = .ok (.invokevirtual 196, 3) := by decide +kernel
theorem dX5_advise_47 : decode cX5_advise 47 = .ok (.if_icmp .ge 94, 3) := by decide +kernel
theorem dX5_advise_50 : decode cX5_advise 50 = .ok (.iconst 0, 1) := by decide +kernel
theorem dX5_advise_51 : decode cX5_advise 51 = .ok (.istore 5, 2) := by decide +kernel
theorem dX5_advise_53 : decode cX5_advise 53 = .ok (.iload 5, 2) := by decide +kernel
theorem dX5_advise_55 : decode cX5_advise 55 = .ok (.aload_n 0, 1) := by decide +kernel
theorem dX5_advise_56 : decode cX5_advise 56 = .ok (.getfield 10, 3) := by decide +kernel
theorem dX5_advise_59 : decode cX5_advise 59 = .ok (.invokevirtual 199, 3) := by decide +kernel
theorem dX5_advise_62 : decode cX5_advise 62 = .ok (.if_icmp .ge 73, 3) := by decide +kernel
theorem dX5_advise_65 : decode cX5_advise 65 = .ok (.iload 5, 2) := by decide +kernel
theorem dX5_advise_67 : decode cX5_advise 67 = .ok (.iload 4, 2) := by decide +kernel
theorem dX5_advise_69 : decode cX5_advise 69 = .ok (.invokestatic 99, 3) := by decide +kernel
theorem dX5_advise_72 : decode cX5_advise 72 = .ok (.lstore 6, 2) := by decide +kernel
theorem dX5_advise_74 : decode cX5_advise 74 = .ok (.aload_n 0, 1) := by decide +kernel
theorem dX5_advise_75 : decode cX5_advise 75 = .ok (.getfield 30, 3) := by decide +kernel
theorem dX5_advise_78 : decode cX5_advise 78 = .ok (.lload 6, 2) := by decide +kernel
theorem dX5_advise_80 : decode cX5_advise 80 = .ok (.invokevirtual 103, 3) := by decide +kernel
theorem dX5_advise_83 : decode cX5_advise 83 = .ok (.ifCond .eq 6, 3) := by decide +kernel
theorem dX5_advise_86 : decode cX5_advise 86 = .ok (.goto 43, 3) := by decide +kernel
theorem dX5_advise_89 : decode cX5_advise 89 = .ok (.aload_n 0, 1) := by decide +kernel
theorem dX5_advise_90 : decode cX5_advise 90 = .ok (.iload_n 1, 1) := by decide +kernel
theorem dX5_advise_91 : decode cX5_advise 91 = .ok (.aload_n 0, 1) := by decide +kernel
theorem dX5_advise_92 : decode cX5_advise 92 = .ok (.getfield 30, 3) := by decide +kernel
theorem dX5_advise_95 : decode cX5_advise 95 = .ok (.invokevirtual 60, 3) := by decide +kernel
theorem dX5_advise_98 : decode cX5_advise 98 = .ok (.lload 6, 2) := by decide +kernel
theorem dX5_advise_100 : decode cX5_advise 100 = .ok (.lor, 1) := by decide +kernel
theorem dX5_advise_101 : decode cX5_advise 101 = .ok (.invokevirtual 192, 3) := by decide +kernel
theorem dX5_advise_104 : decode cX5_advise 104 = .ok (.istore 8, 2) := by decide +kernel
theorem dX5_advise_106 : decode cX5_advise 106 = .ok (.iload 8, 2) := by decide +kernel
theorem dX5_advise_108 : decode cX5_advise 108 = .ok (.iload_n 3, 1) := by decide +kernel
theorem dX5_advise_109 : decode cX5_advise 109 = .ok (.if_icmp .le 20, 3) := by decide +kernel
theorem dX5_advise_112 : decode cX5_advise 112 = .ok (.iload 8, 2) := by decide +kernel
theorem dX5_advise_114 : decode cX5_advise 114 = .ok (.istore_n 3, 1) := by decide +kernel
theorem dX5_advise_115 : decode cX5_advise 115 = .ok (.aload_n 0, 1) := by decide +kernel
theorem dX5_advise_116 : decode cX5_advise 116 = .ok (.getfield 10, 3) := by decide +kernel
theorem dX5_advise_119 : decode cX5_advise 119 = .ok (.invokevirtual 199, 3) := by decide +kernel
theorem dX5_advise_122 : decode cX5_advise 122 = .ok (.iload 4, 2) := by decide +kernel
theorem dX5_advise_124 : decode cX5_advise 124 = .ok (.imul, 1) := by decide +kernel
theorem dX5_advise_125 : decode cX5_advise 125 = .ok (.iload 5, 2) := by decide +kernel
theorem dX5_advise_127 : decode cX5_advise 127 = .ok (.iadd, 1) := by decide +kernel
theorem dX5_advise_128 : decode cX5_advise 128 = .ok (.istore_n 2, 1) := by decide +kernel
theorem dX5_advise_129 : decode cX5_advise 129 = .ok (.iinc 5 1, 3) := by decide +kernel
theorem dX5_advise_132 : decode cX5_advise 132 = .ok (.goto (-79), 3) := by decide +kernel
theorem dX5_advise_135 : decode cX5_advise 135 = .ok (.iinc 4 1, 3) := by decide +kernel
theorem dX5_advise_138 : decode cX5_advise 138 = .ok (.goto (-100), 3) := by decide +kernel
theorem dX5_advise_141 : decode cX5_advise 141 = .ok (.iload_n 2, 1) := by decide +kernel
theorem dX5_advise_142 : decode cX5_advise 142 = .ok (.ireturn, 1) := by decide +kernel
set_option maxRecDepth 20000 in
theorem ggX5_mean_X2_size : GoodIn wsX5_mean wsX2_size := goodIn_r _ [6, 7, 8, 9, 10, 11, 12, 13, 14, 25, 26, 27, 28, 29, 30, 31] (by decide +kernel) (by decide +kernel)
set_option maxRecDepth 20000 in
theorem gX5_mean_X2_size : GoodIn wsX5_mean (wsV RX5 56 RX2 yX2_size wsX2_size) := goodIn_app (goodIn_of _ (by decide +kernel)) ggX5_mean_X2_size
set_option maxRecDepth 20000 in
theorem ggX5_mean_X2_ageOfAll : GoodIn wsX5_mean wsX2_ageOfAll := goodIn_r _ [18, 19, 7, 25, 26, 27, 28, 29, 30, 31] (by decide +kernel) (by decide +kernel)
set_option maxRecDepth 20000 in
theorem gX5_mean_X2_ageOfAll : GoodIn wsX5_mean (wsV RX5 202 RX2 yX2_ageOfAll wsX2_ageOfAll) := goodIn_app (goodIn_of _ (by decide +kernel)) ggX5_mean_X2_ageOfAll
theorem dX5_mean_0 : decode cX5_mean 0 = .ok (.aload_n 0, 1) := by decide +kernel
theorem dX5_mean_1 : decode cX5_mean 1 = .ok (.getfield 30, 3) := by decide +kernel
theorem dX5_mean_4 : decode cX5_mean 4 = .ok (.invokevirtual 56, 3) := by decide +kernel
theorem dX5_mean_7 : decode cX5_mean 7 = .ok (.istore_n 1, 1) := by decide +kernel
theorem dX5_mean_8 : decode cX5_mean 8 = .ok (.iload_n 1, 1) := by decide +kernel
theorem dX5_mean_9 : decode cX5_mean 9 = .ok (.ifCond .le 17, 3) := by decide +kernel
theorem dX5_mean_12 : decode cX5_mean 12 = .ok (.aload_n 0, 1) := by decide +kernel
theorem dX5_mean_13 : decode cX5_mean 13 = .ok (.getfield 30, 3) := by decide +kernel
theorem dX5_mean_16 : decode cX5_mean 16 = .ok (.invokevirtual 202, 3) := by decide +kernel
theorem dX5_mean_19 : decode cX5_mean 19 = .ok (.i2d, 1) := by decide +kernel
theorem dX5_mean_20 : decode cX5_mean 20 = .ok (.iload_n 1, 1) := by decide +kernel
theorem dX5_mean_21 : decode cX5_mean 21 = .ok (.i2d, 1) := by decide +kernel
theorem dX5_mean_22 : decode cX5_mean 22 = .ok (.ddiv, 1) := by decide +kernel
theorem dX5_mean_23 : decode cX5_mean 23 = .ok (.goto 4, 3) := by decide +kernel
theorem dX5_mean_26 : decode cX5_mean 26 = .ok (.dconst 0, 1) := by decide +kernel
theorem dX5_mean_27 : decode cX5_mean 27 = .ok (.dreturn, 1) := by decide +kernel
set_option maxRecDepth 20000 in
theorem ggX5_digest_X5_counted : GoodIn wsX5_digest wsX5_counted := goodIn_r _ [10, 5, 11, 12, 13, 14, 15, 16, 17, 18, 19, 20, 21, 22, 23, 24, 25, 26, 27, 28, 29, 30, 31, 32, 33, 34, 35, 36, 37, 38, 39, 40, 41, 42, 43, 44, 45, 46, 47, 48, 49, 50, 51, 52, 53, 54, 55, 56, 57, 58, 59, 60, 61, 62, 63, 64, 65, 66, 67, 68, 69, 70, 71, 72, 73, 74, 75, 76, 77, 78, 79, 80, 81, 82, 83, 84, 85, 86, 87, 88, 89, 90, 91, 92, 93, 94, 95, 96, 97, 98, 99, 100, 101, 102, 103, 104, 105, 106, 107, 108, 109, 110, 111, 112, 113, 114, 115, 116, 117, 118, 119, 120, 121, 122, 123, 124, 125, 126, 127, 128, 129, 130, 131, 132, 133, 134, 135, 136, 137, 138, 139, 140, 141, 142, 143, 144, 145, 146, 147, 148, 149, 150, 151, 152, 153, 154, 155, 156, 157, 158, 210, 211, 212, 213, 214, 215, 216, 217, 218, 219, 220, 221, 222, 223, 224, 225, 226, 227, 228, 229, 230, 231, 232, 233, 234, 235, 236, 237] (by decide +kernel) (by decide +kernel)
set_option maxRecDepth 20000 in
theorem gX5_digest_X5_counted : GoodIn wsX5_digest (wsV RX5 155 RX5 yX5_counted wsX5_counted) := goodIn_app (goodIn_of _ (by decide +kernel)) ggX5_digest_X5_counted
set_option maxRecDepth 20000 in
theorem ggX5_digest_X4_births : GoodIn wsX5_digest wsX4_births := goodIn_r _ [162, 123, 230, 231, 232, 233] (by decide +kernel) (by decide +kernel)
set_option maxRecDepth 20000 in
theorem gX5_digest_X4_births : GoodIn wsX5_digest (wsV RX5 73 RX4 yX4_births wsX4_births) := goodIn_app (goodIn_of _ (by decide +kernel)) ggX5_digest_X4_births
set_option maxRecDepth 20000 in
theorem ggX5_digest_X4_stays : GoodIn wsX5_digest wsX4_stays := goodIn_r _ [166, 167, 230, 231, 232, 233] (by decide +kernel) (by decide +kernel)
set_option maxRecDepth 20000 in
theorem gX5_digest_X4_stays : GoodIn wsX5_digest (wsV RX5 76 RX4 yX4_stays wsX4_stays) := goodIn_app (goodIn_of _ (by decide +kernel)) ggX5_digest_X4_stays
set_option maxRecDepth 20000 in
theorem ggX5_digest_X3_high : GoodIn wsX5_digest wsX3_high := goodIn_r _ [26, 27, 222, 223, 224, 225, 226, 227, 228, 229] (by decide +kernel) (by decide +kernel)
set_option maxRecDepth 20000 in
theorem gX5_digest_X3_high : GoodIn wsX5_digest (wsV RX5 196 RX3 yX3_high wsX3_high) := goodIn_app (goodIn_of _ (by decide +kernel)) ggX5_digest_X3_high
set_option maxRecDepth 20000 in
theorem ggX5_digest_X3_wide : GoodIn wsX5_digest wsX3_wide := goodIn_r _ [21, 22, 222, 223, 224, 225, 226, 227, 228, 229] (by decide +kernel) (by decide +kernel)
set_option maxRecDepth 20000 in
theorem gX5_digest_X3_wide : GoodIn wsX5_digest (wsV RX5 199 RX3 yX3_wide wsX3_wide) := goodIn_app (goodIn_of _ (by decide +kernel)) ggX5_digest_X3_wide
set_option maxRecDepth 20000 in
theorem ggX5_digest_X5_fact : GoodIn wsX5_digest wsX5_fact := goodIn_r _ [171, 3, 4, 5, 172, 173, 20, 174, 175, 176, 177, 14, 178, 32, 179, 180, 181, 182, 183, 184, 185, 119, 186, 121, 122, 124, 125, 126, 127, 128, 129, 130, 131, 132, 133, 94, 95, 96, 97, 74, 54, 27, 134, 99, 100, 101, 102, 135, 84, 85, 86, 87, 22, 136, 137, 138, 139, 140, 89, 90, 91, 92, 187, 188, 189, 190, 191, 192, 193, 194, 195, 196, 197, 158, 198, 66, 67, 68, 63, 69, 70, 71, 72, 73, 199, 76, 77, 78, 79, 80, 81, 82, 83, 88, 93, 98, 200, 34, 35, 36, 37, 38, 39, 201, 202, 203, 204, 205, 117, 118, 120, 123, 141, 142, 143, 144, 145, 146, 147, 148, 149, 150, 151, 152, 153, 206, 207, 208, 209, 167, 210, 211, 212, 213, 214, 215, 216, 217, 218, 219, 220, 221, 230, 231, 232, 233, 234, 235, 236, 237, 222, 223, 224, 225, 226, 227, 228, 229] (by decide +kernel) (by decide +kernel)
set_option maxRecDepth 20000 in
theorem gX5_digest_X5_fact : GoodIn wsX5_digest (wsV RX5 149 RX5 yX5_fact wsX5_fact) := goodIn_app (goodIn_of _ (by decide +kernel)) ggX5_digest_X5_fact
theorem dX5_digest_0 : decode cX5_digest 0 = .ok (.ldc2_w 205, 3) := by decide +kernel
theorem dX5_digest_3 : decode cX5_digest 3 = .ok (.lstore_n 1, 1) := by decide +kernel
theorem dX5_digest_4 : decode cX5_digest 4 = .ok (.iconst 0, 1) := by decide +kernel
theorem dX5_digest_5 : decode cX5_digest 5 = .ok (.istore_n 3, 1) := by decide +kernel
theorem dX5_digest_6 : decode cX5_digest 6 = .ok (.iload_n 3, 1) := by decide +kernel
theorem dX5_digest_7 : decode cX5_digest 7 = .ok (.bipush 11, 2) := by decide +kernel
theorem dX5_digest_9 : decode cX5_digest 9 = .ok (.if_icmp .ge 26, 3) := by decide +kernel
theorem dX5_digest_12 : decode cX5_digest 12 = .ok (.lload_n 1, 1) := by decide +kernel
theorem dX5_digest_13 : decode cX5_digest 13 = .ok (.ldc2_w 207, 3) := by decide +kernel
theorem dX5_digest_16 : decode cX5_digest 16 = .ok (.lmul, 1) := by decide +kernel
theorem dX5_digest_17 : decode cX5_digest 17 = .ok (.aload_n 0, 1) := by decide +kernel
theorem dX5_digest_18 : decode cX5_digest 18 = .ok (.aload_n 0, 1) := by decide +kernel
theorem dX5_digest_19 : decode cX5_digest 19 = .ok (.getfield 30, 3) := by decide +kernel
