theorem dX6_init_0 : decode cX6_init 0 = .ok (.aload_n 0, 1) := by decide +kernel
theorem dX6_init_1 : decode cX6_init 1 = .ok (.invokespecial 3, 3) := by decide +kernel
theorem dX6_init_4 : decode cX6_init 4 = .ok (.aload_n 0, 1) := by decide +kernel
theorem dX6_init_5 : decode cX6_init 5 = .ok (.bipush 64, 2) := by decide +kernel
theorem dX6_init_7 : decode cX6_init 7 = .ok (.newarray .int, 2) := by decide +kernel
theorem dX6_init_9 : decode cX6_init 9 = .ok (.putfield 9, 3) := by decide +kernel
theorem dX6_init_12 : decode cX6_init 12 = .ok (.return_, 1) := by decide +kernel
theorem dX6_become_0 : decode cX6_become 0 = .ok (.aload_n 0, 1) := by decide +kernel
theorem dX6_become_1 : decode cX6_become 1 = .ok (.aload_n 1, 1) := by decide +kernel
theorem dX6_become_2 : decode cX6_become 2 = .ok (.getfield 15, 3) := by decide +kernel
theorem dX6_become_5 : decode cX6_become 5 = .ok (.putfield 15, 3) := by decide +kernel
theorem dX6_become_8 : decode cX6_become 8 = .ok (.aload_n 0, 1) := by decide +kernel
theorem dX6_become_9 : decode cX6_become 9 = .ok (.aload_n 1, 1) := by decide +kernel
theorem dX6_become_10 : decode cX6_become 10 = .ok (.getfield 19, 3) := by decide +kernel
theorem dX6_become_13 : decode cX6_become 13 = .ok (.putfield 19, 3) := by decide +kernel
theorem dX6_become_16 : decode cX6_become 16 = .ok (.aload_n 0, 1) := by decide +kernel
theorem dX6_become_17 : decode cX6_become 17 = .ok (.aload_n 1, 1) := by decide +kernel
theorem dX6_become_18 : decode cX6_become 18 = .ok (.getfield 22, 3) := by decide +kernel
theorem dX6_become_21 : decode cX6_become 21 = .ok (.putfield 22, 3) := by decide +kernel
theorem dX6_become_24 : decode cX6_become 24 = .ok (.aload_n 0, 1) := by decide +kernel
theorem dX6_become_25 : decode cX6_become 25 = .ok (.aload_n 1, 1) := by decide +kernel
theorem dX6_become_26 : decode cX6_become 26 = .ok (.getfield 25, 3) := by decide +kernel
theorem dX6_become_29 : decode cX6_become 29 = .ok (.putfield 25, 3) := by decide +kernel
theorem dX6_become_32 : decode cX6_become 32 = .ok (.aload_n 1, 1) := by decide +kernel
theorem dX6_become_33 : decode cX6_become 33 = .ok (.getfield 9, 3) := by decide +kernel
theorem dX6_become_36 : decode cX6_become 36 = .ok (.iconst 0, 1) := by decide +kernel
theorem dX6_become_37 : decode cX6_become 37 = .ok (.aload_n 0, 1) := by decide +kernel
theorem dX6_become_38 : decode cX6_become 38 = .ok (.getfield 9, 3) := by decide +kernel
theorem dX6_become_41 : decode cX6_become 41 = .ok (.iconst 0, 1) := by decide +kernel
theorem dX6_become_42 : decode cX6_become 42 = .ok (.bipush 64, 2) := by decide +kernel
theorem dX6_become_44 : decode cX6_become 44 = .ok (.invokestatic 29, 3) := by decide +kernel
theorem dX6_become_47 : decode cX6_become 47 = .ok (.aload_n 0, 1) := by decide +kernel
theorem dX6_become_48 : decode cX6_become 48 = .ok (.areturn, 1) := by decide +kernel
theorem dX6_has_0 : decode cX6_has 0 = .ok (.aload_n 0, 1) := by decide +kernel
theorem dX6_has_1 : decode cX6_has 1 = .ok (.getfield 25, 3) := by decide +kernel
theorem dX6_has_4 : decode cX6_has 4 = .ok (.iload_n 1, 1) := by decide +kernel
theorem dX6_has_5 : decode cX6_has 5 = .ok (.lshr, 1) := by decide +kernel
theorem dX6_has_6 : decode cX6_has 6 = .ok (.lconst 1, 1) := by decide +kernel
theorem dX6_has_7 : decode cX6_has 7 = .ok (.land, 1) := by decide +kernel
theorem dX6_has_8 : decode cX6_has 8 = .ok (.lconst 1, 1) := by decide +kernel
theorem dX6_has_9 : decode cX6_has 9 = .ok (.lcmp, 1) := by decide +kernel
theorem dX6_has_10 : decode cX6_has 10 = .ok (.ifCond .ne 7, 3) := by decide +kernel
theorem dX6_has_13 : decode cX6_has 13 = .ok (.iconst 1, 1) := by decide +kernel
theorem dX6_has_14 : decode cX6_has 14 = .ok (.goto 4, 3) := by decide +kernel
theorem dX6_has_17 : decode cX6_has 17 = .ok (.iconst 0, 1) := by decide +kernel
theorem dX6_has_18 : decode cX6_has 18 = .ok (.ireturn, 1) := by decide +kernel
theorem dX6_plant_0 : decode cX6_plant 0 = .ok (.aload_n 0, 1) := by decide +kernel
theorem dX6_plant_1 : decode cX6_plant 1 = .ok (.dup, 1) := by decide +kernel
theorem dX6_plant_2 : decode cX6_plant 2 = .ok (.getfield 25, 3) := by decide +kernel
theorem dX6_plant_5 : decode cX6_plant 5 = .ok (.lconst 1, 1) := by decide +kernel
theorem dX6_plant_6 : decode cX6_plant 6 = .ok (.iload_n 1, 1) := by decide +kernel
theorem dX6_plant_7 : decode cX6_plant 7 = .ok (.lshl, 1) := by decide +kernel
theorem dX6_plant_8 : decode cX6_plant 8 = .ok (.lor, 1) := by decide +kernel
theorem dX6_plant_9 : decode cX6_plant 9 = .ok (.putfield 25, 3) := by decide +kernel
theorem dX6_plant_12 : decode cX6_plant 12 = .ok (.aload_n 0, 1) := by decide +kernel
theorem dX6_plant_13 : decode cX6_plant 13 = .ok (.getfield 9, 3) := by decide +kernel
theorem dX6_plant_16 : decode cX6_plant 16 = .ok (.iload_n 1, 1) := by decide +kernel
theorem dX6_plant_17 : decode cX6_plant 17 = .ok (.iconst 0, 1) := by decide +kernel
theorem dX6_plant_18 : decode cX6_plant 18 = .ok (.iastore, 1) := by decide +kernel
theorem dX6_plant_19 : decode cX6_plant 19 = .ok (.return_, 1) := by decide +kernel
set_option maxRecDepth 20000 in
theorem ggX7_init_X6_init : GoodIn wsX7_init wsX6_init := goodIn_r _ [18, 19, 2, 3, 20, 21, 53, 54, 55, 56, 57] (by decide +kernel) (by decide +kernel)
set_option maxRecDepth 20000 in
theorem gX7_init_X6_init_n31 : GoodIn wsX7_init (wsX6_init) := ggX7_init_X6_init
set_option maxRecDepth 20000 in
theorem ggX7_init_X7_link : GoodIn wsX7_init wsX7_link := goodIn_r _ [26, 4, 5, 10, 9, 27, 28, 29, 25, 30, 31, 32, 33, 34, 35, 36, 37, 38, 39, 40, 41, 42, 43, 44, 45, 46, 47, 48, 49, 50, 51, 52] (by decide +kernel) (by decide +kernel)
set_option maxRecDepth 20000 in
theorem gX7_init_X7_link : GoodIn wsX7_init (wsV RX7 42 RX7 yX7_link wsX7_link) := goodIn_app (goodIn_of _ (by decide +kernel)) ggX7_init_X7_link
theorem dX7_init_0 : decode cX7_init 0 = .ok (.aload_n 0, 1) := by decide +kernel
theorem dX7_init_1 : decode cX7_init 1 = .ok (.invokespecial 1, 3) := by decide +kernel
theorem dX7_init_4 : decode cX7_init 4 = .ok (.aload_n 0, 1) := by decide +kernel
theorem dX7_init_5 : decode cX7_init 5 = .ok (.bipush 8, 2) := by decide +kernel
theorem dX7_init_7 : decode cX7_init 7 = .ok (.putfield 9, 3) := by decide +kernel
theorem dX7_init_10 : decode cX7_init 10 = .ok (.aload_n 0, 1) := by decide +kernel
theorem dX7_init_11 : decode cX7_init 11 = .ok (.bipush 8, 2) := by decide +kernel
theorem dX7_init_13 : decode cX7_init 13 = .ok (.putfield 13, 3) := by decide +kernel
theorem dX7_init_16 : decode cX7_init 16 = .ok (.aload_n 0, 1) := by decide +kernel
theorem dX7_init_17 : decode cX7_init 17 = .ok (.bipush 8, 2) := by decide +kernel
theorem dX7_init_19 : decode cX7_init 19 = .ok (.putfield 16, 3) := by decide +kernel
theorem dX7_init_22 : decode cX7_init 22 = .ok (.aload_n 0, 1) := by decide +kernel
theorem dX7_init_23 : decode cX7_init 23 = .ok (.bipush 62, 2) := by decide +kernel
theorem dX7_init_25 : decode cX7_init 25 = .ok (.putfield 19, 3) := by decide +kernel
theorem dX7_init_28 : decode cX7_init 28 = .ok (.aload_n 0, 1) := by decide +kernel
theorem dX7_init_29 : decode cX7_init 29 = .ok (.bipush 64, 2) := by decide +kernel
theorem dX7_init_31 : decode cX7_init 31 = .ok (.newarray .long, 2) := by decide +kernel
theorem dX7_init_33 : decode cX7_init 33 = .ok (.putfield 22, 3) := by decide +kernel
theorem dX7_init_36 : decode cX7_init 36 = .ok (.aload_n 0, 1) := by decide +kernel
theorem dX7_init_37 : decode cX7_init 37 = .ok (.bipush 64, 2) := by decide +kernel
theorem dX7_init_39 : decode cX7_init 39 = .ok (.newarray .long, 2) := by decide +kernel
theorem dX7_init_41 : decode cX7_init 41 = .ok (.putfield 26, 3) := by decide +kernel
theorem dX7_init_44 : decode cX7_init 44 = .ok (.aload_n 0, 1) := by decide +kernel
theorem dX7_init_45 : decode cX7_init 45 = .ok (.new 29, 3) := by decide +kernel
theorem dX7_init_48 : decode cX7_init 48 = .ok (.dup, 1) := by decide +kernel
theorem dX7_init_49 : decode cX7_init 49 = .ok (.invokespecial 31, 3) := by decide +kernel
theorem dX7_init_52 : decode cX7_init 52 = .ok (.putfield 32, 3) := by decide +kernel
theorem dX7_init_55 : decode cX7_init 55 = .ok (.aload_n 0, 1) := by decide +kernel
theorem dX7_init_56 : decode cX7_init 56 = .ok (.new 29, 3) := by decide +kernel
theorem dX7_init_59 : decode cX7_init 59 = .ok (.dup, 1) := by decide +kernel
theorem dX7_init_60 : decode cX7_init 60 = .ok (.invokespecial 31, 3) := by decide +kernel
theorem dX7_init_63 : decode cX7_init 63 = .ok (.putfield 36, 3) := by decide +kernel
theorem dX7_init_66 : decode cX7_init 66 = .ok (.aload_n 0, 1) := by decide +kernel
theorem dX7_init_67 : decode cX7_init 67 = .ok (.bipush 61, 2) := by decide +kernel
theorem dX7_init_69 : decode cX7_init 69 = .ok (.newarray .long, 2) := by decide +kernel
theorem dX7_init_71 : decode cX7_init 71 = .ok (.putfield 39, 3) := by decide +kernel
theorem dX7_init_74 : decode cX7_init 74 = .ok (.aload_n 0, 1) := by decide +kernel
theorem dX7_init_75 : decode cX7_init 75 = .ok (.invokevirtual 42, 3) := by decide +kernel
theorem dX7_init_78 : decode cX7_init 78 = .ok (.return_, 1) := by decide +kernel
theorem dX7_thrown_0 : decode cX7_thrown 0 = .ok (.aload_n 0, 1) := by decide +kernel
theorem dX7_thrown_1 : decode cX7_thrown 1 = .ok (.getfield 45, 3) := by decide +kernel
theorem dX7_thrown_4 : decode cX7_thrown 4 = .ok (.ireturn, 1) := by decide +kernel
theorem dX7_no_0 : decode cX7_no 0 = .ok (.aload_n 0, 1) := by decide +kernel
theorem dX7_no_1 : decode cX7_no 1 = .ok (.iload_n 1, 1) := by decide +kernel
theorem dX7_no_2 : decode cX7_no 2 = .ok (.putfield 45, 3) := by decide +kernel
theorem dX7_no_5 : decode cX7_no 5 = .ok (.iconst 0, 1) := by decide +kernel
theorem dX7_no_6 : decode cX7_no 6 = .ok (.ireturn, 1) := by decide +kernel
theorem dX7_isIn_0 : decode cX7_isIn 0 = .ok (.iload_n 0, 1) := by decide +kernel
theorem dX7_isIn_1 : decode cX7_isIn 1 = .ok (.iload_n 1, 1) := by decide +kernel
theorem dX7_isIn_2 : decode cX7_isIn 2 = .ok (.if_icmp .lt 12, 3) := by decide +kernel
theorem dX7_isIn_5 : decode cX7_isIn 5 = .ok (.iload_n 0, 1) := by decide +kernel
theorem dX7_isIn_6 : decode cX7_isIn 6 = .ok (.iload_n 2, 1) := by decide +kernel
theorem dX7_isIn_7 : decode cX7_isIn 7 = .ok (.if_icmp .gt 7, 3) := by decide +kernel
theorem dX7_isIn_10 : decode cX7_isIn 10 = .ok (.iconst 1, 1) := by decide +kernel
theorem dX7_isIn_11 : decode cX7_isIn 11 = .ok (.goto 4, 3) := by decide +kernel
theorem dX7_isIn_14 : decode cX7_isIn 14 = .ok (.iconst 0, 1) := by decide +kernel
theorem dX7_isIn_15 : decode cX7_isIn 15 = .ok (.ireturn, 1) := by decide +kernel
set_option maxRecDepth 20000 in
theorem ggX7_isCell_X7_isIn : GoodIn wsX7_isCell wsX7_isIn := goodIn_r _ [6] (by decide +kernel) (by decide +kernel)
set_option maxRecDepth 20000 in
theorem gX7_isCell_X7_isIn : GoodIn wsX7_isCell (va_wsS RX7 48 yX7_isIn wsX7_isIn) := goodIn_app (goodIn_of _ (by decide +kernel)) ggX7_isCell_X7_isIn
theorem dX7_isCell_0 : decode cX7_isCell 0 = .ok (.iload_n 1, 1) := by decide +kernel
theorem dX7_isCell_1 : decode cX7_isCell 1 = .ok (.iconst 0, 1) := by decide +kernel
theorem dX7_isCell_2 : decode cX7_isCell 2 = .ok (.aload_n 0, 1) := by decide +kernel
theorem dX7_isCell_3 : decode cX7_isCell 3 = .ok (.getfield 9, 3) := by decide +kernel
theorem dX7_isCell_6 : decode cX7_isCell 6 = .ok (.iconst 1, 1) := by decide +kernel
theorem dX7_isCell_7 : decode cX7_isCell 7 = .ok (.isub, 1) := by decide +kernel
theorem dX7_isCell_8 : decode cX7_isCell 8 = .ok (.invokestatic 48, 3) := by decide +kernel
theorem dX7_isCell_11 : decode cX7_isCell 11 = .ok (.ifCond .eq 21, 3) := by decide +kernel
theorem dX7_isCell_14 : decode cX7_isCell 14 = .ok (.iload_n 2, 1) := by decide +kernel
theorem dX7_isCell_15 : decode cX7_isCell 15 = .ok (.iconst 0, 1) := by decide +kernel
theorem dX7_isCell_16 : decode cX7_isCell 16 = .ok (.aload_n 0, 1) := by decide +kernel
theorem dX7_isCell_17 : decode cX7_isCell 17 = .ok (.getfield 13, 3) := by decide +kernel
theorem dX7_isCell_20 : decode cX7_isCell 20 = .ok (.iconst 1, 1) := by decide +kernel
theorem dX7_isCell_21 : decode cX7_isCell 21 = .ok (.isub, 1) := by decide +kernel
theorem dX7_isCell_22 : decode cX7_isCell 22 = .ok (.invokestatic 48, 3) := by decide +kernel
theorem dX7_isCell_25 : decode cX7_isCell 25 = .ok (.ifCond .eq 7, 3) := by decide +kernel
theorem dX7_isCell_28 : decode cX7_isCell 28 = .ok (.iconst 1, 1) := by decide +kernel
theorem dX7_isCell_29 : decode cX7_isCell 29 = .ok (.goto 4, 3) := by decide +kernel
theorem dX7_isCell_32 : decode cX7_isCell 32 = .ok (.iconst 0, 1) := by decide +kernel
theorem dX7_isCell_33 : decode cX7_isCell 33 = .ok (.ireturn, 1) := by decide +kernel
set_option maxRecDepth 20000 in
theorem ggX7_at_X7_isCell : GoodIn wsX7_at wsX7_isCell := goodIn_r _ [8, 1, 3, 9, 10, 7, 11, 12, 13, 14, 15, 16, 17, 18, 19, 20, 21, 22] (by decide +kernel) (by decide +kernel)
set_option maxRecDepth 20000 in
theorem gX7_at_X7_isCell : GoodIn wsX7_at (wsV RX7 52 RX7 yX7_isCell wsX7_isCell) := goodIn_app (goodIn_of _ (by decide +kernel)) ggX7_at_X7_isCell
theorem dX7_at_0 : decode cX7_at 0 = .ok (.aload_n 0, 1) := by decide +kernel
theorem dX7_at_1 : decode cX7_at 1 = .ok (.iload_n 1, 1) := by decide +kernel
theorem dX7_at_2 : decode cX7_at 2 = .ok (.iload_n 2, 1) := by decide +kernel
theorem dX7_at_3 : decode cX7_at 3 = .ok (.invokevirtual 52, 3) := by decide +kernel
theorem dX7_at_6 : decode cX7_at 6 = .ok (.ifCond .eq 12, 3) := by decide +kernel
theorem dX7_at_9 : decode cX7_at 9 = .ok (.aload_n 0, 1) := by decide +kernel
theorem dX7_at_10 : decode cX7_at 10 = .ok (.getfield 9, 3) := by decide +kernel
theorem dX7_at_13 : decode cX7_at 13 = .ok (.iload_n 2, 1) := by decide +kernel
theorem dX7_at_14 : decode cX7_at 14 = .ok (.imul, 1) := by decide +kernel
theorem dX7_at_15 : decode cX7_at 15 = .ok (.iload_n 1, 1) := by decide +kernel
theorem dX7_at_16 : decode cX7_at 16 = .ok (.iadd, 1) := by decide +kernel
theorem dX7_at_17 : decode cX7_at 17 = .ok (.ireturn, 1) := by decide +kernel
theorem dX7_at_18 : decode cX7_at 18 = .ok (.aload_n 0, 1) := by decide +kernel
theorem dX7_at_19 : decode cX7_at 19 = .ok (.getfield 56, 3) := by decide +kernel
theorem dX7_at_22 : decode cX7_at 22 = .ok (.ifCond .eq 34, 3) := by decide +kernel
theorem dX7_at_25 : decode cX7_at 25 = .ok (.aload_n 0, 1) := by decide +kernel
theorem dX7_at_26 : decode cX7_at 26 = .ok (.getfield 9, 3) := by decide +kernel
theorem dX7_at_29 : decode cX7_at 29 = .ok (.iload_n 2, 1) := by decide +kernel
theorem dX7_at_30 : decode cX7_at 30 = .ok (.aload_n 0, 1) := by decide +kernel
theorem dX7_at_31 : decode cX7_at 31 = .ok (.getfield 13, 3) := by decide +kernel
theorem dX7_at_34 : decode cX7_at 34 = .ok (.iadd, 1) := by decide +kernel
theorem dX7_at_35 : decode cX7_at 35 = .ok (.aload_n 0, 1) := by decide +kernel
theorem dX7_at_36 : decode cX7_at 36 = .ok (.getfield 13, 3) := by decide +kernel
theorem dX7_at_39 : decode cX7_at 39 = .ok (.irem, 1) := by decide +kernel
theorem dX7_at_40 : decode cX7_at 40 = .ok (.imul, 1) := by decide +kernel
theorem dX7_at_41 : decode cX7_at 41 = .ok (.iload_n 1, 1) := by decide +kernel
theorem dX7_at_42 : decode cX7_at 42 = .ok (.aload_n 0, 1) := by decide +kernel
theorem dX7_at_43 : decode cX7_at 43 = .ok (.getfield 9, 3) := by decide +kernel
theorem dX7_at_46 : decode cX7_at 46 = .ok (.iadd, 1) := by decide +kernel
theorem dX7_at_47 : decode cX7_at 47 = .ok (.aload_n 0, 1) := by decide +kernel
theorem dX7_at_48 : decode cX7_at 48 = .ok (.getfield 9, 3) := by decide +kernel
theorem dX7_at_51 : decode cX7_at 51 = .ok (.irem, 1) := by decide +kernel
theorem dX7_at_52 : decode cX7_at 52 = .ok (.iadd, 1) := by decide +kernel
theorem dX7_at_53 : decode cX7_at 53 = .ok (.goto 4, 3) := by decide +kernel
theorem dX7_at_56 : decode cX7_at 56 = .ok (.iconst (-1), 1) := by decide +kernel
theorem dX7_at_57 : decode cX7_at 57 = .ok (.ireturn, 1) := by decide +kernel
theorem dX7_bit_0 : decode cX7_bit 0 = .ok (.iload_n 0, 1) := by decide +kernel
theorem dX7_bit_1 : decode cX7_bit 1 = .ok (.iconst (-1), 1) := by decide +kernel
theorem dX7_bit_2 : decode cX7_bit 2 = .ok (.if_icmp .ne 7, 3) := by decide +kernel
theorem dX7_bit_5 : decode cX7_bit 5 = .ok (.lconst 0, 1) := by decide +kernel
theorem dX7_bit_6 : decode cX7_bit 6 = .ok (.goto 6, 3) := by decide +kernel
theorem dX7_bit_9 : decode cX7_bit 9 = .ok (.lconst 1, 1) := by decide +kernel
theorem dX7_bit_10 : decode cX7_bit 10 = .ok (.iload_n 0, 1) := by decide +kernel
theorem dX7_bit_11 : decode cX7_bit 11 = .ok (.lshl, 1) := by decide +kernel
theorem dX7_bit_12 : decode cX7_bit 12 = .ok (.lreturn, 1) := by decide +kernel
set_option maxRecDepth 20000 in
theorem ggX7_link_X7_at : GoodIn wsX7_link wsX7_at := goodIn_r _ [9, 1, 10, 2, 11, 12, 13, 8, 14, 15, 16, 17, 21, 22, 23, 24, 25, 26, 27, 28, 29, 30, 31] (by decide +kernel) (by decide +kernel)
set_option maxRecDepth 20000 in
theorem gX7_link_X7_at : GoodIn wsX7_link (wsV RX7 60 RX7 yX7_at wsX7_at) := goodIn_app (goodIn_of _ (by decide +kernel)) ggX7_link_X7_at
set_option maxRecDepth 20000 in
theorem ggX7_link_X7_bit : GoodIn wsX7_link wsX7_bit := goodIn_r _ [20] (by decide +kernel) (by decide +kernel)
set_option maxRecDepth 20000 in
theorem gX7_link_X7_bit : GoodIn wsX7_link (va_wsS RX7 64 yX7_bit wsX7_bit) := goodIn_app (goodIn_of _ (by decide +kernel)) ggX7_link_X7_bit
theorem dX7_link_0 : decode cX7_link 0 = .ok (.iconst 0, 1) := by decide +kernel
theorem dX7_link_1 : decode cX7_link 1 = .ok (.istore_n 1, 1) := by decide +kernel
theorem dX7_link_2 : decode cX7_link 2 = .ok (.iload_n 1, 1) := by decide +kernel
theorem dX7_link_3 : decode cX7_link 3 = .ok (.aload_n 0, 1) := by decide +kernel
theorem dX7_link_4 : decode cX7_link 4 = .ok (.getfield 9, 3) := by decide +kernel
theorem dX7_link_7 : decode cX7_link 7 = .ok (.aload_n 0, 1) := by decide +kernel
theorem dX7_link_8 : decode cX7_link 8 = .ok (.getfield 13, 3) := by decide +kernel
theorem dX7_link_11 : decode cX7_link 11 = .ok (.imul, 1) := by decide +kernel
theorem dX7_link_12 : decode cX7_link 12 = .ok (.if_icmp .ge 144, 3) := by decide +kernel
theorem dX7_link_15 : decode cX7_link 15 = .ok (.iload_n 1, 1) := by decide +kernel
theorem dX7_link_16 : decode cX7_link 16 = .ok (.aload_n 0, 1) := by decide +kernel
theorem dX7_link_17 : decode cX7_link 17 = .ok (.getfield 9, 3) := by decide +kernel
theorem dX7_link_20 : decode cX7_link 20 = .ok (.irem, 1) := by decide +kernel
theorem dX7_link_21 : decode cX7_link 21 = .ok (.istore_n 2, 1) := by decide +kernel
theorem dX7_link_22 : decode cX7_link 22 = .ok (.iload_n 1, 1) := by decide +kernel
theorem dX7_link_23 : decode cX7_link 23 = .ok (.aload_n 0, 1) := by decide +kernel
theorem dX7_link_24 : decode cX7_link 24 = .ok (.getfield 9, 3) := by decide +kernel
theorem dX7_link_27 : decode cX7_link 27 = .ok (.idiv, 1) := by decide +kernel
theorem dX7_link_28 : decode cX7_link 28 = .ok (.istore_n 3, 1) := by decide +kernel
theorem dX7_link_29 : decode cX7_link 29 = .ok (.aload_n 0, 1) := by decide +kernel
theorem dX7_link_30 : decode cX7_link 30 = .ok (.getfield 26, 3) := by decide +kernel
theorem dX7_link_33 : decode cX7_link 33 = .ok (.iload_n 1, 1) := by decide +kernel
theorem dX7_link_34 : decode cX7_link 34 = .ok (.aload_n 0, 1) := by decide +kernel
theorem dX7_link_35 : decode cX7_link 35 = .ok (.iload_n 2, 1) := by decide +kernel
theorem dX7_link_36 : decode cX7_link 36 = .ok (.iconst 1, 1) := by decide +kernel
theorem dX7_link_37 : decode cX7_link 37 = .ok (.isub, 1) := by decide +kernel
theorem dX7_link_38 : decode cX7_link 38 = .ok (.iload_n 3, 1) := by decide +kernel
theorem dX7_link_39 : decode cX7_link 39 = .ok (.invokevirtual 60, 3) := by decide +kernel
theorem dX7_link_42 : decode cX7_link 42 = .ok (.invokestatic 64, 3) := by decide +kernel
theorem dX7_link_45 : decode cX7_link 45 = .ok (.aload_n 0, 1) := by decide +kernel
theorem dX7_link_46 : decode cX7_link 46 = .ok (.iload_n 2, 1) := by decide +kernel
theorem dX7_link_47 : decode cX7_link 47 = .ok (.iconst 1, 1) := by decide +kernel
theorem dX7_link_48 : decode cX7_link 48 = .ok (.iadd, 1) := by decide +kernel
theorem dX7_link_49 : decode cX7_link 49 = .ok (.iload_n 3, 1) := by decide +kernel
theorem dX7_link_50 : decode cX7_link 50 = .ok (.invokevirtual 60, 3) := by decide +kernel
theorem dX7_link_53 : decode cX7_link 53 = .ok (.invokestatic 64, 3) := by decide +kernel
theorem dX7_link_56 : decode cX7_link 56 = .ok (.lor, 1) := by decide +kernel
theorem dX7_link_57 : decode cX7_link 57 = .ok (.aload_n 0, 1) := by decide +kernel
theorem dX7_link_58 : decode cX7_link 58 = .ok (.iload_n 2, 1) := by decide +kernel
theorem dX7_link_59 : decode cX7_link 59 = .ok (.iload_n 3, 1) := by decide +kernel
theorem dX7_link_60 : decode cX7_link 60 = .ok (.iconst 1, 1) := by decide +kernel
theorem dX7_link_61 : decode cX7_link 61 = .ok (.isub, 1) := by decide +kernel
theorem dX7_link_62 : decode cX7_link 62 = .ok (.invokevirtual 60, 3) := by decide +kernel
theorem dX7_link_65 : decode cX7_link 65 = .ok (.invokestatic 64, 3) := by decide +kernel
theorem dX7_link_68 : decode cX7_link 68 = .ok (.lor, 1) := by decide +kernel
theorem dX7_link_69 : decode cX7_link 69 = .ok (.aload_n 0, 1) := by decide +kernel
theorem dX7_link_70 : decode cX7_link 70 = .ok (.iload_n 2, 1) := by decide +kernel
theorem dX7_link_71 : decode cX7_link 71 = .ok (.iload_n 3, 1) := by decide +kernel
theorem dX7_link_72 : decode cX7_link 72 = .ok (.iconst 1, 1) := by decide +kernel
theorem dX7_link_73 : decode cX7_link 73 = .ok (.iadd, 1) := by decide +kernel
theorem dX7_link_74 : decode cX7_link 74 = .ok (.invokevirtual 60, 3) := by decide +kernel
theorem dX7_link_77 : decode cX7_link 77 = .ok (.invokestatic 64, 3) := by decide +kernel
theorem dX7_link_80 : decode cX7_link 80 = .ok (.lor, 1) := by decide +kernel
theorem dX7_link_81 : decode cX7_link 81 = .ok (.lastore, 1) := by decide +kernel
theorem dX7_link_82 : decode cX7_link 82 = .ok (.aload_n 0, 1) := by decide +kernel
theorem dX7_link_83 : decode cX7_link 83 = .ok (.getfield 22, 3) := by decide +kernel
theorem dX7_link_86 : decode cX7_link 86 = .ok (.iload_n 1, 1) := by decide +kernel
theorem dX7_link_87 : decode cX7_link 87 = .ok (.aload_n 0, 1) := by decide +kernel
theorem dX7_link_88 : decode cX7_link 88 = .ok (.getfield 26, 3) := by decide +kernel
theorem dX7_link_91 : decode cX7_link 91 = .ok (.iload_n 1, 1) := by decide +kernel
theorem dX7_link_92 : decode cX7_link 92 = .ok (.laload, 1) := by decide +kernel
theorem dX7_link_93 : decode cX7_link 93 = .ok (.aload_n 0, 1) := by decide +kernel
theorem dX7_link_94 : decode cX7_link 94 = .ok (.iload_n 2, 1) := by decide +kernel
theorem dX7_link_95 : decode cX7_link 95 = .ok (.iconst 1, 1) := by decide +kernel
theorem dX7_link_96 : decode cX7_link 96 = .ok (.isub, 1) := by decide +kernel
theorem dX7_link_97 : decode cX7_link 97 = .ok (.iload_n 3, 1) := by decide +kernel
theorem dX7_link_98 : decode cX7_link 98 = .ok (.iconst 1, 1) := by decide +kernel
theorem dX7_link_99 : decode cX7_link 99 = .ok (.isub, 1) := by decide +kernel
theorem dX7_link_100 : decode cX7_link 100 = .ok (.invokevirtual 60, 3) := by decide +kernel
theorem dX7_link_103 : decode cX7_link 103 = .ok (.invokestatic 64, 3) := by decide +kernel
theorem dX7_link_106 : decode cX7_link 106 = .ok (.lor, 1) := by decide +kernel
theorem dX7_link_107 : decode cX7_link 107 = .ok (.aload_n 0, 1) := by decide +kernel
theorem dX7_link_108 : decode cX7_link 108 = .ok (.iload_n 2, 1) := by decide +kernel
theorem dX7_link_109 : decode cX7_link 109 = .ok (.iconst 1, 1) := by decide +kernel
theorem dX7_link_110 : decode cX7_link 110 = .ok (.iadd, 1) := by decide +kernel
theorem dX7_link_111 : decode cX7_link 111 = .ok (.iload_n 3, 1) := by decide +kernel
theorem dX7_link_112 : decode cX7_link 112 = .ok (.iconst 1, 1) := by decide +kernel
theorem dX7_link_113 : decode cX7_link 113 = .ok (.isub, 1) := by decide +kernel
theorem dX7_link_114 : decode cX7_link 114 = .ok (.invokevirtual 60, 3) := by decide +kernel
theorem dX7_link_117 : decode cX7_link 117 = .ok (.invokestatic 64, 3) := by decide +kernel
theorem dX7_link_120 : decode cX7_link 120 = .ok (.lor, 1) := by decide +kernel
theorem dX7_link_121 : decode cX7_link 121 = .ok (.aload_n 0, 1) := by decide +kernel
theorem dX7_link_122 : decode cX7_link 122 = .ok (.iload_n 2, 1) := by decide +kernel
theorem dX7_link_123 : decode cX7_link 123 = .ok (.iconst 1, 1) := by decide +kernel
theorem dX7_link_124 : decode cX7_link 124 = .ok (.isub, 1) := by decide +kernel
theorem dX7_link_125 : decode cX7_link 125 = .ok (.iload_n 3, 1) := by decide +kernel
theorem dX7_link_126 : decode cX7_link 126 = .ok (.iconst 1, 1) := by decide +kernel
theorem dX7_link_127 : decode cX7_link 127 = .ok (.iadd, 1) := by decide +kernel
theorem dX7_link_128 : decode cX7_link 128 = .ok (.invokevirtual 60, 3) := by decide +kernel
theorem dX7_link_131 : decode cX7_link 131 = .ok (.invokestatic 64, 3) := by decide +kernel
theorem dX7_link_134 : decode cX7_link 134 = .ok (.lor, 1) := by decide +kernel
theorem dX7_link_135 : decode cX7_link 135 = .ok (.aload_n 0, 1) := by decide +kernel
theorem dX7_link_136 : decode cX7_link 136 = .ok (.iload_n 2, 1) := by decide +kernel
theorem dX7_link_137 : decode cX7_link 137 = .ok (.iconst 1, 1) := by decide +kernel
theorem dX7_link_138 : decode cX7_link 138 = .ok (.iadd, 1) := by decide +kernel
theorem dX7_link_139 : decode cX7_link 139 = .ok (.iload_n 3, 1) := by decide +kernel
theorem dX7_link_140 : decode cX7_link 140 = .ok (.iconst 1, 1) := by decide +kernel
theorem dX7_link_141 : decode cX7_link 141 = .ok (.iadd, 1) := by decide +kernel
theorem dX7_link_142 : decode cX7_link 142 = .ok (.invokevirtual 60, 3) := by decide +kernel
theorem dX7_link_145 : decode cX7_link 145 = .ok (.invokestatic 64, 3) := by decide +kernel
theorem dX7_link_148 : decode cX7_link 148 = .ok (.lor, 1) := by decide +kernel
theorem dX7_link_149 : decode cX7_link 149 = .ok (.lastore, 1) := by decide +kernel
theorem dX7_link_150 : decode cX7_link 150 = .ok (.iinc 1 1, 3) := by decide +kernel
theorem dX7_link_153 : decode cX7_link 153 = .ok (.goto (-151), 3) := by decide +kernel
theorem dX7_link_156 : decode cX7_link 156 = .ok (.return_, 1) := by decide +kernel
set_option maxRecDepth 20000 in
theorem ggX7_comes_J13_bitCount_95d88 : GoodIn wsX7_comes wsJ13_bitCount_95d88 := goodIn_r _ [7, 8, 9, 10] (by decide +kernel) (by decide +kernel)
set_option maxRecDepth 20000 in
theorem gX7_comes_J13_bitCount_95d88 : GoodIn wsX7_comes (va_wsS RX7 68 yJ13_bitCount_95d88 wsJ13_bitCount_95d88) := goodIn_app (goodIn_of _ (by decide +kernel)) ggX7_comes_J13_bitCount_95d88
theorem dX7_comes_0 : decode cX7_comes 0 = .ok (.lload_n 1, 1) := by decide +kernel
theorem dX7_comes_1 : decode cX7_comes 1 = .ok (.aload_n 0, 1) := by decide +kernel
theorem dX7_comes_2 : decode cX7_comes 2 = .ok (.getfield 22, 3) := by decide +kernel
theorem dX7_comes_5 : decode cX7_comes 5 = .ok (.iload_n 3, 1) := by decide +kernel
theorem dX7_comes_6 : decode cX7_comes 6 = .ok (.laload, 1) := by decide +kernel
theorem dX7_comes_7 : decode cX7_comes 7 = .ok (.land, 1) := by decide +kernel
theorem dX7_comes_8 : decode cX7_comes 8 = .ok (.invokestatic 68, 3) := by decide +kernel
theorem dX7_comes_11 : decode cX7_comes 11 = .ok (.istore 4, 2) := by decide +kernel
theorem dX7_comes_13 : decode cX7_comes 13 = .ok (.lload_n 1, 1) := by decide +kernel
theorem dX7_comes_14 : decode cX7_comes 14 = .ok (.iload_n 3, 1) := by decide +kernel
theorem dX7_comes_15 : decode cX7_comes 15 = .ok (.lshr, 1) := by decide +kernel
theorem dX7_comes_16 : decode cX7_comes 16 = .ok (.lconst 1, 1) := by decide +kernel
theorem dX7_comes_17 : decode cX7_comes 17 = .ok (.land, 1) := by decide +kernel
theorem dX7_comes_18 : decode cX7_comes 18 = .ok (.lconst 1, 1) := by decide +kernel
theorem dX7_comes_19 : decode cX7_comes 19 = .ok (.lcmp, 1) := by decide +kernel
theorem dX7_comes_20 : decode cX7_comes 20 = .ok (.ifCond .ne 10, 3) := by decide +kernel
theorem dX7_comes_23 : decode cX7_comes 23 = .ok (.aload_n 0, 1) := by decide +kernel
theorem dX7_comes_24 : decode cX7_comes 24 = .ok (.getfield 19, 3) := by decide +kernel
theorem dX7_comes_27 : decode cX7_comes 27 = .ok (.goto 7, 3) := by decide +kernel
theorem dX7_comes_30 : decode cX7_comes 30 = .ok (.aload_n 0, 1) := by decide +kernel
theorem dX7_comes_31 : decode cX7_comes 31 = .ok (.getfield 16, 3) := by decide +kernel
theorem dX7_comes_34 : decode cX7_comes 34 = .ok (.istore 5, 2) := by decide +kernel
theorem dX7_comes_36 : decode cX7_comes 36 = .ok (.iload 5, 2) := by decide +kernel
theorem dX7_comes_38 : decode cX7_comes 38 = .ok (.iload 4, 2) := by decide +kernel
theorem dX7_comes_40 : decode cX7_comes 40 = .ok (.ishr, 1) := by decide +kernel
theorem dX7_comes_41 : decode cX7_comes 41 = .ok (.iconst 1, 1) := by decide +kernel
theorem dX7_comes_42 : decode cX7_comes 42 = .ok (.iand, 1) := by decide +kernel
theorem dX7_comes_43 : decode cX7_comes 43 = .ok (.iconst 1, 1) := by decide +kernel
theorem dX7_comes_44 : decode cX7_comes 44 = .ok (.if_icmp .ne 7, 3) := by decide +kernel
theorem dX7_comes_47 : decode cX7_comes 47 = .ok (.iconst 1, 1) := by decide +kernel
theorem dX7_comes_48 : decode cX7_comes 48 = .ok (.goto 4, 3) := by decide +kernel
theorem dX7_comes_51 : decode cX7_comes 51 = .ok (.iconst 0, 1) := by decide +kernel
theorem dX7_comes_52 : decode cX7_comes 52 = .ok (.ireturn, 1) := by decide +kernel
set_option maxRecDepth 20000 in
theorem ggX7_next_X7_comes : GoodIn wsX7_next wsX7_comes := goodIn_r _ [7, 8, 9, 10, 11, 12, 13, 14, 15, 16, 17, 18, 19, 20, 21, 22, 23, 24, 25, 26, 27, 28] (by decide +kernel) (by decide +kernel)
set_option maxRecDepth 20000 in
theorem gX7_next_X7_comes : GoodIn wsX7_next (wsV RX7 74 RX7 yX7_comes wsX7_comes) := goodIn_app (goodIn_of _ (by decide +kernel)) ggX7_next_X7_comes
theorem dX7_next_0 : decode cX7_next 0 = .ok (.lconst 0, 1) := by decide +kernel
theorem dX7_next_1 : decode cX7_next 1 = .ok (.lstore_n 3, 1) := by decide +kernel
theorem dX7_next_2 : decode cX7_next 2 = .ok (.iconst 0, 1) := by decide +kernel
theorem dX7_next_3 : decode cX7_next 3 = .ok (.istore 5, 2) := by decide +kernel
theorem dX7_next_5 : decode cX7_next 5 = .ok (.iload 5, 2) := by decide +kernel
theorem dX7_next_7 : decode cX7_next 7 = .ok (.aload_n 0, 1) := by decide +kernel
theorem dX7_next_8 : decode cX7_next 8 = .ok (.getfield 9, 3) := by decide +kernel
theorem dX7_next_11 : decode cX7_next 11 = .ok (.aload_n 0, 1) := by decide +kernel
theorem dX7_next_12 : decode cX7_next 12 = .ok (.getfield 13, 3) := by decide +kernel
theorem dX7_next_15 : decode cX7_next 15 = .ok (.imul, 1) := by decide +kernel
theorem dX7_next_16 : decode cX7_next 16 = .ok (.if_icmp .ge 26, 3) := by decide +kernel
theorem dX7_next_19 : decode cX7_next 19 = .ok (.aload_n 0, 1) := by decide +kernel
theorem dX7_next_20 : decode cX7_next 20 = .ok (.lload_n 1, 1) := by decide +kernel
theorem dX7_next_21 : decode cX7_next 21 = .ok (.iload 5, 2) := by decide +kernel
theorem dX7_next_23 : decode cX7_next 23 = .ok (.invokevirtual 74, 3) := by decide +kernel
theorem dX7_next_26 : decode cX7_next 26 = .ok (.ifCond .eq 10, 3) := by decide +kernel
theorem dX7_next_29 : decode cX7_next 29 = .ok (.lload_n 3, 1) := by decide +kernel
theorem dX7_next_30 : decode cX7_next 30 = .ok (.lconst 1, 1) := by decide +kernel
theorem dX7_next_31 : decode cX7_next 31 = .ok (.iload 5, 2) := by decide +kernel
theorem dX7_next_33 : decode cX7_next 33 = .ok (.lshl, 1) := by decide +kernel
theorem dX7_next_34 : decode cX7_next 34 = .ok (.lor, 1) := by decide +kernel
theorem dX7_next_35 : decode cX7_next 35 = .ok (.lstore_n 3, 1) := by decide +kernel
theorem dX7_next_36 : decode cX7_next 36 = .ok (.iinc 5 1, 3) := by decide +kernel
theorem dX7_next_39 : decode cX7_next 39 = .ok (.goto (-34), 3) := by decide +kernel
theorem dX7_next_42 : decode cX7_next 42 = .ok (.lload_n 3, 1) := by decide +kernel
theorem dX7_next_43 : decode cX7_next 43 = .ok (.lreturn, 1) := by decide +kernel
set_option maxRecDepth 20000 in
theorem ggX7_pass_X7_next : GoodIn wsX7_pass wsX7_next := goodIn_r _ [8, 1, 2, 9, 10, 11, 7, 12, 13, 14, 15, 16, 17, 18, 19, 20, 21, 22, 34, 35, 36, 37, 38, 39, 40, 41, 42, 43, 44] (by decide +kernel) (by decide +kernel)
set_option maxRecDepth 20000 in
theorem gX7_pass_X7_next : GoodIn wsX7_pass (wsV RX7 82 RX7 yX7_next wsX7_next) := goodIn_app (goodIn_of _ (by decide +kernel)) ggX7_pass_X7_next
set_option maxRecDepth 20000 in
theorem ggX7_pass_X6_has : GoodIn wsX7_pass wsX6_has := goodIn_r _ [27, 28, 29, 30, 31, 32, 33] (by decide +kernel) (by decide +kernel)
set_option maxRecDepth 20000 in
theorem gX7_pass_X6_has : GoodIn wsX7_pass (wsV RX7 90 RX6 yX6_has wsX6_has) := goodIn_app (goodIn_of _ (by decide +kernel)) ggX7_pass_X6_has
set_option maxRecDepth 20000 in
theorem ggX7_pass_J13_bitCount_95d88 : GoodIn wsX7_pass wsJ13_bitCount_95d88 := goodIn_r _ [19, 20, 21, 22] (by decide +kernel) (by decide +kernel)
set_option maxRecDepth 20000 in
theorem gX7_pass_J13_bitCount_95d88 : GoodIn wsX7_pass (va_wsS RX7 68 yJ13_bitCount_95d88 wsJ13_bitCount_95d88) := goodIn_app (goodIn_of _ (by decide +kernel)) ggX7_pass_J13_bitCount_95d88
theorem dX7_pass_0 : decode cX7_pass 0 = .ok (.iconst 0, 1) := by decide +kernel
theorem dX7_pass_1 : decode cX7_pass 1 = .ok (.istore_n 3, 1) := by decide +kernel
theorem dX7_pass_2 : decode cX7_pass 2 = .ok (.iload_n 3, 1) := by decide +kernel
theorem dX7_pass_3 : decode cX7_pass 3 = .ok (.iload_n 2, 1) := by decide +kernel
theorem dX7_pass_4 : decode cX7_pass 4 = .ok (.if_icmp .ge 133, 3) := by decide +kernel
theorem dX7_pass_7 : decode cX7_pass 7 = .ok (.aload_n 0, 1) := by decide +kernel
theorem dX7_pass_8 : decode cX7_pass 8 = .ok (.aload_n 1, 1) := by decide +kernel
theorem dX7_pass_9 : decode cX7_pass 9 = .ok (.getfield 78, 3) := by decide +kernel
theorem dX7_pass_12 : decode cX7_pass 12 = .ok (.invokevirtual 82, 3) := by decide +kernel
theorem dX7_pass_15 : decode cX7_pass 15 = .ok (.lstore 4, 2) := by decide +kernel
theorem dX7_pass_17 : decode cX7_pass 17 = .ok (.iconst 0, 1) := by decide +kernel
theorem dX7_pass_18 : decode cX7_pass 18 = .ok (.istore 6, 2) := by decide +kernel
theorem dX7_pass_20 : decode cX7_pass 20 = .ok (.iload 6, 2) := by decide +kernel
theorem dX7_pass_22 : decode cX7_pass 22 = .ok (.aload_n 0, 1) := by decide +kernel
theorem dX7_pass_23 : decode cX7_pass 23 = .ok (.getfield 9, 3) := by decide +kernel
theorem dX7_pass_26 : decode cX7_pass 26 = .ok (.aload_n 0, 1) := by decide +kernel
theorem dX7_pass_27 : decode cX7_pass 27 = .ok (.getfield 13, 3) := by decide +kernel
theorem dX7_pass_30 : decode cX7_pass 30 = .ok (.imul, 1) := by decide +kernel
theorem dX7_pass_31 : decode cX7_pass 31 = .ok (.if_icmp .ge 38, 3) := by decide +kernel
theorem dX7_pass_34 : decode cX7_pass 34 = .ok (.aload_n 1, 1) := by decide +kernel
theorem dX7_pass_35 : decode cX7_pass 35 = .ok (.getfield 86, 3) := by decide +kernel
theorem dX7_pass_38 : decode cX7_pass 38 = .ok (.iload 6, 2) := by decide +kernel
theorem dX7_pass_40 : decode cX7_pass 40 = .ok (.aload_n 1, 1) := by decide +kernel
theorem dX7_pass_41 : decode cX7_pass 41 = .ok (.iload 6, 2) := by decide +kernel
theorem dX7_pass_43 : decode cX7_pass 43 = .ok (.invokevirtual 90, 3) := by decide +kernel
theorem dX7_pass_46 : decode cX7_pass 46 = .ok (.ifCond .eq 15, 3) := by decide +kernel
theorem dX7_pass_49 : decode cX7_pass 49 = .ok (.aload_n 1, 1) := by decide +kernel
theorem dX7_pass_50 : decode cX7_pass 50 = .ok (.getfield 86, 3) := by decide +kernel
theorem dX7_pass_53 : decode cX7_pass 53 = .ok (.iload 6, 2) := by decide +kernel
theorem dX7_pass_55 : decode cX7_pass 55 = .ok (.iaload, 1) := by decide +kernel
theorem dX7_pass_56 : decode cX7_pass 56 = .ok (.iconst 1, 1) := by decide +kernel
theorem dX7_pass_57 : decode cX7_pass 57 = .ok (.iadd, 1) := by decide +kernel
theorem dX7_pass_58 : decode cX7_pass 58 = .ok (.goto 4, 3) := by decide +kernel
theorem dX7_pass_61 : decode cX7_pass 61 = .ok (.iconst 0, 1) := by decide +kernel
theorem dX7_pass_62 : decode cX7_pass 62 = .ok (.iastore, 1) := by decide +kernel
theorem dX7_pass_63 : decode cX7_pass 63 = .ok (.iinc 6 1, 3) := by decide +kernel
theorem dX7_pass_66 : decode cX7_pass 66 = .ok (.goto (-46), 3) := by decide +kernel
theorem dX7_pass_69 : decode cX7_pass 69 = .ok (.aload_n 1, 1) := by decide +kernel
theorem dX7_pass_70 : decode cX7_pass 70 = .ok (.dup, 1) := by decide +kernel
theorem dX7_pass_71 : decode cX7_pass 71 = .ok (.getfield 94, 3) := by decide +kernel
theorem dX7_pass_74 : decode cX7_pass 74 = .ok (.lload 4, 2) := by decide +kernel
theorem dX7_pass_76 : decode cX7_pass 76 = .ok (.aload_n 1, 1) := by decide +kernel
theorem dX7_pass_77 : decode cX7_pass 77 = .ok (.getfield 78, 3) := by decide +kernel
theorem dX7_pass_80 : decode cX7_pass 80 = .ok (.ldc2_w 97, 3) := by decide +kernel
theorem dX7_pass_83 : decode cX7_pass 83 = .ok (.lxor, 1) := by decide +kernel
theorem dX7_pass_84 : decode cX7_pass 84 = .ok (.land, 1) := by decide +kernel
theorem dX7_pass_85 : decode cX7_pass 85 = .ok (.invokestatic 68, 3) := by decide +kernel
theorem dX7_pass_88 : decode cX7_pass 88 = .ok (.iadd, 1) := by decide +kernel
theorem dX7_pass_89 : decode cX7_pass 89 = .ok (.putfield 94, 3) := by decide +kernel
theorem dX7_pass_92 : decode cX7_pass 92 = .ok (.aload_n 1, 1) := by decide +kernel
theorem dX7_pass_93 : decode cX7_pass 93 = .ok (.dup, 1) := by decide +kernel
theorem dX7_pass_94 : decode cX7_pass 94 = .ok (.getfield 99, 3) := by decide +kernel
theorem dX7_pass_97 : decode cX7_pass 97 = .ok (.aload_n 1, 1) := by decide +kernel
theorem dX7_pass_98 : decode cX7_pass 98 = .ok (.getfield 78, 3) := by decide +kernel
theorem dX7_pass_101 : decode cX7_pass 101 = .ok (.lload 4, 2) := by decide +kernel
theorem dX7_pass_103 : decode cX7_pass 103 = .ok (.ldc2_w 97, 3) := by decide +kernel
theorem dX7_pass_106 : decode cX7_pass 106 = .ok (.lxor, 1) := by decide +kernel
theorem dX7_pass_107 : decode cX7_pass 107 = .ok (.land, 1) := by decide +kernel
theorem dX7_pass_108 : decode cX7_pass 108 = .ok (.invokestatic 68, 3) := by decide +kernel
theorem dX7_pass_111 : decode cX7_pass 111 = .ok (.iadd, 1) := by decide +kernel
theorem dX7_pass_112 : decode cX7_pass 112 = .ok (.putfield 99, 3) := by decide +kernel
theorem dX7_pass_115 : decode cX7_pass 115 = .ok (.aload_n 1, 1) := by decide +kernel
theorem dX7_pass_116 : decode cX7_pass 116 = .ok (.lload 4, 2) := by decide +kernel
theorem dX7_pass_118 : decode cX7_pass 118 = .ok (.putfield 78, 3) := by decide +kernel
theorem dX7_pass_121 : decode cX7_pass 121 = .ok (.aload_n 1, 1) := by decide +kernel
theorem dX7_pass_122 : decode cX7_pass 122 = .ok (.dup, 1) := by decide +kernel
theorem dX7_pass_123 : decode cX7_pass 123 = .ok (.getfield 102, 3) := by decide +kernel
theorem dX7_pass_126 : decode cX7_pass 126 = .ok (.iconst 1, 1) := by decide +kernel
theorem dX7_pass_127 : decode cX7_pass 127 = .ok (.iadd, 1) := by decide +kernel
theorem dX7_pass_128 : decode cX7_pass 128 = .ok (.putfield 102, 3) := by decide +kernel
theorem dX7_pass_131 : decode cX7_pass 131 = .ok (.iinc 3 1, 3) := by decide +kernel
theorem dX7_pass_134 : decode cX7_pass 134 = .ok (.goto (-132), 3) := by decide +kernel
theorem dX7_pass_137 : decode cX7_pass 137 = .ok (.aload_n 1, 1) := by decide +kernel
theorem dX7_pass_138 : decode cX7_pass 138 = .ok (.areturn, 1) := by decide +kernel
theorem dX7_open_0 : decode cX7_open 0 = .ok (.aload_n 0, 1) := by decide +kernel
theorem dX7_open_1 : decode cX7_open 1 = .ok (.getfield 9, 3) := by decide +kernel
theorem dX7_open_4 : decode cX7_open 4 = .ok (.aload_n 0, 1) := by decide +kernel
theorem dX7_open_5 : decode cX7_open 5 = .ok (.getfield 13, 3) := by decide +kernel
theorem dX7_open_8 : decode cX7_open 8 = .ok (.imul, 1) := by decide +kernel
theorem dX7_open_9 : decode cX7_open 9 = .ok (.bipush 64, 2) := by decide +kernel
theorem dX7_open_11 : decode cX7_open 11 = .ok (.if_icmp .ne 9, 3) := by decide +kernel
theorem dX7_open_14 : decode cX7_open 14 = .ok (.ldc2_w 97, 3) := by decide +kernel
theorem dX7_open_17 : decode cX7_open 17 = .ok (.goto 16, 3) := by decide +kernel
theorem dX7_open_20 : decode cX7_open 20 = .ok (.lconst 1, 1) := by decide +kernel
theorem dX7_open_21 : decode cX7_open 21 = .ok (.aload_n 0, 1) := by decide +kernel
theorem dX7_open_22 : decode cX7_open 22 = .ok (.getfield 9, 3) := by decide +kernel
theorem dX7_open_25 : decode cX7_open 25 = .ok (.aload_n 0, 1) := by decide +kernel
theorem dX7_open_26 : decode cX7_open 26 = .ok (.getfield 13, 3) := by decide +kernel
theorem dX7_open_29 : decode cX7_open 29 = .ok (.imul, 1) := by decide +kernel
theorem dX7_open_30 : decode cX7_open 30 = .ok (.lshl, 1) := by decide +kernel
theorem dX7_open_31 : decode cX7_open 31 = .ok (.lconst 1, 1) := by decide +kernel
theorem dX7_open_32 : decode cX7_open 32 = .ok (.lsub, 1) := by decide +kernel
theorem dX7_open_33 : decode cX7_open 33 = .ok (.lstore_n 2, 1) := by decide +kernel
theorem dX7_open_34 : decode cX7_open 34 = .ok (.lload_n 2, 1) := by decide +kernel
theorem dX7_open_35 : decode cX7_open 35 = .ok (.aload_n 1, 1) := by decide +kernel
theorem dX7_open_36 : decode cX7_open 36 = .ok (.getfield 78, 3) := by decide +kernel
theorem dX7_open_39 : decode cX7_open 39 = .ok (.ldc2_w 97, 3) := by decide +kernel
theorem dX7_open_42 : decode cX7_open 42 = .ok (.lxor, 1) := by decide +kernel
theorem dX7_open_43 : decode cX7_open 43 = .ok (.land, 1) := by decide +kernel
theorem dX7_open_44 : decode cX7_open 44 = .ok (.lreturn, 1) := by decide +kernel
theorem dX7_lawn_0 : decode cX7_lawn 0 = .ok (.lconst 1, 1) := by decide +kernel
theorem dX7_lawn_1 : decode cX7_lawn 1 = .ok (.iload_n 3, 1) := by decide +kernel
theorem dX7_lawn_2 : decode cX7_lawn 2 = .ok (.lshl, 1) := by decide +kernel
theorem dX7_lawn_3 : decode cX7_lawn 3 = .ok (.lload_n 1, 1) := by decide +kernel
theorem dX7_lawn_4 : decode cX7_lawn 4 = .ok (.land, 1) := by decide +kernel
theorem dX7_lawn_5 : decode cX7_lawn 5 = .ok (.lstore 4, 2) := by decide +kernel
theorem dX7_lawn_7 : decode cX7_lawn 7 = .ok (.lconst 0, 1) := by decide +kernel
theorem dX7_lawn_8 : decode cX7_lawn 8 = .ok (.lstore 6, 2) := by decide +kernel
theorem dX7_lawn_10 : decode cX7_lawn 10 = .ok (.lload 4, 2) := by decide +kernel
theorem dX7_lawn_12 : decode cX7_lawn 12 = .ok (.lload 6, 2) := by decide +kernel
theorem dX7_lawn_14 : decode cX7_lawn 14 = .ok (.lcmp, 1) := by decide +kernel
theorem dX7_lawn_15 : decode cX7_lawn 15 = .ok (.ifCond .eq 59, 3) := by decide +kernel
theorem dX7_lawn_18 : decode cX7_lawn 18 = .ok (.lload 4, 2) := by decide +kernel
theorem dX7_lawn_20 : decode cX7_lawn 20 = .ok (.lstore 6, 2) := by decide +kernel
theorem dX7_lawn_22 : decode cX7_lawn 22 = .ok (.iconst 0, 1) := by decide +kernel
theorem dX7_lawn_23 : decode cX7_lawn 23 = .ok (.istore 8, 2) := by decide +kernel
theorem dX7_lawn_25 : decode cX7_lawn 25 = .ok (.iload 8, 2) := by decide +kernel
theorem dX7_lawn_27 : decode cX7_lawn 27 = .ok (.aload_n 0, 1) := by decide +kernel
theorem dX7_lawn_28 : decode cX7_lawn 28 = .ok (.getfield 9, 3) := by decide +kernel
theorem dX7_lawn_31 : decode cX7_lawn 31 = .ok (.aload_n 0, 1) := by decide +kernel
theorem dX7_lawn_32 : decode cX7_lawn 32 = .ok (.getfield 13, 3) := by decide +kernel
theorem dX7_lawn_35 : decode cX7_lawn 35 = .ok (.imul, 1) := by decide +kernel
theorem dX7_lawn_36 : decode cX7_lawn 36 = .ok (.if_icmp .ge 35, 3) := by decide +kernel
theorem dX7_lawn_39 : decode cX7_lawn 39 = .ok (.lload 6, 2) := by decide +kernel
theorem dX7_lawn_41 : decode cX7_lawn 41 = .ok (.iload 8, 2) := by decide +kernel
theorem dX7_lawn_43 : decode cX7_lawn 43 = .ok (.lshr, 1) := by decide +kernel
theorem dX7_lawn_44 : decode cX7_lawn 44 = .ok (.lconst 1, 1) := by decide +kernel
theorem dX7_lawn_45 : decode cX7_lawn 45 = .ok (.land, 1) := by decide +kernel
theorem dX7_lawn_46 : decode cX7_lawn 46 = .ok (.lconst 1, 1) := by decide +kernel
theorem dX7_lawn_47 : decode cX7_lawn 47 = .ok (.lcmp, 1) := by decide +kernel
theorem dX7_lawn_48 : decode cX7_lawn 48 = .ok (.ifCond .ne 17, 3) := by decide +kernel
theorem dX7_lawn_51 : decode cX7_lawn 51 = .ok (.lload 4, 2) := by decide +kernel
theorem dX7_lawn_53 : decode cX7_lawn 53 = .ok (.aload_n 0, 1) := by decide +kernel
theorem dX7_lawn_54 : decode cX7_lawn 54 = .ok (.getfield 26, 3) := by decide +kernel
theorem dX7_lawn_57 : decode cX7_lawn 57 = .ok (.iload 8, 2) := by decide +kernel
theorem dX7_lawn_59 : decode cX7_lawn 59 = .ok (.laload, 1) := by decide +kernel
theorem dX7_lawn_60 : decode cX7_lawn 60 = .ok (.lload_n 1, 1) := by decide +kernel
theorem dX7_lawn_61 : decode cX7_lawn 61 = .ok (.land, 1) := by decide +kernel
theorem dX7_lawn_62 : decode cX7_lawn 62 = .ok (.lor, 1) := by decide +kernel
theorem dX7_lawn_63 : decode cX7_lawn 63 = .ok (.lstore 4, 2) := by decide +kernel
theorem dX7_lawn_65 : decode cX7_lawn 65 = .ok (.iinc 8 1, 3) := by decide +kernel
theorem dX7_lawn_68 : decode cX7_lawn 68 = .ok (.goto (-43), 3) := by decide +kernel
theorem dX7_lawn_71 : decode cX7_lawn 71 = .ok (.goto (-61), 3) := by decide +kernel
theorem dX7_lawn_74 : decode cX7_lawn 74 = .ok (.lload 4, 2) := by decide +kernel
theorem dX7_lawn_76 : decode cX7_lawn 76 = .ok (.lreturn, 1) := by decide +kernel
set_option maxRecDepth 20000 in
theorem ggX7_lawns_X7_open : GoodIn wsX7_lawns wsX7_open := goodIn_r _ [10, 11, 12, 1, 49, 50, 51, 52, 53, 54, 55, 56, 57, 58, 59, 44, 45, 46, 47, 48] (by decide +kernel) (by decide +kernel)
set_option maxRecDepth 20000 in
theorem gX7_lawns_X7_open : GoodIn wsX7_lawns (wsV RX7 105 RX7 yX7_open wsX7_open) := goodIn_app (goodIn_of _ (by decide +kernel)) ggX7_lawns_X7_open
set_option maxRecDepth 20000 in
theorem ggX7_lawns_X7_next : GoodIn wsX7_lawns wsX7_next := goodIn_r _ [16, 11, 12, 17, 18, 19, 9, 20, 21, 22, 23, 24, 25, 26, 27, 28, 29, 30, 49, 50, 51, 52, 53, 54, 55, 56, 57, 58, 59] (by decide +kernel) (by decide +kernel)
set_option maxRecDepth 20000 in
theorem gX7_lawns_X7_next : GoodIn wsX7_lawns (wsV RX7 82 RX7 yX7_next wsX7_next) := goodIn_app (goodIn_of _ (by decide +kernel)) ggX7_lawns_X7_next
set_option maxRecDepth 20000 in
theorem ggX7_lawns_J13_numberOfTrailingZeros_95d88 : GoodIn wsX7_lawns wsJ13_numberOfTrailingZeros_95d88 := goodIn_r _ [33, 34, 35, 36, 37, 38] (by decide +kernel) (by decide +kernel)
set_option maxRecDepth 20000 in
theorem gX7_lawns_J13_numberOfTrailingZeros_95d88 : GoodIn wsX7_lawns (va_wsS RX7 109 yJ13_numberOfTrailingZeros_95d88 wsJ13_numberOfTrailingZeros_95d88) := goodIn_app (goodIn_of _ (by decide +kernel)) ggX7_lawns_J13_numberOfTrailingZeros_95d88
set_option maxRecDepth 20000 in
theorem ggX7_lawns_X7_lawn : GoodIn wsX7_lawns wsX7_lawn := goodIn_r _ [42, 11, 12, 43, 49, 50, 51, 52, 53, 54, 55, 56, 57, 58, 59] (by decide +kernel) (by decide +kernel)
set_option maxRecDepth 20000 in
theorem gX7_lawns_X7_lawn : GoodIn wsX7_lawns (wsV RX7 112 RX7 yX7_lawn wsX7_lawn) := goodIn_app (goodIn_of _ (by decide +kernel)) ggX7_lawns_X7_lawn
set_option maxRecDepth 20000 in
theorem ggX7_lawns_J13_bitCount_95d88 : GoodIn wsX7_lawns wsJ13_bitCount_95d88 := goodIn_r _ [27, 28, 29, 30] (by decide +kernel) (by decide +kernel)
set_option maxRecDepth 20000 in
theorem gX7_lawns_J13_bitCount_95d88 : GoodIn wsX7_lawns (va_wsS RX7 68 yJ13_bitCount_95d88 wsJ13_bitCount_95d88) := goodIn_app (goodIn_of _ (by decide +kernel)) ggX7_lawns_J13_bitCount_95d88
theorem dX7_lawns_0 : decode cX7_lawns 0 = .ok (.aload_n 0, 1) := by decide +kernel
theorem dX7_lawns_1 : decode cX7_lawns 1 = .ok (.aload_n 1, 1) := by decide +kernel
theorem dX7_lawns_2 : decode cX7_lawns 2 = .ok (.invokevirtual 105, 3) := by decide +kernel
theorem dX7_lawns_5 : decode cX7_lawns 5 = .ok (.lstore_n 3, 1) := by decide +kernel
theorem dX7_lawns_6 : decode cX7_lawns 6 = .ok (.aload_n 0, 1) := by decide +kernel
theorem dX7_lawns_7 : decode cX7_lawns 7 = .ok (.aload_n 1, 1) := by decide +kernel
theorem dX7_lawns_8 : decode cX7_lawns 8 = .ok (.getfield 78, 3) := by decide +kernel
theorem dX7_lawns_11 : decode cX7_lawns 11 = .ok (.invokevirtual 82, 3) := by decide +kernel
theorem dX7_lawns_14 : decode cX7_lawns 14 = .ok (.lstore 5, 2) := by decide +kernel
theorem dX7_lawns_16 : decode cX7_lawns 16 = .ok (.iconst 0, 1) := by decide +kernel
theorem dX7_lawns_17 : decode cX7_lawns 17 = .ok (.istore 7, 2) := by decide +kernel
theorem dX7_lawns_19 : decode cX7_lawns 19 = .ok (.iconst 0, 1) := by decide +kernel
theorem dX7_lawns_20 : decode cX7_lawns 20 = .ok (.istore 8, 2) := by decide +kernel
theorem dX7_lawns_22 : decode cX7_lawns 22 = .ok (.iconst 0, 1) := by decide +kernel
theorem dX7_lawns_23 : decode cX7_lawns 23 = .ok (.istore 9, 2) := by decide +kernel
theorem dX7_lawns_25 : decode cX7_lawns 25 = .ok (.lload_n 3, 1) := by decide +kernel
theorem dX7_lawns_26 : decode cX7_lawns 26 = .ok (.lconst 0, 1) := by decide +kernel
theorem dX7_lawns_27 : decode cX7_lawns 27 = .ok (.lcmp, 1) := by decide +kernel
theorem dX7_lawns_28 : decode cX7_lawns 28 = .ok (.ifCond .eq 61, 3) := by decide +kernel
theorem dX7_lawns_31 : decode cX7_lawns 31 = .ok (.aload_n 0, 1) := by decide +kernel
theorem dX7_lawns_32 : decode cX7_lawns 32 = .ok (.lload_n 3, 1) := by decide +kernel
theorem dX7_lawns_33 : decode cX7_lawns 33 = .ok (.lload_n 3, 1) := by decide +kernel
theorem dX7_lawns_34 : decode cX7_lawns 34 = .ok (.invokestatic 109, 3) := by decide +kernel
theorem dX7_lawns_37 : decode cX7_lawns 37 = .ok (.invokevirtual 112, 3) := by decide +kernel
theorem dX7_lawns_40 : decode cX7_lawns 40 = .ok (.lstore 10, 2) := by decide +kernel
theorem dX7_lawns_42 : decode cX7_lawns 42 = .ok (.lload_n 3, 1) := by decide +kernel
theorem dX7_lawns_43 : decode cX7_lawns 43 = .ok (.lload 10, 2) := by decide +kernel
theorem dX7_lawns_45 : decode cX7_lawns 45 = .ok (.ldc2_w 97, 3) := by decide +kernel
theorem dX7_lawns_48 : decode cX7_lawns 48 = .ok (.lxor, 1) := by decide +kernel
theorem dX7_lawns_49 : decode cX7_lawns 49 = .ok (.land, 1) := by decide +kernel
theorem dX7_lawns_50 : decode cX7_lawns 50 = .ok (.lstore_n 3, 1) := by decide +kernel
theorem dX7_lawns_51 : decode cX7_lawns 51 = .ok (.iinc 7 1, 3) := by decide +kernel
theorem dX7_lawns_54 : decode cX7_lawns 54 = .ok (.iload 8, 2) := by decide +kernel
theorem dX7_lawns_56 : decode cX7_lawns 56 = .ok (.lload 10, 2) := by decide +kernel
theorem dX7_lawns_58 : decode cX7_lawns 58 = .ok (.invokestatic 68, 3) := by decide +kernel
theorem dX7_lawns_61 : decode cX7_lawns 61 = .ok (.invokestatic 116, 3) := by decide +kernel
theorem dX7_lawns_64 : decode cX7_lawns 64 = .ok (.istore 8, 2) := by decide +kernel
theorem dX7_lawns_66 : decode cX7_lawns 66 = .ok (.iload 9, 2) := by decide +kernel
theorem dX7_lawns_68 : decode cX7_lawns 68 = .ok (.lload 10, 2) := by decide +kernel
theorem dX7_lawns_70 : decode cX7_lawns 70 = .ok (.lload 5, 2) := by decide +kernel
theorem dX7_lawns_72 : decode cX7_lawns 72 = .ok (.land, 1) := by decide +kernel
theorem dX7_lawns_73 : decode cX7_lawns 73 = .ok (.lconst 0, 1) := by decide +kernel
theorem dX7_lawns_74 : decode cX7_lawns 74 = .ok (.lcmp, 1) := by decide +kernel
theorem dX7_lawns_75 : decode cX7_lawns 75 = .ok (.ifCond .ne 7, 3) := by decide +kernel
theorem dX7_lawns_78 : decode cX7_lawns 78 = .ok (.iconst 1, 1) := by decide +kernel
theorem dX7_lawns_79 : decode cX7_lawns 79 = .ok (.goto 4, 3) := by decide +kernel
theorem dX7_lawns_82 : decode cX7_lawns 82 = .ok (.iconst 0, 1) := by decide +kernel
theorem dX7_lawns_83 : decode cX7_lawns 83 = .ok (.iadd, 1) := by decide +kernel
theorem dX7_lawns_84 : decode cX7_lawns 84 = .ok (.istore 9, 2) := by decide +kernel
theorem dX7_lawns_86 : decode cX7_lawns 86 = .ok (.goto (-61), 3) := by decide +kernel
theorem dX7_lawns_89 : decode cX7_lawns 89 = .ok (.iload_n 2, 1) := by decide +kernel
theorem dX7_lawns_90 : decode cX7_lawns 90 = .ok (.ifCond .ne 8, 3) := by decide +kernel
theorem dX7_lawns_93 : decode cX7_lawns 93 = .ok (.iload 7, 2) := by decide +kernel
theorem dX7_lawns_95 : decode cX7_lawns 95 = .ok (.goto 15, 3) := by decide +kernel
theorem dX7_lawns_98 : decode cX7_lawns 98 = .ok (.iload_n 2, 1) := by decide +kernel
theorem dX7_lawns_99 : decode cX7_lawns 99 = .ok (.iconst 1, 1) := by decide +kernel
theorem dX7_lawns_100 : decode cX7_lawns 100 = .ok (.if_icmp .ne 8, 3) := by decide +kernel
theorem dX7_lawns_103 : decode cX7_lawns 103 = .ok (.iload 8, 2) := by decide +kernel
theorem dX7_lawns_105 : decode cX7_lawns 105 = .ok (.goto 5, 3) := by decide +kernel
theorem dX7_lawns_108 : decode cX7_lawns 108 = .ok (.iload 9, 2) := by decide +kernel
theorem dX7_lawns_110 : decode cX7_lawns 110 = .ok (.ireturn, 1) := by decide +kernel
set_option maxRecDepth 20000 in
theorem ggX7_oldest_X6_has : GoodIn wsX7_oldest wsX6_has := goodIn_r _ [11, 12, 24, 25, 26, 27, 28] (by decide +kernel) (by decide +kernel)
set_option maxRecDepth 20000 in
theorem gX7_oldest_X6_has : GoodIn wsX7_oldest (wsV RX7 90 RX6 yX6_has wsX6_has) := goodIn_app (goodIn_of _ (by decide +kernel)) ggX7_oldest_X6_has
theorem dX7_oldest_0 : decode cX7_oldest 0 = .ok (.iconst (-1), 1) := by decide +kernel
theorem dX7_oldest_1 : decode cX7_oldest 1 = .ok (.istore_n 2, 1) := by decide +kernel
theorem dX7_oldest_2 : decode cX7_oldest 2 = .ok (.iconst 0, 1) := by decide +kernel
theorem dX7_oldest_3 : decode cX7_oldest 3 = .ok (.istore_n 3, 1) := by decide +kernel
theorem dX7_oldest_4 : decode cX7_oldest 4 = .ok (.iload_n 3, 1) := by decide +kernel
theorem dX7_oldest_5 : decode cX7_oldest 5 = .ok (.aload_n 0, 1) := by decide +kernel
theorem dX7_oldest_6 : decode cX7_oldest 6 = .ok (.getfield 9, 3) := by decide +kernel
theorem dX7_oldest_9 : decode cX7_oldest 9 = .ok (.aload_n 0, 1) := by decide +kernel
theorem dX7_oldest_10 : decode cX7_oldest 10 = .ok (.getfield 13, 3) := by decide +kernel
theorem dX7_oldest_13 : decode cX7_oldest 13 = .ok (.imul, 1) := by decide +kernel
theorem dX7_oldest_14 : decode cX7_oldest 14 = .ok (.if_icmp .ge 28, 3) := by decide +kernel
theorem dX7_oldest_17 : decode cX7_oldest 17 = .ok (.aload_n 1, 1) := by decide +kernel
theorem dX7_oldest_18 : decode cX7_oldest 18 = .ok (.iload_n 3, 1) := by decide +kernel
theorem dX7_oldest_19 : decode cX7_oldest 19 = .ok (.invokevirtual 90, 3) := by decide +kernel
theorem dX7_oldest_22 : decode cX7_oldest 22 = .ok (.ifCond .eq 14, 3) := by decide +kernel
theorem dX7_oldest_25 : decode cX7_oldest 25 = .ok (.iload_n 2, 1) := by decide +kernel
theorem dX7_oldest_26 : decode cX7_oldest 26 = .ok (.aload_n 1, 1) := by decide +kernel
theorem dX7_oldest_27 : decode cX7_oldest 27 = .ok (.getfield 86, 3) := by decide +kernel
theorem dX7_oldest_30 : decode cX7_oldest 30 = .ok (.iload_n 3, 1) := by decide +kernel
theorem dX7_oldest_31 : decode cX7_oldest 31 = .ok (.iaload, 1) := by decide +kernel
theorem dX7_oldest_32 : decode cX7_oldest 32 = .ok (.invokestatic 116, 3) := by decide +kernel
theorem dX7_oldest_35 : decode cX7_oldest 35 = .ok (.istore_n 2, 1) := by decide +kernel
theorem dX7_oldest_36 : decode cX7_oldest 36 = .ok (.iinc 3 1, 3) := by decide +kernel
theorem dX7_oldest_39 : decode cX7_oldest 39 = .ok (.goto (-35), 3) := by decide +kernel
theorem dX7_oldest_42 : decode cX7_oldest 42 = .ok (.iload_n 2, 1) := by decide +kernel
theorem dX7_oldest_43 : decode cX7_oldest 43 = .ok (.ireturn, 1) := by decide +kernel
set_option maxRecDepth 20000 in
theorem ggX7_counted_J13_bitCount_95d88 : GoodIn wsX7_counted wsJ13_bitCount_95d88 := goodIn_r _ [7, 8, 9, 10] (by decide +kernel) (by decide +kernel)
set_option maxRecDepth 20000 in
theorem gX7_counted_J13_bitCount_95d88 : GoodIn wsX7_counted (va_wsS RX7 68 yJ13_bitCount_95d88 wsJ13_bitCount_95d88) := goodIn_app (goodIn_of _ (by decide +kernel)) ggX7_counted_J13_bitCount_95d88
set_option maxRecDepth 20000 in
theorem ggX7_counted_X7_oldest : GoodIn wsX7_counted wsX7_oldest := goodIn_r _ [15, 1, 2, 16, 17, 18, 19, 20, 21, 22, 23, 24, 25, 64, 65, 66, 67, 68, 69, 70, 71, 72, 73, 74, 59, 60, 61, 62, 63] (by decide +kernel) (by decide +kernel)
set_option maxRecDepth 20000 in
theorem gX7_counted_X7_oldest : GoodIn wsX7_counted (wsV RX7 121 RX7 yX7_oldest wsX7_oldest) := goodIn_app (goodIn_of _ (by decide +kernel)) ggX7_counted_X7_oldest
set_option maxRecDepth 20000 in
theorem ggX7_counted_X7_lawns : GoodIn wsX7_counted wsX7_lawns := goodIn_r _ [29, 30, 16, 17, 18, 19, 31, 32, 33, 14, 34, 1, 2, 35, 36, 37, 38, 39, 40, 41, 42, 43, 44, 45, 4, 5, 6, 7, 8, 9, 10, 46, 47, 48, 49, 50, 51, 52, 53, 54, 55, 56, 57, 58, 59, 60, 61, 62, 63, 64, 65, 66, 67, 68, 69, 70, 71, 72, 73, 74] (by decide +kernel) (by decide +kernel)
set_option maxRecDepth 20000 in
theorem gX7_counted_X7_lawns : GoodIn wsX7_counted (wsV RX7 125 RX7 yX7_lawns wsX7_lawns) := goodIn_app (goodIn_of _ (by decide +kernel)) ggX7_counted_X7_lawns
theorem dX7_counted_0 : decode cX7_counted 0 = .ok (.iload_n 2, 1) := by decide +kernel
theorem dX7_counted_1 : decode cX7_counted 1 = .ok (.tableswitch 111 0 10 #[59, 64, 69, 74, 82, 87, 92, 111, 111, 111, 105], 59) := by decide +kernel
theorem dX7_counted_60 : decode cX7_counted 60 = .ok (.aload_n 1, 1) := by decide +kernel
theorem dX7_counted_61 : decode cX7_counted 61 = .ok (.getfield 102, 3) := by decide +kernel
theorem dX7_counted_64 : decode cX7_counted 64 = .ok (.ireturn, 1) := by decide +kernel
theorem dX7_counted_65 : decode cX7_counted 65 = .ok (.aload_n 0, 1) := by decide +kernel
theorem dX7_counted_66 : decode cX7_counted 66 = .ok (.getfield 9, 3) := by decide +kernel
theorem dX7_counted_69 : decode cX7_counted 69 = .ok (.ireturn, 1) := by decide +kernel
theorem dX7_counted_70 : decode cX7_counted 70 = .ok (.aload_n 0, 1) := by decide +kernel
theorem dX7_counted_71 : decode cX7_counted 71 = .ok (.getfield 13, 3) := by decide +kernel
theorem dX7_counted_74 : decode cX7_counted 74 = .ok (.ireturn, 1) := by decide +kernel
theorem dX7_counted_75 : decode cX7_counted 75 = .ok (.aload_n 1, 1) := by decide +kernel
theorem dX7_counted_76 : decode cX7_counted 76 = .ok (.getfield 78, 3) := by decide +kernel
theorem dX7_counted_79 : decode cX7_counted 79 = .ok (.invokestatic 68, 3) := by decide +kernel
theorem dX7_counted_82 : decode cX7_counted 82 = .ok (.ireturn, 1) := by decide +kernel
theorem dX7_counted_83 : decode cX7_counted 83 = .ok (.aload_n 1, 1) := by decide +kernel
theorem dX7_counted_84 : decode cX7_counted 84 = .ok (.getfield 94, 3) := by decide +kernel
theorem dX7_counted_87 : decode cX7_counted 87 = .ok (.ireturn, 1) := by decide +kernel
theorem dX7_counted_88 : decode cX7_counted 88 = .ok (.aload_n 1, 1) := by decide +kernel
theorem dX7_counted_89 : decode cX7_counted 89 = .ok (.getfield 99, 3) := by decide +kernel
theorem dX7_counted_92 : decode cX7_counted 92 = .ok (.ireturn, 1) := by decide +kernel
theorem dX7_counted_93 : decode cX7_counted 93 = .ok (.aload_n 0, 1) := by decide +kernel
theorem dX7_counted_94 : decode cX7_counted 94 = .ok (.getfield 56, 3) := by decide +kernel
theorem dX7_counted_97 : decode cX7_counted 97 = .ok (.ifCond .eq 7, 3) := by decide +kernel
theorem dX7_counted_100 : decode cX7_counted 100 = .ok (.iconst 1, 1) := by decide +kernel
theorem dX7_counted_101 : decode cX7_counted 101 = .ok (.goto 4, 3) := by decide +kernel
theorem dX7_counted_104 : decode cX7_counted 104 = .ok (.iconst 0, 1) := by decide +kernel
theorem dX7_counted_105 : decode cX7_counted 105 = .ok (.ireturn, 1) := by decide +kernel
theorem dX7_counted_106 : decode cX7_counted 106 = .ok (.aload_n 0, 1) := by decide +kernel
theorem dX7_counted_107 : decode cX7_counted 107 = .ok (.aload_n 1, 1) := by decide +kernel
theorem dX7_counted_108 : decode cX7_counted 108 = .ok (.invokevirtual 121, 3) := by decide +kernel
theorem dX7_counted_111 : decode cX7_counted 111 = .ok (.ireturn, 1) := by decide +kernel
theorem dX7_counted_112 : decode cX7_counted 112 = .ok (.aload_n 0, 1) := by decide +kernel
theorem dX7_counted_113 : decode cX7_counted 113 = .ok (.aload_n 1, 1) := by decide +kernel
theorem dX7_counted_114 : decode cX7_counted 114 = .ok (.iload_n 2, 1) := by decide +kernel
theorem dX7_counted_115 : decode cX7_counted 115 = .ok (.bipush 7, 2) := by decide +kernel
theorem dX7_counted_117 : decode cX7_counted 117 = .ok (.isub, 1) := by decide +kernel
theorem dX7_counted_118 : decode cX7_counted 118 = .ok (.invokevirtual 125, 3) := by decide +kernel
theorem dX7_counted_121 : decode cX7_counted 121 = .ok (.ireturn, 1) := by decide +kernel
set_option maxRecDepth 20000 in
theorem ggX7_lay_X7_isIn : GoodIn wsX7_lay wsX7_isIn := goodIn_r _ [8] (by decide +kernel) (by decide +kernel)
set_option maxRecDepth 20000 in
theorem gX7_lay_X7_isIn : GoodIn wsX7_lay (va_wsS RX7 48 yX7_isIn wsX7_isIn) := goodIn_app (goodIn_of _ (by decide +kernel)) ggX7_lay_X7_isIn
set_option maxRecDepth 20000 in
theorem ggX7_lay_X7_no : GoodIn wsX7_lay wsX7_no := goodIn_r _ [12, 1, 38, 39, 40, 41, 42, 43, 44, 45, 46, 47, 48] (by decide +kernel) (by decide +kernel)
set_option maxRecDepth 20000 in
theorem gX7_lay_X7_no : GoodIn wsX7_lay (wsV RX7 129 RX7 yX7_no wsX7_no) := goodIn_app (goodIn_of _ (by decide +kernel)) ggX7_lay_X7_no
set_option maxRecDepth 20000 in
theorem ggX7_lay_J13_bitCount_95d88 : GoodIn wsX7_lay wsJ13_bitCount_95d88 := goodIn_r _ [16, 17, 18, 19] (by decide +kernel) (by decide +kernel)
set_option maxRecDepth 20000 in
theorem gX7_lay_J13_bitCount_95d88 : GoodIn wsX7_lay (va_wsS RX7 68 yJ13_bitCount_95d88 wsJ13_bitCount_95d88) := goodIn_app (goodIn_of _ (by decide +kernel)) ggX7_lay_J13_bitCount_95d88
set_option maxRecDepth 20000 in
theorem ggX7_lay_X7_link : GoodIn wsX7_lay wsX7_link := goodIn_r _ [23, 3, 4, 24, 25, 26, 27, 28, 7, 29, 30, 31, 32, 33, 34, 5, 6, 8, 35, 36, 37, 38, 39, 40, 41, 42, 43, 44, 45, 46, 47, 48] (by decide +kernel) (by decide +kernel)
set_option maxRecDepth 20000 in
theorem gX7_lay_X7_link : GoodIn wsX7_lay (wsV RX7 42 RX7 yX7_link wsX7_link) := goodIn_app (goodIn_of _ (by decide +kernel)) ggX7_lay_X7_link
theorem dX7_lay_0 : decode cX7_lay 0 = .ok (.aload_n 0, 1) := by decide +kernel
theorem dX7_lay_1 : decode cX7_lay 1 = .ok (.iconst 0, 1) := by decide +kernel
theorem dX7_lay_2 : decode cX7_lay 2 = .ok (.putfield 45, 3) := by decide +kernel
theorem dX7_lay_5 : decode cX7_lay 5 = .ok (.iload_n 1, 1) := by decide +kernel
theorem dX7_lay_6 : decode cX7_lay 6 = .ok (.iconst 3, 1) := by decide +kernel
theorem dX7_lay_7 : decode cX7_lay 7 = .ok (.bipush 8, 2) := by decide +kernel
theorem dX7_lay_9 : decode cX7_lay 9 = .ok (.invokestatic 48, 3) := by decide +kernel
theorem dX7_lay_12 : decode cX7_lay 12 = .ok (.ifCond .eq 13, 3) := by decide +kernel
theorem dX7_lay_15 : decode cX7_lay 15 = .ok (.iload_n 2, 1) := by decide +kernel
theorem dX7_lay_16 : decode cX7_lay 16 = .ok (.iconst 3, 1) := by decide +kernel
theorem dX7_lay_17 : decode cX7_lay 17 = .ok (.bipush 8, 2) := by decide +kernel
theorem dX7_lay_19 : decode cX7_lay 19 = .ok (.invokestatic 48, 3) := by decide +kernel
theorem dX7_lay_22 : decode cX7_lay 22 = .ok (.ifCond .ne 9, 3) := by decide +kernel
theorem dX7_lay_25 : decode cX7_lay 25 = .ok (.aload_n 0, 1) := by decide +kernel
theorem dX7_lay_26 : decode cX7_lay 26 = .ok (.iconst 1, 1) := by decide +kernel
theorem dX7_lay_27 : decode cX7_lay 27 = .ok (.invokevirtual 129, 3) := by decide +kernel
theorem dX7_lay_30 : decode cX7_lay 30 = .ok (.ireturn, 1) := by decide +kernel
theorem dX7_lay_31 : decode cX7_lay 31 = .ok (.aload_n 0, 1) := by decide +kernel
theorem dX7_lay_32 : decode cX7_lay 32 = .ok (.getfield 32, 3) := by decide +kernel
theorem dX7_lay_35 : decode cX7_lay 35 = .ok (.getfield 78, 3) := by decide +kernel
theorem dX7_lay_38 : decode cX7_lay 38 = .ok (.invokestatic 68, 3) := by decide +kernel
theorem dX7_lay_41 : decode cX7_lay 41 = .ok (.istore_n 3, 1) := by decide +kernel
theorem dX7_lay_42 : decode cX7_lay 42 = .ok (.aload_n 0, 1) := by decide +kernel
theorem dX7_lay_43 : decode cX7_lay 43 = .ok (.iload_n 1, 1) := by decide +kernel
theorem dX7_lay_44 : decode cX7_lay 44 = .ok (.putfield 9, 3) := by decide +kernel
theorem dX7_lay_47 : decode cX7_lay 47 = .ok (.aload_n 0, 1) := by decide +kernel
theorem dX7_lay_48 : decode cX7_lay 48 = .ok (.iload_n 2, 1) := by decide +kernel
theorem dX7_lay_49 : decode cX7_lay 49 = .ok (.putfield 13, 3) := by decide +kernel
theorem dX7_lay_52 : decode cX7_lay 52 = .ok (.aload_n 0, 1) := by decide +kernel
theorem dX7_lay_53 : decode cX7_lay 53 = .ok (.getfield 32, 3) := by decide +kernel
theorem dX7_lay_56 : decode cX7_lay 56 = .ok (.lconst 0, 1) := by decide +kernel
theorem dX7_lay_57 : decode cX7_lay 57 = .ok (.putfield 78, 3) := by decide +kernel
theorem dX7_lay_60 : decode cX7_lay 60 = .ok (.aload_n 0, 1) := by decide +kernel
theorem dX7_lay_61 : decode cX7_lay 61 = .ok (.invokevirtual 42, 3) := by decide +kernel
theorem dX7_lay_64 : decode cX7_lay 64 = .ok (.iload_n 3, 1) := by decide +kernel
theorem dX7_lay_65 : decode cX7_lay 65 = .ok (.ireturn, 1) := by decide +kernel
set_option maxRecDepth 20000 in
theorem ggX7_setRules_X7_isIn : GoodIn wsX7_setRules wsX7_isIn := goodIn_r _ [7] (by decide +kernel) (by decide +kernel)
set_option maxRecDepth 20000 in
theorem gX7_setRules_X7_isIn : GoodIn wsX7_setRules (va_wsS RX7 48 yX7_isIn wsX7_isIn) := goodIn_app (goodIn_of _ (by decide +kernel)) ggX7_setRules_X7_isIn
set_option maxRecDepth 20000 in
theorem ggX7_setRules_X7_no : GoodIn wsX7_setRules wsX7_no := goodIn_r _ [11, 1, 12, 13, 14, 15, 16, 17, 18, 19, 20, 21, 22] (by decide +kernel) (by decide +kernel)
set_option maxRecDepth 20000 in
theorem gX7_setRules_X7_no : GoodIn wsX7_setRules (wsV RX7 129 RX7 yX7_no wsX7_no) := goodIn_app (goodIn_of _ (by decide +kernel)) ggX7_setRules_X7_no
theorem dX7_setRules_0 : decode cX7_setRules 0 = .ok (.aload_n 0, 1) := by decide +kernel
theorem dX7_setRules_1 : decode cX7_setRules 1 = .ok (.iconst 0, 1) := by decide +kernel
theorem dX7_setRules_2 : decode cX7_setRules 2 = .ok (.putfield 45, 3) := by decide +kernel
theorem dX7_setRules_5 : decode cX7_setRules 5 = .ok (.iload_n 1, 1) := by decide +kernel
theorem dX7_setRules_6 : decode cX7_setRules 6 = .ok (.iconst 0, 1) := by decide +kernel
theorem dX7_setRules_7 : decode cX7_setRules 7 = .ok (.sipush 511, 3) := by decide +kernel
theorem dX7_setRules_10 : decode cX7_setRules 10 = .ok (.invokestatic 48, 3) := by decide +kernel
theorem dX7_setRules_13 : decode cX7_setRules 13 = .ok (.ifCond .eq 14, 3) := by decide +kernel
theorem dX7_setRules_16 : decode cX7_setRules 16 = .ok (.iload_n 2, 1) := by decide +kernel
theorem dX7_setRules_17 : decode cX7_setRules 17 = .ok (.iconst 0, 1) := by decide +kernel
theorem dX7_setRules_18 : decode cX7_setRules 18 = .ok (.sipush 511, 3) := by decide +kernel
theorem dX7_setRules_21 : decode cX7_setRules 21 = .ok (.invokestatic 48, 3) := by decide +kernel
theorem dX7_setRules_24 : decode cX7_setRules 24 = .ok (.ifCond .ne 9, 3) := by decide +kernel
theorem dX7_setRules_27 : decode cX7_setRules 27 = .ok (.aload_n 0, 1) := by decide +kernel
theorem dX7_setRules_28 : decode cX7_setRules 28 = .ok (.iconst 1, 1) := by decide +kernel
theorem dX7_setRules_29 : decode cX7_setRules 29 = .ok (.invokevirtual 129, 3) := by decide +kernel
theorem dX7_setRules_32 : decode cX7_setRules 32 = .ok (.ireturn, 1) := by decide +kernel
theorem dX7_setRules_33 : decode cX7_setRules 33 = .ok (.sipush 512, 3) := by decide +kernel
theorem dX7_setRules_36 : decode cX7_setRules 36 = .ok (.aload_n 0, 1) := by decide +kernel
theorem dX7_setRules_37 : decode cX7_setRules 37 = .ok (.getfield 16, 3) := by decide +kernel
theorem dX7_setRules_40 : decode cX7_setRules 40 = .ok (.imul, 1) := by decide +kernel
theorem dX7_setRules_41 : decode cX7_setRules 41 = .ok (.aload_n 0, 1) := by decide +kernel
theorem dX7_setRules_42 : decode cX7_setRules 42 = .ok (.getfield 19, 3) := by decide +kernel
theorem dX7_setRules_45 : decode cX7_setRules 45 = .ok (.iadd, 1) := by decide +kernel
theorem dX7_setRules_46 : decode cX7_setRules 46 = .ok (.istore_n 3, 1) := by decide +kernel
theorem dX7_setRules_47 : decode cX7_setRules 47 = .ok (.aload_n 0, 1) := by decide +kernel
theorem dX7_setRules_48 : decode cX7_setRules 48 = .ok (.iload_n 1, 1) := by decide +kernel
theorem dX7_setRules_49 : decode cX7_setRules 49 = .ok (.putfield 16, 3) := by decide +kernel
theorem dX7_setRules_52 : decode cX7_setRules 52 = .ok (.aload_n 0, 1) := by decide +kernel
theorem dX7_setRules_53 : decode cX7_setRules 53 = .ok (.iload_n 2, 1) := by decide +kernel
theorem dX7_setRules_54 : decode cX7_setRules 54 = .ok (.putfield 19, 3) := by decide +kernel
theorem dX7_setRules_57 : decode cX7_setRules 57 = .ok (.iload_n 3, 1) := by decide +kernel
theorem dX7_setRules_58 : decode cX7_setRules 58 = .ok (.ireturn, 1) := by decide +kernel
set_option maxRecDepth 20000 in
theorem ggX7_setEdge_X7_link : GoodIn wsX7_setEdge wsX7_link := goodIn_r _ [7, 8, 9, 10, 11, 12, 13, 14, 6, 15, 2, 16, 17, 18, 19, 20, 21, 22, 23, 24, 25, 26, 27, 28, 29, 30, 31, 32, 33, 34, 35, 36] (by decide +kernel) (by decide +kernel)
set_option maxRecDepth 20000 in
theorem gX7_setEdge_X7_link : GoodIn wsX7_setEdge (wsV RX7 42 RX7 yX7_link wsX7_link) := goodIn_app (goodIn_of _ (by decide +kernel)) ggX7_setEdge_X7_link
theorem dX7_setEdge_0 : decode cX7_setEdge 0 = .ok (.aload_n 0, 1) := by decide +kernel
theorem dX7_setEdge_1 : decode cX7_setEdge 1 = .ok (.iconst 0, 1) := by decide +kernel
theorem dX7_setEdge_2 : decode cX7_setEdge 2 = .ok (.putfield 45, 3) := by decide +kernel
theorem dX7_setEdge_5 : decode cX7_setEdge 5 = .ok (.aload_n 0, 1) := by decide +kernel
theorem dX7_setEdge_6 : decode cX7_setEdge 6 = .ok (.getfield 56, 3) := by decide +kernel
theorem dX7_setEdge_9 : decode cX7_setEdge 9 = .ok (.istore_n 2, 1) := by decide +kernel
theorem dX7_setEdge_10 : decode cX7_setEdge 10 = .ok (.aload_n 0, 1) := by decide +kernel
theorem dX7_setEdge_11 : decode cX7_setEdge 11 = .ok (.iload_n 1, 1) := by decide +kernel
theorem dX7_setEdge_12 : decode cX7_setEdge 12 = .ok (.putfield 56, 3) := by decide +kernel
theorem dX7_setEdge_15 : decode cX7_setEdge 15 = .ok (.aload_n 0, 1) := by decide +kernel
theorem dX7_setEdge_16 : decode cX7_setEdge 16 = .ok (.invokevirtual 42, 3) := by decide +kernel
theorem dX7_setEdge_19 : decode cX7_setEdge 19 = .ok (.iload_n 2, 1) := by decide +kernel
theorem dX7_setEdge_20 : decode cX7_setEdge 20 = .ok (.ireturn, 1) := by decide +kernel
set_option maxRecDepth 20000 in
theorem ggX7_turn_X7_isCell : GoodIn wsX7_turn wsX7_isCell := goodIn_r _ [9, 2, 10, 11, 12, 8, 13, 36, 37, 38, 39, 40, 41, 42, 43, 44, 45, 46] (by decide +kernel) (by decide +kernel)
set_option maxRecDepth 20000 in
theorem gX7_turn_X7_isCell : GoodIn wsX7_turn (wsV RX7 52 RX7 yX7_isCell wsX7_isCell) := goodIn_app (goodIn_of _ (by decide +kernel)) ggX7_turn_X7_isCell
set_option maxRecDepth 20000 in
theorem ggX7_turn_X7_no : GoodIn wsX7_turn wsX7_no := goodIn_r _ [17, 1, 36, 37, 38, 39, 40, 41, 42, 43, 44, 45, 46] (by decide +kernel) (by decide +kernel)
set_option maxRecDepth 20000 in
theorem gX7_turn_X7_no : GoodIn wsX7_turn (wsV RX7 129 RX7 yX7_no wsX7_no) := goodIn_app (goodIn_of _ (by decide +kernel)) ggX7_turn_X7_no
set_option maxRecDepth 20000 in
theorem ggX7_turn_X6_has : GoodIn wsX7_turn wsX6_has := goodIn_r _ [22, 23, 47, 48, 49, 50, 51] (by decide +kernel) (by decide +kernel)
set_option maxRecDepth 20000 in
theorem gX7_turn_X6_has : GoodIn wsX7_turn (wsV RX7 90 RX6 yX6_has wsX6_has) := goodIn_app (goodIn_of _ (by decide +kernel)) ggX7_turn_X6_has
set_option maxRecDepth 20000 in
theorem ggX7_turn_X6_plant : GoodIn wsX7_turn wsX6_plant := goodIn_r _ [27, 23, 28, 47, 48, 49, 50, 51] (by decide +kernel) (by decide +kernel)
set_option maxRecDepth 20000 in
theorem gX7_turn_X6_plant : GoodIn wsX7_turn (wsV RX7 133 RX6 yX6_plant wsX6_plant) := goodIn_app (goodIn_of _ (by decide +kernel)) ggX7_turn_X6_plant
set_option maxRecDepth 20000 in
theorem ggX7_turn_J13_bitCount_95d88 : GoodIn wsX7_turn wsJ13_bitCount_95d88 := goodIn_r _ [32, 33, 34, 35] (by decide +kernel) (by decide +kernel)
set_option maxRecDepth 20000 in
theorem gX7_turn_J13_bitCount_95d88 : GoodIn wsX7_turn (va_wsS RX7 68 yJ13_bitCount_95d88 wsJ13_bitCount_95d88) := goodIn_app (goodIn_of _ (by decide +kernel)) ggX7_turn_J13_bitCount_95d88
theorem dX7_turn_0 : decode cX7_turn 0 = .ok (.aload_n 0, 1) := by decide +kernel
theorem dX7_turn_1 : decode cX7_turn 1 = .ok (.iconst 0, 1) := by decide +kernel
theorem dX7_turn_2 : decode cX7_turn 2 = .ok (.putfield 45, 3) := by decide +kernel
theorem dX7_turn_5 : decode cX7_turn 5 = .ok (.aload_n 0, 1) := by decide +kernel
theorem dX7_turn_6 : decode cX7_turn 6 = .ok (.iload_n 1, 1) := by decide +kernel
theorem dX7_turn_7 : decode cX7_turn 7 = .ok (.iload_n 2, 1) := by decide +kernel
theorem dX7_turn_8 : decode cX7_turn 8 = .ok (.invokevirtual 52, 3) := by decide +kernel
theorem dX7_turn_11 : decode cX7_turn 11 = .ok (.ifCond .ne 9, 3) := by decide +kernel
theorem dX7_turn_14 : decode cX7_turn 14 = .ok (.aload_n 0, 1) := by decide +kernel
theorem dX7_turn_15 : decode cX7_turn 15 = .ok (.iconst 1, 1) := by decide +kernel
theorem dX7_turn_16 : decode cX7_turn 16 = .ok (.invokevirtual 129, 3) := by decide +kernel
theorem dX7_turn_19 : decode cX7_turn 19 = .ok (.ireturn, 1) := by decide +kernel
theorem dX7_turn_20 : decode cX7_turn 20 = .ok (.aload_n 0, 1) := by decide +kernel
theorem dX7_turn_21 : decode cX7_turn 21 = .ok (.getfield 9, 3) := by decide +kernel
theorem dX7_turn_24 : decode cX7_turn 24 = .ok (.iload_n 2, 1) := by decide +kernel
theorem dX7_turn_25 : decode cX7_turn 25 = .ok (.imul, 1) := by decide +kernel
theorem dX7_turn_26 : decode cX7_turn 26 = .ok (.iload_n 1, 1) := by decide +kernel
theorem dX7_turn_27 : decode cX7_turn 27 = .ok (.iadd, 1) := by decide +kernel
theorem dX7_turn_28 : decode cX7_turn 28 = .ok (.istore_n 3, 1) := by decide +kernel
theorem dX7_turn_29 : decode cX7_turn 29 = .ok (.aload_n 0, 1) := by decide +kernel
theorem dX7_turn_30 : decode cX7_turn 30 = .ok (.getfield 32, 3) := by decide +kernel
theorem dX7_turn_33 : decode cX7_turn 33 = .ok (.iload_n 3, 1) := by decide +kernel
theorem dX7_turn_34 : decode cX7_turn 34 = .ok (.invokevirtual 90, 3) := by decide +kernel
theorem dX7_turn_37 : decode cX7_turn 37 = .ok (.ifCond .eq 25, 3) := by decide +kernel
theorem dX7_turn_40 : decode cX7_turn 40 = .ok (.aload_n 0, 1) := by decide +kernel
theorem dX7_turn_41 : decode cX7_turn 41 = .ok (.getfield 32, 3) := by decide +kernel
theorem dX7_turn_44 : decode cX7_turn 44 = .ok (.dup, 1) := by decide +kernel
theorem dX7_turn_45 : decode cX7_turn 45 = .ok (.getfield 78, 3) := by decide +kernel
theorem dX7_turn_48 : decode cX7_turn 48 = .ok (.lconst 1, 1) := by decide +kernel
theorem dX7_turn_49 : decode cX7_turn 49 = .ok (.iload_n 3, 1) := by decide +kernel
theorem dX7_turn_50 : decode cX7_turn 50 = .ok (.lshl, 1) := by decide +kernel
theorem dX7_turn_51 : decode cX7_turn 51 = .ok (.ldc2_w 97, 3) := by decide +kernel
theorem dX7_turn_54 : decode cX7_turn 54 = .ok (.lxor, 1) := by decide +kernel
theorem dX7_turn_55 : decode cX7_turn 55 = .ok (.land, 1) := by decide +kernel
theorem dX7_turn_56 : decode cX7_turn 56 = .ok (.putfield 78, 3) := by decide +kernel
theorem dX7_turn_59 : decode cX7_turn 59 = .ok (.goto 11, 3) := by decide +kernel
theorem dX7_turn_62 : decode cX7_turn 62 = .ok (.aload_n 0, 1) := by decide +kernel
theorem dX7_turn_63 : decode cX7_turn 63 = .ok (.getfield 32, 3) := by decide +kernel
theorem dX7_turn_66 : decode cX7_turn 66 = .ok (.iload_n 3, 1) := by decide +kernel
theorem dX7_turn_67 : decode cX7_turn 67 = .ok (.invokevirtual 133, 3) := by decide +kernel
theorem dX7_turn_70 : decode cX7_turn 70 = .ok (.aload_n 0, 1) := by decide +kernel
theorem dX7_turn_71 : decode cX7_turn 71 = .ok (.getfield 32, 3) := by decide +kernel
theorem dX7_turn_74 : decode cX7_turn 74 = .ok (.getfield 78, 3) := by decide +kernel
theorem dX7_turn_77 : decode cX7_turn 77 = .ok (.invokestatic 68, 3) := by decide +kernel
theorem dX7_turn_80 : decode cX7_turn 80 = .ok (.ireturn, 1) := by decide +kernel
theorem dX7_isOf_0 : decode cX7_isOf 0 = .ok (.iload_n 2, 1) := by decide +kernel
theorem dX7_isOf_1 : decode cX7_isOf 1 = .ok (.istore 4, 2) := by decide +kernel
theorem dX7_isOf_3 : decode cX7_isOf 3 = .ok (.iload_n 3, 1) := by decide +kernel
theorem dX7_isOf_4 : decode cX7_isOf 4 = .ok (.istore 5, 2) := by decide +kernel
theorem dX7_isOf_6 : decode cX7_isOf 6 = .ok (.iconst 0, 1) := by decide +kernel
theorem dX7_isOf_7 : decode cX7_isOf 7 = .ok (.istore 6, 2) := by decide +kernel
theorem dX7_isOf_9 : decode cX7_isOf 9 = .ok (.iload 6, 2) := by decide +kernel
theorem dX7_isOf_11 : decode cX7_isOf 11 = .ok (.iload_n 1, 1) := by decide +kernel
theorem dX7_isOf_12 : decode cX7_isOf 12 = .ok (.if_icmp .ge 23, 3) := by decide +kernel
theorem dX7_isOf_15 : decode cX7_isOf 15 = .ok (.iload 4, 2) := by decide +kernel
theorem dX7_isOf_17 : decode cX7_isOf 17 = .ok (.istore 7, 2) := by decide +kernel
theorem dX7_isOf_19 : decode cX7_isOf 19 = .ok (.iload 5, 2) := by decide +kernel
theorem dX7_isOf_21 : decode cX7_isOf 21 = .ok (.istore 4, 2) := by decide +kernel
theorem dX7_isOf_23 : decode cX7_isOf 23 = .ok (.iconst 2, 1) := by decide +kernel
theorem dX7_isOf_24 : decode cX7_isOf 24 = .ok (.iload 7, 2) := by decide +kernel
theorem dX7_isOf_26 : decode cX7_isOf 26 = .ok (.isub, 1) := by decide +kernel
theorem dX7_isOf_27 : decode cX7_isOf 27 = .ok (.istore 5, 2) := by decide +kernel
theorem dX7_isOf_29 : decode cX7_isOf 29 = .ok (.iinc 6 1, 3) := by decide +kernel
theorem dX7_isOf_32 : decode cX7_isOf 32 = .ok (.goto (-23), 3) := by decide +kernel
theorem dX7_isOf_35 : decode cX7_isOf 35 = .ok (.getstatic 137, 3) := by decide +kernel
theorem dX7_isOf_38 : decode cX7_isOf 38 = .ok (.iload_n 0, 1) := by decide +kernel
theorem dX7_isOf_39 : decode cX7_isOf 39 = .ok (.iaload, 1) := by decide +kernel
theorem dX7_isOf_40 : decode cX7_isOf 40 = .ok (.iconst 3, 1) := by decide +kernel
theorem dX7_isOf_41 : decode cX7_isOf 41 = .ok (.iload 5, 2) := by decide +kernel
theorem dX7_isOf_43 : decode cX7_isOf 43 = .ok (.imul, 1) := by decide +kernel
theorem dX7_isOf_44 : decode cX7_isOf 44 = .ok (.iload 4, 2) := by decide +kernel
theorem dX7_isOf_46 : decode cX7_isOf 46 = .ok (.iadd, 1) := by decide +kernel
theorem dX7_isOf_47 : decode cX7_isOf 47 = .ok (.ishr, 1) := by decide +kernel
theorem dX7_isOf_48 : decode cX7_isOf 48 = .ok (.iconst 1, 1) := by decide +kernel
theorem dX7_isOf_49 : decode cX7_isOf 49 = .ok (.iand, 1) := by decide +kernel
theorem dX7_isOf_50 : decode cX7_isOf 50 = .ok (.iconst 1, 1) := by decide +kernel
theorem dX7_isOf_51 : decode cX7_isOf 51 = .ok (.if_icmp .ne 7, 3) := by decide +kernel
theorem dX7_isOf_54 : decode cX7_isOf 54 = .ok (.iconst 1, 1) := by decide +kernel
theorem dX7_isOf_55 : decode cX7_isOf 55 = .ok (.goto 4, 3) := by decide +kernel
theorem dX7_isOf_58 : decode cX7_isOf 58 = .ok (.iconst 0, 1) := by decide +kernel
theorem dX7_isOf_59 : decode cX7_isOf 59 = .ok (.ireturn, 1) := by decide +kernel
set_option maxRecDepth 20000 in
theorem ggX7_plant_X7_isIn : GoodIn wsX7_plant wsX7_isIn := goodIn_r _ [6] (by decide +kernel) (by decide +kernel)
set_option maxRecDepth 20000 in
theorem gX7_plant_X7_isIn : GoodIn wsX7_plant (va_wsS RX7 48 yX7_isIn wsX7_isIn) := goodIn_app (goodIn_of _ (by decide +kernel)) ggX7_plant_X7_isIn
set_option maxRecDepth 20000 in
theorem ggX7_plant_X7_isCell : GoodIn wsX7_plant wsX7_isCell := goodIn_r _ [10, 11, 12, 3, 4, 5, 6, 40, 41, 42, 43, 44, 45, 46, 47, 48, 49, 50] (by decide +kernel) (by decide +kernel)
set_option maxRecDepth 20000 in
theorem gX7_plant_X7_isCell : GoodIn wsX7_plant (wsV RX7 52 RX7 yX7_isCell wsX7_isCell) := goodIn_app (goodIn_of _ (by decide +kernel)) ggX7_plant_X7_isCell
set_option maxRecDepth 20000 in
theorem ggX7_plant_X7_no : GoodIn wsX7_plant wsX7_no := goodIn_r _ [16, 1, 40, 41, 42, 43, 44, 45, 46, 47, 48, 49, 50] (by decide +kernel) (by decide +kernel)
set_option maxRecDepth 20000 in
theorem gX7_plant_X7_no : GoodIn wsX7_plant (wsV RX7 129 RX7 yX7_no wsX7_no) := goodIn_app (goodIn_of _ (by decide +kernel)) ggX7_plant_X7_no
set_option maxRecDepth 20000 in
theorem ggX7_plant_X7_isOf : GoodIn wsX7_plant wsX7_isOf := goodIn_r _ [19, 20] (by decide +kernel) (by decide +kernel)
set_option maxRecDepth 20000 in
theorem gX7_plant_X7_isOf : GoodIn wsX7_plant (va_wsS RX7 140 yX7_isOf wsX7_isOf) := goodIn_app (goodIn_of _ (by decide +kernel)) ggX7_plant_X7_isOf
set_option maxRecDepth 20000 in
theorem ggX7_plant_X7_at : GoodIn wsX7_plant wsX7_at := goodIn_r _ [24, 11, 25, 12, 7, 8, 9, 5, 10, 3, 4, 6, 40, 41, 42, 43, 44, 45, 46, 47, 48, 49, 50] (by decide +kernel) (by decide +kernel)
set_option maxRecDepth 20000 in
theorem gX7_plant_X7_at : GoodIn wsX7_plant (wsV RX7 60 RX7 yX7_at wsX7_at) := goodIn_app (goodIn_of _ (by decide +kernel)) ggX7_plant_X7_at
set_option maxRecDepth 20000 in
theorem ggX7_plant_X6_plant : GoodIn wsX7_plant wsX6_plant := goodIn_r _ [30, 31, 32, 51, 52, 53, 54, 55] (by decide +kernel) (by decide +kernel)
set_option maxRecDepth 20000 in
theorem gX7_plant_X6_plant : GoodIn wsX7_plant (wsV RX7 133 RX6 yX6_plant wsX6_plant) := goodIn_app (goodIn_of _ (by decide +kernel)) ggX7_plant_X6_plant
set_option maxRecDepth 20000 in
theorem ggX7_plant_J13_bitCount_95d88 : GoodIn wsX7_plant wsJ13_bitCount_95d88 := goodIn_r _ [36, 37, 38, 39] (by decide +kernel) (by decide +kernel)
set_option maxRecDepth 20000 in
theorem gX7_plant_J13_bitCount_95d88 : GoodIn wsX7_plant (va_wsS RX7 68 yJ13_bitCount_95d88 wsJ13_bitCount_95d88) := goodIn_app (goodIn_of _ (by decide +kernel)) ggX7_plant_J13_bitCount_95d88
theorem dX7_plant_0 : decode cX7_plant 0 = .ok (.aload_n 0, 1) := by decide +kernel
theorem dX7_plant_1 : decode cX7_plant 1 = .ok (.iconst 0, 1) := by decide +kernel
theorem dX7_plant_2 : decode cX7_plant 2 = .ok (.putfield 45, 3) := by decide +kernel
theorem dX7_plant_5 : decode cX7_plant 5 = .ok (.iload_n 1, 1) := by decide +kernel
theorem dX7_plant_6 : decode cX7_plant 6 = .ok (.iconst 0, 1) := by decide +kernel
theorem dX7_plant_7 : decode cX7_plant 7 = .ok (.iconst 3, 1) := by decide +kernel
theorem dX7_plant_8 : decode cX7_plant 8 = .ok (.invokestatic 48, 3) := by decide +kernel
theorem dX7_plant_11 : decode cX7_plant 11 = .ok (.ifCond .eq 22, 3) := by decide +kernel
theorem dX7_plant_14 : decode cX7_plant 14 = .ok (.iload_n 2, 1) := by decide +kernel
theorem dX7_plant_15 : decode cX7_plant 15 = .ok (.iconst 0, 1) := by decide +kernel
theorem dX7_plant_16 : decode cX7_plant 16 = .ok (.iconst 3, 1) := by decide +kernel
theorem dX7_plant_17 : decode cX7_plant 17 = .ok (.invokestatic 48, 3) := by decide +kernel
theorem dX7_plant_20 : decode cX7_plant 20 = .ok (.ifCond .eq 13, 3) := by decide +kernel
theorem dX7_plant_23 : decode cX7_plant 23 = .ok (.aload_n 0, 1) := by decide +kernel
theorem dX7_plant_24 : decode cX7_plant 24 = .ok (.iload_n 3, 1) := by decide +kernel
theorem dX7_plant_25 : decode cX7_plant 25 = .ok (.iload 4, 2) := by decide +kernel
theorem dX7_plant_27 : decode cX7_plant 27 = .ok (.invokevirtual 52, 3) := by decide +kernel
theorem dX7_plant_30 : decode cX7_plant 30 = .ok (.ifCond .ne 9, 3) := by decide +kernel
theorem dX7_plant_33 : decode cX7_plant 33 = .ok (.aload_n 0, 1) := by decide +kernel
theorem dX7_plant_34 : decode cX7_plant 34 = .ok (.iconst 1, 1) := by decide +kernel
theorem dX7_plant_35 : decode cX7_plant 35 = .ok (.invokevirtual 129, 3) := by decide +kernel
theorem dX7_plant_38 : decode cX7_plant 38 = .ok (.ireturn, 1) := by decide +kernel
theorem dX7_plant_39 : decode cX7_plant 39 = .ok (.iconst 0, 1) := by decide +kernel
theorem dX7_plant_40 : decode cX7_plant 40 = .ok (.istore 5, 2) := by decide +kernel
theorem dX7_plant_42 : decode cX7_plant 42 = .ok (.iload 5, 2) := by decide +kernel
theorem dX7_plant_44 : decode cX7_plant 44 = .ok (.bipush 9, 2) := by decide +kernel
theorem dX7_plant_46 : decode cX7_plant 46 = .ok (.if_icmp .ge 52, 3) := by decide +kernel
theorem dX7_plant_49 : decode cX7_plant 49 = .ok (.iload_n 1, 1) := by decide +kernel
theorem dX7_plant_50 : decode cX7_plant 50 = .ok (.iload_n 2, 1) := by decide +kernel
theorem dX7_plant_51 : decode cX7_plant 51 = .ok (.iload 5, 2) := by decide +kernel
theorem dX7_plant_53 : decode cX7_plant 53 = .ok (.iconst 3, 1) := by decide +kernel
theorem dX7_plant_54 : decode cX7_plant 54 = .ok (.irem, 1) := by decide +kernel
theorem dX7_plant_55 : decode cX7_plant 55 = .ok (.iload 5, 2) := by decide +kernel
theorem dX7_plant_57 : decode cX7_plant 57 = .ok (.iconst 3, 1) := by decide +kernel
theorem dX7_plant_58 : decode cX7_plant 58 = .ok (.idiv, 1) := by decide +kernel
theorem dX7_plant_59 : decode cX7_plant 59 = .ok (.invokestatic 140, 3) := by decide +kernel
theorem dX7_plant_62 : decode cX7_plant 62 = .ok (.ifCond .eq 30, 3) := by decide +kernel
theorem dX7_plant_65 : decode cX7_plant 65 = .ok (.aload_n 0, 1) := by decide +kernel
theorem dX7_plant_66 : decode cX7_plant 66 = .ok (.iload_n 3, 1) := by decide +kernel
theorem dX7_plant_67 : decode cX7_plant 67 = .ok (.iload 5, 2) := by decide +kernel
theorem dX7_plant_69 : decode cX7_plant 69 = .ok (.iconst 3, 1) := by decide +kernel
theorem dX7_plant_70 : decode cX7_plant 70 = .ok (.irem, 1) := by decide +kernel
theorem dX7_plant_71 : decode cX7_plant 71 = .ok (.iadd, 1) := by decide +kernel
theorem dX7_plant_72 : decode cX7_plant 72 = .ok (.iload 4, 2) := by decide +kernel
theorem dX7_plant_74 : decode cX7_plant 74 = .ok (.iload 5, 2) := by decide +kernel
theorem dX7_plant_76 : decode cX7_plant 76 = .ok (.iconst 3, 1) := by decide +kernel
theorem dX7_plant_77 : decode cX7_plant 77 = .ok (.idiv, 1) := by decide +kernel
theorem dX7_plant_78 : decode cX7_plant 78 = .ok (.iadd, 1) := by decide +kernel
theorem dX7_plant_79 : decode cX7_plant 79 = .ok (.invokevirtual 60, 3) := by decide +kernel
theorem dX7_plant_82 : decode cX7_plant 82 = .ok (.iconst (-1), 1) := by decide +kernel
theorem dX7_plant_83 : decode cX7_plant 83 = .ok (.if_icmp .ne 9, 3) := by decide +kernel
theorem dX7_plant_86 : decode cX7_plant 86 = .ok (.aload_n 0, 1) := by decide +kernel
theorem dX7_plant_87 : decode cX7_plant 87 = .ok (.iconst 2, 1) := by decide +kernel
theorem dX7_plant_88 : decode cX7_plant 88 = .ok (.invokevirtual 129, 3) := by decide +kernel
theorem dX7_plant_91 : decode cX7_plant 91 = .ok (.ireturn, 1) := by decide +kernel
theorem dX7_plant_92 : decode cX7_plant 92 = .ok (.iinc 5 1, 3) := by decide +kernel
theorem dX7_plant_95 : decode cX7_plant 95 = .ok (.goto (-53), 3) := by decide +kernel
theorem dX7_plant_98 : decode cX7_plant 98 = .ok (.iconst 0, 1) := by decide +kernel
theorem dX7_plant_99 : decode cX7_plant 99 = .ok (.istore 5, 2) := by decide +kernel
theorem dX7_plant_101 : decode cX7_plant 101 = .ok (.iload 5, 2) := by decide +kernel
theorem dX7_plant_103 : decode cX7_plant 103 = .ok (.bipush 9, 2) := by decide +kernel
theorem dX7_plant_105 : decode cX7_plant 105 = .ok (.if_icmp .ge 49, 3) := by decide +kernel
theorem dX7_plant_108 : decode cX7_plant 108 = .ok (.iload_n 1, 1) := by decide +kernel
theorem dX7_plant_109 : decode cX7_plant 109 = .ok (.iload_n 2, 1) := by decide +kernel
theorem dX7_plant_110 : decode cX7_plant 110 = .ok (.iload 5, 2) := by decide +kernel
theorem dX7_plant_112 : decode cX7_plant 112 = .ok (.iconst 3, 1) := by decide +kernel
theorem dX7_plant_113 : decode cX7_plant 113 = .ok (.irem, 1) := by decide +kernel
theorem dX7_plant_114 : decode cX7_plant 114 = .ok (.iload 5, 2) := by decide +kernel
theorem dX7_plant_116 : decode cX7_plant 116 = .ok (.iconst 3, 1) := by decide +kernel
theorem dX7_plant_117 : decode cX7_plant 117 = .ok (.idiv, 1) := by decide +kernel
theorem dX7_plant_118 : decode cX7_plant 118 = .ok (.invokestatic 140, 3) := by decide +kernel
theorem dX7_plant_121 : decode cX7_plant 121 = .ok (.ifCond .eq 27, 3) := by decide +kernel
theorem dX7_plant_124 : decode cX7_plant 124 = .ok (.aload_n 0, 1) := by decide +kernel
theorem dX7_plant_125 : decode cX7_plant 125 = .ok (.getfield 32, 3) := by decide +kernel
theorem dX7_plant_128 : decode cX7_plant 128 = .ok (.aload_n 0, 1) := by decide +kernel
theorem dX7_plant_129 : decode cX7_plant 129 = .ok (.iload_n 3, 1) := by decide +kernel
theorem dX7_plant_130 : decode cX7_plant 130 = .ok (.iload 5, 2) := by decide +kernel
theorem dX7_plant_132 : decode cX7_plant 132 = .ok (.iconst 3, 1) := by decide +kernel
theorem dX7_plant_133 : decode cX7_plant 133 = .ok (.irem, 1) := by decide +kernel
theorem dX7_plant_134 : decode cX7_plant 134 = .ok (.iadd, 1) := by decide +kernel
theorem dX7_plant_135 : decode cX7_plant 135 = .ok (.iload 4, 2) := by decide +kernel
theorem dX7_plant_137 : decode cX7_plant 137 = .ok (.iload 5, 2) := by decide +kernel
theorem dX7_plant_139 : decode cX7_plant 139 = .ok (.iconst 3, 1) := by decide +kernel
theorem dX7_plant_140 : decode cX7_plant 140 = .ok (.idiv, 1) := by decide +kernel
theorem dX7_plant_141 : decode cX7_plant 141 = .ok (.iadd, 1) := by decide +kernel
theorem dX7_plant_142 : decode cX7_plant 142 = .ok (.invokevirtual 60, 3) := by decide +kernel
theorem dX7_plant_145 : decode cX7_plant 145 = .ok (.invokevirtual 133, 3) := by decide +kernel
theorem dX7_plant_148 : decode cX7_plant 148 = .ok (.iinc 5 1, 3) := by decide +kernel
theorem dX7_plant_151 : decode cX7_plant 151 = .ok (.goto (-50), 3) := by decide +kernel
theorem dX7_plant_154 : decode cX7_plant 154 = .ok (.aload_n 0, 1) := by decide +kernel
theorem dX7_plant_155 : decode cX7_plant 155 = .ok (.getfield 32, 3) := by decide +kernel
theorem dX7_plant_158 : decode cX7_plant 158 = .ok (.getfield 78, 3) := by decide +kernel
theorem dX7_plant_161 : decode cX7_plant 161 = .ok (.invokestatic 68, 3) := by decide +kernel
theorem dX7_plant_164 : decode cX7_plant 164 = .ok (.ireturn, 1) := by decide +kernel
set_option maxRecDepth 20000 in
theorem ggX7_pass__X7_isIn : GoodIn wsX7_pass_ wsX7_isIn := goodIn_r _ [6] (by decide +kernel) (by decide +kernel)
set_option maxRecDepth 20000 in
theorem gX7_pass__X7_isIn : GoodIn wsX7_pass_ (va_wsS RX7 48 yX7_isIn wsX7_isIn) := goodIn_app (goodIn_of _ (by decide +kernel)) ggX7_pass__X7_isIn
set_option maxRecDepth 20000 in
theorem ggX7_pass__X7_pass : GoodIn wsX7_pass_ wsX7_pass := goodIn_r _ [10, 11, 12, 13, 14, 15, 16, 5, 17, 18, 19, 20, 21, 22, 23, 24, 25, 26, 27, 28, 29, 30, 31, 32, 33, 34, 35, 36, 37, 53, 54, 55, 56, 57, 42, 43, 44, 45, 46, 47, 48, 49, 50, 51, 52] (by decide +kernel) (by decide +kernel)
set_option maxRecDepth 20000 in
theorem gX7_pass__X7_pass : GoodIn wsX7_pass_ (wsV RX7 144 RX7 yX7_pass wsX7_pass) := goodIn_app (goodIn_of _ (by decide +kernel)) ggX7_pass__X7_pass
set_option maxRecDepth 20000 in
theorem ggX7_pass__J13_bitCount_95d88 : GoodIn wsX7_pass_ wsJ13_bitCount_95d88 := goodIn_r _ [28, 29, 30, 31] (by decide +kernel) (by decide +kernel)
set_option maxRecDepth 20000 in
theorem gX7_pass__J13_bitCount_95d88 : GoodIn wsX7_pass_ (va_wsS RX7 68 yJ13_bitCount_95d88 wsJ13_bitCount_95d88) := goodIn_app (goodIn_of _ (by decide +kernel)) ggX7_pass__J13_bitCount_95d88
set_option maxRecDepth 20000 in
theorem ggX7_pass__X7_no : GoodIn wsX7_pass_ wsX7_no := goodIn_r _ [41, 1, 42, 43, 44, 45, 46, 47, 48, 49, 50, 51, 52] (by decide +kernel) (by decide +kernel)
set_option maxRecDepth 20000 in
theorem gX7_pass__X7_no : GoodIn wsX7_pass_ (wsV RX7 129 RX7 yX7_no wsX7_no) := goodIn_app (goodIn_of _ (by decide +kernel)) ggX7_pass__X7_no
theorem dX7_pass__0 : decode cX7_pass_ 0 = .ok (.aload_n 0, 1) := by decide +kernel
theorem dX7_pass__1 : decode cX7_pass_ 1 = .ok (.iconst 0, 1) := by decide +kernel
theorem dX7_pass__2 : decode cX7_pass_ 2 = .ok (.putfield 45, 3) := by decide +kernel
theorem dX7_pass__5 : decode cX7_pass_ 5 = .ok (.iload_n 1, 1) := by decide +kernel
theorem dX7_pass__6 : decode cX7_pass_ 6 = .ok (.iconst 1, 1) := by decide +kernel
theorem dX7_pass__7 : decode cX7_pass_ 7 = .ok (.bipush 50, 2) := by decide +kernel
theorem dX7_pass__9 : decode cX7_pass_ 9 = .ok (.invokestatic 48, 3) := by decide +kernel
theorem dX7_pass__12 : decode cX7_pass_ 12 = .ok (.ifCond .eq 21, 3) := by decide +kernel
theorem dX7_pass__15 : decode cX7_pass_ 15 = .ok (.aload_n 0, 1) := by decide +kernel
theorem dX7_pass__16 : decode cX7_pass_ 16 = .ok (.aload_n 0, 1) := by decide +kernel
theorem dX7_pass__17 : decode cX7_pass_ 17 = .ok (.getfield 32, 3) := by decide +kernel
theorem dX7_pass__20 : decode cX7_pass_ 20 = .ok (.iload_n 1, 1) := by decide +kernel
theorem dX7_pass__21 : decode cX7_pass_ 21 = .ok (.invokevirtual 144, 3) := by decide +kernel
theorem dX7_pass__24 : decode cX7_pass_ 24 = .ok (.getfield 78, 3) := by decide +kernel
theorem dX7_pass__27 : decode cX7_pass_ 27 = .ok (.invokestatic 68, 3) := by decide +kernel
theorem dX7_pass__30 : decode cX7_pass_ 30 = .ok (.goto 8, 3) := by decide +kernel
theorem dX7_pass__33 : decode cX7_pass_ 33 = .ok (.aload_n 0, 1) := by decide +kernel
theorem dX7_pass__34 : decode cX7_pass_ 34 = .ok (.iconst 1, 1) := by decide +kernel
theorem dX7_pass__35 : decode cX7_pass_ 35 = .ok (.invokevirtual 129, 3) := by decide +kernel
theorem dX7_pass__38 : decode cX7_pass_ 38 = .ok (.ireturn, 1) := by decide +kernel
set_option maxRecDepth 20000 in
theorem ggX7_toldOf_X6_has : GoodIn wsX7_toldOf wsX6_has := goodIn_r _ [7, 8, 46, 47, 48, 49, 50] (by decide +kernel) (by decide +kernel)
set_option maxRecDepth 20000 in
theorem gX7_toldOf_X6_has : GoodIn wsX7_toldOf (wsV RX7 90 RX6 yX6_has wsX6_has) := goodIn_app (goodIn_of _ (by decide +kernel)) ggX7_toldOf_X6_has
set_option maxRecDepth 20000 in
theorem ggX7_toldOf_J13_bitCount_95d88 : GoodIn wsX7_toldOf wsJ13_bitCount_95d88 := goodIn_r _ [12, 13, 14, 15] (by decide +kernel) (by decide +kernel)
set_option maxRecDepth 20000 in
theorem gX7_toldOf_J13_bitCount_95d88 : GoodIn wsX7_toldOf (va_wsS RX7 68 yJ13_bitCount_95d88 wsJ13_bitCount_95d88) := goodIn_app (goodIn_of _ (by decide +kernel)) ggX7_toldOf_J13_bitCount_95d88
set_option maxRecDepth 20000 in
theorem ggX7_toldOf_X7_open : GoodIn wsX7_toldOf wsX7_open := goodIn_r _ [20, 21, 22, 23, 35, 36, 37, 38, 39, 40, 41, 42, 43, 44, 45, 46, 47, 48, 49, 50] (by decide +kernel) (by decide +kernel)
set_option maxRecDepth 20000 in
theorem gX7_toldOf_X7_open : GoodIn wsX7_toldOf (wsV RX7 105 RX7 yX7_open wsX7_open) := goodIn_app (goodIn_of _ (by decide +kernel)) ggX7_toldOf_X7_open
set_option maxRecDepth 20000 in
theorem ggX7_toldOf_X7_lawn : GoodIn wsX7_toldOf wsX7_lawn := goodIn_r _ [27, 21, 22, 28, 35, 36, 37, 38, 39, 40, 41, 42, 43, 44, 45] (by decide +kernel) (by decide +kernel)
set_option maxRecDepth 20000 in
theorem gX7_toldOf_X7_lawn : GoodIn wsX7_toldOf (wsV RX7 112 RX7 yX7_lawn wsX7_lawn) := goodIn_app (goodIn_of _ (by decide +kernel)) ggX7_toldOf_X7_lawn
set_option maxRecDepth 20000 in
theorem ggX7_toldOf_X7_comes : GoodIn wsX7_toldOf wsX7_comes := goodIn_r _ [32, 2, 33, 34, 9, 10, 11, 12, 13, 14, 15, 35, 36, 37, 38, 39, 40, 41, 42, 43, 44, 45] (by decide +kernel) (by decide +kernel)
set_option maxRecDepth 20000 in
theorem gX7_toldOf_X7_comes : GoodIn wsX7_toldOf (wsV RX7 74 RX7 yX7_comes wsX7_comes) := goodIn_app (goodIn_of _ (by decide +kernel)) ggX7_toldOf_X7_comes
theorem dX7_toldOf_0 : decode cX7_toldOf 0 = .ok (.iload_n 2, 1) := by decide +kernel
theorem dX7_toldOf_1 : decode cX7_toldOf 1 = .ok (.tableswitch 108 0 3 #[31, 48, 66, 91], 31) := by decide +kernel
theorem dX7_toldOf_32 : decode cX7_toldOf 32 = .ok (.aload_n 0, 1) := by decide +kernel
theorem dX7_toldOf_33 : decode cX7_toldOf 33 = .ok (.getfield 32, 3) := by decide +kernel
theorem dX7_toldOf_36 : decode cX7_toldOf 36 = .ok (.iload_n 1, 1) := by decide +kernel
theorem dX7_toldOf_37 : decode cX7_toldOf 37 = .ok (.invokevirtual 90, 3) := by decide +kernel
theorem dX7_toldOf_40 : decode cX7_toldOf 40 = .ok (.ifCond .eq 7, 3) := by decide +kernel
theorem dX7_toldOf_43 : decode cX7_toldOf 43 = .ok (.iconst 1, 1) := by decide +kernel
theorem dX7_toldOf_44 : decode cX7_toldOf 44 = .ok (.goto 4, 3) := by decide +kernel
theorem dX7_toldOf_47 : decode cX7_toldOf 47 = .ok (.iconst 0, 1) := by decide +kernel
theorem dX7_toldOf_48 : decode cX7_toldOf 48 = .ok (.ireturn, 1) := by decide +kernel
theorem dX7_toldOf_49 : decode cX7_toldOf 49 = .ok (.aload_n 0, 1) := by decide +kernel
theorem dX7_toldOf_50 : decode cX7_toldOf 50 = .ok (.getfield 32, 3) := by decide +kernel
theorem dX7_toldOf_53 : decode cX7_toldOf 53 = .ok (.getfield 78, 3) := by decide +kernel
theorem dX7_toldOf_56 : decode cX7_toldOf 56 = .ok (.aload_n 0, 1) := by decide +kernel
theorem dX7_toldOf_57 : decode cX7_toldOf 57 = .ok (.getfield 22, 3) := by decide +kernel
theorem dX7_toldOf_60 : decode cX7_toldOf 60 = .ok (.iload_n 1, 1) := by decide +kernel
theorem dX7_toldOf_61 : decode cX7_toldOf 61 = .ok (.laload, 1) := by decide +kernel
theorem dX7_toldOf_62 : decode cX7_toldOf 62 = .ok (.land, 1) := by decide +kernel
theorem dX7_toldOf_63 : decode cX7_toldOf 63 = .ok (.invokestatic 68, 3) := by decide +kernel
theorem dX7_toldOf_66 : decode cX7_toldOf 66 = .ok (.ireturn, 1) := by decide +kernel
theorem dX7_toldOf_67 : decode cX7_toldOf 67 = .ok (.aload_n 0, 1) := by decide +kernel
theorem dX7_toldOf_68 : decode cX7_toldOf 68 = .ok (.getfield 32, 3) := by decide +kernel
theorem dX7_toldOf_71 : decode cX7_toldOf 71 = .ok (.iload_n 1, 1) := by decide +kernel
theorem dX7_toldOf_72 : decode cX7_toldOf 72 = .ok (.invokevirtual 90, 3) := by decide +kernel
theorem dX7_toldOf_75 : decode cX7_toldOf 75 = .ok (.ifCond .eq 15, 3) := by decide +kernel
theorem dX7_toldOf_78 : decode cX7_toldOf 78 = .ok (.aload_n 0, 1) := by decide +kernel
theorem dX7_toldOf_79 : decode cX7_toldOf 79 = .ok (.getfield 32, 3) := by decide +kernel
theorem dX7_toldOf_82 : decode cX7_toldOf 82 = .ok (.getfield 86, 3) := by decide +kernel
theorem dX7_toldOf_85 : decode cX7_toldOf 85 = .ok (.iload_n 1, 1) := by decide +kernel
theorem dX7_toldOf_86 : decode cX7_toldOf 86 = .ok (.iaload, 1) := by decide +kernel
theorem dX7_toldOf_87 : decode cX7_toldOf 87 = .ok (.goto 4, 3) := by decide +kernel
theorem dX7_toldOf_90 : decode cX7_toldOf 90 = .ok (.iconst (-1), 1) := by decide +kernel
theorem dX7_toldOf_91 : decode cX7_toldOf 91 = .ok (.ireturn, 1) := by decide +kernel
theorem dX7_toldOf_92 : decode cX7_toldOf 92 = .ok (.aload_n 0, 1) := by decide +kernel
theorem dX7_toldOf_93 : decode cX7_toldOf 93 = .ok (.aload_n 0, 1) := by decide +kernel
theorem dX7_toldOf_94 : decode cX7_toldOf 94 = .ok (.aload_n 0, 1) := by decide +kernel
theorem dX7_toldOf_95 : decode cX7_toldOf 95 = .ok (.getfield 32, 3) := by decide +kernel
theorem dX7_toldOf_98 : decode cX7_toldOf 98 = .ok (.invokevirtual 105, 3) := by decide +kernel
theorem dX7_toldOf_101 : decode cX7_toldOf 101 = .ok (.iload_n 1, 1) := by decide +kernel
theorem dX7_toldOf_102 : decode cX7_toldOf 102 = .ok (.invokevirtual 112, 3) := by decide +kernel
theorem dX7_toldOf_105 : decode cX7_toldOf 105 = .ok (.invokestatic 68, 3) := by decide +kernel
theorem dX7_toldOf_108 : decode cX7_toldOf 108 = .ok (.ireturn, 1) := by decide +kernel
theorem dX7_toldOf_109 : decode cX7_toldOf 109 = .ok (.aload_n 0, 1) := by decide +kernel
theorem dX7_toldOf_110 : decode cX7_toldOf 110 = .ok (.aload_n 0, 1) := by decide +kernel
theorem dX7_toldOf_111 : decode cX7_toldOf 111 = .ok (.getfield 32, 3) := by decide +kernel
theorem dX7_toldOf_114 : decode cX7_toldOf 114 = .ok (.getfield 78, 3) := by decide +kernel
theorem dX7_toldOf_117 : decode cX7_toldOf 117 = .ok (.iload_n 1, 1) := by decide +kernel
theorem dX7_toldOf_118 : decode cX7_toldOf 118 = .ok (.invokevirtual 74, 3) := by decide +kernel
theorem dX7_toldOf_121 : decode cX7_toldOf 121 = .ok (.ifCond .eq 7, 3) := by decide +kernel
theorem dX7_toldOf_124 : decode cX7_toldOf 124 = .ok (.iconst 1, 1) := by decide +kernel
theorem dX7_toldOf_125 : decode cX7_toldOf 125 = .ok (.goto 4, 3) := by decide +kernel
theorem dX7_toldOf_128 : decode cX7_toldOf 128 = .ok (.iconst 0, 1) := by decide +kernel
theorem dX7_toldOf_129 : decode cX7_toldOf 129 = .ok (.ireturn, 1) := by decide +kernel
set_option maxRecDepth 20000 in
theorem ggX7_told_X7_isCell : GoodIn wsX7_told wsX7_isCell := goodIn_r _ [7, 2, 8, 9, 10, 6, 11, 51, 52, 53, 54, 55, 56, 57, 58, 59, 60, 61] (by decide +kernel) (by decide +kernel)
set_option maxRecDepth 20000 in
theorem gX7_told_X7_isCell : GoodIn wsX7_told (wsV RX7 52 RX7 yX7_isCell wsX7_isCell) := goodIn_app (goodIn_of _ (by decide +kernel)) ggX7_told_X7_isCell
set_option maxRecDepth 20000 in
theorem ggX7_told_X7_isIn : GoodIn wsX7_told wsX7_isIn := goodIn_r _ [11] (by decide +kernel) (by decide +kernel)
set_option maxRecDepth 20000 in
theorem gX7_told_X7_isIn : GoodIn wsX7_told (va_wsS RX7 48 yX7_isIn wsX7_isIn) := goodIn_app (goodIn_of _ (by decide +kernel)) ggX7_told_X7_isIn
set_option maxRecDepth 20000 in
theorem ggX7_told_X7_toldOf : GoodIn wsX7_told wsX7_toldOf := goodIn_r _ [15, 16, 17, 18, 19, 20, 21, 22, 23, 24, 25, 26, 27, 28, 29, 30, 31, 32, 33, 6, 34, 2, 8, 35, 36, 37, 38, 39, 40, 41, 42, 43, 44, 45, 46, 51, 52, 53, 54, 55, 56, 57, 58, 59, 60, 61, 62, 63, 64, 65, 66] (by decide +kernel) (by decide +kernel)
set_option maxRecDepth 20000 in
theorem gX7_told_X7_toldOf : GoodIn wsX7_told (wsV RX7 148 RX7 yX7_toldOf wsX7_toldOf) := goodIn_app (goodIn_of _ (by decide +kernel)) ggX7_told_X7_toldOf
set_option maxRecDepth 20000 in
theorem ggX7_told_X7_no : GoodIn wsX7_told wsX7_no := goodIn_r _ [50, 1, 51, 52, 53, 54, 55, 56, 57, 58, 59, 60, 61] (by decide +kernel) (by decide +kernel)
set_option maxRecDepth 20000 in
theorem gX7_told_X7_no : GoodIn wsX7_told (wsV RX7 129 RX7 yX7_no wsX7_no) := goodIn_app (goodIn_of _ (by decide +kernel)) ggX7_told_X7_no
theorem dX7_told_0 : decode cX7_told 0 = .ok (.aload_n 0, 1) := by decide +kernel
theorem dX7_told_1 : decode cX7_told 1 = .ok (.iconst 0, 1) := by decide +kernel
theorem dX7_told_2 : decode cX7_told 2 = .ok (.putfield 45, 3) := by decide +kernel
theorem dX7_told_5 : decode cX7_told 5 = .ok (.aload_n 0, 1) := by decide +kernel
theorem dX7_told_6 : decode cX7_told 6 = .ok (.iload_n 1, 1) := by decide +kernel
theorem dX7_told_7 : decode cX7_told 7 = .ok (.iload_n 2, 1) := by decide +kernel
theorem dX7_told_8 : decode cX7_told 8 = .ok (.invokevirtual 52, 3) := by decide +kernel
theorem dX7_told_11 : decode cX7_told 11 = .ok (.ifCond .eq 28, 3) := by decide +kernel
theorem dX7_told_14 : decode cX7_told 14 = .ok (.iload_n 3, 1) := by decide +kernel
theorem dX7_told_15 : decode cX7_told 15 = .ok (.iconst 0, 1) := by decide +kernel
theorem dX7_told_16 : decode cX7_told 16 = .ok (.iconst 4, 1) := by decide +kernel
theorem dX7_told_17 : decode cX7_told 17 = .ok (.invokestatic 48, 3) := by decide +kernel
theorem dX7_told_20 : decode cX7_told 20 = .ok (.ifCond .eq 19, 3) := by decide +kernel
theorem dX7_told_23 : decode cX7_told 23 = .ok (.aload_n 0, 1) := by decide +kernel
theorem dX7_told_24 : decode cX7_told 24 = .ok (.aload_n 0, 1) := by decide +kernel
theorem dX7_told_25 : decode cX7_told 25 = .ok (.getfield 9, 3) := by decide +kernel
theorem dX7_told_28 : decode cX7_told 28 = .ok (.iload_n 2, 1) := by decide +kernel
theorem dX7_told_29 : decode cX7_told 29 = .ok (.imul, 1) := by decide +kernel
theorem dX7_told_30 : decode cX7_told 30 = .ok (.iload_n 1, 1) := by decide +kernel
theorem dX7_told_31 : decode cX7_told 31 = .ok (.iadd, 1) := by decide +kernel
theorem dX7_told_32 : decode cX7_told 32 = .ok (.iload_n 3, 1) := by decide +kernel
theorem dX7_told_33 : decode cX7_told 33 = .ok (.invokevirtual 148, 3) := by decide +kernel
theorem dX7_told_36 : decode cX7_told 36 = .ok (.goto 8, 3) := by decide +kernel
theorem dX7_told_39 : decode cX7_told 39 = .ok (.aload_n 0, 1) := by decide +kernel
theorem dX7_told_40 : decode cX7_told 40 = .ok (.iconst 1, 1) := by decide +kernel
theorem dX7_told_41 : decode cX7_told 41 = .ok (.invokevirtual 129, 3) := by decide +kernel
theorem dX7_told_44 : decode cX7_told 44 = .ok (.ireturn, 1) := by decide +kernel
set_option maxRecDepth 20000 in
theorem ggX7_count_X7_isIn : GoodIn wsX7_count wsX7_isIn := goodIn_r _ [6] (by decide +kernel) (by decide +kernel)
set_option maxRecDepth 20000 in
theorem gX7_count_X7_isIn : GoodIn wsX7_count (va_wsS RX7 48 yX7_isIn wsX7_isIn) := goodIn_app (goodIn_of _ (by decide +kernel)) ggX7_count_X7_isIn
set_option maxRecDepth 20000 in
theorem ggX7_count_X7_counted : GoodIn wsX7_count wsX7_counted := goodIn_r _ [10, 11, 12, 13, 14, 15, 16, 17, 18, 19, 20, 21, 22, 23, 5, 24, 25, 26, 27, 28, 29, 30, 31, 32, 33, 34, 35, 36, 37, 38, 39, 40, 41, 42, 43, 44, 45, 46, 47, 48, 49, 50, 51, 52, 53, 54, 55, 56, 57, 58, 59, 60, 61, 62, 63, 64, 65, 66, 67, 83, 84, 85, 86, 87, 72, 73, 74, 75, 76, 77, 78, 79, 80, 81, 82] (by decide +kernel) (by decide +kernel)
set_option maxRecDepth 20000 in
theorem gX7_count_X7_counted : GoodIn wsX7_count (wsV RX7 151 RX7 yX7_counted wsX7_counted) := goodIn_app (goodIn_of _ (by decide +kernel)) ggX7_count_X7_counted
set_option maxRecDepth 20000 in
theorem ggX7_count_X7_no : GoodIn wsX7_count wsX7_no := goodIn_r _ [71, 1, 72, 73, 74, 75, 76, 77, 78, 79, 80, 81, 82] (by decide +kernel) (by decide +kernel)
set_option maxRecDepth 20000 in
theorem gX7_count_X7_no : GoodIn wsX7_count (wsV RX7 129 RX7 yX7_no wsX7_no) := goodIn_app (goodIn_of _ (by decide +kernel)) ggX7_count_X7_no
theorem dX7_count_0 : decode cX7_count 0 = .ok (.aload_n 0, 1) := by decide +kernel
theorem dX7_count_1 : decode cX7_count 1 = .ok (.iconst 0, 1) := by decide +kernel
theorem dX7_count_2 : decode cX7_count 2 = .ok (.putfield 45, 3) := by decide +kernel
theorem dX7_count_5 : decode cX7_count 5 = .ok (.iload_n 1, 1) := by decide +kernel
theorem dX7_count_6 : decode cX7_count 6 = .ok (.iconst 0, 1) := by decide +kernel
theorem dX7_count_7 : decode cX7_count 7 = .ok (.bipush 10, 2) := by decide +kernel
theorem dX7_count_9 : decode cX7_count 9 = .ok (.invokestatic 48, 3) := by decide +kernel
theorem dX7_count_12 : decode cX7_count 12 = .ok (.ifCond .eq 15, 3) := by decide +kernel
theorem dX7_count_15 : decode cX7_count 15 = .ok (.aload_n 0, 1) := by decide +kernel
theorem dX7_count_16 : decode cX7_count 16 = .ok (.aload_n 0, 1) := by decide +kernel
theorem dX7_count_17 : decode cX7_count 17 = .ok (.getfield 32, 3) := by decide +kernel
theorem dX7_count_20 : decode cX7_count 20 = .ok (.iload_n 1, 1) := by decide +kernel
theorem dX7_count_21 : decode cX7_count 21 = .ok (.invokevirtual 151, 3) := by decide +kernel
theorem dX7_count_24 : decode cX7_count 24 = .ok (.goto 8, 3) := by decide +kernel
theorem dX7_count_27 : decode cX7_count 27 = .ok (.aload_n 0, 1) := by decide +kernel
theorem dX7_count_28 : decode cX7_count 28 = .ok (.iconst 1, 1) := by decide +kernel
theorem dX7_count_29 : decode cX7_count 29 = .ok (.invokevirtual 129, 3) := by decide +kernel
theorem dX7_count_32 : decode cX7_count 32 = .ok (.ireturn, 1) := by decide +kernel
set_option maxRecDepth 20000 in
theorem ggX7_way_X7_isCell : GoodIn wsX7_way wsX7_isCell := goodIn_r _ [11, 2, 4, 12, 13, 10, 14, 19, 20, 21, 22, 23, 24, 25, 26, 27, 28, 29] (by decide +kernel) (by decide +kernel)
set_option maxRecDepth 20000 in
theorem gX7_way_X7_isCell : GoodIn wsX7_way (wsV RX7 52 RX7 yX7_isCell wsX7_isCell) := goodIn_app (goodIn_of _ (by decide +kernel)) ggX7_way_X7_isCell
set_option maxRecDepth 20000 in
theorem ggX7_way_X7_no : GoodIn wsX7_way wsX7_no := goodIn_r _ [18, 1, 19, 20, 21, 22, 23, 24, 25, 26, 27, 28, 29] (by decide +kernel) (by decide +kernel)
set_option maxRecDepth 20000 in
theorem gX7_way_X7_no : GoodIn wsX7_way (wsV RX7 129 RX7 yX7_no wsX7_no) := goodIn_app (goodIn_of _ (by decide +kernel)) ggX7_way_X7_no
theorem dX7_way_0 : decode cX7_way 0 = .ok (.aload_n 0, 1) := by decide +kernel
theorem dX7_way_1 : decode cX7_way 1 = .ok (.iconst 0, 1) := by decide +kernel
theorem dX7_way_2 : decode cX7_way 2 = .ok (.putfield 45, 3) := by decide +kernel
theorem dX7_way_5 : decode cX7_way 5 = .ok (.aload_n 0, 1) := by decide +kernel
theorem dX7_way_6 : decode cX7_way 6 = .ok (.iload_n 1, 1) := by decide +kernel
theorem dX7_way_7 : decode cX7_way 7 = .ok (.iload_n 2, 1) := by decide +kernel
theorem dX7_way_8 : decode cX7_way 8 = .ok (.invokevirtual 52, 3) := by decide +kernel
theorem dX7_way_11 : decode cX7_way 11 = .ok (.ifCond .eq 13, 3) := by decide +kernel
theorem dX7_way_14 : decode cX7_way 14 = .ok (.aload_n 0, 1) := by decide +kernel
theorem dX7_way_15 : decode cX7_way 15 = .ok (.iload_n 3, 1) := by decide +kernel
theorem dX7_way_16 : decode cX7_way 16 = .ok (.iload 4, 2) := by decide +kernel
theorem dX7_way_18 : decode cX7_way 18 = .ok (.invokevirtual 52, 3) := by decide +kernel
theorem dX7_way_21 : decode cX7_way 21 = .ok (.ifCond .ne 9, 3) := by decide +kernel
theorem dX7_way_24 : decode cX7_way 24 = .ok (.aload_n 0, 1) := by decide +kernel
theorem dX7_way_25 : decode cX7_way 25 = .ok (.iconst 1, 1) := by decide +kernel
theorem dX7_way_26 : decode cX7_way 26 = .ok (.invokevirtual 129, 3) := by decide +kernel
theorem dX7_way_29 : decode cX7_way 29 = .ok (.ireturn, 1) := by decide +kernel
theorem dX7_way_30 : decode cX7_way 30 = .ok (.lconst 1, 1) := by decide +kernel
theorem dX7_way_31 : decode cX7_way 31 = .ok (.aload_n 0, 1) := by decide +kernel
theorem dX7_way_32 : decode cX7_way 32 = .ok (.getfield 9, 3) := by decide +kernel
theorem dX7_way_35 : decode cX7_way 35 = .ok (.iload 4, 2) := by decide +kernel
theorem dX7_way_37 : decode cX7_way 37 = .ok (.imul, 1) := by decide +kernel
theorem dX7_way_38 : decode cX7_way 38 = .ok (.iload_n 3, 1) := by decide +kernel
theorem dX7_way_39 : decode cX7_way 39 = .ok (.iadd, 1) := by decide +kernel
theorem dX7_way_40 : decode cX7_way 40 = .ok (.lshl, 1) := by decide +kernel
theorem dX7_way_41 : decode cX7_way 41 = .ok (.lstore 5, 2) := by decide +kernel
theorem dX7_way_43 : decode cX7_way 43 = .ok (.lconst 1, 1) := by decide +kernel
theorem dX7_way_44 : decode cX7_way 44 = .ok (.aload_n 0, 1) := by decide +kernel
theorem dX7_way_45 : decode cX7_way 45 = .ok (.getfield 9, 3) := by decide +kernel
theorem dX7_way_48 : decode cX7_way 48 = .ok (.iload_n 2, 1) := by decide +kernel
theorem dX7_way_49 : decode cX7_way 49 = .ok (.imul, 1) := by decide +kernel
theorem dX7_way_50 : decode cX7_way 50 = .ok (.iload_n 1, 1) := by decide +kernel
theorem dX7_way_51 : decode cX7_way 51 = .ok (.iadd, 1) := by decide +kernel
theorem dX7_way_52 : decode cX7_way 52 = .ok (.lshl, 1) := by decide +kernel
theorem dX7_way_53 : decode cX7_way 53 = .ok (.lstore 7, 2) := by decide +kernel
theorem dX7_way_55 : decode cX7_way 55 = .ok (.aload_n 0, 1) := by decide +kernel
theorem dX7_way_56 : decode cX7_way 56 = .ok (.getfield 32, 3) := by decide +kernel
theorem dX7_way_59 : decode cX7_way 59 = .ok (.getfield 78, 3) := by decide +kernel
theorem dX7_way_62 : decode cX7_way 62 = .ok (.lload 7, 2) := by decide +kernel
theorem dX7_way_64 : decode cX7_way 64 = .ok (.lload 5, 2) := by decide +kernel
theorem dX7_way_66 : decode cX7_way 66 = .ok (.lor, 1) := by decide +kernel
theorem dX7_way_67 : decode cX7_way 67 = .ok (.land, 1) := by decide +kernel
theorem dX7_way_68 : decode cX7_way 68 = .ok (.lconst 0, 1) := by decide +kernel
theorem dX7_way_69 : decode cX7_way 69 = .ok (.lcmp, 1) := by decide +kernel
theorem dX7_way_70 : decode cX7_way 70 = .ok (.ifCond .eq 5, 3) := by decide +kernel
theorem dX7_way_73 : decode cX7_way 73 = .ok (.iconst (-1), 1) := by decide +kernel
theorem dX7_way_74 : decode cX7_way 74 = .ok (.ireturn, 1) := by decide +kernel
theorem dX7_way_75 : decode cX7_way 75 = .ok (.iconst 0, 1) := by decide +kernel
theorem dX7_way_76 : decode cX7_way 76 = .ok (.istore 9, 2) := by decide +kernel
theorem dX7_way_78 : decode cX7_way 78 = .ok (.lconst 0, 1) := by decide +kernel
theorem dX7_way_79 : decode cX7_way 79 = .ok (.lstore 10, 2) := by decide +kernel
theorem dX7_way_81 : decode cX7_way 81 = .ok (.lload 7, 2) := by decide +kernel
theorem dX7_way_83 : decode cX7_way 83 = .ok (.lload 5, 2) := by decide +kernel
theorem dX7_way_85 : decode cX7_way 85 = .ok (.land, 1) := by decide +kernel
theorem dX7_way_86 : decode cX7_way 86 = .ok (.lconst 0, 1) := by decide +kernel
theorem dX7_way_87 : decode cX7_way 87 = .ok (.lcmp, 1) := by decide +kernel
theorem dX7_way_88 : decode cX7_way 88 = .ok (.ifCond .ne 82, 3) := by decide +kernel
theorem dX7_way_91 : decode cX7_way 91 = .ok (.lload 7, 2) := by decide +kernel
theorem dX7_way_93 : decode cX7_way 93 = .ok (.lload 10, 2) := by decide +kernel
theorem dX7_way_95 : decode cX7_way 95 = .ok (.lcmp, 1) := by decide +kernel
theorem dX7_way_96 : decode cX7_way 96 = .ok (.ifCond .ne 5, 3) := by decide +kernel
theorem dX7_way_99 : decode cX7_way 99 = .ok (.iconst (-1), 1) := by decide +kernel
theorem dX7_way_100 : decode cX7_way 100 = .ok (.ireturn, 1) := by decide +kernel
theorem dX7_way_101 : decode cX7_way 101 = .ok (.lload 7, 2) := by decide +kernel
theorem dX7_way_103 : decode cX7_way 103 = .ok (.lstore 10, 2) := by decide +kernel
theorem dX7_way_105 : decode cX7_way 105 = .ok (.iconst 0, 1) := by decide +kernel
theorem dX7_way_106 : decode cX7_way 106 = .ok (.istore 12, 2) := by decide +kernel
theorem dX7_way_108 : decode cX7_way 108 = .ok (.iload 12, 2) := by decide +kernel
theorem dX7_way_110 : decode cX7_way 110 = .ok (.aload_n 0, 1) := by decide +kernel
theorem dX7_way_111 : decode cX7_way 111 = .ok (.getfield 9, 3) := by decide +kernel
theorem dX7_way_114 : decode cX7_way 114 = .ok (.aload_n 0, 1) := by decide +kernel
theorem dX7_way_115 : decode cX7_way 115 = .ok (.getfield 13, 3) := by decide +kernel
theorem dX7_way_118 : decode cX7_way 118 = .ok (.imul, 1) := by decide +kernel
theorem dX7_way_119 : decode cX7_way 119 = .ok (.if_icmp .ge 45, 3) := by decide +kernel
theorem dX7_way_122 : decode cX7_way 122 = .ok (.lload 10, 2) := by decide +kernel
theorem dX7_way_124 : decode cX7_way 124 = .ok (.iload 12, 2) := by decide +kernel
theorem dX7_way_126 : decode cX7_way 126 = .ok (.lshr, 1) := by decide +kernel
theorem dX7_way_127 : decode cX7_way 127 = .ok (.lconst 1, 1) := by decide +kernel
theorem dX7_way_128 : decode cX7_way 128 = .ok (.land, 1) := by decide +kernel
theorem dX7_way_129 : decode cX7_way 129 = .ok (.lconst 1, 1) := by decide +kernel
theorem dX7_way_130 : decode cX7_way 130 = .ok (.lcmp, 1) := by decide +kernel
theorem dX7_way_131 : decode cX7_way 131 = .ok (.ifCond .ne 27, 3) := by decide +kernel
theorem dX7_way_134 : decode cX7_way 134 = .ok (.lload 7, 2) := by decide +kernel
theorem dX7_way_136 : decode cX7_way 136 = .ok (.aload_n 0, 1) := by decide +kernel
theorem dX7_way_137 : decode cX7_way 137 = .ok (.getfield 26, 3) := by decide +kernel
theorem dX7_way_140 : decode cX7_way 140 = .ok (.iload 12, 2) := by decide +kernel
theorem dX7_way_142 : decode cX7_way 142 = .ok (.laload, 1) := by decide +kernel
theorem dX7_way_143 : decode cX7_way 143 = .ok (.aload_n 0, 1) := by decide +kernel
theorem dX7_way_144 : decode cX7_way 144 = .ok (.getfield 32, 3) := by decide +kernel
theorem dX7_way_147 : decode cX7_way 147 = .ok (.getfield 78, 3) := by decide +kernel
theorem dX7_way_150 : decode cX7_way 150 = .ok (.ldc2_w 97, 3) := by decide +kernel
theorem dX7_way_153 : decode cX7_way 153 = .ok (.lxor, 1) := by decide +kernel
theorem dX7_way_154 : decode cX7_way 154 = .ok (.land, 1) := by decide +kernel
theorem dX7_way_155 : decode cX7_way 155 = .ok (.lor, 1) := by decide +kernel
theorem dX7_way_156 : decode cX7_way 156 = .ok (.lstore 7, 2) := by decide +kernel
theorem dX7_way_158 : decode cX7_way 158 = .ok (.iinc 12 1, 3) := by decide +kernel
theorem dX7_way_161 : decode cX7_way 161 = .ok (.goto (-53), 3) := by decide +kernel
theorem dX7_way_164 : decode cX7_way 164 = .ok (.iinc 9 1, 3) := by decide +kernel
theorem dX7_way_167 : decode cX7_way 167 = .ok (.goto (-86), 3) := by decide +kernel
theorem dX7_way_170 : decode cX7_way 170 = .ok (.iload 9, 2) := by decide +kernel
theorem dX7_way_172 : decode cX7_way 172 = .ok (.ireturn, 1) := by decide +kernel
set_option maxRecDepth 20000 in
theorem ggX7_look_X7_next : GoodIn wsX7_look wsX7_next := goodIn_r _ [7, 8, 9, 10, 11, 12, 6, 13, 14, 15, 16, 17, 18, 19, 20, 21, 22, 23, 24, 25, 26, 27, 28, 29, 30, 31, 32, 33, 34] (by decide +kernel) (by decide +kernel)
set_option maxRecDepth 20000 in
theorem gX7_look_X7_next : GoodIn wsX7_look (wsV RX7 82 RX7 yX7_next wsX7_next) := goodIn_app (goodIn_of _ (by decide +kernel)) ggX7_look_X7_next
theorem dX7_look_0 : decode cX7_look 0 = .ok (.aload_n 0, 1) := by decide +kernel
theorem dX7_look_1 : decode cX7_look 1 = .ok (.getfield 39, 3) := by decide +kernel
theorem dX7_look_4 : decode cX7_look 4 = .ok (.iconst 0, 1) := by decide +kernel
theorem dX7_look_5 : decode cX7_look 5 = .ok (.aload_n 0, 1) := by decide +kernel
theorem dX7_look_6 : decode cX7_look 6 = .ok (.getfield 32, 3) := by decide +kernel
theorem dX7_look_9 : decode cX7_look 9 = .ok (.getfield 78, 3) := by decide +kernel
theorem dX7_look_12 : decode cX7_look 12 = .ok (.lastore, 1) := by decide +kernel
theorem dX7_look_13 : decode cX7_look 13 = .ok (.iconst 1, 1) := by decide +kernel
theorem dX7_look_14 : decode cX7_look 14 = .ok (.istore_n 2, 1) := by decide +kernel
theorem dX7_look_15 : decode cX7_look 15 = .ok (.iload_n 2, 1) := by decide +kernel
theorem dX7_look_16 : decode cX7_look 16 = .ok (.iload_n 1, 1) := by decide +kernel
theorem dX7_look_17 : decode cX7_look 17 = .ok (.if_icmp .gt 27, 3) := by decide +kernel
theorem dX7_look_20 : decode cX7_look 20 = .ok (.aload_n 0, 1) := by decide +kernel
theorem dX7_look_21 : decode cX7_look 21 = .ok (.getfield 39, 3) := by decide +kernel
theorem dX7_look_24 : decode cX7_look 24 = .ok (.iload_n 2, 1) := by decide +kernel
theorem dX7_look_25 : decode cX7_look 25 = .ok (.aload_n 0, 1) := by decide +kernel
theorem dX7_look_26 : decode cX7_look 26 = .ok (.aload_n 0, 1) := by decide +kernel
theorem dX7_look_27 : decode cX7_look 27 = .ok (.getfield 39, 3) := by decide +kernel
theorem dX7_look_30 : decode cX7_look 30 = .ok (.iload_n 2, 1) := by decide +kernel
theorem dX7_look_31 : decode cX7_look 31 = .ok (.iconst 1, 1) := by decide +kernel
theorem dX7_look_32 : decode cX7_look 32 = .ok (.isub, 1) := by decide +kernel
theorem dX7_look_33 : decode cX7_look 33 = .ok (.laload, 1) := by decide +kernel
theorem dX7_look_34 : decode cX7_look 34 = .ok (.invokevirtual 82, 3) := by decide +kernel
theorem dX7_look_37 : decode cX7_look 37 = .ok (.lastore, 1) := by decide +kernel
theorem dX7_look_38 : decode cX7_look 38 = .ok (.iinc 2 1, 3) := by decide +kernel
theorem dX7_look_41 : decode cX7_look 41 = .ok (.goto (-26), 3) := by decide +kernel
theorem dX7_look_44 : decode cX7_look 44 = .ok (.return_, 1) := by decide +kernel
set_option maxRecDepth 20000 in
theorem ggX7_period_X7_isIn : GoodIn wsX7_period wsX7_isIn := goodIn_r _ [6] (by decide +kernel) (by decide +kernel)
set_option maxRecDepth 20000 in
theorem gX7_period_X7_isIn : GoodIn wsX7_period (va_wsS RX7 48 yX7_isIn wsX7_isIn) := goodIn_app (goodIn_of _ (by decide +kernel)) ggX7_period_X7_isIn
set_option maxRecDepth 20000 in
theorem ggX7_period_X7_no : GoodIn wsX7_period wsX7_no := goodIn_r _ [10, 1, 36, 37, 38, 39, 40, 41, 42, 43, 44, 45, 46] (by decide +kernel) (by decide +kernel)
set_option maxRecDepth 20000 in
theorem gX7_period_X7_no : GoodIn wsX7_period (wsV RX7 129 RX7 yX7_no wsX7_no) := goodIn_app (goodIn_of _ (by decide +kernel)) ggX7_period_X7_no
set_option maxRecDepth 20000 in
theorem ggX7_period_X7_look : GoodIn wsX7_period wsX7_look := goodIn_r _ [14, 2, 15, 16, 17, 18, 5, 19, 20, 21, 22, 23, 24, 25, 26, 27, 28, 29, 30, 31, 32, 33, 34, 35, 36, 37, 38, 39, 40, 41, 42, 43, 44, 45, 46, 47, 48, 49, 50, 51] (by decide +kernel) (by decide +kernel)
set_option maxRecDepth 20000 in
theorem gX7_period_X7_look : GoodIn wsX7_period (wsV RX7 154 RX7 yX7_look wsX7_look) := goodIn_app (goodIn_of _ (by decide +kernel)) ggX7_period_X7_look
theorem dX7_period_0 : decode cX7_period 0 = .ok (.aload_n 0, 1) := by decide +kernel
theorem dX7_period_1 : decode cX7_period 1 = .ok (.iconst 0, 1) := by decide +kernel
theorem dX7_period_2 : decode cX7_period 2 = .ok (.putfield 45, 3) := by decide +kernel
theorem dX7_period_5 : decode cX7_period 5 = .ok (.iload_n 1, 1) := by decide +kernel
theorem dX7_period_6 : decode cX7_period 6 = .ok (.iconst 0, 1) := by decide +kernel
theorem dX7_period_7 : decode cX7_period 7 = .ok (.iconst 1, 1) := by decide +kernel
theorem dX7_period_8 : decode cX7_period 8 = .ok (.invokestatic 48, 3) := by decide +kernel
theorem dX7_period_11 : decode cX7_period 11 = .ok (.ifCond .ne 9, 3) := by decide +kernel
theorem dX7_period_14 : decode cX7_period 14 = .ok (.aload_n 0, 1) := by decide +kernel
theorem dX7_period_15 : decode cX7_period 15 = .ok (.iconst 1, 1) := by decide +kernel
theorem dX7_period_16 : decode cX7_period 16 = .ok (.invokevirtual 129, 3) := by decide +kernel
theorem dX7_period_19 : decode cX7_period 19 = .ok (.ireturn, 1) := by decide +kernel
theorem dX7_period_20 : decode cX7_period 20 = .ok (.aload_n 0, 1) := by decide +kernel
theorem dX7_period_21 : decode cX7_period 21 = .ok (.bipush 60, 2) := by decide +kernel
theorem dX7_period_23 : decode cX7_period 23 = .ok (.invokevirtual 154, 3) := by decide +kernel
theorem dX7_period_26 : decode cX7_period 26 = .ok (.iconst 0, 1) := by decide +kernel
theorem dX7_period_27 : decode cX7_period 27 = .ok (.istore_n 2, 1) := by decide +kernel
theorem dX7_period_28 : decode cX7_period 28 = .ok (.iload_n 2, 1) := by decide +kernel
theorem dX7_period_29 : decode cX7_period 29 = .ok (.bipush 60, 2) := by decide +kernel
theorem dX7_period_31 : decode cX7_period 31 = .ok (.if_icmp .ge 53, 3) := by decide +kernel
theorem dX7_period_34 : decode cX7_period 34 = .ok (.iload_n 2, 1) := by decide +kernel
theorem dX7_period_35 : decode cX7_period 35 = .ok (.iconst 1, 1) := by decide +kernel
theorem dX7_period_36 : decode cX7_period 36 = .ok (.iadd, 1) := by decide +kernel
theorem dX7_period_37 : decode cX7_period 37 = .ok (.istore_n 3, 1) := by decide +kernel
theorem dX7_period_38 : decode cX7_period 38 = .ok (.iload_n 3, 1) := by decide +kernel
theorem dX7_period_39 : decode cX7_period 39 = .ok (.bipush 60, 2) := by decide +kernel
theorem dX7_period_41 : decode cX7_period 41 = .ok (.if_icmp .gt 37, 3) := by decide +kernel
theorem dX7_period_44 : decode cX7_period 44 = .ok (.aload_n 0, 1) := by decide +kernel
theorem dX7_period_45 : decode cX7_period 45 = .ok (.getfield 39, 3) := by decide +kernel
theorem dX7_period_48 : decode cX7_period 48 = .ok (.iload_n 2, 1) := by decide +kernel
theorem dX7_period_49 : decode cX7_period 49 = .ok (.laload, 1) := by decide +kernel
theorem dX7_period_50 : decode cX7_period 50 = .ok (.aload_n 0, 1) := by decide +kernel
theorem dX7_period_51 : decode cX7_period 51 = .ok (.getfield 39, 3) := by decide +kernel
theorem dX7_period_54 : decode cX7_period 54 = .ok (.iload_n 3, 1) := by decide +kernel
theorem dX7_period_55 : decode cX7_period 55 = .ok (.laload, 1) := by decide +kernel
theorem dX7_period_56 : decode cX7_period 56 = .ok (.lcmp, 1) := by decide +kernel
theorem dX7_period_57 : decode cX7_period 57 = .ok (.ifCond .ne 15, 3) := by decide +kernel
theorem dX7_period_60 : decode cX7_period 60 = .ok (.iload_n 1, 1) := by decide +kernel
theorem dX7_period_61 : decode cX7_period 61 = .ok (.ifCond .ne 7, 3) := by decide +kernel
theorem dX7_period_64 : decode cX7_period 64 = .ok (.iload_n 2, 1) := by decide +kernel
theorem dX7_period_65 : decode cX7_period 65 = .ok (.goto 6, 3) := by decide +kernel
theorem dX7_period_68 : decode cX7_period 68 = .ok (.iload_n 3, 1) := by decide +kernel
theorem dX7_period_69 : decode cX7_period 69 = .ok (.iload_n 2, 1) := by decide +kernel
theorem dX7_period_70 : decode cX7_period 70 = .ok (.isub, 1) := by decide +kernel
theorem dX7_period_71 : decode cX7_period 71 = .ok (.ireturn, 1) := by decide +kernel
theorem dX7_period_72 : decode cX7_period 72 = .ok (.iinc 3 1, 3) := by decide +kernel
theorem dX7_period_75 : decode cX7_period 75 = .ok (.goto (-37), 3) := by decide +kernel
theorem dX7_period_78 : decode cX7_period 78 = .ok (.iinc 2 1, 3) := by decide +kernel
theorem dX7_period_81 : decode cX7_period 81 = .ok (.goto (-53), 3) := by decide +kernel
theorem dX7_period_84 : decode cX7_period 84 = .ok (.iconst (-1), 1) := by decide +kernel
theorem dX7_period_85 : decode cX7_period 85 = .ok (.ireturn, 1) := by decide +kernel
theorem dX7_moved_0 : decode cX7_moved 0 = .ok (.lconst 0, 1) := by decide +kernel
theorem dX7_moved_1 : decode cX7_moved 1 = .ok (.lstore 5, 2) := by decide +kernel
theorem dX7_moved_3 : decode cX7_moved 3 = .ok (.iconst 0, 1) := by decide +kernel
theorem dX7_moved_4 : decode cX7_moved 4 = .ok (.istore 7, 2) := by decide +kernel
theorem dX7_moved_6 : decode cX7_moved 6 = .ok (.iload 7, 2) := by decide +kernel
theorem dX7_moved_8 : decode cX7_moved 8 = .ok (.aload_n 0, 1) := by decide +kernel
theorem dX7_moved_9 : decode cX7_moved 9 = .ok (.getfield 9, 3) := by decide +kernel
theorem dX7_moved_12 : decode cX7_moved 12 = .ok (.aload_n 0, 1) := by decide +kernel
theorem dX7_moved_13 : decode cX7_moved 13 = .ok (.getfield 13, 3) := by decide +kernel
theorem dX7_moved_16 : decode cX7_moved 16 = .ok (.imul, 1) := by decide +kernel
theorem dX7_moved_17 : decode cX7_moved 17 = .ok (.if_icmp .ge 62, 3) := by decide +kernel
theorem dX7_moved_20 : decode cX7_moved 20 = .ok (.lload_n 1, 1) := by decide +kernel
theorem dX7_moved_21 : decode cX7_moved 21 = .ok (.iload 7, 2) := by decide +kernel
theorem dX7_moved_23 : decode cX7_moved 23 = .ok (.lshr, 1) := by decide +kernel
theorem dX7_moved_24 : decode cX7_moved 24 = .ok (.lconst 1, 1) := by decide +kernel
theorem dX7_moved_25 : decode cX7_moved 25 = .ok (.land, 1) := by decide +kernel
theorem dX7_moved_26 : decode cX7_moved 26 = .ok (.lconst 1, 1) := by decide +kernel
theorem dX7_moved_27 : decode cX7_moved 27 = .ok (.lcmp, 1) := by decide +kernel
theorem dX7_moved_28 : decode cX7_moved 28 = .ok (.ifCond .ne 45, 3) := by decide +kernel
theorem dX7_moved_31 : decode cX7_moved 31 = .ok (.lload 5, 2) := by decide +kernel
theorem dX7_moved_33 : decode cX7_moved 33 = .ok (.lconst 1, 1) := by decide +kernel
theorem dX7_moved_34 : decode cX7_moved 34 = .ok (.aload_n 0, 1) := by decide +kernel
theorem dX7_moved_35 : decode cX7_moved 35 = .ok (.getfield 9, 3) := by decide +kernel
theorem dX7_moved_38 : decode cX7_moved 38 = .ok (.iload 7, 2) := by decide +kernel
theorem dX7_moved_40 : decode cX7_moved 40 = .ok (.aload_n 0, 1) := by decide +kernel
theorem dX7_moved_41 : decode cX7_moved 41 = .ok (.getfield 9, 3) := by decide +kernel
theorem dX7_moved_44 : decode cX7_moved 44 = .ok (.idiv, 1) := by decide +kernel
theorem dX7_moved_45 : decode cX7_moved 45 = .ok (.iload 4, 2) := by decide +kernel
theorem dX7_moved_47 : decode cX7_moved 47 = .ok (.iadd, 1) := by decide +kernel
theorem dX7_moved_48 : decode cX7_moved 48 = .ok (.aload_n 0, 1) := by decide +kernel
theorem dX7_moved_49 : decode cX7_moved 49 = .ok (.getfield 13, 3) := by decide +kernel
theorem dX7_moved_52 : decode cX7_moved 52 = .ok (.irem, 1) := by decide +kernel
theorem dX7_moved_53 : decode cX7_moved 53 = .ok (.imul, 1) := by decide +kernel
theorem dX7_moved_54 : decode cX7_moved 54 = .ok (.iload 7, 2) := by decide +kernel
theorem dX7_moved_56 : decode cX7_moved 56 = .ok (.aload_n 0, 1) := by decide +kernel
theorem dX7_moved_57 : decode cX7_moved 57 = .ok (.getfield 9, 3) := by decide +kernel
theorem dX7_moved_60 : decode cX7_moved 60 = .ok (.irem, 1) := by decide +kernel
theorem dX7_moved_61 : decode cX7_moved 61 = .ok (.iload_n 3, 1) := by decide +kernel
theorem dX7_moved_62 : decode cX7_moved 62 = .ok (.iadd, 1) := by decide +kernel
theorem dX7_moved_63 : decode cX7_moved 63 = .ok (.aload_n 0, 1) := by decide +kernel
theorem dX7_moved_64 : decode cX7_moved 64 = .ok (.getfield 9, 3) := by decide +kernel
theorem dX7_moved_67 : decode cX7_moved 67 = .ok (.irem, 1) := by decide +kernel
theorem dX7_moved_68 : decode cX7_moved 68 = .ok (.iadd, 1) := by decide +kernel
theorem dX7_moved_69 : decode cX7_moved 69 = .ok (.lshl, 1) := by decide +kernel
theorem dX7_moved_70 : decode cX7_moved 70 = .ok (.lor, 1) := by decide +kernel
theorem dX7_moved_71 : decode cX7_moved 71 = .ok (.lstore 5, 2) := by decide +kernel
theorem dX7_moved_73 : decode cX7_moved 73 = .ok (.iinc 7 1, 3) := by decide +kernel
theorem dX7_moved_76 : decode cX7_moved 76 = .ok (.goto (-70), 3) := by decide +kernel
theorem dX7_moved_79 : decode cX7_moved 79 = .ok (.lload 5, 2) := by decide +kernel
theorem dX7_moved_81 : decode cX7_moved 81 = .ok (.lreturn, 1) := by decide +kernel
set_option maxRecDepth 20000 in
theorem ggX7_glides_X7_isIn : GoodIn wsX7_glides wsX7_isIn := goodIn_r _ [10] (by decide +kernel) (by decide +kernel)
set_option maxRecDepth 20000 in
theorem gX7_glides_X7_isIn : GoodIn wsX7_glides (va_wsS RX7 48 yX7_isIn wsX7_isIn) := goodIn_app (goodIn_of _ (by decide +kernel)) ggX7_glides_X7_isIn
set_option maxRecDepth 20000 in
theorem ggX7_glides_X7_no : GoodIn wsX7_glides wsX7_no := goodIn_r _ [14, 1, 41, 42, 43, 44, 45, 46, 47, 48, 49, 50, 51] (by decide +kernel) (by decide +kernel)
set_option maxRecDepth 20000 in
theorem gX7_glides_X7_no : GoodIn wsX7_glides (wsV RX7 129 RX7 yX7_no wsX7_no) := goodIn_app (goodIn_of _ (by decide +kernel)) ggX7_glides_X7_no
set_option maxRecDepth 20000 in
theorem ggX7_glides_X7_look : GoodIn wsX7_glides wsX7_look := goodIn_r _ [18, 6, 3, 19, 20, 21, 9, 22, 4, 5, 23, 24, 25, 26, 27, 28, 29, 30, 31, 32, 33, 34, 35, 36, 41, 42, 43, 44, 45, 46, 47, 48, 49, 50, 51, 52, 53, 54, 55, 56] (by decide +kernel) (by decide +kernel)
set_option maxRecDepth 20000 in
theorem gX7_glides_X7_look : GoodIn wsX7_glides (wsV RX7 154 RX7 yX7_look wsX7_look) := goodIn_app (goodIn_of _ (by decide +kernel)) ggX7_glides_X7_look
set_option maxRecDepth 20000 in
theorem ggX7_glides_X7_moved : GoodIn wsX7_glides wsX7_moved := goodIn_r _ [40, 4, 5, 41, 42, 43, 44, 45, 46, 47, 48, 49, 50, 51] (by decide +kernel) (by decide +kernel)
set_option maxRecDepth 20000 in
theorem gX7_glides_X7_moved : GoodIn wsX7_glides (wsV RX7 157 RX7 yX7_moved wsX7_moved) := goodIn_app (goodIn_of _ (by decide +kernel)) ggX7_glides_X7_moved
theorem dX7_glides_0 : decode cX7_glides 0 = .ok (.aload_n 0, 1) := by decide +kernel
theorem dX7_glides_1 : decode cX7_glides 1 = .ok (.iconst 0, 1) := by decide +kernel
theorem dX7_glides_2 : decode cX7_glides 2 = .ok (.putfield 45, 3) := by decide +kernel
theorem dX7_glides_5 : decode cX7_glides 5 = .ok (.iload_n 1, 1) := by decide +kernel
theorem dX7_glides_6 : decode cX7_glides 6 = .ok (.iconst 0, 1) := by decide +kernel
theorem dX7_glides_7 : decode cX7_glides 7 = .ok (.iconst 2, 1) := by decide +kernel
theorem dX7_glides_8 : decode cX7_glides 8 = .ok (.invokestatic 48, 3) := by decide +kernel
theorem dX7_glides_11 : decode cX7_glides 11 = .ok (.ifCond .ne 9, 3) := by decide +kernel
theorem dX7_glides_14 : decode cX7_glides 14 = .ok (.aload_n 0, 1) := by decide +kernel
theorem dX7_glides_15 : decode cX7_glides 15 = .ok (.iconst 1, 1) := by decide +kernel
theorem dX7_glides_16 : decode cX7_glides 16 = .ok (.invokevirtual 129, 3) := by decide +kernel
theorem dX7_glides_19 : decode cX7_glides 19 = .ok (.ireturn, 1) := by decide +kernel
theorem dX7_glides_20 : decode cX7_glides 20 = .ok (.aload_n 0, 1) := by decide +kernel
theorem dX7_glides_21 : decode cX7_glides 21 = .ok (.getfield 56, 3) := by decide +kernel
theorem dX7_glides_24 : decode cX7_glides 24 = .ok (.ifCond .eq 15, 3) := by decide +kernel
theorem dX7_glides_27 : decode cX7_glides 27 = .ok (.aload_n 0, 1) := by decide +kernel
theorem dX7_glides_28 : decode cX7_glides 28 = .ok (.getfield 32, 3) := by decide +kernel
theorem dX7_glides_31 : decode cX7_glides 31 = .ok (.getfield 78, 3) := by decide +kernel
theorem dX7_glides_34 : decode cX7_glides 34 = .ok (.lconst 0, 1) := by decide +kernel
theorem dX7_glides_35 : decode cX7_glides 35 = .ok (.lcmp, 1) := by decide +kernel
theorem dX7_glides_36 : decode cX7_glides 36 = .ok (.ifCond .ne 5, 3) := by decide +kernel
theorem dX7_glides_39 : decode cX7_glides 39 = .ok (.iconst (-1), 1) := by decide +kernel
theorem dX7_glides_40 : decode cX7_glides 40 = .ok (.ireturn, 1) := by decide +kernel
theorem dX7_glides_41 : decode cX7_glides 41 = .ok (.aload_n 0, 1) := by decide +kernel
theorem dX7_glides_42 : decode cX7_glides 42 = .ok (.bipush 30, 2) := by decide +kernel
theorem dX7_glides_44 : decode cX7_glides 44 = .ok (.invokevirtual 154, 3) := by decide +kernel
theorem dX7_glides_47 : decode cX7_glides 47 = .ok (.iconst 1, 1) := by decide +kernel
theorem dX7_glides_48 : decode cX7_glides 48 = .ok (.istore_n 2, 1) := by decide +kernel
theorem dX7_glides_49 : decode cX7_glides 49 = .ok (.iload_n 2, 1) := by decide +kernel
theorem dX7_glides_50 : decode cX7_glides 50 = .ok (.bipush 30, 2) := by decide +kernel
theorem dX7_glides_52 : decode cX7_glides 52 = .ok (.if_icmp .gt 91, 3) := by decide +kernel
theorem dX7_glides_55 : decode cX7_glides 55 = .ok (.iconst 1, 1) := by decide +kernel
theorem dX7_glides_56 : decode cX7_glides 56 = .ok (.istore_n 3, 1) := by decide +kernel
theorem dX7_glides_57 : decode cX7_glides 57 = .ok (.iload_n 3, 1) := by decide +kernel
theorem dX7_glides_58 : decode cX7_glides 58 = .ok (.aload_n 0, 1) := by decide +kernel
theorem dX7_glides_59 : decode cX7_glides 59 = .ok (.getfield 9, 3) := by decide +kernel
theorem dX7_glides_62 : decode cX7_glides 62 = .ok (.aload_n 0, 1) := by decide +kernel
theorem dX7_glides_63 : decode cX7_glides 63 = .ok (.getfield 13, 3) := by decide +kernel
theorem dX7_glides_66 : decode cX7_glides 66 = .ok (.imul, 1) := by decide +kernel
theorem dX7_glides_67 : decode cX7_glides 67 = .ok (.if_icmp .ge 70, 3) := by decide +kernel
theorem dX7_glides_70 : decode cX7_glides 70 = .ok (.aload_n 0, 1) := by decide +kernel
theorem dX7_glides_71 : decode cX7_glides 71 = .ok (.getfield 39, 3) := by decide +kernel
theorem dX7_glides_74 : decode cX7_glides 74 = .ok (.iload_n 2, 1) := by decide +kernel
theorem dX7_glides_75 : decode cX7_glides 75 = .ok (.laload, 1) := by decide +kernel
theorem dX7_glides_76 : decode cX7_glides 76 = .ok (.aload_n 0, 1) := by decide +kernel
theorem dX7_glides_77 : decode cX7_glides 77 = .ok (.aload_n 0, 1) := by decide +kernel
theorem dX7_glides_78 : decode cX7_glides 78 = .ok (.getfield 39, 3) := by decide +kernel
theorem dX7_glides_81 : decode cX7_glides 81 = .ok (.iconst 0, 1) := by decide +kernel
theorem dX7_glides_82 : decode cX7_glides 82 = .ok (.laload, 1) := by decide +kernel
theorem dX7_glides_83 : decode cX7_glides 83 = .ok (.iload_n 3, 1) := by decide +kernel
theorem dX7_glides_84 : decode cX7_glides 84 = .ok (.aload_n 0, 1) := by decide +kernel
theorem dX7_glides_85 : decode cX7_glides 85 = .ok (.getfield 9, 3) := by decide +kernel
theorem dX7_glides_88 : decode cX7_glides 88 = .ok (.irem, 1) := by decide +kernel
theorem dX7_glides_89 : decode cX7_glides 89 = .ok (.iload_n 3, 1) := by decide +kernel
theorem dX7_glides_90 : decode cX7_glides 90 = .ok (.aload_n 0, 1) := by decide +kernel
theorem dX7_glides_91 : decode cX7_glides 91 = .ok (.getfield 9, 3) := by decide +kernel
theorem dX7_glides_94 : decode cX7_glides 94 = .ok (.idiv, 1) := by decide +kernel
theorem dX7_glides_95 : decode cX7_glides 95 = .ok (.invokevirtual 157, 3) := by decide +kernel
theorem dX7_glides_98 : decode cX7_glides 98 = .ok (.lcmp, 1) := by decide +kernel
theorem dX7_glides_99 : decode cX7_glides 99 = .ok (.ifCond .ne 32, 3) := by decide +kernel
theorem dX7_glides_102 : decode cX7_glides 102 = .ok (.iload_n 1, 1) := by decide +kernel
theorem dX7_glides_103 : decode cX7_glides 103 = .ok (.ifCond .ne 7, 3) := by decide +kernel
theorem dX7_glides_106 : decode cX7_glides 106 = .ok (.iload_n 2, 1) := by decide +kernel
theorem dX7_glides_107 : decode cX7_glides 107 = .ok (.goto 23, 3) := by decide +kernel
theorem dX7_glides_110 : decode cX7_glides 110 = .ok (.iload_n 1, 1) := by decide +kernel
theorem dX7_glides_111 : decode cX7_glides 111 = .ok (.iconst 1, 1) := by decide +kernel
theorem dX7_glides_112 : decode cX7_glides 112 = .ok (.if_icmp .ne 12, 3) := by decide +kernel
theorem dX7_glides_115 : decode cX7_glides 115 = .ok (.iload_n 3, 1) := by decide +kernel
theorem dX7_glides_116 : decode cX7_glides 116 = .ok (.aload_n 0, 1) := by decide +kernel
theorem dX7_glides_117 : decode cX7_glides 117 = .ok (.getfield 9, 3) := by decide +kernel
theorem dX7_glides_120 : decode cX7_glides 120 = .ok (.irem, 1) := by decide +kernel
theorem dX7_glides_121 : decode cX7_glides 121 = .ok (.goto 9, 3) := by decide +kernel
theorem dX7_glides_124 : decode cX7_glides 124 = .ok (.iload_n 3, 1) := by decide +kernel
theorem dX7_glides_125 : decode cX7_glides 125 = .ok (.aload_n 0, 1) := by decide +kernel
theorem dX7_glides_126 : decode cX7_glides 126 = .ok (.getfield 9, 3) := by decide +kernel
theorem dX7_glides_129 : decode cX7_glides 129 = .ok (.idiv, 1) := by decide +kernel
theorem dX7_glides_130 : decode cX7_glides 130 = .ok (.ireturn, 1) := by decide +kernel
theorem dX7_glides_131 : decode cX7_glides 131 = .ok (.iinc 3 1, 3) := by decide +kernel
theorem dX7_glides_134 : decode cX7_glides 134 = .ok (.goto (-77), 3) := by decide +kernel
theorem dX7_glides_137 : decode cX7_glides 137 = .ok (.iinc 2 1, 3) := by decide +kernel
theorem dX7_glides_140 : decode cX7_glides 140 = .ok (.goto (-91), 3) := by decide +kernel
theorem dX7_glides_143 : decode cX7_glides 143 = .ok (.iconst (-1), 1) := by decide +kernel
theorem dX7_glides_144 : decode cX7_glides 144 = .ok (.ireturn, 1) := by decide +kernel
set_option maxRecDepth 20000 in
theorem ggX7_foresee_X7_isIn : GoodIn wsX7_foresee wsX7_isIn := goodIn_r _ [7] (by decide +kernel) (by decide +kernel)
set_option maxRecDepth 20000 in
theorem gX7_foresee_X7_isIn : GoodIn wsX7_foresee (va_wsS RX7 48 yX7_isIn wsX7_isIn) := goodIn_app (goodIn_of _ (by decide +kernel)) ggX7_foresee_X7_isIn
set_option maxRecDepth 20000 in
theorem ggX7_foresee_X7_no : GoodIn wsX7_foresee wsX7_no := goodIn_r _ [11, 1, 89, 90, 91, 92, 93, 94, 95, 96, 97, 98, 99] (by decide +kernel) (by decide +kernel)
set_option maxRecDepth 20000 in
theorem gX7_foresee_X7_no : GoodIn wsX7_foresee (wsV RX7 129 RX7 yX7_no wsX7_no) := goodIn_app (goodIn_of _ (by decide +kernel)) ggX7_foresee_X7_no
set_option maxRecDepth 20000 in
theorem ggX7_foresee_X6_become : GoodIn wsX7_foresee wsX6_become := goodIn_r _ [16, 17, 18, 19, 20, 21, 22, 23, 24, 25, 100, 101, 102, 103, 104] (by decide +kernel) (by decide +kernel)
set_option maxRecDepth 20000 in
theorem gX7_foresee_X6_become : GoodIn wsX7_foresee (wsV RX7 161 RX6 yX6_become wsX6_become) := goodIn_app (goodIn_of _ (by decide +kernel)) ggX7_foresee_X6_become
set_option maxRecDepth 20000 in
theorem ggX7_foresee_X7_pass : GoodIn wsX7_foresee wsX7_pass := goodIn_r _ [29, 30, 31, 32, 33, 34, 35, 6, 36, 37, 38, 39, 40, 41, 42, 43, 44, 45, 46, 47, 48, 49, 50, 51, 52, 53, 15, 54, 20, 100, 101, 102, 103, 104, 89, 90, 91, 92, 93, 94, 95, 96, 97, 98, 99] (by decide +kernel) (by decide +kernel)
set_option maxRecDepth 20000 in
theorem gX7_foresee_X7_pass : GoodIn wsX7_foresee (wsV RX7 144 RX7 yX7_pass wsX7_pass) := goodIn_app (goodIn_of _ (by decide +kernel)) ggX7_foresee_X7_pass
set_option maxRecDepth 20000 in
theorem ggX7_foresee_X7_counted : GoodIn wsX7_foresee wsX7_counted := goodIn_r _ [58, 30, 31, 59, 44, 45, 46, 47, 48, 49, 50, 60, 61, 62, 6, 63, 64, 65, 66, 67, 51, 52, 53, 15, 54, 20, 68, 69, 70, 71, 32, 72, 73, 74, 75, 33, 34, 35, 36, 37, 38, 39, 40, 41, 42, 43, 76, 77, 78, 79, 80, 81, 82, 83, 84, 85, 86, 87, 88, 100, 101, 102, 103, 104, 89, 90, 91, 92, 93, 94, 95, 96, 97, 98, 99] (by decide +kernel) (by decide +kernel)
set_option maxRecDepth 20000 in
theorem gX7_foresee_X7_counted : GoodIn wsX7_foresee (wsV RX7 151 RX7 yX7_counted wsX7_counted) := goodIn_app (goodIn_of _ (by decide +kernel)) ggX7_foresee_X7_counted
theorem dX7_foresee_0 : decode cX7_foresee 0 = .ok (.aload_n 0, 1) := by decide +kernel
theorem dX7_foresee_1 : decode cX7_foresee 1 = .ok (.iconst 0, 1) := by decide +kernel
theorem dX7_foresee_2 : decode cX7_foresee 2 = .ok (.putfield 45, 3) := by decide +kernel
theorem dX7_foresee_5 : decode cX7_foresee 5 = .ok (.iload_n 1, 1) := by decide +kernel
theorem dX7_foresee_6 : decode cX7_foresee 6 = .ok (.iconst 1, 1) := by decide +kernel
theorem dX7_foresee_7 : decode cX7_foresee 7 = .ok (.bipush 50, 2) := by decide +kernel
theorem dX7_foresee_9 : decode cX7_foresee 9 = .ok (.invokestatic 48, 3) := by decide +kernel
theorem dX7_foresee_12 : decode cX7_foresee 12 = .ok (.ifCond .ne 9, 3) := by decide +kernel
theorem dX7_foresee_15 : decode cX7_foresee 15 = .ok (.aload_n 0, 1) := by decide +kernel
theorem dX7_foresee_16 : decode cX7_foresee 16 = .ok (.iconst 1, 1) := by decide +kernel
theorem dX7_foresee_17 : decode cX7_foresee 17 = .ok (.invokevirtual 129, 3) := by decide +kernel
theorem dX7_foresee_20 : decode cX7_foresee 20 = .ok (.ireturn, 1) := by decide +kernel
theorem dX7_foresee_21 : decode cX7_foresee 21 = .ok (.iload_n 2, 1) := by decide +kernel
theorem dX7_foresee_22 : decode cX7_foresee 22 = .ok (.iconst 3, 1) := by decide +kernel
theorem dX7_foresee_23 : decode cX7_foresee 23 = .ok (.bipush 10, 2) := by decide +kernel
theorem dX7_foresee_25 : decode cX7_foresee 25 = .ok (.invokestatic 48, 3) := by decide +kernel
theorem dX7_foresee_28 : decode cX7_foresee 28 = .ok (.ifCond .eq 9, 3) := by decide +kernel
theorem dX7_foresee_31 : decode cX7_foresee 31 = .ok (.iload_n 2, 1) := by decide +kernel
theorem dX7_foresee_32 : decode cX7_foresee 32 = .ok (.bipush 6, 2) := by decide +kernel
theorem dX7_foresee_34 : decode cX7_foresee 34 = .ok (.if_icmp .ne 9, 3) := by decide +kernel
theorem dX7_foresee_37 : decode cX7_foresee 37 = .ok (.aload_n 0, 1) := by decide +kernel
theorem dX7_foresee_38 : decode cX7_foresee 38 = .ok (.iconst 2, 1) := by decide +kernel
theorem dX7_foresee_39 : decode cX7_foresee 39 = .ok (.invokevirtual 129, 3) := by decide +kernel
theorem dX7_foresee_42 : decode cX7_foresee 42 = .ok (.ireturn, 1) := by decide +kernel
theorem dX7_foresee_43 : decode cX7_foresee 43 = .ok (.aload_n 0, 1) := by decide +kernel
theorem dX7_foresee_44 : decode cX7_foresee 44 = .ok (.aload_n 0, 1) := by decide +kernel
theorem dX7_foresee_45 : decode cX7_foresee 45 = .ok (.aload_n 0, 1) := by decide +kernel
theorem dX7_foresee_46 : decode cX7_foresee 46 = .ok (.getfield 36, 3) := by decide +kernel
theorem dX7_foresee_49 : decode cX7_foresee 49 = .ok (.aload_n 0, 1) := by decide +kernel
theorem dX7_foresee_50 : decode cX7_foresee 50 = .ok (.getfield 32, 3) := by decide +kernel
theorem dX7_foresee_53 : decode cX7_foresee 53 = .ok (.invokevirtual 161, 3) := by decide +kernel
theorem dX7_foresee_56 : decode cX7_foresee 56 = .ok (.iload_n 1, 1) := by decide +kernel
theorem dX7_foresee_57 : decode cX7_foresee 57 = .ok (.invokevirtual 144, 3) := by decide +kernel
theorem dX7_foresee_60 : decode cX7_foresee 60 = .ok (.iload_n 2, 1) := by decide +kernel
theorem dX7_foresee_61 : decode cX7_foresee 61 = .ok (.invokevirtual 151, 3) := by decide +kernel
theorem dX7_foresee_64 : decode cX7_foresee 64 = .ok (.ireturn, 1) := by decide +kernel
set_option maxRecDepth 20000 in
theorem ggX7_hedgesBehind_X7_next : GoodIn wsX7_hedgesBehind wsX7_next := goodIn_r _ [5, 6, 7, 8, 9, 10, 4, 11, 12, 13, 14, 15, 16, 17, 18, 19, 20, 21, 22, 23, 24, 25, 26, 27, 28, 29, 30, 31, 32] (by decide +kernel) (by decide +kernel)
set_option maxRecDepth 20000 in
theorem gX7_hedgesBehind_X7_next : GoodIn wsX7_hedgesBehind (wsV RX7 82 RX7 yX7_next wsX7_next) := goodIn_app (goodIn_of _ (by decide +kernel)) ggX7_hedgesBehind_X7_next
set_option maxRecDepth 20000 in
theorem ggX7_hedgesBehind_J13_bitCount_95d88 : GoodIn wsX7_hedgesBehind wsJ13_bitCount_95d88 := goodIn_r _ [18, 19, 20, 21] (by decide +kernel) (by decide +kernel)
set_option maxRecDepth 20000 in
theorem gX7_hedgesBehind_J13_bitCount_95d88 : GoodIn wsX7_hedgesBehind (va_wsS RX7 68 yJ13_bitCount_95d88 wsJ13_bitCount_95d88) := goodIn_app (goodIn_of _ (by decide +kernel)) ggX7_hedgesBehind_J13_bitCount_95d88
theorem dX7_hedgesBehind_0 : decode cX7_hedgesBehind 0 = .ok (.iload_n 3, 1) := by decide +kernel
theorem dX7_hedgesBehind_1 : decode cX7_hedgesBehind 1 = .ok (.iconst 1, 1) := by decide +kernel
theorem dX7_hedgesBehind_2 : decode cX7_hedgesBehind 2 = .ok (.if_icmp .ne 11, 3) := by decide +kernel
theorem dX7_hedgesBehind_5 : decode cX7_hedgesBehind 5 = .ok (.aload_n 0, 1) := by decide +kernel
theorem dX7_hedgesBehind_6 : decode cX7_hedgesBehind 6 = .ok (.lload_n 1, 1) := by decide +kernel
theorem dX7_hedgesBehind_7 : decode cX7_hedgesBehind 7 = .ok (.invokevirtual 82, 3) := by decide +kernel
theorem dX7_hedgesBehind_10 : decode cX7_hedgesBehind 10 = .ok (.goto 12, 3) := by decide +kernel
theorem dX7_hedgesBehind_13 : decode cX7_hedgesBehind 13 = .ok (.aload_n 0, 1) := by decide +kernel
theorem dX7_hedgesBehind_14 : decode cX7_hedgesBehind 14 = .ok (.aload_n 0, 1) := by decide +kernel
theorem dX7_hedgesBehind_15 : decode cX7_hedgesBehind 15 = .ok (.lload_n 1, 1) := by decide +kernel
theorem dX7_hedgesBehind_16 : decode cX7_hedgesBehind 16 = .ok (.invokevirtual 82, 3) := by decide +kernel
theorem dX7_hedgesBehind_19 : decode cX7_hedgesBehind 19 = .ok (.invokevirtual 82, 3) := by decide +kernel
theorem dX7_hedgesBehind_22 : decode cX7_hedgesBehind 22 = .ok (.invokestatic 68, 3) := by decide +kernel
theorem dX7_hedgesBehind_25 : decode cX7_hedgesBehind 25 = .ok (.ireturn, 1) := by decide +kernel
set_option maxRecDepth 20000 in
theorem ggX7_advise_X7_isIn : GoodIn wsX7_advise wsX7_isIn := goodIn_r _ [8] (by decide +kernel) (by decide +kernel)
set_option maxRecDepth 20000 in
theorem gX7_advise_X7_isIn : GoodIn wsX7_advise (va_wsS RX7 48 yX7_isIn wsX7_isIn) := goodIn_app (goodIn_of _ (by decide +kernel)) ggX7_advise_X7_isIn
set_option maxRecDepth 20000 in
theorem ggX7_advise_X7_no : GoodIn wsX7_advise wsX7_no := goodIn_r _ [12, 1, 41, 42, 43, 44, 45, 46, 47, 48, 49, 50, 51] (by decide +kernel) (by decide +kernel)
set_option maxRecDepth 20000 in
theorem gX7_advise_X7_no : GoodIn wsX7_advise (wsV RX7 129 RX7 yX7_no wsX7_no) := goodIn_app (goodIn_of _ (by decide +kernel)) ggX7_advise_X7_no
set_option maxRecDepth 20000 in
theorem ggX7_advise_X7_hedgesBehind : GoodIn wsX7_advise wsX7_hedgesBehind := goodIn_r _ [16, 17, 18, 19, 7, 20, 3, 4, 21, 22, 23, 24, 25, 26, 27, 28, 29, 30, 31, 32, 33, 34, 41, 42, 43, 44, 45, 46, 47, 48, 49, 50, 51] (by decide +kernel) (by decide +kernel)
set_option maxRecDepth 20000 in
theorem gX7_advise_X7_hedgesBehind : GoodIn wsX7_advise (wsV RX7 165 RX7 yX7_hedgesBehind wsX7_hedgesBehind) := goodIn_app (goodIn_of _ (by decide +kernel)) ggX7_advise_X7_hedgesBehind
set_option maxRecDepth 20000 in
theorem ggX7_advise_X6_has : GoodIn wsX7_advise wsX6_has := goodIn_r _ [39, 40, 52, 53, 54, 55, 56] (by decide +kernel) (by decide +kernel)
set_option maxRecDepth 20000 in
theorem gX7_advise_X6_has : GoodIn wsX7_advise (wsV RX7 90 RX6 yX6_has wsX6_has) := goodIn_app (goodIn_of _ (by decide +kernel)) ggX7_advise_X6_has
theorem dX7_advise_0 : decode cX7_advise 0 = .ok (.aload_n 0, 1) := by decide +kernel
theorem dX7_advise_1 : decode cX7_advise 1 = .ok (.iconst 0, 1) := by decide +kernel
theorem dX7_advise_2 : decode cX7_advise 2 = .ok (.putfield 45, 3) := by decide +kernel
theorem dX7_advise_5 : decode cX7_advise 5 = .ok (.iload_n 1, 1) := by decide +kernel
theorem dX7_advise_6 : decode cX7_advise 6 = .ok (.iconst 1, 1) := by decide +kernel
theorem dX7_advise_7 : decode cX7_advise 7 = .ok (.iconst 2, 1) := by decide +kernel
theorem dX7_advise_8 : decode cX7_advise 8 = .ok (.invokestatic 48, 3) := by decide +kernel
theorem dX7_advise_11 : decode cX7_advise 11 = .ok (.ifCond .ne 9, 3) := by decide +kernel
theorem dX7_advise_14 : decode cX7_advise 14 = .ok (.aload_n 0, 1) := by decide +kernel
theorem dX7_advise_15 : decode cX7_advise 15 = .ok (.iconst 1, 1) := by decide +kernel
theorem dX7_advise_16 : decode cX7_advise 16 = .ok (.invokevirtual 129, 3) := by decide +kernel
theorem dX7_advise_19 : decode cX7_advise 19 = .ok (.ireturn, 1) := by decide +kernel
theorem dX7_advise_20 : decode cX7_advise 20 = .ok (.iconst (-1), 1) := by decide +kernel
theorem dX7_advise_21 : decode cX7_advise 21 = .ok (.istore_n 2, 1) := by decide +kernel
theorem dX7_advise_22 : decode cX7_advise 22 = .ok (.aload_n 0, 1) := by decide +kernel
theorem dX7_advise_23 : decode cX7_advise 23 = .ok (.aload_n 0, 1) := by decide +kernel
theorem dX7_advise_24 : decode cX7_advise 24 = .ok (.getfield 32, 3) := by decide +kernel
theorem dX7_advise_27 : decode cX7_advise 27 = .ok (.getfield 78, 3) := by decide +kernel
theorem dX7_advise_30 : decode cX7_advise 30 = .ok (.iload_n 1, 1) := by decide +kernel
theorem dX7_advise_31 : decode cX7_advise 31 = .ok (.invokevirtual 165, 3) := by decide +kernel
theorem dX7_advise_34 : decode cX7_advise 34 = .ok (.istore_n 3, 1) := by decide +kernel
theorem dX7_advise_35 : decode cX7_advise 35 = .ok (.iconst 0, 1) := by decide +kernel
theorem dX7_advise_36 : decode cX7_advise 36 = .ok (.istore 4, 2) := by decide +kernel
theorem dX7_advise_38 : decode cX7_advise 38 = .ok (.iload 4, 2) := by decide +kernel
theorem dX7_advise_40 : decode cX7_advise 40 = .ok (.aload_n 0, 1) := by decide +kernel
theorem dX7_advise_41 : decode cX7_advise 41 = .ok (.getfield 9, 3) := by decide +kernel
theorem dX7_advise_44 : decode cX7_advise 44 = .ok (.aload_n 0, 1) := by decide +kernel
theorem dX7_advise_45 : decode cX7_advise 45 = .ok (.getfield 13, 3) := by decide +kernel
theorem dX7_advise_48 : decode cX7_advise 48 = .ok (.imul, 1) := by decide +kernel
theorem dX7_advise_49 : decode cX7_advise 49 = .ok (.if_icmp .ge 58, 3) := by decide +kernel
theorem dX7_advise_52 : decode cX7_advise 52 = .ok (.aload_n 0, 1) := by decide +kernel
theorem dX7_advise_53 : decode cX7_advise 53 = .ok (.getfield 32, 3) := by decide +kernel
theorem dX7_advise_56 : decode cX7_advise 56 = .ok (.iload 4, 2) := by decide +kernel
theorem dX7_advise_58 : decode cX7_advise 58 = .ok (.invokevirtual 90, 3) := by decide +kernel
theorem dX7_advise_61 : decode cX7_advise 61 = .ok (.ifCond .eq 6, 3) := by decide +kernel
theorem dX7_advise_64 : decode cX7_advise 64 = .ok (.goto 37, 3) := by decide +kernel
theorem dX7_advise_67 : decode cX7_advise 67 = .ok (.aload_n 0, 1) := by decide +kernel
theorem dX7_advise_68 : decode cX7_advise 68 = .ok (.aload_n 0, 1) := by decide +kernel
theorem dX7_advise_69 : decode cX7_advise 69 = .ok (.getfield 32, 3) := by decide +kernel
theorem dX7_advise_72 : decode cX7_advise 72 = .ok (.getfield 78, 3) := by decide +kernel
theorem dX7_advise_75 : decode cX7_advise 75 = .ok (.lconst 1, 1) := by decide +kernel
theorem dX7_advise_76 : decode cX7_advise 76 = .ok (.iload 4, 2) := by decide +kernel
theorem dX7_advise_78 : decode cX7_advise 78 = .ok (.lshl, 1) := by decide +kernel
theorem dX7_advise_79 : decode cX7_advise 79 = .ok (.lor, 1) := by decide +kernel
theorem dX7_advise_80 : decode cX7_advise 80 = .ok (.iload_n 1, 1) := by decide +kernel
theorem dX7_advise_81 : decode cX7_advise 81 = .ok (.invokevirtual 165, 3) := by decide +kernel
theorem dX7_advise_84 : decode cX7_advise 84 = .ok (.istore 5, 2) := by decide +kernel
theorem dX7_advise_86 : decode cX7_advise 86 = .ok (.iload 5, 2) := by decide +kernel
theorem dX7_advise_88 : decode cX7_advise 88 = .ok (.iload_n 3, 1) := by decide +kernel
theorem dX7_advise_89 : decode cX7_advise 89 = .ok (.if_icmp .gt 6, 3) := by decide +kernel
theorem dX7_advise_92 : decode cX7_advise 92 = .ok (.goto 9, 3) := by decide +kernel
theorem dX7_advise_95 : decode cX7_advise 95 = .ok (.iload 4, 2) := by decide +kernel
theorem dX7_advise_97 : decode cX7_advise 97 = .ok (.istore_n 2, 1) := by decide +kernel
theorem dX7_advise_98 : decode cX7_advise 98 = .ok (.iload 5, 2) := by decide +kernel
theorem dX7_advise_100 : decode cX7_advise 100 = .ok (.istore_n 3, 1) := by decide +kernel
theorem dX7_advise_101 : decode cX7_advise 101 = .ok (.iinc 4 1, 3) := by decide +kernel
theorem dX7_advise_104 : decode cX7_advise 104 = .ok (.goto (-66), 3) := by decide +kernel
theorem dX7_advise_107 : decode cX7_advise 107 = .ok (.iload_n 2, 1) := by decide +kernel
theorem dX7_advise_108 : decode cX7_advise 108 = .ok (.ireturn, 1) := by decide +kernel
set_option maxRecDepth 20000 in
theorem ggX7_mean_X6_has : GoodIn wsX7_mean wsX6_has := goodIn_r _ [9, 10, 29, 30, 31, 32, 33] (by decide +kernel) (by decide +kernel)
set_option maxRecDepth 20000 in
theorem gX7_mean_X6_has : GoodIn wsX7_mean (wsV RX7 90 RX6 yX6_has wsX6_has) := goodIn_app (goodIn_of _ (by decide +kernel)) ggX7_mean_X6_has
set_option maxRecDepth 20000 in
theorem ggX7_mean_J13_bitCount_95d88 : GoodIn wsX7_mean wsJ13_bitCount_95d88 := goodIn_r _ [14, 15, 16, 17] (by decide +kernel) (by decide +kernel)
set_option maxRecDepth 20000 in
theorem gX7_mean_J13_bitCount_95d88 : GoodIn wsX7_mean (va_wsS RX7 68 yJ13_bitCount_95d88 wsJ13_bitCount_95d88) := goodIn_app (goodIn_of _ (by decide +kernel)) ggX7_mean_J13_bitCount_95d88
theorem dX7_mean_0 : decode cX7_mean 0 = .ok (.aload_n 0, 1) := by decide +kernel
theorem dX7_mean_1 : decode cX7_mean 1 = .ok (.iconst 0, 1) := by decide +kernel
theorem dX7_mean_2 : decode cX7_mean 2 = .ok (.putfield 45, 3) := by decide +kernel
theorem dX7_mean_5 : decode cX7_mean 5 = .ok (.iconst 0, 1) := by decide +kernel
theorem dX7_mean_6 : decode cX7_mean 6 = .ok (.istore_n 1, 1) := by decide +kernel
theorem dX7_mean_7 : decode cX7_mean 7 = .ok (.iconst 0, 1) := by decide +kernel
theorem dX7_mean_8 : decode cX7_mean 8 = .ok (.istore_n 2, 1) := by decide +kernel
theorem dX7_mean_9 : decode cX7_mean 9 = .ok (.iload_n 2, 1) := by decide +kernel
theorem dX7_mean_10 : decode cX7_mean 10 = .ok (.aload_n 0, 1) := by decide +kernel
theorem dX7_mean_11 : decode cX7_mean 11 = .ok (.getfield 9, 3) := by decide +kernel
theorem dX7_mean_14 : decode cX7_mean 14 = .ok (.aload_n 0, 1) := by decide +kernel
theorem dX7_mean_15 : decode cX7_mean 15 = .ok (.getfield 13, 3) := by decide +kernel
theorem dX7_mean_18 : decode cX7_mean 18 = .ok (.imul, 1) := by decide +kernel
theorem dX7_mean_19 : decode cX7_mean 19 = .ok (.if_icmp .ge 36, 3) := by decide +kernel
theorem dX7_mean_22 : decode cX7_mean 22 = .ok (.iload_n 1, 1) := by decide +kernel
theorem dX7_mean_23 : decode cX7_mean 23 = .ok (.aload_n 0, 1) := by decide +kernel
theorem dX7_mean_24 : decode cX7_mean 24 = .ok (.getfield 32, 3) := by decide +kernel
theorem dX7_mean_27 : decode cX7_mean 27 = .ok (.iload_n 2, 1) := by decide +kernel
theorem dX7_mean_28 : decode cX7_mean 28 = .ok (.invokevirtual 90, 3) := by decide +kernel
theorem dX7_mean_31 : decode cX7_mean 31 = .ok (.ifCond .eq 15, 3) := by decide +kernel
theorem dX7_mean_34 : decode cX7_mean 34 = .ok (.aload_n 0, 1) := by decide +kernel
theorem dX7_mean_35 : decode cX7_mean 35 = .ok (.getfield 32, 3) := by decide +kernel
theorem dX7_mean_38 : decode cX7_mean 38 = .ok (.getfield 86, 3) := by decide +kernel
theorem dX7_mean_41 : decode cX7_mean 41 = .ok (.iload_n 2, 1) := by decide +kernel
theorem dX7_mean_42 : decode cX7_mean 42 = .ok (.iaload, 1) := by decide +kernel
theorem dX7_mean_43 : decode cX7_mean 43 = .ok (.goto 4, 3) := by decide +kernel
theorem dX7_mean_46 : decode cX7_mean 46 = .ok (.iconst 0, 1) := by decide +kernel
theorem dX7_mean_47 : decode cX7_mean 47 = .ok (.iadd, 1) := by decide +kernel
theorem dX7_mean_48 : decode cX7_mean 48 = .ok (.istore_n 1, 1) := by decide +kernel
theorem dX7_mean_49 : decode cX7_mean 49 = .ok (.iinc 2 1, 3) := by decide +kernel
theorem dX7_mean_52 : decode cX7_mean 52 = .ok (.goto (-43), 3) := by decide +kernel
theorem dX7_mean_55 : decode cX7_mean 55 = .ok (.aload_n 0, 1) := by decide +kernel
theorem dX7_mean_56 : decode cX7_mean 56 = .ok (.getfield 32, 3) := by decide +kernel
theorem dX7_mean_59 : decode cX7_mean 59 = .ok (.getfield 78, 3) := by decide +kernel
theorem dX7_mean_62 : decode cX7_mean 62 = .ok (.lconst 0, 1) := by decide +kernel
theorem dX7_mean_63 : decode cX7_mean 63 = .ok (.lcmp, 1) := by decide +kernel
theorem dX7_mean_64 : decode cX7_mean 64 = .ok (.ifCond .ne 7, 3) := by decide +kernel
theorem dX7_mean_67 : decode cX7_mean 67 = .ok (.dconst 0, 1) := by decide +kernel
theorem dX7_mean_68 : decode cX7_mean 68 = .ok (.goto 17, 3) := by decide +kernel
theorem dX7_mean_71 : decode cX7_mean 71 = .ok (.iload_n 1, 1) := by decide +kernel
theorem dX7_mean_72 : decode cX7_mean 72 = .ok (.i2d, 1) := by decide +kernel
theorem dX7_mean_73 : decode cX7_mean 73 = .ok (.aload_n 0, 1) := by decide +kernel
theorem dX7_mean_74 : decode cX7_mean 74 = .ok (.getfield 32, 3) := by decide +kernel
theorem dX7_mean_77 : decode cX7_mean 77 = .ok (.getfield 78, 3) := by decide +kernel
theorem dX7_mean_80 : decode cX7_mean 80 = .ok (.invokestatic 68, 3) := by decide +kernel
theorem dX7_mean_83 : decode cX7_mean 83 = .ok (.i2d, 1) := by decide +kernel
theorem dX7_mean_84 : decode cX7_mean 84 = .ok (.ddiv, 1) := by decide +kernel
theorem dX7_mean_85 : decode cX7_mean 85 = .ok (.dreturn, 1) := by decide +kernel
set_option maxRecDepth 20000 in
theorem ggX7_digest_X7_counted : GoodIn wsX7_digest wsX7_counted := goodIn_r _ [13, 7, 8, 14, 15, 16, 17, 18, 19, 20, 21, 22, 23, 24, 12, 25, 26, 27, 28, 29, 30, 31, 32, 33, 34, 35, 36, 37, 38, 39, 40, 41, 42, 43, 44, 45, 46, 47, 48, 49, 50, 51, 52, 53, 6, 5, 54, 55, 56, 57, 58, 59, 60, 61, 62, 63, 64, 65, 66, 82, 83, 84, 85, 86, 71, 72, 73, 74, 75, 76, 77, 78, 79, 80, 81] (by decide +kernel) (by decide +kernel)
set_option maxRecDepth 20000 in
theorem gX7_digest_X7_counted : GoodIn wsX7_digest (wsV RX7 151 RX7 yX7_counted wsX7_counted) := goodIn_app (goodIn_of _ (by decide +kernel)) ggX7_digest_X7_counted
set_option maxRecDepth 20000 in
theorem ggX7_digest_X7_toldOf : GoodIn wsX7_digest wsX7_toldOf := goodIn_r _ [70, 4, 53, 30, 31, 32, 33, 34, 35, 15, 16, 17, 18, 19, 20, 21, 41, 42, 43, 12, 44, 7, 8, 40, 62, 63, 64, 65, 66, 49, 50, 51, 52, 6, 5, 71, 72, 73, 74, 75, 76, 77, 78, 79, 80, 81, 82, 83, 84, 85, 86] (by decide +kernel) (by decide +kernel)
set_option maxRecDepth 20000 in
theorem gX7_digest_X7_toldOf : GoodIn wsX7_digest (wsV RX7 148 RX7 yX7_toldOf wsX7_toldOf) := goodIn_app (goodIn_of _ (by decide +kernel)) ggX7_digest_X7_toldOf
theorem dX7_digest_0 : decode cX7_digest 0 = .ok (.aload_n 0, 1) := by decide +kernel
theorem dX7_digest_1 : decode cX7_digest 1 = .ok (.iconst 0, 1) := by decide +kernel
theorem dX7_digest_2 : decode cX7_digest 2 = .ok (.putfield 45, 3) := by decide +kernel
theorem dX7_digest_5 : decode cX7_digest 5 = .ok (.ldc2_w 169, 3) := by decide +kernel
theorem dX7_digest_8 : decode cX7_digest 8 = .ok (.lstore_n 1, 1) := by decide +kernel
theorem dX7_digest_9 : decode cX7_digest 9 = .ok (.iconst 0, 1) := by decide +kernel
theorem dX7_digest_10 : decode cX7_digest 10 = .ok (.istore_n 3, 1) := by decide +kernel
theorem dX7_digest_11 : decode cX7_digest 11 = .ok (.iload_n 3, 1) := by decide +kernel
theorem dX7_digest_12 : decode cX7_digest 12 = .ok (.bipush 10, 2) := by decide +kernel
theorem dX7_digest_14 : decode cX7_digest 14 = .ok (.if_icmp .gt 26, 3) := by decide +kernel
theorem dX7_digest_17 : decode cX7_digest 17 = .ok (.lload_n 1, 1) := by decide +kernel
theorem dX7_digest_18 : decode cX7_digest 18 = .ok (.ldc2_w 171, 3) := by decide +kernel
theorem dX7_digest_21 : decode cX7_digest 21 = .ok (.lmul, 1) := by decide +kernel
theorem dX7_digest_22 : decode cX7_digest 22 = .ok (.aload_n 0, 1) := by decide +kernel
theorem dX7_digest_23 : decode cX7_digest 23 = .ok (.aload_n 0, 1) := by decide +kernel
theorem dX7_digest_24 : decode cX7_digest 24 = .ok (.getfield 32, 3) := by decide +kernel
theorem dX7_digest_27 : decode cX7_digest 27 = .ok (.iload_n 3, 1) := by decide +kernel
theorem dX7_digest_28 : decode cX7_digest 28 = .ok (.invokevirtual 151, 3) := by decide +kernel
theorem dX7_digest_31 : decode cX7_digest 31 = .ok (.i2l, 1) := by decide +kernel
theorem dX7_digest_32 : decode cX7_digest 32 = .ok (.ladd, 1) := by decide +kernel
theorem dX7_digest_33 : decode cX7_digest 33 = .ok (.lstore_n 1, 1) := by decide +kernel
theorem dX7_digest_34 : decode cX7_digest 34 = .ok (.iinc 3 1, 3) := by decide +kernel
theorem dX7_digest_37 : decode cX7_digest 37 = .ok (.goto (-26), 3) := by decide +kernel
theorem dX7_digest_40 : decode cX7_digest 40 = .ok (.lload_n 1, 1) := by decide +kernel
theorem dX7_digest_41 : decode cX7_digest 41 = .ok (.ldc2_w 171, 3) := by decide +kernel
theorem dX7_digest_44 : decode cX7_digest 44 = .ok (.lmul, 1) := by decide +kernel
theorem dX7_digest_45 : decode cX7_digest 45 = .ok (.aload_n 0, 1) := by decide +kernel
theorem dX7_digest_46 : decode cX7_digest 46 = .ok (.getfield 16, 3) := by decide +kernel
theorem dX7_digest_49 : decode cX7_digest 49 = .ok (.i2l, 1) := by decide +kernel
theorem dX7_digest_50 : decode cX7_digest 50 = .ok (.ladd, 1) := by decide +kernel
theorem dX7_digest_51 : decode cX7_digest 51 = .ok (.ldc2_w 171, 3) := by decide +kernel
theorem dX7_digest_54 : decode cX7_digest 54 = .ok (.lmul, 1) := by decide +kernel
theorem dX7_digest_55 : decode cX7_digest 55 = .ok (.aload_n 0, 1) := by decide +kernel
theorem dX7_digest_56 : decode cX7_digest 56 = .ok (.getfield 19, 3) := by decide +kernel
theorem dX7_digest_59 : decode cX7_digest 59 = .ok (.i2l, 1) := by decide +kernel
theorem dX7_digest_60 : decode cX7_digest 60 = .ok (.ladd, 1) := by decide +kernel
theorem dX7_digest_61 : decode cX7_digest 61 = .ok (.lstore_n 1, 1) := by decide +kernel
theorem dX7_digest_62 : decode cX7_digest 62 = .ok (.iconst 0, 1) := by decide +kernel
theorem dX7_digest_63 : decode cX7_digest 63 = .ok (.istore_n 3, 1) := by decide +kernel
theorem dX7_digest_64 : decode cX7_digest 64 = .ok (.iload_n 3, 1) := by decide +kernel
theorem dX7_digest_65 : decode cX7_digest 65 = .ok (.aload_n 0, 1) := by decide +kernel
theorem dX7_digest_66 : decode cX7_digest 66 = .ok (.getfield 9, 3) := by decide +kernel
theorem dX7_digest_69 : decode cX7_digest 69 = .ok (.aload_n 0, 1) := by decide +kernel
theorem dX7_digest_70 : decode cX7_digest 70 = .ok (.getfield 13, 3) := by decide +kernel
theorem dX7_digest_73 : decode cX7_digest 73 = .ok (.imul, 1) := by decide +kernel
theorem dX7_digest_74 : decode cX7_digest 74 = .ok (.if_icmp .ge 39, 3) := by decide +kernel
theorem dX7_digest_77 : decode cX7_digest 77 = .ok (.iconst 0, 1) := by decide +kernel
theorem dX7_digest_78 : decode cX7_digest 78 = .ok (.istore 4, 2) := by decide +kernel
theorem dX7_digest_80 : decode cX7_digest 80 = .ok (.iload 4, 2) := by decide +kernel
theorem dX7_digest_82 : decode cX7_digest 82 = .ok (.iconst 4, 1) := by decide +kernel
theorem dX7_digest_83 : decode cX7_digest 83 = .ok (.if_icmp .gt 24, 3) := by decide +kernel
theorem dX7_digest_86 : decode cX7_digest 86 = .ok (.lload_n 1, 1) := by decide +kernel
theorem dX7_digest_87 : decode cX7_digest 87 = .ok (.ldc2_w 171, 3) := by decide +kernel
theorem dX7_digest_90 : decode cX7_digest 90 = .ok (.lmul, 1) := by decide +kernel
theorem dX7_digest_91 : decode cX7_digest 91 = .ok (.aload_n 0, 1) := by decide +kernel
theorem dX7_digest_92 : decode cX7_digest 92 = .ok (.iload_n 3, 1) := by decide +kernel
theorem dX7_digest_93 : decode cX7_digest 93 = .ok (.iload 4, 2) := by decide +kernel
theorem dX7_digest_95 : decode cX7_digest 95 = .ok (.invokevirtual 148, 3) := by decide +kernel
theorem dX7_digest_98 : decode cX7_digest 98 = .ok (.i2l, 1) := by decide +kernel
theorem dX7_digest_99 : decode cX7_digest 99 = .ok (.ladd, 1) := by decide +kernel
theorem dX7_digest_100 : decode cX7_digest 100 = .ok (.lstore_n 1, 1) := by decide +kernel
theorem dX7_digest_101 : decode cX7_digest 101 = .ok (.iinc 4 1, 3) := by decide +kernel
theorem dX7_digest_104 : decode cX7_digest 104 = .ok (.goto (-24), 3) := by decide +kernel
theorem dX7_digest_107 : decode cX7_digest 107 = .ok (.iinc 3 1, 3) := by decide +kernel
theorem dX7_digest_110 : decode cX7_digest 110 = .ok (.goto (-46), 3) := by decide +kernel
theorem dX7_digest_113 : decode cX7_digest 113 = .ok (.lload_n 1, 1) := by decide +kernel
theorem dX7_digest_114 : decode cX7_digest 114 = .ok (.lreturn, 1) := by decide +kernel
