theorem dX6_isSame_320 : decode cX6_isSame 320 = .ok (.iconst 1, 1) := by decide +kernel
theorem dX6_isSame_321 : decode cX6_isSame 321 = .ok (.goto 4, 3) := by decide +kernel
theorem dX6_isSame_324 : decode cX6_isSame 324 = .ok (.iconst 0, 1) := by decide +kernel
theorem dX6_isSame_325 : decode cX6_isSame 325 = .ok (.ireturn, 1) := by decide +kernel
theorem dJ13_bitCount_95d88_0 : decode cJ13_bitCount_95d88 0 = .ok (.lload_n 0, 1) := by decide +kernel
theorem dJ13_bitCount_95d88_1 : decode cJ13_bitCount_95d88 1 = .ok (.lload_n 0, 1) := by decide +kernel
theorem dJ13_bitCount_95d88_2 : decode cJ13_bitCount_95d88 2 = .ok (.iconst 1, 1) := by decide +kernel
theorem dJ13_bitCount_95d88_3 : decode cJ13_bitCount_95d88 3 = .ok (.lushr, 1) := by decide +kernel
theorem dJ13_bitCount_95d88_4 : decode cJ13_bitCount_95d88 4 = .ok (.ldc2_w 314, 3) := by decide +kernel
theorem dJ13_bitCount_95d88_7 : decode cJ13_bitCount_95d88 7 = .ok (.land, 1) := by decide +kernel
theorem dJ13_bitCount_95d88_8 : decode cJ13_bitCount_95d88 8 = .ok (.lsub, 1) := by decide +kernel
theorem dJ13_bitCount_95d88_9 : decode cJ13_bitCount_95d88 9 = .ok (.lstore_n 0, 1) := by decide +kernel
theorem dJ13_bitCount_95d88_10 : decode cJ13_bitCount_95d88 10 = .ok (.lload_n 0, 1) := by decide +kernel
theorem dJ13_bitCount_95d88_11 : decode cJ13_bitCount_95d88 11 = .ok (.ldc2_w 316, 3) := by decide +kernel
theorem dJ13_bitCount_95d88_14 : decode cJ13_bitCount_95d88 14 = .ok (.land, 1) := by decide +kernel
theorem dJ13_bitCount_95d88_15 : decode cJ13_bitCount_95d88 15 = .ok (.lload_n 0, 1) := by decide +kernel
theorem dJ13_bitCount_95d88_16 : decode cJ13_bitCount_95d88 16 = .ok (.iconst 2, 1) := by decide +kernel
theorem dJ13_bitCount_95d88_17 : decode cJ13_bitCount_95d88 17 = .ok (.lushr, 1) := by decide +kernel
theorem dJ13_bitCount_95d88_18 : decode cJ13_bitCount_95d88 18 = .ok (.ldc2_w 316, 3) := by decide +kernel
theorem dJ13_bitCount_95d88_21 : decode cJ13_bitCount_95d88 21 = .ok (.land, 1) := by decide +kernel
theorem dJ13_bitCount_95d88_22 : decode cJ13_bitCount_95d88 22 = .ok (.ladd, 1) := by decide +kernel
theorem dJ13_bitCount_95d88_23 : decode cJ13_bitCount_95d88 23 = .ok (.lstore_n 0, 1) := by decide +kernel
theorem dJ13_bitCount_95d88_24 : decode cJ13_bitCount_95d88 24 = .ok (.lload_n 0, 1) := by decide +kernel
theorem dJ13_bitCount_95d88_25 : decode cJ13_bitCount_95d88 25 = .ok (.lload_n 0, 1) := by decide +kernel
theorem dJ13_bitCount_95d88_26 : decode cJ13_bitCount_95d88 26 = .ok (.iconst 4, 1) := by decide +kernel
theorem dJ13_bitCount_95d88_27 : decode cJ13_bitCount_95d88 27 = .ok (.lushr, 1) := by decide +kernel
theorem dJ13_bitCount_95d88_28 : decode cJ13_bitCount_95d88 28 = .ok (.ladd, 1) := by decide +kernel
theorem dJ13_bitCount_95d88_29 : decode cJ13_bitCount_95d88 29 = .ok (.ldc2_w 318, 3) := by decide +kernel
theorem dJ13_bitCount_95d88_32 : decode cJ13_bitCount_95d88 32 = .ok (.land, 1) := by decide +kernel
theorem dJ13_bitCount_95d88_33 : decode cJ13_bitCount_95d88 33 = .ok (.lstore_n 0, 1) := by decide +kernel
theorem dJ13_bitCount_95d88_34 : decode cJ13_bitCount_95d88 34 = .ok (.lload_n 0, 1) := by decide +kernel
theorem dJ13_bitCount_95d88_35 : decode cJ13_bitCount_95d88 35 = .ok (.lload_n 0, 1) := by decide +kernel
theorem dJ13_bitCount_95d88_36 : decode cJ13_bitCount_95d88 36 = .ok (.bipush 8, 2) := by decide +kernel
theorem dJ13_bitCount_95d88_38 : decode cJ13_bitCount_95d88 38 = .ok (.lushr, 1) := by decide +kernel
theorem dJ13_bitCount_95d88_39 : decode cJ13_bitCount_95d88 39 = .ok (.ladd, 1) := by decide +kernel
theorem dJ13_bitCount_95d88_40 : decode cJ13_bitCount_95d88 40 = .ok (.lstore_n 0, 1) := by decide +kernel
theorem dJ13_bitCount_95d88_41 : decode cJ13_bitCount_95d88 41 = .ok (.lload_n 0, 1) := by decide +kernel
theorem dJ13_bitCount_95d88_42 : decode cJ13_bitCount_95d88 42 = .ok (.lload_n 0, 1) := by decide +kernel
theorem dJ13_bitCount_95d88_43 : decode cJ13_bitCount_95d88 43 = .ok (.bipush 16, 2) := by decide +kernel
theorem dJ13_bitCount_95d88_45 : decode cJ13_bitCount_95d88 45 = .ok (.lushr, 1) := by decide +kernel
theorem dJ13_bitCount_95d88_46 : decode cJ13_bitCount_95d88 46 = .ok (.ladd, 1) := by decide +kernel
theorem dJ13_bitCount_95d88_47 : decode cJ13_bitCount_95d88 47 = .ok (.lstore_n 0, 1) := by decide +kernel
theorem dJ13_bitCount_95d88_48 : decode cJ13_bitCount_95d88 48 = .ok (.lload_n 0, 1) := by decide +kernel
theorem dJ13_bitCount_95d88_49 : decode cJ13_bitCount_95d88 49 = .ok (.lload_n 0, 1) := by decide +kernel
theorem dJ13_bitCount_95d88_50 : decode cJ13_bitCount_95d88 50 = .ok (.bipush 32, 2) := by decide +kernel
theorem dJ13_bitCount_95d88_52 : decode cJ13_bitCount_95d88 52 = .ok (.lushr, 1) := by decide +kernel
theorem dJ13_bitCount_95d88_53 : decode cJ13_bitCount_95d88 53 = .ok (.ladd, 1) := by decide +kernel
theorem dJ13_bitCount_95d88_54 : decode cJ13_bitCount_95d88 54 = .ok (.lstore_n 0, 1) := by decide +kernel
theorem dJ13_bitCount_95d88_55 : decode cJ13_bitCount_95d88 55 = .ok (.lload_n 0, 1) := by decide +kernel
theorem dJ13_bitCount_95d88_56 : decode cJ13_bitCount_95d88 56 = .ok (.l2i, 1) := by decide +kernel
theorem dJ13_bitCount_95d88_57 : decode cJ13_bitCount_95d88 57 = .ok (.bipush 127, 2) := by decide +kernel
theorem dJ13_bitCount_95d88_59 : decode cJ13_bitCount_95d88 59 = .ok (.iand, 1) := by decide +kernel
theorem dJ13_bitCount_95d88_60 : decode cJ13_bitCount_95d88 60 = .ok (.ireturn, 1) := by decide +kernel
theorem dJ9_max_7cf53_0 : decode cJ9_max_7cf53 0 = .ok (.iload_n 0, 1) := by decide +kernel
theorem dJ9_max_7cf53_1 : decode cJ9_max_7cf53 1 = .ok (.iload_n 1, 1) := by decide +kernel
theorem dJ9_max_7cf53_2 : decode cJ9_max_7cf53 2 = .ok (.if_icmp .lt 7, 3) := by decide +kernel
theorem dJ9_max_7cf53_5 : decode cJ9_max_7cf53 5 = .ok (.iload_n 0, 1) := by decide +kernel
theorem dJ9_max_7cf53_6 : decode cJ9_max_7cf53 6 = .ok (.goto 4, 3) := by decide +kernel
theorem dJ9_max_7cf53_9 : decode cJ9_max_7cf53 9 = .ok (.iload_n 1, 1) := by decide +kernel
theorem dJ9_max_7cf53_10 : decode cJ9_max_7cf53 10 = .ok (.ireturn, 1) := by decide +kernel
theorem dL_below_0 : decode cL_below 0 = .ok (.iload_n 0, 1) := by decide +kernel
theorem dL_below_1 : decode cL_below 1 = .ok (.ldc 7, 2) := by decide +kernel
theorem dL_below_3 : decode cL_below 3 = .ok (.iand, 1) := by decide +kernel
theorem dL_below_4 : decode cL_below 4 = .ok (.iload_n 1, 1) := by decide +kernel
theorem dL_below_5 : decode cL_below 5 = .ok (.irem, 1) := by decide +kernel
theorem dL_below_6 : decode cL_below 6 = .ok (.ireturn, 1) := by decide +kernel
theorem dL_cell_0 : decode cL_cell 0 = .ok (.iload_n 1, 1) := by decide +kernel
theorem dL_cell_1 : decode cL_cell 1 = .ok (.aload_n 0, 1) := by decide +kernel
theorem dL_cell_2 : decode cL_cell 2 = .ok (.arraylength, 1) := by decide +kernel
theorem dL_cell_3 : decode cL_cell 3 = .ok (.if_icmp .ge 9, 3) := by decide +kernel
theorem dL_cell_6 : decode cL_cell 6 = .ok (.aload_n 0, 1) := by decide +kernel
theorem dL_cell_7 : decode cL_cell 7 = .ok (.iload_n 1, 1) := by decide +kernel
theorem dL_cell_8 : decode cL_cell 8 = .ok (.iaload, 1) := by decide +kernel
theorem dL_cell_9 : decode cL_cell 9 = .ok (.goto 9, 3) := by decide +kernel
theorem dL_cell_12 : decode cL_cell 12 = .ok (.ldc 8, 2) := by decide +kernel
theorem dL_cell_14 : decode cL_cell 14 = .ok (.iload_n 1, 1) := by decide +kernel
theorem dL_cell_15 : decode cL_cell 15 = .ok (.iconst 3, 1) := by decide +kernel
theorem dL_cell_16 : decode cL_cell 16 = .ok (.iadd, 1) := by decide +kernel
theorem dL_cell_17 : decode cL_cell 17 = .ok (.imul, 1) := by decide +kernel
theorem dL_cell_18 : decode cL_cell 18 = .ok (.ireturn, 1) := by decide +kernel
theorem dL_figure_0 : decode cL_figure 0 = .ok (.iconst 4, 1) := by decide +kernel
theorem dL_figure_1 : decode cL_figure 1 = .ok (.anewarray 9, 3) := by decide +kernel
theorem dL_figure_4 : decode cL_figure 4 = .ok (.dup, 1) := by decide +kernel
theorem dL_figure_5 : decode cL_figure 5 = .ok (.iconst 0, 1) := by decide +kernel
theorem dL_figure_6 : decode cL_figure 6 = .ok (.iconst 5, 1) := by decide +kernel
theorem dL_figure_7 : decode cL_figure 7 = .ok (.anewarray 11, 3) := by decide +kernel
theorem dL_figure_10 : decode cL_figure 10 = .ok (.dup, 1) := by decide +kernel
theorem dL_figure_11 : decode cL_figure 11 = .ok (.iconst 0, 1) := by decide +kernel
theorem dL_figure_12 : decode cL_figure 12 = .ok (.iconst 2, 1) := by decide +kernel
theorem dL_figure_13 : decode cL_figure 13 = .ok (.newarray .int, 2) := by decide +kernel
theorem dL_figure_15 : decode cL_figure 15 = .ok (.dup, 1) := by decide +kernel
theorem dL_figure_16 : decode cL_figure 16 = .ok (.iconst 0, 1) := by decide +kernel
theorem dL_figure_17 : decode cL_figure 17 = .ok (.iconst 1, 1) := by decide +kernel
theorem dL_figure_18 : decode cL_figure 18 = .ok (.iastore, 1) := by decide +kernel
theorem dL_figure_19 : decode cL_figure 19 = .ok (.dup, 1) := by decide +kernel
theorem dL_figure_20 : decode cL_figure 20 = .ok (.iconst 1, 1) := by decide +kernel
theorem dL_figure_21 : decode cL_figure 21 = .ok (.iconst 0, 1) := by decide +kernel
theorem dL_figure_22 : decode cL_figure 22 = .ok (.iastore, 1) := by decide +kernel
theorem dL_figure_23 : decode cL_figure 23 = .ok (.aastore, 1) := by decide +kernel
theorem dL_figure_24 : decode cL_figure 24 = .ok (.dup, 1) := by decide +kernel
theorem dL_figure_25 : decode cL_figure 25 = .ok (.iconst 1, 1) := by decide +kernel
theorem dL_figure_26 : decode cL_figure 26 = .ok (.iconst 2, 1) := by decide +kernel
theorem dL_figure_27 : decode cL_figure 27 = .ok (.newarray .int, 2) := by decide +kernel
theorem dL_figure_29 : decode cL_figure 29 = .ok (.dup, 1) := by decide +kernel
theorem dL_figure_30 : decode cL_figure 30 = .ok (.iconst 0, 1) := by decide +kernel
theorem dL_figure_31 : decode cL_figure 31 = .ok (.iconst 2, 1) := by decide +kernel
theorem dL_figure_32 : decode cL_figure 32 = .ok (.iastore, 1) := by decide +kernel
theorem dL_figure_33 : decode cL_figure 33 = .ok (.dup, 1) := by decide +kernel
theorem dL_figure_34 : decode cL_figure 34 = .ok (.iconst 1, 1) := by decide +kernel
theorem dL_figure_35 : decode cL_figure 35 = .ok (.iconst 1, 1) := by decide +kernel
theorem dL_figure_36 : decode cL_figure 36 = .ok (.iastore, 1) := by decide +kernel
theorem dL_figure_37 : decode cL_figure 37 = .ok (.aastore, 1) := by decide +kernel
theorem dL_figure_38 : decode cL_figure 38 = .ok (.dup, 1) := by decide +kernel
theorem dL_figure_39 : decode cL_figure 39 = .ok (.iconst 2, 1) := by decide +kernel
theorem dL_figure_40 : decode cL_figure 40 = .ok (.iconst 2, 1) := by decide +kernel
theorem dL_figure_41 : decode cL_figure 41 = .ok (.newarray .int, 2) := by decide +kernel
theorem dL_figure_43 : decode cL_figure 43 = .ok (.dup, 1) := by decide +kernel
theorem dL_figure_44 : decode cL_figure 44 = .ok (.iconst 0, 1) := by decide +kernel
theorem dL_figure_45 : decode cL_figure 45 = .ok (.iconst 0, 1) := by decide +kernel
theorem dL_figure_46 : decode cL_figure 46 = .ok (.iastore, 1) := by decide +kernel
theorem dL_figure_47 : decode cL_figure 47 = .ok (.dup, 1) := by decide +kernel
theorem dL_figure_48 : decode cL_figure 48 = .ok (.iconst 1, 1) := by decide +kernel
theorem dL_figure_49 : decode cL_figure 49 = .ok (.iconst 2, 1) := by decide +kernel
theorem dL_figure_50 : decode cL_figure 50 = .ok (.iastore, 1) := by decide +kernel
theorem dL_figure_51 : decode cL_figure 51 = .ok (.aastore, 1) := by decide +kernel
theorem dL_figure_52 : decode cL_figure 52 = .ok (.dup, 1) := by decide +kernel
theorem dL_figure_53 : decode cL_figure 53 = .ok (.iconst 3, 1) := by decide +kernel
theorem dL_figure_54 : decode cL_figure 54 = .ok (.iconst 2, 1) := by decide +kernel
theorem dL_figure_55 : decode cL_figure 55 = .ok (.newarray .int, 2) := by decide +kernel
theorem dL_figure_57 : decode cL_figure 57 = .ok (.dup, 1) := by decide +kernel
theorem dL_figure_58 : decode cL_figure 58 = .ok (.iconst 0, 1) := by decide +kernel
theorem dL_figure_59 : decode cL_figure 59 = .ok (.iconst 1, 1) := by decide +kernel
theorem dL_figure_60 : decode cL_figure 60 = .ok (.iastore, 1) := by decide +kernel
theorem dL_figure_61 : decode cL_figure 61 = .ok (.dup, 1) := by decide +kernel
theorem dL_figure_62 : decode cL_figure 62 = .ok (.iconst 1, 1) := by decide +kernel
theorem dL_figure_63 : decode cL_figure 63 = .ok (.iconst 2, 1) := by decide +kernel
theorem dL_figure_64 : decode cL_figure 64 = .ok (.iastore, 1) := by decide +kernel
theorem dL_figure_65 : decode cL_figure 65 = .ok (.aastore, 1) := by decide +kernel
theorem dL_figure_66 : decode cL_figure 66 = .ok (.dup, 1) := by decide +kernel
theorem dL_figure_67 : decode cL_figure 67 = .ok (.iconst 4, 1) := by decide +kernel
theorem dL_figure_68 : decode cL_figure 68 = .ok (.iconst 2, 1) := by decide +kernel
theorem dL_figure_69 : decode cL_figure 69 = .ok (.newarray .int, 2) := by decide +kernel
theorem dL_figure_71 : decode cL_figure 71 = .ok (.dup, 1) := by decide +kernel
theorem dL_figure_72 : decode cL_figure 72 = .ok (.iconst 0, 1) := by decide +kernel
theorem dL_figure_73 : decode cL_figure 73 = .ok (.iconst 2, 1) := by decide +kernel
theorem dL_figure_74 : decode cL_figure 74 = .ok (.iastore, 1) := by decide +kernel
theorem dL_figure_75 : decode cL_figure 75 = .ok (.dup, 1) := by decide +kernel
theorem dL_figure_76 : decode cL_figure 76 = .ok (.iconst 1, 1) := by decide +kernel
theorem dL_figure_77 : decode cL_figure 77 = .ok (.iconst 2, 1) := by decide +kernel
theorem dL_figure_78 : decode cL_figure 78 = .ok (.iastore, 1) := by decide +kernel
theorem dL_figure_79 : decode cL_figure 79 = .ok (.aastore, 1) := by decide +kernel
theorem dL_figure_80 : decode cL_figure 80 = .ok (.aastore, 1) := by decide +kernel
theorem dL_figure_81 : decode cL_figure 81 = .ok (.dup, 1) := by decide +kernel
theorem dL_figure_82 : decode cL_figure 82 = .ok (.iconst 1, 1) := by decide +kernel
theorem dL_figure_83 : decode cL_figure 83 = .ok (.iconst 3, 1) := by decide +kernel
theorem dL_figure_84 : decode cL_figure 84 = .ok (.anewarray 11, 3) := by decide +kernel
theorem dL_figure_87 : decode cL_figure 87 = .ok (.dup, 1) := by decide +kernel
theorem dL_figure_88 : decode cL_figure 88 = .ok (.iconst 0, 1) := by decide +kernel
theorem dL_figure_89 : decode cL_figure 89 = .ok (.iconst 2, 1) := by decide +kernel
theorem dL_figure_90 : decode cL_figure 90 = .ok (.newarray .int, 2) := by decide +kernel
theorem dL_figure_92 : decode cL_figure 92 = .ok (.dup, 1) := by decide +kernel
theorem dL_figure_93 : decode cL_figure 93 = .ok (.iconst 0, 1) := by decide +kernel
theorem dL_figure_94 : decode cL_figure 94 = .ok (.iconst 0, 1) := by decide +kernel
theorem dL_figure_95 : decode cL_figure 95 = .ok (.iastore, 1) := by decide +kernel
theorem dL_figure_96 : decode cL_figure 96 = .ok (.dup, 1) := by decide +kernel
theorem dL_figure_97 : decode cL_figure 97 = .ok (.iconst 1, 1) := by decide +kernel
theorem dL_figure_98 : decode cL_figure 98 = .ok (.iconst 1, 1) := by decide +kernel
theorem dL_figure_99 : decode cL_figure 99 = .ok (.iastore, 1) := by decide +kernel
theorem dL_figure_100 : decode cL_figure 100 = .ok (.aastore, 1) := by decide +kernel
theorem dL_figure_101 : decode cL_figure 101 = .ok (.dup, 1) := by decide +kernel
theorem dL_figure_102 : decode cL_figure 102 = .ok (.iconst 1, 1) := by decide +kernel
theorem dL_figure_103 : decode cL_figure 103 = .ok (.iconst 2, 1) := by decide +kernel
theorem dL_figure_104 : decode cL_figure 104 = .ok (.newarray .int, 2) := by decide +kernel
theorem dL_figure_106 : decode cL_figure 106 = .ok (.dup, 1) := by decide +kernel
theorem dL_figure_107 : decode cL_figure 107 = .ok (.iconst 0, 1) := by decide +kernel
theorem dL_figure_108 : decode cL_figure 108 = .ok (.iconst 1, 1) := by decide +kernel
theorem dL_figure_109 : decode cL_figure 109 = .ok (.iastore, 1) := by decide +kernel
theorem dL_figure_110 : decode cL_figure 110 = .ok (.dup, 1) := by decide +kernel
theorem dL_figure_111 : decode cL_figure 111 = .ok (.iconst 1, 1) := by decide +kernel
theorem dL_figure_112 : decode cL_figure 112 = .ok (.iconst 1, 1) := by decide +kernel
theorem dL_figure_113 : decode cL_figure 113 = .ok (.iastore, 1) := by decide +kernel
theorem dL_figure_114 : decode cL_figure 114 = .ok (.aastore, 1) := by decide +kernel
theorem dL_figure_115 : decode cL_figure 115 = .ok (.dup, 1) := by decide +kernel
theorem dL_figure_116 : decode cL_figure 116 = .ok (.iconst 2, 1) := by decide +kernel
theorem dL_figure_117 : decode cL_figure 117 = .ok (.iconst 2, 1) := by decide +kernel
theorem dL_figure_118 : decode cL_figure 118 = .ok (.newarray .int, 2) := by decide +kernel
theorem dL_figure_120 : decode cL_figure 120 = .ok (.dup, 1) := by decide +kernel
theorem dL_figure_121 : decode cL_figure 121 = .ok (.iconst 0, 1) := by decide +kernel
theorem dL_figure_122 : decode cL_figure 122 = .ok (.iconst 2, 1) := by decide +kernel
theorem dL_figure_123 : decode cL_figure 123 = .ok (.iastore, 1) := by decide +kernel
theorem dL_figure_124 : decode cL_figure 124 = .ok (.dup, 1) := by decide +kernel
theorem dL_figure_125 : decode cL_figure 125 = .ok (.iconst 1, 1) := by decide +kernel
theorem dL_figure_126 : decode cL_figure 126 = .ok (.iconst 1, 1) := by decide +kernel
theorem dL_figure_127 : decode cL_figure 127 = .ok (.iastore, 1) := by decide +kernel
theorem dL_figure_128 : decode cL_figure 128 = .ok (.aastore, 1) := by decide +kernel
theorem dL_figure_129 : decode cL_figure 129 = .ok (.aastore, 1) := by decide +kernel
theorem dL_figure_130 : decode cL_figure 130 = .ok (.dup, 1) := by decide +kernel
theorem dL_figure_131 : decode cL_figure 131 = .ok (.iconst 2, 1) := by decide +kernel
theorem dL_figure_132 : decode cL_figure 132 = .ok (.iconst 4, 1) := by decide +kernel
theorem dL_figure_133 : decode cL_figure 133 = .ok (.anewarray 11, 3) := by decide +kernel
theorem dL_figure_136 : decode cL_figure 136 = .ok (.dup, 1) := by decide +kernel
theorem dL_figure_137 : decode cL_figure 137 = .ok (.iconst 0, 1) := by decide +kernel
theorem dL_figure_138 : decode cL_figure 138 = .ok (.iconst 2, 1) := by decide +kernel
theorem dL_figure_139 : decode cL_figure 139 = .ok (.newarray .int, 2) := by decide +kernel
theorem dL_figure_141 : decode cL_figure 141 = .ok (.dup, 1) := by decide +kernel
theorem dL_figure_142 : decode cL_figure 142 = .ok (.iconst 0, 1) := by decide +kernel
theorem dL_figure_143 : decode cL_figure 143 = .ok (.iconst 0, 1) := by decide +kernel
theorem dL_figure_144 : decode cL_figure 144 = .ok (.iastore, 1) := by decide +kernel
theorem dL_figure_145 : decode cL_figure 145 = .ok (.dup, 1) := by decide +kernel
theorem dL_figure_146 : decode cL_figure 146 = .ok (.iconst 1, 1) := by decide +kernel
theorem dL_figure_147 : decode cL_figure 147 = .ok (.iconst 0, 1) := by decide +kernel
theorem dL_figure_148 : decode cL_figure 148 = .ok (.iastore, 1) := by decide +kernel
theorem dL_figure_149 : decode cL_figure 149 = .ok (.aastore, 1) := by decide +kernel
theorem dL_figure_150 : decode cL_figure 150 = .ok (.dup, 1) := by decide +kernel
theorem dL_figure_151 : decode cL_figure 151 = .ok (.iconst 1, 1) := by decide +kernel
theorem dL_figure_152 : decode cL_figure 152 = .ok (.iconst 2, 1) := by decide +kernel
theorem dL_figure_153 : decode cL_figure 153 = .ok (.newarray .int, 2) := by decide +kernel
theorem dL_figure_155 : decode cL_figure 155 = .ok (.dup, 1) := by decide +kernel
theorem dL_figure_156 : decode cL_figure 156 = .ok (.iconst 0, 1) := by decide +kernel
theorem dL_figure_157 : decode cL_figure 157 = .ok (.iconst 1, 1) := by decide +kernel
theorem dL_figure_158 : decode cL_figure 158 = .ok (.iastore, 1) := by decide +kernel
theorem dL_figure_159 : decode cL_figure 159 = .ok (.dup, 1) := by decide +kernel
theorem dL_figure_160 : decode cL_figure 160 = .ok (.iconst 1, 1) := by decide +kernel
theorem dL_figure_161 : decode cL_figure 161 = .ok (.iconst 0, 1) := by decide +kernel
theorem dL_figure_162 : decode cL_figure 162 = .ok (.iastore, 1) := by decide +kernel
theorem dL_figure_163 : decode cL_figure 163 = .ok (.aastore, 1) := by decide +kernel
theorem dL_figure_164 : decode cL_figure 164 = .ok (.dup, 1) := by decide +kernel
theorem dL_figure_165 : decode cL_figure 165 = .ok (.iconst 2, 1) := by decide +kernel
theorem dL_figure_166 : decode cL_figure 166 = .ok (.iconst 2, 1) := by decide +kernel
theorem dL_figure_167 : decode cL_figure 167 = .ok (.newarray .int, 2) := by decide +kernel
theorem dL_figure_169 : decode cL_figure 169 = .ok (.dup, 1) := by decide +kernel
theorem dL_figure_170 : decode cL_figure 170 = .ok (.iconst 0, 1) := by decide +kernel
theorem dL_figure_171 : decode cL_figure 171 = .ok (.iconst 0, 1) := by decide +kernel
theorem dL_figure_172 : decode cL_figure 172 = .ok (.iastore, 1) := by decide +kernel
theorem dL_figure_173 : decode cL_figure 173 = .ok (.dup, 1) := by decide +kernel
theorem dL_figure_174 : decode cL_figure 174 = .ok (.iconst 1, 1) := by decide +kernel
theorem dL_figure_175 : decode cL_figure 175 = .ok (.iconst 1, 1) := by decide +kernel
theorem dL_figure_176 : decode cL_figure 176 = .ok (.iastore, 1) := by decide +kernel
theorem dL_figure_177 : decode cL_figure 177 = .ok (.aastore, 1) := by decide +kernel
theorem dL_figure_178 : decode cL_figure 178 = .ok (.dup, 1) := by decide +kernel
theorem dL_figure_179 : decode cL_figure 179 = .ok (.iconst 3, 1) := by decide +kernel
theorem dL_figure_180 : decode cL_figure 180 = .ok (.iconst 2, 1) := by decide +kernel
theorem dL_figure_181 : decode cL_figure 181 = .ok (.newarray .int, 2) := by decide +kernel
theorem dL_figure_183 : decode cL_figure 183 = .ok (.dup, 1) := by decide +kernel
theorem dL_figure_184 : decode cL_figure 184 = .ok (.iconst 0, 1) := by decide +kernel
theorem dL_figure_185 : decode cL_figure 185 = .ok (.iconst 1, 1) := by decide +kernel
theorem dL_figure_186 : decode cL_figure 186 = .ok (.iastore, 1) := by decide +kernel
theorem dL_figure_187 : decode cL_figure 187 = .ok (.dup, 1) := by decide +kernel
theorem dL_figure_188 : decode cL_figure 188 = .ok (.iconst 1, 1) := by decide +kernel
theorem dL_figure_189 : decode cL_figure 189 = .ok (.iconst 1, 1) := by decide +kernel
theorem dL_figure_190 : decode cL_figure 190 = .ok (.iastore, 1) := by decide +kernel
theorem dL_figure_191 : decode cL_figure 191 = .ok (.aastore, 1) := by decide +kernel
theorem dL_figure_192 : decode cL_figure 192 = .ok (.aastore, 1) := by decide +kernel
theorem dL_figure_193 : decode cL_figure 193 = .ok (.dup, 1) := by decide +kernel
theorem dL_figure_194 : decode cL_figure 194 = .ok (.iconst 3, 1) := by decide +kernel
theorem dL_figure_195 : decode cL_figure 195 = .ok (.iconst 5, 1) := by decide +kernel
theorem dL_figure_196 : decode cL_figure 196 = .ok (.anewarray 11, 3) := by decide +kernel
theorem dL_figure_199 : decode cL_figure 199 = .ok (.dup, 1) := by decide +kernel
theorem dL_figure_200 : decode cL_figure 200 = .ok (.iconst 0, 1) := by decide +kernel
theorem dL_figure_201 : decode cL_figure 201 = .ok (.iconst 2, 1) := by decide +kernel
theorem dL_figure_202 : decode cL_figure 202 = .ok (.newarray .int, 2) := by decide +kernel
theorem dL_figure_204 : decode cL_figure 204 = .ok (.dup, 1) := by decide +kernel
theorem dL_figure_205 : decode cL_figure 205 = .ok (.iconst 0, 1) := by decide +kernel
theorem dL_figure_206 : decode cL_figure 206 = .ok (.iconst 1, 1) := by decide +kernel
theorem dL_figure_207 : decode cL_figure 207 = .ok (.iastore, 1) := by decide +kernel
theorem dL_figure_208 : decode cL_figure 208 = .ok (.dup, 1) := by decide +kernel
theorem dL_figure_209 : decode cL_figure 209 = .ok (.iconst 1, 1) := by decide +kernel
theorem dL_figure_210 : decode cL_figure 210 = .ok (.iconst 0, 1) := by decide +kernel
theorem dL_figure_211 : decode cL_figure 211 = .ok (.iastore, 1) := by decide +kernel
theorem dL_figure_212 : decode cL_figure 212 = .ok (.aastore, 1) := by decide +kernel
theorem dL_figure_213 : decode cL_figure 213 = .ok (.dup, 1) := by decide +kernel
theorem dL_figure_214 : decode cL_figure 214 = .ok (.iconst 1, 1) := by decide +kernel
theorem dL_figure_215 : decode cL_figure 215 = .ok (.iconst 2, 1) := by decide +kernel
theorem dL_figure_216 : decode cL_figure 216 = .ok (.newarray .int, 2) := by decide +kernel
theorem dL_figure_218 : decode cL_figure 218 = .ok (.dup, 1) := by decide +kernel
theorem dL_figure_219 : decode cL_figure 219 = .ok (.iconst 0, 1) := by decide +kernel
theorem dL_figure_220 : decode cL_figure 220 = .ok (.iconst 0, 1) := by decide +kernel
theorem dL_figure_221 : decode cL_figure 221 = .ok (.iastore, 1) := by decide +kernel
theorem dL_figure_222 : decode cL_figure 222 = .ok (.dup, 1) := by decide +kernel
theorem dL_figure_223 : decode cL_figure 223 = .ok (.iconst 1, 1) := by decide +kernel
theorem dL_figure_224 : decode cL_figure 224 = .ok (.iconst 1, 1) := by decide +kernel
theorem dL_figure_225 : decode cL_figure 225 = .ok (.iastore, 1) := by decide +kernel
theorem dL_figure_226 : decode cL_figure 226 = .ok (.aastore, 1) := by decide +kernel
theorem dL_figure_227 : decode cL_figure 227 = .ok (.dup, 1) := by decide +kernel
theorem dL_figure_228 : decode cL_figure 228 = .ok (.iconst 2, 1) := by decide +kernel
theorem dL_figure_229 : decode cL_figure 229 = .ok (.iconst 2, 1) := by decide +kernel
theorem dL_figure_230 : decode cL_figure 230 = .ok (.newarray .int, 2) := by decide +kernel
theorem dL_figure_232 : decode cL_figure 232 = .ok (.dup, 1) := by decide +kernel
theorem dL_figure_233 : decode cL_figure 233 = .ok (.iconst 0, 1) := by decide +kernel
theorem dL_figure_234 : decode cL_figure 234 = .ok (.iconst 1, 1) := by decide +kernel
theorem dL_figure_235 : decode cL_figure 235 = .ok (.iastore, 1) := by decide +kernel
theorem dL_figure_236 : decode cL_figure 236 = .ok (.dup, 1) := by decide +kernel
theorem dL_figure_237 : decode cL_figure 237 = .ok (.iconst 1, 1) := by decide +kernel
theorem dL_figure_238 : decode cL_figure 238 = .ok (.iconst 1, 1) := by decide +kernel
theorem dL_figure_239 : decode cL_figure 239 = .ok (.iastore, 1) := by decide +kernel
theorem dL_figure_240 : decode cL_figure 240 = .ok (.aastore, 1) := by decide +kernel
theorem dL_figure_241 : decode cL_figure 241 = .ok (.dup, 1) := by decide +kernel
theorem dL_figure_242 : decode cL_figure 242 = .ok (.iconst 3, 1) := by decide +kernel
theorem dL_figure_243 : decode cL_figure 243 = .ok (.iconst 2, 1) := by decide +kernel
theorem dL_figure_244 : decode cL_figure 244 = .ok (.newarray .int, 2) := by decide +kernel
theorem dL_figure_246 : decode cL_figure 246 = .ok (.dup, 1) := by decide +kernel
theorem dL_figure_247 : decode cL_figure 247 = .ok (.iconst 0, 1) := by decide +kernel
theorem dL_figure_248 : decode cL_figure 248 = .ok (.iconst 2, 1) := by decide +kernel
theorem dL_figure_249 : decode cL_figure 249 = .ok (.iastore, 1) := by decide +kernel
theorem dL_figure_250 : decode cL_figure 250 = .ok (.dup, 1) := by decide +kernel
theorem dL_figure_251 : decode cL_figure 251 = .ok (.iconst 1, 1) := by decide +kernel
theorem dL_figure_252 : decode cL_figure 252 = .ok (.iconst 1, 1) := by decide +kernel
theorem dL_figure_253 : decode cL_figure 253 = .ok (.iastore, 1) := by decide +kernel
theorem dL_figure_254 : decode cL_figure 254 = .ok (.aastore, 1) := by decide +kernel
theorem dL_figure_255 : decode cL_figure 255 = .ok (.dup, 1) := by decide +kernel
theorem dL_figure_256 : decode cL_figure 256 = .ok (.iconst 4, 1) := by decide +kernel
theorem dL_figure_257 : decode cL_figure 257 = .ok (.iconst 2, 1) := by decide +kernel
theorem dL_figure_258 : decode cL_figure 258 = .ok (.newarray .int, 2) := by decide +kernel
theorem dL_figure_260 : decode cL_figure 260 = .ok (.dup, 1) := by decide +kernel
theorem dL_figure_261 : decode cL_figure 261 = .ok (.iconst 0, 1) := by decide +kernel
theorem dL_figure_262 : decode cL_figure 262 = .ok (.iconst 1, 1) := by decide +kernel
theorem dL_figure_263 : decode cL_figure 263 = .ok (.iastore, 1) := by decide +kernel
theorem dL_figure_264 : decode cL_figure 264 = .ok (.dup, 1) := by decide +kernel
theorem dL_figure_265 : decode cL_figure 265 = .ok (.iconst 1, 1) := by decide +kernel
theorem dL_figure_266 : decode cL_figure 266 = .ok (.iconst 2, 1) := by decide +kernel
theorem dL_figure_267 : decode cL_figure 267 = .ok (.iastore, 1) := by decide +kernel
theorem dL_figure_268 : decode cL_figure 268 = .ok (.aastore, 1) := by decide +kernel
theorem dL_figure_269 : decode cL_figure 269 = .ok (.aastore, 1) := by decide +kernel
theorem dL_figure_270 : decode cL_figure 270 = .ok (.astore_n 1, 1) := by decide +kernel
theorem dL_figure_271 : decode cL_figure 271 = .ok (.aload_n 1, 1) := by decide +kernel
theorem dL_figure_272 : decode cL_figure 272 = .ok (.iload_n 0, 1) := by decide +kernel
theorem dL_figure_273 : decode cL_figure 273 = .ok (.aaload, 1) := by decide +kernel
theorem dL_figure_274 : decode cL_figure 274 = .ok (.areturn, 1) := by decide +kernel
set_option maxRecDepth 20000 in
theorem ggL_act_L_below : GoodIn wsL_act wsL_below := goodIn_r _ [11, 12] (by decide +kernel) (by decide +kernel)
set_option maxRecDepth 20000 in
theorem gL_act_L_below : GoodIn wsL_act (va_wsS RL 19 yL_below wsL_below) := goodIn_app (goodIn_of _ (by decide +kernel)) ggL_act_L_below
set_option maxRecDepth 20000 in
theorem ggL_act_X6_hedges : GoodIn wsL_act wsX6_hedges := goodIn_r _ [17, 18, 175, 176, 177, 178, 179, 180, 181, 182, 183] (by decide +kernel) (by decide +kernel)
set_option maxRecDepth 20000 in
theorem gL_act_X6_hedges : GoodIn wsL_act (wsV RL 28 RX6 yX6_hedges wsX6_hedges) := goodIn_app (goodIn_of _ (by decide +kernel)) ggL_act_X6_hedges
set_option maxRecDepth 20000 in
theorem ggL_act_X6_rows : GoodIn wsL_act wsX6_rows := goodIn_r _ [21, 22, 23] (by decide +kernel) (by decide +kernel)
set_option maxRecDepth 20000 in
theorem gL_act_X6_rows : GoodIn wsL_act (va_wsS RL 32 yX6_rows wsX6_rows) := goodIn_app (goodIn_of _ (by decide +kernel)) ggL_act_X6_rows
set_option maxRecDepth 20000 in
theorem ggL_act_X5_lay : GoodIn wsL_act wsX5_lay := goodIn_ca (goodIn_r _ [28, 29, 30, 31, 32, 33, 34, 27, 35, 36, 37, 38, 39, 40, 41, 42, 43, 44, 45, 46, 47, 48, 49, 50, 51, 52, 53, 54, 55, 56, 57, 58, 59, 60, 61, 62, 63, 64, 65, 66, 67, 68, 69, 70, 71, 72, 184, 185, 186, 187, 188, 189, 190, 191, 192, 193, 194, 195, 196, 197, 198, 199, 200, 201, 202, 203] (by decide +kernel) (by decide +kernel)) (goodIn_sub (fun _ h => List.mem_cons_of_mem _ (List.mem_append_left _ (List.mem_append_left _ (List.mem_append_right _ h)))) (by decide +kernel))
set_option maxRecDepth 20000 in
theorem gL_act_X5_lay : GoodIn wsL_act (wsV RL 39 RX5 yX5_lay wsX5_lay) := goodIn_app (goodIn_of _ (by decide +kernel)) ggL_act_X5_lay
set_option maxRecDepth 20000 in
theorem ggL_act_X5_setRules : GoodIn wsL_act wsX5_setRules := goodIn_ca (goodIn_r _ [76, 29, 30, 77, 78, 79, 27, 80, 81, 82, 83, 84, 85, 86, 87, 88, 89, 90, 91, 92, 93, 94, 95, 184, 185, 186, 187, 188, 204, 205, 206, 207] (by decide +kernel) (by decide +kernel)) (goodIn_sub (fun _ h => List.mem_cons_of_mem _ (List.mem_append_left _ (List.mem_append_left _ (List.mem_append_right _ h)))) (by decide +kernel))
set_option maxRecDepth 20000 in
theorem gL_act_X5_setRules : GoodIn wsL_act (wsV RL 50 RX5 yX5_setRules wsX5_setRules) := goodIn_app (goodIn_of _ (by decide +kernel)) ggL_act_X5_setRules
set_option maxRecDepth 20000 in
theorem ggL_act_X5_setEdge : GoodIn wsL_act wsX5_setEdge := goodIn_r _ [99, 32, 100, 101, 102, 61, 103, 104, 105, 106, 107, 108, 184, 185, 186, 187, 188, 196, 197, 198, 199, 200, 201, 202, 203] (by decide +kernel) (by decide +kernel)
set_option maxRecDepth 20000 in
theorem gL_act_X5_setEdge : GoodIn wsL_act (wsV RL 57 RX5 yX5_setEdge wsX5_setEdge) := goodIn_app (goodIn_of _ (by decide +kernel)) ggL_act_X5_setEdge
set_option maxRecDepth 20000 in
theorem ggL_act_X5_turn : GoodIn wsL_act wsX5_turn := goodIn_ca (goodIn_r _ [112, 113, 114, 32, 31, 115, 116, 117, 61, 118, 63, 64, 119, 71, 72, 120, 121, 122, 39, 123, 41, 53, 54, 55, 56, 57, 124, 125, 126, 127, 128, 36, 37, 38, 40, 42, 43, 44, 45, 46, 47, 48, 184, 185, 186, 187, 188, 196, 197, 198, 199, 200, 201, 202, 203, 189, 190, 191, 192, 193, 194, 195] (by decide +kernel) (by decide +kernel)) (goodIn_sub (fun _ h => List.mem_cons_of_mem _ (List.mem_append_left _ (List.mem_append_right _ h))) (by decide +kernel))
set_option maxRecDepth 20000 in
theorem gL_act_X5_turn : GoodIn wsL_act (wsV RL 61 RX5 yX5_turn wsX5_turn) := goodIn_app (goodIn_of _ (by decide +kernel)) ggL_act_X5_turn
set_option maxRecDepth 20000 in
theorem ggL_act_L_figure : GoodIn wsL_act wsL_figure := goodIn_r _ [131, 132, 133, 23] (by decide +kernel) (by decide +kernel)
set_option maxRecDepth 20000 in
theorem gL_act_L_figure : GoodIn wsL_act (va_wsS RL 64 yL_figure wsL_figure) := goodIn_app (goodIn_of _ (by decide +kernel)) ggL_act_L_figure
set_option maxRecDepth 20000 in
theorem ggL_act_X5_plant : GoodIn wsL_act wsX5_plant := goodIn_ca (goodIn_ca (goodIn_r _ [137, 113, 114, 138, 139, 32, 31, 140, 141, 27, 142, 115, 116, 117, 61, 118, 63, 64, 143, 144, 145, 146, 147, 148, 149, 150, 151, 152, 153, 154, 155, 100, 101, 102, 103, 104, 156, 157, 158, 159, 160, 161, 162, 163, 164, 165, 166, 167, 168, 169, 170, 171, 172, 173, 174, 71, 72, 124, 125, 126, 39, 127, 41, 128, 36, 37, 38, 40, 42, 43, 44, 45, 46, 47, 48, 184, 185, 186, 187, 188, 196, 197, 198, 199, 200, 201, 202, 203, 189, 190, 191, 192, 193, 194, 195] (by decide +kernel) (by decide +kernel)) (goodIn_sub (fun _ h => List.mem_cons_of_mem _ (List.mem_append_left _ (List.mem_append_right _ h))) (by decide +kernel))) (goodIn_sub (fun _ h => List.mem_cons_of_mem _ (List.mem_append_right _ h)) (by decide +kernel))
set_option maxRecDepth 20000 in
theorem gL_act_X5_plant : GoodIn wsL_act (wsV RL 68 RX5 yX5_plant wsX5_plant) := goodIn_app (goodIn_of _ (by decide +kernel)) ggL_act_X5_plant
theorem dL_act_0 : decode cL_act 0 = .ok (.iload_n 2, 1) := by decide +kernel
theorem dL_act_1 : decode cL_act 1 = .ok (.iconst 3, 1) := by decide +kernel
theorem dL_act_2 : decode cL_act 2 = .ok (.ishr, 1) := by decide +kernel
theorem dL_act_3 : decode cL_act 3 = .ok (.aload_n 1, 1) := by decide +kernel
theorem dL_act_4 : decode cL_act 4 = .ok (.getfield 13, 3) := by decide +kernel
theorem dL_act_7 : decode cL_act 7 = .ok (.invokestatic 19, 3) := by decide +kernel
theorem dL_act_10 : decode cL_act 10 = .ok (.istore_n 3, 1) := by decide +kernel
theorem dL_act_11 : decode cL_act 11 = .ok (.iload_n 2, 1) := by decide +kernel
theorem dL_act_12 : decode cL_act 12 = .ok (.iconst 5, 1) := by decide +kernel
theorem dL_act_13 : decode cL_act 13 = .ok (.ishr, 1) := by decide +kernel
theorem dL_act_14 : decode cL_act 14 = .ok (.aload_n 1, 1) := by decide +kernel
theorem dL_act_15 : decode cL_act 15 = .ok (.getfield 25, 3) := by decide +kernel
theorem dL_act_18 : decode cL_act 18 = .ok (.invokestatic 19, 3) := by decide +kernel
theorem dL_act_21 : decode cL_act 21 = .ok (.istore 4, 2) := by decide +kernel
theorem dL_act_23 : decode cL_act 23 = .ok (.iload_n 2, 1) := by decide +kernel
theorem dL_act_24 : decode cL_act 24 = .ok (.bipush 12, 2) := by decide +kernel
theorem dL_act_26 : decode cL_act 26 = .ok (.invokestatic 19, 3) := by decide +kernel
theorem dL_act_29 : decode cL_act 29 = .ok (.tableswitch 348 0 6 #[43, 129, 129, 258, 302, 302, 302], 43) := by decide +kernel
theorem dL_act_72 : decode cL_act 72 = .ok (.iload_n 2, 1) := by decide +kernel
theorem dL_act_73 : decode cL_act 73 = .ok (.iconst 4, 1) := by decide +kernel
theorem dL_act_74 : decode cL_act 74 = .ok (.ishr, 1) := by decide +kernel
theorem dL_act_75 : decode cL_act 75 = .ok (.iconst 3, 1) := by decide +kernel
theorem dL_act_76 : decode cL_act 76 = .ok (.invokestatic 19, 3) := by decide +kernel
theorem dL_act_79 : decode cL_act 79 = .ok (.ifCond .le 5, 3) := by decide +kernel
theorem dL_act_82 : decode cL_act 82 = .ok (.iconst 1, 1) := by decide +kernel
theorem dL_act_83 : decode cL_act 83 = .ok (.ireturn, 1) := by decide +kernel
theorem dL_act_84 : decode cL_act 84 = .ok (.aload_n 1, 1) := by decide +kernel
theorem dL_act_85 : decode cL_act 85 = .ok (.invokevirtual 28, 3) := by decide +kernel
theorem dL_act_88 : decode cL_act 88 = .ok (.istore 5, 2) := by decide +kernel
theorem dL_act_90 : decode cL_act 90 = .ok (.aload_n 1, 1) := by decide +kernel
theorem dL_act_91 : decode cL_act 91 = .ok (.iconst 3, 1) := by decide +kernel
theorem dL_act_92 : decode cL_act 92 = .ok (.iload_n 2, 1) := by decide +kernel
theorem dL_act_93 : decode cL_act 93 = .ok (.iconst 5, 1) := by decide +kernel
theorem dL_act_94 : decode cL_act 94 = .ok (.ishr, 1) := by decide +kernel
theorem dL_act_95 : decode cL_act 95 = .ok (.bipush 6, 2) := by decide +kernel
theorem dL_act_97 : decode cL_act 97 = .ok (.invokestatic 19, 3) := by decide +kernel
theorem dL_act_100 : decode cL_act 100 = .ok (.iadd, 1) := by decide +kernel
theorem dL_act_101 : decode cL_act 101 = .ok (.putfield 13, 3) := by decide +kernel
theorem dL_act_104 : decode cL_act 104 = .ok (.aload_n 1, 1) := by decide +kernel
theorem dL_act_105 : decode cL_act 105 = .ok (.iconst 3, 1) := by decide +kernel
theorem dL_act_106 : decode cL_act 106 = .ok (.iload_n 2, 1) := by decide +kernel
theorem dL_act_107 : decode cL_act 107 = .ok (.bipush 7, 2) := by decide +kernel
theorem dL_act_109 : decode cL_act 109 = .ok (.ishr, 1) := by decide +kernel
theorem dL_act_110 : decode cL_act 110 = .ok (.bipush 6, 2) := by decide +kernel
theorem dL_act_112 : decode cL_act 112 = .ok (.invokestatic 19, 3) := by decide +kernel
theorem dL_act_115 : decode cL_act 115 = .ok (.iadd, 1) := by decide +kernel
theorem dL_act_116 : decode cL_act 116 = .ok (.putfield 25, 3) := by decide +kernel
theorem dL_act_119 : decode cL_act 119 = .ok (.aload_n 1, 1) := by decide +kernel
theorem dL_act_120 : decode cL_act 120 = .ok (.aload_n 1, 1) := by decide +kernel
theorem dL_act_121 : decode cL_act 121 = .ok (.getfield 13, 3) := by decide +kernel
theorem dL_act_124 : decode cL_act 124 = .ok (.aload_n 1, 1) := by decide +kernel
theorem dL_act_125 : decode cL_act 125 = .ok (.getfield 25, 3) := by decide +kernel
theorem dL_act_128 : decode cL_act 128 = .ok (.iconst (-1), 1) := by decide +kernel
theorem dL_act_129 : decode cL_act 129 = .ok (.invokestatic 32, 3) := by decide +kernel
theorem dL_act_132 : decode cL_act 132 = .ok (.putfield 36, 3) := by decide +kernel
theorem dL_act_135 : decode cL_act 135 = .ok (.aload_n 0, 1) := by decide +kernel
theorem dL_act_136 : decode cL_act 136 = .ok (.aload_n 1, 1) := by decide +kernel
theorem dL_act_137 : decode cL_act 137 = .ok (.getfield 13, 3) := by decide +kernel
theorem dL_act_140 : decode cL_act 140 = .ok (.aload_n 1, 1) := by decide +kernel
theorem dL_act_141 : decode cL_act 141 = .ok (.getfield 25, 3) := by decide +kernel
theorem dL_act_144 : decode cL_act 144 = .ok (.invokevirtual 39, 3) := by decide +kernel
theorem dL_act_147 : decode cL_act 147 = .ok (.iload 5, 2) := by decide +kernel
theorem dL_act_149 : decode cL_act 149 = .ok (.if_icmp .ne 7, 3) := by decide +kernel
theorem dL_act_152 : decode cL_act 152 = .ok (.iconst 1, 1) := by decide +kernel
theorem dL_act_153 : decode cL_act 153 = .ok (.goto 4, 3) := by decide +kernel
theorem dL_act_156 : decode cL_act 156 = .ok (.iconst 0, 1) := by decide +kernel
theorem dL_act_157 : decode cL_act 157 = .ok (.ireturn, 1) := by decide +kernel
theorem dL_act_158 : decode cL_act 158 = .ok (.sipush 512, 3) := by decide +kernel
theorem dL_act_161 : decode cL_act 161 = .ok (.aload_n 1, 1) := by decide +kernel
theorem dL_act_162 : decode cL_act 162 = .ok (.getfield 44, 3) := by decide +kernel
theorem dL_act_165 : decode cL_act 165 = .ok (.imul, 1) := by decide +kernel
theorem dL_act_166 : decode cL_act 166 = .ok (.aload_n 1, 1) := by decide +kernel
theorem dL_act_167 : decode cL_act 167 = .ok (.getfield 47, 3) := by decide +kernel
theorem dL_act_170 : decode cL_act 170 = .ok (.iadd, 1) := by decide +kernel
theorem dL_act_171 : decode cL_act 171 = .ok (.istore 5, 2) := by decide +kernel
theorem dL_act_173 : decode cL_act 173 = .ok (.iload_n 2, 1) := by decide +kernel
theorem dL_act_174 : decode cL_act 174 = .ok (.iconst 4, 1) := by decide +kernel
theorem dL_act_175 : decode cL_act 175 = .ok (.ishr, 1) := by decide +kernel
theorem dL_act_176 : decode cL_act 176 = .ok (.iconst 4, 1) := by decide +kernel
theorem dL_act_177 : decode cL_act 177 = .ok (.invokestatic 19, 3) := by decide +kernel
theorem dL_act_180 : decode cL_act 180 = .ok (.ifCond .ne 7, 3) := by decide +kernel
theorem dL_act_183 : decode cL_act 183 = .ok (.iconst 1, 1) := by decide +kernel
theorem dL_act_184 : decode cL_act 184 = .ok (.goto 4, 3) := by decide +kernel
theorem dL_act_187 : decode cL_act 187 = .ok (.iconst 0, 1) := by decide +kernel
theorem dL_act_188 : decode cL_act 188 = .ok (.istore 6, 2) := by decide +kernel
theorem dL_act_190 : decode cL_act 190 = .ok (.aload_n 1, 1) := by decide +kernel
theorem dL_act_191 : decode cL_act 191 = .ok (.iload 6, 2) := by decide +kernel
theorem dL_act_193 : decode cL_act 193 = .ok (.ifCond .eq 15, 3) := by decide +kernel
theorem dL_act_196 : decode cL_act 196 = .ok (.iload_n 2, 1) := by decide +kernel
theorem dL_act_197 : decode cL_act 197 = .ok (.iconst 5, 1) := by decide +kernel
theorem dL_act_198 : decode cL_act 198 = .ok (.ishr, 1) := by decide +kernel
theorem dL_act_199 : decode cL_act 199 = .ok (.sipush 512, 3) := by decide +kernel
theorem dL_act_202 : decode cL_act 202 = .ok (.invokestatic 19, 3) := by decide +kernel
theorem dL_act_205 : decode cL_act 205 = .ok (.goto 17, 3) := by decide +kernel
theorem dL_act_208 : decode cL_act 208 = .ok (.bipush 8, 2) := by decide +kernel
theorem dL_act_210 : decode cL_act 210 = .ok (.bipush 32, 2) := by decide +kernel
theorem dL_act_212 : decode cL_act 212 = .ok (.iload_n 2, 1) := by decide +kernel
theorem dL_act_213 : decode cL_act 213 = .ok (.bipush 6, 2) := by decide +kernel
theorem dL_act_215 : decode cL_act 215 = .ok (.ishr, 1) := by decide +kernel
theorem dL_act_216 : decode cL_act 216 = .ok (.iconst 2, 1) := by decide +kernel
theorem dL_act_217 : decode cL_act 217 = .ok (.invokestatic 19, 3) := by decide +kernel
theorem dL_act_220 : decode cL_act 220 = .ok (.imul, 1) := by decide +kernel
theorem dL_act_221 : decode cL_act 221 = .ok (.iadd, 1) := by decide +kernel
theorem dL_act_222 : decode cL_act 222 = .ok (.putfield 44, 3) := by decide +kernel
theorem dL_act_225 : decode cL_act 225 = .ok (.aload_n 1, 1) := by decide +kernel
theorem dL_act_226 : decode cL_act 226 = .ok (.iload 6, 2) := by decide +kernel
theorem dL_act_228 : decode cL_act 228 = .ok (.ifCond .eq 15, 3) := by decide +kernel
theorem dL_act_231 : decode cL_act 231 = .ok (.iload_n 2, 1) := by decide +kernel
theorem dL_act_232 : decode cL_act 232 = .ok (.iconst 3, 1) := by decide +kernel
theorem dL_act_233 : decode cL_act 233 = .ok (.ishr, 1) := by decide +kernel
theorem dL_act_234 : decode cL_act 234 = .ok (.sipush 512, 3) := by decide +kernel
theorem dL_act_237 : decode cL_act 237 = .ok (.invokestatic 19, 3) := by decide +kernel
theorem dL_act_240 : decode cL_act 240 = .ok (.goto 21, 3) := by decide +kernel
theorem dL_act_243 : decode cL_act 243 = .ok (.iload_n 2, 1) := by decide +kernel
theorem dL_act_244 : decode cL_act 244 = .ok (.bipush 8, 2) := by decide +kernel
theorem dL_act_246 : decode cL_act 246 = .ok (.ishr, 1) := by decide +kernel
theorem dL_act_247 : decode cL_act 247 = .ok (.iconst 2, 1) := by decide +kernel
theorem dL_act_248 : decode cL_act 248 = .ok (.invokestatic 19, 3) := by decide +kernel
theorem dL_act_251 : decode cL_act 251 = .ok (.ifCond .ne 8, 3) := by decide +kernel
theorem dL_act_254 : decode cL_act 254 = .ok (.bipush 12, 2) := by decide +kernel
theorem dL_act_256 : decode cL_act 256 = .ok (.goto 5, 3) := by decide +kernel
theorem dL_act_259 : decode cL_act 259 = .ok (.bipush 62, 2) := by decide +kernel
theorem dL_act_261 : decode cL_act 261 = .ok (.putfield 47, 3) := by decide +kernel
theorem dL_act_264 : decode cL_act 264 = .ok (.aload_n 0, 1) := by decide +kernel
theorem dL_act_265 : decode cL_act 265 = .ok (.aload_n 1, 1) := by decide +kernel
theorem dL_act_266 : decode cL_act 266 = .ok (.getfield 44, 3) := by decide +kernel
theorem dL_act_269 : decode cL_act 269 = .ok (.aload_n 1, 1) := by decide +kernel
theorem dL_act_270 : decode cL_act 270 = .ok (.getfield 47, 3) := by decide +kernel
theorem dL_act_273 : decode cL_act 273 = .ok (.invokevirtual 50, 3) := by decide +kernel
theorem dL_act_276 : decode cL_act 276 = .ok (.iload 5, 2) := by decide +kernel
theorem dL_act_278 : decode cL_act 278 = .ok (.if_icmp .ne 7, 3) := by decide +kernel
theorem dL_act_281 : decode cL_act 281 = .ok (.iconst 1, 1) := by decide +kernel
theorem dL_act_282 : decode cL_act 282 = .ok (.goto 4, 3) := by decide +kernel
theorem dL_act_285 : decode cL_act 285 = .ok (.iconst 0, 1) := by decide +kernel
theorem dL_act_286 : decode cL_act 286 = .ok (.ireturn, 1) := by decide +kernel
theorem dL_act_287 : decode cL_act 287 = .ok (.aload_n 1, 1) := by decide +kernel
theorem dL_act_288 : decode cL_act 288 = .ok (.getfield 53, 3) := by decide +kernel
theorem dL_act_291 : decode cL_act 291 = .ok (.istore 5, 2) := by decide +kernel
theorem dL_act_293 : decode cL_act 293 = .ok (.aload_n 1, 1) := by decide +kernel
theorem dL_act_294 : decode cL_act 294 = .ok (.iload_n 2, 1) := by decide +kernel
theorem dL_act_295 : decode cL_act 295 = .ok (.iconst 4, 1) := by decide +kernel
theorem dL_act_296 : decode cL_act 296 = .ok (.ishr, 1) := by decide +kernel
theorem dL_act_297 : decode cL_act 297 = .ok (.iconst 3, 1) := by decide +kernel
theorem dL_act_298 : decode cL_act 298 = .ok (.invokestatic 19, 3) := by decide +kernel
theorem dL_act_301 : decode cL_act 301 = .ok (.ifCond .le 7, 3) := by decide +kernel
theorem dL_act_304 : decode cL_act 304 = .ok (.iconst 1, 1) := by decide +kernel
theorem dL_act_305 : decode cL_act 305 = .ok (.goto 4, 3) := by decide +kernel
theorem dL_act_308 : decode cL_act 308 = .ok (.iconst 0, 1) := by decide +kernel
theorem dL_act_309 : decode cL_act 309 = .ok (.putfield 53, 3) := by decide +kernel
theorem dL_act_312 : decode cL_act 312 = .ok (.aload_n 0, 1) := by decide +kernel
theorem dL_act_313 : decode cL_act 313 = .ok (.aload_n 1, 1) := by decide +kernel
theorem dL_act_314 : decode cL_act 314 = .ok (.getfield 53, 3) := by decide +kernel
theorem dL_act_317 : decode cL_act 317 = .ok (.invokevirtual 57, 3) := by decide +kernel
theorem dL_act_320 : decode cL_act 320 = .ok (.iload 5, 2) := by decide +kernel
theorem dL_act_322 : decode cL_act 322 = .ok (.if_icmp .ne 7, 3) := by decide +kernel
theorem dL_act_325 : decode cL_act 325 = .ok (.iconst 1, 1) := by decide +kernel
theorem dL_act_326 : decode cL_act 326 = .ok (.goto 4, 3) := by decide +kernel
theorem dL_act_329 : decode cL_act 329 = .ok (.iconst 0, 1) := by decide +kernel
theorem dL_act_330 : decode cL_act 330 = .ok (.ireturn, 1) := by decide +kernel
theorem dL_act_331 : decode cL_act 331 = .ok (.aload_n 1, 1) := by decide +kernel
theorem dL_act_332 : decode cL_act 332 = .ok (.getfield 36, 3) := by decide +kernel
theorem dL_act_335 : decode cL_act 335 = .ok (.iload 4, 2) := by decide +kernel
theorem dL_act_337 : decode cL_act 337 = .ok (.aaload, 1) := by decide +kernel
theorem dL_act_338 : decode cL_act 338 = .ok (.iload_n 3, 1) := by decide +kernel
theorem dL_act_339 : decode cL_act 339 = .ok (.aload_n 1, 1) := by decide +kernel
theorem dL_act_340 : decode cL_act 340 = .ok (.getfield 36, 3) := by decide +kernel
theorem dL_act_343 : decode cL_act 343 = .ok (.iload 4, 2) := by decide +kernel
theorem dL_act_345 : decode cL_act 345 = .ok (.aaload, 1) := by decide +kernel
theorem dL_act_346 : decode cL_act 346 = .ok (.iload_n 3, 1) := by decide +kernel
theorem dL_act_347 : decode cL_act 347 = .ok (.iaload, 1) := by decide +kernel
theorem dL_act_348 : decode cL_act 348 = .ok (.ifCond .ge 7, 3) := by decide +kernel
theorem dL_act_351 : decode cL_act 351 = .ok (.iconst 0, 1) := by decide +kernel
theorem dL_act_352 : decode cL_act 352 = .ok (.goto 4, 3) := by decide +kernel
theorem dL_act_355 : decode cL_act 355 = .ok (.iconst (-1), 1) := by decide +kernel
theorem dL_act_356 : decode cL_act 356 = .ok (.iastore, 1) := by decide +kernel
theorem dL_act_357 : decode cL_act 357 = .ok (.aload_n 0, 1) := by decide +kernel
theorem dL_act_358 : decode cL_act 358 = .ok (.iload_n 3, 1) := by decide +kernel
theorem dL_act_359 : decode cL_act 359 = .ok (.iload 4, 2) := by decide +kernel
theorem dL_act_361 : decode cL_act 361 = .ok (.invokevirtual 61, 3) := by decide +kernel
theorem dL_act_364 : decode cL_act 364 = .ok (.aload_n 1, 1) := by decide +kernel
theorem dL_act_365 : decode cL_act 365 = .ok (.invokevirtual 28, 3) := by decide +kernel
theorem dL_act_368 : decode cL_act 368 = .ok (.if_icmp .ne 7, 3) := by decide +kernel
theorem dL_act_371 : decode cL_act 371 = .ok (.iconst 1, 1) := by decide +kernel
theorem dL_act_372 : decode cL_act 372 = .ok (.goto 4, 3) := by decide +kernel
theorem dL_act_375 : decode cL_act 375 = .ok (.iconst 0, 1) := by decide +kernel
theorem dL_act_376 : decode cL_act 376 = .ok (.ireturn, 1) := by decide +kernel
theorem dL_act_377 : decode cL_act 377 = .ok (.iload_n 2, 1) := by decide +kernel
theorem dL_act_378 : decode cL_act 378 = .ok (.bipush 8, 2) := by decide +kernel
theorem dL_act_380 : decode cL_act 380 = .ok (.ishr, 1) := by decide +kernel
theorem dL_act_381 : decode cL_act 381 = .ok (.iconst 4, 1) := by decide +kernel
theorem dL_act_382 : decode cL_act 382 = .ok (.invokestatic 19, 3) := by decide +kernel
theorem dL_act_385 : decode cL_act 385 = .ok (.istore 5, 2) := by decide +kernel
theorem dL_act_387 : decode cL_act 387 = .ok (.iload_n 2, 1) := by decide +kernel
theorem dL_act_388 : decode cL_act 388 = .ok (.bipush 10, 2) := by decide +kernel
theorem dL_act_390 : decode cL_act 390 = .ok (.ishr, 1) := by decide +kernel
theorem dL_act_391 : decode cL_act 391 = .ok (.iconst 4, 1) := by decide +kernel
theorem dL_act_392 : decode cL_act 392 = .ok (.invokestatic 19, 3) := by decide +kernel
theorem dL_act_395 : decode cL_act 395 = .ok (.istore 6, 2) := by decide +kernel
theorem dL_act_397 : decode cL_act 397 = .ok (.iconst 1, 1) := by decide +kernel
theorem dL_act_398 : decode cL_act 398 = .ok (.istore 7, 2) := by decide +kernel
theorem dL_act_400 : decode cL_act 400 = .ok (.iload 6, 2) := by decide +kernel
theorem dL_act_402 : decode cL_act 402 = .ok (.invokestatic 64, 3) := by decide +kernel
theorem dL_act_405 : decode cL_act 405 = .ok (.astore 8, 2) := by decide +kernel
theorem dL_act_407 : decode cL_act 407 = .ok (.aload 8, 2) := by decide +kernel
theorem dL_act_409 : decode cL_act 409 = .ok (.astore 9, 2) := by decide +kernel
theorem dL_act_411 : decode cL_act 411 = .ok (.aload 9, 2) := by decide +kernel
theorem dL_act_413 : decode cL_act 413 = .ok (.arraylength, 1) := by decide +kernel
theorem dL_act_414 : decode cL_act 414 = .ok (.istore 10, 2) := by decide +kernel
theorem dL_act_416 : decode cL_act 416 = .ok (.iconst 0, 1) := by decide +kernel
theorem dL_act_417 : decode cL_act 417 = .ok (.istore 11, 2) := by decide +kernel
theorem dL_act_419 : decode cL_act 419 = .ok (.iload 11, 2) := by decide +kernel
theorem dL_act_421 : decode cL_act 421 = .ok (.iload 10, 2) := by decide +kernel
theorem dL_act_423 : decode cL_act 423 = .ok (.if_icmp .ge 114, 3) := by decide +kernel
theorem dL_act_426 : decode cL_act 426 = .ok (.aload 9, 2) := by decide +kernel
theorem dL_act_428 : decode cL_act 428 = .ok (.iload 11, 2) := by decide +kernel
theorem dL_act_430 : decode cL_act 430 = .ok (.aaload, 1) := by decide +kernel
theorem dL_act_431 : decode cL_act 431 = .ok (.astore 12, 2) := by decide +kernel
theorem dL_act_433 : decode cL_act 433 = .ok (.aload 12, 2) := by decide +kernel
theorem dL_act_435 : decode cL_act 435 = .ok (.iconst 0, 1) := by decide +kernel
theorem dL_act_436 : decode cL_act 436 = .ok (.iaload, 1) := by decide +kernel
theorem dL_act_437 : decode cL_act 437 = .ok (.istore 13, 2) := by decide +kernel
theorem dL_act_439 : decode cL_act 439 = .ok (.aload 12, 2) := by decide +kernel
theorem dL_act_441 : decode cL_act 441 = .ok (.iconst 1, 1) := by decide +kernel
theorem dL_act_442 : decode cL_act 442 = .ok (.iaload, 1) := by decide +kernel
theorem dL_act_443 : decode cL_act 443 = .ok (.istore 14, 2) := by decide +kernel
theorem dL_act_445 : decode cL_act 445 = .ok (.iconst 0, 1) := by decide +kernel
theorem dL_act_446 : decode cL_act 446 = .ok (.istore 15, 2) := by decide +kernel
theorem dL_act_448 : decode cL_act 448 = .ok (.iload 15, 2) := by decide +kernel
theorem dL_act_450 : decode cL_act 450 = .ok (.iload 5, 2) := by decide +kernel
theorem dL_act_452 : decode cL_act 452 = .ok (.if_icmp .ge 23, 3) := by decide +kernel
theorem dL_act_455 : decode cL_act 455 = .ok (.iload 13, 2) := by decide +kernel
theorem dL_act_457 : decode cL_act 457 = .ok (.istore 16, 2) := by decide +kernel
theorem dL_act_459 : decode cL_act 459 = .ok (.iconst 2, 1) := by decide +kernel
theorem dL_act_460 : decode cL_act 460 = .ok (.iload 14, 2) := by decide +kernel
theorem dL_act_462 : decode cL_act 462 = .ok (.isub, 1) := by decide +kernel
theorem dL_act_463 : decode cL_act 463 = .ok (.istore 13, 2) := by decide +kernel
theorem dL_act_465 : decode cL_act 465 = .ok (.iload 16, 2) := by decide +kernel
theorem dL_act_467 : decode cL_act 467 = .ok (.istore 14, 2) := by decide +kernel
theorem dL_act_469 : decode cL_act 469 = .ok (.iinc 15 1, 3) := by decide +kernel
theorem dL_act_472 : decode cL_act 472 = .ok (.goto (-24), 3) := by decide +kernel
theorem dL_act_475 : decode cL_act 475 = .ok (.aload 12, 2) := by decide +kernel
theorem dL_act_477 : decode cL_act 477 = .ok (.iconst 0, 1) := by decide +kernel
theorem dL_act_478 : decode cL_act 478 = .ok (.iload_n 3, 1) := by decide +kernel
theorem dL_act_479 : decode cL_act 479 = .ok (.iload 13, 2) := by decide +kernel
theorem dL_act_481 : decode cL_act 481 = .ok (.iadd, 1) := by decide +kernel
theorem dL_act_482 : decode cL_act 482 = .ok (.iastore, 1) := by decide +kernel
theorem dL_act_483 : decode cL_act 483 = .ok (.aload 12, 2) := by decide +kernel
theorem dL_act_485 : decode cL_act 485 = .ok (.iconst 1, 1) := by decide +kernel
theorem dL_act_486 : decode cL_act 486 = .ok (.iload 4, 2) := by decide +kernel
theorem dL_act_488 : decode cL_act 488 = .ok (.iload 14, 2) := by decide +kernel
theorem dL_act_490 : decode cL_act 490 = .ok (.iadd, 1) := by decide +kernel
theorem dL_act_491 : decode cL_act 491 = .ok (.iastore, 1) := by decide +kernel
theorem dL_act_492 : decode cL_act 492 = .ok (.iload 7, 2) := by decide +kernel
theorem dL_act_494 : decode cL_act 494 = .ok (.aload_n 1, 1) := by decide +kernel
theorem dL_act_495 : decode cL_act 495 = .ok (.getfield 53, 3) := by decide +kernel
theorem dL_act_498 : decode cL_act 498 = .ok (.ifCond .ne 25, 3) := by decide +kernel
theorem dL_act_501 : decode cL_act 501 = .ok (.aload 12, 2) := by decide +kernel
theorem dL_act_503 : decode cL_act 503 = .ok (.iconst 0, 1) := by decide +kernel
theorem dL_act_504 : decode cL_act 504 = .ok (.iaload, 1) := by decide +kernel
theorem dL_act_505 : decode cL_act 505 = .ok (.aload_n 1, 1) := by decide +kernel
theorem dL_act_506 : decode cL_act 506 = .ok (.getfield 13, 3) := by decide +kernel
theorem dL_act_509 : decode cL_act 509 = .ok (.if_icmp .ge 18, 3) := by decide +kernel
theorem dL_act_512 : decode cL_act 512 = .ok (.aload 12, 2) := by decide +kernel
theorem dL_act_514 : decode cL_act 514 = .ok (.iconst 1, 1) := by decide +kernel
theorem dL_act_515 : decode cL_act 515 = .ok (.iaload, 1) := by decide +kernel
theorem dL_act_516 : decode cL_act 516 = .ok (.aload_n 1, 1) := by decide +kernel
theorem dL_act_517 : decode cL_act 517 = .ok (.getfield 25, 3) := by decide +kernel
theorem dL_act_520 : decode cL_act 520 = .ok (.if_icmp .ge 7, 3) := by decide +kernel
theorem dL_act_523 : decode cL_act 523 = .ok (.iconst 1, 1) := by decide +kernel
theorem dL_act_524 : decode cL_act 524 = .ok (.goto 4, 3) := by decide +kernel
theorem dL_act_527 : decode cL_act 527 = .ok (.iconst 0, 1) := by decide +kernel
theorem dL_act_528 : decode cL_act 528 = .ok (.iand, 1) := by decide +kernel
theorem dL_act_529 : decode cL_act 529 = .ok (.istore 7, 2) := by decide +kernel
theorem dL_act_531 : decode cL_act 531 = .ok (.iinc 11 1, 3) := by decide +kernel
theorem dL_act_534 : decode cL_act 534 = .ok (.goto (-115), 3) := by decide +kernel
theorem dL_act_537 : decode cL_act 537 = .ok (.aload 8, 2) := by decide +kernel
theorem dL_act_539 : decode cL_act 539 = .ok (.astore 9, 2) := by decide +kernel
theorem dL_act_541 : decode cL_act 541 = .ok (.aload 9, 2) := by decide +kernel
theorem dL_act_543 : decode cL_act 543 = .ok (.arraylength, 1) := by decide +kernel
theorem dL_act_544 : decode cL_act 544 = .ok (.istore 10, 2) := by decide +kernel
theorem dL_act_546 : decode cL_act 546 = .ok (.iconst 0, 1) := by decide +kernel
theorem dL_act_547 : decode cL_act 547 = .ok (.istore 11, 2) := by decide +kernel
theorem dL_act_549 : decode cL_act 549 = .ok (.iload 11, 2) := by decide +kernel
theorem dL_act_551 : decode cL_act 551 = .ok (.iload 10, 2) := by decide +kernel
theorem dL_act_553 : decode cL_act 553 = .ok (.if_icmp .ge 46, 3) := by decide +kernel
theorem dL_act_556 : decode cL_act 556 = .ok (.aload 9, 2) := by decide +kernel
theorem dL_act_558 : decode cL_act 558 = .ok (.iload 11, 2) := by decide +kernel
theorem dL_act_560 : decode cL_act 560 = .ok (.aaload, 1) := by decide +kernel
theorem dL_act_561 : decode cL_act 561 = .ok (.astore 12, 2) := by decide +kernel
theorem dL_act_563 : decode cL_act 563 = .ok (.iload 7, 2) := by decide +kernel
theorem dL_act_565 : decode cL_act 565 = .ok (.ifCond .eq 28, 3) := by decide +kernel
theorem dL_act_568 : decode cL_act 568 = .ok (.aload_n 1, 1) := by decide +kernel
theorem dL_act_569 : decode cL_act 569 = .ok (.getfield 36, 3) := by decide +kernel
theorem dL_act_572 : decode cL_act 572 = .ok (.aload 12, 2) := by decide +kernel
theorem dL_act_574 : decode cL_act 574 = .ok (.iconst 1, 1) := by decide +kernel
theorem dL_act_575 : decode cL_act 575 = .ok (.iaload, 1) := by decide +kernel
theorem dL_act_576 : decode cL_act 576 = .ok (.aload_n 1, 1) := by decide +kernel
theorem dL_act_577 : decode cL_act 577 = .ok (.getfield 25, 3) := by decide +kernel
theorem dL_act_580 : decode cL_act 580 = .ok (.irem, 1) := by decide +kernel
theorem dL_act_581 : decode cL_act 581 = .ok (.aaload, 1) := by decide +kernel
theorem dL_act_582 : decode cL_act 582 = .ok (.aload 12, 2) := by decide +kernel
theorem dL_act_584 : decode cL_act 584 = .ok (.iconst 0, 1) := by decide +kernel
theorem dL_act_585 : decode cL_act 585 = .ok (.iaload, 1) := by decide +kernel
theorem dL_act_586 : decode cL_act 586 = .ok (.aload_n 1, 1) := by decide +kernel
theorem dL_act_587 : decode cL_act 587 = .ok (.getfield 13, 3) := by decide +kernel
theorem dL_act_590 : decode cL_act 590 = .ok (.irem, 1) := by decide +kernel
theorem dL_act_591 : decode cL_act 591 = .ok (.iconst 0, 1) := by decide +kernel
theorem dL_act_592 : decode cL_act 592 = .ok (.iastore, 1) := by decide +kernel
theorem dL_act_593 : decode cL_act 593 = .ok (.iinc 11 1, 3) := by decide +kernel
theorem dL_act_596 : decode cL_act 596 = .ok (.goto (-47), 3) := by decide +kernel
theorem dL_act_599 : decode cL_act 599 = .ok (.aload_n 0, 1) := by decide +kernel
theorem dL_act_600 : decode cL_act 600 = .ok (.iload 6, 2) := by decide +kernel
theorem dL_act_602 : decode cL_act 602 = .ok (.iload 5, 2) := by decide +kernel
theorem dL_act_604 : decode cL_act 604 = .ok (.iload_n 3, 1) := by decide +kernel
theorem dL_act_605 : decode cL_act 605 = .ok (.iload 4, 2) := by decide +kernel
theorem dL_act_607 : decode cL_act 607 = .ok (.invokevirtual 68, 3) := by decide +kernel
theorem dL_act_610 : decode cL_act 610 = .ok (.istore 9, 2) := by decide +kernel
theorem dL_act_612 : decode cL_act 612 = .ok (.iload 7, 2) := by decide +kernel
theorem dL_act_614 : decode cL_act 614 = .ok (.ifCond .eq 16, 3) := by decide +kernel
theorem dL_act_617 : decode cL_act 617 = .ok (.iload 9, 2) := by decide +kernel
theorem dL_act_619 : decode cL_act 619 = .ok (.aload_n 1, 1) := by decide +kernel
theorem dL_act_620 : decode cL_act 620 = .ok (.invokevirtual 28, 3) := by decide +kernel
theorem dL_act_623 : decode cL_act 623 = .ok (.if_icmp .ne 7, 3) := by decide +kernel
theorem dL_act_626 : decode cL_act 626 = .ok (.iconst 1, 1) := by decide +kernel
theorem dL_act_627 : decode cL_act 627 = .ok (.goto 4, 3) := by decide +kernel
theorem dL_act_630 : decode cL_act 630 = .ok (.iconst 0, 1) := by decide +kernel
theorem dL_act_631 : decode cL_act 631 = .ok (.ireturn, 1) := by decide +kernel
theorem dL_act_632 : decode cL_act 632 = .ok (.astore 9, 2) := by decide +kernel
theorem dL_act_634 : decode cL_act 634 = .ok (.iload 7, 2) := by decide +kernel
theorem dL_act_636 : decode cL_act 636 = .ok (.ifCond .ne 7, 3) := by decide +kernel
theorem dL_act_639 : decode cL_act 639 = .ok (.iconst 1, 1) := by decide +kernel
theorem dL_act_640 : decode cL_act 640 = .ok (.goto 4, 3) := by decide +kernel
theorem dL_act_643 : decode cL_act 643 = .ok (.iconst 0, 1) := by decide +kernel
theorem dL_act_644 : decode cL_act 644 = .ok (.ireturn, 1) := by decide +kernel
set_option maxRecDepth 20000 in
theorem ggL_build_X6_init : GoodIn wsL_build wsX6_init := goodIn_r _ [6, 7, 8, 9, 10, 11, 12, 13, 14, 15, 16, 3, 17, 18, 19, 195, 196, 197, 198, 199, 200, 201, 202, 203] (by decide +kernel) (by decide +kernel)
set_option maxRecDepth 20000 in
theorem gL_build_X6_init_n74 : GoodIn wsL_build (wsX6_init) := ggL_build_X6_init
set_option maxRecDepth 20000 in
theorem ggL_build_L_cell : GoodIn wsL_build wsL_cell := goodIn_r _ [23, 24] (by decide +kernel) (by decide +kernel)
set_option maxRecDepth 20000 in
theorem gL_build_L_cell : GoodIn wsL_build (va_wsS RL 75 yL_cell wsL_cell) := goodIn_app (goodIn_of _ (by decide +kernel)) ggL_build_L_cell
set_option maxRecDepth 20000 in
theorem ggL_build_L_below : GoodIn wsL_build wsL_below := goodIn_r _ [27, 28] (by decide +kernel) (by decide +kernel)
set_option maxRecDepth 20000 in
theorem gL_build_L_below : GoodIn wsL_build (va_wsS RL 19 yL_below wsL_below) := goodIn_app (goodIn_of _ (by decide +kernel)) ggL_build_L_below
theorem dL_build_0 : decode cL_build 0 = .ok (.new 14, 3) := by decide +kernel
theorem dL_build_3 : decode cL_build 3 = .ok (.dup, 1) := by decide +kernel
theorem dL_build_4 : decode cL_build 4 = .ok (.invokespecial 74, 3) := by decide +kernel
theorem dL_build_7 : decode cL_build 7 = .ok (.astore_n 2, 1) := by decide +kernel
theorem dL_build_8 : decode cL_build 8 = .ok (.iconst 0, 1) := by decide +kernel
theorem dL_build_9 : decode cL_build 9 = .ok (.istore_n 3, 1) := by decide +kernel
theorem dL_build_10 : decode cL_build 10 = .ok (.iload_n 3, 1) := by decide +kernel
theorem dL_build_11 : decode cL_build 11 = .ok (.bipush 14, 2) := by decide +kernel
theorem dL_build_13 : decode cL_build 13 = .ok (.if_icmp .ge 71, 3) := by decide +kernel
theorem dL_build_16 : decode cL_build 16 = .ok (.aload_n 1, 1) := by decide +kernel
theorem dL_build_17 : decode cL_build 17 = .ok (.iload_n 3, 1) := by decide +kernel
theorem dL_build_18 : decode cL_build 18 = .ok (.invokestatic 75, 3) := by decide +kernel
theorem dL_build_21 : decode cL_build 21 = .ok (.bipush 59, 2) := by decide +kernel
theorem dL_build_23 : decode cL_build 23 = .ok (.iload_n 3, 1) := by decide +kernel
theorem dL_build_24 : decode cL_build 24 = .ok (.imul, 1) := by decide +kernel
theorem dL_build_25 : decode cL_build 25 = .ok (.iadd, 1) := by decide +kernel
theorem dL_build_26 : decode cL_build 26 = .ok (.istore 4, 2) := by decide +kernel
theorem dL_build_28 : decode cL_build 28 = .ok (.iload_n 3, 1) := by decide +kernel
theorem dL_build_29 : decode cL_build 29 = .ok (.iconst 3, 1) := by decide +kernel
theorem dL_build_30 : decode cL_build 30 = .ok (.if_icmp .ge 36, 3) := by decide +kernel
theorem dL_build_33 : decode cL_build 33 = .ok (.bipush 12, 2) := by decide +kernel
theorem dL_build_35 : decode cL_build 35 = .ok (.iconst 3, 1) := by decide +kernel
theorem dL_build_36 : decode cL_build 36 = .ok (.iload 4, 2) := by decide +kernel
theorem dL_build_38 : decode cL_build 38 = .ok (.ldc 79, 2) := by decide +kernel
theorem dL_build_40 : decode cL_build 40 = .ok (.invokestatic 19, 3) := by decide +kernel
theorem dL_build_43 : decode cL_build 43 = .ok (.imul, 1) := by decide +kernel
theorem dL_build_44 : decode cL_build 44 = .ok (.imul, 1) := by decide +kernel
theorem dL_build_45 : decode cL_build 45 = .ok (.iload_n 3, 1) := by decide +kernel
theorem dL_build_46 : decode cL_build 46 = .ok (.ifCond .ne 7, 3) := by decide +kernel
theorem dL_build_49 : decode cL_build 49 = .ok (.iconst 0, 1) := by decide +kernel
theorem dL_build_50 : decode cL_build 50 = .ok (.goto 13, 3) := by decide +kernel
theorem dL_build_53 : decode cL_build 53 = .ok (.iload_n 3, 1) := by decide +kernel
theorem dL_build_54 : decode cL_build 54 = .ok (.iconst 1, 1) := by decide +kernel
theorem dL_build_55 : decode cL_build 55 = .ok (.if_icmp .ne 7, 3) := by decide +kernel
theorem dL_build_58 : decode cL_build 58 = .ok (.iconst 1, 1) := by decide +kernel
theorem dL_build_59 : decode cL_build 59 = .ok (.goto 4, 3) := by decide +kernel
theorem dL_build_62 : decode cL_build 62 = .ok (.iconst 3, 1) := by decide +kernel
theorem dL_build_63 : decode cL_build 63 = .ok (.iadd, 1) := by decide +kernel
theorem dL_build_64 : decode cL_build 64 = .ok (.istore 4, 2) := by decide +kernel
theorem dL_build_66 : decode cL_build 66 = .ok (.aload_n 0, 1) := by decide +kernel
theorem dL_build_67 : decode cL_build 67 = .ok (.aload_n 2, 1) := by decide +kernel
theorem dL_build_68 : decode cL_build 68 = .ok (.iload 4, 2) := by decide +kernel
theorem dL_build_70 : decode cL_build 70 = .ok (.invokestatic 80, 3) := by decide +kernel
theorem dL_build_73 : decode cL_build 73 = .ok (.ifCond .ne 5, 3) := by decide +kernel
theorem dL_build_76 : decode cL_build 76 = .ok (.aconst_null, 1) := by decide +kernel
theorem dL_build_77 : decode cL_build 77 = .ok (.areturn, 1) := by decide +kernel
theorem dL_build_78 : decode cL_build 78 = .ok (.iinc 3 1, 3) := by decide +kernel
theorem dL_build_81 : decode cL_build 81 = .ok (.goto (-71), 3) := by decide +kernel
theorem dL_build_84 : decode cL_build 84 = .ok (.aload_n 2, 1) := by decide +kernel
theorem dL_build_85 : decode cL_build 85 = .ok (.areturn, 1) := by decide +kernel
set_option maxRecDepth 20000 in
theorem ggL_law_X5_init : GoodIn wsL_law wsX5_init := goodIn_r _ [11, 12, 13, 14, 15, 16, 17, 18, 19, 20, 21, 22, 23, 24, 25, 26, 27, 28, 29, 30, 31, 32, 33, 34, 35, 36, 37, 38, 39, 40, 41, 42, 43, 44, 45, 46, 47, 48, 49, 50, 3, 51, 52, 53, 54, 55, 56, 57, 58, 59, 60, 61, 62, 63, 64, 65, 66, 67, 497, 498, 499, 500, 501, 502, 503, 504, 492, 493, 494, 495, 496, 505, 506, 507, 508, 509, 510, 511, 512, 513, 514, 515, 516, 517, 518, 519] (by decide +kernel) (by decide +kernel)
set_option maxRecDepth 20000 in
theorem gL_law_X5_init : GoodIn wsL_law (wsX5_init) := ggL_law_X5_init
set_option maxRecDepth 20000 in
theorem ggL_law_L_cell : GoodIn wsL_law wsL_cell := goodIn_r _ [90, 91] (by decide +kernel) (by decide +kernel)
set_option maxRecDepth 20000 in
theorem gL_law_L_cell : GoodIn wsL_law (va_wsS RL 75 yL_cell wsL_cell) := goodIn_app (goodIn_of _ (by decide +kernel)) ggL_law_L_cell
set_option maxRecDepth 20000 in
theorem ggL_law_L_below : GoodIn wsL_law wsL_below := goodIn_r _ [94, 95] (by decide +kernel) (by decide +kernel)
set_option maxRecDepth 20000 in
theorem gL_law_L_below : GoodIn wsL_law (va_wsS RL 19 yL_below wsL_below) := goodIn_app (goodIn_of _ (by decide +kernel)) ggL_law_L_below
set_option maxRecDepth 20000 in
theorem ggL_law_X5_count : GoodIn wsL_law wsX5_count := goodIn_ca (goodIn_r _ [241, 177, 178, 26, 242, 243, 244, 2, 245, 18, 246, 247, 248, 25, 249, 250, 251, 227, 228, 17, 229, 58, 252, 234, 235, 236, 59, 120, 121, 122, 123, 124, 125, 126, 127, 128, 129, 130, 131, 253, 254, 255, 256, 257, 258, 259, 260, 261, 262, 164, 165, 166, 167, 168, 263, 264, 265, 266, 267, 268, 269, 270, 52, 140, 271, 272, 273, 274, 275, 276, 277, 278, 63, 279, 280, 281, 282, 283, 284, 285, 286, 287, 288, 289, 290, 291, 62, 292, 293, 294, 295, 64, 296, 297, 298, 299, 60, 300, 301, 302, 303, 61, 304, 305, 306, 307, 308, 6, 7, 8, 309, 310, 311, 312, 53, 313, 314, 315, 21, 316, 40, 43, 41, 317, 318, 319, 39, 320, 321, 322, 323, 324, 325, 326, 327, 328, 329, 330, 331, 332, 333, 334, 335, 336, 337, 338, 339, 340, 341, 342, 343, 344, 345, 346, 347, 348, 349, 51, 492, 493, 494, 495, 496, 509, 510, 511, 512, 513, 514, 515, 497, 498, 499, 500, 501, 502, 503, 504, 505, 506, 507, 508, 516, 517, 518, 519] (by decide +kernel) (by decide +kernel)) (goodIn_sub (fun _ h => List.mem_append_left _ (List.mem_append_right _ h)) (by decide +kernel))
set_option maxRecDepth 20000 in
theorem gL_law_X5_count : GoodIn wsL_law (wsV RL 89 RX5 yX5_count wsX5_count) := goodIn_app (goodIn_of _ (by decide +kernel)) ggL_law_X5_count
set_option maxRecDepth 20000 in
theorem ggL_law_X5_told : GoodIn wsL_law wsX5_told := goodIn_ca (goodIn_r _ [353, 177, 178, 18, 179, 180, 181, 17, 182, 58, 59, 354, 355, 356, 2, 357, 26, 22, 183, 66, 67, 184, 185, 186, 25, 187, 124, 132, 133, 134, 135, 358, 359, 360, 21, 361, 40, 43, 317, 318, 319, 39, 320, 321, 322, 323, 324, 325, 297, 298, 299, 60, 279, 168, 326, 301, 302, 303, 61, 327, 289, 290, 291, 62, 328, 329, 330, 331, 332, 293, 294, 295, 64, 362, 363, 364, 365, 366, 367, 368, 369, 370, 371, 372, 51, 373, 272, 273, 274, 52, 275, 276, 277, 278, 63, 374, 281, 282, 283, 284, 285, 286, 287, 288, 292, 296, 300, 375, 126, 127, 128, 129, 130, 131, 376, 377, 378, 379, 380, 314, 315, 316, 41, 333, 334, 335, 336, 337, 338, 339, 340, 341, 342, 343, 344, 345, 381, 382, 383, 384, 42, 492, 493, 494, 495, 496, 497, 498, 499, 500, 501, 502, 503, 504, 509, 510, 511, 512, 513, 514, 515, 505, 506, 507, 508, 516, 517, 518, 519] (by decide +kernel) (by decide +kernel)) (goodIn_sub (fun _ h => List.mem_append_left _ (List.mem_append_right _ h)) (by decide +kernel))
set_option maxRecDepth 20000 in
theorem gL_law_X5_told : GoodIn wsL_law (wsV RL 93 RX5 yX5_told wsX5_told) := goodIn_app (goodIn_of _ (by decide +kernel)) ggL_law_X5_told
set_option maxRecDepth 20000 in
theorem ggL_law_X5_way : GoodIn wsL_law wsX5_way := goodIn_ca (goodIn_r _ [388, 177, 178, 18, 26, 179, 180, 181, 17, 182, 58, 59, 183, 66, 67, 373, 272, 273, 25, 274, 52, 124, 275, 276, 277, 278, 63, 279, 389, 390, 391, 392, 284, 285, 286, 287, 288, 289, 290, 291, 62, 168, 292, 293, 294, 295, 64, 296, 297, 298, 299, 60, 300, 301, 302, 303, 61, 492, 493, 494, 495, 496, 497, 498, 499, 500, 501, 502, 503, 504, 509, 510, 511, 512, 513, 514, 515] (by decide +kernel) (by decide +kernel)) (goodIn_sub (fun _ h => List.mem_append_left _ (List.mem_append_right _ h)) (by decide +kernel))
set_option maxRecDepth 20000 in
theorem gL_law_X5_way : GoodIn wsL_law (wsV RL 102 RX5 yX5_way wsX5_way) := goodIn_app (goodIn_of _ (by decide +kernel)) ggL_law_X5_way
set_option maxRecDepth 20000 in
theorem ggL_law_X5_digest : GoodIn wsL_law wsX5_digest := goodIn_r _ [396, 397, 398, 26, 22, 18, 242, 243, 244, 2, 245, 246, 247, 248, 25, 249, 250, 251, 227, 228, 17, 229, 58, 252, 234, 235, 236, 59, 120, 121, 122, 123, 124, 125, 126, 127, 128, 129, 130, 131, 253, 254, 255, 256, 257, 258, 259, 260, 261, 262, 164, 165, 166, 167, 168, 263, 264, 265, 266, 267, 268, 269, 270, 52, 140, 271, 272, 273, 274, 275, 276, 277, 278, 63, 279, 280, 281, 282, 283, 284, 285, 286, 287, 288, 289, 290, 291, 62, 292, 293, 294, 295, 64, 296, 297, 298, 299, 60, 300, 301, 302, 303, 61, 304, 305, 306, 307, 308, 6, 7, 8, 309, 310, 311, 312, 53, 313, 314, 315, 21, 316, 40, 43, 41, 317, 318, 319, 39, 320, 321, 322, 323, 324, 325, 326, 327, 328, 329, 330, 331, 332, 333, 334, 335, 336, 337, 338, 339, 340, 341, 342, 343, 344, 345, 346, 347, 348, 349, 51, 148, 149, 150, 151, 152, 153, 154, 155, 42, 354, 355, 356, 357, 183, 66, 67, 184, 185, 186, 187, 132, 133, 134, 135, 358, 359, 360, 361, 362, 363, 364, 365, 366, 367, 368, 369, 370, 371, 372, 373, 374, 375, 376, 377, 378, 379, 380, 381, 382, 383, 384, 492, 493, 494, 495, 496, 509, 510, 511, 512, 513, 514, 515, 497, 498, 499, 500, 501, 502, 503, 504, 505, 506, 507, 508, 516, 517, 518, 519] (by decide +kernel) (by decide +kernel)
set_option maxRecDepth 20000 in
theorem gL_law_X5_digest : GoodIn wsL_law (wsV RL 105 RX5 yX5_digest wsX5_digest) := goodIn_app (goodIn_of _ (by decide +kernel)) ggL_law_X5_digest
set_option maxRecDepth 20000 in
theorem ggL_law_X5_foresee : GoodIn wsL_law wsX5_foresee := goodIn_ca (goodIn_ca (goodIn_r _ [402, 115, 116, 177, 178, 27, 26, 403, 404, 2, 405, 406, 407, 408, 25, 409, 51, 124, 250, 257, 262, 410, 411, 412, 413, 414, 415, 416, 417, 53, 140, 313, 314, 315, 21, 316, 40, 43, 41, 317, 318, 319, 39, 320, 321, 322, 323, 324, 325, 297, 298, 17, 299, 60, 279, 168, 59, 326, 301, 302, 303, 61, 327, 289, 290, 291, 62, 58, 328, 329, 330, 331, 332, 293, 294, 295, 64, 333, 276, 277, 278, 63, 334, 335, 336, 337, 338, 339, 340, 341, 342, 343, 344, 345, 418, 382, 383, 384, 42, 125, 126, 127, 128, 129, 130, 131, 419, 189, 190, 191, 242, 243, 244, 245, 18, 246, 247, 248, 249, 251, 227, 228, 229, 252, 234, 235, 236, 120, 121, 122, 123, 253, 254, 255, 256, 258, 259, 260, 261, 164, 165, 166, 167, 263, 264, 265, 266, 267, 268, 269, 270, 52, 271, 272, 273, 274, 275, 280, 281, 282, 283, 284, 285, 286, 287, 288, 292, 296, 300, 304, 305, 306, 307, 308, 6, 7, 8, 309, 310, 311, 312, 346, 347, 348, 349, 492, 493, 494, 495, 496, 509, 510, 511, 512, 513, 514, 515, 505, 506, 507, 508, 516, 517, 518, 519, 497, 498, 499, 500, 501, 502, 503, 504] (by decide +kernel) (by decide +kernel)) (goodIn_sub (fun _ h => List.mem_append_left _ (List.mem_append_left _ (List.mem_append_right _ h))) (by decide +kernel))) (goodIn_sub (fun _ h => List.mem_append_left _ (List.mem_append_right _ h)) (by decide +kernel))
set_option maxRecDepth 20000 in
theorem gL_law_X5_foresee : GoodIn wsL_law (wsV RL 109 RX5 yX5_foresee wsX5_foresee) := goodIn_app (goodIn_of _ (by decide +kernel)) ggL_law_X5_foresee
set_option maxRecDepth 20000 in
theorem ggL_law_X5_period : GoodIn wsL_law wsX5_period := goodIn_ca (goodIn_r _ [423, 177, 178, 29, 424, 425, 426, 2, 427, 26, 22, 132, 133, 134, 25, 135, 124, 376, 377, 378, 21, 379, 380, 314, 315, 316, 40, 43, 41, 317, 318, 319, 39, 320, 321, 322, 323, 324, 325, 297, 298, 17, 299, 60, 279, 168, 59, 326, 301, 302, 303, 61, 327, 289, 290, 291, 62, 58, 328, 329, 330, 331, 332, 293, 294, 295, 64, 333, 276, 277, 278, 63, 334, 335, 336, 337, 338, 339, 340, 341, 342, 343, 344, 345, 381, 382, 383, 384, 42, 492, 493, 494, 495, 496, 509, 510, 511, 512, 513, 514, 515, 505, 506, 507, 508, 516, 517, 518, 519, 497, 498, 499, 500, 501, 502, 503, 504] (by decide +kernel) (by decide +kernel)) (goodIn_sub (fun _ h => List.mem_append_left _ (List.mem_append_right _ h)) (by decide +kernel))
set_option maxRecDepth 20000 in
theorem gL_law_X5_period : GoodIn wsL_law (wsV RL 112 RX5 yX5_period wsX5_period) := goodIn_app (goodIn_of _ (by decide +kernel)) ggL_law_X5_period
set_option maxRecDepth 20000 in
theorem ggL_law_X5_advise : GoodIn wsL_law wsX5_advise := goodIn_ca (goodIn_r _ [431, 115, 116, 26, 18, 132, 133, 134, 25, 135, 124, 432, 433, 434, 2, 435, 22, 376, 377, 378, 21, 379, 380, 314, 315, 316, 40, 43, 41, 317, 318, 319, 39, 320, 321, 322, 323, 324, 325, 297, 298, 17, 299, 60, 279, 168, 59, 326, 301, 302, 303, 61, 327, 289, 290, 291, 62, 58, 328, 329, 330, 331, 332, 293, 294, 295, 64, 333, 276, 277, 278, 63, 334, 335, 336, 337, 338, 339, 340, 341, 342, 343, 344, 345, 381, 382, 383, 384, 42, 375, 126, 127, 128, 129, 130, 131, 252, 234, 235, 236, 251, 227, 228, 229, 183, 66, 67, 184, 185, 186, 187, 492, 493, 494, 495, 496, 509, 510, 511, 512, 513, 514, 515, 505, 506, 507, 508, 516, 517, 518, 519, 497, 498, 499, 500, 501, 502, 503, 504] (by decide +kernel) (by decide +kernel)) (goodIn_sub (fun _ h => List.mem_append_left _ (List.mem_append_left _ (List.mem_append_right _ h))) (by decide +kernel))
set_option maxRecDepth 20000 in
theorem gL_law_X5_advise : GoodIn wsL_law (wsV RL 115 RX5 yX5_advise wsX5_advise) := goodIn_app (goodIn_of _ (by decide +kernel)) ggL_law_X5_advise
set_option maxRecDepth 20000 in
theorem ggL_law_X5_pass : GoodIn wsL_law wsX5_pass := goodIn_ca (goodIn_r _ [439, 115, 116, 26, 403, 404, 2, 405, 410, 411, 412, 25, 413, 414, 415, 416, 417, 53, 124, 257, 262, 140, 51, 250, 313, 314, 315, 21, 316, 40, 43, 41, 317, 318, 319, 39, 320, 321, 322, 323, 324, 325, 297, 298, 17, 299, 60, 279, 168, 59, 326, 301, 302, 303, 61, 327, 289, 290, 291, 62, 58, 328, 329, 330, 331, 332, 293, 294, 295, 64, 333, 276, 277, 278, 63, 334, 335, 336, 337, 338, 339, 340, 341, 342, 343, 344, 345, 418, 382, 383, 384, 42, 125, 126, 127, 128, 129, 130, 131, 419, 189, 190, 191, 120, 121, 122, 123, 492, 493, 494, 495, 496, 509, 510, 511, 512, 513, 514, 515, 505, 506, 507, 508, 516, 517, 518, 519, 497, 498, 499, 500, 501, 502, 503, 504] (by decide +kernel) (by decide +kernel)) (goodIn_sub (fun _ h => List.mem_append_left _ (List.mem_append_left _ (List.mem_append_right _ h))) (by decide +kernel))
set_option maxRecDepth 20000 in
theorem gL_law_X5_pass : GoodIn wsL_law (wsV RL 118 RX5 yX5_pass wsX5_pass) := goodIn_app (goodIn_of _ (by decide +kernel)) ggL_law_X5_pass
set_option maxRecDepth 20000 in
theorem ggL_law_X6_go : GoodIn wsL_law wsX6_go := goodIn_r _ [443, 444, 445, 446, 74, 447, 79, 80, 83, 448, 449, 450, 84, 85, 86, 87, 3, 451, 452, 453, 454, 455, 456, 457, 458, 459, 82, 81, 460, 461, 462, 463, 464, 107, 108, 109, 520, 521, 522, 523, 524, 525, 526, 527, 528] (by decide +kernel) (by decide +kernel)
set_option maxRecDepth 20000 in
theorem gL_law_X6_go : GoodIn wsL_law (wsV RL 121 RX6 yX6_go wsX6_go) := goodIn_app (goodIn_of _ (by decide +kernel)) ggL_law_X6_go
theorem dL_law_0 : decode cL_law 0 = .ok (.new 40, 3) := by decide +kernel
theorem dL_law_3 : decode cL_law 3 = .ok (.dup, 1) := by decide +kernel
theorem dL_law_4 : decode cL_law 4 = .ok (.invokespecial 84, 3) := by decide +kernel
theorem dL_law_7 : decode cL_law 7 = .ok (.astore_n 1, 1) := by decide +kernel
theorem dL_law_8 : decode cL_law 8 = .ok (.aload_n 1, 1) := by decide +kernel
theorem dL_law_9 : decode cL_law 9 = .ok (.aload_n 0, 1) := by decide +kernel
theorem dL_law_10 : decode cL_law 10 = .ok (.invokestatic 85, 3) := by decide +kernel
theorem dL_law_13 : decode cL_law 13 = .ok (.astore_n 2, 1) := by decide +kernel
theorem dL_law_14 : decode cL_law 14 = .ok (.aload_n 2, 1) := by decide +kernel
theorem dL_law_15 : decode cL_law 15 = .ok (.ifnonnull 5, 3) := by decide +kernel
theorem dL_law_18 : decode cL_law 18 = .ok (.iconst 0, 1) := by decide +kernel
theorem dL_law_19 : decode cL_law 19 = .ok (.ireturn, 1) := by decide +kernel
theorem dL_law_20 : decode cL_law 20 = .ok (.bipush 7, 2) := by decide +kernel
theorem dL_law_22 : decode cL_law 22 = .ok (.newarray .int, 2) := by decide +kernel
theorem dL_law_24 : decode cL_law 24 = .ok (.dup, 1) := by decide +kernel
theorem dL_law_25 : decode cL_law 25 = .ok (.iconst 0, 1) := by decide +kernel
theorem dL_law_26 : decode cL_law 26 = .ok (.iconst 3, 1) := by decide +kernel
theorem dL_law_27 : decode cL_law 27 = .ok (.iastore, 1) := by decide +kernel
theorem dL_law_28 : decode cL_law 28 = .ok (.dup, 1) := by decide +kernel
theorem dL_law_29 : decode cL_law 29 = .ok (.iconst 1, 1) := by decide +kernel
theorem dL_law_30 : decode cL_law 30 = .ok (.iconst 4, 1) := by decide +kernel
theorem dL_law_31 : decode cL_law 31 = .ok (.iastore, 1) := by decide +kernel
theorem dL_law_32 : decode cL_law 32 = .ok (.dup, 1) := by decide +kernel
theorem dL_law_33 : decode cL_law 33 = .ok (.iconst 2, 1) := by decide +kernel
theorem dL_law_34 : decode cL_law 34 = .ok (.iconst 5, 1) := by decide +kernel
theorem dL_law_35 : decode cL_law 35 = .ok (.iastore, 1) := by decide +kernel
theorem dL_law_36 : decode cL_law 36 = .ok (.dup, 1) := by decide +kernel
theorem dL_law_37 : decode cL_law 37 = .ok (.iconst 3, 1) := by decide +kernel
theorem dL_law_38 : decode cL_law 38 = .ok (.bipush 7, 2) := by decide +kernel
theorem dL_law_40 : decode cL_law 40 = .ok (.iastore, 1) := by decide +kernel
theorem dL_law_41 : decode cL_law 41 = .ok (.dup, 1) := by decide +kernel
theorem dL_law_42 : decode cL_law 42 = .ok (.iconst 4, 1) := by decide +kernel
theorem dL_law_43 : decode cL_law 43 = .ok (.bipush 8, 2) := by decide +kernel
theorem dL_law_45 : decode cL_law 45 = .ok (.iastore, 1) := by decide +kernel
theorem dL_law_46 : decode cL_law 46 = .ok (.dup, 1) := by decide +kernel
theorem dL_law_47 : decode cL_law 47 = .ok (.iconst 5, 1) := by decide +kernel
theorem dL_law_48 : decode cL_law 48 = .ok (.bipush 9, 2) := by decide +kernel
theorem dL_law_50 : decode cL_law 50 = .ok (.iastore, 1) := by decide +kernel
theorem dL_law_51 : decode cL_law 51 = .ok (.dup, 1) := by decide +kernel
theorem dL_law_52 : decode cL_law 52 = .ok (.bipush 6, 2) := by decide +kernel
theorem dL_law_54 : decode cL_law 54 = .ok (.bipush 10, 2) := by decide +kernel
theorem dL_law_56 : decode cL_law 56 = .ok (.iastore, 1) := by decide +kernel
theorem dL_law_57 : decode cL_law 57 = .ok (.astore_n 3, 1) := by decide +kernel
theorem dL_law_58 : decode cL_law 58 = .ok (.iconst 0, 1) := by decide +kernel
theorem dL_law_59 : decode cL_law 59 = .ok (.istore 4, 2) := by decide +kernel
theorem dL_law_61 : decode cL_law 61 = .ok (.iload 4, 2) := by decide +kernel
theorem dL_law_63 : decode cL_law 63 = .ok (.bipush 10, 2) := by decide +kernel
theorem dL_law_65 : decode cL_law 65 = .ok (.if_icmp .ge 1050, 3) := by decide +kernel
theorem dL_law_68 : decode cL_law 68 = .ok (.aload_n 0, 1) := by decide +kernel
theorem dL_law_69 : decode cL_law 69 = .ok (.iload 4, 2) := by decide +kernel
theorem dL_law_71 : decode cL_law 71 = .ok (.invokestatic 75, 3) := by decide +kernel
theorem dL_law_74 : decode cL_law 74 = .ok (.bipush 53, 2) := by decide +kernel
theorem dL_law_76 : decode cL_law 76 = .ok (.iload 4, 2) := by decide +kernel
theorem dL_law_78 : decode cL_law 78 = .ok (.imul, 1) := by decide +kernel
theorem dL_law_79 : decode cL_law 79 = .ok (.iadd, 1) := by decide +kernel
theorem dL_law_80 : decode cL_law 80 = .ok (.istore 5, 2) := by decide +kernel
theorem dL_law_82 : decode cL_law 82 = .ok (.iload 5, 2) := by decide +kernel
theorem dL_law_84 : decode cL_law 84 = .ok (.iconst 4, 1) := by decide +kernel
theorem dL_law_85 : decode cL_law 85 = .ok (.invokestatic 19, 3) := by decide +kernel
theorem dL_law_88 : decode cL_law 88 = .ok (.ifCond .ne 17, 3) := by decide +kernel
theorem dL_law_91 : decode cL_law 91 = .ok (.aload_n 1, 1) := by decide +kernel
theorem dL_law_92 : decode cL_law 92 = .ok (.aload_n 2, 1) := by decide +kernel
theorem dL_law_93 : decode cL_law 93 = .ok (.iload 5, 2) := by decide +kernel
theorem dL_law_95 : decode cL_law 95 = .ok (.iconst 4, 1) := by decide +kernel
theorem dL_law_96 : decode cL_law 96 = .ok (.idiv, 1) := by decide +kernel
theorem dL_law_97 : decode cL_law 97 = .ok (.invokestatic 80, 3) := by decide +kernel
theorem dL_law_100 : decode cL_law 100 = .ok (.ifCond .ne 5, 3) := by decide +kernel
theorem dL_law_103 : decode cL_law 103 = .ok (.iconst 0, 1) := by decide +kernel
theorem dL_law_104 : decode cL_law 104 = .ok (.ireturn, 1) := by decide +kernel
theorem dL_law_105 : decode cL_law 105 = .ok (.aload_n 1, 1) := by decide +kernel
theorem dL_law_106 : decode cL_law 106 = .ok (.iconst 1, 1) := by decide +kernel
theorem dL_law_107 : decode cL_law 107 = .ok (.invokevirtual 89, 3) := by decide +kernel
theorem dL_law_110 : decode cL_law 110 = .ok (.istore 6, 2) := by decide +kernel
theorem dL_law_112 : decode cL_law 112 = .ok (.aload_n 1, 1) := by decide +kernel
theorem dL_law_113 : decode cL_law 113 = .ok (.iconst 2, 1) := by decide +kernel
theorem dL_law_114 : decode cL_law 114 = .ok (.invokevirtual 89, 3) := by decide +kernel
theorem dL_law_117 : decode cL_law 117 = .ok (.istore 7, 2) := by decide +kernel
theorem dL_law_119 : decode cL_law 119 = .ok (.iconst 0, 1) := by decide +kernel
theorem dL_law_120 : decode cL_law 120 = .ok (.istore 8, 2) := by decide +kernel
theorem dL_law_122 : decode cL_law 122 = .ok (.iconst 0, 1) := by decide +kernel
theorem dL_law_123 : decode cL_law 123 = .ok (.istore 9, 2) := by decide +kernel
theorem dL_law_125 : decode cL_law 125 = .ok (.iconst (-1), 1) := by decide +kernel
theorem dL_law_126 : decode cL_law 126 = .ok (.istore 10, 2) := by decide +kernel
theorem dL_law_128 : decode cL_law 128 = .ok (.iconst 0, 1) := by decide +kernel
theorem dL_law_129 : decode cL_law 129 = .ok (.istore 11, 2) := by decide +kernel
theorem dL_law_131 : decode cL_law 131 = .ok (.iload 6, 2) := by decide +kernel
theorem dL_law_133 : decode cL_law 133 = .ok (.iload 7, 2) := by decide +kernel
theorem dL_law_135 : decode cL_law 135 = .ok (.imul, 1) := by decide +kernel
theorem dL_law_136 : decode cL_law 136 = .ok (.newarray .int, 2) := by decide +kernel
theorem dL_law_138 : decode cL_law 138 = .ok (.astore 12, 2) := by decide +kernel
theorem dL_law_140 : decode cL_law 140 = .ok (.iload 6, 2) := by decide +kernel
theorem dL_law_142 : decode cL_law 142 = .ok (.iload 7, 2) := by decide +kernel
theorem dL_law_144 : decode cL_law 144 = .ok (.imul, 1) := by decide +kernel
theorem dL_law_145 : decode cL_law 145 = .ok (.newarray .int, 2) := by decide +kernel
theorem dL_law_147 : decode cL_law 147 = .ok (.astore 13, 2) := by decide +kernel
theorem dL_law_149 : decode cL_law 149 = .ok (.iload 6, 2) := by decide +kernel
theorem dL_law_151 : decode cL_law 151 = .ok (.iload 7, 2) := by decide +kernel
theorem dL_law_153 : decode cL_law 153 = .ok (.imul, 1) := by decide +kernel
theorem dL_law_154 : decode cL_law 154 = .ok (.newarray .boolean, 2) := by decide +kernel
theorem dL_law_156 : decode cL_law 156 = .ok (.astore 14, 2) := by decide +kernel
theorem dL_law_158 : decode cL_law 158 = .ok (.iconst 0, 1) := by decide +kernel
theorem dL_law_159 : decode cL_law 159 = .ok (.istore 15, 2) := by decide +kernel
theorem dL_law_161 : decode cL_law 161 = .ok (.iload 15, 2) := by decide +kernel
theorem dL_law_163 : decode cL_law 163 = .ok (.iload 6, 2) := by decide +kernel
theorem dL_law_165 : decode cL_law 165 = .ok (.iload 7, 2) := by decide +kernel
theorem dL_law_167 : decode cL_law 167 = .ok (.imul, 1) := by decide +kernel
theorem dL_law_168 : decode cL_law 168 = .ok (.if_icmp .ge 258, 3) := by decide +kernel
theorem dL_law_171 : decode cL_law 171 = .ok (.aload 12, 2) := by decide +kernel
theorem dL_law_173 : decode cL_law 173 = .ok (.iload 15, 2) := by decide +kernel
theorem dL_law_175 : decode cL_law 175 = .ok (.aload_n 1, 1) := by decide +kernel
theorem dL_law_176 : decode cL_law 176 = .ok (.iload 15, 2) := by decide +kernel
theorem dL_law_178 : decode cL_law 178 = .ok (.iload 6, 2) := by decide +kernel
theorem dL_law_180 : decode cL_law 180 = .ok (.irem, 1) := by decide +kernel
theorem dL_law_181 : decode cL_law 181 = .ok (.iload 15, 2) := by decide +kernel
theorem dL_law_183 : decode cL_law 183 = .ok (.iload 6, 2) := by decide +kernel
theorem dL_law_185 : decode cL_law 185 = .ok (.idiv, 1) := by decide +kernel
theorem dL_law_186 : decode cL_law 186 = .ok (.iconst 2, 1) := by decide +kernel
theorem dL_law_187 : decode cL_law 187 = .ok (.invokevirtual 93, 3) := by decide +kernel
theorem dL_law_190 : decode cL_law 190 = .ok (.iastore, 1) := by decide +kernel
theorem dL_law_191 : decode cL_law 191 = .ok (.aload 13, 2) := by decide +kernel
theorem dL_law_193 : decode cL_law 193 = .ok (.iload 15, 2) := by decide +kernel
theorem dL_law_195 : decode cL_law 195 = .ok (.aload_n 1, 1) := by decide +kernel
theorem dL_law_196 : decode cL_law 196 = .ok (.iload 15, 2) := by decide +kernel
theorem dL_law_198 : decode cL_law 198 = .ok (.iload 6, 2) := by decide +kernel
theorem dL_law_200 : decode cL_law 200 = .ok (.irem, 1) := by decide +kernel
theorem dL_law_201 : decode cL_law 201 = .ok (.iload 15, 2) := by decide +kernel
theorem dL_law_203 : decode cL_law 203 = .ok (.iload 6, 2) := by decide +kernel
theorem dL_law_205 : decode cL_law 205 = .ok (.idiv, 1) := by decide +kernel
theorem dL_law_206 : decode cL_law 206 = .ok (.iconst 3, 1) := by decide +kernel
theorem dL_law_207 : decode cL_law 207 = .ok (.invokevirtual 93, 3) := by decide +kernel
theorem dL_law_210 : decode cL_law 210 = .ok (.iastore, 1) := by decide +kernel
theorem dL_law_211 : decode cL_law 211 = .ok (.aload 14, 2) := by decide +kernel
theorem dL_law_213 : decode cL_law 213 = .ok (.iload 15, 2) := by decide +kernel
theorem dL_law_215 : decode cL_law 215 = .ok (.aload_n 1, 1) := by decide +kernel
theorem dL_law_216 : decode cL_law 216 = .ok (.iload 15, 2) := by decide +kernel
theorem dL_law_218 : decode cL_law 218 = .ok (.iload 6, 2) := by decide +kernel
theorem dL_law_220 : decode cL_law 220 = .ok (.irem, 1) := by decide +kernel
theorem dL_law_221 : decode cL_law 221 = .ok (.iload 15, 2) := by decide +kernel
theorem dL_law_223 : decode cL_law 223 = .ok (.iload 6, 2) := by decide +kernel
theorem dL_law_225 : decode cL_law 225 = .ok (.idiv, 1) := by decide +kernel
theorem dL_law_226 : decode cL_law 226 = .ok (.iconst 4, 1) := by decide +kernel
theorem dL_law_227 : decode cL_law 227 = .ok (.invokevirtual 93, 3) := by decide +kernel
theorem dL_law_230 : decode cL_law 230 = .ok (.iconst 1, 1) := by decide +kernel
theorem dL_law_231 : decode cL_law 231 = .ok (.if_icmp .ne 7, 3) := by decide +kernel
theorem dL_law_234 : decode cL_law 234 = .ok (.iconst 1, 1) := by decide +kernel
theorem dL_law_235 : decode cL_law 235 = .ok (.goto 4, 3) := by decide +kernel
theorem dL_law_238 : decode cL_law 238 = .ok (.iconst 0, 1) := by decide +kernel
theorem dL_law_239 : decode cL_law 239 = .ok (.bastore, 1) := by decide +kernel
theorem dL_law_240 : decode cL_law 240 = .ok (.iload 11, 2) := by decide +kernel
theorem dL_law_242 : decode cL_law 242 = .ok (.aload 14, 2) := by decide +kernel
theorem dL_law_244 : decode cL_law 244 = .ok (.iload 15, 2) := by decide +kernel
theorem dL_law_246 : decode cL_law 246 = .ok (.baload, 1) := by decide +kernel
theorem dL_law_247 : decode cL_law 247 = .ok (.ifCond .eq 7, 3) := by decide +kernel
theorem dL_law_250 : decode cL_law 250 = .ok (.iconst 1, 1) := by decide +kernel
theorem dL_law_251 : decode cL_law 251 = .ok (.goto 4, 3) := by decide +kernel
theorem dL_law_254 : decode cL_law 254 = .ok (.iconst 0, 1) := by decide +kernel
theorem dL_law_255 : decode cL_law 255 = .ok (.iadd, 1) := by decide +kernel
theorem dL_law_256 : decode cL_law 256 = .ok (.istore 11, 2) := by decide +kernel
theorem dL_law_258 : decode cL_law 258 = .ok (.iload 10, 2) := by decide +kernel
theorem dL_law_260 : decode cL_law 260 = .ok (.aload 12, 2) := by decide +kernel
theorem dL_law_262 : decode cL_law 262 = .ok (.iload 15, 2) := by decide +kernel
theorem dL_law_264 : decode cL_law 264 = .ok (.iaload, 1) := by decide +kernel
theorem dL_law_265 : decode cL_law 265 = .ok (.invokestatic 97, 3) := by decide +kernel
theorem dL_law_268 : decode cL_law 268 = .ok (.istore 10, 2) := by decide +kernel
theorem dL_law_270 : decode cL_law 270 = .ok (.iload 8, 2) := by decide +kernel
theorem dL_law_272 : decode cL_law 272 = .ok (.aload 12, 2) := by decide +kernel
theorem dL_law_274 : decode cL_law 274 = .ok (.iload 15, 2) := by decide +kernel
theorem dL_law_276 : decode cL_law 276 = .ok (.iaload, 1) := by decide +kernel
theorem dL_law_277 : decode cL_law 277 = .ok (.ifCond .ge 7, 3) := by decide +kernel
theorem dL_law_280 : decode cL_law 280 = .ok (.iconst 1, 1) := by decide +kernel
theorem dL_law_281 : decode cL_law 281 = .ok (.goto 4, 3) := by decide +kernel
theorem dL_law_284 : decode cL_law 284 = .ok (.iconst 0, 1) := by decide +kernel
theorem dL_law_285 : decode cL_law 285 = .ok (.iadd, 1) := by decide +kernel
theorem dL_law_286 : decode cL_law 286 = .ok (.istore 8, 2) := by decide +kernel
theorem dL_law_288 : decode cL_law 288 = .ok (.aload_n 1, 1) := by decide +kernel
theorem dL_law_289 : decode cL_law 289 = .ok (.iload 15, 2) := by decide +kernel
theorem dL_law_291 : decode cL_law 291 = .ok (.iload 6, 2) := by decide +kernel
theorem dL_law_293 : decode cL_law 293 = .ok (.irem, 1) := by decide +kernel
theorem dL_law_294 : decode cL_law 294 = .ok (.iload 15, 2) := by decide +kernel
theorem dL_law_296 : decode cL_law 296 = .ok (.iload 6, 2) := by decide +kernel
theorem dL_law_298 : decode cL_law 298 = .ok (.idiv, 1) := by decide +kernel
theorem dL_law_299 : decode cL_law 299 = .ok (.iconst 1, 1) := by decide +kernel
theorem dL_law_300 : decode cL_law 300 = .ok (.invokevirtual 93, 3) := by decide +kernel
theorem dL_law_303 : decode cL_law 303 = .ok (.istore 16, 2) := by decide +kernel
theorem dL_law_305 : decode cL_law 305 = .ok (.iload 9, 2) := by decide +kernel
theorem dL_law_307 : decode cL_law 307 = .ok (.aload 12, 2) := by decide +kernel
theorem dL_law_309 : decode cL_law 309 = .ok (.iload 15, 2) := by decide +kernel
theorem dL_law_311 : decode cL_law 311 = .ok (.iaload, 1) := by decide +kernel
theorem dL_law_312 : decode cL_law 312 = .ok (.ifCond .lt 8, 3) := by decide +kernel
theorem dL_law_315 : decode cL_law 315 = .ok (.iload 16, 2) := by decide +kernel
theorem dL_law_317 : decode cL_law 317 = .ok (.goto 4, 3) := by decide +kernel
theorem dL_law_320 : decode cL_law 320 = .ok (.iconst 0, 1) := by decide +kernel
theorem dL_law_321 : decode cL_law 321 = .ok (.iadd, 1) := by decide +kernel
theorem dL_law_322 : decode cL_law 322 = .ok (.istore 9, 2) := by decide +kernel
theorem dL_law_324 : decode cL_law 324 = .ok (.iload 16, 2) := by decide +kernel
theorem dL_law_326 : decode cL_law 326 = .ok (.ifCond .lt 92, 3) := by decide +kernel
theorem dL_law_329 : decode cL_law 329 = .ok (.iload 16, 2) := by decide +kernel
theorem dL_law_331 : decode cL_law 331 = .ok (.bipush 8, 2) := by decide +kernel
theorem dL_law_333 : decode cL_law 333 = .ok (.if_icmp .gt 85, 3) := by decide +kernel
theorem dL_law_336 : decode cL_law 336 = .ok (.aload 12, 2) := by decide +kernel
theorem dL_law_338 : decode cL_law 338 = .ok (.iload 15, 2) := by decide +kernel
theorem dL_law_340 : decode cL_law 340 = .ok (.iaload, 1) := by decide +kernel
theorem dL_law_341 : decode cL_law 341 = .ok (.ifCond .ge 7, 3) := by decide +kernel
theorem dL_law_344 : decode cL_law 344 = .ok (.iconst 1, 1) := by decide +kernel
theorem dL_law_345 : decode cL_law 345 = .ok (.goto 4, 3) := by decide +kernel
theorem dL_law_348 : decode cL_law 348 = .ok (.iconst 0, 1) := by decide +kernel
theorem dL_law_349 : decode cL_law 349 = .ok (.aload_n 1, 1) := by decide +kernel
theorem dL_law_350 : decode cL_law 350 = .ok (.iload 15, 2) := by decide +kernel
theorem dL_law_352 : decode cL_law 352 = .ok (.iload 6, 2) := by decide +kernel
theorem dL_law_354 : decode cL_law 354 = .ok (.irem, 1) := by decide +kernel
theorem dL_law_355 : decode cL_law 355 = .ok (.iload 15, 2) := by decide +kernel
theorem dL_law_357 : decode cL_law 357 = .ok (.iload 6, 2) := by decide +kernel
theorem dL_law_359 : decode cL_law 359 = .ok (.idiv, 1) := by decide +kernel
theorem dL_law_360 : decode cL_law 360 = .ok (.iconst 0, 1) := by decide +kernel
theorem dL_law_361 : decode cL_law 361 = .ok (.invokevirtual 93, 3) := by decide +kernel
theorem dL_law_364 : decode cL_law 364 = .ok (.ifCond .ne 7, 3) := by decide +kernel
theorem dL_law_367 : decode cL_law 367 = .ok (.iconst 1, 1) := by decide +kernel
theorem dL_law_368 : decode cL_law 368 = .ok (.goto 4, 3) := by decide +kernel
theorem dL_law_371 : decode cL_law 371 = .ok (.iconst 0, 1) := by decide +kernel
theorem dL_law_372 : decode cL_law 372 = .ok (.if_icmp .ne 46, 3) := by decide +kernel
theorem dL_law_375 : decode cL_law 375 = .ok (.aload 12, 2) := by decide +kernel
theorem dL_law_377 : decode cL_law 377 = .ok (.iload 15, 2) := by decide +kernel
theorem dL_law_379 : decode cL_law 379 = .ok (.iaload, 1) := by decide +kernel
theorem dL_law_380 : decode cL_law 380 = .ok (.ifCond .ge 7, 3) := by decide +kernel
theorem dL_law_383 : decode cL_law 383 = .ok (.iconst 1, 1) := by decide +kernel
theorem dL_law_384 : decode cL_law 384 = .ok (.goto 4, 3) := by decide +kernel
theorem dL_law_387 : decode cL_law 387 = .ok (.iconst 0, 1) := by decide +kernel
theorem dL_law_388 : decode cL_law 388 = .ok (.aload 13, 2) := by decide +kernel
theorem dL_law_390 : decode cL_law 390 = .ok (.iload 15, 2) := by decide +kernel
theorem dL_law_392 : decode cL_law 392 = .ok (.iaload, 1) := by decide +kernel
theorem dL_law_393 : decode cL_law 393 = .ok (.ifCond .le 7, 3) := by decide +kernel
theorem dL_law_396 : decode cL_law 396 = .ok (.iconst 1, 1) := by decide +kernel
theorem dL_law_397 : decode cL_law 397 = .ok (.goto 4, 3) := by decide +kernel
theorem dL_law_400 : decode cL_law 400 = .ok (.iconst 0, 1) := by decide +kernel
theorem dL_law_401 : decode cL_law 401 = .ok (.if_icmp .ne 17, 3) := by decide +kernel
theorem dL_law_404 : decode cL_law 404 = .ok (.aload 13, 2) := by decide +kernel
theorem dL_law_406 : decode cL_law 406 = .ok (.iload 15, 2) := by decide +kernel
theorem dL_law_408 : decode cL_law 408 = .ok (.iaload, 1) := by decide +kernel
theorem dL_law_409 : decode cL_law 409 = .ok (.aload_n 1, 1) := by decide +kernel
theorem dL_law_410 : decode cL_law 410 = .ok (.bipush 8, 2) := by decide +kernel
theorem dL_law_412 : decode cL_law 412 = .ok (.invokevirtual 89, 3) := by decide +kernel
theorem dL_law_415 : decode cL_law 415 = .ok (.if_icmp .le 5, 3) := by decide +kernel
theorem dL_law_418 : decode cL_law 418 = .ok (.iconst 0, 1) := by decide +kernel
theorem dL_law_419 : decode cL_law 419 = .ok (.ireturn, 1) := by decide +kernel
theorem dL_law_420 : decode cL_law 420 = .ok (.iinc 15 1, 3) := by decide +kernel
theorem dL_law_423 : decode cL_law 423 = .ok (.goto (-262), 3) := by decide +kernel
theorem dL_law_426 : decode cL_law 426 = .ok (.iload 8, 2) := by decide +kernel
theorem dL_law_428 : decode cL_law 428 = .ok (.aload_n 1, 1) := by decide +kernel
theorem dL_law_429 : decode cL_law 429 = .ok (.iconst 3, 1) := by decide +kernel
theorem dL_law_430 : decode cL_law 430 = .ok (.invokevirtual 89, 3) := by decide +kernel
theorem dL_law_433 : decode cL_law 433 = .ok (.iadd, 1) := by decide +kernel
theorem dL_law_434 : decode cL_law 434 = .ok (.iload 6, 2) := by decide +kernel
theorem dL_law_436 : decode cL_law 436 = .ok (.iload 7, 2) := by decide +kernel
theorem dL_law_438 : decode cL_law 438 = .ok (.imul, 1) := by decide +kernel
theorem dL_law_439 : decode cL_law 439 = .ok (.if_icmp .ne 85, 3) := by decide +kernel
theorem dL_law_442 : decode cL_law 442 = .ok (.iload 9, 2) := by decide +kernel
theorem dL_law_444 : decode cL_law 444 = .ok (.iconst 2, 1) := by decide +kernel
theorem dL_law_445 : decode cL_law 445 = .ok (.irem, 1) := by decide +kernel
theorem dL_law_446 : decode cL_law 446 = .ok (.ifCond .ne 78, 3) := by decide +kernel
theorem dL_law_449 : decode cL_law 449 = .ok (.iload 10, 2) := by decide +kernel
theorem dL_law_451 : decode cL_law 451 = .ok (.aload_n 1, 1) := by decide +kernel
theorem dL_law_452 : decode cL_law 452 = .ok (.bipush 10, 2) := by decide +kernel
theorem dL_law_454 : decode cL_law 454 = .ok (.invokevirtual 89, 3) := by decide +kernel
theorem dL_law_457 : decode cL_law 457 = .ok (.if_icmp .ne 67, 3) := by decide +kernel
theorem dL_law_460 : decode cL_law 460 = .ok (.aload_n 1, 1) := by decide +kernel
theorem dL_law_461 : decode cL_law 461 = .ok (.bipush 7, 2) := by decide +kernel
theorem dL_law_463 : decode cL_law 463 = .ok (.invokevirtual 89, 3) := by decide +kernel
theorem dL_law_466 : decode cL_law 466 = .ok (.ifCond .ne 7, 3) := by decide +kernel
theorem dL_law_469 : decode cL_law 469 = .ok (.iconst 1, 1) := by decide +kernel
theorem dL_law_470 : decode cL_law 470 = .ok (.goto 4, 3) := by decide +kernel
theorem dL_law_473 : decode cL_law 473 = .ok (.iconst 0, 1) := by decide +kernel
theorem dL_law_474 : decode cL_law 474 = .ok (.iload 8, 2) := by decide +kernel
theorem dL_law_476 : decode cL_law 476 = .ok (.ifCond .ne 7, 3) := by decide +kernel
theorem dL_law_479 : decode cL_law 479 = .ok (.iconst 1, 1) := by decide +kernel
theorem dL_law_480 : decode cL_law 480 = .ok (.goto 4, 3) := by decide +kernel
theorem dL_law_483 : decode cL_law 483 = .ok (.iconst 0, 1) := by decide +kernel
theorem dL_law_484 : decode cL_law 484 = .ok (.if_icmp .ne 40, 3) := by decide +kernel
theorem dL_law_487 : decode cL_law 487 = .ok (.aload_n 1, 1) := by decide +kernel
theorem dL_law_488 : decode cL_law 488 = .ok (.bipush 7, 2) := by decide +kernel
theorem dL_law_490 : decode cL_law 490 = .ok (.invokevirtual 89, 3) := by decide +kernel
theorem dL_law_493 : decode cL_law 493 = .ok (.iload 8, 2) := by decide +kernel
theorem dL_law_495 : decode cL_law 495 = .ok (.if_icmp .gt 29, 3) := by decide +kernel
theorem dL_law_498 : decode cL_law 498 = .ok (.aload_n 1, 1) := by decide +kernel
theorem dL_law_499 : decode cL_law 499 = .ok (.bipush 8, 2) := by decide +kernel
theorem dL_law_501 : decode cL_law 501 = .ok (.invokevirtual 89, 3) := by decide +kernel
theorem dL_law_504 : decode cL_law 504 = .ok (.iload 8, 2) := by decide +kernel
theorem dL_law_506 : decode cL_law 506 = .ok (.if_icmp .gt 18, 3) := by decide +kernel
theorem dL_law_509 : decode cL_law 509 = .ok (.aload_n 1, 1) := by decide +kernel
theorem dL_law_510 : decode cL_law 510 = .ok (.bipush 9, 2) := by decide +kernel
theorem dL_law_512 : decode cL_law 512 = .ok (.invokevirtual 89, 3) := by decide +kernel
theorem dL_law_515 : decode cL_law 515 = .ok (.aload_n 1, 1) := by decide +kernel
theorem dL_law_516 : decode cL_law 516 = .ok (.bipush 7, 2) := by decide +kernel
theorem dL_law_518 : decode cL_law 518 = .ok (.invokevirtual 89, 3) := by decide +kernel
theorem dL_law_521 : decode cL_law 521 = .ok (.if_icmp .le 5, 3) := by decide +kernel
theorem dL_law_524 : decode cL_law 524 = .ok (.iconst 0, 1) := by decide +kernel
theorem dL_law_525 : decode cL_law 525 = .ok (.ireturn, 1) := by decide +kernel
theorem dL_law_526 : decode cL_law 526 = .ok (.iload 5, 2) := by decide +kernel
theorem dL_law_528 : decode cL_law 528 = .ok (.iconst 2, 1) := by decide +kernel
theorem dL_law_529 : decode cL_law 529 = .ok (.ishr, 1) := by decide +kernel
theorem dL_law_530 : decode cL_law 530 = .ok (.iload 6, 2) := by decide +kernel
theorem dL_law_532 : decode cL_law 532 = .ok (.iload 7, 2) := by decide +kernel
theorem dL_law_534 : decode cL_law 534 = .ok (.imul, 1) := by decide +kernel
theorem dL_law_535 : decode cL_law 535 = .ok (.invokestatic 19, 3) := by decide +kernel
theorem dL_law_538 : decode cL_law 538 = .ok (.istore 15, 2) := by decide +kernel
theorem dL_law_540 : decode cL_law 540 = .ok (.iload 5, 2) := by decide +kernel
theorem dL_law_542 : decode cL_law 542 = .ok (.iconst 5, 1) := by decide +kernel
theorem dL_law_543 : decode cL_law 543 = .ok (.ishr, 1) := by decide +kernel
theorem dL_law_544 : decode cL_law 544 = .ok (.iload 6, 2) := by decide +kernel
theorem dL_law_546 : decode cL_law 546 = .ok (.iload 7, 2) := by decide +kernel
theorem dL_law_548 : decode cL_law 548 = .ok (.imul, 1) := by decide +kernel
theorem dL_law_549 : decode cL_law 549 = .ok (.invokestatic 19, 3) := by decide +kernel
theorem dL_law_552 : decode cL_law 552 = .ok (.istore 16, 2) := by decide +kernel
theorem dL_law_554 : decode cL_law 554 = .ok (.aload_n 1, 1) := by decide +kernel
theorem dL_law_555 : decode cL_law 555 = .ok (.iload 15, 2) := by decide +kernel
theorem dL_law_557 : decode cL_law 557 = .ok (.iload 6, 2) := by decide +kernel
theorem dL_law_559 : decode cL_law 559 = .ok (.irem, 1) := by decide +kernel
theorem dL_law_560 : decode cL_law 560 = .ok (.iload 15, 2) := by decide +kernel
theorem dL_law_562 : decode cL_law 562 = .ok (.iload 6, 2) := by decide +kernel
theorem dL_law_564 : decode cL_law 564 = .ok (.idiv, 1) := by decide +kernel
theorem dL_law_565 : decode cL_law 565 = .ok (.iload 16, 2) := by decide +kernel
theorem dL_law_567 : decode cL_law 567 = .ok (.iload 6, 2) := by decide +kernel
theorem dL_law_569 : decode cL_law 569 = .ok (.irem, 1) := by decide +kernel
theorem dL_law_570 : decode cL_law 570 = .ok (.iload 16, 2) := by decide +kernel
theorem dL_law_572 : decode cL_law 572 = .ok (.iload 6, 2) := by decide +kernel
theorem dL_law_574 : decode cL_law 574 = .ok (.idiv, 1) := by decide +kernel
theorem dL_law_575 : decode cL_law 575 = .ok (.invokevirtual 102, 3) := by decide +kernel
theorem dL_law_578 : decode cL_law 578 = .ok (.istore 17, 2) := by decide +kernel
theorem dL_law_580 : decode cL_law 580 = .ok (.iload 17, 2) := by decide +kernel
theorem dL_law_582 : decode cL_law 582 = .ok (.aload_n 1, 1) := by decide +kernel
theorem dL_law_583 : decode cL_law 583 = .ok (.iload 16, 2) := by decide +kernel
theorem dL_law_585 : decode cL_law 585 = .ok (.iload 6, 2) := by decide +kernel
theorem dL_law_587 : decode cL_law 587 = .ok (.irem, 1) := by decide +kernel
theorem dL_law_588 : decode cL_law 588 = .ok (.iload 16, 2) := by decide +kernel
theorem dL_law_590 : decode cL_law 590 = .ok (.iload 6, 2) := by decide +kernel
theorem dL_law_592 : decode cL_law 592 = .ok (.idiv, 1) := by decide +kernel
theorem dL_law_593 : decode cL_law 593 = .ok (.iload 15, 2) := by decide +kernel
theorem dL_law_595 : decode cL_law 595 = .ok (.iload 6, 2) := by decide +kernel
theorem dL_law_597 : decode cL_law 597 = .ok (.irem, 1) := by decide +kernel
theorem dL_law_598 : decode cL_law 598 = .ok (.iload 15, 2) := by decide +kernel
theorem dL_law_600 : decode cL_law 600 = .ok (.iload 6, 2) := by decide +kernel
theorem dL_law_602 : decode cL_law 602 = .ok (.idiv, 1) := by decide +kernel
theorem dL_law_603 : decode cL_law 603 = .ok (.invokevirtual 102, 3) := by decide +kernel
theorem dL_law_606 : decode cL_law 606 = .ok (.if_icmp .ne 64, 3) := by decide +kernel
theorem dL_law_609 : decode cL_law 609 = .ok (.iload 17, 2) := by decide +kernel
theorem dL_law_611 : decode cL_law 611 = .ok (.ifCond .lt 34, 3) := by decide +kernel
theorem dL_law_614 : decode cL_law 614 = .ok (.aload 13, 2) := by decide +kernel
theorem dL_law_616 : decode cL_law 616 = .ok (.iload 15, 2) := by decide +kernel
theorem dL_law_618 : decode cL_law 618 = .ok (.iaload, 1) := by decide +kernel
theorem dL_law_619 : decode cL_law 619 = .ok (.aload 13, 2) := by decide +kernel
theorem dL_law_621 : decode cL_law 621 = .ok (.iload 16, 2) := by decide +kernel
theorem dL_law_623 : decode cL_law 623 = .ok (.iaload, 1) := by decide +kernel
theorem dL_law_624 : decode cL_law 624 = .ok (.if_icmp .ne 46, 3) := by decide +kernel
theorem dL_law_627 : decode cL_law 627 = .ok (.aload 13, 2) := by decide +kernel
theorem dL_law_629 : decode cL_law 629 = .ok (.iload 15, 2) := by decide +kernel
theorem dL_law_631 : decode cL_law 631 = .ok (.iaload, 1) := by decide +kernel
theorem dL_law_632 : decode cL_law 632 = .ok (.ifCond .eq 38, 3) := by decide +kernel
theorem dL_law_635 : decode cL_law 635 = .ok (.iload 17, 2) := by decide +kernel
theorem dL_law_637 : decode cL_law 637 = .ok (.aload 13, 2) := by decide +kernel
theorem dL_law_639 : decode cL_law 639 = .ok (.iload 15, 2) := by decide +kernel
theorem dL_law_641 : decode cL_law 641 = .ok (.iaload, 1) := by decide +kernel
theorem dL_law_642 : decode cL_law 642 = .ok (.if_icmp .ge 28, 3) := by decide +kernel
theorem dL_law_645 : decode cL_law 645 = .ok (.iload 15, 2) := by decide +kernel
theorem dL_law_647 : decode cL_law 647 = .ok (.iload 16, 2) := by decide +kernel
theorem dL_law_649 : decode cL_law 649 = .ok (.if_icmp .ne 23, 3) := by decide +kernel
theorem dL_law_652 : decode cL_law 652 = .ok (.iload 17, 2) := by decide +kernel
theorem dL_law_654 : decode cL_law 654 = .ok (.aload 12, 2) := by decide +kernel
theorem dL_law_656 : decode cL_law 656 = .ok (.iload 15, 2) := by decide +kernel
theorem dL_law_658 : decode cL_law 658 = .ok (.iaload, 1) := by decide +kernel
theorem dL_law_659 : decode cL_law 659 = .ok (.ifCond .ge 7, 3) := by decide +kernel
theorem dL_law_662 : decode cL_law 662 = .ok (.iconst 0, 1) := by decide +kernel
theorem dL_law_663 : decode cL_law 663 = .ok (.goto 4, 3) := by decide +kernel
theorem dL_law_666 : decode cL_law 666 = .ok (.iconst (-1), 1) := by decide +kernel
theorem dL_law_667 : decode cL_law 667 = .ok (.if_icmp .eq 5, 3) := by decide +kernel
theorem dL_law_670 : decode cL_law 670 = .ok (.iconst 0, 1) := by decide +kernel
theorem dL_law_671 : decode cL_law 671 = .ok (.ireturn, 1) := by decide +kernel
theorem dL_law_672 : decode cL_law 672 = .ok (.aload_n 1, 1) := by decide +kernel
theorem dL_law_673 : decode cL_law 673 = .ok (.invokevirtual 105, 3) := by decide +kernel
theorem dL_law_676 : decode cL_law 676 = .ok (.lstore 18, 2) := by decide +kernel
theorem dL_law_678 : decode cL_law 678 = .ok (.bipush 11, 2) := by decide +kernel
theorem dL_law_680 : decode cL_law 680 = .ok (.newarray .int, 2) := by decide +kernel
theorem dL_law_682 : decode cL_law 682 = .ok (.astore 20, 2) := by decide +kernel
theorem dL_law_684 : decode cL_law 684 = .ok (.aload_n 3, 1) := by decide +kernel
theorem dL_law_685 : decode cL_law 685 = .ok (.astore 21, 2) := by decide +kernel
theorem dL_law_687 : decode cL_law 687 = .ok (.aload 21, 2) := by decide +kernel
theorem dL_law_689 : decode cL_law 689 = .ok (.arraylength, 1) := by decide +kernel
theorem dL_law_690 : decode cL_law 690 = .ok (.istore 22, 2) := by decide +kernel
theorem dL_law_692 : decode cL_law 692 = .ok (.iconst 0, 1) := by decide +kernel
theorem dL_law_693 : decode cL_law 693 = .ok (.istore 23, 2) := by decide +kernel
theorem dL_law_695 : decode cL_law 695 = .ok (.iload 23, 2) := by decide +kernel
theorem dL_law_697 : decode cL_law 697 = .ok (.iload 22, 2) := by decide +kernel
theorem dL_law_699 : decode cL_law 699 = .ok (.if_icmp .ge 28, 3) := by decide +kernel
theorem dL_law_702 : decode cL_law 702 = .ok (.aload 21, 2) := by decide +kernel
theorem dL_law_704 : decode cL_law 704 = .ok (.iload 23, 2) := by decide +kernel
theorem dL_law_706 : decode cL_law 706 = .ok (.iaload, 1) := by decide +kernel
theorem dL_law_707 : decode cL_law 707 = .ok (.istore 24, 2) := by decide +kernel
theorem dL_law_709 : decode cL_law 709 = .ok (.aload 20, 2) := by decide +kernel
theorem dL_law_711 : decode cL_law 711 = .ok (.iload 24, 2) := by decide +kernel
theorem dL_law_713 : decode cL_law 713 = .ok (.aload_n 1, 1) := by decide +kernel
theorem dL_law_714 : decode cL_law 714 = .ok (.iconst 1, 1) := by decide +kernel
theorem dL_law_715 : decode cL_law 715 = .ok (.iload 24, 2) := by decide +kernel
theorem dL_law_717 : decode cL_law 717 = .ok (.invokevirtual 109, 3) := by decide +kernel
theorem dL_law_720 : decode cL_law 720 = .ok (.iastore, 1) := by decide +kernel
theorem dL_law_721 : decode cL_law 721 = .ok (.iinc 23 1, 3) := by decide +kernel
theorem dL_law_724 : decode cL_law 724 = .ok (.goto (-29), 3) := by decide +kernel
theorem dL_law_727 : decode cL_law 727 = .ok (.aload_n 1, 1) := by decide +kernel
theorem dL_law_728 : decode cL_law 728 = .ok (.iconst 0, 1) := by decide +kernel
theorem dL_law_729 : decode cL_law 729 = .ok (.invokevirtual 112, 3) := by decide +kernel
theorem dL_law_732 : decode cL_law 732 = .ok (.istore 21, 2) := by decide +kernel
theorem dL_law_734 : decode cL_law 734 = .ok (.aload_n 1, 1) := by decide +kernel
theorem dL_law_735 : decode cL_law 735 = .ok (.iconst 1, 1) := by decide +kernel
theorem dL_law_736 : decode cL_law 736 = .ok (.invokevirtual 112, 3) := by decide +kernel
theorem dL_law_739 : decode cL_law 739 = .ok (.istore 22, 2) := by decide +kernel
theorem dL_law_741 : decode cL_law 741 = .ok (.iload 21, 2) := by decide +kernel
theorem dL_law_743 : decode cL_law 743 = .ok (.ifCond .lt 13, 3) := by decide +kernel
theorem dL_law_746 : decode cL_law 746 = .ok (.iload 21, 2) := by decide +kernel
theorem dL_law_748 : decode cL_law 748 = .ok (.iload 22, 2) := by decide +kernel
theorem dL_law_750 : decode cL_law 750 = .ok (.iadd, 1) := by decide +kernel
theorem dL_law_751 : decode cL_law 751 = .ok (.bipush 50, 2) := by decide +kernel
theorem dL_law_753 : decode cL_law 753 = .ok (.if_icmp .le 7, 3) := by decide +kernel
theorem dL_law_756 : decode cL_law 756 = .ok (.iconst (-1), 1) := by decide +kernel
theorem dL_law_757 : decode cL_law 757 = .ok (.goto 13, 3) := by decide +kernel
theorem dL_law_760 : decode cL_law 760 = .ok (.aload_n 1, 1) := by decide +kernel
theorem dL_law_761 : decode cL_law 761 = .ok (.iload 21, 2) := by decide +kernel
theorem dL_law_763 : decode cL_law 763 = .ok (.iload 22, 2) := by decide +kernel
theorem dL_law_765 : decode cL_law 765 = .ok (.iadd, 1) := by decide +kernel
theorem dL_law_766 : decode cL_law 766 = .ok (.iconst 3, 1) := by decide +kernel
theorem dL_law_767 : decode cL_law 767 = .ok (.invokevirtual 109, 3) := by decide +kernel
theorem dL_law_770 : decode cL_law 770 = .ok (.istore 23, 2) := by decide +kernel
theorem dL_law_772 : decode cL_law 772 = .ok (.iload 23, 2) := by decide +kernel
theorem dL_law_774 : decode cL_law 774 = .ok (.ifCond .ge 7, 3) := by decide +kernel
theorem dL_law_777 : decode cL_law 777 = .ok (.iconst (-1), 1) := by decide +kernel
theorem dL_law_778 : decode cL_law 778 = .ok (.goto 23, 3) := by decide +kernel
theorem dL_law_781 : decode cL_law 781 = .ok (.iload 21, 2) := by decide +kernel
theorem dL_law_783 : decode cL_law 783 = .ok (.ifCond .ne 11, 3) := by decide +kernel
theorem dL_law_786 : decode cL_law 786 = .ok (.aload_n 1, 1) := by decide +kernel
theorem dL_law_787 : decode cL_law 787 = .ok (.iconst 3, 1) := by decide +kernel
theorem dL_law_788 : decode cL_law 788 = .ok (.invokevirtual 89, 3) := by decide +kernel
theorem dL_law_791 : decode cL_law 791 = .ok (.goto 10, 3) := by decide +kernel
theorem dL_law_794 : decode cL_law 794 = .ok (.aload_n 1, 1) := by decide +kernel
theorem dL_law_795 : decode cL_law 795 = .ok (.iload 21, 2) := by decide +kernel
theorem dL_law_797 : decode cL_law 797 = .ok (.iconst 3, 1) := by decide +kernel
theorem dL_law_798 : decode cL_law 798 = .ok (.invokevirtual 109, 3) := by decide +kernel
theorem dL_law_801 : decode cL_law 801 = .ok (.istore 24, 2) := by decide +kernel
theorem dL_law_803 : decode cL_law 803 = .ok (.aload_n 1, 1) := by decide +kernel
theorem dL_law_804 : decode cL_law 804 = .ok (.iconst 1, 1) := by decide +kernel
theorem dL_law_805 : decode cL_law 805 = .ok (.invokevirtual 115, 3) := by decide +kernel
theorem dL_law_808 : decode cL_law 808 = .ok (.istore 25, 2) := by decide +kernel
theorem dL_law_810 : decode cL_law 810 = .ok (.iload 23, 2) := by decide +kernel
theorem dL_law_812 : decode cL_law 812 = .ok (.iload 24, 2) := by decide +kernel
theorem dL_law_814 : decode cL_law 814 = .ok (.if_icmp .ne 80, 3) := by decide +kernel
theorem dL_law_817 : decode cL_law 817 = .ok (.iload 21, 2) := by decide +kernel
theorem dL_law_819 : decode cL_law 819 = .ok (.ifCond .ge 7, 3) := by decide +kernel
theorem dL_law_822 : decode cL_law 822 = .ok (.iconst 1, 1) := by decide +kernel
theorem dL_law_823 : decode cL_law 823 = .ok (.goto 4, 3) := by decide +kernel
theorem dL_law_826 : decode cL_law 826 = .ok (.iconst 0, 1) := by decide +kernel
theorem dL_law_827 : decode cL_law 827 = .ok (.iload 22, 2) := by decide +kernel
theorem dL_law_829 : decode cL_law 829 = .ok (.ifCond .ge 7, 3) := by decide +kernel
theorem dL_law_832 : decode cL_law 832 = .ok (.iconst 1, 1) := by decide +kernel
theorem dL_law_833 : decode cL_law 833 = .ok (.goto 4, 3) := by decide +kernel
theorem dL_law_836 : decode cL_law 836 = .ok (.iconst 0, 1) := by decide +kernel
theorem dL_law_837 : decode cL_law 837 = .ok (.if_icmp .ne 57, 3) := by decide +kernel
theorem dL_law_840 : decode cL_law 840 = .ok (.iload 21, 2) := by decide +kernel
theorem dL_law_842 : decode cL_law 842 = .ok (.ifCond .lt 19, 3) := by decide +kernel
theorem dL_law_845 : decode cL_law 845 = .ok (.iload 22, 2) := by decide +kernel
theorem dL_law_847 : decode cL_law 847 = .ok (.iconst 1, 1) := by decide +kernel
theorem dL_law_848 : decode cL_law 848 = .ok (.if_icmp .lt 46, 3) := by decide +kernel
theorem dL_law_851 : decode cL_law 851 = .ok (.iload 21, 2) := by decide +kernel
theorem dL_law_853 : decode cL_law 853 = .ok (.iload 22, 2) := by decide +kernel
theorem dL_law_855 : decode cL_law 855 = .ok (.iadd, 1) := by decide +kernel
theorem dL_law_856 : decode cL_law 856 = .ok (.bipush 60, 2) := by decide +kernel
theorem dL_law_858 : decode cL_law 858 = .ok (.if_icmp .gt 36, 3) := by decide +kernel
theorem dL_law_861 : decode cL_law 861 = .ok (.iload 25, 2) := by decide +kernel
theorem dL_law_863 : decode cL_law 863 = .ok (.iload 6, 2) := by decide +kernel
theorem dL_law_865 : decode cL_law 865 = .ok (.iload 7, 2) := by decide +kernel
theorem dL_law_867 : decode cL_law 867 = .ok (.imul, 1) := by decide +kernel
theorem dL_law_868 : decode cL_law 868 = .ok (.if_icmp .ge 26, 3) := by decide +kernel
theorem dL_law_871 : decode cL_law 871 = .ok (.iload 25, 2) := by decide +kernel
theorem dL_law_873 : decode cL_law 873 = .ok (.ifCond .lt 11, 3) := by decide +kernel
theorem dL_law_876 : decode cL_law 876 = .ok (.aload 12, 2) := by decide +kernel
theorem dL_law_878 : decode cL_law 878 = .ok (.iload 25, 2) := by decide +kernel
theorem dL_law_880 : decode cL_law 880 = .ok (.iaload, 1) := by decide +kernel
theorem dL_law_881 : decode cL_law 881 = .ok (.ifCond .ge 13, 3) := by decide +kernel
theorem dL_law_884 : decode cL_law 884 = .ok (.aload_n 1, 1) := by decide +kernel
theorem dL_law_885 : decode cL_law 885 = .ok (.invokevirtual 105, 3) := by decide +kernel
theorem dL_law_888 : decode cL_law 888 = .ok (.lload 18, 2) := by decide +kernel
theorem dL_law_890 : decode cL_law 890 = .ok (.lcmp, 1) := by decide +kernel
theorem dL_law_891 : decode cL_law 891 = .ok (.ifCond .eq 5, 3) := by decide +kernel
theorem dL_law_894 : decode cL_law 894 = .ok (.iconst 0, 1) := by decide +kernel
theorem dL_law_895 : decode cL_law 895 = .ok (.ireturn, 1) := by decide +kernel
theorem dL_law_896 : decode cL_law 896 = .ok (.iconst 3, 1) := by decide +kernel
theorem dL_law_897 : decode cL_law 897 = .ok (.newarray .int, 2) := by decide +kernel
theorem dL_law_899 : decode cL_law 899 = .ok (.dup, 1) := by decide +kernel
theorem dL_law_900 : decode cL_law 900 = .ok (.iconst 0, 1) := by decide +kernel
theorem dL_law_901 : decode cL_law 901 = .ok (.aload_n 1, 1) := by decide +kernel
theorem dL_law_902 : decode cL_law 902 = .ok (.iconst 3, 1) := by decide +kernel
theorem dL_law_903 : decode cL_law 903 = .ok (.invokevirtual 89, 3) := by decide +kernel
theorem dL_law_906 : decode cL_law 906 = .ok (.iastore, 1) := by decide +kernel
theorem dL_law_907 : decode cL_law 907 = .ok (.dup, 1) := by decide +kernel
theorem dL_law_908 : decode cL_law 908 = .ok (.iconst 1, 1) := by decide +kernel
theorem dL_law_909 : decode cL_law 909 = .ok (.aload_n 1, 1) := by decide +kernel
theorem dL_law_910 : decode cL_law 910 = .ok (.iconst 4, 1) := by decide +kernel
theorem dL_law_911 : decode cL_law 911 = .ok (.invokevirtual 89, 3) := by decide +kernel
theorem dL_law_914 : decode cL_law 914 = .ok (.iastore, 1) := by decide +kernel
theorem dL_law_915 : decode cL_law 915 = .ok (.dup, 1) := by decide +kernel
theorem dL_law_916 : decode cL_law 916 = .ok (.iconst 2, 1) := by decide +kernel
theorem dL_law_917 : decode cL_law 917 = .ok (.aload_n 1, 1) := by decide +kernel
