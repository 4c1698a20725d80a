theorem dX11_plans_0 : decode cX11_plans 0 = .ok (.aload_n 0, 1) := by decide +kernel
theorem dX11_plans_1 : decode cX11_plans 1 = .ok (.iconst 0, 1) := by decide +kernel
theorem dX11_plans_2 : decode cX11_plans 2 = .ok (.putfield 1, 3) := by decide +kernel
theorem dX11_plans_5 : decode cX11_plans 5 = .ok (.aload_n 0, 1) := by decide +kernel
theorem dX11_plans_6 : decode cX11_plans 6 = .ok (.sipush 400, 3) := by decide +kernel
theorem dX11_plans_9 : decode cX11_plans 9 = .ok (.invokevirtual 236, 3) := by decide +kernel
theorem dX11_plans_12 : decode cX11_plans 12 = .ok (.aload_n 0, 1) := by decide +kernel
theorem dX11_plans_13 : decode cX11_plans 13 = .ok (.iconst 0, 1) := by decide +kernel
theorem dX11_plans_14 : decode cX11_plans 14 = .ok (.putfield 179, 3) := by decide +kernel
theorem dX11_plans_17 : decode cX11_plans 17 = .ok (.iconst 0, 1) := by decide +kernel
theorem dX11_plans_18 : decode cX11_plans 18 = .ok (.istore_n 1, 1) := by decide +kernel
theorem dX11_plans_19 : decode cX11_plans 19 = .ok (.iconst 0, 1) := by decide +kernel
theorem dX11_plans_20 : decode cX11_plans 20 = .ok (.istore_n 2, 1) := by decide +kernel
theorem dX11_plans_21 : decode cX11_plans 21 = .ok (.iload_n 2, 1) := by decide +kernel
theorem dX11_plans_22 : decode cX11_plans 22 = .ok (.bipush 27, 2) := by decide +kernel
theorem dX11_plans_24 : decode cX11_plans 24 = .ok (.if_icmp .ge 16, 3) := by decide +kernel
theorem dX11_plans_27 : decode cX11_plans 27 = .ok (.aload_n 0, 1) := by decide +kernel
theorem dX11_plans_28 : decode cX11_plans 28 = .ok (.getfield 40, 3) := by decide +kernel
theorem dX11_plans_31 : decode cX11_plans 31 = .ok (.iload_n 2, 1) := by decide +kernel
theorem dX11_plans_32 : decode cX11_plans 32 = .ok (.iconst 0, 1) := by decide +kernel
theorem dX11_plans_33 : decode cX11_plans 33 = .ok (.iastore, 1) := by decide +kernel
theorem dX11_plans_34 : decode cX11_plans 34 = .ok (.iinc 2 1, 3) := by decide +kernel
theorem dX11_plans_37 : decode cX11_plans 37 = .ok (.goto (-16), 3) := by decide +kernel
theorem dX11_plans_40 : decode cX11_plans 40 = .ok (.aload_n 0, 1) := by decide +kernel
theorem dX11_plans_41 : decode cX11_plans 41 = .ok (.invokevirtual 191, 3) := by decide +kernel
theorem dX11_plans_44 : decode cX11_plans 44 = .ok (.aload_n 0, 1) := by decide +kernel
theorem dX11_plans_45 : decode cX11_plans 45 = .ok (.getfield 162, 3) := by decide +kernel
theorem dX11_plans_48 : decode cX11_plans 48 = .ok (.ifCond .eq 32, 3) := by decide +kernel
theorem dX11_plans_51 : decode cX11_plans 51 = .ok (.aload_n 0, 1) := by decide +kernel
theorem dX11_plans_52 : decode cX11_plans 52 = .ok (.invokevirtual 251, 3) := by decide +kernel
theorem dX11_plans_55 : decode cX11_plans 55 = .ok (.ifCond .eq 12, 3) := by decide +kernel
theorem dX11_plans_58 : decode cX11_plans 58 = .ok (.aload_n 0, 1) := by decide +kernel
theorem dX11_plans_59 : decode cX11_plans 59 = .ok (.bipush 59, 2) := by decide +kernel
theorem dX11_plans_61 : decode cX11_plans 61 = .ok (.invokevirtual 245, 3) := by decide +kernel
theorem dX11_plans_64 : decode cX11_plans 64 = .ok (.ifCond .ne 10, 3) := by decide +kernel
theorem dX11_plans_67 : decode cX11_plans 67 = .ok (.iconst (-1), 1) := by decide +kernel
theorem dX11_plans_68 : decode cX11_plans 68 = .ok (.aload_n 0, 1) := by decide +kernel
theorem dX11_plans_69 : decode cX11_plans 69 = .ok (.getfield 182, 3) := by decide +kernel
theorem dX11_plans_72 : decode cX11_plans 72 = .ok (.isub, 1) := by decide +kernel
theorem dX11_plans_73 : decode cX11_plans 73 = .ok (.ireturn, 1) := by decide +kernel
theorem dX11_plans_74 : decode cX11_plans 74 = .ok (.iinc 1 1, 3) := by decide +kernel
theorem dX11_plans_77 : decode cX11_plans 77 = .ok (.goto (-33), 3) := by decide +kernel
theorem dX11_plans_80 : decode cX11_plans 80 = .ok (.iconst 0, 1) := by decide +kernel
theorem dX11_plans_81 : decode cX11_plans 81 = .ok (.istore_n 2, 1) := by decide +kernel
theorem dX11_plans_82 : decode cX11_plans 82 = .ok (.iload_n 2, 1) := by decide +kernel
theorem dX11_plans_83 : decode cX11_plans 83 = .ok (.bipush 27, 2) := by decide +kernel
theorem dX11_plans_85 : decode cX11_plans 85 = .ok (.if_icmp .ge 25, 3) := by decide +kernel
theorem dX11_plans_88 : decode cX11_plans 88 = .ok (.aload_n 0, 1) := by decide +kernel
theorem dX11_plans_89 : decode cX11_plans 89 = .ok (.getfield 33, 3) := by decide +kernel
theorem dX11_plans_92 : decode cX11_plans 92 = .ok (.sipush 427, 3) := by decide +kernel
theorem dX11_plans_95 : decode cX11_plans 95 = .ok (.iload_n 2, 1) := by decide +kernel
theorem dX11_plans_96 : decode cX11_plans 96 = .ok (.iadd, 1) := by decide +kernel
theorem dX11_plans_97 : decode cX11_plans 97 = .ok (.aload_n 0, 1) := by decide +kernel
theorem dX11_plans_98 : decode cX11_plans 98 = .ok (.getfield 40, 3) := by decide +kernel
theorem dX11_plans_101 : decode cX11_plans 101 = .ok (.iload_n 2, 1) := by decide +kernel
theorem dX11_plans_102 : decode cX11_plans 102 = .ok (.iaload, 1) := by decide +kernel
theorem dX11_plans_103 : decode cX11_plans 103 = .ok (.iastore, 1) := by decide +kernel
theorem dX11_plans_104 : decode cX11_plans 104 = .ok (.iinc 2 1, 3) := by decide +kernel
theorem dX11_plans_107 : decode cX11_plans 107 = .ok (.goto (-25), 3) := by decide +kernel
theorem dX11_plans_110 : decode cX11_plans 110 = .ok (.aload_n 0, 1) := by decide +kernel
theorem dX11_plans_111 : decode cX11_plans 111 = .ok (.getfield 33, 3) := by decide +kernel
theorem dX11_plans_114 : decode cX11_plans 114 = .ok (.sipush 454, 3) := by decide +kernel
theorem dX11_plans_117 : decode cX11_plans 117 = .ok (.iload_n 1, 1) := by decide +kernel
theorem dX11_plans_118 : decode cX11_plans 118 = .ok (.iastore, 1) := by decide +kernel
theorem dX11_plans_119 : decode cX11_plans 119 = .ok (.iload_n 1, 1) := by decide +kernel
theorem dX11_plans_120 : decode cX11_plans 120 = .ok (.ireturn, 1) := by decide +kernel
theorem dX11_isCell_0 : decode cX11_isCell 0 = .ok (.iload_n 1, 1) := by decide +kernel
theorem dX11_isCell_1 : decode cX11_isCell 1 = .ok (.ifCond .lt 33, 3) := by decide +kernel
theorem dX11_isCell_4 : decode cX11_isCell 4 = .ok (.iload_n 1, 1) := by decide +kernel
theorem dX11_isCell_5 : decode cX11_isCell 5 = .ok (.bipush 10, 2) := by decide +kernel
theorem dX11_isCell_7 : decode cX11_isCell 7 = .ok (.irem, 1) := by decide +kernel
theorem dX11_isCell_8 : decode cX11_isCell 8 = .ok (.aload_n 0, 1) := by decide +kernel
theorem dX11_isCell_9 : decode cX11_isCell 9 = .ok (.getfield 33, 3) := by decide +kernel
theorem dX11_isCell_12 : decode cX11_isCell 12 = .ok (.iconst 0, 1) := by decide +kernel
theorem dX11_isCell_13 : decode cX11_isCell 13 = .ok (.iaload, 1) := by decide +kernel
theorem dX11_isCell_14 : decode cX11_isCell 14 = .ok (.if_icmp .ge 20, 3) := by decide +kernel
theorem dX11_isCell_17 : decode cX11_isCell 17 = .ok (.iload_n 1, 1) := by decide +kernel
theorem dX11_isCell_18 : decode cX11_isCell 18 = .ok (.bipush 10, 2) := by decide +kernel
theorem dX11_isCell_20 : decode cX11_isCell 20 = .ok (.idiv, 1) := by decide +kernel
theorem dX11_isCell_21 : decode cX11_isCell 21 = .ok (.aload_n 0, 1) := by decide +kernel
theorem dX11_isCell_22 : decode cX11_isCell 22 = .ok (.getfield 33, 3) := by decide +kernel
theorem dX11_isCell_25 : decode cX11_isCell 25 = .ok (.iconst 1, 1) := by decide +kernel
theorem dX11_isCell_26 : decode cX11_isCell 26 = .ok (.iaload, 1) := by decide +kernel
theorem dX11_isCell_27 : decode cX11_isCell 27 = .ok (.if_icmp .ge 7, 3) := by decide +kernel
theorem dX11_isCell_30 : decode cX11_isCell 30 = .ok (.iconst 1, 1) := by decide +kernel
theorem dX11_isCell_31 : decode cX11_isCell 31 = .ok (.goto 4, 3) := by decide +kernel
theorem dX11_isCell_34 : decode cX11_isCell 34 = .ok (.iconst 0, 1) := by decide +kernel
theorem dX11_isCell_35 : decode cX11_isCell 35 = .ok (.ireturn, 1) := by decide +kernel
theorem dX11_isQuarter_0 : decode cX11_isQuarter 0 = .ok (.iload_n 1, 1) := by decide +kernel
theorem dX11_isQuarter_1 : decode cX11_isQuarter 1 = .ok (.iconst 0, 1) := by decide +kernel
theorem dX11_isQuarter_2 : decode cX11_isQuarter 2 = .ok (.aload_n 0, 1) := by decide +kernel
theorem dX11_isQuarter_3 : decode cX11_isQuarter 3 = .ok (.getfield 33, 3) := by decide +kernel
theorem dX11_isQuarter_6 : decode cX11_isQuarter 6 = .ok (.iconst 2, 1) := by decide +kernel
theorem dX11_isQuarter_7 : decode cX11_isQuarter 7 = .ok (.iaload, 1) := by decide +kernel
theorem dX11_isQuarter_8 : decode cX11_isQuarter 8 = .ok (.iconst 1, 1) := by decide +kernel
theorem dX11_isQuarter_9 : decode cX11_isQuarter 9 = .ok (.isub, 1) := by decide +kernel
theorem dX11_isQuarter_10 : decode cX11_isQuarter 10 = .ok (.invokestatic 194, 3) := by decide +kernel
theorem dX11_isQuarter_13 : decode cX11_isQuarter 13 = .ok (.ireturn, 1) := by decide +kernel
theorem dX11_isCart_0 : decode cX11_isCart 0 = .ok (.iload_n 1, 1) := by decide +kernel
theorem dX11_isCart_1 : decode cX11_isCart 1 = .ok (.iconst 0, 1) := by decide +kernel
theorem dX11_isCart_2 : decode cX11_isCart 2 = .ok (.aload_n 0, 1) := by decide +kernel
theorem dX11_isCart_3 : decode cX11_isCart 3 = .ok (.getfield 33, 3) := by decide +kernel
theorem dX11_isCart_6 : decode cX11_isCart 6 = .ok (.iconst 3, 1) := by decide +kernel
theorem dX11_isCart_7 : decode cX11_isCart 7 = .ok (.iaload, 1) := by decide +kernel
theorem dX11_isCart_8 : decode cX11_isCart 8 = .ok (.iconst 1, 1) := by decide +kernel
theorem dX11_isCart_9 : decode cX11_isCart 9 = .ok (.isub, 1) := by decide +kernel
theorem dX11_isCart_10 : decode cX11_isCart 10 = .ok (.invokestatic 194, 3) := by decide +kernel
theorem dX11_isCart_13 : decode cX11_isCart 13 = .ok (.ireturn, 1) := by decide +kernel
theorem dX11_apart_0 : decode cX11_apart 0 = .ok (.iload_n 0, 1) := by decide +kernel
theorem dX11_apart_1 : decode cX11_apart 1 = .ok (.bipush 10, 2) := by decide +kernel
theorem dX11_apart_3 : decode cX11_apart 3 = .ok (.irem, 1) := by decide +kernel
theorem dX11_apart_4 : decode cX11_apart 4 = .ok (.iload_n 1, 1) := by decide +kernel
theorem dX11_apart_5 : decode cX11_apart 5 = .ok (.bipush 10, 2) := by decide +kernel
theorem dX11_apart_7 : decode cX11_apart 7 = .ok (.irem, 1) := by decide +kernel
theorem dX11_apart_8 : decode cX11_apart 8 = .ok (.isub, 1) := by decide +kernel
theorem dX11_apart_9 : decode cX11_apart 9 = .ok (.invokestatic 254, 3) := by decide +kernel
theorem dX11_apart_12 : decode cX11_apart 12 = .ok (.iload_n 0, 1) := by decide +kernel
theorem dX11_apart_13 : decode cX11_apart 13 = .ok (.bipush 10, 2) := by decide +kernel
theorem dX11_apart_15 : decode cX11_apart 15 = .ok (.idiv, 1) := by decide +kernel
theorem dX11_apart_16 : decode cX11_apart 16 = .ok (.iload_n 1, 1) := by decide +kernel
theorem dX11_apart_17 : decode cX11_apart 17 = .ok (.bipush 10, 2) := by decide +kernel
theorem dX11_apart_19 : decode cX11_apart 19 = .ok (.idiv, 1) := by decide +kernel
theorem dX11_apart_20 : decode cX11_apart 20 = .ok (.isub, 1) := by decide +kernel
theorem dX11_apart_21 : decode cX11_apart 21 = .ok (.invokestatic 254, 3) := by decide +kernel
theorem dX11_apart_24 : decode cX11_apart 24 = .ok (.iadd, 1) := by decide +kernel
theorem dX11_apart_25 : decode cX11_apart 25 = .ok (.ireturn, 1) := by decide +kernel
theorem dX11_quarter_0 : decode cX11_quarter 0 = .ok (.aload_n 0, 1) := by decide +kernel
theorem dX11_quarter_1 : decode cX11_quarter 1 = .ok (.aload_n 0, 1) := by decide +kernel
theorem dX11_quarter_2 : decode cX11_quarter 2 = .ok (.iload_n 1, 1) := by decide +kernel
theorem dX11_quarter_3 : decode cX11_quarter 3 = .ok (.invokevirtual 258, 3) := by decide +kernel
theorem dX11_quarter_6 : decode cX11_quarter 6 = .ok (.ifCond .eq 13, 3) := by decide +kernel
theorem dX11_quarter_9 : decode cX11_quarter 9 = .ok (.iload_n 2, 1) := by decide +kernel
theorem dX11_quarter_10 : decode cX11_quarter 10 = .ok (.iconst 0, 1) := by decide +kernel
theorem dX11_quarter_11 : decode cX11_quarter 11 = .ok (.bipush 9, 2) := by decide +kernel
theorem dX11_quarter_13 : decode cX11_quarter 13 = .ok (.invokestatic 194, 3) := by decide +kernel
theorem dX11_quarter_16 : decode cX11_quarter 16 = .ok (.ifCond .ne 7, 3) := by decide +kernel
theorem dX11_quarter_19 : decode cX11_quarter 19 = .ok (.iconst 1, 1) := by decide +kernel
theorem dX11_quarter_20 : decode cX11_quarter 20 = .ok (.goto 4, 3) := by decide +kernel
theorem dX11_quarter_23 : decode cX11_quarter 23 = .ok (.iconst 0, 1) := by decide +kernel
theorem dX11_quarter_24 : decode cX11_quarter 24 = .ok (.invokevirtual 261, 3) := by decide +kernel
theorem dX11_quarter_27 : decode cX11_quarter 27 = .ok (.ifCond .eq 5, 3) := by decide +kernel
theorem dX11_quarter_30 : decode cX11_quarter 30 = .ok (.iconst 0, 1) := by decide +kernel
theorem dX11_quarter_31 : decode cX11_quarter 31 = .ok (.ireturn, 1) := by decide +kernel
theorem dX11_quarter_32 : decode cX11_quarter 32 = .ok (.aload_n 0, 1) := by decide +kernel
theorem dX11_quarter_33 : decode cX11_quarter 33 = .ok (.getfield 33, 3) := by decide +kernel
theorem dX11_quarter_36 : decode cX11_quarter 36 = .ok (.sipush 427, 3) := by decide +kernel
theorem dX11_quarter_39 : decode cX11_quarter 39 = .ok (.iload_n 1, 1) := by decide +kernel
theorem dX11_quarter_40 : decode cX11_quarter 40 = .ok (.iadd, 1) := by decide +kernel
theorem dX11_quarter_41 : decode cX11_quarter 41 = .ok (.iaload, 1) := by decide +kernel
theorem dX11_quarter_42 : decode cX11_quarter 42 = .ok (.ifCond .le 7, 3) := by decide +kernel
theorem dX11_quarter_45 : decode cX11_quarter 45 = .ok (.iconst 1, 1) := by decide +kernel
theorem dX11_quarter_46 : decode cX11_quarter 46 = .ok (.goto 4, 3) := by decide +kernel
theorem dX11_quarter_49 : decode cX11_quarter 49 = .ok (.iconst 0, 1) := by decide +kernel
theorem dX11_quarter_50 : decode cX11_quarter 50 = .ok (.istore_n 3, 1) := by decide +kernel
theorem dX11_quarter_51 : decode cX11_quarter 51 = .ok (.iload_n 2, 1) := by decide +kernel
theorem dX11_quarter_52 : decode cX11_quarter 52 = .ok (.tableswitch 167 0 8 #[52, 62, 72, 83, 94, 105, 116, 129, 148], 52) := by decide +kernel
theorem dX11_quarter_104 : decode cX11_quarter 104 = .ok (.aload_n 0, 1) := by decide +kernel
theorem dX11_quarter_105 : decode cX11_quarter 105 = .ok (.getfield 33, 3) := by decide +kernel
theorem dX11_quarter_108 : decode cX11_quarter 108 = .ok (.bipush 11, 2) := by decide +kernel
theorem dX11_quarter_110 : decode cX11_quarter 110 = .ok (.iload_n 1, 1) := by decide +kernel
theorem dX11_quarter_111 : decode cX11_quarter 111 = .ok (.iadd, 1) := by decide +kernel
theorem dX11_quarter_112 : decode cX11_quarter 112 = .ok (.iaload, 1) := by decide +kernel
theorem dX11_quarter_113 : decode cX11_quarter 113 = .ok (.ireturn, 1) := by decide +kernel
theorem dX11_quarter_114 : decode cX11_quarter 114 = .ok (.aload_n 0, 1) := by decide +kernel
theorem dX11_quarter_115 : decode cX11_quarter 115 = .ok (.getfield 33, 3) := by decide +kernel
theorem dX11_quarter_118 : decode cX11_quarter 118 = .ok (.bipush 29, 2) := by decide +kernel
theorem dX11_quarter_120 : decode cX11_quarter 120 = .ok (.iload_n 1, 1) := by decide +kernel
theorem dX11_quarter_121 : decode cX11_quarter 121 = .ok (.iadd, 1) := by decide +kernel
theorem dX11_quarter_122 : decode cX11_quarter 122 = .ok (.iaload, 1) := by decide +kernel
theorem dX11_quarter_123 : decode cX11_quarter 123 = .ok (.ireturn, 1) := by decide +kernel
theorem dX11_quarter_124 : decode cX11_quarter 124 = .ok (.aload_n 0, 1) := by decide +kernel
theorem dX11_quarter_125 : decode cX11_quarter 125 = .ok (.getfield 33, 3) := by decide +kernel
theorem dX11_quarter_128 : decode cX11_quarter 128 = .ok (.sipush 458, 3) := by decide +kernel
theorem dX11_quarter_131 : decode cX11_quarter 131 = .ok (.iload_n 1, 1) := by decide +kernel
theorem dX11_quarter_132 : decode cX11_quarter 132 = .ok (.iadd, 1) := by decide +kernel
theorem dX11_quarter_133 : decode cX11_quarter 133 = .ok (.iaload, 1) := by decide +kernel
theorem dX11_quarter_134 : decode cX11_quarter 134 = .ok (.ireturn, 1) := by decide +kernel
theorem dX11_quarter_135 : decode cX11_quarter 135 = .ok (.aload_n 0, 1) := by decide +kernel
theorem dX11_quarter_136 : decode cX11_quarter 136 = .ok (.getfield 33, 3) := by decide +kernel
theorem dX11_quarter_139 : decode cX11_quarter 139 = .ok (.sipush 467, 3) := by decide +kernel
theorem dX11_quarter_142 : decode cX11_quarter 142 = .ok (.iload_n 1, 1) := by decide +kernel
theorem dX11_quarter_143 : decode cX11_quarter 143 = .ok (.iadd, 1) := by decide +kernel
theorem dX11_quarter_144 : decode cX11_quarter 144 = .ok (.iaload, 1) := by decide +kernel
theorem dX11_quarter_145 : decode cX11_quarter 145 = .ok (.ireturn, 1) := by decide +kernel
theorem dX11_quarter_146 : decode cX11_quarter 146 = .ok (.aload_n 0, 1) := by decide +kernel
theorem dX11_quarter_147 : decode cX11_quarter 147 = .ok (.getfield 33, 3) := by decide +kernel
theorem dX11_quarter_150 : decode cX11_quarter 150 = .ok (.sipush 476, 3) := by decide +kernel
theorem dX11_quarter_153 : decode cX11_quarter 153 = .ok (.iload_n 1, 1) := by decide +kernel
theorem dX11_quarter_154 : decode cX11_quarter 154 = .ok (.iadd, 1) := by decide +kernel
theorem dX11_quarter_155 : decode cX11_quarter 155 = .ok (.iaload, 1) := by decide +kernel
theorem dX11_quarter_156 : decode cX11_quarter 156 = .ok (.ireturn, 1) := by decide +kernel
theorem dX11_quarter_157 : decode cX11_quarter 157 = .ok (.aload_n 0, 1) := by decide +kernel
theorem dX11_quarter_158 : decode cX11_quarter 158 = .ok (.getfield 33, 3) := by decide +kernel
theorem dX11_quarter_161 : decode cX11_quarter 161 = .ok (.sipush 485, 3) := by decide +kernel
theorem dX11_quarter_164 : decode cX11_quarter 164 = .ok (.iload_n 1, 1) := by decide +kernel
theorem dX11_quarter_165 : decode cX11_quarter 165 = .ok (.iadd, 1) := by decide +kernel
theorem dX11_quarter_166 : decode cX11_quarter 166 = .ok (.iaload, 1) := by decide +kernel
theorem dX11_quarter_167 : decode cX11_quarter 167 = .ok (.ireturn, 1) := by decide +kernel
theorem dX11_quarter_168 : decode cX11_quarter 168 = .ok (.aload_n 0, 1) := by decide +kernel
theorem dX11_quarter_169 : decode cX11_quarter 169 = .ok (.getfield 33, 3) := by decide +kernel
theorem dX11_quarter_172 : decode cX11_quarter 172 = .ok (.sipush 427, 3) := by decide +kernel
theorem dX11_quarter_175 : decode cX11_quarter 175 = .ok (.iload_n 1, 1) := by decide +kernel
theorem dX11_quarter_176 : decode cX11_quarter 176 = .ok (.iadd, 1) := by decide +kernel
theorem dX11_quarter_177 : decode cX11_quarter 177 = .ok (.iaload, 1) := by decide +kernel
theorem dX11_quarter_178 : decode cX11_quarter 178 = .ok (.iconst 1, 1) := by decide +kernel
theorem dX11_quarter_179 : decode cX11_quarter 179 = .ok (.isub, 1) := by decide +kernel
theorem dX11_quarter_180 : decode cX11_quarter 180 = .ok (.ireturn, 1) := by decide +kernel
theorem dX11_quarter_181 : decode cX11_quarter 181 = .ok (.iload_n 3, 1) := by decide +kernel
theorem dX11_quarter_182 : decode cX11_quarter 182 = .ok (.ifCond .eq 16, 3) := by decide +kernel
theorem dX11_quarter_185 : decode cX11_quarter 185 = .ok (.aload_n 0, 1) := by decide +kernel
theorem dX11_quarter_186 : decode cX11_quarter 186 = .ok (.getfield 33, 3) := by decide +kernel
theorem dX11_quarter_189 : decode cX11_quarter 189 = .ok (.sipush 436, 3) := by decide +kernel
theorem dX11_quarter_192 : decode cX11_quarter 192 = .ok (.iload_n 1, 1) := by decide +kernel
theorem dX11_quarter_193 : decode cX11_quarter 193 = .ok (.iadd, 1) := by decide +kernel
theorem dX11_quarter_194 : decode cX11_quarter 194 = .ok (.iaload, 1) := by decide +kernel
theorem dX11_quarter_195 : decode cX11_quarter 195 = .ok (.goto 4, 3) := by decide +kernel
theorem dX11_quarter_198 : decode cX11_quarter 198 = .ok (.iconst (-1), 1) := by decide +kernel
theorem dX11_quarter_199 : decode cX11_quarter 199 = .ok (.ireturn, 1) := by decide +kernel
theorem dX11_quarter_200 : decode cX11_quarter 200 = .ok (.iload_n 3, 1) := by decide +kernel
theorem dX11_quarter_201 : decode cX11_quarter 201 = .ok (.ifCond .eq 16, 3) := by decide +kernel
theorem dX11_quarter_204 : decode cX11_quarter 204 = .ok (.aload_n 0, 1) := by decide +kernel
theorem dX11_quarter_205 : decode cX11_quarter 205 = .ok (.getfield 33, 3) := by decide +kernel
theorem dX11_quarter_208 : decode cX11_quarter 208 = .ok (.sipush 445, 3) := by decide +kernel
theorem dX11_quarter_211 : decode cX11_quarter 211 = .ok (.iload_n 1, 1) := by decide +kernel
theorem dX11_quarter_212 : decode cX11_quarter 212 = .ok (.iadd, 1) := by decide +kernel
theorem dX11_quarter_213 : decode cX11_quarter 213 = .ok (.iaload, 1) := by decide +kernel
theorem dX11_quarter_214 : decode cX11_quarter 214 = .ok (.goto 4, 3) := by decide +kernel
theorem dX11_quarter_217 : decode cX11_quarter 217 = .ok (.iconst (-1), 1) := by decide +kernel
theorem dX11_quarter_218 : decode cX11_quarter 218 = .ok (.ireturn, 1) := by decide +kernel
theorem dX11_quarter_219 : decode cX11_quarter 219 = .ok (.aload_n 0, 1) := by decide +kernel
theorem dX11_quarter_220 : decode cX11_quarter 220 = .ok (.getfield 33, 3) := by decide +kernel
theorem dX11_quarter_223 : decode cX11_quarter 223 = .ok (.bipush 38, 2) := by decide +kernel
theorem dX11_quarter_225 : decode cX11_quarter 225 = .ok (.iload_n 1, 1) := by decide +kernel
theorem dX11_quarter_226 : decode cX11_quarter 226 = .ok (.iadd, 1) := by decide +kernel
theorem dX11_quarter_227 : decode cX11_quarter 227 = .ok (.iaload, 1) := by decide +kernel
theorem dX11_quarter_228 : decode cX11_quarter 228 = .ok (.iconst 1, 1) := by decide +kernel
theorem dX11_quarter_229 : decode cX11_quarter 229 = .ok (.isub, 1) := by decide +kernel
theorem dX11_quarter_230 : decode cX11_quarter 230 = .ok (.ireturn, 1) := by decide +kernel
theorem dX11_isThere_0 : decode cX11_isThere 0 = .ok (.iload_n 2, 1) := by decide +kernel
theorem dX11_isThere_1 : decode cX11_isThere 1 = .ok (.aload_n 0, 1) := by decide +kernel
theorem dX11_isThere_2 : decode cX11_isThere 2 = .ok (.getfield 33, 3) := by decide +kernel
theorem dX11_isThere_5 : decode cX11_isThere 5 = .ok (.bipush 47, 2) := by decide +kernel
theorem dX11_isThere_7 : decode cX11_isThere 7 = .ok (.iload_n 1, 1) := by decide +kernel
theorem dX11_isThere_8 : decode cX11_isThere 8 = .ok (.iadd, 1) := by decide +kernel
theorem dX11_isThere_9 : decode cX11_isThere 9 = .ok (.iaload, 1) := by decide +kernel
theorem dX11_isThere_10 : decode cX11_isThere 10 = .ok (.isub, 1) := by decide +kernel
theorem dX11_isThere_11 : decode cX11_isThere 11 = .ok (.iconst 0, 1) := by decide +kernel
theorem dX11_isThere_12 : decode cX11_isThere 12 = .ok (.iconst 3, 1) := by decide +kernel
theorem dX11_isThere_13 : decode cX11_isThere 13 = .ok (.invokestatic 194, 3) := by decide +kernel
theorem dX11_isThere_16 : decode cX11_isThere 16 = .ok (.ireturn, 1) := by decide +kernel
theorem dX11_cart_0 : decode cX11_cart 0 = .ok (.aload_n 0, 1) := by decide +kernel
theorem dX11_cart_1 : decode cX11_cart 1 = .ok (.aload_n 0, 1) := by decide +kernel
theorem dX11_cart_2 : decode cX11_cart 2 = .ok (.iload_n 1, 1) := by decide +kernel
theorem dX11_cart_3 : decode cX11_cart 3 = .ok (.invokevirtual 265, 3) := by decide +kernel
theorem dX11_cart_6 : decode cX11_cart 6 = .ok (.ifCond .eq 12, 3) := by decide +kernel
theorem dX11_cart_9 : decode cX11_cart 9 = .ok (.iload_n 2, 1) := by decide +kernel
theorem dX11_cart_10 : decode cX11_cart 10 = .ok (.iconst 0, 1) := by decide +kernel
theorem dX11_cart_11 : decode cX11_cart 11 = .ok (.iconst 5, 1) := by decide +kernel
theorem dX11_cart_12 : decode cX11_cart 12 = .ok (.invokestatic 194, 3) := by decide +kernel
theorem dX11_cart_15 : decode cX11_cart 15 = .ok (.ifCond .ne 7, 3) := by decide +kernel
theorem dX11_cart_18 : decode cX11_cart 18 = .ok (.iconst 1, 1) := by decide +kernel
theorem dX11_cart_19 : decode cX11_cart 19 = .ok (.goto 4, 3) := by decide +kernel
theorem dX11_cart_22 : decode cX11_cart 22 = .ok (.iconst 0, 1) := by decide +kernel
theorem dX11_cart_23 : decode cX11_cart 23 = .ok (.invokevirtual 261, 3) := by decide +kernel
theorem dX11_cart_26 : decode cX11_cart 26 = .ok (.ifCond .eq 5, 3) := by decide +kernel
theorem dX11_cart_29 : decode cX11_cart 29 = .ok (.iconst 0, 1) := by decide +kernel
theorem dX11_cart_30 : decode cX11_cart 30 = .ok (.ireturn, 1) := by decide +kernel
theorem dX11_cart_31 : decode cX11_cart 31 = .ok (.iload_n 2, 1) := by decide +kernel
theorem dX11_cart_32 : decode cX11_cart 32 = .ok (.tableswitch 88 0 4 #[36, 46, 56, 67, 77], 36) := by decide +kernel
theorem dX11_cart_68 : decode cX11_cart 68 = .ok (.aload_n 0, 1) := by decide +kernel
theorem dX11_cart_69 : decode cX11_cart 69 = .ok (.getfield 33, 3) := by decide +kernel
theorem dX11_cart_72 : decode cX11_cart 72 = .ok (.bipush 67, 2) := by decide +kernel
theorem dX11_cart_74 : decode cX11_cart 74 = .ok (.iload_n 1, 1) := by decide +kernel
theorem dX11_cart_75 : decode cX11_cart 75 = .ok (.iadd, 1) := by decide +kernel
theorem dX11_cart_76 : decode cX11_cart 76 = .ok (.iaload, 1) := by decide +kernel
theorem dX11_cart_77 : decode cX11_cart 77 = .ok (.ireturn, 1) := by decide +kernel
theorem dX11_cart_78 : decode cX11_cart 78 = .ok (.aload_n 0, 1) := by decide +kernel
theorem dX11_cart_79 : decode cX11_cart 79 = .ok (.getfield 33, 3) := by decide +kernel
theorem dX11_cart_82 : decode cX11_cart 82 = .ok (.bipush 47, 2) := by decide +kernel
theorem dX11_cart_84 : decode cX11_cart 84 = .ok (.iload_n 1, 1) := by decide +kernel
theorem dX11_cart_85 : decode cX11_cart 85 = .ok (.iadd, 1) := by decide +kernel
theorem dX11_cart_86 : decode cX11_cart 86 = .ok (.iaload, 1) := by decide +kernel
theorem dX11_cart_87 : decode cX11_cart 87 = .ok (.ireturn, 1) := by decide +kernel
theorem dX11_cart_88 : decode cX11_cart 88 = .ok (.aload_n 0, 1) := by decide +kernel
theorem dX11_cart_89 : decode cX11_cart 89 = .ok (.getfield 33, 3) := by decide +kernel
theorem dX11_cart_92 : decode cX11_cart 92 = .ok (.sipush 674, 3) := by decide +kernel
theorem dX11_cart_95 : decode cX11_cart 95 = .ok (.iload_n 1, 1) := by decide +kernel
theorem dX11_cart_96 : decode cX11_cart 96 = .ok (.iadd, 1) := by decide +kernel
theorem dX11_cart_97 : decode cX11_cart 97 = .ok (.iaload, 1) := by decide +kernel
theorem dX11_cart_98 : decode cX11_cart 98 = .ok (.ireturn, 1) := by decide +kernel
theorem dX11_cart_99 : decode cX11_cart 99 = .ok (.aload_n 0, 1) := by decide +kernel
theorem dX11_cart_100 : decode cX11_cart 100 = .ok (.getfield 33, 3) := by decide +kernel
theorem dX11_cart_103 : decode cX11_cart 103 = .ok (.bipush 107, 2) := by decide +kernel
theorem dX11_cart_105 : decode cX11_cart 105 = .ok (.iload_n 1, 1) := by decide +kernel
theorem dX11_cart_106 : decode cX11_cart 106 = .ok (.iadd, 1) := by decide +kernel
theorem dX11_cart_107 : decode cX11_cart 107 = .ok (.iaload, 1) := by decide +kernel
theorem dX11_cart_108 : decode cX11_cart 108 = .ok (.ireturn, 1) := by decide +kernel
theorem dX11_cart_109 : decode cX11_cart 109 = .ok (.aload_n 0, 1) := by decide +kernel
theorem dX11_cart_110 : decode cX11_cart 110 = .ok (.getfield 33, 3) := by decide +kernel
theorem dX11_cart_113 : decode cX11_cart 113 = .ok (.sipush 694, 3) := by decide +kernel
theorem dX11_cart_116 : decode cX11_cart 116 = .ok (.iload_n 1, 1) := by decide +kernel
theorem dX11_cart_117 : decode cX11_cart 117 = .ok (.iadd, 1) := by decide +kernel
theorem dX11_cart_118 : decode cX11_cart 118 = .ok (.iaload, 1) := by decide +kernel
theorem dX11_cart_119 : decode cX11_cart 119 = .ok (.ireturn, 1) := by decide +kernel
theorem dX11_cart_120 : decode cX11_cart 120 = .ok (.aload_n 0, 1) := by decide +kernel
theorem dX11_cart_121 : decode cX11_cart 121 = .ok (.getfield 33, 3) := by decide +kernel
theorem dX11_cart_124 : decode cX11_cart 124 = .ok (.sipush 455, 3) := by decide +kernel
theorem dX11_cart_127 : decode cX11_cart 127 = .ok (.iaload, 1) := by decide +kernel
theorem dX11_cart_128 : decode cX11_cart 128 = .ok (.iconst 3, 1) := by decide +kernel
theorem dX11_cart_129 : decode cX11_cart 129 = .ok (.if_icmp .ge 23, 3) := by decide +kernel
theorem dX11_cart_132 : decode cX11_cart 132 = .ok (.aload_n 0, 1) := by decide +kernel
theorem dX11_cart_133 : decode cX11_cart 133 = .ok (.iload_n 1, 1) := by decide +kernel
theorem dX11_cart_134 : decode cX11_cart 134 = .ok (.aload_n 0, 1) := by decide +kernel
theorem dX11_cart_135 : decode cX11_cart 135 = .ok (.getfield 33, 3) := by decide +kernel
theorem dX11_cart_138 : decode cX11_cart 138 = .ok (.sipush 456, 3) := by decide +kernel
theorem dX11_cart_141 : decode cX11_cart 141 = .ok (.iaload, 1) := by decide +kernel
theorem dX11_cart_142 : decode cX11_cart 142 = .ok (.invokevirtual 268, 3) := by decide +kernel
theorem dX11_cart_145 : decode cX11_cart 145 = .ok (.ifCond .eq 7, 3) := by decide +kernel
theorem dX11_cart_148 : decode cX11_cart 148 = .ok (.iconst 1, 1) := by decide +kernel
theorem dX11_cart_149 : decode cX11_cart 149 = .ok (.goto 4, 3) := by decide +kernel
theorem dX11_cart_152 : decode cX11_cart 152 = .ok (.iconst 0, 1) := by decide +kernel
theorem dX11_cart_153 : decode cX11_cart 153 = .ok (.ireturn, 1) := by decide +kernel
theorem dX11_cell_0 : decode cX11_cell 0 = .ok (.aload_n 0, 1) := by decide +kernel
theorem dX11_cell_1 : decode cX11_cell 1 = .ok (.aload_n 0, 1) := by decide +kernel
theorem dX11_cell_2 : decode cX11_cell 2 = .ok (.iload_n 1, 1) := by decide +kernel
theorem dX11_cell_3 : decode cX11_cell 3 = .ok (.invokevirtual 271, 3) := by decide +kernel
theorem dX11_cell_6 : decode cX11_cell 6 = .ok (.ifCond .eq 12, 3) := by decide +kernel
theorem dX11_cell_9 : decode cX11_cell 9 = .ok (.iload_n 2, 1) := by decide +kernel
theorem dX11_cell_10 : decode cX11_cell 10 = .ok (.iconst 0, 1) := by decide +kernel
theorem dX11_cell_11 : decode cX11_cell 11 = .ok (.iconst 5, 1) := by decide +kernel
theorem dX11_cell_12 : decode cX11_cell 12 = .ok (.invokestatic 194, 3) := by decide +kernel
theorem dX11_cell_15 : decode cX11_cell 15 = .ok (.ifCond .ne 7, 3) := by decide +kernel
theorem dX11_cell_18 : decode cX11_cell 18 = .ok (.iconst 1, 1) := by decide +kernel
theorem dX11_cell_19 : decode cX11_cell 19 = .ok (.goto 4, 3) := by decide +kernel
theorem dX11_cell_22 : decode cX11_cell 22 = .ok (.iconst 0, 1) := by decide +kernel
theorem dX11_cell_23 : decode cX11_cell 23 = .ok (.invokevirtual 261, 3) := by decide +kernel
theorem dX11_cell_26 : decode cX11_cell 26 = .ok (.ifCond .eq 5, 3) := by decide +kernel
theorem dX11_cell_29 : decode cX11_cell 29 = .ok (.iconst 0, 1) := by decide +kernel
theorem dX11_cell_30 : decode cX11_cell 30 = .ok (.ireturn, 1) := by decide +kernel
theorem dX11_cell_31 : decode cX11_cell 31 = .ok (.iconst (-1), 1) := by decide +kernel
theorem dX11_cell_32 : decode cX11_cell 32 = .ok (.istore_n 3, 1) := by decide +kernel
theorem dX11_cell_33 : decode cX11_cell 33 = .ok (.iconst 0, 1) := by decide +kernel
theorem dX11_cell_34 : decode cX11_cell 34 = .ok (.istore 4, 2) := by decide +kernel
theorem dX11_cell_36 : decode cX11_cell 36 = .ok (.iload 4, 2) := by decide +kernel
theorem dX11_cell_38 : decode cX11_cell 38 = .ok (.aload_n 0, 1) := by decide +kernel
theorem dX11_cell_39 : decode cX11_cell 39 = .ok (.getfield 33, 3) := by decide +kernel
theorem dX11_cell_42 : decode cX11_cell 42 = .ok (.iconst 2, 1) := by decide +kernel
theorem dX11_cell_43 : decode cX11_cell 43 = .ok (.iaload, 1) := by decide +kernel
theorem dX11_cell_44 : decode cX11_cell 44 = .ok (.if_icmp .ge 26, 3) := by decide +kernel
theorem dX11_cell_47 : decode cX11_cell 47 = .ok (.aload_n 0, 1) := by decide +kernel
theorem dX11_cell_48 : decode cX11_cell 48 = .ok (.getfield 33, 3) := by decide +kernel
theorem dX11_cell_51 : decode cX11_cell 51 = .ok (.bipush 11, 2) := by decide +kernel
theorem dX11_cell_53 : decode cX11_cell 53 = .ok (.iload 4, 2) := by decide +kernel
theorem dX11_cell_55 : decode cX11_cell 55 = .ok (.iadd, 1) := by decide +kernel
theorem dX11_cell_56 : decode cX11_cell 56 = .ok (.iaload, 1) := by decide +kernel
theorem dX11_cell_57 : decode cX11_cell 57 = .ok (.iload_n 1, 1) := by decide +kernel
theorem dX11_cell_58 : decode cX11_cell 58 = .ok (.if_icmp .ne 6, 3) := by decide +kernel
theorem dX11_cell_61 : decode cX11_cell 61 = .ok (.iload 4, 2) := by decide +kernel
theorem dX11_cell_63 : decode cX11_cell 63 = .ok (.istore_n 3, 1) := by decide +kernel
theorem dX11_cell_64 : decode cX11_cell 64 = .ok (.iinc 4 1, 3) := by decide +kernel
theorem dX11_cell_67 : decode cX11_cell 67 = .ok (.goto (-31), 3) := by decide +kernel
theorem dX11_cell_70 : decode cX11_cell 70 = .ok (.iload_n 2, 1) := by decide +kernel
theorem dX11_cell_71 : decode cX11_cell 71 = .ok (.tableswitch 78 0 4 #[33, 44, 46, 56, 67], 33) := by decide +kernel
theorem dX11_cell_104 : decode cX11_cell 104 = .ok (.aload_n 0, 1) := by decide +kernel
theorem dX11_cell_105 : decode cX11_cell 105 = .ok (.getfield 33, 3) := by decide +kernel
theorem dX11_cell_108 : decode cX11_cell 108 = .ok (.sipush 714, 3) := by decide +kernel
theorem dX11_cell_111 : decode cX11_cell 111 = .ok (.iload_n 1, 1) := by decide +kernel
theorem dX11_cell_112 : decode cX11_cell 112 = .ok (.iadd, 1) := by decide +kernel
theorem dX11_cell_113 : decode cX11_cell 113 = .ok (.iaload, 1) := by decide +kernel
theorem dX11_cell_114 : decode cX11_cell 114 = .ok (.ireturn, 1) := by decide +kernel
theorem dX11_cell_115 : decode cX11_cell 115 = .ok (.iload_n 3, 1) := by decide +kernel
theorem dX11_cell_116 : decode cX11_cell 116 = .ok (.ireturn, 1) := by decide +kernel
theorem dX11_cell_117 : decode cX11_cell 117 = .ok (.aload_n 0, 1) := by decide +kernel
theorem dX11_cell_118 : decode cX11_cell 118 = .ok (.getfield 33, 3) := by decide +kernel
theorem dX11_cell_121 : decode cX11_cell 121 = .ok (.bipush 127, 2) := by decide +kernel
theorem dX11_cell_123 : decode cX11_cell 123 = .ok (.iload_n 1, 1) := by decide +kernel
theorem dX11_cell_124 : decode cX11_cell 124 = .ok (.iadd, 1) := by decide +kernel
theorem dX11_cell_125 : decode cX11_cell 125 = .ok (.iaload, 1) := by decide +kernel
theorem dX11_cell_126 : decode cX11_cell 126 = .ok (.ireturn, 1) := by decide +kernel
theorem dX11_cell_127 : decode cX11_cell 127 = .ok (.aload_n 0, 1) := by decide +kernel
theorem dX11_cell_128 : decode cX11_cell 128 = .ok (.getfield 33, 3) := by decide +kernel
theorem dX11_cell_131 : decode cX11_cell 131 = .ok (.sipush 227, 3) := by decide +kernel
theorem dX11_cell_134 : decode cX11_cell 134 = .ok (.iload_n 1, 1) := by decide +kernel
theorem dX11_cell_135 : decode cX11_cell 135 = .ok (.iadd, 1) := by decide +kernel
theorem dX11_cell_136 : decode cX11_cell 136 = .ok (.iaload, 1) := by decide +kernel
theorem dX11_cell_137 : decode cX11_cell 137 = .ok (.ireturn, 1) := by decide +kernel
theorem dX11_cell_138 : decode cX11_cell 138 = .ok (.aload_n 0, 1) := by decide +kernel
theorem dX11_cell_139 : decode cX11_cell 139 = .ok (.getfield 33, 3) := by decide +kernel
theorem dX11_cell_142 : decode cX11_cell 142 = .ok (.sipush 327, 3) := by decide +kernel
theorem dX11_cell_145 : decode cX11_cell 145 = .ok (.iload_n 1, 1) := by decide +kernel
theorem dX11_cell_146 : decode cX11_cell 146 = .ok (.iadd, 1) := by decide +kernel
theorem dX11_cell_147 : decode cX11_cell 147 = .ok (.iaload, 1) := by decide +kernel
theorem dX11_cell_148 : decode cX11_cell 148 = .ok (.ireturn, 1) := by decide +kernel
theorem dX11_cell_149 : decode cX11_cell 149 = .ok (.aload_n 0, 1) := by decide +kernel
theorem dX11_cell_150 : decode cX11_cell 150 = .ok (.getfield 33, 3) := by decide +kernel
theorem dX11_cell_153 : decode cX11_cell 153 = .ok (.sipush 814, 3) := by decide +kernel
theorem dX11_cell_156 : decode cX11_cell 156 = .ok (.iload_n 1, 1) := by decide +kernel
theorem dX11_cell_157 : decode cX11_cell 157 = .ok (.iadd, 1) := by decide +kernel
theorem dX11_cell_158 : decode cX11_cell 158 = .ok (.iaload, 1) := by decide +kernel
theorem dX11_cell_159 : decode cX11_cell 159 = .ok (.ireturn, 1) := by decide +kernel
theorem dX11_draw_0 : decode cX11_draw 0 = .ok (.aload_n 0, 1) := by decide +kernel
theorem dX11_draw_1 : decode cX11_draw 1 = .ok (.getfield 33, 3) := by decide +kernel
theorem dX11_draw_4 : decode cX11_draw 4 = .ok (.sipush 457, 3) := by decide +kernel
theorem dX11_draw_7 : decode cX11_draw 7 = .ok (.aload_n 0, 1) := by decide +kernel
theorem dX11_draw_8 : decode cX11_draw 8 = .ok (.getfield 33, 3) := by decide +kernel
theorem dX11_draw_11 : decode cX11_draw 11 = .ok (.sipush 457, 3) := by decide +kernel
theorem dX11_draw_14 : decode cX11_draw 14 = .ok (.iaload, 1) := by decide +kernel
theorem dX11_draw_15 : decode cX11_draw 15 = .ok (.ldc_w 274, 3) := by decide +kernel
theorem dX11_draw_18 : decode cX11_draw 18 = .ok (.imul, 1) := by decide +kernel
theorem dX11_draw_19 : decode cX11_draw 19 = .ok (.sipush 12345, 3) := by decide +kernel
theorem dX11_draw_22 : decode cX11_draw 22 = .ok (.iadd, 1) := by decide +kernel
theorem dX11_draw_23 : decode cX11_draw 23 = .ok (.iastore, 1) := by decide +kernel
theorem dX11_draw_24 : decode cX11_draw 24 = .ok (.aload_n 0, 1) := by decide +kernel
theorem dX11_draw_25 : decode cX11_draw 25 = .ok (.getfield 33, 3) := by decide +kernel
theorem dX11_draw_28 : decode cX11_draw 28 = .ok (.sipush 457, 3) := by decide +kernel
theorem dX11_draw_31 : decode cX11_draw 31 = .ok (.iaload, 1) := by decide +kernel
theorem dX11_draw_32 : decode cX11_draw 32 = .ok (.bipush 8, 2) := by decide +kernel
theorem dX11_draw_34 : decode cX11_draw 34 = .ok (.iushr, 1) := by decide +kernel
theorem dX11_draw_35 : decode cX11_draw 35 = .ok (.iload_n 1, 1) := by decide +kernel
theorem dX11_draw_36 : decode cX11_draw 36 = .ok (.irem, 1) := by decide +kernel
theorem dX11_draw_37 : decode cX11_draw 37 = .ok (.ireturn, 1) := by decide +kernel
theorem dX11_begin_0 : decode cX11_begin 0 = .ok (.aload_n 0, 1) := by decide +kernel
theorem dX11_begin_1 : decode cX11_begin 1 = .ok (.iconst 0, 1) := by decide +kernel
theorem dX11_begin_2 : decode cX11_begin 2 = .ok (.putfield 1, 3) := by decide +kernel
theorem dX11_begin_5 : decode cX11_begin 5 = .ok (.aload_n 0, 1) := by decide +kernel
theorem dX11_begin_6 : decode cX11_begin 6 = .ok (.iload_n 1, 1) := by decide +kernel
theorem dX11_begin_7 : decode cX11_begin 7 = .ok (.invokevirtual 248, 3) := by decide +kernel
theorem dX11_begin_10 : decode cX11_begin 10 = .ok (.return_, 1) := by decide +kernel
theorem dX11_aimed_0 : decode cX11_aimed 0 = .ok (.iconst (-1), 1) := by decide +kernel
theorem dX11_aimed_1 : decode cX11_aimed 1 = .ok (.istore_n 3, 1) := by decide +kernel
theorem dX11_aimed_2 : decode cX11_aimed 2 = .ok (.aload_n 0, 1) := by decide +kernel
theorem dX11_aimed_3 : decode cX11_aimed 3 = .ok (.getfield 33, 3) := by decide +kernel
theorem dX11_aimed_6 : decode cX11_aimed 6 = .ok (.sipush 427, 3) := by decide +kernel
theorem dX11_aimed_9 : decode cX11_aimed 9 = .ok (.iload_n 1, 1) := by decide +kernel
theorem dX11_aimed_10 : decode cX11_aimed 10 = .ok (.iadd, 1) := by decide +kernel
theorem dX11_aimed_11 : decode cX11_aimed 11 = .ok (.iaload, 1) := by decide +kernel
theorem dX11_aimed_12 : decode cX11_aimed 12 = .ok (.ifCond .eq 16, 3) := by decide +kernel
theorem dX11_aimed_15 : decode cX11_aimed 15 = .ok (.aload_n 0, 1) := by decide +kernel
theorem dX11_aimed_16 : decode cX11_aimed 16 = .ok (.getfield 33, 3) := by decide +kernel
theorem dX11_aimed_19 : decode cX11_aimed 19 = .ok (.sipush 458, 3) := by decide +kernel
theorem dX11_aimed_22 : decode cX11_aimed 22 = .ok (.iload_n 1, 1) := by decide +kernel
theorem dX11_aimed_23 : decode cX11_aimed 23 = .ok (.iadd, 1) := by decide +kernel
theorem dX11_aimed_24 : decode cX11_aimed 24 = .ok (.iaload, 1) := by decide +kernel
theorem dX11_aimed_25 : decode cX11_aimed 25 = .ok (.ifCond .ne 5, 3) := by decide +kernel
theorem dX11_aimed_28 : decode cX11_aimed 28 = .ok (.iconst (-1), 1) := by decide +kernel
theorem dX11_aimed_29 : decode cX11_aimed 29 = .ok (.ireturn, 1) := by decide +kernel
theorem dX11_aimed_30 : decode cX11_aimed 30 = .ok (.iconst 0, 1) := by decide +kernel
theorem dX11_aimed_31 : decode cX11_aimed 31 = .ok (.istore 4, 2) := by decide +kernel
theorem dX11_aimed_33 : decode cX11_aimed 33 = .ok (.iload 4, 2) := by decide +kernel
theorem dX11_aimed_35 : decode cX11_aimed 35 = .ok (.aload_n 0, 1) := by decide +kernel
theorem dX11_aimed_36 : decode cX11_aimed 36 = .ok (.getfield 33, 3) := by decide +kernel
theorem dX11_aimed_39 : decode cX11_aimed 39 = .ok (.iconst 3, 1) := by decide +kernel
theorem dX11_aimed_40 : decode cX11_aimed 40 = .ok (.iaload, 1) := by decide +kernel
theorem dX11_aimed_41 : decode cX11_aimed 41 = .ok (.if_icmp .ge 123, 3) := by decide +kernel
theorem dX11_aimed_44 : decode cX11_aimed 44 = .ok (.aload_n 0, 1) := by decide +kernel
theorem dX11_aimed_45 : decode cX11_aimed 45 = .ok (.getfield 33, 3) := by decide +kernel
theorem dX11_aimed_48 : decode cX11_aimed 48 = .ok (.bipush 11, 2) := by decide +kernel
theorem dX11_aimed_50 : decode cX11_aimed 50 = .ok (.iload_n 1, 1) := by decide +kernel
theorem dX11_aimed_51 : decode cX11_aimed 51 = .ok (.iadd, 1) := by decide +kernel
theorem dX11_aimed_52 : decode cX11_aimed 52 = .ok (.iaload, 1) := by decide +kernel
theorem dX11_aimed_53 : decode cX11_aimed 53 = .ok (.aload_n 0, 1) := by decide +kernel
theorem dX11_aimed_54 : decode cX11_aimed 54 = .ok (.getfield 33, 3) := by decide +kernel
theorem dX11_aimed_57 : decode cX11_aimed 57 = .ok (.bipush 67, 2) := by decide +kernel
theorem dX11_aimed_59 : decode cX11_aimed 59 = .ok (.iload 4, 2) := by decide +kernel
theorem dX11_aimed_61 : decode cX11_aimed 61 = .ok (.iadd, 1) := by decide +kernel
theorem dX11_aimed_62 : decode cX11_aimed 62 = .ok (.iaload, 1) := by decide +kernel
theorem dX11_aimed_63 : decode cX11_aimed 63 = .ok (.invokestatic 278, 3) := by decide +kernel
theorem dX11_aimed_66 : decode cX11_aimed 66 = .ok (.istore 5, 2) := by decide +kernel
theorem dX11_aimed_68 : decode cX11_aimed 68 = .ok (.aload_n 0, 1) := by decide +kernel
theorem dX11_aimed_69 : decode cX11_aimed 69 = .ok (.iload 4, 2) := by decide +kernel
theorem dX11_aimed_71 : decode cX11_aimed 71 = .ok (.iload_n 2, 1) := by decide +kernel
theorem dX11_aimed_72 : decode cX11_aimed 72 = .ok (.invokevirtual 268, 3) := by decide +kernel
theorem dX11_aimed_75 : decode cX11_aimed 75 = .ok (.ifCond .eq 83, 3) := by decide +kernel
theorem dX11_aimed_78 : decode cX11_aimed 78 = .ok (.iload 5, 2) := by decide +kernel
theorem dX11_aimed_80 : decode cX11_aimed 80 = .ok (.aload_n 0, 1) := by decide +kernel
theorem dX11_aimed_81 : decode cX11_aimed 81 = .ok (.getfield 33, 3) := by decide +kernel
theorem dX11_aimed_84 : decode cX11_aimed 84 = .ok (.sipush 427, 3) := by decide +kernel
theorem dX11_aimed_87 : decode cX11_aimed 87 = .ok (.iload_n 1, 1) := by decide +kernel
theorem dX11_aimed_88 : decode cX11_aimed 88 = .ok (.iadd, 1) := by decide +kernel
theorem dX11_aimed_89 : decode cX11_aimed 89 = .ok (.iaload, 1) := by decide +kernel
theorem dX11_aimed_90 : decode cX11_aimed 90 = .ok (.if_icmp .ge 68, 3) := by decide +kernel
theorem dX11_aimed_93 : decode cX11_aimed 93 = .ok (.aload_n 0, 1) := by decide +kernel
theorem dX11_aimed_94 : decode cX11_aimed 94 = .ok (.getfield 33, 3) := by decide +kernel
theorem dX11_aimed_97 : decode cX11_aimed 97 = .ok (.sipush 494, 3) := by decide +kernel
theorem dX11_aimed_100 : decode cX11_aimed 100 = .ok (.bipush 20, 2) := by decide +kernel
theorem dX11_aimed_102 : decode cX11_aimed 102 = .ok (.iload_n 1, 1) := by decide +kernel
theorem dX11_aimed_103 : decode cX11_aimed 103 = .ok (.imul, 1) := by decide +kernel
theorem dX11_aimed_104 : decode cX11_aimed 104 = .ok (.iadd, 1) := by decide +kernel
theorem dX11_aimed_105 : decode cX11_aimed 105 = .ok (.iload 4, 2) := by decide +kernel
theorem dX11_aimed_107 : decode cX11_aimed 107 = .ok (.iadd, 1) := by decide +kernel
theorem dX11_aimed_108 : decode cX11_aimed 108 = .ok (.iaload, 1) := by decide +kernel
theorem dX11_aimed_109 : decode cX11_aimed 109 = .ok (.aload_n 0, 1) := by decide +kernel
theorem dX11_aimed_110 : decode cX11_aimed 110 = .ok (.getfield 33, 3) := by decide +kernel
theorem dX11_aimed_113 : decode cX11_aimed 113 = .ok (.sipush 436, 3) := by decide +kernel
theorem dX11_aimed_116 : decode cX11_aimed 116 = .ok (.iload_n 1, 1) := by decide +kernel
theorem dX11_aimed_117 : decode cX11_aimed 117 = .ok (.iadd, 1) := by decide +kernel
theorem dX11_aimed_118 : decode cX11_aimed 118 = .ok (.iaload, 1) := by decide +kernel
theorem dX11_aimed_119 : decode cX11_aimed 119 = .ok (.if_icmp .lt 6, 3) := by decide +kernel
theorem dX11_aimed_122 : decode cX11_aimed 122 = .ok (.goto 36, 3) := by decide +kernel
theorem dX11_aimed_125 : decode cX11_aimed 125 = .ok (.iload_n 3, 1) := by decide +kernel
theorem dX11_aimed_126 : decode cX11_aimed 126 = .ok (.ifCond .lt 29, 3) := by decide +kernel
theorem dX11_aimed_129 : decode cX11_aimed 129 = .ok (.iload 5, 2) := by decide +kernel
theorem dX11_aimed_131 : decode cX11_aimed 131 = .ok (.aload_n 0, 1) := by decide +kernel
theorem dX11_aimed_132 : decode cX11_aimed 132 = .ok (.getfield 33, 3) := by decide +kernel
theorem dX11_aimed_135 : decode cX11_aimed 135 = .ok (.bipush 11, 2) := by decide +kernel
theorem dX11_aimed_137 : decode cX11_aimed 137 = .ok (.iload_n 1, 1) := by decide +kernel
theorem dX11_aimed_138 : decode cX11_aimed 138 = .ok (.iadd, 1) := by decide +kernel
theorem dX11_aimed_139 : decode cX11_aimed 139 = .ok (.iaload, 1) := by decide +kernel
theorem dX11_aimed_140 : decode cX11_aimed 140 = .ok (.aload_n 0, 1) := by decide +kernel
theorem dX11_aimed_141 : decode cX11_aimed 141 = .ok (.getfield 33, 3) := by decide +kernel
theorem dX11_aimed_144 : decode cX11_aimed 144 = .ok (.bipush 67, 2) := by decide +kernel
theorem dX11_aimed_146 : decode cX11_aimed 146 = .ok (.iload_n 3, 1) := by decide +kernel
theorem dX11_aimed_147 : decode cX11_aimed 147 = .ok (.iadd, 1) := by decide +kernel
theorem dX11_aimed_148 : decode cX11_aimed 148 = .ok (.iaload, 1) := by decide +kernel
theorem dX11_aimed_149 : decode cX11_aimed 149 = .ok (.invokestatic 278, 3) := by decide +kernel
theorem dX11_aimed_152 : decode cX11_aimed 152 = .ok (.if_icmp .ge 6, 3) := by decide +kernel
theorem dX11_aimed_155 : decode cX11_aimed 155 = .ok (.iload 4, 2) := by decide +kernel
theorem dX11_aimed_157 : decode cX11_aimed 157 = .ok (.istore_n 3, 1) := by decide +kernel
theorem dX11_aimed_158 : decode cX11_aimed 158 = .ok (.iinc 4 1, 3) := by decide +kernel
theorem dX11_aimed_161 : decode cX11_aimed 161 = .ok (.goto (-128), 3) := by decide +kernel
theorem dX11_aimed_164 : decode cX11_aimed 164 = .ok (.iload_n 3, 1) := by decide +kernel
theorem dX11_aimed_165 : decode cX11_aimed 165 = .ok (.ireturn, 1) := by decide +kernel
theorem dX11_besides_0 : decode cX11_besides 0 = .ok (.iload_n 1, 1) := by decide +kernel
theorem dX11_besides_1 : decode cX11_besides 1 = .ok (.bipush 10, 2) := by decide +kernel
theorem dX11_besides_3 : decode cX11_besides 3 = .ok (.irem, 1) := by decide +kernel
theorem dX11_besides_4 : decode cX11_besides 4 = .ok (.iload_n 2, 1) := by decide +kernel
theorem dX11_besides_5 : decode cX11_besides 5 = .ok (.iconst 1, 1) := by decide +kernel
theorem dX11_besides_6 : decode cX11_besides 6 = .ok (.if_icmp .ne 7, 3) := by decide +kernel
theorem dX11_besides_9 : decode cX11_besides 9 = .ok (.iconst 1, 1) := by decide +kernel
theorem dX11_besides_10 : decode cX11_besides 10 = .ok (.goto 13, 3) := by decide +kernel
theorem dX11_besides_13 : decode cX11_besides 13 = .ok (.iload_n 2, 1) := by decide +kernel
theorem dX11_besides_14 : decode cX11_besides 14 = .ok (.iconst 3, 1) := by decide +kernel
theorem dX11_besides_15 : decode cX11_besides 15 = .ok (.if_icmp .ne 7, 3) := by decide +kernel
theorem dX11_besides_18 : decode cX11_besides 18 = .ok (.iconst (-1), 1) := by decide +kernel
theorem dX11_besides_19 : decode cX11_besides 19 = .ok (.goto 4, 3) := by decide +kernel
theorem dX11_besides_22 : decode cX11_besides 22 = .ok (.iconst 0, 1) := by decide +kernel
theorem dX11_besides_23 : decode cX11_besides 23 = .ok (.iadd, 1) := by decide +kernel
theorem dX11_besides_24 : decode cX11_besides 24 = .ok (.istore_n 3, 1) := by decide +kernel
theorem dX11_besides_25 : decode cX11_besides 25 = .ok (.iload_n 1, 1) := by decide +kernel
theorem dX11_besides_26 : decode cX11_besides 26 = .ok (.bipush 10, 2) := by decide +kernel
theorem dX11_besides_28 : decode cX11_besides 28 = .ok (.idiv, 1) := by decide +kernel
theorem dX11_besides_29 : decode cX11_besides 29 = .ok (.iload_n 2, 1) := by decide +kernel
theorem dX11_besides_30 : decode cX11_besides 30 = .ok (.iconst 2, 1) := by decide +kernel
theorem dX11_besides_31 : decode cX11_besides 31 = .ok (.if_icmp .ne 7, 3) := by decide +kernel
theorem dX11_besides_34 : decode cX11_besides 34 = .ok (.iconst 1, 1) := by decide +kernel
theorem dX11_besides_35 : decode cX11_besides 35 = .ok (.goto 12, 3) := by decide +kernel
theorem dX11_besides_38 : decode cX11_besides 38 = .ok (.iload_n 2, 1) := by decide +kernel
theorem dX11_besides_39 : decode cX11_besides 39 = .ok (.ifCond .ne 7, 3) := by decide +kernel
theorem dX11_besides_42 : decode cX11_besides 42 = .ok (.iconst (-1), 1) := by decide +kernel
theorem dX11_besides_43 : decode cX11_besides 43 = .ok (.goto 4, 3) := by decide +kernel
theorem dX11_besides_46 : decode cX11_besides 46 = .ok (.iconst 0, 1) := by decide +kernel
theorem dX11_besides_47 : decode cX11_besides 47 = .ok (.iadd, 1) := by decide +kernel
theorem dX11_besides_48 : decode cX11_besides 48 = .ok (.istore 4, 2) := by decide +kernel
theorem dX11_besides_50 : decode cX11_besides 50 = .ok (.iload_n 3, 1) := by decide +kernel
theorem dX11_besides_51 : decode cX11_besides 51 = .ok (.iconst 0, 1) := by decide +kernel
theorem dX11_besides_52 : decode cX11_besides 52 = .ok (.aload_n 0, 1) := by decide +kernel
theorem dX11_besides_53 : decode cX11_besides 53 = .ok (.getfield 33, 3) := by decide +kernel
theorem dX11_besides_56 : decode cX11_besides 56 = .ok (.iconst 0, 1) := by decide +kernel
theorem dX11_besides_57 : decode cX11_besides 57 = .ok (.iaload, 1) := by decide +kernel
theorem dX11_besides_58 : decode cX11_besides 58 = .ok (.iconst 1, 1) := by decide +kernel
theorem dX11_besides_59 : decode cX11_besides 59 = .ok (.isub, 1) := by decide +kernel
theorem dX11_besides_60 : decode cX11_besides 60 = .ok (.invokestatic 194, 3) := by decide +kernel
theorem dX11_besides_63 : decode cX11_besides 63 = .ok (.ifCond .eq 30, 3) := by decide +kernel
theorem dX11_besides_66 : decode cX11_besides 66 = .ok (.iload 4, 2) := by decide +kernel
theorem dX11_besides_68 : decode cX11_besides 68 = .ok (.iconst 0, 1) := by decide +kernel
theorem dX11_besides_69 : decode cX11_besides 69 = .ok (.aload_n 0, 1) := by decide +kernel
theorem dX11_besides_70 : decode cX11_besides 70 = .ok (.getfield 33, 3) := by decide +kernel
theorem dX11_besides_73 : decode cX11_besides 73 = .ok (.iconst 1, 1) := by decide +kernel
theorem dX11_besides_74 : decode cX11_besides 74 = .ok (.iaload, 1) := by decide +kernel
theorem dX11_besides_75 : decode cX11_besides 75 = .ok (.iconst 1, 1) := by decide +kernel
theorem dX11_besides_76 : decode cX11_besides 76 = .ok (.isub, 1) := by decide +kernel
theorem dX11_besides_77 : decode cX11_besides 77 = .ok (.invokestatic 194, 3) := by decide +kernel
theorem dX11_besides_80 : decode cX11_besides 80 = .ok (.ifCond .eq 13, 3) := by decide +kernel
theorem dX11_besides_83 : decode cX11_besides 83 = .ok (.bipush 10, 2) := by decide +kernel
theorem dX11_besides_85 : decode cX11_besides 85 = .ok (.iload 4, 2) := by decide +kernel
theorem dX11_besides_87 : decode cX11_besides 87 = .ok (.imul, 1) := by decide +kernel
theorem dX11_besides_88 : decode cX11_besides 88 = .ok (.iload_n 3, 1) := by decide +kernel
theorem dX11_besides_89 : decode cX11_besides 89 = .ok (.iadd, 1) := by decide +kernel
theorem dX11_besides_90 : decode cX11_besides 90 = .ok (.goto 4, 3) := by decide +kernel
theorem dX11_besides_93 : decode cX11_besides 93 = .ok (.iconst (-1), 1) := by decide +kernel
theorem dX11_besides_94 : decode cX11_besides 94 = .ok (.ireturn, 1) := by decide +kernel
theorem dX11_isBarred_0 : decode cX11_isBarred 0 = .ok (.aload_n 0, 1) := by decide +kernel
theorem dX11_isBarred_1 : decode cX11_isBarred 1 = .ok (.getfield 33, 3) := by decide +kernel
theorem dX11_isBarred_4 : decode cX11_isBarred 4 = .ok (.bipush 67, 2) := by decide +kernel
theorem dX11_isBarred_6 : decode cX11_isBarred 6 = .ok (.iload_n 2, 1) := by decide +kernel
theorem dX11_isBarred_7 : decode cX11_isBarred 7 = .ok (.iadd, 1) := by decide +kernel
theorem dX11_isBarred_8 : decode cX11_isBarred 8 = .ok (.iaload, 1) := by decide +kernel
theorem dX11_isBarred_9 : decode cX11_isBarred 9 = .ok (.istore_n 3, 1) := by decide +kernel
theorem dX11_isBarred_10 : decode cX11_isBarred 10 = .ok (.aload_n 0, 1) := by decide +kernel
theorem dX11_isBarred_11 : decode cX11_isBarred 11 = .ok (.getfield 33, 3) := by decide +kernel
theorem dX11_isBarred_14 : decode cX11_isBarred 14 = .ok (.bipush 11, 2) := by decide +kernel
theorem dX11_isBarred_16 : decode cX11_isBarred 16 = .ok (.iload_n 1, 1) := by decide +kernel
theorem dX11_isBarred_17 : decode cX11_isBarred 17 = .ok (.iadd, 1) := by decide +kernel
theorem dX11_isBarred_18 : decode cX11_isBarred 18 = .ok (.iaload, 1) := by decide +kernel
theorem dX11_isBarred_19 : decode cX11_isBarred 19 = .ok (.iload_n 3, 1) := by decide +kernel
theorem dX11_isBarred_20 : decode cX11_isBarred 20 = .ok (.invokestatic 278, 3) := by decide +kernel
theorem dX11_isBarred_23 : decode cX11_isBarred 23 = .ok (.iconst 3, 1) := by decide +kernel
theorem dX11_isBarred_24 : decode cX11_isBarred 24 = .ok (.if_icmp .ge 5, 3) := by decide +kernel
theorem dX11_isBarred_27 : decode cX11_isBarred 27 = .ok (.iconst 0, 1) := by decide +kernel
theorem dX11_isBarred_28 : decode cX11_isBarred 28 = .ok (.ireturn, 1) := by decide +kernel
theorem dX11_isBarred_29 : decode cX11_isBarred 29 = .ok (.aload_n 0, 1) := by decide +kernel
theorem dX11_isBarred_30 : decode cX11_isBarred 30 = .ok (.getfield 33, 3) := by decide +kernel
theorem dX11_isBarred_33 : decode cX11_isBarred 33 = .ok (.bipush 127, 2) := by decide +kernel
theorem dX11_isBarred_35 : decode cX11_isBarred 35 = .ok (.iload_n 3, 1) := by decide +kernel
theorem dX11_isBarred_36 : decode cX11_isBarred 36 = .ok (.iadd, 1) := by decide +kernel
theorem dX11_isBarred_37 : decode cX11_isBarred 37 = .ok (.iaload, 1) := by decide +kernel
theorem dX11_isBarred_38 : decode cX11_isBarred 38 = .ok (.iconst 1, 1) := by decide +kernel
theorem dX11_isBarred_39 : decode cX11_isBarred 39 = .ok (.if_icmp .ne 7, 3) := by decide +kernel
theorem dX11_isBarred_42 : decode cX11_isBarred 42 = .ok (.iconst 1, 1) := by decide +kernel
theorem dX11_isBarred_43 : decode cX11_isBarred 43 = .ok (.goto 4, 3) := by decide +kernel
theorem dX11_isBarred_46 : decode cX11_isBarred 46 = .ok (.iconst 0, 1) := by decide +kernel
theorem dX11_isBarred_47 : decode cX11_isBarred 47 = .ok (.istore 4, 2) := by decide +kernel
theorem dX11_isBarred_49 : decode cX11_isBarred 49 = .ok (.iconst 0, 1) := by decide +kernel
theorem dX11_isBarred_50 : decode cX11_isBarred 50 = .ok (.istore 5, 2) := by decide +kernel
theorem dX11_isBarred_52 : decode cX11_isBarred 52 = .ok (.iload 5, 2) := by decide +kernel
theorem dX11_isBarred_54 : decode cX11_isBarred 54 = .ok (.iconst 4, 1) := by decide +kernel
theorem dX11_isBarred_55 : decode cX11_isBarred 55 = .ok (.if_icmp .ge 50, 3) := by decide +kernel
theorem dX11_isBarred_58 : decode cX11_isBarred 58 = .ok (.iload 4, 2) := by decide +kernel
theorem dX11_isBarred_60 : decode cX11_isBarred 60 = .ok (.ifCond .ne 32, 3) := by decide +kernel
theorem dX11_isBarred_63 : decode cX11_isBarred 63 = .ok (.aload_n 0, 1) := by decide +kernel
theorem dX11_isBarred_64 : decode cX11_isBarred 64 = .ok (.iload_n 3, 1) := by decide +kernel
theorem dX11_isBarred_65 : decode cX11_isBarred 65 = .ok (.iload 5, 2) := by decide +kernel
theorem dX11_isBarred_67 : decode cX11_isBarred 67 = .ok (.invokevirtual 281, 3) := by decide +kernel
theorem dX11_isBarred_70 : decode cX11_isBarred 70 = .ok (.ifCond .lt 26, 3) := by decide +kernel
theorem dX11_isBarred_73 : decode cX11_isBarred 73 = .ok (.aload_n 0, 1) := by decide +kernel
theorem dX11_isBarred_74 : decode cX11_isBarred 74 = .ok (.getfield 33, 3) := by decide +kernel
theorem dX11_isBarred_77 : decode cX11_isBarred 77 = .ok (.bipush 127, 2) := by decide +kernel
theorem dX11_isBarred_79 : decode cX11_isBarred 79 = .ok (.aload_n 0, 1) := by decide +kernel
theorem dX11_isBarred_80 : decode cX11_isBarred 80 = .ok (.iload_n 3, 1) := by decide +kernel
theorem dX11_isBarred_81 : decode cX11_isBarred 81 = .ok (.iload 5, 2) := by decide +kernel
theorem dX11_isBarred_83 : decode cX11_isBarred 83 = .ok (.invokevirtual 281, 3) := by decide +kernel
theorem dX11_isBarred_86 : decode cX11_isBarred 86 = .ok (.iadd, 1) := by decide +kernel
theorem dX11_isBarred_87 : decode cX11_isBarred 87 = .ok (.iaload, 1) := by decide +kernel
theorem dX11_isBarred_88 : decode cX11_isBarred 88 = .ok (.iconst 1, 1) := by decide +kernel
theorem dX11_isBarred_89 : decode cX11_isBarred 89 = .ok (.if_icmp .ne 7, 3) := by decide +kernel
theorem dX11_isBarred_92 : decode cX11_isBarred 92 = .ok (.iconst 1, 1) := by decide +kernel
theorem dX11_isBarred_93 : decode cX11_isBarred 93 = .ok (.goto 4, 3) := by decide +kernel
theorem dX11_isBarred_96 : decode cX11_isBarred 96 = .ok (.iconst 0, 1) := by decide +kernel
theorem dX11_isBarred_97 : decode cX11_isBarred 97 = .ok (.istore 4, 2) := by decide +kernel
theorem dX11_isBarred_99 : decode cX11_isBarred 99 = .ok (.iinc 5 1, 3) := by decide +kernel
theorem dX11_isBarred_102 : decode cX11_isBarred 102 = .ok (.goto (-50), 3) := by decide +kernel
theorem dX11_isBarred_105 : decode cX11_isBarred 105 = .ok (.iload 4, 2) := by decide +kernel
theorem dX11_isBarred_107 : decode cX11_isBarred 107 = .ok (.ireturn, 1) := by decide +kernel
theorem dX11_hitOf_0 : decode cX11_hitOf 0 = .ok (.aload_n 0, 1) := by decide +kernel
theorem dX11_hitOf_1 : decode cX11_hitOf 1 = .ok (.getfield 33, 3) := by decide +kernel
theorem dX11_hitOf_4 : decode cX11_hitOf 4 = .ok (.bipush 11, 2) := by decide +kernel
theorem dX11_hitOf_6 : decode cX11_hitOf 6 = .ok (.iload_n 1, 1) := by decide +kernel
theorem dX11_hitOf_7 : decode cX11_hitOf 7 = .ok (.iadd, 1) := by decide +kernel
theorem dX11_hitOf_8 : decode cX11_hitOf 8 = .ok (.iaload, 1) := by decide +kernel
theorem dX11_hitOf_9 : decode cX11_hitOf 9 = .ok (.aload_n 0, 1) := by decide +kernel
theorem dX11_hitOf_10 : decode cX11_hitOf 10 = .ok (.getfield 33, 3) := by decide +kernel
theorem dX11_hitOf_13 : decode cX11_hitOf 13 = .ok (.bipush 67, 2) := by decide +kernel
theorem dX11_hitOf_15 : decode cX11_hitOf 15 = .ok (.iload_n 2, 1) := by decide +kernel
theorem dX11_hitOf_16 : decode cX11_hitOf 16 = .ok (.iadd, 1) := by decide +kernel
theorem dX11_hitOf_17 : decode cX11_hitOf 17 = .ok (.iaload, 1) := by decide +kernel
theorem dX11_hitOf_18 : decode cX11_hitOf 18 = .ok (.invokestatic 278, 3) := by decide +kernel
theorem dX11_hitOf_21 : decode cX11_hitOf 21 = .ok (.istore_n 3, 1) := by decide +kernel
theorem dX11_hitOf_22 : decode cX11_hitOf 22 = .ok (.aload_n 0, 1) := by decide +kernel
theorem dX11_hitOf_23 : decode cX11_hitOf 23 = .ok (.getfield 33, 3) := by decide +kernel
theorem dX11_hitOf_26 : decode cX11_hitOf 26 = .ok (.bipush 29, 2) := by decide +kernel
theorem dX11_hitOf_28 : decode cX11_hitOf 28 = .ok (.iload_n 1, 1) := by decide +kernel
theorem dX11_hitOf_29 : decode cX11_hitOf 29 = .ok (.iadd, 1) := by decide +kernel
theorem dX11_hitOf_30 : decode cX11_hitOf 30 = .ok (.iaload, 1) := by decide +kernel
theorem dX11_hitOf_31 : decode cX11_hitOf 31 = .ok (.aload_n 0, 1) := by decide +kernel
theorem dX11_hitOf_32 : decode cX11_hitOf 32 = .ok (.getfield 33, 3) := by decide +kernel
theorem dX11_hitOf_35 : decode cX11_hitOf 35 = .ok (.sipush 485, 3) := by decide +kernel
theorem dX11_hitOf_38 : decode cX11_hitOf 38 = .ok (.iload_n 1, 1) := by decide +kernel
theorem dX11_hitOf_39 : decode cX11_hitOf 39 = .ok (.iadd, 1) := by decide +kernel
theorem dX11_hitOf_40 : decode cX11_hitOf 40 = .ok (.iaload, 1) := by decide +kernel
theorem dX11_hitOf_41 : decode cX11_hitOf 41 = .ok (.iadd, 1) := by decide +kernel
theorem dX11_hitOf_42 : decode cX11_hitOf 42 = .ok (.iload_n 3, 1) := by decide +kernel
theorem dX11_hitOf_43 : decode cX11_hitOf 43 = .ok (.iconst 2, 1) := by decide +kernel
theorem dX11_hitOf_44 : decode cX11_hitOf 44 = .ok (.if_icmp .gt 7, 3) := by decide +kernel
theorem dX11_hitOf_47 : decode cX11_hitOf 47 = .ok (.iconst 2, 1) := by decide +kernel
theorem dX11_hitOf_48 : decode cX11_hitOf 48 = .ok (.goto 5, 3) := by decide +kernel
theorem dX11_hitOf_51 : decode cX11_hitOf 51 = .ok (.iload_n 3, 1) := by decide +kernel
theorem dX11_hitOf_52 : decode cX11_hitOf 52 = .ok (.ineg, 1) := by decide +kernel
theorem dX11_hitOf_53 : decode cX11_hitOf 53 = .ok (.iadd, 1) := by decide +kernel
theorem dX11_hitOf_54 : decode cX11_hitOf 54 = .ok (.aload_n 0, 1) := by decide +kernel
theorem dX11_hitOf_55 : decode cX11_hitOf 55 = .ok (.getfield 33, 3) := by decide +kernel
theorem dX11_hitOf_58 : decode cX11_hitOf 58 = .ok (.bipush 107, 2) := by decide +kernel
theorem dX11_hitOf_60 : decode cX11_hitOf 60 = .ok (.iload_n 2, 1) := by decide +kernel
theorem dX11_hitOf_61 : decode cX11_hitOf 61 = .ok (.iadd, 1) := by decide +kernel
theorem dX11_hitOf_62 : decode cX11_hitOf 62 = .ok (.iaload, 1) := by decide +kernel
theorem dX11_hitOf_63 : decode cX11_hitOf 63 = .ok (.isub, 1) := by decide +kernel
theorem dX11_hitOf_64 : decode cX11_hitOf 64 = .ok (.istore 4, 2) := by decide +kernel
theorem dX11_hitOf_66 : decode cX11_hitOf 66 = .ok (.iload 4, 2) := by decide +kernel
theorem dX11_hitOf_68 : decode cX11_hitOf 68 = .ok (.ifCond .ge 7, 3) := by decide +kernel
theorem dX11_hitOf_71 : decode cX11_hitOf 71 = .ok (.iconst 0, 1) := by decide +kernel
theorem dX11_hitOf_72 : decode cX11_hitOf 72 = .ok (.goto 5, 3) := by decide +kernel
theorem dX11_hitOf_75 : decode cX11_hitOf 75 = .ok (.iload 4, 2) := by decide +kernel
theorem dX11_hitOf_77 : decode cX11_hitOf 77 = .ok (.ireturn, 1) := by decide +kernel
theorem dX11_uses_0 : decode cX11_uses 0 = .ok (.aload_n 0, 1) := by decide +kernel
theorem dX11_uses_1 : decode cX11_uses 1 = .ok (.getfield 33, 3) := by decide +kernel
theorem dX11_uses_4 : decode cX11_uses 4 = .ok (.sipush 458, 3) := by decide +kernel
theorem dX11_uses_7 : decode cX11_uses 7 = .ok (.iload_n 1, 1) := by decide +kernel
theorem dX11_uses_8 : decode cX11_uses 8 = .ok (.iadd, 1) := by decide +kernel
theorem dX11_uses_9 : decode cX11_uses 9 = .ok (.dup2, 1) := by decide +kernel
theorem dX11_uses_10 : decode cX11_uses 10 = .ok (.iaload, 1) := by decide +kernel
theorem dX11_uses_11 : decode cX11_uses 11 = .ok (.iconst 1, 1) := by decide +kernel
theorem dX11_uses_12 : decode cX11_uses 12 = .ok (.isub, 1) := by decide +kernel
theorem dX11_uses_13 : decode cX11_uses 13 = .ok (.iastore, 1) := by decide +kernel
theorem dX11_uses_14 : decode cX11_uses 14 = .ok (.aload_n 0, 1) := by decide +kernel
theorem dX11_uses_15 : decode cX11_uses 15 = .ok (.getfield 33, 3) := by decide +kernel
theorem dX11_uses_18 : decode cX11_uses 18 = .ok (.sipush 494, 3) := by decide +kernel
theorem dX11_uses_21 : decode cX11_uses 21 = .ok (.bipush 20, 2) := by decide +kernel
theorem dX11_uses_23 : decode cX11_uses 23 = .ok (.iload_n 1, 1) := by decide +kernel
theorem dX11_uses_24 : decode cX11_uses 24 = .ok (.imul, 1) := by decide +kernel
theorem dX11_uses_25 : decode cX11_uses 25 = .ok (.iadd, 1) := by decide +kernel
theorem dX11_uses_26 : decode cX11_uses 26 = .ok (.iload_n 2, 1) := by decide +kernel
theorem dX11_uses_27 : decode cX11_uses 27 = .ok (.iadd, 1) := by decide +kernel
theorem dX11_uses_28 : decode cX11_uses 28 = .ok (.dup2, 1) := by decide +kernel
theorem dX11_uses_29 : decode cX11_uses 29 = .ok (.iaload, 1) := by decide +kernel
theorem dX11_uses_30 : decode cX11_uses 30 = .ok (.iconst 1, 1) := by decide +kernel
theorem dX11_uses_31 : decode cX11_uses 31 = .ok (.iadd, 1) := by decide +kernel
theorem dX11_uses_32 : decode cX11_uses 32 = .ok (.iastore, 1) := by decide +kernel
theorem dX11_uses_33 : decode cX11_uses 33 = .ok (.aload_n 0, 1) := by decide +kernel
theorem dX11_uses_34 : decode cX11_uses 34 = .ok (.getfield 33, 3) := by decide +kernel
theorem dX11_uses_37 : decode cX11_uses 37 = .ok (.sipush 914, 3) := by decide +kernel
theorem dX11_uses_40 : decode cX11_uses 40 = .ok (.dup2, 1) := by decide +kernel
theorem dX11_uses_41 : decode cX11_uses 41 = .ok (.iaload, 1) := by decide +kernel
theorem dX11_uses_42 : decode cX11_uses 42 = .ok (.iconst 1, 1) := by decide +kernel
theorem dX11_uses_43 : decode cX11_uses 43 = .ok (.iadd, 1) := by decide +kernel
theorem dX11_uses_44 : decode cX11_uses 44 = .ok (.iastore, 1) := by decide +kernel
theorem dX11_uses_45 : decode cX11_uses 45 = .ok (.return_, 1) := by decide +kernel
theorem dX11_throwsAt_0 : decode cX11_throwsAt 0 = .ok (.iconst 4, 1) := by decide +kernel
theorem dX11_throwsAt_1 : decode cX11_throwsAt 1 = .ok (.istore 4, 2) := by decide +kernel
theorem dX11_throwsAt_3 : decode cX11_throwsAt 3 = .ok (.iconst 0, 1) := by decide +kernel
theorem dX11_throwsAt_4 : decode cX11_throwsAt 4 = .ok (.istore 5, 2) := by decide +kernel
theorem dX11_throwsAt_6 : decode cX11_throwsAt 6 = .ok (.aload_n 0, 1) := by decide +kernel
theorem dX11_throwsAt_7 : decode cX11_throwsAt 7 = .ok (.getfield 33, 3) := by decide +kernel
theorem dX11_throwsAt_10 : decode cX11_throwsAt 10 = .ok (.bipush 11, 2) := by decide +kernel
theorem dX11_throwsAt_12 : decode cX11_throwsAt 12 = .ok (.iload_n 1, 1) := by decide +kernel
theorem dX11_throwsAt_13 : decode cX11_throwsAt 13 = .ok (.iadd, 1) := by decide +kernel
theorem dX11_throwsAt_14 : decode cX11_throwsAt 14 = .ok (.iaload, 1) := by decide +kernel
theorem dX11_throwsAt_15 : decode cX11_throwsAt 15 = .ok (.istore 6, 2) := by decide +kernel
theorem dX11_throwsAt_17 : decode cX11_throwsAt 17 = .ok (.aload_n 0, 1) := by decide +kernel
theorem dX11_throwsAt_18 : decode cX11_throwsAt 18 = .ok (.iload_n 1, 1) := by decide +kernel
theorem dX11_throwsAt_19 : decode cX11_throwsAt 19 = .ok (.iload_n 2, 1) := by decide +kernel
theorem dX11_throwsAt_20 : decode cX11_throwsAt 20 = .ok (.invokevirtual 284, 3) := by decide +kernel
theorem dX11_throwsAt_23 : decode cX11_throwsAt 23 = .ok (.ifCond .eq 21, 3) := by decide +kernel
theorem dX11_throwsAt_26 : decode cX11_throwsAt 26 = .ok (.iconst 0, 1) := by decide +kernel
theorem dX11_throwsAt_27 : decode cX11_throwsAt 27 = .ok (.istore 4, 2) := by decide +kernel
theorem dX11_throwsAt_29 : decode cX11_throwsAt 29 = .ok (.aload_n 0, 1) := by decide +kernel
theorem dX11_throwsAt_30 : decode cX11_throwsAt 30 = .ok (.getfield 33, 3) := by decide +kernel
theorem dX11_throwsAt_33 : decode cX11_throwsAt 33 = .ok (.sipush 917, 3) := by decide +kernel
theorem dX11_throwsAt_36 : decode cX11_throwsAt 36 = .ok (.dup2, 1) := by decide +kernel
theorem dX11_throwsAt_37 : decode cX11_throwsAt 37 = .ok (.iaload, 1) := by decide +kernel
theorem dX11_throwsAt_38 : decode cX11_throwsAt 38 = .ok (.iconst 1, 1) := by decide +kernel
theorem dX11_throwsAt_39 : decode cX11_throwsAt 39 = .ok (.iadd, 1) := by decide +kernel
theorem dX11_throwsAt_40 : decode cX11_throwsAt 40 = .ok (.iastore, 1) := by decide +kernel
theorem dX11_throwsAt_41 : decode cX11_throwsAt 41 = .ok (.goto 224, 3) := by decide +kernel
theorem dX11_throwsAt_44 : decode cX11_throwsAt 44 = .ok (.iload_n 3, 1) := by decide +kernel
theorem dX11_throwsAt_45 : decode cX11_throwsAt 45 = .ok (.ifCond .ne 76, 3) := by decide +kernel
theorem dX11_throwsAt_48 : decode cX11_throwsAt 48 = .ok (.aload_n 0, 1) := by decide +kernel
theorem dX11_throwsAt_49 : decode cX11_throwsAt 49 = .ok (.getfield 33, 3) := by decide +kernel
theorem dX11_throwsAt_52 : decode cX11_throwsAt 52 = .ok (.sipush 814, 3) := by decide +kernel
theorem dX11_throwsAt_55 : decode cX11_throwsAt 55 = .ok (.iload 6, 2) := by decide +kernel
theorem dX11_throwsAt_57 : decode cX11_throwsAt 57 = .ok (.iadd, 1) := by decide +kernel
theorem dX11_throwsAt_58 : decode cX11_throwsAt 58 = .ok (.iaload, 1) := by decide +kernel
theorem dX11_throwsAt_59 : decode cX11_throwsAt 59 = .ok (.ifCond .ne 62, 3) := by decide +kernel
theorem dX11_throwsAt_62 : decode cX11_throwsAt 62 = .ok (.aload_n 0, 1) := by decide +kernel
theorem dX11_throwsAt_63 : decode cX11_throwsAt 63 = .ok (.bipush 40, 2) := by decide +kernel
theorem dX11_throwsAt_65 : decode cX11_throwsAt 65 = .ok (.invokevirtual 287, 3) := by decide +kernel
theorem dX11_throwsAt_68 : decode cX11_throwsAt 68 = .ok (.aload_n 0, 1) := by decide +kernel
theorem dX11_throwsAt_69 : decode cX11_throwsAt 69 = .ok (.getfield 33, 3) := by decide +kernel
theorem dX11_throwsAt_72 : decode cX11_throwsAt 72 = .ok (.sipush 714, 3) := by decide +kernel
theorem dX11_throwsAt_75 : decode cX11_throwsAt 75 = .ok (.iload 6, 2) := by decide +kernel
theorem dX11_throwsAt_77 : decode cX11_throwsAt 77 = .ok (.iadd, 1) := by decide +kernel
theorem dX11_throwsAt_78 : decode cX11_throwsAt 78 = .ok (.iaload, 1) := by decide +kernel
theorem dX11_throwsAt_79 : decode cX11_throwsAt 79 = .ok (.if_icmp .ge 42, 3) := by decide +kernel
theorem dX11_throwsAt_82 : decode cX11_throwsAt 82 = .ok (.iconst 1, 1) := by decide +kernel
theorem dX11_throwsAt_83 : decode cX11_throwsAt 83 = .ok (.istore 4, 2) := by decide +kernel
theorem dX11_throwsAt_85 : decode cX11_throwsAt 85 = .ok (.aload_n 0, 1) := by decide +kernel
theorem dX11_throwsAt_86 : decode cX11_throwsAt 86 = .ok (.iload_n 1, 1) := by decide +kernel
theorem dX11_throwsAt_87 : decode cX11_throwsAt 87 = .ok (.iload_n 2, 1) := by decide +kernel
theorem dX11_throwsAt_88 : decode cX11_throwsAt 88 = .ok (.invokevirtual 290, 3) := by decide +kernel
theorem dX11_throwsAt_91 : decode cX11_throwsAt 91 = .ok (.aload_n 0, 1) := by decide +kernel
theorem dX11_throwsAt_92 : decode cX11_throwsAt 92 = .ok (.getfield 33, 3) := by decide +kernel
theorem dX11_throwsAt_95 : decode cX11_throwsAt 95 = .ok (.sipush 916, 3) := by decide +kernel
theorem dX11_throwsAt_98 : decode cX11_throwsAt 98 = .ok (.dup2, 1) := by decide +kernel
theorem dX11_throwsAt_99 : decode cX11_throwsAt 99 = .ok (.iaload, 1) := by decide +kernel
theorem dX11_throwsAt_100 : decode cX11_throwsAt 100 = .ok (.iconst 1, 1) := by decide +kernel
theorem dX11_throwsAt_101 : decode cX11_throwsAt 101 = .ok (.iadd, 1) := by decide +kernel
theorem dX11_throwsAt_102 : decode cX11_throwsAt 102 = .ok (.iastore, 1) := by decide +kernel
theorem dX11_throwsAt_103 : decode cX11_throwsAt 103 = .ok (.aload_n 0, 1) := by decide +kernel
theorem dX11_throwsAt_104 : decode cX11_throwsAt 104 = .ok (.getfield 33, 3) := by decide +kernel
theorem dX11_throwsAt_107 : decode cX11_throwsAt 107 = .ok (.sipush 714, 3) := by decide +kernel
theorem dX11_throwsAt_110 : decode cX11_throwsAt 110 = .ok (.iload 6, 2) := by decide +kernel
theorem dX11_throwsAt_112 : decode cX11_throwsAt 112 = .ok (.iadd, 1) := by decide +kernel
theorem dX11_throwsAt_113 : decode cX11_throwsAt 113 = .ok (.dup2, 1) := by decide +kernel
theorem dX11_throwsAt_114 : decode cX11_throwsAt 114 = .ok (.iaload, 1) := by decide +kernel
theorem dX11_throwsAt_115 : decode cX11_throwsAt 115 = .ok (.iconst 1, 1) := by decide +kernel
theorem dX11_throwsAt_116 : decode cX11_throwsAt 116 = .ok (.iadd, 1) := by decide +kernel
theorem dX11_throwsAt_117 : decode cX11_throwsAt 117 = .ok (.iastore, 1) := by decide +kernel
theorem dX11_throwsAt_118 : decode cX11_throwsAt 118 = .ok (.goto 147, 3) := by decide +kernel
theorem dX11_throwsAt_121 : decode cX11_throwsAt 121 = .ok (.aload_n 0, 1) := by decide +kernel
theorem dX11_throwsAt_122 : decode cX11_throwsAt 122 = .ok (.getfield 33, 3) := by decide +kernel
theorem dX11_throwsAt_125 : decode cX11_throwsAt 125 = .ok (.sipush 445, 3) := by decide +kernel
theorem dX11_throwsAt_128 : decode cX11_throwsAt 128 = .ok (.iload_n 1, 1) := by decide +kernel
theorem dX11_throwsAt_129 : decode cX11_throwsAt 129 = .ok (.iadd, 1) := by decide +kernel
theorem dX11_throwsAt_130 : decode cX11_throwsAt 130 = .ok (.iaload, 1) := by decide +kernel
theorem dX11_throwsAt_131 : decode cX11_throwsAt 131 = .ok (.iconst 1, 1) := by decide +kernel
theorem dX11_throwsAt_132 : decode cX11_throwsAt 132 = .ok (.if_icmp .ne 46, 3) := by decide +kernel
theorem dX11_throwsAt_135 : decode cX11_throwsAt 135 = .ok (.aload_n 0, 1) := by decide +kernel
theorem dX11_throwsAt_136 : decode cX11_throwsAt 136 = .ok (.getfield 33, 3) := by decide +kernel
theorem dX11_throwsAt_139 : decode cX11_throwsAt 139 = .ok (.sipush 456, 3) := by decide +kernel
theorem dX11_throwsAt_142 : decode cX11_throwsAt 142 = .ok (.iaload, 1) := by decide +kernel
theorem dX11_throwsAt_143 : decode cX11_throwsAt 143 = .ok (.iconst 2, 1) := by decide +kernel
theorem dX11_throwsAt_144 : decode cX11_throwsAt 144 = .ok (.irem, 1) := by decide +kernel
theorem dX11_throwsAt_145 : decode cX11_throwsAt 145 = .ok (.iconst 1, 1) := by decide +kernel
theorem dX11_throwsAt_146 : decode cX11_throwsAt 146 = .ok (.if_icmp .ne 32, 3) := by decide +kernel
theorem dX11_throwsAt_149 : decode cX11_throwsAt 149 = .ok (.iconst 2, 1) := by decide +kernel
theorem dX11_throwsAt_150 : decode cX11_throwsAt 150 = .ok (.istore 4, 2) := by decide +kernel
theorem dX11_throwsAt_152 : decode cX11_throwsAt 152 = .ok (.aload_n 0, 1) := by decide +kernel
theorem dX11_throwsAt_153 : decode cX11_throwsAt 153 = .ok (.getfield 33, 3) := by decide +kernel
theorem dX11_throwsAt_156 : decode cX11_throwsAt 156 = .ok (.sipush 485, 3) := by decide +kernel
theorem dX11_throwsAt_159 : decode cX11_throwsAt 159 = .ok (.iload_n 1, 1) := by decide +kernel
theorem dX11_throwsAt_160 : decode cX11_throwsAt 160 = .ok (.iadd, 1) := by decide +kernel
theorem dX11_throwsAt_161 : decode cX11_throwsAt 161 = .ok (.iconst 2, 1) := by decide +kernel
theorem dX11_throwsAt_162 : decode cX11_throwsAt 162 = .ok (.iastore, 1) := by decide +kernel
theorem dX11_throwsAt_163 : decode cX11_throwsAt 163 = .ok (.aload_n 0, 1) := by decide +kernel
theorem dX11_throwsAt_164 : decode cX11_throwsAt 164 = .ok (.getfield 33, 3) := by decide +kernel
theorem dX11_throwsAt_167 : decode cX11_throwsAt 167 = .ok (.sipush 918, 3) := by decide +kernel
theorem dX11_throwsAt_170 : decode cX11_throwsAt 170 = .ok (.dup2, 1) := by decide +kernel
theorem dX11_throwsAt_171 : decode cX11_throwsAt 171 = .ok (.iaload, 1) := by decide +kernel
theorem dX11_throwsAt_172 : decode cX11_throwsAt 172 = .ok (.iconst 1, 1) := by decide +kernel
theorem dX11_throwsAt_173 : decode cX11_throwsAt 173 = .ok (.iadd, 1) := by decide +kernel
theorem dX11_throwsAt_174 : decode cX11_throwsAt 174 = .ok (.iastore, 1) := by decide +kernel
theorem dX11_throwsAt_175 : decode cX11_throwsAt 175 = .ok (.goto 90, 3) := by decide +kernel
theorem dX11_throwsAt_178 : decode cX11_throwsAt 178 = .ok (.iload 6, 2) := by decide +kernel
theorem dX11_throwsAt_180 : decode cX11_throwsAt 180 = .ok (.aload_n 0, 1) := by decide +kernel
theorem dX11_throwsAt_181 : decode cX11_throwsAt 181 = .ok (.getfield 33, 3) := by decide +kernel
theorem dX11_throwsAt_184 : decode cX11_throwsAt 184 = .ok (.bipush 67, 2) := by decide +kernel
theorem dX11_throwsAt_186 : decode cX11_throwsAt 186 = .ok (.iload_n 2, 1) := by decide +kernel
theorem dX11_throwsAt_187 : decode cX11_throwsAt 187 = .ok (.iadd, 1) := by decide +kernel
theorem dX11_throwsAt_188 : decode cX11_throwsAt 188 = .ok (.iaload, 1) := by decide +kernel
theorem dX11_throwsAt_189 : decode cX11_throwsAt 189 = .ok (.invokestatic 278, 3) := by decide +kernel
theorem dX11_throwsAt_192 : decode cX11_throwsAt 192 = .ok (.iconst 2, 1) := by decide +kernel
theorem dX11_throwsAt_193 : decode cX11_throwsAt 193 = .ok (.if_icmp .gt 7, 3) := by decide +kernel
theorem dX11_throwsAt_196 : decode cX11_throwsAt 196 = .ok (.iconst 3, 1) := by decide +kernel
theorem dX11_throwsAt_197 : decode cX11_throwsAt 197 = .ok (.goto 4, 3) := by decide +kernel
theorem dX11_throwsAt_200 : decode cX11_throwsAt 200 = .ok (.iconst 4, 1) := by decide +kernel
theorem dX11_throwsAt_201 : decode cX11_throwsAt 201 = .ok (.istore 4, 2) := by decide +kernel
theorem dX11_throwsAt_203 : decode cX11_throwsAt 203 = .ok (.aload_n 0, 1) := by decide +kernel
theorem dX11_throwsAt_204 : decode cX11_throwsAt 204 = .ok (.iload_n 1, 1) := by decide +kernel
theorem dX11_throwsAt_205 : decode cX11_throwsAt 205 = .ok (.iload_n 2, 1) := by decide +kernel
theorem dX11_throwsAt_206 : decode cX11_throwsAt 206 = .ok (.invokevirtual 294, 3) := by decide +kernel
theorem dX11_throwsAt_209 : decode cX11_throwsAt 209 = .ok (.istore 5, 2) := by decide +kernel
theorem dX11_throwsAt_211 : decode cX11_throwsAt 211 = .ok (.aload_n 0, 1) := by decide +kernel
theorem dX11_throwsAt_212 : decode cX11_throwsAt 212 = .ok (.getfield 33, 3) := by decide +kernel
theorem dX11_throwsAt_215 : decode cX11_throwsAt 215 = .ok (.sipush 485, 3) := by decide +kernel
theorem dX11_throwsAt_218 : decode cX11_throwsAt 218 = .ok (.iload_n 1, 1) := by decide +kernel
theorem dX11_throwsAt_219 : decode cX11_throwsAt 219 = .ok (.iadd, 1) := by decide +kernel
theorem dX11_throwsAt_220 : decode cX11_throwsAt 220 = .ok (.iconst 0, 1) := by decide +kernel
theorem dX11_throwsAt_221 : decode cX11_throwsAt 221 = .ok (.iastore, 1) := by decide +kernel
theorem dX11_throwsAt_222 : decode cX11_throwsAt 222 = .ok (.aload_n 0, 1) := by decide +kernel
theorem dX11_throwsAt_223 : decode cX11_throwsAt 223 = .ok (.iload_n 1, 1) := by decide +kernel
theorem dX11_throwsAt_224 : decode cX11_throwsAt 224 = .ok (.iload_n 2, 1) := by decide +kernel
theorem dX11_throwsAt_225 : decode cX11_throwsAt 225 = .ok (.invokevirtual 290, 3) := by decide +kernel
theorem dX11_throwsAt_228 : decode cX11_throwsAt 228 = .ok (.aload_n 0, 1) := by decide +kernel
theorem dX11_throwsAt_229 : decode cX11_throwsAt 229 = .ok (.getfield 33, 3) := by decide +kernel
theorem dX11_throwsAt_232 : decode cX11_throwsAt 232 = .ok (.sipush 714, 3) := by decide +kernel
theorem dX11_throwsAt_235 : decode cX11_throwsAt 235 = .ok (.aload_n 0, 1) := by decide +kernel
theorem dX11_throwsAt_236 : decode cX11_throwsAt 236 = .ok (.getfield 33, 3) := by decide +kernel
theorem dX11_throwsAt_239 : decode cX11_throwsAt 239 = .ok (.bipush 67, 2) := by decide +kernel
theorem dX11_throwsAt_241 : decode cX11_throwsAt 241 = .ok (.iload_n 2, 1) := by decide +kernel
theorem dX11_throwsAt_242 : decode cX11_throwsAt 242 = .ok (.iadd, 1) := by decide +kernel
theorem dX11_throwsAt_243 : decode cX11_throwsAt 243 = .ok (.iaload, 1) := by decide +kernel
theorem dX11_throwsAt_244 : decode cX11_throwsAt 244 = .ok (.iadd, 1) := by decide +kernel
theorem dX11_throwsAt_245 : decode cX11_throwsAt 245 = .ok (.dup2, 1) := by decide +kernel
theorem dX11_throwsAt_246 : decode cX11_throwsAt 246 = .ok (.iaload, 1) := by decide +kernel
theorem dX11_throwsAt_247 : decode cX11_throwsAt 247 = .ok (.iconst 1, 1) := by decide +kernel
theorem dX11_throwsAt_248 : decode cX11_throwsAt 248 = .ok (.iadd, 1) := by decide +kernel
theorem dX11_throwsAt_249 : decode cX11_throwsAt 249 = .ok (.iastore, 1) := by decide +kernel
theorem dX11_throwsAt_250 : decode cX11_throwsAt 250 = .ok (.aload_n 0, 1) := by decide +kernel
theorem dX11_throwsAt_251 : decode cX11_throwsAt 251 = .ok (.getfield 33, 3) := by decide +kernel
theorem dX11_throwsAt_254 : decode cX11_throwsAt 254 = .ok (.sipush 694, 3) := by decide +kernel
theorem dX11_throwsAt_257 : decode cX11_throwsAt 257 = .ok (.iload_n 2, 1) := by decide +kernel
theorem dX11_throwsAt_258 : decode cX11_throwsAt 258 = .ok (.iadd, 1) := by decide +kernel
theorem dX11_throwsAt_259 : decode cX11_throwsAt 259 = .ok (.dup2, 1) := by decide +kernel
theorem dX11_throwsAt_260 : decode cX11_throwsAt 260 = .ok (.iaload, 1) := by decide +kernel
theorem dX11_throwsAt_261 : decode cX11_throwsAt 261 = .ok (.iload 5, 2) := by decide +kernel
theorem dX11_throwsAt_263 : decode cX11_throwsAt 263 = .ok (.iadd, 1) := by decide +kernel
theorem dX11_throwsAt_264 : decode cX11_throwsAt 264 = .ok (.iastore, 1) := by decide +kernel
theorem dX11_throwsAt_265 : decode cX11_throwsAt 265 = .ok (.sipush 920, 3) := by decide +kernel
theorem dX11_throwsAt_268 : decode cX11_throwsAt 268 = .ok (.bipush 6, 2) := by decide +kernel
theorem dX11_throwsAt_270 : decode cX11_throwsAt 270 = .ok (.aload_n 0, 1) := by decide +kernel
theorem dX11_throwsAt_271 : decode cX11_throwsAt 271 = .ok (.getfield 33, 3) := by decide +kernel
theorem dX11_throwsAt_274 : decode cX11_throwsAt 274 = .ok (.sipush 919, 3) := by decide +kernel
theorem dX11_throwsAt_277 : decode cX11_throwsAt 277 = .ok (.iaload, 1) := by decide +kernel
theorem dX11_throwsAt_278 : decode cX11_throwsAt 278 = .ok (.imul, 1) := by decide +kernel
theorem dX11_throwsAt_279 : decode cX11_throwsAt 279 = .ok (.iadd, 1) := by decide +kernel
theorem dX11_throwsAt_280 : decode cX11_throwsAt 280 = .ok (.istore 7, 2) := by decide +kernel
theorem dX11_throwsAt_282 : decode cX11_throwsAt 282 = .ok (.aload_n 0, 1) := by decide +kernel
theorem dX11_throwsAt_283 : decode cX11_throwsAt 283 = .ok (.getfield 33, 3) := by decide +kernel
theorem dX11_throwsAt_286 : decode cX11_throwsAt 286 = .ok (.iload 7, 2) := by decide +kernel
theorem dX11_throwsAt_288 : decode cX11_throwsAt 288 = .ok (.iload_n 1, 1) := by decide +kernel
theorem dX11_throwsAt_289 : decode cX11_throwsAt 289 = .ok (.iastore, 1) := by decide +kernel
theorem dX11_throwsAt_290 : decode cX11_throwsAt 290 = .ok (.aload_n 0, 1) := by decide +kernel
theorem dX11_throwsAt_291 : decode cX11_throwsAt 291 = .ok (.getfield 33, 3) := by decide +kernel
theorem dX11_throwsAt_294 : decode cX11_throwsAt 294 = .ok (.iload 7, 2) := by decide +kernel
theorem dX11_throwsAt_296 : decode cX11_throwsAt 296 = .ok (.iconst 1, 1) := by decide +kernel
theorem dX11_throwsAt_297 : decode cX11_throwsAt 297 = .ok (.iadd, 1) := by decide +kernel
theorem dX11_throwsAt_298 : decode cX11_throwsAt 298 = .ok (.iload_n 2, 1) := by decide +kernel
theorem dX11_throwsAt_299 : decode cX11_throwsAt 299 = .ok (.iastore, 1) := by decide +kernel
theorem dX11_throwsAt_300 : decode cX11_throwsAt 300 = .ok (.aload_n 0, 1) := by decide +kernel
theorem dX11_throwsAt_301 : decode cX11_throwsAt 301 = .ok (.getfield 33, 3) := by decide +kernel
theorem dX11_throwsAt_304 : decode cX11_throwsAt 304 = .ok (.iload 7, 2) := by decide +kernel
theorem dX11_throwsAt_306 : decode cX11_throwsAt 306 = .ok (.iconst 2, 1) := by decide +kernel
theorem dX11_throwsAt_307 : decode cX11_throwsAt 307 = .ok (.iadd, 1) := by decide +kernel
theorem dX11_throwsAt_308 : decode cX11_throwsAt 308 = .ok (.iload 4, 2) := by decide +kernel
theorem dX11_throwsAt_310 : decode cX11_throwsAt 310 = .ok (.iastore, 1) := by decide +kernel
theorem dX11_throwsAt_311 : decode cX11_throwsAt 311 = .ok (.aload_n 0, 1) := by decide +kernel
theorem dX11_throwsAt_312 : decode cX11_throwsAt 312 = .ok (.getfield 33, 3) := by decide +kernel
theorem dX11_throwsAt_315 : decode cX11_throwsAt 315 = .ok (.iload 7, 2) := by decide +kernel
theorem dX11_throwsAt_317 : decode cX11_throwsAt 317 = .ok (.iconst 3, 1) := by decide +kernel
theorem dX11_throwsAt_318 : decode cX11_throwsAt 318 = .ok (.iadd, 1) := by decide +kernel
theorem dX11_throwsAt_319 : decode cX11_throwsAt 319 = .ok (.iload 5, 2) := by decide +kernel
theorem dX11_throwsAt_321 : decode cX11_throwsAt 321 = .ok (.iastore, 1) := by decide +kernel
theorem dX11_throwsAt_322 : decode cX11_throwsAt 322 = .ok (.aload_n 0, 1) := by decide +kernel
theorem dX11_throwsAt_323 : decode cX11_throwsAt 323 = .ok (.getfield 33, 3) := by decide +kernel
theorem dX11_throwsAt_326 : decode cX11_throwsAt 326 = .ok (.iload 7, 2) := by decide +kernel
theorem dX11_throwsAt_328 : decode cX11_throwsAt 328 = .ok (.iconst 4, 1) := by decide +kernel
theorem dX11_throwsAt_329 : decode cX11_throwsAt 329 = .ok (.iadd, 1) := by decide +kernel
theorem dX11_throwsAt_330 : decode cX11_throwsAt 330 = .ok (.iconst 0, 1) := by decide +kernel
theorem dX11_throwsAt_331 : decode cX11_throwsAt 331 = .ok (.iastore, 1) := by decide +kernel
theorem dX11_throwsAt_332 : decode cX11_throwsAt 332 = .ok (.aload_n 0, 1) := by decide +kernel
theorem dX11_throwsAt_333 : decode cX11_throwsAt 333 = .ok (.getfield 33, 3) := by decide +kernel
theorem dX11_throwsAt_336 : decode cX11_throwsAt 336 = .ok (.iload 7, 2) := by decide +kernel
theorem dX11_throwsAt_338 : decode cX11_throwsAt 338 = .ok (.iconst 5, 1) := by decide +kernel
theorem dX11_throwsAt_339 : decode cX11_throwsAt 339 = .ok (.iadd, 1) := by decide +kernel
theorem dX11_throwsAt_340 : decode cX11_throwsAt 340 = .ok (.iconst 0, 1) := by decide +kernel
theorem dX11_throwsAt_341 : decode cX11_throwsAt 341 = .ok (.iastore, 1) := by decide +kernel
theorem dX11_throwsAt_342 : decode cX11_throwsAt 342 = .ok (.aload_n 0, 1) := by decide +kernel
theorem dX11_throwsAt_343 : decode cX11_throwsAt 343 = .ok (.getfield 33, 3) := by decide +kernel
theorem dX11_throwsAt_346 : decode cX11_throwsAt 346 = .ok (.sipush 919, 3) := by decide +kernel
theorem dX11_throwsAt_349 : decode cX11_throwsAt 349 = .ok (.dup2, 1) := by decide +kernel
theorem dX11_throwsAt_350 : decode cX11_throwsAt 350 = .ok (.iaload, 1) := by decide +kernel
theorem dX11_throwsAt_351 : decode cX11_throwsAt 351 = .ok (.iconst 1, 1) := by decide +kernel
theorem dX11_throwsAt_352 : decode cX11_throwsAt 352 = .ok (.iadd, 1) := by decide +kernel
theorem dX11_throwsAt_353 : decode cX11_throwsAt 353 = .ok (.iastore, 1) := by decide +kernel
theorem dX11_throwsAt_354 : decode cX11_throwsAt 354 = .ok (.return_, 1) := by decide +kernel
theorem dX11_judges_0 : decode cX11_judges 0 = .ok (.iconst 0, 1) := by decide +kernel
theorem dX11_judges_1 : decode cX11_judges 1 = .ok (.istore_n 2, 1) := by decide +kernel
theorem dX11_judges_2 : decode cX11_judges 2 = .ok (.iconst 0, 1) := by decide +kernel
theorem dX11_judges_3 : decode cX11_judges 3 = .ok (.istore_n 3, 1) := by decide +kernel
theorem dX11_judges_4 : decode cX11_judges 4 = .ok (.iload_n 3, 1) := by decide +kernel
theorem dX11_judges_5 : decode cX11_judges 5 = .ok (.bipush 100, 2) := by decide +kernel
theorem dX11_judges_7 : decode cX11_judges 7 = .ok (.if_icmp .ge 40, 3) := by decide +kernel
theorem dX11_judges_10 : decode cX11_judges 10 = .ok (.iload_n 2, 1) := by decide +kernel
theorem dX11_judges_11 : decode cX11_judges 11 = .ok (.aload_n 0, 1) := by decide +kernel
theorem dX11_judges_12 : decode cX11_judges 12 = .ok (.getfield 33, 3) := by decide +kernel
theorem dX11_judges_15 : decode cX11_judges 15 = .ok (.sipush 327, 3) := by decide +kernel
theorem dX11_judges_18 : decode cX11_judges 18 = .ok (.iload_n 3, 1) := by decide +kernel
theorem dX11_judges_19 : decode cX11_judges 19 = .ok (.iadd, 1) := by decide +kernel
theorem dX11_judges_20 : decode cX11_judges 20 = .ok (.iaload, 1) := by decide +kernel
theorem dX11_judges_21 : decode cX11_judges 21 = .ok (.iconst 1, 1) := by decide +kernel
theorem dX11_judges_22 : decode cX11_judges 22 = .ok (.if_icmp .ne 16, 3) := by decide +kernel
theorem dX11_judges_25 : decode cX11_judges 25 = .ok (.iload_n 3, 1) := by decide +kernel
theorem dX11_judges_26 : decode cX11_judges 26 = .ok (.iload_n 1, 1) := by decide +kernel
theorem dX11_judges_27 : decode cX11_judges 27 = .ok (.invokestatic 278, 3) := by decide +kernel
theorem dX11_judges_30 : decode cX11_judges 30 = .ok (.iconst 4, 1) := by decide +kernel
theorem dX11_judges_31 : decode cX11_judges 31 = .ok (.if_icmp .gt 7, 3) := by decide +kernel
theorem dX11_judges_34 : decode cX11_judges 34 = .ok (.iconst 1, 1) := by decide +kernel
theorem dX11_judges_35 : decode cX11_judges 35 = .ok (.goto 4, 3) := by decide +kernel
theorem dX11_judges_38 : decode cX11_judges 38 = .ok (.iconst 0, 1) := by decide +kernel
theorem dX11_judges_39 : decode cX11_judges 39 = .ok (.iadd, 1) := by decide +kernel
theorem dX11_judges_40 : decode cX11_judges 40 = .ok (.istore_n 2, 1) := by decide +kernel
theorem dX11_judges_41 : decode cX11_judges 41 = .ok (.iinc 3 1, 3) := by decide +kernel
theorem dX11_judges_44 : decode cX11_judges 44 = .ok (.goto (-40), 3) := by decide +kernel
theorem dX11_judges_47 : decode cX11_judges 47 = .ok (.iload_n 2, 1) := by decide +kernel
theorem dX11_judges_48 : decode cX11_judges 48 = .ok (.ireturn, 1) := by decide +kernel
theorem dX11_marked_0 : decode cX11_marked 0 = .ok (.iconst 0, 1) := by decide +kernel
theorem dX11_marked_1 : decode cX11_marked 1 = .ok (.istore_n 1, 1) := by decide +kernel
theorem dX11_marked_2 : decode cX11_marked 2 = .ok (.iload_n 1, 1) := by decide +kernel
theorem dX11_marked_3 : decode cX11_marked 3 = .ok (.aload_n 0, 1) := by decide +kernel
theorem dX11_marked_4 : decode cX11_marked 4 = .ok (.getfield 33, 3) := by decide +kernel
theorem dX11_marked_7 : decode cX11_marked 7 = .ok (.sipush 919, 3) := by decide +kernel
theorem dX11_marked_10 : decode cX11_marked 10 = .ok (.iaload, 1) := by decide +kernel
theorem dX11_marked_11 : decode cX11_marked 11 = .ok (.if_icmp .ge 255, 3) := by decide +kernel
theorem dX11_marked_14 : decode cX11_marked 14 = .ok (.sipush 920, 3) := by decide +kernel
theorem dX11_marked_17 : decode cX11_marked 17 = .ok (.bipush 6, 2) := by decide +kernel
theorem dX11_marked_19 : decode cX11_marked 19 = .ok (.iload_n 1, 1) := by decide +kernel
theorem dX11_marked_20 : decode cX11_marked 20 = .ok (.imul, 1) := by decide +kernel
theorem dX11_marked_21 : decode cX11_marked 21 = .ok (.iadd, 1) := by decide +kernel
theorem dX11_marked_22 : decode cX11_marked 22 = .ok (.istore_n 2, 1) := by decide +kernel
theorem dX11_marked_23 : decode cX11_marked 23 = .ok (.aload_n 0, 1) := by decide +kernel
theorem dX11_marked_24 : decode cX11_marked 24 = .ok (.getfield 33, 3) := by decide +kernel
theorem dX11_marked_27 : decode cX11_marked 27 = .ok (.iload_n 2, 1) := by decide +kernel
theorem dX11_marked_28 : decode cX11_marked 28 = .ok (.iconst 2, 1) := by decide +kernel
theorem dX11_marked_29 : decode cX11_marked 29 = .ok (.iadd, 1) := by decide +kernel
theorem dX11_marked_30 : decode cX11_marked 30 = .ok (.iaload, 1) := by decide +kernel
theorem dX11_marked_31 : decode cX11_marked 31 = .ok (.iconst 3, 1) := by decide +kernel
theorem dX11_marked_32 : decode cX11_marked 32 = .ok (.if_icmp .ge 6, 3) := by decide +kernel
theorem dX11_marked_35 : decode cX11_marked 35 = .ok (.goto 225, 3) := by decide +kernel
theorem dX11_marked_38 : decode cX11_marked 38 = .ok (.iconst (-1), 1) := by decide +kernel
theorem dX11_marked_39 : decode cX11_marked 39 = .ok (.istore_n 3, 1) := by decide +kernel
theorem dX11_marked_40 : decode cX11_marked 40 = .ok (.iconst 0, 1) := by decide +kernel
theorem dX11_marked_41 : decode cX11_marked 41 = .ok (.istore 4, 2) := by decide +kernel
theorem dX11_marked_43 : decode cX11_marked 43 = .ok (.iload 4, 2) := by decide +kernel
theorem dX11_marked_45 : decode cX11_marked 45 = .ok (.aload_n 0, 1) := by decide +kernel
theorem dX11_marked_46 : decode cX11_marked 46 = .ok (.getfield 33, 3) := by decide +kernel
theorem dX11_marked_49 : decode cX11_marked 49 = .ok (.sipush 919, 3) := by decide +kernel
theorem dX11_marked_52 : decode cX11_marked 52 = .ok (.iaload, 1) := by decide +kernel
theorem dX11_marked_53 : decode cX11_marked 53 = .ok (.if_icmp .ge 64, 3) := by decide +kernel
theorem dX11_marked_56 : decode cX11_marked 56 = .ok (.iload_n 3, 1) := by decide +kernel
theorem dX11_marked_57 : decode cX11_marked 57 = .ok (.aload_n 0, 1) := by decide +kernel
theorem dX11_marked_58 : decode cX11_marked 58 = .ok (.getfield 33, 3) := by decide +kernel
theorem dX11_marked_61 : decode cX11_marked 61 = .ok (.sipush 920, 3) := by decide +kernel
theorem dX11_marked_64 : decode cX11_marked 64 = .ok (.bipush 6, 2) := by decide +kernel
theorem dX11_marked_66 : decode cX11_marked 66 = .ok (.iload 4, 2) := by decide +kernel
theorem dX11_marked_68 : decode cX11_marked 68 = .ok (.imul, 1) := by decide +kernel
theorem dX11_marked_69 : decode cX11_marked 69 = .ok (.iadd, 1) := by decide +kernel
theorem dX11_marked_70 : decode cX11_marked 70 = .ok (.iconst 2, 1) := by decide +kernel
theorem dX11_marked_71 : decode cX11_marked 71 = .ok (.iadd, 1) := by decide +kernel
theorem dX11_marked_72 : decode cX11_marked 72 = .ok (.iaload, 1) := by decide +kernel
theorem dX11_marked_73 : decode cX11_marked 73 = .ok (.iconst 3, 1) := by decide +kernel
theorem dX11_marked_74 : decode cX11_marked 74 = .ok (.if_icmp .lt 34, 3) := by decide +kernel
theorem dX11_marked_77 : decode cX11_marked 77 = .ok (.aload_n 0, 1) := by decide +kernel
theorem dX11_marked_78 : decode cX11_marked 78 = .ok (.getfield 33, 3) := by decide +kernel
theorem dX11_marked_81 : decode cX11_marked 81 = .ok (.sipush 920, 3) := by decide +kernel
theorem dX11_marked_84 : decode cX11_marked 84 = .ok (.bipush 6, 2) := by decide +kernel
theorem dX11_marked_86 : decode cX11_marked 86 = .ok (.iload 4, 2) := by decide +kernel
theorem dX11_marked_88 : decode cX11_marked 88 = .ok (.imul, 1) := by decide +kernel
theorem dX11_marked_89 : decode cX11_marked 89 = .ok (.iadd, 1) := by decide +kernel
theorem dX11_marked_90 : decode cX11_marked 90 = .ok (.iconst 1, 1) := by decide +kernel
theorem dX11_marked_91 : decode cX11_marked 91 = .ok (.iadd, 1) := by decide +kernel
theorem dX11_marked_92 : decode cX11_marked 92 = .ok (.iaload, 1) := by decide +kernel
theorem dX11_marked_93 : decode cX11_marked 93 = .ok (.aload_n 0, 1) := by decide +kernel
theorem dX11_marked_94 : decode cX11_marked 94 = .ok (.getfield 33, 3) := by decide +kernel
theorem dX11_marked_97 : decode cX11_marked 97 = .ok (.iload_n 2, 1) := by decide +kernel
theorem dX11_marked_98 : decode cX11_marked 98 = .ok (.iconst 1, 1) := by decide +kernel
theorem dX11_marked_99 : decode cX11_marked 99 = .ok (.iadd, 1) := by decide +kernel
theorem dX11_marked_100 : decode cX11_marked 100 = .ok (.iaload, 1) := by decide +kernel
theorem dX11_marked_101 : decode cX11_marked 101 = .ok (.if_icmp .ne 7, 3) := by decide +kernel
theorem dX11_marked_104 : decode cX11_marked 104 = .ok (.iconst 1, 1) := by decide +kernel
theorem dX11_marked_105 : decode cX11_marked 105 = .ok (.goto 4, 3) := by decide +kernel
theorem dX11_marked_108 : decode cX11_marked 108 = .ok (.iconst 0, 1) := by decide +kernel
theorem dX11_marked_109 : decode cX11_marked 109 = .ok (.iadd, 1) := by decide +kernel
theorem dX11_marked_110 : decode cX11_marked 110 = .ok (.istore_n 3, 1) := by decide +kernel
theorem dX11_marked_111 : decode cX11_marked 111 = .ok (.iinc 4 1, 3) := by decide +kernel
theorem dX11_marked_114 : decode cX11_marked 114 = .ok (.goto (-71), 3) := by decide +kernel
theorem dX11_marked_117 : decode cX11_marked 117 = .ok (.aload_n 0, 1) := by decide +kernel
theorem dX11_marked_118 : decode cX11_marked 118 = .ok (.getfield 33, 3) := by decide +kernel
theorem dX11_marked_121 : decode cX11_marked 121 = .ok (.bipush 7, 2) := by decide +kernel
theorem dX11_marked_123 : decode cX11_marked 123 = .ok (.iaload, 1) := by decide +kernel
theorem dX11_marked_124 : decode cX11_marked 124 = .ok (.aload_n 0, 1) := by decide +kernel
theorem dX11_marked_125 : decode cX11_marked 125 = .ok (.getfield 33, 3) := by decide +kernel
theorem dX11_marked_128 : decode cX11_marked 128 = .ok (.iload_n 2, 1) := by decide +kernel
theorem dX11_marked_129 : decode cX11_marked 129 = .ok (.iconst 3, 1) := by decide +kernel
theorem dX11_marked_130 : decode cX11_marked 130 = .ok (.iadd, 1) := by decide +kernel
theorem dX11_marked_131 : decode cX11_marked 131 = .ok (.iaload, 1) := by decide +kernel
theorem dX11_marked_132 : decode cX11_marked 132 = .ok (.imul, 1) := by decide +kernel
theorem dX11_marked_133 : decode cX11_marked 133 = .ok (.aload_n 0, 1) := by decide +kernel
theorem dX11_marked_134 : decode cX11_marked 134 = .ok (.getfield 33, 3) := by decide +kernel
theorem dX11_marked_137 : decode cX11_marked 137 = .ok (.iload_n 2, 1) := by decide +kernel
theorem dX11_marked_138 : decode cX11_marked 138 = .ok (.iconst 2, 1) := by decide +kernel
theorem dX11_marked_139 : decode cX11_marked 139 = .ok (.iadd, 1) := by decide +kernel
theorem dX11_marked_140 : decode cX11_marked 140 = .ok (.iaload, 1) := by decide +kernel
theorem dX11_marked_141 : decode cX11_marked 141 = .ok (.iconst 3, 1) := by decide +kernel
theorem dX11_marked_142 : decode cX11_marked 142 = .ok (.if_icmp .ne 15, 3) := by decide +kernel
theorem dX11_marked_145 : decode cX11_marked 145 = .ok (.iconst 2, 1) := by decide +kernel
theorem dX11_marked_146 : decode cX11_marked 146 = .ok (.aload_n 0, 1) := by decide +kernel
theorem dX11_marked_147 : decode cX11_marked 147 = .ok (.getfield 33, 3) := by decide +kernel
theorem dX11_marked_150 : decode cX11_marked 150 = .ok (.bipush 8, 2) := by decide +kernel
theorem dX11_marked_152 : decode cX11_marked 152 = .ok (.iaload, 1) := by decide +kernel
theorem dX11_marked_153 : decode cX11_marked 153 = .ok (.imul, 1) := by decide +kernel
theorem dX11_marked_154 : decode cX11_marked 154 = .ok (.goto 4, 3) := by decide +kernel
theorem dX11_marked_157 : decode cX11_marked 157 = .ok (.iconst 0, 1) := by decide +kernel
theorem dX11_marked_158 : decode cX11_marked 158 = .ok (.iadd, 1) := by decide +kernel
theorem dX11_marked_159 : decode cX11_marked 159 = .ok (.aload_n 0, 1) := by decide +kernel
theorem dX11_marked_160 : decode cX11_marked 160 = .ok (.getfield 33, 3) := by decide +kernel
theorem dX11_marked_163 : decode cX11_marked 163 = .ok (.bipush 9, 2) := by decide +kernel
theorem dX11_marked_165 : decode cX11_marked 165 = .ok (.iaload, 1) := by decide +kernel
theorem dX11_marked_166 : decode cX11_marked 166 = .ok (.iload_n 3, 1) := by decide +kernel
theorem dX11_marked_167 : decode cX11_marked 167 = .ok (.imul, 1) := by decide +kernel
theorem dX11_marked_168 : decode cX11_marked 168 = .ok (.iadd, 1) := by decide +kernel
theorem dX11_marked_169 : decode cX11_marked 169 = .ok (.aload_n 0, 1) := by decide +kernel
theorem dX11_marked_170 : decode cX11_marked 170 = .ok (.getfield 33, 3) := by decide +kernel
theorem dX11_marked_173 : decode cX11_marked 173 = .ok (.iload_n 2, 1) := by decide +kernel
theorem dX11_marked_174 : decode cX11_marked 174 = .ok (.iconst 3, 1) := by decide +kernel
theorem dX11_marked_175 : decode cX11_marked 175 = .ok (.iadd, 1) := by decide +kernel
theorem dX11_marked_176 : decode cX11_marked 176 = .ok (.iaload, 1) := by decide +kernel
theorem dX11_marked_177 : decode cX11_marked 177 = .ok (.bipush 7, 2) := by decide +kernel
theorem dX11_marked_179 : decode cX11_marked 179 = .ok (.if_icmp .lt 13, 3) := by decide +kernel
theorem dX11_marked_182 : decode cX11_marked 182 = .ok (.aload_n 0, 1) := by decide +kernel
theorem dX11_marked_183 : decode cX11_marked 183 = .ok (.getfield 33, 3) := by decide +kernel
theorem dX11_marked_186 : decode cX11_marked 186 = .ok (.bipush 10, 2) := by decide +kernel
theorem dX11_marked_188 : decode cX11_marked 188 = .ok (.iaload, 1) := by decide +kernel
theorem dX11_marked_189 : decode cX11_marked 189 = .ok (.goto 4, 3) := by decide +kernel
theorem dX11_marked_192 : decode cX11_marked 192 = .ok (.iconst 0, 1) := by decide +kernel
theorem dX11_marked_193 : decode cX11_marked 193 = .ok (.isub, 1) := by decide +kernel
theorem dX11_marked_194 : decode cX11_marked 194 = .ok (.istore 4, 2) := by decide +kernel
theorem dX11_marked_196 : decode cX11_marked 196 = .ok (.aload_n 0, 1) := by decide +kernel
theorem dX11_marked_197 : decode cX11_marked 197 = .ok (.getfield 33, 3) := by decide +kernel
theorem dX11_marked_200 : decode cX11_marked 200 = .ok (.iload_n 2, 1) := by decide +kernel
theorem dX11_marked_201 : decode cX11_marked 201 = .ok (.iconst 4, 1) := by decide +kernel
theorem dX11_marked_202 : decode cX11_marked 202 = .ok (.iadd, 1) := by decide +kernel
theorem dX11_marked_203 : decode cX11_marked 203 = .ok (.iload_n 3, 1) := by decide +kernel
theorem dX11_marked_204 : decode cX11_marked 204 = .ok (.iastore, 1) := by decide +kernel
theorem dX11_marked_205 : decode cX11_marked 205 = .ok (.aload_n 0, 1) := by decide +kernel
theorem dX11_marked_206 : decode cX11_marked 206 = .ok (.getfield 33, 3) := by decide +kernel
theorem dX11_marked_209 : decode cX11_marked 209 = .ok (.iload_n 2, 1) := by decide +kernel
theorem dX11_marked_210 : decode cX11_marked 210 = .ok (.iconst 5, 1) := by decide +kernel
theorem dX11_marked_211 : decode cX11_marked 211 = .ok (.iadd, 1) := by decide +kernel
theorem dX11_marked_212 : decode cX11_marked 212 = .ok (.iload 4, 2) := by decide +kernel
theorem dX11_marked_214 : decode cX11_marked 214 = .ok (.aload_n 0, 1) := by decide +kernel
theorem dX11_marked_215 : decode cX11_marked 215 = .ok (.aload_n 0, 1) := by decide +kernel
theorem dX11_marked_216 : decode cX11_marked 216 = .ok (.getfield 33, 3) := by decide +kernel
theorem dX11_marked_219 : decode cX11_marked 219 = .ok (.bipush 11, 2) := by decide +kernel
theorem dX11_marked_221 : decode cX11_marked 221 = .ok (.aload_n 0, 1) := by decide +kernel
theorem dX11_marked_222 : decode cX11_marked 222 = .ok (.getfield 33, 3) := by decide +kernel
theorem dX11_marked_225 : decode cX11_marked 225 = .ok (.iload_n 2, 1) := by decide +kernel
theorem dX11_marked_226 : decode cX11_marked 226 = .ok (.iaload, 1) := by decide +kernel
theorem dX11_marked_227 : decode cX11_marked 227 = .ok (.iadd, 1) := by decide +kernel
theorem dX11_marked_228 : decode cX11_marked 228 = .ok (.iaload, 1) := by decide +kernel
theorem dX11_marked_229 : decode cX11_marked 229 = .ok (.invokevirtual 297, 3) := by decide +kernel
theorem dX11_marked_232 : decode cX11_marked 232 = .ok (.imul, 1) := by decide +kernel
theorem dX11_marked_233 : decode cX11_marked 233 = .ok (.iastore, 1) := by decide +kernel
theorem dX11_marked_234 : decode cX11_marked 234 = .ok (.aload_n 0, 1) := by decide +kernel
theorem dX11_marked_235 : decode cX11_marked 235 = .ok (.getfield 33, 3) := by decide +kernel
theorem dX11_marked_238 : decode cX11_marked 238 = .ok (.sipush 467, 3) := by decide +kernel
theorem dX11_marked_241 : decode cX11_marked 241 = .ok (.aload_n 0, 1) := by decide +kernel
theorem dX11_marked_242 : decode cX11_marked 242 = .ok (.getfield 33, 3) := by decide +kernel
theorem dX11_marked_245 : decode cX11_marked 245 = .ok (.iload_n 2, 1) := by decide +kernel
theorem dX11_marked_246 : decode cX11_marked 246 = .ok (.iaload, 1) := by decide +kernel
theorem dX11_marked_247 : decode cX11_marked 247 = .ok (.iadd, 1) := by decide +kernel
theorem dX11_marked_248 : decode cX11_marked 248 = .ok (.dup2, 1) := by decide +kernel
theorem dX11_marked_249 : decode cX11_marked 249 = .ok (.iaload, 1) := by decide +kernel
theorem dX11_marked_250 : decode cX11_marked 250 = .ok (.aload_n 0, 1) := by decide +kernel
theorem dX11_marked_251 : decode cX11_marked 251 = .ok (.getfield 33, 3) := by decide +kernel
theorem dX11_marked_254 : decode cX11_marked 254 = .ok (.iload_n 2, 1) := by decide +kernel
theorem dX11_marked_255 : decode cX11_marked 255 = .ok (.iconst 5, 1) := by decide +kernel
theorem dX11_marked_256 : decode cX11_marked 256 = .ok (.iadd, 1) := by decide +kernel
theorem dX11_marked_257 : decode cX11_marked 257 = .ok (.iaload, 1) := by decide +kernel
theorem dX11_marked_258 : decode cX11_marked 258 = .ok (.iadd, 1) := by decide +kernel
theorem dX11_marked_259 : decode cX11_marked 259 = .ok (.iastore, 1) := by decide +kernel
theorem dX11_marked_260 : decode cX11_marked 260 = .ok (.iinc 1 1, 3) := by decide +kernel
theorem dX11_marked_263 : decode cX11_marked 263 = .ok (.goto (-261), 3) := by decide +kernel
theorem dX11_marked_266 : decode cX11_marked 266 = .ok (.return_, 1) := by decide +kernel
theorem dX11_drains_0 : decode cX11_drains 0 = .ok (.aload_n 0, 1) := by decide +kernel
theorem dX11_drains_1 : decode cX11_drains 1 = .ok (.getfield 33, 3) := by decide +kernel
theorem dX11_drains_4 : decode cX11_drains 4 = .ok (.sipush 714, 3) := by decide +kernel
theorem dX11_drains_7 : decode cX11_drains 7 = .ok (.iload_n 1, 1) := by decide +kernel
theorem dX11_drains_8 : decode cX11_drains 8 = .ok (.iadd, 1) := by decide +kernel
theorem dX11_drains_9 : decode cX11_drains 9 = .ok (.dup2, 1) := by decide +kernel
theorem dX11_drains_10 : decode cX11_drains 10 = .ok (.iaload, 1) := by decide +kernel
theorem dX11_drains_11 : decode cX11_drains 11 = .ok (.aload_n 0, 1) := by decide +kernel
theorem dX11_drains_12 : decode cX11_drains 12 = .ok (.getfield 33, 3) := by decide +kernel
theorem dX11_drains_15 : decode cX11_drains 15 = .ok (.sipush 714, 3) := by decide +kernel
theorem dX11_drains_18 : decode cX11_drains 18 = .ok (.iload_n 1, 1) := by decide +kernel
theorem dX11_drains_19 : decode cX11_drains 19 = .ok (.iadd, 1) := by decide +kernel
theorem dX11_drains_20 : decode cX11_drains 20 = .ok (.iaload, 1) := by decide +kernel
theorem dX11_drains_21 : decode cX11_drains 21 = .ok (.ifCond .le 7, 3) := by decide +kernel
theorem dX11_drains_24 : decode cX11_drains 24 = .ok (.iconst 1, 1) := by decide +kernel
theorem dX11_drains_25 : decode cX11_drains 25 = .ok (.goto 4, 3) := by decide +kernel
theorem dX11_drains_28 : decode cX11_drains 28 = .ok (.iconst 0, 1) := by decide +kernel
theorem dX11_drains_29 : decode cX11_drains 29 = .ok (.isub, 1) := by decide +kernel
theorem dX11_drains_30 : decode cX11_drains 30 = .ok (.iastore, 1) := by decide +kernel
theorem dX11_drains_31 : decode cX11_drains 31 = .ok (.return_, 1) := by decide +kernel
